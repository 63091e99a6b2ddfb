theorem M10 {σ : St} {K N A pt x : Int32} {l : List Int32} (h : AM σ K N A pt l) (hl : l.length < 30) : ∃ τ, fM_plainRings σ x = some (x + N, τ) ∧ AM τ K N A pt (l ++ [10]) ∧ FX σ τ := by
  obtain ⟨τ, r1, r2, r3⟩ := M_note (b := 10) h hl
  refine ⟨τ, ?_, r2, r3⟩
  unfold fM_plainRings
  rw [r1, bd_some, r2.1.2.1]
theorem M30 {σ : St} {K N A pt x : Int32} {l : List Int32} (h : AM σ K N A pt l) (hl : l.length < 29) : ∃ τ, fM_crownRings σ x = some ((x + N) * 3, τ) ∧ AM τ K N A pt (l ++ [30, 10]) ∧ FX σ τ := by
  obtain ⟨τ, r1, r2, r3⟩ := M_note (b := 30) h (by omega)
  obtain ⟨υ, s1, s2, s3⟩ := M10 (x := x) r2 (by rw [len_s]; omega)
  refine ⟨υ, ?_, by rw [List.append_assoc] at s2; exact s2, FX.tr r3 s3⟩
  unfold fM_crownRings
  rw [r1, bd_some, s1, bi_some]
theorem M_rg {k : Nat} (hk : k < 6) {σ : St} {N A pt x : Int32} {l : List Int32} (h : AM σ (nI k) N A pt l) (hl : l.length < 28) : ∃ τ, fM_ringsIt σ x = some (rv k N x, τ) ∧ AM τ (nI k) N A pt (l ++ rt k) ∧ FX σ τ := by
  have e := h.1.1
  have c10 : k = 0 ∨ k = 1 ∨ k = 5 → ∃ τ, fM_ringsIt σ x = some (x + N, τ) ∧ AM τ (nI k) N A pt (l ++ [10]) ∧ FX σ τ := by
    intro hk2
    obtain ⟨υ, s1, s2, s3⟩ := M10 (x := x) h (by omega)
    refine ⟨υ, ?_, s2, s3⟩
    unfold fM_ringsIt
    rw [e, if_neg (fun z => by have := (nI_eq (b := 2) (by omega) (by omega)).mp z; omega), if_neg (fun z => by have := (nI_eq (b := 3) (by omega) (by omega)).mp z; omega), if_neg (fun z => by have := (nI_eq (b := 4) (by omega) (by omega)).mp z; omega), s1, bi_some]
  rcases kd6 hk with rfl | rfl | rfl | rfl | rfl | rfl
  · exact c10 (by omega)
  · exact c10 (by omega)
  · obtain ⟨υ, s1, s2, s3⟩ := M30 (x := x) h (by omega)
    refine ⟨υ, ?_, s2, s3⟩
    unfold fM_ringsIt
    rw [e, if_pos (by decide), s1, bi_some]
    rfl
  · obtain ⟨τ, r1, r2, r3⟩ := M_note (b := 51) h (by omega)
    obtain ⟨υ, s1, s2, s3⟩ := M10 (x := x) r2 (by rw [len_s]; omega)
    refine ⟨υ, ?_, by rw [List.append_assoc] at s2; exact s2, FX.tr r3 s3⟩
    unfold fM_ringsIt
    rw [e, if_neg (by decide), if_pos (by decide), r1, bd_some, s1, bi_some, s2.1.2.1]
    rfl
  · obtain ⟨τ, r1, r2, r3⟩ := M_note (b := 40) h (by omega)
    obtain ⟨υ, s1, s2, s3⟩ := M30 (x := x) r2 (by rw [len_s]; omega)
    refine ⟨υ, ?_, by rw [List.append_assoc] at s2; exact s2, FX.tr r3 s3⟩
    unfold fM_ringsIt
    rw [e, if_neg (by decide), if_neg (by decide), if_pos (by decide), r1, bd_some, s1, bi_some]
    rfl
  · exact c10 (by omega)
theorem M11 {k : Nat} (hk : k < 6) {σ : St} {N A pt x : Int32} {l : List Int32} (h : AM σ (nI k) N A pt l) (hl : l.length < 27) : ∃ τ, fM_plainWeighs σ x = some (rv k N x * 2, τ) ∧ AM τ (nI k) N A pt (l ++ (11 :: rt k)) ∧ FX σ τ := by
  obtain ⟨τ, r1, r2, r3⟩ := M_note (b := 11) h (by omega)
  obtain ⟨υ, s1, s2, s3⟩ := M_rg hk (x := x) r2 (by rw [len_s]; omega)
  refine ⟨υ, ?_, by rw [List.append_assoc] at s2; exact s2, FX.tr r3 s3⟩
  unfold fM_plainWeighs
  rw [r1, bd_some, s1, bi_some]
theorem M_wt {k : Nat} (hk : k < 6) {σ : St} {N A pt x : Int32} {l : List Int32} (h : AM σ (nI k) N A pt l) (hl : l.length < 20) : ∃ τ, fM_weighsIt σ x = some (wv k N A x, τ) ∧ AM τ (nI k) N A pt (l ++ wt k) ∧ FX σ τ := by
  have e := h.1.1
  have c11 : k = 0 ∨ k = 2 ∨ k = 5 → ∃ τ, fM_weighsIt σ x = some (rv k N x * 2, τ) ∧ AM τ (nI k) N A pt (l ++ 11 :: rt k) ∧ FX σ τ := by
    intro hk2
    obtain ⟨υ, s1, s2, s3⟩ := M11 hk (x := x) h (by omega)
    refine ⟨υ, ?_, s2, s3⟩
    unfold fM_weighsIt
    rw [e, if_neg (fun z => by have := (nI_eq (b := 1) (by omega) (by omega)).mp z; omega), if_neg (fun z => by have := (nI_eq (b := 3) (by omega) (by omega)).mp z; omega), if_neg (fun z => by have := (nI_eq (b := 4) (by omega) (by omega)).mp z; omega), s1, bi_some]
  have c20 : ∃ τ, fM_weighsIt_16 σ x = some (rv k N x * 2 - A, τ) ∧ AM τ (nI k) N A pt (l ++ 20 :: 11 :: rt k) ∧ FX σ τ := by
    obtain ⟨τ, r1, r2, r3⟩ := M_note (b := 20) h (by omega)
    obtain ⟨υ, s1, s2, s3⟩ := M11 hk (x := x) r2 (by rw [len_s]; omega)
    refine ⟨υ, ?_, by rw [List.append_assoc] at s2; exact s2, FX.tr r3 s3⟩
    unfold fM_weighsIt_16
    rw [r1, bd_some, s1, bi_some, s2.1.2.2]
  rcases kd6 hk with rfl | rfl | rfl | rfl | rfl | rfl
  · exact c11 (by omega)
  · unfold fM_weighsIt
    rw [e, if_pos (by decide)]
    exact c20
  · exact c11 (by omega)
  · unfold fM_weighsIt
    rw [e, if_neg (by decide), if_pos (by decide)]
    exact c20
  · obtain ⟨τ, r1, r2, r3⟩ := M_note (b := 41) h (by omega)
    obtain ⟨υ, s1, s2, s3⟩ := M11 (k := 4) (by omega) (x := x) r2 (by rw [len_s]; omega)
    obtain ⟨ω, u1, u2, u3⟩ := M_rg (k := 4) (by omega) (x := N) s2 (by rw [List.length_append, len_s]; show l.length + 1 + 4 < 28; omega)
    refine ⟨ω, ?_, ?_, FX.tr r3 (FX.tr s3 u3)⟩
    · unfold fM_weighsIt
      rw [e, if_neg (by decide), if_neg (by decide), if_pos (by decide), r1, bd_some, s1, bi_some, s2.1.2.1, u1, bi_some]
      rfl
    · rw [List.append_assoc, List.append_assoc] at u2
      exact u2
  · exact c11 (by omega)
theorem M_p1 {σ : St} {K N A : Int32} {l : List Int32} (h : AM σ K N A 0 l) : AM (sI σ 44 38 1) K N A 1 l := by
  obtain ⟨⟨h1, h2, h3⟩, h4, h5, h6⟩ := h
  exact ⟨⟨h1, h2, h3⟩, gI_s, h5, h6⟩
theorem M12 {σ : St} {K N A x : Int32} {l : List Int32} (hz : A - N = 0 ↔ A = N) (h : AM σ K N A 0 l) (hl : l.length < 30) : ∃ τ, fM_plainShares σ x = some (ps N A x, τ) ∧ AM τ K N A (pp N A) (l ++ [12]) ∧ FX σ τ := by
  obtain ⟨τ, r1, r2, r3⟩ := M_note (b := 12) h hl
  unfold fM_plainShares ps pp
  rw [r1, bd_some, r2.1.2.1, r2.1.2.2]
  by_cases z : A - N = 0
  · rw [if_pos (hz.mp z), if_pos z, if_pos z, nm_def]
    exact ⟨_, rfl, M_p1 r2, FX.tr r3 (FX.rf.s (by omega))⟩
  · rw [if_neg (fun w => z (hz.mpr w)), if_pos z, if_neg z, if_neg z]
    exact ⟨_, rfl, r2, r3⟩
theorem M_sh {k : Nat} (hk : k < 6) {σ : St} {N A x : Int32} {l : List Int32} (hz : A - N = 0 ↔ A = N) (h : AM σ (nI k) N A 0 l) (hl : l.length < 20) : ∃ τ, fM_sharesIt σ x = some (sv k N A x, τ) ∧ AM τ (nI k) N A (pp N A) (l ++ stt k N A) ∧ FX σ τ := by
  have e := h.1.1
  have c12 : k = 0 ∨ k = 1 ∨ k = 2 ∨ k = 4 → ∃ τ, fM_sharesIt σ x = some (ps N A x, τ) ∧ AM τ (nI k) N A (pp N A) (l ++ [12]) ∧ FX σ τ := by
    intro hk2
    obtain ⟨υ, s1, s2, s3⟩ := M12 (x := x) hz h (by omega)
    refine ⟨υ, ?_, s2, s3⟩
    unfold fM_sharesIt
    rw [e, if_neg (fun z => by have := (nI_eq (b := 3) (by omega) (by omega)).mp z; omega), if_neg (fun z => by have := (nI_eq (b := 5) (by omega) (by omega)).mp z; omega), s1, bi_some]
  rcases kd6 hk with rfl | rfl | rfl | rfl | rfl | rfl
  · exact c12 (by omega)
  · exact c12 (by omega)
  · exact c12 (by omega)
  · obtain ⟨τ, r1, r2, r3⟩ := M_note (b := 50) h (by omega)
    obtain ⟨υ, s1, s2, s3⟩ := M12 (x := x + 2) hz r2 (by rw [len_s]; omega)
    refine ⟨υ, ?_, by rw [List.append_assoc] at s2; exact s2, FX.tr r3 s3⟩
    unfold fM_sharesIt
    rw [e, if_pos (by decide), r1, bd_some, s1, bi_some]
    rfl
  · exact c12 (by omega)
  · obtain ⟨τ, r1, r2, r3⟩ := M_note (b := 61) h (by omega)
    obtain ⟨υ, s1, s2, s3⟩ := M12 (x := x) hz r2 (by rw [len_s]; omega)
    unfold fM_sharesIt
    rw [e, if_neg (by decide), if_pos (by decide), r1, bd_some, s1, bi_some, s2.2.1]
    by_cases z : A - N = 0
    · have hp : pp N A = 1 := if_pos z
      have e5 : sv 5 N A x = 0 := by show (if A - N = 0 then (0 : Int32) else _) = 0; rw [if_pos z]
      have e6 : stt 5 N A = [61, 12] := by show (if A - N = 0 then [(61 : Int32), 12] else _) = _; rw [if_pos z]
      rw [e5, e6, hp, if_neg one_ne]
      rw [List.append_assoc, hp] at s2
      exact ⟨υ, rfl, s2, FX.tr r3 s3⟩
    · have hp : pp N A = 0 := if_neg z
      rw [hp] at s2
      obtain ⟨ω, u1, u2, u3⟩ := M_rg (k := 5) (by omega) (x := A) s2 (by rw [len_s, len_s]; omega)
      have e5 : sv 5 N A x = ps N A x + rv 5 N A := by show (if A - N = 0 then (0 : Int32) else _) = _; rw [if_neg z]
      have e6 : stt 5 N A = [61, 12, 10] := by show (if A - N = 0 then [(61 : Int32), 12] else _) = _; rw [if_neg z]
      rw [e5, e6, hp, if_pos rfl, s2.1.2.2, u1, bi_some]
      rw [List.append_assoc, List.append_assoc] at u2
      exact ⟨ω, rfl, u2, FX.tr r3 (FX.tr s3 u3)⟩
theorem M13 {k : Nat} (hk : k < 6) {σ : St} {N A pt x : Int32} {l : List Int32} (h : AM σ (nI k) N A pt l) (hl : l.length < 10) : ∃ τ, fM_plainTells σ x = some (wv k N A x ^^^ A, τ) ∧ AM τ (nI k) N A pt (l ++ (13 :: wt k)) ∧ FX σ τ := by
  obtain ⟨τ, r1, r2, r3⟩ := M_note (b := 13) h (by omega)
  obtain ⟨υ, s1, s2, s3⟩ := M_wt hk (x := x) r2 (by rw [len_s]; omega)
  refine ⟨υ, ?_, by rw [List.append_assoc] at s2; exact s2, FX.tr r3 s3⟩
  unfold fM_plainTells
  rw [r1, bd_some, s1, bi_some, s2.1.2.2]
theorem M_tl {k : Nat} (hk : k < 6) {σ : St} {N A x : Int32} {l : List Int32} (hz : A - N = 0 ↔ A = N) (h : AM σ (nI k) N A 0 l) (hl : l.length < 5) : ∃ τ, fM_tellsIt σ x = some (tv k N A x, τ) ∧ AM τ (nI k) N A (tp k N A) (l ++ tt k N A) ∧ FX σ τ := by
  have e := h.1.1
  have c13 : k = 0 ∨ k = 1 ∨ k = 3 → ∃ τ, fM_tellsIt σ x = some (wv k N A x ^^^ A, τ) ∧ AM τ (nI k) N A 0 (l ++ 13 :: wt k) ∧ FX σ τ := by
    intro hk2
    obtain ⟨υ, s1, s2, s3⟩ := M13 hk (x := x) h (by omega)
    refine ⟨υ, ?_, s2, s3⟩
    unfold fM_tellsIt
    rw [e, if_neg (fun z => by have := (nI_eq (b := 2) (by omega) (by omega)).mp z; omega), if_neg (fun z => by have := (nI_eq (b := 4) (by omega) (by omega)).mp z; omega), if_neg (fun z => by have := (nI_eq (b := 5) (by omega) (by omega)).mp z; omega), s1, bi_some]
  have c31 : ∃ τ, fM_tellsIt_16 σ x = some ((wv k N A x ^^^ A) + sv k N A N, τ) ∧ AM τ (nI k) N A (pp N A) (l ++ 31 :: 13 :: (wt k ++ stt k N A)) ∧ FX σ τ := by
    obtain ⟨τ, r1, r2, r3⟩ := M_note (b := 31) h (by omega)
    obtain ⟨υ, s1, s2, s3⟩ := M13 hk (x := x) r2 (by rw [len_s]; omega)
    have := wt_8 k
    obtain ⟨ω, u1, u2, u3⟩ := M_sh hk (x := N) hz s2 (by rw [List.length_append, len_s, List.length_cons]; omega)
    refine ⟨ω, ?_, ?_, FX.tr r3 (FX.tr s3 u3)⟩
    · unfold fM_tellsIt_16
      rw [r1, bd_some, s1, bi_some, s2.1.2.1, u1, bi_some]
    · rw [List.append_assoc, List.append_assoc] at u2
      exact u2
  rcases kd6 hk with rfl | rfl | rfl | rfl | rfl | rfl
  · exact c13 (by omega)
  · exact c13 (by omega)
  · unfold fM_tellsIt
    rw [e, if_pos (by decide)]
    exact c31
  · exact c13 (by omega)
  · unfold fM_tellsIt
    rw [e, if_neg (by decide), if_pos (by decide)]
    exact c31
  · obtain ⟨τ, r1, r2, r3⟩ := M_note (b := 60) h (by omega)
    obtain ⟨υ, s1, s2, s3⟩ := M13 (k := 5) (by omega) (x := x) r2 (by rw [len_s]; omega)
    refine ⟨υ, ?_, by rw [List.append_assoc] at s2; exact s2, FX.tr r3 s3⟩
    unfold fM_tellsIt
    rw [e, if_neg (by decide), if_neg (by decide), if_pos (by decide), r1, bd_some, s1, bi_some]
    rfl
/-- an act: answer, parted, trace -/
def av (k b : Nat) (N A x : Int32) : Int32 := if b = 0 then rv k N x else if b = 1 then wv k N A x else if b = 2 then sv k N A x else tv k N A x
def ap (k b : Nat) (N A : Int32) : Int32 := if b = 0 then 0 else if b = 1 then 0 else if b = 2 then pp N A else tp k N A
def atr (k b : Nat) (N A : Int32) : List Int32 := if b = 0 then rt k else if b = 1 then wt k else if b = 2 then stt k N A else tt k N A
theorem atr_30 (k b : Nat) (N A : Int32) : (atr k b N A).length ≤ 30 := by
  have h1 := rt_3 k
  have h2 := wt_8 k
  have h3 : (stt k N A).length ≤ 3 := by
    unfold stt
    repeat' split
    all_goals simp
  have h4 : (tt k N A).length ≤ 14 := by
    unfold tt
    repeat' split
    · rw [List.length_cons, List.length_cons, List.length_append]; omega
    · rw [List.length_cons, List.length_cons]; omega
    · rw [List.length_cons]; omega
  unfold atr
  repeat' split
  all_goals omega
theorem E_act0 {k b : Nat} (hk : k < 6) (hb : b < 4) {σ : St} {N A x : Int32} (h : AE σ (nI k) N A 0 []) : ∃ τ, fA_perform 30 σ (nI k) (nI b) x 0 = some (av k b N A x, τ) ∧ AE τ (nI k) N A (ap k b N A) (atr k b N A) ∧ FE σ τ := by
  rcases (show b = 0 ∨ b = 1 ∨ b = 2 ∨ b = 3 by omega) with rfl | rfl | rfl | rfl
  · exact E_rg hk (m := 27) (d := 0) (x := x) h (by decide) (by omega)
  · exact E_wt hk (m := 25) (d := 0) (x := x) h (by decide) (by omega)
  · exact E_sh hk (m := 25) (d := 0) (x := x) h (by decide) (by omega)
  · exact E_tl hk (m := 23) (d := 0) (x := x) h (by decide) (by omega)
theorem st_act : St_act Inv := by
  intro σ a1 a2 a3 hI
  have hb := hI.isT
  have ht := hI.t
  have hI0 := hI
  obtain ⟨W, hE, hM, hG⟩ := hI.w
  have g2 := hG.1.2
  obtain ⟨-, -, hK, hTp, hRw, hSh, hSf, -⟩ := hI
  have fin : ∀ (σ1 σ2 : St) (l : List Int32), FE σ σ1 → FX σ1 σ2 → l.length ≤ 30 → gI σ1 31 1 = nI l.length → (∀ j, j < l.length → l[j]? = some (gI σ1 32 j)) → gI σ2 44 37 = nI l.length → (∀ j, j < l.length → l[j]? = some (gI σ2 64 j)) → Inv σ2 := by
    intro σ1 σ2 l f1 f2 hl t1 t2 t3 t4
    have fr : ∀ a b, ¬ a = 31 → ¬ a = 32 → ¬ (a = 44 ∧ ((33 ≤ b ∧ b ≤ 35) ∨ b = 37 ∨ b = 38)) → ¬ a = 64 → gI σ2 a b = gI σ a b := fun a b u1 u2 u3 u4 => (f2.1 a b u3 u4).trans (f1.1 a b u1 u2)
    refine hI0.rs (fun a b h => fr a b (by omega) (by omega) (by omega) (by omega)) (fun j => (f2.2.2 j).trans (f1.2.2 j)) ⟨hK.c (fun a b h => fr a b (by omega) (by omega) (by omega) (by omega)), hTp.c (fun a b h => fr a b (by omega) (by omega) (by omega) (by omega)), hRw.c (fun a b h => fr a b (by omega) (by omega) (by omega) (by omega)), hSh.c (fun a b h => fr a b (by omega) (by omega) (by omega) (by omega)) (fun j => (f2.2.1 60 j).trans (f1.2.1 60 j)), hSf.c (fun a b h => fr a b (by omega) (by omega) (by omega) (by omega)), l.length, hl, ?_, t3, fun i hi => ?_⟩
    · rw [f2.1 31 1 (by omega) (by omega)]; exact t1
    · rw [f2.1 32 i (by omega) (by omega)]
      exact Option.some.inj ((t2 i hi).symm.trans (t4 i hi))
  have no : ∃ (r : Int32) (σ1 σ2 : St), some ((0 : Int32), sI σ 31 1 0) = some (r, σ1) ∧ some ((0 : Int32), sI σ1 44 37 0) = some (r, σ2) ∧ Inv σ2 := ⟨0, _, _, rfl, rfl, fin _ _ [] (FE.rf.s (by omega)) (FX.rf.s (by omega)) (by decide) gI_s (fun j hj => absurd hj (Nat.not_lt_zero j)) gI_s (fun j hj => absurd hj (Nat.not_lt_zero j))⟩
  have f1 : FE σ (sI σ 31 1 0) := FE.rf.s (by omega)
  unfold fE_act fM_act fM_act_21
  simp only [nm_def]
  rcases (sh_arg a1).symm with ⟨-, h1, h2⟩ | ⟨s, hs, rfl, -, h1, h2⟩
  · obtain ⟨r, σ1, σ2, n1, n2, n3⟩ := no
    refine ⟨r, σ1, σ2, by rw [h1, if_pos rfl]; exact n1, ?_, n3⟩
    rw [h2, if_pos rfl]
    by_cases z : fM_in a2 0 3 = 0
    · rw [if_pos z]; exact n2
    · rw [if_neg z, if_pos (by decide)]; exact n2
  have i4 : ib (nI s) 4 = true := ib_nI hs (by omega)
  rw [h1, if_neg one_ne]
  have hE1 : TE (sI σ 31 1 0) (gR σ 0) W := hE.f (fun a b u1 u2 => gI_o (by omega))
  have hM1 : TM (sI (sI σ 31 1 0) 44 37 0) W := hM.f (fun a b u => by rw [gI_sI, if_neg (by omega), gI_o (by omega)])
  have hM0 : TM (sI σ 31 1 0) W := hM.f (fun a b u => by rw [gI_o (by omega)])
  have hSf1 : Sf (sI σ 31 1 0) := hSf.c (fun a b u => gI_o (by omega))
  have kon : ∀ τ, fM_kindOn (sI (sI σ 31 1 0) 44 37 0) τ = fM_kindOn (sI σ 31 1 0) τ := fun τ => rfl
  rcases (in_03 a2).symm with ho | ⟨hin, b, hb4, rfl⟩
  · have h3 := in_zero ho
    rw [show (0 : Int32).toInt = 0 from rfl, show (3 : Int32).toInt = 3 from rfl] at h3
    obtain ⟨r, σ1, σ2, n1, n2, n3⟩ := no
    have kk : ∃ q, fM_kindOn (sI σ 31 1 0) (nI s) = some q := by
      rcases on_sh (σ := sI σ 31 1 0) ht rfl hE1 hM0 hG hs hSf1 with ⟨c, -, -, -, -, -, e5⟩ | ⟨-, e5, -⟩ | ⟨-, -, -, -, -, e5⟩
      · exact ⟨_, e5⟩
      · exact ⟨_, e5⟩
      · exact ⟨_, e5⟩
    obtain ⟨q, hq⟩ := kk
    refine ⟨r, σ1, σ2, ?_, ?_, n3⟩
    · by_cases g : a2 < 0
      · rw [if_pos g]; exact n1
      · rw [if_neg g, if_neg]
        · exact n1
        · rw [lt_i, show (0 : Int32).toInt = 0 from rfl] at g
          rw [le_i, show (3 : Int32).toInt = 3 from rfl]
          omega
    · cases n1
      rw [h2, if_neg one_ne, kon, hq, bd_some, if_pos ho]
      exact n2
  rw [if_neg (nI_pos (by omega)), if_pos (show nI b ≤ 3 from nI_le (b := 3) (by omega) (by omega))]
  rcases on_sh (σ := sI σ 31 1 0) ht rfl hE1 hM0 hG hs hSf1 with ⟨c, hc, e1, e2, e3, e4, e5⟩ | ⟨e4, e5, -⟩ | ⟨-, -, -, -, e4, e5⟩
  rotate_left
  · obtain ⟨r, σ1, σ2, n1, n2, n3⟩ := no
    refine ⟨r, σ1, σ2, by rw [e4, bd_some, if_neg (by decide)]; exact n1, ?_, n3⟩
    cases n1
    rw [h2, if_neg one_ne, kon, e5, bd_some, hin, if_neg one_ne, if_pos (by decide)]
    exact n2
  · obtain ⟨r, σ1, σ2, n1, n2, n3⟩ := no
    refine ⟨r, σ1, σ2, by rw [e4, bd_some, if_neg (by decide)]; exact n1, ?_, n3⟩
    cases n1
    rw [h2, if_neg one_ne, kon, e5, bd_some, hin, if_neg one_ne, if_pos (by decide)]
    exact n2
  obtain ⟨k1, ⟨k2, k3⟩, -⟩ := hG.2.2.2 c hc
  have hz : nI (wav W c) - nI c = 0 ↔ nI (wav W c) = nI c := by
    rw [eq_i, pk_sub_toInt (by omega) (by omega), nI_eq (by omega) (by omega), show (0 : Int32).toInt = 0 from rfl]
    omega
  generalize hk : wkd W c = k at *
  generalize ha : wav W c = a at *
  obtain ⟨x1, x2, -, -⟩ := hE1.2.2.2.2 c hc
  rw [hk] at x1
  rw [ha] at x2
  generalize hσ5 : sI (sI (sI (sI (sI (sI σ 31 1 0) 31 2 (nI k)) 31 3 (nI c)) 31 4 (nI a)) 31 1 0) 31 5 0 = σ5
  have a5 : AE σ5 (nI k) (nI c) (nI a) 0 [] := by
    rw [← hσ5]
    exact ⟨⟨rfl, rfl, rfl⟩, rfl, rfl, fun j hj => absurd hj (Nat.not_lt_zero j)⟩
  have f5 : FE σ σ5 := by
    rw [← hσ5]
    exact (((((f1.s (by omega)).s (by omega)).s (by omega)).s (by omega)).s (by omega))
  obtain ⟨σ1, r1, r2, r3⟩ := E_act0 (x := a3) k1 hb4 a5
  have f6 := FE.tr f5 r3
  have hM2 : TM (sI σ1 44 37 0) W := hM.f (fun a b u => by rw [gI_sI, if_neg (by omega), f6.1 a b (by omega) (by omega)])
  have hM3 : TM σ1 W := hM.f (fun a b u => by rw [f6.1 a b (by omega) (by omega)])
  have kon1 : fM_kindOn (sI σ1 44 37 0) (nI s) = some (nI k) := by
    rw [← e5]
    unfold fM_kindOn fM_isCoin fM_its
    rw [if_pos i4, if_pos i4, if_pos i4, if_pos i4, if_pos i4, if_pos i4, if_pos i4, if_pos i4, ix_nI (by omega)]
    have g61 : ∀ j, gI (sI σ1 44 37 0) 61 j = gI (sI σ 31 1 0) 61 j := fun j => by rw [gI_o (by decide), gI_o (by decide), f6.1 61 j (by omega) (by omega)]
    have g62 : ∀ j, gI (sI σ1 44 37 0) 62 j = gI (sI σ 31 1 0) 62 j := fun j => by rw [gI_o (by decide), gI_o (by decide), f6.1 62 j (by omega) (by omega)]
    have g48 : ∀ j, gI (sI σ1 44 37 0) 48 j = gI (sI σ 31 1 0) 48 j := fun j => by rw [gI_o (by decide), gI_o (by decide), f6.1 48 j (by omega) (by omega)]
    have g44 : gI (sI σ1 44 37 0) 44 4 = gI (sI σ 31 1 0) 44 4 := by rw [gI_p (by decide), gI_o (by decide), f6.1 44 4 (by omega) (by omega)]
    rw [g61, g62, g48, g44]
  have n62 : gI (sI (sI σ1 44 37 0) 44 33 (nI k)) 62 s = nI c := by
    rw [gI_o (by decide), gI_o (by decide), f6.1 62 s (by omega) (by omega), ← e2, gI_o (by decide)]
  generalize hτ1 : sI (sI (sI σ1 44 37 0) 44 33 (nI k)) 44 34 (nI c) = τ1
  have hMt : TM τ1 W := by rw [← hτ1]; exact hM2.f (fun a b u => by rw [gI_sI, if_neg (by omega), gI_sI, if_neg (by omega)])
  have it1 : fM_its τ1 (nI c) 1 = some (nI a) := by rw [(M_its hMt hG hc).2.1, ha]
  have n34 : gI τ1 44 34 = nI c := by rw [← hτ1, gI_s]
  generalize hτ2 : sI (sI τ1 44 35 (nI a)) 44 38 0 = τ2
  have am : AM τ2 (nI k) (nI c) (nI a) 0 [] := by
    rw [← hτ2, ← hτ1]
    exact ⟨⟨rfl, rfl, rfl⟩, rfl, rfl, fun j hj => absurd hj (Nat.not_lt_zero j)⟩
  have fx : FX σ1 τ2 := by
    rw [← hτ2, ← hτ1]
    exact ((((FX.rf.s (by omega)).s (by omega)).s (by omega)).s (by omega)).s (by omega)
  have hin5 : ¬ fM_in (nI k) 0 5 = 0 := by
    rcases kd6 k1 with rfl | rfl | rfl | rfl | rfl | rfl <;> decide
  have EEq : (fE_coinOnShelf (sI σ 31 1 0) (nI s)).bind (fun q5 => if 0 ≤ q5 then (if isTb (gR (sI σ 31 1 0) 0) = true then (if ib q5 6 = true then (if isTb (gR (sI σ 31 1 0) 0) = true then (if ib q5 6 = true then bi (fA_start (sI σ 31 1 0) (gI (sI σ 31 1 0) ((gR (sI σ 31 1 0) 0) + 4) (ix q5)) q5 (gI (sI σ 31 1 0) ((gR (sI σ 31 1 0) 0) + 5) (ix q5)) (nI b) a3) (fun q13 σ13 => some (q13, σ13)) else none) else none) else none) else none) else some (0, sI σ 31 1 0)) = some (if ap k b (nI c) (nI a) = 0 then av k b (nI c) (nI a) a3 else -15, σ1) := by
    rw [e4, bd_some, if_pos (nI_pos' (by omega)), if_pos (show isTb (gR (sI σ 31 1 0) 0) = true from hb), if_pos (ib_nI (by omega) (by omega)), if_pos (show isTb (gR (sI σ 31 1 0) 0) = true from hb), if_pos (ib_nI (by omega) (by omega)), ix_nI (by omega), gR_sI, x1, x2]
    unfold fA_start
    rw [nm_def, nm_def, nm_def, nm_def, nm_def, hσ5, r1, bi_some, r2.2.1, bi_some]
  refine ⟨if ap k b (nI c) (nI a) = 0 then av k b (nI c) (nI a) a3 else -15, σ1, ?_⟩
  have MEq : ∃ σ2, (if b = 0 then bi (fM_ringsIt τ2 a3) (fun q σ => fM_act_121 σ q) else if b = 1 then bi (fM_weighsIt τ2 a3) (fun q σ => fM_act_121 σ q) else if b = 2 then bi (fM_sharesIt τ2 a3) (fun q σ => fM_act_121 σ q) else bi (fM_tellsIt τ2 a3) (fun q σ => fM_act_121 σ q)) = some (if ap k b (nI c) (nI a) = 0 then av k b (nI c) (nI a) a3 else -15, σ2) ∧ AM σ2 (nI k) (nI c) (nI a) (ap k b (nI c) (nI a)) (atr k b (nI c) (nI a)) ∧ FX τ2 σ2 := by
    unfold fM_act_121
    rcases (show b = 0 ∨ b = 1 ∨ b = 2 ∨ b = 3 by omega) with rfl | rfl | rfl | rfl
    · obtain ⟨σ2, s1, s2, s3⟩ := M_rg k1 (x := a3) am (by decide)
      exact ⟨σ2, by rw [if_pos rfl, s1, bi_some, s2.2.1]; rfl, s2, s3⟩
    · obtain ⟨σ2, s1, s2, s3⟩ := M_wt k1 (x := a3) am (by decide)
      exact ⟨σ2, by rw [if_neg (by decide), if_pos rfl, s1, bi_some, s2.2.1]; rfl, s2, s3⟩
    · obtain ⟨σ2, s1, s2, s3⟩ := M_sh k1 (x := a3) hz am (by decide)
      exact ⟨σ2, by rw [if_neg (by decide), if_neg (by decide), if_pos rfl, s1, bi_some, s2.2.1]; rfl, s2, s3⟩
    · obtain ⟨σ2, s1, s2, s3⟩ := M_tl k1 (x := a3) hz am (by decide)
      exact ⟨σ2, by rw [if_neg (by decide), if_neg (by decide), if_neg (by decide), s1, bi_some, s2.2.1]; rfl, s2, s3⟩
  obtain ⟨σ2, m1, m2, m3⟩ := MEq
  refine ⟨σ2, EEq, ?_, fin σ1 σ2 _ f6 (FX.tr fx m3) (atr_30 k b (nI c) (nI a)) r2.2.2.1 r2.2.2.2 m2.2.2.1 m2.2.2.2⟩
  rw [h2, if_neg one_ne, kon1, bd_some, hin, if_neg one_ne, if_neg hin5, if_pos i4, ix_nI (by omega), n62, hτ1, n34, it1, bd_some, hτ2, ← m1]
  rcases (show b = 0 ∨ b = 1 ∨ b = 2 ∨ b = 3 by omega) with rfl | rfl | rfl | rfl
  all_goals rfl
