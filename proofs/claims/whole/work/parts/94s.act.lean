/-! act -/
def AE (σ : St) (K N A pt : Int32) (l : List Int32) : Prop := (gI σ 31 2 = K ∧ gI σ 31 3 = N ∧ gI σ 31 4 = A) ∧ gI σ 31 5 = pt ∧ gI σ 31 1 = nI l.length ∧ (∀ j, j < l.length → l[j]? = some (gI σ 32 j))
def AM (σ : St) (K N A pt : Int32) (l : List Int32) : Prop := (gI σ 44 33 = K ∧ gI σ 44 34 = N ∧ gI σ 44 35 = A) ∧ gI σ 44 38 = pt ∧ gI σ 44 37 = nI l.length ∧ (∀ j, j < l.length → l[j]? = some (gI σ 64 j))
def FE (σ τ : St) : Prop := (∀ a b, ¬ a = 31 → ¬ a = 32 → gI τ a b = gI σ a b) ∧ (∀ a b, gL τ a b = gL σ a b) ∧ (∀ j, gR τ j = gR σ j)
def FX (σ τ : St) : Prop := (∀ a b, ¬ (a = 44 ∧ ((33 ≤ b ∧ b ≤ 35) ∨ b = 37 ∨ b = 38)) → ¬ a = 64 → gI τ a b = gI σ a b) ∧ (∀ a b, gL τ a b = gL σ a b) ∧ (∀ j, gR τ j = gR σ j)
theorem FE.rf {σ : St} : FE σ σ := ⟨fun _ _ _ _ => rfl, fun _ _ => rfl, fun _ => rfl⟩
theorem FE.tr {σ τ υ : St} (h1 : FE σ τ) (h2 : FE τ υ) : FE σ υ := ⟨fun a b h g => (h2.1 a b h g).trans (h1.1 a b h g), fun a b => (h2.2.1 a b).trans (h1.2.1 a b), fun j => (h2.2.2 j).trans (h1.2.2 j)⟩
theorem FE.s {σ τ : St} {k j : Nat} {v : Int32} (h1 : FE σ τ) (h : k = 31 ∨ k = 32) : FE σ (sI τ k j v) := h1.tr ⟨fun a b x y => gI_o (by omega), fun _ _ => rfl, fun _ => rfl⟩
theorem FX.rf {σ : St} : FX σ σ := ⟨fun _ _ _ _ => rfl, fun _ _ => rfl, fun _ => rfl⟩
theorem FX.tr {σ τ υ : St} (h1 : FX σ τ) (h2 : FX τ υ) : FX σ υ := ⟨fun a b h g => (h2.1 a b h g).trans (h1.1 a b h g), fun a b => (h2.2.1 a b).trans (h1.2.1 a b), fun j => (h2.2.2 j).trans (h1.2.2 j)⟩
theorem FX.s {σ τ : St} {k j : Nat} {v : Int32} (h1 : FX σ τ) (h : (k = 44 ∧ ((33 ≤ j ∧ j ≤ 35) ∨ j = 37 ∨ j = 38)) ∨ k = 64) : FX σ (sI τ k j v) := h1.tr ⟨fun a b x y => if_neg (fun z => by omega), fun _ _ => rfl, fun _ => rfl⟩
theorem E_note {σ : St} {K N A pt b : Int32} {l : List Int32} (h : AE σ K N A pt l) (hl : l.length < 30) : ∃ τ, fA_note σ b = some τ ∧ AE τ K N A pt (l ++ [b]) ∧ FE σ τ := by
  obtain ⟨⟨h1, h2, h3⟩, h4, h5, h6⟩ := h
  refine ⟨sI (sI σ 32 l.length b) 31 1 (nI (l.length + 1)), ?_, ⟨⟨?_, ?_, ?_⟩, ?_, ?_, fun j hj => ?_⟩, (FE.rf.s (by omega)).s (by omega)⟩
  · unfold fA_note
    rw [h5, if_neg (show ¬ (30 : Int32) ≤ nI l.length from nI_ge (b := 30) hl (by omega)), if_pos (ib_nI hl (by omega)), nm_def, nm_def, ix_nI (by omega), gI_o (by decide), h5, nI_1]
  · rw [gI_p (by decide), gI_o (by decide)]; exact h1
  · rw [gI_p (by decide), gI_o (by decide)]; exact h2
  · rw [gI_p (by decide), gI_o (by decide)]; exact h3
  · rw [gI_p (by decide), gI_o (by decide)]; exact h4
  · rw [gI_s, List.length_append]; rfl
  · rw [List.length_append, List.length_singleton] at hj
    rw [gI_o (by decide)]
    by_cases e : j = l.length
    · subst e
      rw [gI_s, List.getElem?_concat_length]
    · rw [gI_p e, List.getElem?_append_left (by omega)]
      exact h6 j (by omega)
theorem M_note {σ : St} {K N A pt b : Int32} {l : List Int32} (h : AM σ K N A pt l) (hl : l.length < 30) : ∃ τ, fM_ran σ b = some τ ∧ AM τ K N A pt (l ++ [b]) ∧ FX σ τ := by
  obtain ⟨⟨h1, h2, h3⟩, h4, h5, h6⟩ := h
  refine ⟨sI (sI σ 64 l.length b) 44 37 (nI (l.length + 1)), ?_, ⟨⟨?_, ?_, ?_⟩, ?_, ?_, fun j hj => ?_⟩, (FX.rf.s (by omega)).s (by omega)⟩
  · unfold fM_ran
    rw [h5, if_neg (show ¬ (30 : Int32) ≤ nI l.length from nI_ge (b := 30) hl (by omega)), if_pos (ib_nI hl (by omega)), nm_def, nm_def, ix_nI (by omega), gI_o (by decide), h5, nI_1]
  · rw [gI_p (by decide), gI_o (by decide)]; exact h1
  · rw [gI_p (by decide), gI_o (by decide)]; exact h2
  · rw [gI_p (by decide), gI_o (by decide)]; exact h3
  · rw [gI_p (by decide), gI_o (by decide)]; exact h4
  · rw [gI_s, List.length_append]; rfl
  · rw [List.length_append, List.length_singleton] at hj
    rw [gI_o (by decide)]
    by_cases e : j = l.length
    · subst e
      rw [gI_s, List.getElem?_concat_length]
    · rw [gI_p e, List.getElem?_append_left (by omega)]
      exact h6 j (by omega)
def bdL : List Int32 := [10, 11, 12, 13, 10, 20, 12, 13, 30, 11, 12, 31, 51, 20, 50, 13, 40, 41, 12, 31, 10, 11, 61, 60]
theorem bo_l {σ τ : St} : ∀ n a b i, fA_bodyOf_4 n σ a b i = fA_bodyOf_4 n τ a b i
  | 0, _, _, _ => rfl
  | n + 1, a, b, i => by
    unfold fA_bodyOf_4
    simp only [nm_def]
    rw [bo_l (σ := σ) (τ := τ) n]
theorem bo_0 : ∀ a, a < 6 → ∀ b, b < 4 → fA_bodyOf σ00 (nI a) (nI b) = some (bdL.getD (4 * a + b) 0) := by decide +kernel
theorem bo {σ : St} {a b : Nat} (ha : a < 6) (hb : b < 4) : fA_bodyOf σ (nI a) (nI b) = some (bdL.getD (4 * a + b) 0) := by
  rw [← bo_0 a ha b hb]
  exact bo_l _ _ _ _
/-- what a body does -/
def aPB (fu : Nat) (q3 i3 v7 : Int32) (σ6 : St) : Option (Int32 × St) :=
  if q3 = (10 : Int32) then some (i3 + (gI σ6 31 3), σ6)
  else if q3 = (11 : Int32) then bi (fA_perform fu σ6 (gI σ6 31 2) (0 : Int32) i3 v7) fun q11 σ11 => some (q11 * (2 : Int32), σ11)
  else if q3 = (12 : Int32) then bi (fA_share σ6 i3) fun q14 σ14 => some (q14, σ14)
  else if q3 = (13 : Int32) then bi (fA_perform fu σ6 (gI σ6 31 2) (1 : Int32) i3 v7) fun q17 σ17 => some (q17 ^^^ (gI σ17 31 4), σ17)
  else if q3 = (20 : Int32) then bi (fA_perform fu σ6 (0 : Int32) (1 : Int32) i3 v7) fun q20 σ20 => some (q20 - (gI σ20 31 4), σ20)
  else if q3 = (30 : Int32) then bi (fA_perform fu σ6 (0 : Int32) (0 : Int32) i3 v7) fun q23 σ23 => some (q23 * (3 : Int32), σ23)
  else if q3 = (31 : Int32) then bi (fA_perform fu σ6 (0 : Int32) (3 : Int32) i3 v7) fun q26 σ26 => bi (fA_perform fu σ26 (gI σ26 31 2) (2 : Int32) (gI σ26 31 3) v7) fun q28 σ28 => some (q26 + q28, σ28)
  else if q3 = (40 : Int32) then bi (fA_perform fu σ6 (2 : Int32) (0 : Int32) i3 v7) fun q31 σ31 => some ((0 : Int32) - q31, σ31)
  else if q3 = (41 : Int32) then bi (fA_perform fu σ6 (2 : Int32) (1 : Int32) i3 v7) fun q34 σ34 => bi (fA_perform fu σ34 (gI σ34 31 2) (0 : Int32) (gI σ34 31 3) v7) fun q36 σ36 => some (q34 + q36, σ36)
  else if q3 = (50 : Int32) then bi (fA_perform fu σ6 (1 : Int32) (2 : Int32) (i3 + (2 : Int32)) v7) fun q39 σ39 => some (q39 ^^^ (1 : Int32), σ39)
  else if q3 = (51 : Int32) then bi (fA_perform fu σ6 (1 : Int32) (0 : Int32) i3 v7) fun q42 σ42 => some (q42 - (gI σ42 31 3), σ42)
  else if q3 = (60 : Int32) then bi (fA_perform fu σ6 (0 : Int32) (3 : Int32) i3 v7) fun q45 σ45 => some (q45 * (2 : Int32), σ45)
  else if q3 = (61 : Int32) then bi (fA_perform fu σ6 (0 : Int32) (2 : Int32) i3 v7) fun q48 σ48 => bi (fA_perform fu σ48 (gI σ48 31 2) (0 : Int32) (gI σ48 31 4) v7) fun q50 σ50 => some (q48 + q50, σ50)
  else some ((0 : Int32), σ6)
theorem aPB_10 (fu : Nat) (i3 v7 : Int32) (σ6 : St) : aPB fu 10 i3 v7 σ6 = some (i3 + (gI σ6 31 3), σ6) := by
  unfold aPB
  rw [if_pos rfl]
theorem aPB_11 (fu : Nat) (i3 v7 : Int32) (σ6 : St) : aPB fu 11 i3 v7 σ6 = bi (fA_perform fu σ6 (gI σ6 31 2) (0 : Int32) i3 v7) fun q11 σ11 => some (q11 * (2 : Int32), σ11) := by
  unfold aPB
  rw [if_neg (by decide), if_pos rfl]
theorem aPB_12 (fu : Nat) (i3 v7 : Int32) (σ6 : St) : aPB fu 12 i3 v7 σ6 = bi (fA_share σ6 i3) fun q14 σ14 => some (q14, σ14) := by
  unfold aPB
  rw [if_neg (by decide), if_neg (by decide), if_pos rfl]
theorem aPB_13 (fu : Nat) (i3 v7 : Int32) (σ6 : St) : aPB fu 13 i3 v7 σ6 = bi (fA_perform fu σ6 (gI σ6 31 2) (1 : Int32) i3 v7) fun q17 σ17 => some (q17 ^^^ (gI σ17 31 4), σ17) := by
  unfold aPB
  rw [if_neg (by decide), if_neg (by decide), if_neg (by decide), if_pos rfl]
theorem aPB_20 (fu : Nat) (i3 v7 : Int32) (σ6 : St) : aPB fu 20 i3 v7 σ6 = bi (fA_perform fu σ6 (0 : Int32) (1 : Int32) i3 v7) fun q20 σ20 => some (q20 - (gI σ20 31 4), σ20) := by
  unfold aPB
  rw [if_neg (by decide), if_neg (by decide), if_neg (by decide), if_neg (by decide), if_pos rfl]
theorem aPB_30 (fu : Nat) (i3 v7 : Int32) (σ6 : St) : aPB fu 30 i3 v7 σ6 = bi (fA_perform fu σ6 (0 : Int32) (0 : Int32) i3 v7) fun q23 σ23 => some (q23 * (3 : Int32), σ23) := by
  unfold aPB
  rw [if_neg (by decide), if_neg (by decide), if_neg (by decide), if_neg (by decide), if_neg (by decide), if_pos rfl]
theorem aPB_31 (fu : Nat) (i3 v7 : Int32) (σ6 : St) : aPB fu 31 i3 v7 σ6 = bi (fA_perform fu σ6 (0 : Int32) (3 : Int32) i3 v7) fun q26 σ26 => bi (fA_perform fu σ26 (gI σ26 31 2) (2 : Int32) (gI σ26 31 3) v7) fun q28 σ28 => some (q26 + q28, σ28) := by
  unfold aPB
  rw [if_neg (by decide), if_neg (by decide), if_neg (by decide), if_neg (by decide), if_neg (by decide), if_neg (by decide), if_pos rfl]
theorem aPB_40 (fu : Nat) (i3 v7 : Int32) (σ6 : St) : aPB fu 40 i3 v7 σ6 = bi (fA_perform fu σ6 (2 : Int32) (0 : Int32) i3 v7) fun q31 σ31 => some ((0 : Int32) - q31, σ31) := by
  unfold aPB
  rw [if_neg (by decide), if_neg (by decide), if_neg (by decide), if_neg (by decide), if_neg (by decide), if_neg (by decide), if_neg (by decide), if_pos rfl]
theorem aPB_41 (fu : Nat) (i3 v7 : Int32) (σ6 : St) : aPB fu 41 i3 v7 σ6 = bi (fA_perform fu σ6 (2 : Int32) (1 : Int32) i3 v7) fun q34 σ34 => bi (fA_perform fu σ34 (gI σ34 31 2) (0 : Int32) (gI σ34 31 3) v7) fun q36 σ36 => some (q34 + q36, σ36) := by
  unfold aPB
  rw [if_neg (by decide), if_neg (by decide), if_neg (by decide), if_neg (by decide), if_neg (by decide), if_neg (by decide), if_neg (by decide), if_neg (by decide), if_pos rfl]
theorem aPB_50 (fu : Nat) (i3 v7 : Int32) (σ6 : St) : aPB fu 50 i3 v7 σ6 = bi (fA_perform fu σ6 (1 : Int32) (2 : Int32) (i3 + (2 : Int32)) v7) fun q39 σ39 => some (q39 ^^^ (1 : Int32), σ39) := by
  unfold aPB
  rw [if_neg (by decide), if_neg (by decide), if_neg (by decide), if_neg (by decide), if_neg (by decide), if_neg (by decide), if_neg (by decide), if_neg (by decide), if_neg (by decide), if_pos rfl]
theorem aPB_51 (fu : Nat) (i3 v7 : Int32) (σ6 : St) : aPB fu 51 i3 v7 σ6 = bi (fA_perform fu σ6 (1 : Int32) (0 : Int32) i3 v7) fun q42 σ42 => some (q42 - (gI σ42 31 3), σ42) := by
  unfold aPB
  rw [if_neg (by decide), if_neg (by decide), if_neg (by decide), if_neg (by decide), if_neg (by decide), if_neg (by decide), if_neg (by decide), if_neg (by decide), if_neg (by decide), if_neg (by decide), if_pos rfl]
theorem aPB_60 (fu : Nat) (i3 v7 : Int32) (σ6 : St) : aPB fu 60 i3 v7 σ6 = bi (fA_perform fu σ6 (0 : Int32) (3 : Int32) i3 v7) fun q45 σ45 => some (q45 * (2 : Int32), σ45) := by
  unfold aPB
  rw [if_neg (by decide), if_neg (by decide), if_neg (by decide), if_neg (by decide), if_neg (by decide), if_neg (by decide), if_neg (by decide), if_neg (by decide), if_neg (by decide), if_neg (by decide), if_neg (by decide), if_pos rfl]
theorem aPB_61 (fu : Nat) (i3 v7 : Int32) (σ6 : St) : aPB fu 61 i3 v7 σ6 = bi (fA_perform fu σ6 (0 : Int32) (2 : Int32) i3 v7) fun q48 σ48 => bi (fA_perform fu σ48 (gI σ48 31 2) (0 : Int32) (gI σ48 31 4) v7) fun q50 σ50 => some (q48 + q50, σ50) := by
  unfold aPB
  rw [if_neg (by decide), if_neg (by decide), if_neg (by decide), if_neg (by decide), if_neg (by decide), if_neg (by decide), if_neg (by decide), if_neg (by decide), if_neg (by decide), if_neg (by decide), if_neg (by decide), if_neg (by decide), if_pos rfl]
theorem pf {σ : St} {m d a b : Nat} {x : Int32} (ha : a < 6) (hb : b < 4) (h5 : gI σ 31 5 = 0) (hd : d ≤ 20) : fA_perform (m + 1) σ (nI a) (nI b) x (nI d) = (fA_note σ (bdL.getD (4 * a + b) 0)).bind (aPB m (bdL.getD (4 * a + b) 0) x (nI (d + 1))) := by
  rw [fA_perform, if_pos h5, if_pos (show nI d ≤ 20 from nI_le (b := 20) hd (by omega)), bo ha hb, bd_some, nI_1]
  rfl
def rv (k : Nat) (N x : Int32) : Int32 := if k = 2 then (x + N) * 3 else if k = 3 then (x + N) - N else if k = 4 then 0 - (x + N) * 3 else x + N
def rt (k : Nat) : List Int32 := if k = 2 then [30, 10] else if k = 3 then [51, 10] else if k = 4 then [40, 30, 10] else [10]
theorem rt_3 (k : Nat) : (rt k).length ≤ 3 := by
  unfold rt
  repeat' split
  all_goals decide
theorem E10 {σ : St} {m d a : Nat} {K N A x : Int32} {l : List Int32} (ha : a = 0 ∨ a = 1 ∨ a = 5) (h : AE σ K N A 0 l) (hl : l.length < 30) (hd : d ≤ 20) : ∃ τ, fA_perform (m + 1) σ (nI a) (nI 0) x (nI d) = some (x + N, τ) ∧ AE τ K N A 0 (l ++ [10]) ∧ FE σ τ := by
  obtain ⟨τ, r1, r2, r3⟩ := E_note (b := 10) h hl
  refine ⟨τ, ?_, r2, r3⟩
  rw [pf (by omega) (by omega) h.2.1 hd]
  rcases ha with rfl | rfl | rfl
  all_goals
    rw [show bdL.getD _ 0 = (10 : Int32) from rfl, r1, bd_some]
    show some (x + gI τ 31 3, τ) = _
    rw [r2.1.2.1]
theorem E30 {σ : St} {m d : Nat} {K N A x : Int32} {l : List Int32} (h : AE σ K N A 0 l) (hl : l.length < 29) (hd : d ≤ 19) : ∃ τ, fA_perform (m + 2) σ (nI 2) (nI 0) x (nI d) = some ((x + N) * 3, τ) ∧ AE τ K N A 0 (l ++ [30, 10]) ∧ FE σ τ := by
  obtain ⟨τ, r1, r2, r3⟩ := E_note (b := 30) h (by omega)
  obtain ⟨υ, s1, s2, s3⟩ := E10 (m := m) (d := d + 1) (a := 0) (x := x) (by omega) r2 (by rw [List.length_append, List.length_singleton]; omega) (by omega)
  refine ⟨υ, ?_, by rw [List.append_assoc] at s2; exact s2, FE.tr r3 s3⟩
  rw [pf (by omega) (by omega) h.2.1 (by omega), show bdL.getD _ 0 = (30 : Int32) from rfl, r1, bd_some, aPB_30]
  rw [show fA_perform (m + 1) τ 0 0 x (nI (d + 1)) = _ from s1]
  rfl
theorem E_rg {k : Nat} (hk : k < 6) {σ : St} {m d : Nat} {N A x : Int32} {l : List Int32} (h : AE σ (nI k) N A 0 l) (hl : l.length < 28) (hd : d ≤ 18) : ∃ τ, fA_perform (m + 3) σ (nI k) (nI 0) x (nI d) = some (rv k N x, τ) ∧ AE τ (nI k) N A 0 (l ++ rt k) ∧ FE σ τ := by
  rcases kd6 hk with rfl | rfl | rfl | rfl | rfl | rfl
  · exact E10 (m := m + 2) (by omega) h (by omega) (by omega)
  · exact E10 (m := m + 2) (by omega) h (by omega) (by omega)
  · exact E30 (m := m + 1) h (by omega) (by omega)
  · obtain ⟨τ, r1, r2, r3⟩ := E_note (b := 51) h (by omega)
    obtain ⟨υ, s1, s2, s3⟩ := E10 (m := m + 1) (d := d + 1) (a := 1) (x := x) (by omega) r2 (by rw [List.length_append, List.length_singleton]; omega) (by omega)
    refine ⟨υ, ?_, by rw [List.append_assoc] at s2; exact s2, FE.tr r3 s3⟩
    rw [pf (by omega) (by omega) h.2.1 (by omega), show bdL.getD _ 0 = (51 : Int32) from rfl, r1, bd_some, aPB_51]
    rw [show fA_perform (m + 2) τ 1 0 x (nI (d + 1)) = _ from s1, bi_some, s2.1.2.1]
    rfl
  · obtain ⟨τ, r1, r2, r3⟩ := E_note (b := 40) h (by omega)
    obtain ⟨υ, s1, s2, s3⟩ := E30 (m := m) (d := d + 1) (x := x) r2 (by rw [List.length_append, List.length_singleton]; omega) (by omega)
    refine ⟨υ, ?_, by rw [List.append_assoc] at s2; exact s2, FE.tr r3 s3⟩
    rw [pf (by omega) (by omega) h.2.1 (by omega), show bdL.getD _ 0 = (40 : Int32) from rfl, r1, bd_some, aPB_40]
    rw [show fA_perform (m + 2) τ 2 0 x (nI (d + 1)) = _ from s1]
    rfl
  · exact E10 (m := m + 2) (by omega) h (by omega) (by omega)
theorem len_s {l : List Int32} {b : Int32} : (l ++ [b]).length = l.length + 1 := by rw [List.length_append]; rfl
theorem E11 {k a : Nat} (hk : k < 6) (ha : a = 0 ∨ a = 2 ∨ a = 5) {σ : St} {m d : Nat} {N A x : Int32} {l : List Int32} (h : AE σ (nI k) N A 0 l) (hl : l.length < 27) (hd : d ≤ 17) : ∃ τ, fA_perform (m + 4) σ (nI a) (nI 1) x (nI d) = some (rv k N x * 2, τ) ∧ AE τ (nI k) N A 0 (l ++ (11 :: rt k)) ∧ FE σ τ := by
  obtain ⟨τ, r1, r2, r3⟩ := E_note (b := 11) h (by omega)
  obtain ⟨υ, s1, s2, s3⟩ := E_rg hk (m := m) (d := d + 1) (x := x) r2 (by rw [len_s]; omega) (by omega)
  refine ⟨υ, ?_, by rw [List.append_assoc] at s2; exact s2, FE.tr r3 s3⟩
  rw [pf (by omega) (by omega) h.2.1 (by omega)]
  rcases ha with rfl | rfl | rfl
  all_goals
    rw [show bdL.getD _ 0 = (11 : Int32) from rfl, r1, bd_some, aPB_11]
    rw [r2.1.1, show fA_perform (m + 3) τ (nI k) 0 x (nI (d + 1)) = _ from s1]
    rfl
def wv (k : Nat) (N A x : Int32) : Int32 := if k = 1 ∨ k = 3 then rv k N x * 2 - A else if k = 4 then rv k N x * 2 + rv k N N else rv k N x * 2
def wt (k : Nat) : List Int32 := if k = 1 ∨ k = 3 then 20 :: 11 :: rt k else if k = 4 then 41 :: 11 :: (rt k ++ rt k) else 11 :: rt k
theorem E_wt {k : Nat} (hk : k < 6) {σ : St} {m d : Nat} {N A x : Int32} {l : List Int32} (h : AE σ (nI k) N A 0 l) (hl : l.length < 20) (hd : d ≤ 16) : ∃ τ, fA_perform (m + 5) σ (nI k) (nI 1) x (nI d) = some (wv k N A x, τ) ∧ AE τ (nI k) N A 0 (l ++ wt k) ∧ FE σ τ := by
  have c20 : k = 1 ∨ k = 3 → ∃ τ, fA_perform (m + 5) σ (nI k) (nI 1) x (nI d) = some (rv k N x * 2 - A, τ) ∧ AE τ (nI k) N A 0 (l ++ 20 :: 11 :: rt k) ∧ FE σ τ := by
    intro hk2
    obtain ⟨τ, r1, r2, r3⟩ := E_note (b := 20) h (by omega)
    obtain ⟨υ, s1, s2, s3⟩ := E11 hk (a := 0) (by omega) (m := m) (d := d + 1) (x := x) r2 (by rw [len_s]; omega) (by omega)
    refine ⟨υ, ?_, by rw [List.append_assoc] at s2; exact s2, FE.tr r3 s3⟩
    rw [pf (by omega) (by omega) h.2.1 (by omega)]
    rcases hk2 with rfl | rfl
    all_goals
      rw [show bdL.getD _ 0 = (20 : Int32) from rfl, r1, bd_some, aPB_20]
      rw [show fA_perform (m + 4) τ 0 1 x (nI (d + 1)) = _ from s1, bi_some, s2.1.2.2]
  rcases kd6 hk with rfl | rfl | rfl | rfl | rfl | rfl
  · exact E11 (m := m + 1) (by omega) (by omega) h (by omega) (by omega)
  · exact c20 (by omega)
  · exact E11 (m := m + 1) (by omega) (by omega) h (by omega) (by omega)
  · exact c20 (by omega)
  · obtain ⟨τ, r1, r2, r3⟩ := E_note (b := 41) h (by omega)
    obtain ⟨υ, s1, s2, s3⟩ := E11 (k := 4) (by omega) (a := 2) (by omega) (m := m) (d := d + 1) (x := x) r2 (by rw [len_s]; omega) (by omega)
    obtain ⟨ω, u1, u2, u3⟩ := E_rg (k := 4) (by omega) (m := m + 1) (d := d + 1) (x := N) s2 (by rw [List.length_append, len_s]; show l.length + 1 + 4 < 28; omega) (by omega)
    refine ⟨ω, ?_, ?_, FE.tr r3 (FE.tr s3 u3)⟩
    · rw [pf (by omega) (by omega) h.2.1 (by omega), show bdL.getD _ 0 = (41 : Int32) from rfl, r1, bd_some, aPB_41]
      rw [show fA_perform (m + 4) τ 2 1 x (nI (d + 1)) = _ from s1, bi_some, s2.1.1, s2.1.2.1, show fA_perform (m + 4) υ (nI 4) 0 N (nI (d + 1)) = _ from u1]
      rfl
    · rw [List.append_assoc, List.append_assoc] at u2
      exact u2
  · exact E11 (m := m + 1) (by omega) (by omega) h (by omega) (by omega)
def pp (N A : Int32) : Int32 := if A - N = 0 then 1 else 0
def ps (N A x : Int32) : Int32 := if A - N = 0 then 0 else x / (A - N)
theorem E_p1 {σ : St} {K N A : Int32} {l : List Int32} (h : AE σ K N A 0 l) : AE (sI σ 31 5 1) K N A 1 l := by
  obtain ⟨⟨h1, h2, h3⟩, h4, h5, h6⟩ := h
  exact ⟨⟨h1, h2, h3⟩, gI_s, h5, h6⟩
theorem E12 {a : Nat} (ha : a = 0 ∨ a = 1 ∨ a = 2 ∨ a = 4) {σ : St} {m d : Nat} {K N A x : Int32} {l : List Int32} (h : AE σ K N A 0 l) (hl : l.length < 30) (hd : d ≤ 20) : ∃ τ, fA_perform (m + 1) σ (nI a) (nI 2) x (nI d) = some (ps N A x, τ) ∧ AE τ K N A (pp N A) (l ++ [12]) ∧ FE σ τ := by
  obtain ⟨τ, r1, r2, r3⟩ := E_note (b := 12) h hl
  have key : ∃ υ, bi (fA_share τ x) (fun q14 σ14 => some (q14, σ14)) = some (ps N A x, υ) ∧ AE υ K N A (pp N A) (l ++ [12]) ∧ FE τ υ := by
    unfold fA_share
    rw [nm_def, r2.1.2.1, r2.1.2.2]
    unfold ps pp
    by_cases z : A - N = 0
    · rw [if_pos z, if_pos z, if_pos z, nm_def]
      exact ⟨_, rfl, E_p1 r2, FE.rf.s (by omega)⟩
    · rw [if_neg z, if_neg z, if_neg z, if_pos z]
      exact ⟨_, rfl, r2, FE.rf⟩
  obtain ⟨υ, k1, k2, k3⟩ := key
  refine ⟨υ, ?_, k2, FE.tr r3 k3⟩
  rw [pf (by omega) (by omega) h.2.1 hd]
  rcases ha with rfl | rfl | rfl | rfl
  all_goals
    rw [show bdL.getD _ 0 = (12 : Int32) from rfl, r1, bd_some]
    exact k1
def sv (k : Nat) (N A x : Int32) : Int32 := if k = 3 then ps N A (x + 2) ^^^ 1 else if k = 5 then (if A - N = 0 then 0 else ps N A x + rv k N A) else ps N A x
def stt (k : Nat) (N A : Int32) : List Int32 := if k = 3 then [50, 12] else if k = 5 then (if A - N = 0 then [61, 12] else [61, 12, 10]) else [12]
theorem E_sh {k : Nat} (hk : k < 6) {σ : St} {m d : Nat} {N A x : Int32} {l : List Int32} (h : AE σ (nI k) N A 0 l) (hl : l.length < 20) (hd : d ≤ 16) : ∃ τ, fA_perform (m + 5) σ (nI k) (nI 2) x (nI d) = some (sv k N A x, τ) ∧ AE τ (nI k) N A (pp N A) (l ++ stt k N A) ∧ FE σ τ := by
  rcases kd6 hk with rfl | rfl | rfl | rfl | rfl | rfl
  · exact E12 (m := m + 4) (by omega) h (by omega) (by omega)
  · exact E12 (m := m + 4) (by omega) h (by omega) (by omega)
  · exact E12 (m := m + 4) (by omega) h (by omega) (by omega)
  · obtain ⟨τ, r1, r2, r3⟩ := E_note (b := 50) h (by omega)
    obtain ⟨υ, s1, s2, s3⟩ := E12 (a := 1) (by omega) (m := m + 3) (d := d + 1) (x := x + 2) r2 (by rw [len_s]; omega) (by omega)
    refine ⟨υ, ?_, by rw [List.append_assoc] at s2; exact s2, FE.tr r3 s3⟩
    rw [pf (by omega) (by omega) h.2.1 (by omega), show bdL.getD _ 0 = (50 : Int32) from rfl, r1, bd_some, aPB_50]
    rw [show fA_perform (m + 4) τ 1 2 (x + 2) (nI (d + 1)) = _ from s1]
    rfl
  · exact E12 (m := m + 4) (by omega) h (by omega) (by omega)
  · obtain ⟨τ, r1, r2, r3⟩ := E_note (b := 61) h (by omega)
    obtain ⟨υ, s1, s2, s3⟩ := E12 (a := 0) (by omega) (m := m + 3) (d := d + 1) (x := x) r2 (by rw [len_s]; omega) (by omega)
    have st : fA_perform (m + 5) σ (nI 5) (nI 2) x (nI d) = bi (fA_perform (m + 4) υ (nI 5) 0 A (nI (d + 1))) fun q50 σ50 => some (ps N A x + q50, σ50) := by
      rw [pf (by omega) (by omega) h.2.1 (by omega), show bdL.getD _ 0 = (61 : Int32) from rfl, r1, bd_some, aPB_61]
      rw [show fA_perform (m + 4) τ 0 2 x (nI (d + 1)) = _ from s1, bi_some, s2.1.1, s2.1.2.2]
    rw [st]
    by_cases z : A - N = 0
    · have hp : pp N A = 1 := if_pos z
      have e5 : sv 5 N A x = 0 := by show (if A - N = 0 then (0 : Int32) else _) = 0; rw [if_pos z]
      have e6 : stt 5 N A = [61, 12] := by show (if A - N = 0 then [(61 : Int32), 12] else _) = _; rw [if_pos z]
      have e7 : ps N A x = 0 := if_pos z
      rw [e5, e6, e7]
      rw [List.append_assoc] at s2
      refine ⟨υ, ?_, s2, FE.tr r3 s3⟩
      rw [fA_perform, s2.2.1, hp, if_neg one_ne]
      rfl
    · have hp : pp N A = 0 := if_neg z
      rw [hp] at s2
      obtain ⟨ω, u1, u2, u3⟩ := E_rg (k := 5) (by omega) (m := m + 1) (d := d + 1) (x := A) s2 (by rw [len_s, len_s]; omega) (by omega)
      have e5 : sv 5 N A x = ps N A x + rv 5 N A := by show (if A - N = 0 then (0 : Int32) else _) = _; rw [if_neg z]
      have e6 : stt 5 N A = [61, 12, 10] := by show (if A - N = 0 then [(61 : Int32), 12] else _) = _; rw [if_neg z]
      rw [e5, e6, hp]
      rw [List.append_assoc, List.append_assoc] at u2
      refine ⟨ω, ?_, u2, FE.tr r3 (FE.tr s3 u3)⟩
      rw [show fA_perform (m + 4) υ (nI 5) 0 A (nI (d + 1)) = _ from u1]
      rfl
theorem wt_8 (k : Nat) : (wt k).length ≤ 8 := by
  have := rt_3 k
  unfold wt
  repeat' split
  · show (rt k).length + 1 + 1 ≤ 8; omega
  · show (rt k ++ rt k).length + 1 + 1 ≤ 8; rw [List.length_append]; omega
  · show (rt k).length + 1 ≤ 8; omega
theorem E13 {k a : Nat} (hk : k < 6) (ha : a = 0 ∨ a = 1 ∨ a = 3) {σ : St} {m d : Nat} {N A x : Int32} {l : List Int32} (h : AE σ (nI k) N A 0 l) (hl : l.length < 10) (hd : d ≤ 15) : ∃ τ, fA_perform (m + 6) σ (nI a) (nI 3) x (nI d) = some (wv k N A x ^^^ A, τ) ∧ AE τ (nI k) N A 0 (l ++ (13 :: wt k)) ∧ FE σ τ := by
  obtain ⟨τ, r1, r2, r3⟩ := E_note (b := 13) h (by omega)
  obtain ⟨υ, s1, s2, s3⟩ := E_wt hk (m := m) (d := d + 1) (x := x) r2 (by rw [len_s]; omega) (by omega)
  refine ⟨υ, ?_, by rw [List.append_assoc] at s2; exact s2, FE.tr r3 s3⟩
  rw [pf (by omega) (by omega) h.2.1 (by omega)]
  rcases ha with rfl | rfl | rfl
  all_goals
    rw [show bdL.getD _ 0 = (13 : Int32) from rfl, r1, bd_some, aPB_13]
    rw [r2.1.1, show fA_perform (m + 5) τ (nI k) 1 x (nI (d + 1)) = _ from s1, bi_some, s2.1.2.2]
def tv (k : Nat) (N A x : Int32) : Int32 := if k = 2 ∨ k = 4 then (wv k N A x ^^^ A) + sv k N A N else if k = 5 then (wv k N A x ^^^ A) * 2 else wv k N A x ^^^ A
def tt (k : Nat) (N A : Int32) : List Int32 := if k = 2 ∨ k = 4 then 31 :: 13 :: (wt k ++ stt k N A) else if k = 5 then 60 :: 13 :: wt k else 13 :: wt k
def tp (k : Nat) (N A : Int32) : Int32 := if k = 2 ∨ k = 4 then pp N A else 0
theorem E_tl {k : Nat} (hk : k < 6) {σ : St} {m d : Nat} {N A x : Int32} {l : List Int32} (h : AE σ (nI k) N A 0 l) (hl : l.length < 5) (hd : d ≤ 14) : ∃ τ, fA_perform (m + 7) σ (nI k) (nI 3) x (nI d) = some (tv k N A x, τ) ∧ AE τ (nI k) N A (tp k N A) (l ++ tt k N A) ∧ FE σ τ := by
  have c31 : k = 2 ∨ k = 4 → ∃ τ, fA_perform (m + 7) σ (nI k) (nI 3) x (nI d) = some ((wv k N A x ^^^ A) + sv k N A N, τ) ∧ AE τ (nI k) N A (pp N A) (l ++ 31 :: 13 :: (wt k ++ stt k N A)) ∧ FE σ τ := by
    intro hk2
    obtain ⟨τ, r1, r2, r3⟩ := E_note (b := 31) h (by omega)
    obtain ⟨υ, s1, s2, s3⟩ := E13 hk (a := 0) (by omega) (m := m) (d := d + 1) (x := x) r2 (by rw [len_s]; omega) (by omega)
    have := wt_8 k
    obtain ⟨ω, u1, u2, u3⟩ := E_sh hk (m := m + 1) (d := d + 1) (x := N) s2 (by rw [List.length_append, len_s, List.length_cons]; omega) (by omega)
    refine ⟨ω, ?_, ?_, FE.tr r3 (FE.tr s3 u3)⟩
    · rw [pf (by omega) (by omega) h.2.1 (by omega)]
      rcases hk2 with rfl | rfl
      all_goals
        rw [show bdL.getD _ 0 = (31 : Int32) from rfl, r1, bd_some, aPB_31]
        rw [show fA_perform (m + 6) τ 0 3 x (nI (d + 1)) = _ from s1, bi_some, s2.1.1, s2.1.2.1, show fA_perform (m + 6) υ _ 2 N (nI (d + 1)) = _ from u1]
        rfl
    · rw [List.append_assoc, List.append_assoc] at u2
      exact u2
  rcases kd6 hk with rfl | rfl | rfl | rfl | rfl | rfl
  · exact E13 (m := m + 1) (by omega) (by omega) h (by omega) (by omega)
  · exact E13 (m := m + 1) (by omega) (by omega) h (by omega) (by omega)
  · exact c31 (by omega)
  · exact E13 (m := m + 1) (by omega) (by omega) h (by omega) (by omega)
  · exact c31 (by omega)
  · obtain ⟨τ, r1, r2, r3⟩ := E_note (b := 60) h (by omega)
    obtain ⟨υ, s1, s2, s3⟩ := E13 (k := 5) (by omega) (a := 0) (by omega) (m := m) (d := d + 1) (x := x) r2 (by rw [len_s]; omega) (by omega)
    refine ⟨υ, ?_, by rw [List.append_assoc] at s2; exact s2, FE.tr r3 s3⟩
    rw [pf (by omega) (by omega) h.2.1 (by omega), show bdL.getD _ 0 = (60 : Int32) from rfl, r1, bd_some, aPB_60]
    rw [show fA_perform (m + 6) τ 0 3 x (nI (d + 1)) = _ from s1]
    rfl
