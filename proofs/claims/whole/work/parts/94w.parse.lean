/-! a person, an acquaintance, a coin told in the text -/
def FT (td : Nat) (σ τ : St) : Prop := (∀ a b, ¬ (td ≤ a ∧ a ≤ td + 7) → ¬ (a = 25 ∧ (b = 2 ∨ b = 3)) → gI τ a b = gI σ a b) ∧ (∀ a b, gL τ a b = gL σ a b) ∧ (∀ j, gR τ j = gR σ j)
def FN (σ τ : St) : Prop := (∀ a b, ¬ (a = 44 ∧ ((9 ≤ b ∧ b ≤ 11) ∨ (13 ≤ b ∧ b ≤ 16))) → ¬ (50 ≤ a ∧ a ≤ 52) → gI τ a b = gI σ a b) ∧ (∀ a b, ¬ a = 44 → gL τ a b = gL σ a b) ∧ (∀ j, gR τ j = gR σ j)
theorem FT.rf {td : Nat} {σ : St} : FT td σ σ := ⟨fun _ _ _ _ => rfl, fun _ _ => rfl, fun _ => rfl⟩
theorem FT.tr {td : Nat} {σ τ υ : St} (h1 : FT td σ τ) (h2 : FT td τ υ) : FT td σ υ := ⟨fun a b h g => (h2.1 a b h g).trans (h1.1 a b h g), fun a b => (h2.2.1 a b).trans (h1.2.1 a b), fun j => (h2.2.2 j).trans (h1.2.2 j)⟩
theorem FT.s {td : Nat} {σ τ : St} {k j : Nat} {v : Int32} (h1 : FT td σ τ) (h : td ≤ k ∧ k ≤ td + 7) : FT td σ (sI τ k j v) := h1.tr ⟨fun a b x y => gI_o (by omega), fun _ _ => rfl, fun _ => rfl⟩
theorem FS.t {td : Nat} {σ τ : St} (h : FS σ τ) : FT td σ τ := ⟨fun a b _ x => h.1 a b x, h.2.1, h.2.2⟩
theorem FN.rf {σ : St} : FN σ σ := ⟨fun _ _ _ _ => rfl, fun _ _ _ => rfl, fun _ => rfl⟩
theorem FN.tr {σ τ υ : St} (h1 : FN σ τ) (h2 : FN τ υ) : FN σ υ := ⟨fun a b h g => (h2.1 a b h g).trans (h1.1 a b h g), fun a b h => (h2.2.1 a b h).trans (h1.2.1 a b h), fun j => (h2.2.2 j).trans (h1.2.2 j)⟩
theorem FN.s {σ τ : St} {k j : Nat} {v : Int32} (h1 : FN σ τ) (h : (k = 44 ∧ ((9 ≤ j ∧ j ≤ 11) ∨ (13 ≤ j ∧ j ≤ 16))) ∨ (50 ≤ k ∧ k ≤ 52)) : FN σ (sI τ k j v) := h1.tr ⟨fun a b x y => if_neg (fun z => by omega), fun _ _ _ => rfl, fun _ => rfl⟩
theorem FG.n {σ τ : St} (h : FG σ τ) : FN σ τ := ⟨fun a b x _ => h.1 a b (by omega), h.2.1, h.2.2⟩
/-- the reference's fresh town -/
def TF (σ : St) (W : Tw) : Prop := gI σ 44 15 = nI (wP W) ∧ gI σ 44 16 = nI (wC W) ∧ (∀ p, p < wP W → gI σ 50 p = nI (wrk W p) ∧ gI σ 51 p = nI (wkn W p)) ∧
  (∀ c, c < wC W → gI σ 52 (4 * c) = nI (wkd W c) ∧ gI σ 52 (4 * c + 1) = nI (wav W c) ∧ gI σ 52 (4 * c + 2) = nI (who W c) ∧ gI σ 52 (4 * c + 3) = nI (wha W c))
theorem TF.f {σ τ : St} {W : Tw} (h : TF σ W) (e : ∀ a b, (a = 44 ∧ (b = 15 ∨ b = 16)) ∨ (50 ≤ a ∧ a ≤ 52) → gI τ a b = gI σ a b) : TF τ W := by
  obtain ⟨h1, h2, h3, h4⟩ := h
  refine ⟨by rw [e _ _ (by omega)]; exact h1, by rw [e _ _ (by omega)]; exact h2, fun p hp => ?_, fun c hc => ?_⟩
  · rw [e 50 p (by omega), e 51 p (by omega)]; exact h3 p hp
  · rw [e 52 _ (by omega), e 52 _ (by omega), e 52 _ (by omega), e 52 _ (by omega)]; exact h4 c hc
theorem TF.g {σ τ : St} {W : Tw} (h : TF σ W) (e : FG σ τ) : TF τ W := h.f (fun a b x => e.1 a b (by omega))
theorem TE.fs {σ τ : St} {td : Nat} {W : Tw} (h : TE σ td W) (htd : td = 1 ∨ td = 9) (e : FS σ τ) : TE τ td W := h.f (fun k j h1 h2 => e.1 k j (by omega))
theorem Sy.x {t : Nat → Nat} {n : Nat} {σ σ' τ : St} {e : Nat} (h : Sy t n σ τ e) (g : ∀ a b, a = 25 ∨ a = 26 → gI σ' a b = gI σ a b) : Sy t n σ' τ e := by
  obtain ⟨⟨a1, a2, a3⟩, h2, h3, h4, h5, h6⟩ := h
  exact ⟨⟨by rw [g _ _ (by omega)]; exact a1, a2, fun i hi => by rw [g 26 i (by omega)]; exact a3 i hi⟩, h2, h3, by rw [g _ _ (by omega)]; exact h4, h5, h6⟩
theorem Sy.y {t : Nat → Nat} {n : Nat} {σ τ τ' : St} {e : Nat} (h : Sy t n σ τ e) (g : ∀ a b, (a = 44 ∧ b < 15) ∨ a = 49 → gI τ' a b = gI τ a b) (gl : gL τ' 44 12 = gL τ 44 12) : Sy t n σ τ' e := by
  obtain ⟨h1, ⟨a1, a2, a3⟩, h3, h4, ⟨k1, k2, k3, k4, k5, k6⟩, h6⟩ := h
  exact ⟨h1, ⟨by rw [g _ _ (by omega)]; exact a1, a2, fun i hi => by rw [g 49 i (by omega)]; exact a3 i hi⟩, h3, h4, ⟨by rw [g _ _ (by omega)]; exact k1, by rw [g _ _ (by omega)]; exact k2, by rw [g _ _ (by omega)]; exact k3, fun z => by rw [gl]; exact k4 z, fun z => by rw [g _ _ (by omega)]; exact k5 z, fun z => by rw [g _ _ (by omega)]; exact k6 z⟩, by rw [g _ _ (by omega)]; exact h6⟩
theorem Fl.z {σ τ : St} (h : Fl σ τ) : Fl σ (sI τ 44 14 0) := ⟨gI_s, by obtain ⟨f, a, b, c⟩ := h.2; exact ⟨f, a, b, by rw [gI_p (by decide)]; exact c⟩⟩
theorem nu0 {τ : St} {lo hi : Int32} (h : gI τ 44 14 = 0) : fM_wantNumber τ lo hi = some (gI τ 44 13, sI τ 44 14 0) := by
  unfold fM_wantNumber
  rw [nm_def, nm_def, h, if_pos rfl, gI_s, if_pos rfl]
theorem en0 {τ : St} (h : gI τ 44 14 = 0) : fM_wantEnd τ = some (sI τ 44 14 0) := by
  unfold fM_wantEnd
  rw [nm_def, h, if_pos rfl, gI_s, if_pos rfl]
/-- what a told thing comes to -/
def Rs (t : Nat → Nat) (n td : Nat) (σ τ : St) (W : Tw) (e : Nat) (q : Int32) (σ' τ' : St) : Prop := FT td σ σ' ∧ FN τ τ' ∧ ((q = 1 ∧ ∃ W' e', e < e' ∧ Sy t n σ' τ' e' ∧ TE σ' td W' ∧ TF τ' W' ∧ Gd W' ∧ wz W' = wz W ∧ ∀ p, wsi W' p = 0) ∨ (q = 0 ∧ Fl σ' τ'))
theorem TF_aP {σ : St} {r : Nat} {W : Tw} (h : TF σ W) : TF (sI (sI (sI σ 50 (wP W) (nI r)) 51 (wP W) 0) 44 15 (nI (wP W + 1))) (aP W r) := by
  obtain ⟨a1, a2, a4, a5⟩ := h
  refine ⟨by simp [gI_sI]; rfl, by simp [gI_sI]; exact a2, fun p hp => ?_, fun c hc => ?_⟩
  · have hp' : p < wP W + 1 := hp
    show _ = nI (upd1 (wrk W) (wP W) r p) ∧ _ = nI (upd1 (wkn W) (wP W) 0 p)
    unfold upd1
    by_cases e : p = wP W
    · simp [gI_sI, e]; rfl
    · simp [gI_sI, e]; exact a4 p (by omega)
  · simp [gI_sI]; exact a5 c hc
theorem p29_0 {τ : St} (h : gI τ 44 14 = 0) : fM_wantPerson_29 τ = some (sI (sI τ 44 14 0) 44 14 0) := by
  unfold fM_wantPerson_29
  rw [nu0 h, bi_some, en0 gI_s, bd_some, gI_s, if_pos rfl]
theorem s_person {t : Nat → Nat} {n td f : Nat} {σ τ : St} {W : Tw} (htd : td = 1 ∨ td = 9) (h : Sy1 t n σ τ f) (hfn : f < n) (hE : TE σ td W) (hF : TF τ W) (hG : Gd W) (hsi : ∀ p, wsi W p = 0) : ∃ q σ' τ', fX_readPerson σ td = some (q, σ') ∧ fM_wantPerson τ = some τ' ∧ Rs t n td σ τ W f q σ' τ' := by
  have g1 := hG.1.1
  have bd := (tg_b (t := t) h.2.2.1).2.2 hfn
  by_cases hP : wP W = 7
  · refine ⟨0, σ, _, ?_, ?_, FT.rf, ?_, Or.inr ⟨rfl, h.g0.z.z⟩⟩
    · unfold fX_readPerson
      rw [hE.1, hP, if_neg (by decide)]
    · unfold fM_wantPerson
      rw [nm_def, hF.1, hP, if_pos (show (7 : Int32) ≤ nI 7 by decide), gI_s, if_pos rfl, p29_0 gI_s]
    · exact ((FN.rf.s (by omega)).s (by omega)).s (by omega)
  have hE7 : nI (wP W) < (7 : Int32) := nI_lt (b := 7) (by omega) (by decide)
  have hM7 : ¬ (7 : Int32) ≤ nI (wP W) := nI_ge (b := 7) (by omega) (by decide)
  obtain ⟨τ1, m1, s1, f1⟩ := h.g1.ad
  have M0 : fM_wantPerson τ = fM_wantPerson_29 τ1 := by
    unfold fM_wantPerson
    rw [nm_def, hF.1, if_neg hM7, gI_s, if_neg one_ne, m1, bd_some]
  have E0 : fX_readPerson σ td = bi (fX_readNumber σ (0 : Int32) (9 : Int32)) fun q3 σ3 => if 0 ≤ q3 then bi (fT_addPerson σ3 td q3) fun q6 σ6 => bi (fX_readEnd σ6) fun q8 σ8 => if b01 q8 then some (q8, σ8) else none else some ((0 : Int32), σ3) := by
    unfold fX_readPerson
    rw [hE.1, if_pos hE7]
  have fA : FG τ τ1 := (FG.rf.s (by omega)).tr f1.g
  rw [E0, M0]
  unfold fM_wantPerson_29
  rcases s1.nu (l0 := 0) (by decide) 9 with ⟨v, σ2, τ2, e2, x1, x2, ⟨-, x3, xv⟩, x4, x5, x6, x7, -, -⟩ | ⟨w, σ2, τ2, x1, x2, x3, x4, x5, -⟩
  · rw [show fX_readNumber σ 0 9 = _ from x1, show fM_wantNumber τ1 0 9 = _ from x2, bi_some, bi_some, if_pos (nI_pos' (by omega))]
    rw [show (9 : Int32).toInt = 9 from rfl] at x3
    have hE2 := hE.fs htd x6
    have hF2 := (hF.g fA).g x7
    rw [E_addP hE2 (by omega), bi_some]
    have hE3 := TE_aP (r := v) hE2
    have s3 : Sy t n (sI (sI (sI (sI σ2 (td + 1) (wP W) (nI v)) (td + 2) (wP W) 0) (td + 3) (wP W) 0) td 0 (nI (wP W + 1))) τ2 e2 := x4.x (fun a b hab => by rw [gI_o (by omega), gI_o (by omega), gI_o (by omega), gI_o (by omega)])
    have ft : FT td σ (sI (sI (sI (sI σ2 (td + 1) (wP W) (nI v)) (td + 2) (wP W) 0) (td + 3) (wP W) 0) td 0 (nI (wP W + 1))) := (((x6.t.s (by omega)).s (by omega)).s (by omega)).s (by omega)
    generalize sI (sI (sI (sI σ2 (td + 1) (wP W) (nI v)) (td + 2) (wP W) 0) (td + 3) (wP W) 0) td 0 (nI (wP W + 1)) = σ3 at *
    rcases s3.en with ⟨σ4, τ4, e4, y1, y2, y3, y4, y5, y6⟩ | ⟨σ4, τ4, y1, y2, y3, y5, y6⟩
    · rw [y1, y2, bi_some, bd_some, if_pos (b01_1), y3.2.2.2.2.2, if_neg one_ne]
      have hF4 := hF2.g y6
      rw [hF4.1, if_pos (ib_nI (by omega) (by omega)), nm_def, gI_o (by decide), hF4.1, if_pos (ib_nI (by omega) (by omega)), nm_def, nm_def, ix_nI (by omega), gI_o (by decide), gI_o (by decide), hF4.1, nI_1]
      refine ⟨1, σ4, _, rfl, rfl, ft.tr y5.t, ?_, Or.inl ⟨rfl, aP W v, e4, by omega, ?_, hE3.fs htd y5, TF_aP hF4, Gd_aP hG (by omega) (by omega), rfl, fun p => ?_⟩⟩
      · exact (((((fA.tr x7).tr y6).n).s (by omega)).s (by omega)).s (by omega)
      · exact y3.y (fun a b hab => by rw [gI_sI, if_neg (by omega), gI_o (by omega), gI_o (by omega)]) rfl
      · show upd1 (wsi W) (wP W) 0 p = 0
        unfold upd1
        rw [hsi p]
        split <;> rfl
    · rw [y1, y2, bi_some, bd_some, if_pos (b01_0), y3.1, if_pos rfl]
      exact ⟨0, σ4, τ4, rfl, rfl, ft.tr y5.t, ((fA.tr x7).tr y6).n, Or.inr ⟨rfl, y3⟩⟩
  · rw [show fX_readNumber σ 0 9 = _ from x1, show fM_wantNumber τ1 0 9 = _ from x2, bi_some, bi_some, if_neg m1_neg, en0 x3.1, bd_some, gI_s, if_pos rfl]
    exact ⟨0, σ2, _, rfl, rfl, x4.t, ((fA.tr x5).n).s (by omega), Or.inr ⟨rfl, x3.z⟩⟩
