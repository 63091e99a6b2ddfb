/-! a coin -/
def RC (W W1 : Tw) (k a h hs : Nat) : Prop := (wP W1 = wP W ∧ wC W1 = wC W + 1 ∧ wz W1 = wz W) ∧ wrk W1 = wrk W ∧ wkn W1 = wkn W ∧ wsi W1 = wsi W ∧ (∀ c, c < wC W → wkd W1 c = wkd W c ∧ wav W1 c = wav W c ∧ who W1 c = who W c ∧ wha W1 c = wha W c) ∧ (wkd W1 (wC W) = k ∧ wav W1 (wC W) = a ∧ who W1 (wC W) = h ∧ wha W1 (wC W) = hs)
theorem RC_aC (W : Tw) (k a h : Nat) : RC W (aC W k a h) k a h (2 ^ h) := ⟨⟨rfl, rfl, rfl⟩, rfl, rfl, rfl, fun c hc => ⟨up_o (by omega), up_o (by omega), up_o (by omega), up_o (by omega)⟩, up_s, up_s, up_s, up_s⟩
theorem RC.h {W W1 : Tw} {k a h hs : Nat} (r : RC W W1 k a h hs) (x : Nat) : RC W (sHa W1 (wC W) x) k a h x := by
  obtain ⟨h1, h2, h3, h4, h5, h6, h7, h8, h9⟩ := r
  exact ⟨h1, h2, h3, h4, fun c hc => ⟨(h5 c hc).1, (h5 c hc).2.1, (h5 c hc).2.2.1, (up_o (by omega)).trans (h5 c hc).2.2.2⟩, h6, h7, h8, up_s⟩
theorem TF_RC {σ : St} {k a h hs : Nat} {W W1 : Tw} (r : RC W W1 k a h hs) (hF : TF σ W) : TF (sI (sI (sI (sI (sI σ 52 (4 * wC W) (nI k)) 52 (4 * wC W + 1) (nI a)) 52 (4 * wC W + 2) (nI h)) 52 (4 * wC W + 3) (nI hs)) 44 16 (nI (wC W + 1))) W1 := by
  obtain ⟨a1, a2, a4, a5⟩ := hF
  obtain ⟨⟨r1, r2, -⟩, r3, r4, -, r5, r6, r7, r8, r9⟩ := r
  refine ⟨by rw [r1]; simp [gI_sI]; exact a1, by rw [r2]; simp [gI_sI], fun p hp => ?_, fun c hc => ?_⟩
  · rw [r1] at hp
    rw [r3, r4]
    simp [gI_sI]; exact a4 p hp
  · rw [r2] at hc
    by_cases e : c = wC W
    · subst e
      rw [r6, r7, r8, r9]
      simp [gI_sI]
    · obtain ⟨v1, v2, v3, v4⟩ := a5 c (by omega)
      obtain ⟨u1, u2, u3, u4⟩ := r5 c (by omega)
      rw [u1, u2, u3, u4]
      have nn : ∀ x, x < 4 → gI (sI (sI (sI (sI (sI σ 52 (4 * wC W) (nI k)) 52 (4 * wC W + 1) (nI a)) 52 (4 * wC W + 2) (nI h)) 52 (4 * wC W + 3) (nI hs)) 44 16 (nI (wC W + 1))) 52 (4 * c + x) = gI σ 52 (4 * c + x) := fun x hx => by
        rw [gI_o (by decide), gI_p (by omega), gI_p (by omega), gI_p (by omega), gI_p (by omega)]
      rw [nn 1 (by decide), nn 2 (by decide), nn 3 (by decide), show 4 * c = 4 * c + 0 from rfl, nn 0 (by decide)]
      exact ⟨v1, v2, v3, v4⟩
theorem c194_0 {τ : St} {i1 i2 i3 i4 : Int32} (h : gI τ 44 14 = 0) : fM_wantCoin_194 τ i1 i2 i3 i4 = some (sI τ 44 14 0) := by
  unfold fM_wantCoin_194
  rw [en0 h, bd_some, gI_s, if_pos rfl]
theorem c126_e {τ : St} {fu : Nat} {i1 i2 i3 i4 : Int32} : fM_wantCoin_126 (fu + 1) τ i1 i2 i3 i4 0 = fM_wantCoin_194 τ i1 i2 i3 i4 := by
  rw [fM_wantCoin_126, if_pos rfl]
theorem c126_0 {τ : St} {fu : Nat} {i1 i2 i3 i4 : Int32} (h : gI τ 44 14 = 0) : fM_wantCoin_126 (fu + 1) τ i1 i2 i3 i4 0 = some (sI τ 44 14 0) := by
  rw [fM_wantCoin_126, if_pos rfl, c194_0 h]
theorem c74_0 {τ : St} {i1 i2 : Int32} (h : gI τ 44 14 = 0) : fM_wantCoin_74 τ i1 i2 = some (sI (sI τ 44 14 0) 44 14 0) := by
  unfold fM_wantCoin_74
  rw [nu0 h, bi_some, nm_def, nm_def, gI_s, if_pos rfl, if_pos rfl, c126_0 (fu := 299) gI_s]
theorem c29_0 {τ : St} {i1 : Int32} (h : gI τ 44 14 = 0) : fM_wantCoin_29 τ i1 = some (sI (sI (sI (sI τ 44 14 0) 44 14 0) 44 14 0) 44 14 0) := by
  unfold fM_wantCoin_29
  rw [nu0 h, bi_some, nm_def, gI_s, gI_s, if_pos rfl, if_pos rfl, c74_0 gI_s]
/-- the end of a coin -/
theorem s_end {t : Nat → Nat} {n td f k a h hs : Nat} {σ τ : St} {W W1 : Tw} (s : Sy1 t n σ τ f) (hE : TE σ td W1) (hF : TF τ W) (hG : Gd W) (hC : wC W < 6) (hG1 : Gd W1) (hr : RC W W1 k a h hs) (hsi : ∀ p, wsi W p = 0) : (fX_reads σ 101 = some 1 ∧ ∃ τ', fM_wantCoin_194 τ (nI k) (nI a) (nI h) (nI hs) = some τ' ∧ Rs t n td σ τ W f 1 σ τ') ∨ (fX_reads σ 101 = some 0 ∧ ∃ τ', fM_wantCoin_194 τ (nI k) (nI a) (nI h) (nI hs) = some τ' ∧ Rs t n td σ τ W f 0 σ τ') := by
  unfold fM_wantCoin_194
  rcases s.en with ⟨a1, τ', a2, a3, a4, a5⟩ | ⟨a1, τ', a2, a3, a5⟩
  · have hF2 := hF.g a5
    have x0 : (4 : Int32) * nI (wC W) = nI (4 * wC W) := pk_mul 4 _
    have x1 : nI (4 * wC W) + (1 : Int32) = nI (4 * wC W + 1) := nI_add _ 1
    have x2 : nI (4 * wC W) + (2 : Int32) = nI (4 * wC W + 2) := nI_add _ 2
    have x3 : nI (4 * wC W) + (3 : Int32) = nI (4 * wC W + 3) := nI_add _ 3
    refine Or.inl ⟨a1, _, ?_, FT.rf, ?_, Or.inl ⟨rfl, W1, _, a4, a3.y (τ' := sI (sI (sI (sI (sI τ' 52 (4 * wC W) (nI k)) 52 (4 * wC W + 1) (nI a)) 52 (4 * wC W + 2) (nI h)) 52 (4 * wC W + 3) (nI hs)) 44 16 (nI (wC W + 1))) (fun a b hab => by rw [gI_sI, if_neg (by omega), gI_o (by omega), gI_o (by omega), gI_o (by omega), gI_o (by omega)]) rfl, hE, TF_RC hr hF2, hG1, hr.1.2.2, fun p => by rw [hr.2.2.2.1]; exact hsi p⟩⟩
    · rw [a2, bd_some, a3.2.2.2.2.2, if_neg one_ne]
      simp (disch := omega) only [ib_t, ix_nI, nm_def, if_true, eq_self, nI_1, hF2.2.1, gI_o (show (44 : Nat) ≠ 52 by decide), x0, x2, x3]
    · exact (((((a5.n).s (by omega)).s (by omega)).s (by omega)).s (by omega)).s (by omega)
  · refine Or.inr ⟨a1, τ', ?_, FT.rf, a5.n, Or.inr ⟨rfl, a3⟩⟩
    rw [a2, bd_some, a3.1, if_pos rfl]
theorem Rs.tr {t : Nat → Nat} {n td e e1 : Nat} {q : Int32} {σ τ σ1 τ1 σ' τ' : St} {W : Tw} (f1 : FT td σ σ1) (f2 : FN τ τ1) (he : e ≤ e1) (r : Rs t n td σ1 τ1 W e1 q σ' τ') : Rs t n td σ τ W e q σ' τ' := by
  obtain ⟨r1, r2, r3⟩ := r
  refine ⟨f1.tr r1, f2.tr r2, ?_⟩
  rcases r3 with ⟨a, W', e', b, c⟩ | r3
  · exact Or.inl ⟨a, W', e', by omega, c⟩
  · exact Or.inr r3
theorem Sy1.x {t : Nat → Nat} {n : Nat} {σ σ' τ : St} {e : Nat} (h : Sy1 t n σ τ e) (g : ∀ a b, a = 25 ∨ a = 26 → gI σ' a b = gI σ a b) : Sy1 t n σ' τ e := by
  obtain ⟨⟨a1, a2, a3⟩, h2, h3, h4, h5, h6⟩ := h
  exact ⟨⟨by rw [g _ _ (by omega)]; exact a1, a2, fun i hi => by rw [g 26 i (by omega)]; exact a3 i hi⟩, h2, h3, ⟨by rw [g _ _ (by omega)]; exact h4.1, by rw [g _ _ (by omega)]; exact h4.2⟩, h5, h6⟩
theorem s_had {t : Nat → Nat} {n td k a h : Nat} {W : Tw} (htd : td = 1 ∨ td = 9) (hG : Gd W) (hC : wC W < 6) (hsi : ∀ p, wsi W p = 0) : ∀ d fu fv f i hs σ τ W1, n - f ≤ d → d < fu → d + 1 < fv → i ≤ f → f < n → Sy1 t n σ τ f → TE σ td W1 → TF τ W → Gd W1 → RC W W1 k a h hs → ∃ q σ' τ', fX_readHad_2 fu σ td (nI (wC W)) (nI i) = some (q, σ') ∧ fM_wantCoin_126 fv τ (nI k) (nI a) (nI h) (nI hs) 1 = some τ' ∧ Rs t n td σ τ W f q σ' τ'
  | 0, _, _, f, _, _, _, _, _, hd, _, _, _, hfn, _, _, _, _, _ => absurd hd (by omega)
  | d + 1, 0, _, _, _, _, _, _, _, _, hfu, _, _, _, _, _, _, _, _ => absurd hfu (Nat.not_lt_zero _)
  | d + 1, fu + 1, 0, _, _, _, _, _, _, _, _, hfv, _, _, _, _, _, _, _ => absurd hfv (Nat.not_lt_zero _)
  | d + 1, fu + 1, fv + 1, f, i, hs, σ, τ, W1, hd, hfu, hfv, hif, hfn, s, hE, hF, hG1, hr => by
    have g1 := hG.1.1
    have h7 := p27 g1
    have h200 := s.1.2.1
    have bd := (tg_b (t := t) s.2.2.1).2.2 hfn
    obtain ⟨⟨r1, r2, -⟩, -, -, -, -, -, -, r8, r9⟩ := id hr
    obtain ⟨τ1, m1, s1, f1⟩ := s.ad
    have hF1 := hF.g f1.g
    rw [fX_readHad_2, fM_wantCoin_126, if_neg (show ¬ (200 : Int32) ≤ nI i from nI_ge (b := 200) (by omega) (by omega)), if_neg one_ne, m1, bd_some, hE.1, hF1.1, r1]
    have hm := nI_m1 (n := wP W) (by omega)
    rcases s1.nu (l0 := 0) (by decide) (nI (wP W) - 1) with ⟨p, σ2, τ2, e2, x1, x2, ⟨-, x3, -⟩, x4, x5, x6, x7, -, -⟩ | ⟨w, σ2, τ2, x1, x2, x3, x4, x5, -⟩
    rotate_left
    · obtain ⟨fv', rfl⟩ : ∃ x, fv = x + 1 := ⟨fv - 1, by omega⟩
      rw [show fX_readNumber σ 0 (nI (wP W) - 1) = _ from x1, show fM_wantNumber τ1 0 (nI (wP W) - 1) = _ from x2, bi_some, bi_some, if_neg m1_neg, nm_def, nm_def, x3.1, if_pos rfl, if_pos rfl, c126_0 x3.1]
      exact ⟨0, σ2, _, rfl, rfl, x4.t, ((f1.g.tr x5).n).s (by omega), Or.inr ⟨rfl, x3.z⟩⟩
    have hp : p < wP W := by omega
    have hE2 := hE.fs htd x6
    have hF2 := hF1.g x7
    have hhs : hs < 2 ^ wP W := by
      have := (hG1.2.2.2 (wC W) (by omega)).2.2.2.1
      rw [r1, r9] at this
      exact this
    have hbt : hs.testBit h = true := by
      have := (hG1.2.2.2 (wC W) (by omega)).2.2.2.2
      rw [r8, r9] at this
      exact this
    have pp2 : 2 ^ p < 2 ^ wP W := Nat.pow_lt_pow_right (by decide) hp
    have ho : hs ||| 2 ^ p < 2 ^ wP W := Nat.or_lt_two_pow hhs pp2
    have hx : gI σ2 (td + 7) (wC W) = nI hs := by
      have := (hE2.2.2.2.2 (wC W) (by omega)).2.2.2
      rw [r9] at this
      exact this
    rw [show fX_readNumber σ 0 (nI (wP W) - 1) = _ from x1, show fM_wantNumber τ1 0 (nI (wP W) - 1) = _ from x2, bi_some, bi_some, if_pos (nI_pos' (by omega)), if_pos (ib_nI (by omega) (by omega)), if_pos (ib_nI (by omega) (by omega)), nm_def, ix_nI (by omega), hx, sh1 p (by omega), nI_or (by omega) (by omega), nm_def, nm_def, x4.2.2.2.2.2, if_neg one_ne, if_neg one_ne, nI_or (by omega) (by omega)]
    have s4 : Sy t n (sI σ2 (td + 7) (wC W) (nI (hs ||| 2 ^ p))) τ2 e2 := x4.x (fun a b hab => by rw [gI_o (by omega)])
    have hE3 : TE (sI σ2 (td + 7) (wC W) (nI (hs ||| 2 ^ p))) td (sHa W1 (wC W) (hs ||| 2 ^ p)) := TE_sHa hE2
    have hG3 : Gd (sHa W1 (wC W) (hs ||| 2 ^ p)) := Gd_sHa hG1 (by rw [r1]; exact ho) (by rw [r8, Nat.testBit_or, hbt]; rfl)
    have hr3 := hr.h (hs ||| 2 ^ p)
    have ft : FT td σ (sI σ2 (td + 7) (wC W) (nI (hs ||| 2 ^ p))) := x6.t.s (by omega)
    generalize sI σ2 (td + 7) (wC W) (nI (hs ||| 2 ^ p)) = σ3 at *
    obtain ⟨σ4, w1, w2, w3⟩ := s4.st
    have hfe := (tf_b (t := t) s4.2.2.1).1
    generalize tf t n e2 = f4 at *
    have hE4 := hE3.fs htd w3
    rw [w1, bd_some]
    rcases w2.comma with ⟨z1, z2, z3, z4⟩ | ⟨z1, z2⟩
    · rw [z1, z2, bd_some, if_neg one_ne, if_neg one_ne, nm_def, nI_1]
      obtain ⟨q, σ5, τ5, u1, u2, u3⟩ := s_had htd hG hC hsi d fu fv f4 (i + 1) (hs ||| 2 ^ p) σ4 τ2 _ (by omega) (by omega) (by omega) (by omega) z3 w2 hE4 hF2 hG3 hr3
      exact ⟨q, σ5, τ5, u1, u2, u3.tr (ft.tr w3.t) (f1.g.tr x7).n (by omega)⟩
    · obtain ⟨fv', rfl⟩ : ∃ x, fv = x + 1 := ⟨fv - 1, by omega⟩
      rw [z1, z2, bd_some, if_pos rfl, if_pos rfl, c126_e]
      unfold fX_readHad_55
      rcases s_end w2 hE4 hF2 hG hC hG3 hr3 hsi with ⟨v1, τ5, v2, v3⟩ | ⟨v1, τ5, v2, v3⟩
      · rw [v1, v2, bd_some, if_pos (b01_1)]
        exact ⟨1, σ4, τ5, rfl, rfl, v3.tr (ft.tr w3.t) (f1.g.tr x7).n (by omega)⟩
      · rw [v1, v2, bd_some, if_pos (b01_0)]
        exact ⟨0, σ4, τ5, rfl, rfl, v3.tr (ft.tr w3.t) (f1.g.tr x7).n (by omega)⟩
theorem Rs.q {t : Nat → Nat} {n td e : Nat} {q : Int32} {σ τ σ' τ' : St} {W : Tw} (r : Rs t n td σ τ W e q σ' τ') : b01 q := by
  rcases r.2.2 with ⟨a, -⟩ | ⟨a, -⟩
  · rw [a]; exact b01_1
  · rw [a]; exact b01_0
theorem s_coin {t : Nat → Nat} {n td f k : Nat} {σ τ : St} {W : Tw} (htd : td = 1 ∨ td = 9) (hk : k < 6) (h : Sy1 t n σ τ f) (hfn : f < n) (hE : TE σ td W) (hF : TF τ W) (hG : Gd W) (hsi : ∀ p, wsi W p = 0) : ∃ q σ' τ', fX_readCoin σ td (nI k) = some (q, σ') ∧ fM_wantCoin τ (nI k) = some τ' ∧ Rs t n td σ τ W f q σ' τ' := by
  have g1 := hG.1.1
  have g2 := hG.1.2
  have h200 := h.1.2.1
  have bd := (tg_b (t := t) h.2.2.1).2.2 hfn
  unfold fX_readCoin fM_wantCoin
  by_cases hC : wC W = 6
  · refine ⟨0, σ, _, ?_, ?_, FT.rf, ?_, Or.inr ⟨rfl, h.g0.z.z.z.z⟩⟩
    · rw [hE.2.1, hC, if_neg (by decide)]
    · rw [nm_def, hF.2.1, hC, if_pos (show (6 : Int32) ≤ nI 6 by decide), gI_s, if_pos rfl, c29_0 gI_s]
    · exact ((((FN.rf.s (by omega)).s (by omega)).s (by omega)).s (by omega)).s (by omega)
  have hC6 : wC W < 6 := by omega
  obtain ⟨τ1, m1, s1, f1⟩ := h.g1.ad
  have fA : FG τ τ1 := (FG.rf.s (by omega)).tr f1.g
  rw [hE.2.1, if_pos (show nI (wC W) < (6 : Int32) from nI_lt (b := 6) hC6 (by decide)), nm_def, hF.2.1, if_neg (show ¬ (6 : Int32) ≤ nI (wC W) from nI_ge (b := 6) hC6 (by decide)), gI_s, if_neg one_ne, m1, bd_some]
  have hF1 := hF.g fA
  unfold fM_wantCoin_29
  rcases s1.nu (l0 := 1) (by decide) 99 with ⟨a, σ2, τ2, e2, x1, x2, ⟨xa, x3, -⟩, x4, x5, x6, x7, -, -⟩ | ⟨w, σ2, τ2, x1, x2, x3, x4, x5, -⟩
  rotate_left
  · rw [show fX_readNumber σ 1 99 = _ from x1, show fM_wantNumber τ1 1 99 = _ from x2, bi_some, bi_some, if_neg m1_neg, nm_def, x3.1, if_pos rfl, gI_s, if_pos rfl, c74_0 gI_s]
    exact ⟨0, σ2, _, rfl, rfl, x4.t, ((((fA.tr x5).n).s (by omega)).s (by omega)).s (by omega), Or.inr ⟨rfl, x3.z.z.z⟩⟩
  rw [show (99 : Int32).toInt = 99 from rfl] at x3
  rw [show fX_readNumber σ 1 99 = _ from x1, show fM_wantNumber τ1 1 99 = _ from x2, bi_some, bi_some, if_pos (nI_pos' (by omega)), nm_def, x4.2.2.2.2.2, if_neg one_ne]
  have hE2 := hE.fs htd x6
  have hF2 := hF1.g x7
  obtain ⟨σ3, w1, w2, w3⟩ := x4.st
  have hfe := (tf_b (t := t) x4.2.2.1).1
  generalize tf t n e2 = f3 at *
  have hE3 := hE2.fs htd w3
  rw [w1, bd_some]
  rcases w2.wd (r := 9) (by decide) (by decide +kernel) 411 (by decide +kernel) with ⟨z1, z2, z3, z4⟩ | ⟨z1, z2⟩
  rotate_left
  · rw [show fX_reads σ3 109 = _ from z1, z2, bd_some, if_pos rfl, if_pos rfl, gI_s, if_pos rfl, c74_0 gI_s]
    exact ⟨0, σ3, _, rfl, rfl, (x6.tr w3).t, ((((fA.tr x7).n).s (by omega)).s (by omega)).s (by omega), Or.inr ⟨rfl, w2.g0.z.z⟩⟩
  obtain ⟨τ3, m3, s3, f3'⟩ := w2.g1.ad
  rw [show fX_reads σ3 109 = _ from z1, z2, bd_some, if_neg one_ne, if_neg one_ne, gI_s, if_neg one_ne, m3, bd_some]
  have fB : FG τ2 τ3 := (FG.rf.s (by omega)).tr f3'.g
  have hF3 := hF2.g fB
  unfold fM_wantCoin_74
  rw [hE3.1, hF3.1]
  have hm := nI_m1 (n := wP W) (by omega)
  rcases s3.nu (l0 := 0) (by decide) (nI (wP W) - 1) with ⟨ho, σ4, τ4, e4, y1, y2, ⟨-, y3, -⟩, y4, y5, y6, y7, -, -⟩ | ⟨w, σ4, τ4, y1, y2, y3, y4, y5, -⟩
  rotate_left
  · rw [show fX_readNumber σ3 0 (nI (wP W) - 1) = _ from y1, show fM_wantNumber τ3 0 (nI (wP W) - 1) = _ from y2, bi_some, bi_some, if_neg m1_neg, nm_def, nm_def, y3.1, if_pos rfl, if_pos rfl, c126_0 (fu := 299) y3.1]
    exact ⟨0, σ4, _, rfl, rfl, ((x6.tr w3).tr y4).t, ((((fA.tr x7).tr fB).tr y5).n).s (by omega), Or.inr ⟨rfl, y3.z⟩⟩
  have hho : ho < wP W := by omega
  have hE4 := hE3.fs htd y6
  have hF4 := hF3.g y7
  rw [show fX_readNumber σ3 0 (nI (wP W) - 1) = _ from y1, show fM_wantNumber τ3 0 (nI (wP W) - 1) = _ from y2, bi_some, bi_some, if_pos (nI_pos' (by omega)), E_addC hE4 hC6 (by omega), bi_some, nm_def, nm_def, y4.2.2.2.2.2, if_neg one_ne, if_neg one_ne, sh1 ho (by omega)]
  have hE5 := TE_aC (k := k) (a := a) (p := ho) hE4
  have hG5 := Gd_aC hG hC6 hk ⟨xa, (by omega : a < 100)⟩ hho
  have hr5 := RC_aC W k a ho
  have s5 : Sy t n (sI (sI (sI (sI (sI σ4 (td + 4) (wC W) (nI k)) (td + 5) (wC W) (nI a)) (td + 6) (wC W) (nI ho)) (td + 7) (wC W) (nI (2 ^ ho))) td 1 (nI (wC W + 1))) τ4 e4 := y4.x (fun a b hab => by rw [gI_o (by omega), gI_o (by omega), gI_o (by omega), gI_o (by omega), gI_o (by omega)])
  have ft : FT td σ (sI (sI (sI (sI (sI σ4 (td + 4) (wC W) (nI k)) (td + 5) (wC W) (nI a)) (td + 6) (wC W) (nI ho)) (td + 7) (wC W) (nI (2 ^ ho))) td 1 (nI (wC W + 1))) := (((((((x6.tr w3).tr y6).t).s (by omega)).s (by omega)).s (by omega)).s (by omega)).s (by omega)
  generalize sI (sI (sI (sI (sI σ4 (td + 4) (wC W) (nI k)) (td + 5) (wC W) (nI a)) (td + 6) (wC W) (nI ho)) (td + 7) (wC W) (nI (2 ^ ho))) td 1 (nI (wC W + 1)) = σ5 at *
  have fn : FN τ τ4 := (((fA.tr x7).tr fB).tr y7).n
  obtain ⟨σ6, v1, v2, v3⟩ := s5.st
  have hfe6 := (tf_b (t := t) s5.2.2.1).1
  generalize tf t n e4 = f6 at *
  have hE6 := hE5.fs htd v3
  rw [v1, bd_some]
  rcases v2.wd (r := 10) (by decide) (by decide +kernel) 5863 (by decide +kernel) with ⟨u1, u2, u3, u4⟩ | ⟨u1, u2⟩
  · rw [show fX_reads σ6 110 = _ from u1, u2, bd_some, if_neg one_ne, if_neg one_ne]
    unfold fX_readHad
    obtain ⟨q, σ7, τ7, b1, b2, b3⟩ := s_had htd hG hC6 hsi (n - f6) 300 300 f6 0 (2 ^ ho) σ6 τ4 _ (by omega) (by omega) (by omega) (by omega) u3 v2 hE6 hF4 hG5 hr5
    rw [show fX_readHad_2 300 σ6 td (nI (wC W)) 0 = _ from b1, b2, bi_some, if_pos b3.q]
    exact ⟨q, σ7, τ7, rfl, rfl, b3.tr (ft.tr v3.t) fn (by omega)⟩
  · rw [show fX_reads σ6 110 = _ from u1, u2, bd_some, if_pos rfl, if_pos rfl, c126_e (fu := 299)]
    rcases s_end v2 hE6 hF4 hG hC6 hG5 hr5 hsi with ⟨b1, τ7, b2, b3⟩ | ⟨b1, τ7, b2, b3⟩
    · rw [b1, b2, bd_some, if_pos (b01_1)]
      exact ⟨1, σ6, τ7, rfl, rfl, b3.tr (ft.tr v3.t) fn (by omega)⟩
    · rw [b1, b2, bd_some, if_pos (b01_0)]
      exact ⟨0, σ6, τ7, rfl, rfl, b3.tr (ft.tr v3.t) fn (by omega)⟩
