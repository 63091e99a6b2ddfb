/-! give, lot, lots -/
theorem TE_gv {σ : St} {t c p : Nat} {W : Tw} (hE : TE σ t W) : TE (sI (sI σ (t + 6) c (nI p)) (t + 7) c (nI (wha W c ||| 2 ^ p))) t (gv W c p) := by
  obtain ⟨a1, a2, a3, a4, a5⟩ := hE
  refine ⟨by simp [gI_sI]; exact a1, by simp [gI_sI]; exact a2, by simp [gI_sI]; exact a3, fun q hq => ?_, fun c' hc => ?_⟩
  · simp [gI_sI]; exact a4 q hq
  · show _ = nI (wkd W c') ∧ _ = nI (wav W c') ∧ _ = nI (upd1 (who W) c p c') ∧ _ = nI (upd1 (wha W) c (wha W c ||| 2 ^ p) c')
    obtain ⟨v1, v2, v3, v4⟩ := a5 c' hc
    rw [gI_o (by omega), gI_o (by omega), gI_o (by omega), gI_o (by omega), gI_o (show t + 6 ≠ t + 7 by omega)]
    by_cases e : c' = c
    · rw [e, gI_s, gI_s, up_s, up_s]; rw [e] at v1 v2; exact ⟨v1, v2, rfl, rfl⟩
    · rw [gI_p e, gI_p e, gI_o (by omega), up_o e, up_o e]; exact ⟨v1, v2, v3, v4⟩
theorem TM_gv {σ : St} {c p : Nat} {W : Tw} (hM : TM σ W) : TM (sI (sI σ 48 (4 * c + 2) (nI p)) 48 (4 * c + 3) (nI (wha W c ||| 2 ^ p))) (gv W c p) := by
  obtain ⟨a1, a2, a3, a4, a5⟩ := hM
  refine ⟨by simp [gI_sI]; exact a1, by simp [gI_sI]; exact a2, by simp [gI_sI]; exact a3, fun q hq => ?_, fun c' hc => ?_⟩
  · simp [gI_sI]; exact a4 q hq
  · show _ = nI (wkd W c') ∧ _ = nI (wav W c') ∧ _ = nI (upd1 (who W) c p c') ∧ _ = nI (upd1 (wha W) c (wha W c ||| 2 ^ p) c')
    obtain ⟨v1, v2, v3, v4⟩ := a5 c' hc
    rw [gI_p (by omega), gI_p (by omega), gI_p (by omega), gI_p (by omega), gI_p (show 4 * c' + 2 ≠ 4 * c + 3 by omega)]
    refine ⟨v1, v2, ?_, ?_⟩
    · by_cases e : c' = c
      · rw [e, gI_s, up_s]
      · rw [gI_p (by omega), up_o e]; exact v3
    · by_cases e : c' = c
      · rw [e, gI_s, up_s]
      · rw [gI_p (by omega), gI_p (by omega), up_o e]; exact v4
theorem Gd_gv {W : Tw} {c p : Nat} (hG : Gd W) (hc : c < wC W) (hp : p < wP W) : Gd (gv W c p) := by
  obtain ⟨g12, g3, g4, g5⟩ := hG
  refine ⟨g12, g3, g4, fun c' hc' => ?_⟩
  show wkd W c' < 6 ∧ (1 ≤ wav W c' ∧ wav W c' < 100) ∧ upd1 (who W) c p c' < wP W ∧ upd1 (wha W) c (wha W c ||| 2 ^ p) c' < 2 ^ wP W ∧ (upd1 (wha W) c (wha W c ||| 2 ^ p) c').testBit (upd1 (who W) c p c') = true
  obtain ⟨v1, v2, v3, v4, v5⟩ := g5 c' hc'
  by_cases e : c' = c
  · rw [e, up_s, up_s]
    rw [e] at v1 v2 v4
    refine ⟨v1, v2, hp, Nat.or_lt_two_pow v4 (Nat.pow_lt_pow_right (by decide) hp), ?_⟩
    rw [Nat.testBit_or, Nat.testBit_two_pow_self, Bool.or_true]
  · rw [up_o e, up_o e]; exact ⟨v1, v2, v3, v4, v5⟩
/-- whether all have it then -/
def fu (W : Tw) (c p : Nat) : Bool := decide (wha W c ||| 2 ^ p = 2 ^ wP W - 1)
def hW (W : Tw) (c p : Nat) : Tw := if fu W c p = true then dC (sSi (gv W c p) p (wsi W p + nI (wth (wkd W c) (wav W c)))) c else gv W c p
theorem Gd_hW {W : Tw} {c p : Nat} (hG : Gd W) (hc : c < wC W) (hp : p < wP W) : Gd (hW W c p) := by
  unfold hW
  by_cases h : fu W c p = true
  · rw [if_pos h]; exact Gd_dC (Gd_sSi (Gd_gv hG hc hp))
  · rw [if_neg h]; exact Gd_gv hG hc hp
theorem ev_P {P : Nat} (h : P ≤ 7) : ((1 : Int32) <<< (nI P &&& 31)) - 1 = nI (2 ^ P - 1) := by
  rw [sh1 P (by omega)]
  exact pk_sub (b := 1) (Nat.two_pow_pos P)
theorem E_hand {σ : St} {t c p : Nat} {W : Tw} (ht : t = 1 ∨ t = 9) (hE : TE σ t W) (hG : Gd W) (hc : c < wC W) (hp : p < wP W) : ∃ τ, fT_hand σ t (nI c) (nI p) = some (b2i (fu W c p), τ) ∧ TE τ t (hW W c p) ∧ PE σ τ := by
  have g1 := hG.1.1
  have g2 := hG.1.2
  have h7 := p27 g1
  have pp := p231 (show p < 31 by omega)
  obtain ⟨x1, x2, x3, x4⟩ := hE.2.2.2.2 c hc
  obtain ⟨k1, k2, k3, k4, k5⟩ := hG.2.2.2 c hc
  have hE1 := TE_gv (c := c) (p := p) hE
  have hG1 := Gd_gv hG hc hp
  have hlt : wha W c ||| 2 ^ p < 2 ^ wP W := Nat.or_lt_two_pow k4 (Nat.pow_lt_pow_right (by decide) hp)
  have eo : nI (wha W c) ||| nI (2 ^ p) = nI (wha W c ||| 2 ^ p) := nI_or (by omega) pp
  have hf : PE σ (sI (sI σ (t + 6) c (nI p)) (t + 7) c (nI (wha W c ||| 2 ^ p))) := (PE.rf.s (by omega)).s (by omega)
  unfold fT_hand
  simp (disch := omega) only [ib_t, ix_nI, nm_def, bd_some, bi_some, if_true, if_false, eq_self, nI_1, one_ne, sh1 p (show p < 31 by omega), gI_o (show t + 7 ≠ t + 6 by omega), x4, eo, gI_s, hE1.1, ev_P (P := wP (gv W c p)) g1]
  by_cases hfu : wha W c ||| 2 ^ p = 2 ^ wP W - 1
  · have h1 : fu W c p = true := by unfold fu; simpa using hfu
    have hi : nI (wha W c ||| 2 ^ p) = nI (2 ^ wP (gv W c p) - 1) := congrArg nI hfu
    have w1 := E_worth hE1 hG1 hc
    have w2 := (hE1.2.2.2.1 p hp).2.1
    obtain ⟨τ, r1, r2, r3⟩ := E_rem ht (TE_sSi (p := p) (v := wsi W p + nI (wth (wkd W c) (wav W c))) hE1) (Gd_sSi (p := p) (v := wsi W p + nI (wth (wkd W c) (wav W c))) hG1) hc
    refine ⟨τ, ?_, ?_, PE.tr (hf.s (by omega)) r3⟩
    · rw [if_pos hi, w1, bd_some, w2]
      show (fT_removeCoin (sI _ (t + 2) p (wsi W p + nI (wth (wkd W c) (wav W c)))) t (nI c)).bind _ = _
      rw [r1, h1]
      rfl
    · unfold hW
      rw [if_pos h1]
      exact r2
  · have h1 : fu W c p = false := by unfold fu; simpa using hfu
    have hi : ¬ nI (wha W c ||| 2 ^ p) = nI (2 ^ wP (gv W c p) - 1) := fun z => hfu ((nI_eq (by omega) (show 2 ^ wP W - 1 < 2 ^ 31 by omega)).mp z)
    refine ⟨_, ?_, ?_, hf⟩
    · rw [if_neg hi, h1]; rfl
    · unfold hW
      rw [if_neg (by rw [h1]; decide)]
      exact hE1
theorem M_gives {σ : St} {c p : Nat} {W : Tw} (hM : TM σ W) (hG : Gd W) (hc : c < wC W) (hp : p < wP W) : ∃ τ, fM_gives σ (nI c) (nI p) = some (b2i (fu W c p), τ) ∧ TM τ (hW W c p) ∧ PM σ τ := by
  have g1 := hG.1.1
  have g2 := hG.1.2
  have h7 := p27 g1
  have pp := p231 (show p < 31 by omega)
  obtain ⟨x1, x2, x3, x4⟩ := hM.2.2.2.2 c hc
  obtain ⟨k1, k2, k3, k4, k5⟩ := hG.2.2.2 c hc
  have hM1 := TM_gv (c := c) (p := p) hM
  have hG1 := Gd_gv hG hc hp
  have hlt : wha W c ||| 2 ^ p < 2 ^ wP W := Nat.or_lt_two_pow k4 (Nat.pow_lt_pow_right (by decide) hp)
  have eo : nI (wha W c) ||| nI (2 ^ p) = nI (wha W c ||| 2 ^ p) := nI_or (by omega) pp
  have hf : PM σ (sI (sI σ 48 (4 * c + 2) (nI p)) 48 (4 * c + 3) (nI (wha W c ||| 2 ^ p))) := (PM.rf.s (by omega)).s (by omega)
  have e2 : (4 : Int32) * nI c + 2 = nI (4 * c + 2) := nI_m4 c 2
  have e3 : (4 : Int32) * nI c + 3 = nI (4 * c + 3) := nI_m4 c 3
  have i3 := (M_its hM1 hG1 hc).2.2.2
  have i3' : wha (gv W c p) c = wha W c ||| 2 ^ p := up_s
  rw [i3'] at i3
  unfold fM_gives fM_everybody
  simp (disch := omega) only [ib_t, ix_nI, nm_def, bd_some, bi_some, if_true, if_false, eq_self, nI_1, one_ne, e2, e3, sh1 p (show p < 31 by omega), gI_p (show 4 * c + 3 ≠ 4 * c + 2 by omega), x4, eo, i3, hM1.1, ev_P (P := wP (gv W c p)) g1]
  by_cases hfu : wha W c ||| 2 ^ p = 2 ^ wP W - 1
  · have h1 : fu W c p = true := by unfold fu; simpa using hfu
    have hi : nI (wha W c ||| 2 ^ p) = nI (2 ^ wP (gv W c p) - 1) := congrArg nI hfu
    have w1 := M_worth hM1 hG1 hc
    have w2 := (hM1.2.2.2.1 p hp).2.1
    obtain ⟨τ, r1, r2, r3⟩ := M_goes (TM_sSi (p := p) (v := wsi W p + nI (wth (wkd W c) (wav W c))) hM1) (Gd_sSi (p := p) (v := wsi W p + nI (wth (wkd W c) (wav W c))) hG1) hc
    refine ⟨τ, ?_, ?_, PM.tr (hf.s (by omega)) r3⟩
    · rw [if_pos hi, if_neg one_ne, w1, bd_some, w2]
      show (fM_goes (sI _ 46 p (wsi W p + nI (wth (wkd W c) (wav W c)))) (nI c)).bind _ = _
      rw [r1, h1, bd_some, if_pos (show b01 1 from Or.inr rfl)]
      rfl
    · unfold hW
      rw [if_pos h1]
      exact r2
  · have h1 : fu W c p = false := by unfold fu; simpa using hfu
    have hi : ¬ nI (wha W c ||| 2 ^ p) = nI (2 ^ wP (gv W c p) - 1) := fun z => hfu ((nI_eq (by omega) (show 2 ^ wP W - 1 < 2 ^ 31 by omega)).mp z)
    refine ⟨_, ?_, ?_, hf⟩
    · rw [if_neg hi, if_pos rfl, if_pos (show b01 0 from Or.inl rfl), h1]; rfl
    · unfold hW
      rw [if_neg (by rw [h1]; decide)]
      exact hM1
theorem st_give : St_give Inv := by
  intro σ a1 a2 hI
  have hb := hI.isT
  have ht := hI.t
  obtain ⟨W, hE, hM, hG⟩ := hI.w
  have g1 := hG.1.1
  have g2 := hG.1.2
  rcases (arg a1 (wC W) (by omega)).symm with ho | ⟨c, hc, rfl⟩
  · refine ⟨-1, σ, σ, ?_, ?_, hI⟩
    · unfold fE_give
      rw [if_pos hb, hc_o hE.2.1 g2 ho, if_pos rfl]
    · unfold fM_give
      rw [mc_o hM.2.1 g2 ho, if_pos rfl]
  rcases (arg a2 (wP W) (by omega)).symm with ho | ⟨p, hp, rfl⟩
  · refine ⟨-1, σ, σ, ?_, ?_, hI⟩
    · unfold fE_give
      simp (disch := omega) only [ib_t, ix_nI, nm_def, bd_some, bi_some, if_true, if_false, eq_self, nI_1, one_ne, hb, hc_i hE.2.1 g2 hc, hp_o hE.1 g1 ho]
    · unfold fM_give
      simp (disch := omega) only [ib_t, ix_nI, nm_def, bd_some, bi_some, if_true, if_false, eq_self, nI_1, one_ne, mc_i hM.2.1 g2 hc, mp_o hM.1 g1 ho]
  by_cases hm : (tkc W c).testBit p = true
  · obtain ⟨τ1, r1, r2, r3⟩ := E_hand ht hE hG hc hp
    have hM1 := hM.e r3
    obtain ⟨τ2, s1, s2, s3⟩ := M_gives hM1 hG hc hp
    refine hI.fin (r := if b2i (fu W c p) = 0 then 1 else 2) r2 s2 (Gd_hW hG hc hp) r3 s3 ?_ ?_
    · unfold fE_give
      simp (disch := omega) only [ib_t, ix_nI, nm_def, bd_some, bi_some, if_true, if_false, eq_self, nI_1, one_ne, hb, hc_i hE.2.1 g2 hc, hp_i hE.1 g1 hp, E_takers hE hG hc, hold_nI (s31 g1 (tkc_lt (W := W) (c := c))) (show p < 31 by omega), hm, b2t, r1]
    · unfold fM_give
      rw [tkc_bit hp] at hm
      simp (disch := omega) only [ib_t, ix_nI, nm_def, bd_some, bi_some, if_true, if_false, eq_self, nI_1, one_ne, mc_i hM1.2.1 g2 hc, mp_i hM1.1 g1 hp, M_mayNow hM1 hG hc hp, hm, b2t, s1]
  · have hm' : (tkc W c).testBit p = false := by simpa using hm
    refine ⟨-4, σ, σ, ?_, ?_, hI⟩
    · unfold fE_give
      simp (disch := omega) only [ib_t, ix_nI, nm_def, bd_some, bi_some, if_true, if_false, eq_self, nI_1, one_ne, hb, hc_i hE.2.1 g2 hc, hp_i hE.1 g1 hp, E_takers hE hG hc, hold_nI (s31 g1 (tkc_lt (W := W) (c := c))) (show p < 31 by omega), hm', b2f]
    · unfold fM_give
      rw [tkc_bit hp] at hm'
      simp (disch := omega) only [ib_t, ix_nI, nm_def, bd_some, bi_some, if_true, if_false, eq_self, nI_1, one_ne, mc_i hM.2.1 g2 hc, mp_i hM.1 g1 hp, M_mayNow hM hG hc hp, hm', b2f]
