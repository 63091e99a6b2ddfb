/-! clean, know -/
theorem TE_sHa {σ : St} {t c h : Nat} {W : Tw} (hE : TE σ t W) : TE (sI σ (t + 7) c (nI h)) t (sHa W c h) := by
  obtain ⟨a1, a2, a3, a4, a5⟩ := hE
  refine ⟨by simp [gI_sI]; exact a1, by simp [gI_sI]; exact a2, by simp [gI_sI]; exact a3, fun p hp => ?_, fun c' hc => ?_⟩
  · simp [gI_sI]; exact a4 p hp
  · show _ = nI (wkd W c') ∧ _ = nI (wav W c') ∧ _ = nI (who W c') ∧ _ = nI (upd1 (wha W) c h c')
    unfold upd1
    obtain ⟨v1, v2, v3, v4⟩ := a5 c' hc
    by_cases e : c' = c
    · simp [gI_sI, e]; rw [← e]; exact ⟨v1, v2, v3⟩
    · simp [gI_sI, e]; exact ⟨v1, v2, v3, v4⟩
theorem TM_sHa {σ : St} {c h : Nat} {W : Tw} (hM : TM σ W) : TM (sI σ 48 (4 * c + 3) (nI h)) (sHa W c h) := by
  obtain ⟨a1, a2, a3, a4, a5⟩ := hM
  refine ⟨by simp [gI_sI]; exact a1, by simp [gI_sI]; exact a2, by simp [gI_sI]; exact a3, fun p hp => ?_, fun c' hc => ?_⟩
  · simp [gI_sI]; exact a4 p hp
  · show _ = nI (wkd W c') ∧ _ = nI (wav W c') ∧ _ = nI (who W c') ∧ _ = nI (upd1 (wha W) c h c')
    unfold upd1
    obtain ⟨v1, v2, v3, v4⟩ := a5 c' hc
    rw [gI_p (by omega), gI_p (by omega), gI_p (by omega)]
    refine ⟨v1, v2, v3, ?_⟩
    by_cases e : c' = c
    · rw [e, gI_s, if_pos rfl]
    · rw [gI_p (by omega), if_neg e]; exact v4
theorem Gd_sHa {W : Tw} {c h : Nat} (hG : Gd W) (hh : h < 2 ^ wP W) (hb : h.testBit (who W c) = true) : Gd (sHa W c h) := by
  obtain ⟨g12, g3, g4, g5⟩ := hG
  refine ⟨g12, g3, g4, fun c' hc => ?_⟩
  show wkd W c' < 6 ∧ (1 ≤ wav W c' ∧ wav W c' < 100) ∧ who W c' < wP W ∧ upd1 (wha W) c h c' < 2 ^ wP W ∧ (upd1 (wha W) c h c').testBit (who W c') = true
  obtain ⟨v1, v2, v3, v4, v5⟩ := g5 c' hc
  by_cases e : c' = c
  · rw [e, up_s]; rw [e] at v1 v2 v3; exact ⟨v1, v2, v3, hh, hb⟩
  · rw [up_o e]; exact ⟨v1, v2, v3, v4, v5⟩
theorem st_clean : St_clean Inv := by
  intro σ a1 hI
  have hb := hI.isT
  have ht := hI.t
  obtain ⟨W, hE, hM, hG⟩ := hI.w
  have g1 := hG.1.1
  have g2 := hG.1.2
  rcases (arg a1 (wC W) (by omega)).symm with ho | ⟨c, hc, rfl⟩
  · refine ⟨-1, σ, σ, ?_, ?_, hI⟩
    · unfold fE_clean
      rw [if_pos hb, hc_o hE.2.1 g2 ho, if_pos rfl]
    · unfold fM_clean
      rw [mc_o hM.2.1 g2 ho, if_pos rfl]
  obtain ⟨x1, x2, x3, x4⟩ := hE.2.2.2.2 c hc
  obtain ⟨k1, k2, k3, k4, k5⟩ := hG.2.2.2 c hc
  have hp := p27 g1
  have hF : PE σ (sI σ (gR σ 0 + 7) c (nI (2 ^ who W c))) := PE.rf.s (by omega)
  have hM1 := hM.e hF
  obtain ⟨y1, y2, y3, y4⟩ := M_its hM1 hG hc
  refine hI.fin (r := nI (pc (wha W c)) - 1) (TE_sHa (h := 2 ^ who W c) hE) (TM_sHa (c := c) (h := 2 ^ who W c) hM1) (Gd_sHa hG (Nat.pow_lt_pow_right (by decide) k3) Nat.testBit_two_pow_self) hF (PM.rf.s (by omega)) ?_ ?_
  · unfold fE_clean
    simp (disch := omega) only [ib_t, ix_nI, nm_def, bd_some, bi_some, if_true, if_false, eq_self, nI_1, one_ne, hb, hc_i hE.2.1 g2 hc, x3, x4, bc_nI (wha W c) (by omega), sh1 (who W c) (by omega)]
  · unfold fM_clean
    have e3 : (4 : Int32) * nI c + 3 = nI (4 * c + 3) := nI_m4 c 3
    simp (disch := omega) only [ib_t, ix_nI, nm_def, bd_some, bi_some, if_true, if_false, eq_self, nI_1, one_ne, mc_i hM1.2.1 g2 hc, y3, y4, M_ones (σ := sI σ (gR σ 0 + 7) c (nI (2 ^ who W c))) (show wha W c < 128 by omega), e3, sh1 (who W c) (show who W c < 31 by omega)]
theorem or_x {s b : Nat} (h : s.testBit b = false) : s ||| 2 ^ b = s ^^^ 2 ^ b := by
  apply nat_ext
  intro q
  rw [Nat.testBit_or, Nat.testBit_xor, Nat.testBit_two_pow]
  by_cases e : b = q
  · subst e; simp [h]
  · have : decide (b = q) = false := by simpa using e
    rw [this]; cases s.testBit q <;> rfl
theorem wo_x {s b : Nat} (h : s.testBit b = true) : wo s (2 ^ b) = s ^^^ 2 ^ b := by
  apply nat_ext
  intro q
  rw [wo_bit, Nat.testBit_xor, Nat.testBit_two_pow]
  by_cases e : b = q
  · subst e; simp [h]
  · have : decide (b = q) = false := by simpa using e
    rw [this]; cases s.testBit q <;> rfl
theorem E_acq {σ : St} {t a b : Nat} {i3 : Int32} {W : Tw} (hE : TE σ t W) (hG : Gd W) (ha : a < wP W) (hb : b < wP W) (hab : ¬ a = b) (h : (i3 = 1 ∧ (wkn W a).testBit b = false) ∨ (i3 = 0 ∧ (wkn W a).testBit b = true)) : fT_acquaint σ t (nI a) (nI b) i3 = some (sI (sI σ (t + 3) a (nI (wkn W a ^^^ 2 ^ b))) (t + 3) b (nI (wkn W b ^^^ 2 ^ a))) := by
  have g1 := hG.1.1
  have h7 := p27 g1
  have x1 := (hE.2.2.2.1 a ha).2.2
  have x2 := (hE.2.2.2.1 b hb).2.2
  have y1 := (hG.2.1 a ha).2.1
  have y2 := (hG.2.1 b hb).2.1
  have hs := hG.2.2.1 a b ha hb
  have pa := p231 (show a < 31 by omega)
  have pb := p231 (show b < 31 by omega)
  unfold fT_acquaint fT_acquaint_34
  rcases h with ⟨rfl, h⟩ | ⟨rfl, h⟩
  · simp (disch := omega) only [ib_t, ix_nI, nm_def, bd_some, bi_some, if_true, if_false, eq_self, nI_1, one_ne, x1, x2, gI_p (show b ≠ a from fun z => hab z.symm), sh1 a (show a < 31 by omega), sh1 b (show b < 31 by omega), nI_or (show wkn W a < 2 ^ 31 by omega) pb, nI_or (show wkn W b < 2 ^ 31 by omega) pa, or_x h, or_x (hs.symm.trans h)]
  · simp (disch := omega) only [ib_t, ix_nI, nm_def, bd_some, bi_some, if_true, if_false, eq_self, nI_1, one_ne, x1, x2, gI_p (show b ≠ a from fun z => hab z.symm), sh1 a (show a < 31 by omega), sh1 b (show b < 31 by omega), nI_wo (show wkn W a < 2 ^ 31 by omega) pb, nI_wo (show wkn W b < 2 ^ 31 by omega) pa, wo_x h, wo_x (hs.symm.trans h)]
theorem M_swp {σ : St} {a b : Nat} {W : Tw} (hM : TM σ W) (hG : Gd W) (ha : a < wP W) (hb : b < wP W) (hab : ¬ a = b) : fM_swapsKnow σ (nI a) (nI b) = some (sI (sI σ 47 a (nI (wkn W a ^^^ 2 ^ b))) 47 b (nI (wkn W b ^^^ 2 ^ a))) := by
  have g1 := hG.1.1
  have h7 := p27 g1
  have x1 := (hM.2.2.2.1 a ha).2.2
  have x2 := (hM.2.2.2.1 b hb).2.2
  have y1 := (hG.2.1 a ha).2.1
  have y2 := (hG.2.1 b hb).2.1
  have pa := p231 (show a < 31 by omega)
  have pb := p231 (show b < 31 by omega)
  unfold fM_swapsKnow
  simp (disch := omega) only [ib_t, ix_nI, nm_def, bd_some, bi_some, if_true, if_false, eq_self, nI_1, one_ne, x1, x2, gI_p (show b ≠ a from fun z => hab z.symm), sh1 a (show a < 31 by omega), sh1 b (show b < 31 by omega), nI_xor (show wkn W a < 2 ^ 31 by omega) pb, nI_xor (show wkn W b < 2 ^ 31 by omega) pa]
theorem TE_kx {σ : St} {t a b : Nat} {W : Tw} (hE : TE σ t W) (hab : ¬ a = b) : TE (sI (sI σ (t + 3) a (nI (wkn W a ^^^ 2 ^ b))) (t + 3) b (nI (wkn W b ^^^ 2 ^ a))) t (kx W a b) := by
  obtain ⟨a1, a2, a3, a4, a5⟩ := hE
  refine ⟨by simp [gI_sI]; exact a1, by simp [gI_sI]; exact a2, by simp [gI_sI]; exact a3, fun p hp => ?_, fun c' hc => ?_⟩
  · show _ = nI (wrk W p) ∧ _ = wsi W p ∧ _ = nI (upd1 (upd1 (wkn W) a (wkn W a ^^^ 2 ^ b)) b (wkn W b ^^^ 2 ^ a) p)
    obtain ⟨v1, v2, v3⟩ := a4 p hp
    rw [gI_o (by omega), gI_o (by omega), gI_o (by omega), gI_o (by omega)]
    refine ⟨v1, v2, ?_⟩
    by_cases e : p = b
    · rw [e, gI_s, up_s]
    · by_cases e2 : p = a
      · rw [gI_p e, up_o e, e2, gI_s, up_s]
      · rw [gI_p e, up_o e, gI_p e2, up_o e2]; exact v3
  · simp [gI_sI]; exact a5 c' hc
theorem TM_kx {σ : St} {a b : Nat} {W : Tw} (hM : TM σ W) (hab : ¬ a = b) : TM (sI (sI σ 47 a (nI (wkn W a ^^^ 2 ^ b))) 47 b (nI (wkn W b ^^^ 2 ^ a))) (kx W a b) := by
  obtain ⟨a1, a2, a3, a4, a5⟩ := hM
  refine ⟨by simp [gI_sI]; exact a1, by simp [gI_sI]; exact a2, by simp [gI_sI]; exact a3, fun p hp => ?_, fun c' hc => ?_⟩
  · show _ = nI (wrk W p) ∧ _ = wsi W p ∧ _ = nI (upd1 (upd1 (wkn W) a (wkn W a ^^^ 2 ^ b)) b (wkn W b ^^^ 2 ^ a) p)
    obtain ⟨v1, v2, v3⟩ := a4 p hp
    rw [gI_o (by omega), gI_o (by omega), gI_o (by omega), gI_o (by omega)]
    refine ⟨v1, v2, ?_⟩
    by_cases e : p = b
    · rw [e, gI_s, up_s]
    · by_cases e2 : p = a
      · rw [gI_p e, up_o e, e2, gI_s, up_s]
      · rw [gI_p e, up_o e, gI_p e2, up_o e2]; exact v3
  · simp [gI_sI]; exact a5 c' hc
theorem kx_bit {W : Tw} {a b p q : Nat} (hab : ¬ a = b) : (wkn (kx W a b) p).testBit q = ((wkn W p).testBit q ^^ ((decide (p = a) && decide (q = b)) || (decide (p = b) && decide (q = a)))) := by
  show (upd1 (upd1 (wkn W) a (wkn W a ^^^ 2 ^ b)) b (wkn W b ^^^ 2 ^ a) p).testBit q = _
  by_cases e : p = b
  · have e2 : ¬ p = a := fun z => hab (z.symm.trans e)
    subst e
    rw [up_s, Nat.testBit_xor, Nat.testBit_two_pow]
    simp [e2, eq_comm]
  · by_cases e2 : p = a
    · subst e2
      rw [up_o e, up_s, Nat.testBit_xor, Nat.testBit_two_pow]
      simp [e, eq_comm]
    · rw [up_o e, up_o e2]; simp [e, e2]
theorem Gd_kx {W : Tw} {a b : Nat} (hG : Gd W) (ha : a < wP W) (hb : b < wP W) (hab : ¬ a = b) : Gd (kx W a b) := by
  obtain ⟨g12, g3, g4, g5⟩ := id hG
  refine ⟨g12, fun p hp => ⟨(g3 p hp).1, ?_, ?_⟩, fun p q hp hq => ?_, g5⟩
  · show upd1 (upd1 (wkn W) a (wkn W a ^^^ 2 ^ b)) b (wkn W b ^^^ 2 ^ a) p < 2 ^ wP W
    by_cases e : p = b
    · rw [e, up_s]; exact Nat.xor_lt_two_pow (g3 b hb).2.1 (Nat.pow_lt_pow_right (by decide) ha)
    · by_cases e2 : p = a
      · rw [up_o e, e2, up_s]; exact Nat.xor_lt_two_pow (g3 a ha).2.1 (Nat.pow_lt_pow_right (by decide) hb)
      · rw [up_o e, up_o e2]; exact (g3 p hp).2.1
  · rw [kx_bit hab, (g3 p hp).2.2]
    by_cases e : p = a
    · have : ¬ p = b := fun z => hab (e.symm.trans z)
      simp [e, hab]
    · simp [e]
  · rw [kx_bit hab, kx_bit hab, g4 p q hp hq]
    congr 1
    by_cases e : p = a <;> by_cases e2 : p = b <;> by_cases e3 : q = a <;> by_cases e4 : q = b <;> simp [e, e2, e3, e4]
theorem st_know : St_know Inv := by
  intro σ a1 a2 a3 hI h01
  have hb := hI.isT
  have ht := hI.t
  obtain ⟨W, hE, hM, hG⟩ := hI.w
  have g1 := hG.1.1
  have h7 := p27 g1
  rcases (arg a1 (wP W) (by omega)).symm with ho | ⟨p, hp, rfl⟩
  · refine ⟨-1, σ, σ, ?_, ?_, hI⟩
    · unfold fE_know
      rw [if_pos hb, hp_o hE.1 g1 ho, if_pos rfl]
    · unfold fM_know
      rw [mp_o hM.1 g1 ho, if_pos rfl]
  rcases (arg a2 (wP W) (by omega)).symm with ho | ⟨q, hq, rfl⟩
  · refine ⟨-1, σ, σ, ?_, ?_, hI⟩
    · unfold fE_know
      rw [if_pos hb, hp_i hE.1 g1 hp, if_neg one_ne, if_pos hb, hp_o hE.1 g1 ho, if_pos rfl]
    · unfold fM_know
      rw [mp_i hM.1 g1 hp, if_neg one_ne, mp_o hM.1 g1 ho, if_pos rfl]
  by_cases hpq : p = q
  · refine ⟨-1, σ, σ, ?_, ?_, hI⟩
    · unfold fE_know
      rw [if_pos hb, hp_i hE.1 g1 hp, if_neg one_ne, if_pos hb, hp_i hE.1 g1 hq, if_neg one_ne, if_pos (by rw [hpq])]
    · unfold fM_know
      rw [mp_i hM.1 g1 hp, if_neg one_ne, mp_i hM.1 g1 hq, if_neg one_ne, if_pos (by rw [hpq])]
  have hpqI : ¬ nI p = nI q := fun z => hpq ((nI_eq (by omega) (by omega)).mp z)
  have y1 := (hG.2.1 p hp).2.1
  have x1 := (hE.2.2.2.1 p hp).2.2
  have z1 := (hM.2.2.2.1 p hp).2.2
  by_cases hk : b2i ((wkn W p).testBit q) = a3
  · refine ⟨0, σ, σ, ?_, ?_, hI⟩
    · unfold fE_know fT_areAcquainted
      simp (disch := omega) only [ib_t, ix_nI, nm_def, bd_some, bi_some, if_true, if_false, eq_self, nI_1, one_ne, hb, hp_i hE.1 g1 hp, hp_i hE.1 g1 hq, hpqI, x1, hold_nI (s31 g1 y1) (show q < 31 by omega), hk]
    · unfold fM_know
      simp (disch := omega) only [ib_t, ix_nI, nm_def, bd_some, bi_some, if_true, if_false, eq_self, nI_1, one_ne, mp_i hM.1 g1 hp, mp_i hM.1 g1 hq, hpqI, z1, has_nI (s31 g1 y1) (show q < 31 by omega), hk]
  have hc : (a3 = 1 ∧ (wkn W p).testBit q = false) ∨ (a3 = 0 ∧ (wkn W p).testBit q = true) := by
    rcases h01 with h | h
    · cases hh : (wkn W p).testBit q
      · rw [hh, h] at hk; exact absurd rfl hk
      · exact Or.inr ⟨h, rfl⟩
    · cases hh : (wkn W p).testBit q
      · exact Or.inl ⟨h, rfl⟩
      · rw [hh, h] at hk; exact absurd rfl hk
  have hF : PE σ (sI (sI σ (gR σ 0 + 3) p (nI (wkn W p ^^^ 2 ^ q))) (gR σ 0 + 3) q (nI (wkn W q ^^^ 2 ^ p))) := (PE.rf.s (by omega)).s (by omega)
  have hM1 := hM.e hF
  refine hI.fin (r := 1) (TE_kx hE hpq) (TM_kx hM1 hpq) (Gd_kx hG hp hq hpq) hF ((PM.rf.s (by omega)).s (by omega)) ?_ ?_
  · unfold fE_know fT_areAcquainted
    simp (disch := omega) only [ib_t, ix_nI, nm_def, bd_some, bi_some, if_true, if_false, eq_self, nI_1, one_ne, hb, hp_i hE.1 g1 hp, hp_i hE.1 g1 hq, hpqI, x1, hold_nI (s31 g1 y1) (show q < 31 by omega), hk, E_acq hE hG hp hq hpq hc]
  · unfold fM_know
    have z2 := (hM1.2.2.2.1 p hp).2.2
    simp (disch := omega) only [ib_t, ix_nI, nm_def, bd_some, bi_some, if_true, if_false, eq_self, nI_1, one_ne, mp_i hM1.1 g1 hp, mp_i hM1.1 g1 hq, hpqI, z2, has_nI (s31 g1 y1) (show q < 31 by omega), hk, M_swp hM1 hG hp hq hpq]
