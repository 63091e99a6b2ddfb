/-! calls that change the town -/
def upd1 {α : Type} (f : Nat → α) (i : Nat) (v : α) : Nat → α := fun j => if j = i then v else f j
theorem up_s {α : Type} {f : Nat → α} {i : Nat} {v : α} : upd1 f i v i = v := if_pos rfl
theorem up_o {α : Type} {f : Nat → α} {i j : Nat} {v : α} (h : ¬ j = i) : upd1 f i v j = f j := if_neg h
def aP (W : Tw) (r : Nat) : Tw := (wP W + 1, wC W, wz W, upd1 (wrk W) (wP W) r, upd1 (wsi W) (wP W) 0, upd1 (wkn W) (wP W) 0, wkd W, wav W, who W, wha W)
def aC (W : Tw) (k a p : Nat) : Tw := (wP W, wC W + 1, wz W, wrk W, wsi W, wkn W, upd1 (wkd W) (wC W) k, upd1 (wav W) (wC W) a, upd1 (who W) (wC W) p, upd1 (wha W) (wC W) (2 ^ p))
def sHa (W : Tw) (c h : Nat) : Tw := (wP W, wC W, wz W, wrk W, wsi W, wkn W, wkd W, wav W, who W, upd1 (wha W) c h)
def kx (W : Tw) (a b : Nat) : Tw := (wP W, wC W, wz W, wrk W, wsi W, upd1 (upd1 (wkn W) a (wkn W a ^^^ 2 ^ b)) b (wkn W b ^^^ 2 ^ a), wkd W, wav W, who W, wha W)
theorem Inv.fin {σ σ1 σ2 : St} {W : Tw} {r : Int32} {A : Option (Int32 × St)} {B : St → Option (Int32 × St)} (hI : Inv σ) (e1 : TE σ1 (gR σ 0) W) (m2 : TM σ2 W) (g : Gd W) (hE : PE σ σ1) (hM : PM σ1 σ2) (eA : A = some (r, σ1)) (eB : B σ1 = some (r, σ2)) : ∃ (r : Int32) (σ1 σ2 : St), (A = some (r, σ1)) ∧ (B σ1 = some (r, σ2)) ∧ Inv σ2 := ⟨r, σ1, σ2, eA, eB, hI.st hE hM e1 m2 g⟩
theorem TE_aP {σ : St} {t r : Nat} {W : Tw} (h : TE σ t W) : TE (sI (sI (sI (sI σ (t + 1) (wP W) (nI r)) (t + 2) (wP W) 0) (t + 3) (wP W) 0) t 0 (nI (wP W + 1))) t (aP W r) := by
  obtain ⟨a1, a2, a3, a4, a5⟩ := h
  refine ⟨by simp [gI_sI]; rfl, by simp [gI_sI]; exact a2, by simp [gI_sI]; exact a3, fun p hp => ?_, fun c hc => ?_⟩
  · have hp' : p < wP W + 1 := hp
    show _ = nI (upd1 (wrk W) (wP W) r p) ∧ _ = upd1 (wsi W) (wP W) 0 p ∧ _ = nI (upd1 (wkn W) (wP W) 0 p)
    unfold upd1
    by_cases e : p = wP W
    · simp [gI_sI, e]; rfl
    · simp [gI_sI, e]; exact a4 p (by omega)
  · simp [gI_sI]; exact a5 c hc
theorem TM_aP {σ : St} {r : Nat} {W : Tw} (h : TM σ W) : TM (sI (sI (sI (sI σ 45 (wP W) (nI r)) 46 (wP W) 0) 47 (wP W) 0) 44 0 (nI (wP W + 1))) (aP W r) := by
  obtain ⟨a1, a2, a3, a4, a5⟩ := h
  refine ⟨by simp [gI_sI]; rfl, by simp [gI_sI]; exact a2, by simp [gI_sI]; exact a3, fun p hp => ?_, fun c hc => ?_⟩
  · have hp' : p < wP W + 1 := hp
    show _ = nI (upd1 (wrk W) (wP W) r p) ∧ _ = upd1 (wsi W) (wP W) 0 p ∧ _ = nI (upd1 (wkn W) (wP W) 0 p)
    unfold upd1
    by_cases e : p = wP W
    · simp [gI_sI, e]; rfl
    · simp [gI_sI, e]; exact a4 p (by omega)
  · simp [gI_sI]; exact a5 c hc
theorem lt_p {s p q : Nat} (h : s < 2 ^ p) (hq : p ≤ q) : s < 2 ^ q := Nat.lt_of_lt_of_le h (Nat.pow_le_pow_right (by decide) hq)
theorem Gd_aP {W : Tw} {r : Nat} (h : Gd W) (hP : wP W < 7) (hr : r < 10) : Gd (aP W r) := by
  obtain ⟨⟨g1, g2⟩, g3, g4, g5⟩ := h
  refine ⟨⟨(show wP W + 1 ≤ 7 by omega), g2⟩, fun p hp => ?_, fun p q hp hq => ?_, fun c hc => ?_⟩
  · have hp' : p < wP W + 1 := hp
    show upd1 (wrk W) (wP W) r p < 10 ∧ upd1 (wkn W) (wP W) 0 p < 2 ^ (wP W + 1) ∧ (upd1 (wkn W) (wP W) 0 p).testBit p = false
    by_cases e : p = wP W
    · rw [e, up_s, up_s]; exact ⟨hr, Nat.two_pow_pos _, Nat.zero_testBit _⟩
    · rw [up_o e, up_o e]
      have := g3 p (by omega)
      exact ⟨this.1, lt_p this.2.1 (by omega), this.2.2⟩
  · have hp' : p < wP W + 1 := hp
    have hq' : q < wP W + 1 := hq
    show (upd1 (wkn W) (wP W) 0 p).testBit q = (upd1 (wkn W) (wP W) 0 q).testBit p
    by_cases e : p = wP W
    · by_cases e2 : q = wP W
      · rw [e, e2]
      · rw [e, up_s, up_o e2, Nat.zero_testBit, Nat.testBit_lt_two_pow (g3 q (by omega)).2.1]
    · by_cases e2 : q = wP W
      · rw [e2, up_s, up_o e, Nat.zero_testBit, Nat.testBit_lt_two_pow (g3 p (by omega)).2.1]
      · rw [up_o e, up_o e2]; exact g4 p q (by omega) (by omega)
  · have := g5 c hc
    exact ⟨this.1, this.2.1, Nat.lt_succ_of_lt this.2.2.1, lt_p this.2.2.2.1 (Nat.le_succ _), this.2.2.2.2⟩
theorem E_addP {σ : St} {t r : Nat} {W : Tw} (h : TE σ t W) (hP : wP W < 7) : fT_addPerson σ t (nI r) = some (nI (wP W), sI (sI (sI (sI σ (t + 1) (wP W) (nI r)) (t + 2) (wP W) 0) (t + 3) (wP W) 0) t 0 (nI (wP W + 1))) := by
  unfold fT_addPerson
  have e : nI (wP W + 1) - 1 = nI (wP W) := pk_sub (b := 1) (by omega)
  simp (disch := omega) only [ib_t, ix_nI, nm_def, bd_some, bi_some, if_true, if_false, eq_self, nI_1, one_ne, h.1, gI_o (show t ≠ t + 1 by omega), gI_o (show t ≠ t + 2 by omega), gI_o (show t ≠ t + 3 by omega), gI_s, e]
theorem st_person : St_person Inv := by
  intro σ a1 hI
  have hb := hI.isT
  have ht := hI.t
  obtain ⟨W, hE, hM, hG⟩ := hI.w
  have g1 := hG.1.1
  rcases (in_09 a1).symm with ho | ⟨hin, r, hr, rfl⟩
  · refine ⟨-1, σ, σ, ?_, ?_, hI⟩
    · unfold fE_person
      rw [isRank_in, ho, if_pos rfl]
    · unfold fM_person
      rw [ho, if_pos rfl]
  by_cases hP : wP W = 7
  · refine ⟨-2, σ, σ, ?_, ?_, hI⟩
    · unfold fE_person
      rw [isRank_in, hin, if_neg one_ne, if_pos hb, hE.1, hP, if_neg (by decide)]
    · unfold fM_person
      rw [hin, if_neg one_ne, hM.1, hP, if_pos (show nI 7 = (7 : Int32) from rfl)]
  have hM1 : TM (sI (sI (sI (sI σ (gR σ 0 + 1) (wP W) (nI r)) (gR σ 0 + 2) (wP W) 0) (gR σ 0 + 3) (wP W) 0) (gR σ 0) 0 (nI (wP W + 1))) W := hM.e ((((PE.rf.s (by omega)).s (by omega)).s (by omega)).s (by omega))
  have hM2 := TM_aP (r := r) hM1
  have hE2 := TE_aP (r := r) hE
  refine hI.fin (r := nI (wP W)) hE2 hM2 (Gd_aP hG (by omega) hr) ?_ ?_ ?_ ?_
  · exact (((PE.rf.s (by omega)).s (by omega)).s (by omega)).s (by omega)
  · exact (((PM.rf.s (by omega)).s (by omega)).s (by omega)).s (by omega)
  · unfold fE_person
    rw [isRank_in, hin, if_neg one_ne, if_pos hb, hE.1, if_pos (show nI (wP W) < (7 : Int32) from nI_lt (b := 7) (by omega) (by decide)), if_pos hb, E_addP hE (by omega)]
    rfl
  · unfold fM_person
    have e7 : ¬ nI (wP W) = (7 : Int32) := fun z => hP ((nI_eq (b := 7) (by omega) (by omega)).mp z)
    have e : nI (wP W + 1) - 1 = nI (wP W) := pk_sub (b := 1) (by omega)
    simp (disch := omega) only [ib_t, ix_nI, nm_def, bd_some, bi_some, if_true, if_false, eq_self, nI_1, one_ne, hin, hM1.1, e7, gI_o (show (44 : Nat) ≠ 45 by decide), gI_o (show (44 : Nat) ≠ 46 by decide), gI_o (show (44 : Nat) ≠ 47 by decide), gI_s, e]
theorem TE_aC {σ : St} {t k a p : Nat} {W : Tw} (h : TE σ t W) : TE (sI (sI (sI (sI (sI σ (t + 4) (wC W) (nI k)) (t + 5) (wC W) (nI a)) (t + 6) (wC W) (nI p)) (t + 7) (wC W) (nI (2 ^ p))) t 1 (nI (wC W + 1))) t (aC W k a p) := by
  obtain ⟨a1, a2, a3, a4, a5⟩ := h
  refine ⟨by simp [gI_sI]; exact a1, by simp [gI_sI]; rfl, by simp [gI_sI]; exact a3, fun p hp => ?_, fun c hc => ?_⟩
  · simp [gI_sI]; exact a4 p hp
  · have hc' : c < wC W + 1 := hc
    show _ = nI (upd1 (wkd W) (wC W) k c) ∧ _ = nI (upd1 (wav W) (wC W) a c) ∧ _ = nI (upd1 (who W) (wC W) p c) ∧ _ = nI (upd1 (wha W) (wC W) (2 ^ p) c)
    unfold upd1
    by_cases e : c = wC W
    · simp [gI_sI, e]
    · simp [gI_sI, e]; exact a5 c (by omega)
theorem TM_aC {σ : St} {k a p : Nat} {W : Tw} (h : TM σ W) : TM (sI (sI (sI (sI (sI σ 48 (4 * wC W) (nI k)) 48 (4 * wC W + 1) (nI a)) 48 (4 * wC W + 2) (nI p)) 48 (4 * wC W + 3) (nI (2 ^ p))) 44 4 (nI (wC W + 1))) (aC W k a p) := by
  obtain ⟨a1, a2, a3, a4, a5⟩ := h
  refine ⟨by simp [gI_sI]; exact a1, by simp [gI_sI]; rfl, by simp [gI_sI]; exact a3, fun p hp => ?_, fun c hc => ?_⟩
  · simp [gI_sI]; exact a4 p hp
  · have hc' : c < wC W + 1 := hc
    show _ = nI (upd1 (wkd W) (wC W) k c) ∧ _ = nI (upd1 (wav W) (wC W) a c) ∧ _ = nI (upd1 (who W) (wC W) p c) ∧ _ = nI (upd1 (wha W) (wC W) (2 ^ p) c)
    unfold upd1
    by_cases e : c = wC W
    · subst e
      simp [gI_sI]
    · obtain ⟨v1, v2, v3, v4⟩ := a5 c (by omega)
      have n : ∀ x y, x < 4 → y < 4 → ¬ 4 * c + x = 4 * wC W + y := fun x y hx hy => by omega
      have n0 : ∀ y, y < 4 → ¬ 4 * c = 4 * wC W + y := fun y hy => by omega
      have n1 : ∀ x, x < 4 → ¬ 4 * c + x = 4 * wC W := fun x hx => by omega
      simp only [gI_sI, n 1 1 (by decide) (by decide), n 1 2 (by decide) (by decide), n 1 3 (by decide) (by decide), n 2 1 (by decide) (by decide), n 2 2 (by decide) (by decide), n 2 3 (by decide) (by decide), n 3 1 (by decide) (by decide), n 3 2 (by decide) (by decide), n 3 3 (by decide) (by decide), n0 1 (by decide), n0 2 (by decide), n0 3 (by decide), n1 1 (by decide), n1 2 (by decide), n1 3 (by decide), e, show ¬ 4 * c = 4 * wC W by omega, and_false, false_and, if_false, show ¬ (48 : Nat) = 44 by decide]
      exact ⟨v1, v2, v3, v4⟩
theorem Gd_aC {W : Tw} {k a p : Nat} (h : Gd W) (hC : wC W < 6) (hk : k < 6) (ha : 1 ≤ a ∧ a < 100) (hp : p < wP W) : Gd (aC W k a p) := by
  obtain ⟨⟨g1, g2⟩, g3, g4, g5⟩ := h
  refine ⟨⟨g1, (show wC W + 1 ≤ 6 by omega)⟩, g3, g4, fun c hc => ?_⟩
  have hc' : c < wC W + 1 := hc
  show upd1 (wkd W) (wC W) k c < 6 ∧ (1 ≤ upd1 (wav W) (wC W) a c ∧ upd1 (wav W) (wC W) a c < 100) ∧ upd1 (who W) (wC W) p c < wP W ∧ upd1 (wha W) (wC W) (2 ^ p) c < 2 ^ wP W ∧ (upd1 (wha W) (wC W) (2 ^ p) c).testBit (upd1 (who W) (wC W) p c) = true
  by_cases e : c = wC W
  · rw [e, up_s, up_s, up_s, up_s]
    exact ⟨hk, ha, hp, Nat.pow_lt_pow_right (by decide) hp, Nat.testBit_two_pow_self⟩
  · rw [up_o e, up_o e, up_o e, up_o e]
    exact g5 c (by omega)
theorem E_addC {σ : St} {t k a p : Nat} {W : Tw} (h : TE σ t W) (hC : wC W < 6) (hp : p < 31) : fT_addCoin σ t (nI k) (nI a) (nI p) = some (nI (wC W), sI (sI (sI (sI (sI σ (t + 4) (wC W) (nI k)) (t + 5) (wC W) (nI a)) (t + 6) (wC W) (nI p)) (t + 7) (wC W) (nI (2 ^ p))) t 1 (nI (wC W + 1))) := by
  unfold fT_addCoin
  have e : nI (wC W + 1) - 1 = nI (wC W) := pk_sub (b := 1) (by omega)
  simp (disch := omega) only [ib_t, ix_nI, nm_def, bd_some, bi_some, if_true, if_false, eq_self, nI_1, one_ne, h.2.1, gI_o (show t ≠ t + 4 by omega), gI_o (show t ≠ t + 5 by omega), gI_o (show t ≠ t + 6 by omega), gI_o (show t ≠ t + 7 by omega), gI_s, e, sh1 p hp]
theorem st_coin : St_coin Inv := by
  intro σ a1 a2 a3 hI
  have hb := hI.isT
  have ht := hI.t
  obtain ⟨W, hE, hM, hG⟩ := hI.w
  have g1 := hG.1.1
  have g2 := hG.1.2
  rcases (in_05 a1).symm with ho | ⟨hk, k, hk6, rfl⟩
  · refine ⟨-1, σ, σ, ?_, ?_, hI⟩
    · unfold fE_coin
      rw [isKind_in, ho, if_pos rfl]
    · unfold fM_coin
      rw [ho, if_pos rfl]
  rcases (in_199 a2).symm with ho | ⟨hin, a, ha1, ha2, rfl⟩
  · refine ⟨-1, σ, σ, ?_, ?_, hI⟩
    · unfold fE_coin
      rw [isKind_in, hk, if_neg one_ne, isA_in, ho, if_pos rfl]
    · unfold fM_coin
      rw [hk, if_neg one_ne, ho, if_pos rfl]
  rcases (arg a3 (wP W) (by omega)).symm with ho | ⟨p, hp, rfl⟩
  · refine ⟨-1, σ, σ, ?_, ?_, hI⟩
    · unfold fE_coin
      rw [isKind_in, hk, if_neg one_ne, isA_in, hin, if_neg one_ne, if_pos hb, hp_o hE.1 g1 ho, if_pos rfl]
    · unfold fM_coin
      rw [hk, if_neg one_ne, hin, if_neg one_ne, mp_o hM.1 g1 ho, if_pos rfl]
  by_cases hC : wC W = 6
  · refine ⟨-2, σ, σ, ?_, ?_, hI⟩
    · unfold fE_coin
      rw [isKind_in, hk, if_neg one_ne, isA_in, hin, if_neg one_ne, if_pos hb, hp_i hE.1 g1 hp, if_neg one_ne, if_pos hb, hE.2.1, hC, if_neg (by decide)]
    · unfold fM_coin
      rw [hk, if_neg one_ne, hin, if_neg one_ne, mp_i hM.1 g1 hp, if_neg one_ne, hM.2.1, hC, if_pos (show nI 6 = (6 : Int32) from rfl)]
  have hF : PE σ (sI (sI (sI (sI (sI σ (gR σ 0 + 4) (wC W) (nI k)) (gR σ 0 + 5) (wC W) (nI a)) (gR σ 0 + 6) (wC W) (nI p)) (gR σ 0 + 7) (wC W) (nI (2 ^ p))) (gR σ 0) 1 (nI (wC W + 1))) := ((((PE.rf.s (by omega)).s (by omega)).s (by omega)).s (by omega)).s (by omega)
  have hM1 := hM.e hF
  have hM2 := TM_aC (k := k) (a := a) (p := p) hM1
  have hE2 := TE_aC (k := k) (a := a) (p := p) hE
  refine hI.fin (r := nI (wC W)) hE2 hM2 (Gd_aC hG (by omega) hk6 ⟨ha1, ha2⟩ hp) hF ?_ ?_ ?_
  · exact ((((PM.rf.s (by omega)).s (by omega)).s (by omega)).s (by omega)).s (by omega)
  · unfold fE_coin
    rw [isKind_in, hk, if_neg one_ne, isA_in, hin, if_neg one_ne, if_pos hb, hp_i hE.1 g1 hp, if_neg one_ne, if_pos hb, hE.2.1, if_pos (show nI (wC W) < (6 : Int32) from nI_lt (b := 6) (by omega) (by decide)), if_pos hb, E_addC hE (by omega) (by omega)]
    rfl
  · unfold fM_coin
    have e6 : ¬ nI (wC W) = (6 : Int32) := fun z => hC ((nI_eq (b := 6) (by omega) (by omega)).mp z)
    have e : nI (wC W + 1) - 1 = nI (wC W) := pk_sub (b := 1) (by omega)
    have x0 : (4 : Int32) * nI (wC W) = nI (4 * wC W) := pk_mul 4 _
    have x1 : nI (4 * wC W) + (1 : Int32) = nI (4 * wC W + 1) := nI_add _ 1
    have x2 : nI (4 * wC W) + (2 : Int32) = nI (4 * wC W + 2) := nI_add _ 2
    have x3 : nI (4 * wC W) + (3 : Int32) = nI (4 * wC W + 3) := nI_add _ 3
    simp (disch := omega) only [ib_t, ix_nI, nm_def, bd_some, bi_some, if_true, if_false, eq_self, nI_1, one_ne, hk, hin, mp_i hM1.1 g1 hp, hM1.2.1, e6, gI_o (show (44 : Nat) ≠ 48 by decide), gI_s, e, x0, x2, x3, sh1 p (show p < 31 by omega)]
