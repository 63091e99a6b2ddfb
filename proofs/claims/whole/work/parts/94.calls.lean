/-! calls that only read the town -/
theorem ne_in {v a b w : Int32} (h : fM_in v a b = 0) (hw : ¬ fM_in w a b = 0) : ¬ v = w := fun e => hw (by rw [← e]; exact h)
theorem st_personOf : St_personOf Inv := by
  intro σ a1 a2 hI
  have hb := hI.isT
  obtain ⟨W, hE, hM, hG⟩ := hI.w
  have g1 := hG.1.1
  have g2 := hG.1.2
  rcases (arg a1 (wP W) (by omega)).symm with ho | ⟨p, hp, rfl⟩
  · refine ⟨-1, σ, σ, ⟨?_, rfl⟩, ⟨?_, rfl⟩, hI⟩
    · unfold fE_personOf
      rw [if_pos hb, hp_o hE.1 g1 ho, if_pos rfl]
    · unfold fM_personOf
      rw [mp_o hM.1 g1 ho, if_pos rfl]
  obtain ⟨x1, x2, x3⟩ := hE.2.2.2.1 p hp
  obtain ⟨y1, y2, y3⟩ := hM.2.2.2.1 p hp
  have hpu : purse W p < 2 ^ 31 := by
    have := setOf_lt (fun c => decide (who W c = p)) (wC W)
    have h2 : 2 ^ wC W ≤ 2 ^ 6 := Nat.pow_le_pow_right (by decide) g2
    unfold purse; omega
  rcases (in_04 a2).symm with ho | ⟨hin, j, hj, rfl⟩
  · refine ⟨-1, σ, σ, ⟨?_, rfl⟩, ⟨?_, rfl⟩, hI⟩
    · unfold fE_personOf
      rw [if_pos hb, hp_i hE.1 g1 hp, if_neg one_ne, if_neg (ne_in ho (by decide)), if_neg (ne_in ho (by decide)), if_neg (ne_in ho (by decide)), if_neg (ne_in ho (by decide)), if_neg (ne_in ho (by decide))]
    · unfold fM_personOf
      rw [mp_i hM.1 g1 hp, if_neg one_ne, ho, if_pos rfl]
  have E0 : fE_personOf σ (nI p) (nI j) = some (if j = 0 then nI (wrk W p) else if j = 1 then wsi W p else if j = 2 then nI (sw W (purse W p) (wC W)) + wsi W p else if j = 3 then nI (purse W p) else nI (wkn W p)) := by
    unfold fE_personOf fT_riches
    simp (disch := omega) only [ib_t, ix_nI, nm_def, bd_some, bi_some, if_true, if_false, eq_self, nI_1, one_ne, hb, hp_i hE.1 g1 hp, x1, x2, x3, E_purse hE hG hp, E_sw hE hG hpu]
    rcases (show j = 0 ∨ j = 1 ∨ j = 2 ∨ j = 3 ∨ j = 4 by omega) with rfl | rfl | rfl | rfl | rfl <;> rfl
  have M0 : fM_personOf σ (nI p) (nI j) = some (if j = 0 then nI (wrk W p) else if j = 1 then wsi W p else if j = 2 then nI (sw W (purse W p) (wC W)) + wsi W p else if j = 3 then nI (purse W p) else nI (wkn W p)) := by
    unfold fM_personOf
    simp (disch := omega) only [ib_t, ix_nI, nm_def, bd_some, bi_some, if_true, if_false, eq_self, nI_1, one_ne, hin, mp_i hM.1 g1 hp, y1, y2, y3, M_purse hM hG hp, M_sw hM hG hpu]
    rw [Int32.add_comm (wsi W p)]
    rcases (show j = 0 ∨ j = 1 ∨ j = 2 ∨ j = 3 ∨ j = 4 by omega) with rfl | rfl | rfl | rfl | rfl <;> rfl
  exact ⟨_, σ, σ, ⟨E0, rfl⟩, ⟨M0, rfl⟩, hI⟩
theorem st_coinOf : St_coinOf Inv := by
  intro σ a1 a2 hI
  have hb := hI.isT
  obtain ⟨W, hE, hM, hG⟩ := hI.w
  have g1 := hG.1.1
  have g2 := hG.1.2
  rcases (arg a1 (wC W) (by omega)).symm with ho | ⟨c, hc, rfl⟩
  · refine ⟨-1, σ, σ, ⟨?_, rfl⟩, ⟨?_, rfl⟩, hI⟩
    · unfold fE_coinOf
      rw [if_pos hb, hc_o hE.2.1 g2 ho, if_pos rfl]
    · unfold fM_coinOf
      rw [mc_o hM.2.1 g2 ho, if_pos rfl]
  obtain ⟨x1, x2, x3, x4⟩ := hE.2.2.2.2 c hc
  obtain ⟨y1, y2, y3, y4⟩ := M_its hM hG hc
  rcases (in_05 a2).symm with ho | ⟨hin, j, hj, rfl⟩
  · refine ⟨-1, σ, σ, ⟨?_, rfl⟩, ⟨?_, rfl⟩, hI⟩
    · unfold fE_coinOf
      rw [if_pos hb, hc_i hE.2.1 g2 hc, if_neg one_ne, if_neg (ne_in ho (by decide)), if_neg (ne_in ho (by decide)), if_neg (ne_in ho (by decide)), if_neg (ne_in ho (by decide)), if_neg (ne_in ho (by decide)), if_neg (ne_in ho (by decide))]
    · unfold fM_coinOf
      rw [mc_i hM.2.1 g2 hc, if_neg one_ne, ho, if_pos rfl]
  have E0 : fE_coinOf σ (nI c) (nI j) = some (nI (if j = 0 then wkd W c else if j = 1 then wav W c else if j = 2 then wth (wkd W c) (wav W c) else if j = 3 then who W c else if j = 4 then wha W c else tkc W c)) := by
    unfold fE_coinOf
    simp (disch := omega) only [ib_t, ix_nI, nm_def, bd_some, bi_some, if_true, if_false, eq_self, nI_1, one_ne, hb, hc_i hE.2.1 g2 hc, x1, x2, x3, x4, E_worth hE hG hc, E_takers hE hG hc]
    rcases kd6 hj with rfl | rfl | rfl | rfl | rfl | rfl <;> rfl
  have M0 : fM_coinOf σ (nI c) (nI j) = some (nI (if j = 0 then wkd W c else if j = 1 then wav W c else if j = 2 then wth (wkd W c) (wav W c) else if j = 3 then who W c else if j = 4 then wha W c else tkc W c)) := by
    unfold fM_coinOf
    simp (disch := omega) only [ib_t, ix_nI, nm_def, bd_some, bi_some, if_true, if_false, eq_self, nI_1, one_ne, hin, mc_i hM.2.1 g2 hc, y1, y2, y3, y4, M_worth hM hG hc, M_mayAll hM hG hc]
    rcases kd6 hj with rfl | rfl | rfl | rfl | rfl | rfl <;> rfl
  exact ⟨_, σ, σ, ⟨E0, rfl⟩, ⟨M0, rfl⟩, hI⟩
theorem st_may : St_may Inv := by
  intro σ a1 a2 hI
  have hb := hI.isT
  obtain ⟨W, hE, hM, hG⟩ := hI.w
  have g1 := hG.1.1
  have g2 := hG.1.2
  rcases (arg a1 (wC W) (by omega)).symm with ho | ⟨c, hc, rfl⟩
  · refine ⟨-1, σ, σ, ⟨?_, rfl⟩, ⟨?_, rfl⟩, hI⟩
    · unfold fE_may
      rw [if_pos hb, hc_o hE.2.1 g2 ho, if_pos rfl]
    · unfold fM_may
      rw [mc_o hM.2.1 g2 ho, if_pos rfl]
  rcases (arg a2 (wP W) (by omega)).symm with ho | ⟨p, hp, rfl⟩
  · refine ⟨-1, σ, σ, ⟨?_, rfl⟩, ⟨?_, rfl⟩, hI⟩
    · unfold fE_may
      simp (disch := omega) only [ib_t, ix_nI, nm_def, bd_some, bi_some, if_true, if_false, eq_self, nI_1, one_ne, hb, hc_i hE.2.1 g2 hc, hp_o hE.1 g1 ho]
    · unfold fM_may
      simp (disch := omega) only [ib_t, ix_nI, nm_def, bd_some, bi_some, if_true, if_false, eq_self, nI_1, one_ne, mc_i hM.2.1 g2 hc, mp_o hM.1 g1 ho]
  refine ⟨if b2i ((tkc W c).testBit p) = 0 then 0 else 1, σ, σ, ⟨?_, rfl⟩, ⟨?_, rfl⟩, hI⟩
  · unfold fE_may
    simp (disch := omega) only [ib_t, ix_nI, nm_def, bd_some, bi_some, if_true, if_false, eq_self, nI_1, one_ne, hb, hc_i hE.2.1 g2 hc, hp_i hE.1 g1 hp, E_takers hE hG hc, hold_nI (s31 g1 (tkc_lt (W := W) (c := c))) (show p < 31 by omega)]
  · unfold fM_may
    simp (disch := omega) only [ib_t, ix_nI, nm_def, bd_some, bi_some, if_true, if_false, eq_self, nI_1, one_ne, mc_i hM.2.1 g2 hc, mp_i hM.1 g1 hp, M_mayNow hM hG hc hp, tkc_bit hp]
def stk (W : Tw) : Nat := setOf (wC W) (fun c => decide (tkc W c = 0))
theorem z31 {P s : Nat} (g : P ≤ 7) (hs : s < 2 ^ P) : nI s = 0 ↔ s = 0 := by
  have := p27 g
  exact nI_eq (b := 0) (by omega) (by omega)
theorem E_stk_l {σ : St} {W : Tw} (hb : isTb (gR σ 0) = true) (hE : TE σ (gR σ 0) W) (hG : Gd W) : ∀ n i, i ≤ wC W → wC W < n + i → fE_stuck_4 n σ (nI (setOf i (fun c => decide (tkc W c = 0)))) (nI i) = some (nI (stk W))
  | 0, i, h1, h2 => by omega
  | n + 1, i, h1, h2 => by
    have g1 := hG.1.1
    have g2 := hG.1.2
    unfold fE_stuck_4
    rw [if_pos hb, hE.2.1]
    by_cases h : i = wC W
    · rw [if_pos (by rw [h]; exact Int32.le_refl _), h]; rfl
    · have ih := E_stk_l hb hE hG n (i + 1) (by omega) (by omega)
      rw [← so_1 (f := fun c => decide (tkc W c = 0)) (by omega)] at ih
      rw [if_neg (nI_ge (by omega) (by omega)), if_pos hb, E_takers hE hG (by omega), bd_some]
      by_cases g : tkc W i = 0
      · rw [if_pos (by rw [g]; rfl), nm_def, nm_def, nI_1]
        simp only [g, decide_true, b2t, one_ne, if_false] at ih
        exact ih
      · rw [if_neg (by rw [z31 g1 tkc_lt]; exact g), nm_def, nI_1]
        have e0 : nI (setOf i fun c => decide (tkc W c = 0)) ||| (0 : Int32) = nI (setOf i fun c => decide (tkc W c = 0)) := by
          have h1 := setOf_lt (fun c => decide (tkc W c = 0)) i
          have h2 : 2 ^ i ≤ 2 ^ 6 := Nat.pow_le_pow_right (by decide) (by omega)
          rw [show (0 : Int32) = nI 0 from rfl, nI_or (by omega) (by omega), Nat.or_zero]
        simp only [g, decide_false, b2f, if_true, e0] at ih
        exact ih
theorem M_stk_l {σ : St} {W : Tw} (hM : TM σ W) (hG : Gd W) : ∀ n i, i ≤ wC W → wC W < n + i → fM_stuck_4 n σ (nI (setOf i (fun c => decide (tkc W c = 0)))) (nI i) = some (nI (stk W))
  | 0, i, h1, h2 => by omega
  | n + 1, i, h1, h2 => by
    have g1 := hG.1.1
    have g2 := hG.1.2
    unfold fM_stuck_4
    rw [hM.2.1]
    by_cases h : i = wC W
    · rw [if_pos (by rw [h]; exact Int32.le_refl _), h]; rfl
    · have ih := M_stk_l hM hG n (i + 1) (by omega) (by omega)
      rw [if_neg (nI_ge (by omega) (by omega)), M_mayAll hM hG (by omega), bd_some, nm_def, nm_def, nI_1, so_2 (f := fun c => decide (tkc W c = 0)) (by omega) _ (by rw [z31 g1 tkc_lt]; simp)]
      exact ih
theorem st_stuck : St_stuck Inv := by
  intro σ hI
  have hb := hI.isT
  obtain ⟨W, hE, hM, hG⟩ := hI.w
  have g2 := hG.1.2
  exact ⟨nI (stk W), σ, σ, ⟨E_stk_l hb hE hG 300 0 (by omega) (by omega), rfl⟩, ⟨M_stk_l hM hG 300 0 (by omega) (by omega), rfl⟩, hI⟩
