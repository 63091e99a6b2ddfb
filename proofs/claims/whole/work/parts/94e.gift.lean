/-! a coin goes away; gifts -/
def pd {α : Type} (f : Nat → α) (c i : Nat) : Nat → α := fun j => if c ≤ j ∧ j + 1 < i then f (j + 1) else f j
def dW (W : Tw) (c i : Nat) : Tw := (wP W, wC W, wz W, wrk W, wsi W, wkn W, pd (wkd W) c i, pd (wav W) c i, pd (who W) c i, pd (wha W) c i)
def dc {α : Type} (f : Nat → α) (c : Nat) : Nat → α := fun j => if c ≤ j then f (j + 1) else f j
def dC (W : Tw) (c : Nat) : Tw := (wP W, wC W - 1, wz W, wrk W, wsi W, wkn W, dc (wkd W) c, dc (wav W) c, dc (who W) c, dc (wha W) c)
def sSi (W : Tw) (p : Nat) (v : Int32) : Tw := (wP W, wC W, wz W, wrk W, upd1 (wsi W) p v, wkn W, wkd W, wav W, who W, wha W)
def gv (W : Tw) (c p : Nat) : Tw := (wP W, wC W, wz W, wrk W, wsi W, wkn W, wkd W, wav W, upd1 (who W) c p, upd1 (wha W) c (wha W c ||| 2 ^ p))
def sZ (W : Tw) (z : Int32) : Tw := (wP W, wC W, z, wrk W, wsi W, wkn W, wkd W, wav W, who W, wha W)
theorem pd_s {α : Type} {f : Nat → α} {c i j : Nat} (hc : c < i) : pd f c (i + 1) j = if j = i - 1 then f i else pd f c i j := by
  unfold pd
  by_cases e : j = i - 1
  · rw [if_pos e, if_pos (by omega), show j + 1 = i by omega]
  · rw [if_neg e]
    by_cases h : c ≤ j ∧ j + 1 < i
    · rw [if_pos h, if_pos (by omega)]
    · rw [if_neg h, if_neg (by omega)]
theorem E_rem_l {t c : Nat} {W : Tw} (ht : t = 1 ∨ t = 9) (hG : Gd W) : ∀ n i σ, c < i → i ≤ wC W → wC W < n + i → TE σ t (dW W c i) → ∃ τ, fT_removeCoin_4 n σ t (nI i) = some τ ∧ TE τ t (dC W c) ∧ PE σ τ
  | 0, i, σ, hc, h1, h2, hE => by omega
  | n + 1, i, σ, hc, h1, h2, hE => by
    have g2 := hG.1.2
    obtain ⟨a1, a2, a3, a4, a5⟩ := hE
    have a2' : gI σ t 1 = nI (wC W) := a2
    unfold fT_removeCoin_4
    rw [a2']
    by_cases h : i = wC W
    · rw [if_pos (by rw [h]; exact Int32.le_refl _), nm_def]
      refine ⟨_, rfl, ?_, PE.rf.s (by omega)⟩
      refine ⟨by simp [gI_sI]; exact a1, by simp [gI_sI]; exact pk_sub (b := 1) (by omega), by simp [gI_sI]; exact a3, fun p hp => ?_, fun j hj => ?_⟩
      · simp [gI_sI]; exact a4 p hp
      · have hj' : j < wC W - 1 := hj
        obtain ⟨v1, v2, v3, v4⟩ := a5 j (show j < wC W by omega)
        have key : ∀ f : Nat → Nat, pd f c i j = dc f c j := fun f => by
          unfold pd dc
          by_cases q : c ≤ j
          · rw [if_pos q, if_pos (by omega)]
          · rw [if_neg q, if_neg (by omega)]
        rw [gI_o (by omega), gI_o (by omega), gI_o (by omega), gI_o (by omega)]
        exact ⟨v1.trans (congrArg nI (key _)), v2.trans (congrArg nI (key _)), v3.trans (congrArg nI (key _)), v4.trans (congrArg nI (key _))⟩
    · have em : nI i - 1 = nI (i - 1) := pk_sub (b := 1) (by omega)
      obtain ⟨v1, v2, v3, v4⟩ := a5 i (show i < wC W by omega)
      have key : ∀ f : Nat → Nat, pd f c i i = f i := fun f => if_neg (by omega)
      have w1 : gI σ (t + 4) i = nI (wkd W i) := v1.trans (congrArg nI (key _))
      have w2 : gI σ (t + 5) i = nI (wav W i) := v2.trans (congrArg nI (key _))
      have w3 : gI σ (t + 6) i = nI (who W i) := v3.trans (congrArg nI (key _))
      have w4 : gI σ (t + 7) i = nI (wha W i) := v4.trans (congrArg nI (key _))
      have l1 : ¬ nI (wC W) ≤ nI i := nI_ge (by omega) (by omega)
      simp (disch := omega) only [ib_t, ix_nI, nm_def, bd_some, bi_some, if_true, if_false, eq_self, nI_1, one_ne, l1, em, gI_o (show t + 5 ≠ t + 4 by omega), gI_o (show t + 6 ≠ t + 4 by omega), gI_o (show t + 7 ≠ t + 4 by omega), gI_o (show t + 6 ≠ t + 5 by omega), gI_o (show t + 7 ≠ t + 5 by omega), gI_o (show t + 7 ≠ t + 6 by omega), w1, w2, w3, w4]
      have hE2 : TE (sI (sI (sI (sI σ (t + 4) (i - 1) (nI (wkd W i))) (t + 5) (i - 1) (nI (wav W i))) (t + 6) (i - 1) (nI (who W i))) (t + 7) (i - 1) (nI (wha W i))) t (dW W c (i + 1)) := by
        refine ⟨by simp [gI_sI]; exact a1, by simp [gI_sI]; exact a2, by simp [gI_sI]; exact a3, fun p hp => ?_, fun j hj => ?_⟩
        · simp [gI_sI]; exact a4 p hp
        · show _ = nI (pd (wkd W) c (i + 1) j) ∧ _ = nI (pd (wav W) c (i + 1) j) ∧ _ = nI (pd (who W) c (i + 1) j) ∧ _ = nI (pd (wha W) c (i + 1) j)
          rw [pd_s hc, pd_s hc, pd_s hc, pd_s hc]
          by_cases e : j = i - 1
          · simp [gI_sI, e]
          · simp [gI_sI, e]; exact a5 j hj
      obtain ⟨τ, e1, e2, e3⟩ := E_rem_l ht hG n (i + 1) _ (by omega) (by omega) (by omega) hE2
      exact ⟨τ, e1, e2, PE.tr ((((PE.rf.s (by omega)).s (by omega)).s (by omega)).s (by omega)) e3⟩
theorem E_rem {σ : St} {t c : Nat} {W : Tw} (ht : t = 1 ∨ t = 9) (hE : TE σ t W) (hG : Gd W) (hc : c < wC W) : ∃ τ, fT_removeCoin σ t (nI c) = some τ ∧ TE τ t (dC W c) ∧ PE σ τ := by
  have g2 := hG.1.2
  unfold fT_removeCoin
  rw [nm_def, nI_1]
  refine E_rem_l ht hG 300 (c + 1) σ (by omega) (by omega) (by omega) ?_
  obtain ⟨a1, a2, a3, a4, a5⟩ := hE
  refine ⟨a1, a2, a3, a4, fun j hj => ?_⟩
  have key : ∀ f : Nat → Nat, pd f c (c + 1) j = f j := fun f => if_neg (by omega)
  show _ = nI (pd (wkd W) c (c + 1) j) ∧ _ = nI (pd (wav W) c (c + 1) j) ∧ _ = nI (pd (who W) c (c + 1) j) ∧ _ = nI (pd (wha W) c (c + 1) j)
  rw [key, key, key, key]
  exact a5 j hj
theorem M_goes_l {c D : Nat} {g : Nat → Int32} (hD : D < 6) : ∀ n k σ, 4 * c ≤ k → k ≤ 4 * D → 4 * D < n + k → gI σ 44 4 = nI D → (∀ j, gI σ 48 j = if 4 * c ≤ j ∧ j < k then g (j + 4) else g j) → ∃ τ, fM_goes_14 n σ (nI k) = some τ ∧ (∀ j, gI τ 48 j = if 4 * c ≤ j ∧ j < 4 * D then g (j + 4) else g j) ∧ (∀ a b, a ≠ 48 → gI τ a b = gI σ a b) ∧ PM σ τ
  | 0, k, σ, h0, h1, h2, hC, hj => by omega
  | n + 1, k, σ, h0, h1, h2, hC, hj => by
    have e4 : (4 : Int32) * nI D = nI (4 * D) := pk_mul 4 _
    unfold fM_goes_14
    rw [hC, e4]
    by_cases h : k = 4 * D
    · rw [if_pos (by rw [h]; exact Int32.le_refl _)]
      exact ⟨σ, rfl, fun j => by rw [hj j, h], fun _ _ _ => rfl, PM.rf⟩
    · have ea : nI k + (4 : Int32) = nI (k + 4) := nI_add k 4
      rw [if_neg (nI_ge (by omega) (by omega)), ea, if_pos (ib_nI (by omega) (by omega)), if_pos (ib_nI (by omega) (by omega)), nm_def, nm_def, ix_nI (by omega), ix_nI (by omega), nI_1]
      have hk : gI σ 48 (k + 4) = g (k + 4) := by rw [hj (k + 4), if_neg (by omega)]
      rw [hk]
      obtain ⟨τ, e1, e2, e3, e5⟩ := M_goes_l (c := c) (g := g) hD n (k + 1) (sI σ 48 k (g (k + 4))) (by omega) (by omega) (by omega) (by rw [gI_o (by omega)]; exact hC) (fun j => by
        by_cases e : j = k
        · rw [e, gI_s, if_pos (by omega)]
        · rw [gI_p e, hj j]
          by_cases q : 4 * c ≤ j ∧ j < k
          · rw [if_pos q, if_pos (by omega)]
          · rw [if_neg q, if_neg (by omega)])
      exact ⟨τ, e1, e2, fun a b hab => (e3 a b hab).trans (gI_o hab), PM.tr (PM.rf.s (by omega)) e5⟩
theorem M_goes {σ : St} {c : Nat} {W : Tw} (hM : TM σ W) (hG : Gd W) (hc : c < wC W) : ∃ τ, fM_goes σ (nI c) = some τ ∧ TM τ (dC W c) ∧ PM σ τ := by
  have g2 := hG.1.2
  obtain ⟨a1, a2, a3, a4, a5⟩ := hM
  have e0 : (4 : Int32) * nI c = nI (4 * c) := pk_mul 4 _
  have e1 : nI (wC W) - 1 = nI (wC W - 1) := pk_sub (b := 1) (by omega)
  unfold fM_goes
  rw [nm_def, nm_def, a2, e1, e0]
  obtain ⟨τ, q1, q2, q3, q4⟩ := M_goes_l (c := c) (D := wC W - 1) (g := gI σ 48) (by omega) 300 (4 * c) (sI σ 44 4 (nI (wC W - 1))) (by omega) (by omega) (by omega) gI_s (fun j => by rw [gI_o (by omega), if_neg (by omega)])
  refine ⟨τ, q1, ⟨?_, ?_, ?_, fun p hp => ?_, fun j hj => ?_⟩, PM.tr (PM.rf.s (by omega)) q4⟩
  · rw [q3 44 0 (by decide)]; exact a1
  · rw [q3 44 4 (by decide)]; exact gI_s
  · rw [q3 44 6 (by decide)]; exact a3
  · rw [q3 45 p (by decide), q3 46 p (by decide), q3 47 p (by decide)]; exact a4 p hp
  · have hj' : j < wC W - 1 := hj
    show _ = nI (dc (wkd W) c j) ∧ _ = nI (dc (wav W) c j) ∧ _ = nI (dc (who W) c j) ∧ _ = nI (dc (wha W) c j)
    unfold dc
    rw [q2, q2, q2, q2]
    by_cases e : c ≤ j
    · obtain ⟨v1, v2, v3, v4⟩ := a5 (j + 1) (by omega)
      simp only [if_pos e]
      rw [if_pos (by omega), if_pos (by omega), if_pos (by omega), if_pos (by omega)]
      exact ⟨v1, v2, v3, v4⟩
    · obtain ⟨v1, v2, v3, v4⟩ := a5 j (by omega)
      simp only [if_neg e]
      rw [if_neg (by omega), if_neg (by omega), if_neg (by omega), if_neg (by omega)]
      exact ⟨v1, v2, v3, v4⟩
theorem Gd_dC {W : Tw} {c : Nat} (hG : Gd W) : Gd (dC W c) := by
  obtain ⟨⟨g1, g2⟩, g3, g4, g5⟩ := hG
  refine ⟨⟨g1, (show wC W - 1 ≤ 6 by omega)⟩, g3, g4, fun j hj => ?_⟩
  have hj' : j < wC W - 1 := hj
  show dc (wkd W) c j < 6 ∧ (1 ≤ dc (wav W) c j ∧ dc (wav W) c j < 100) ∧ dc (who W) c j < wP W ∧ dc (wha W) c j < 2 ^ wP W ∧ (dc (wha W) c j).testBit (dc (who W) c j) = true
  unfold dc
  by_cases e : c ≤ j
  · simp only [if_pos e]; exact g5 (j + 1) (by omega)
  · simp only [if_neg e]; exact g5 j (by omega)
theorem TE_sSi {σ : St} {t p : Nat} {v : Int32} {W : Tw} (hE : TE σ t W) : TE (sI σ (t + 2) p v) t (sSi W p v) := by
  obtain ⟨a1, a2, a3, a4, a5⟩ := hE
  refine ⟨by simp [gI_sI]; exact a1, by simp [gI_sI]; exact a2, by simp [gI_sI]; exact a3, fun q hq => ?_, fun c hc => ?_⟩
  · show _ = nI (wrk W q) ∧ _ = upd1 (wsi W) p v q ∧ _ = nI (wkn W q)
    obtain ⟨v1, v2, v3⟩ := a4 q hq
    rw [gI_o (by omega), gI_o (show t + 3 ≠ t + 2 by omega)]
    refine ⟨v1, ?_, v3⟩
    by_cases e : q = p
    · rw [e, gI_s, up_s]
    · rw [gI_p e, up_o e]; exact v2
  · simp [gI_sI]; exact a5 c hc
theorem TM_sSi {σ : St} {p : Nat} {v : Int32} {W : Tw} (hM : TM σ W) : TM (sI σ 46 p v) (sSi W p v) := by
  obtain ⟨a1, a2, a3, a4, a5⟩ := hM
  refine ⟨by simp [gI_sI]; exact a1, by simp [gI_sI]; exact a2, by simp [gI_sI]; exact a3, fun q hq => ?_, fun c hc => ?_⟩
  · show _ = nI (wrk W q) ∧ _ = upd1 (wsi W) p v q ∧ _ = nI (wkn W q)
    obtain ⟨v1, v2, v3⟩ := a4 q hq
    rw [gI_o (by omega), gI_o (show 47 ≠ 46 by omega)]
    refine ⟨v1, ?_, v3⟩
    by_cases e : q = p
    · rw [e, gI_s, up_s]
    · rw [gI_p e, up_o e]; exact v2
  · simp [gI_sI]; exact a5 c hc
theorem Gd_sSi {W : Tw} {p : Nat} {v : Int32} (hG : Gd W) : Gd (sSi W p v) := hG
/-- melt -/
theorem st_melt : St_melt Inv := by
  intro σ a1 hI
  have hb := hI.isT
  have ht := hI.t
  obtain ⟨W, hE, hM, hG⟩ := hI.w
  have g1 := hG.1.1
  have g2 := hG.1.2
  rcases (arg a1 (wC W) (by omega)).symm with ho | ⟨c, hc, rfl⟩
  · refine ⟨-1, σ, σ, ?_, ?_, hI⟩
    · unfold fE_melt
      rw [if_pos hb, hc_o hE.2.1 g2 ho, if_pos rfl]
    · unfold fM_melt
      rw [mc_o hM.2.1 g2 ho, if_pos rfl]
  obtain ⟨x1, x2, x3, x4⟩ := hE.2.2.2.2 c hc
  obtain ⟨k1, k2, k3, k4, k5⟩ := hG.2.2.2 c hc
  have z1 := (hE.2.2.2.1 _ k3).2.1
  have hE1 := TE_sSi (p := who W c) (v := wsi W (who W c) + nI (wth (wkd W c) (wav W c)) / 2) hE
  have hG1 : Gd (sSi W (who W c) (wsi W (who W c) + nI (wth (wkd W c) (wav W c)) / 2)) := hG
  obtain ⟨τ1, r1, r2, r3⟩ := E_rem ht hE1 hG1 hc
  have hF : PE σ τ1 := (PE.rf.s (by omega)).tr r3
  have hM1 := hM.e hF
  have hM2 := TM_sSi (p := who W c) (v := wsi W (who W c) + nI (wth (wkd W c) (wav W c)) / 2) hM1
  obtain ⟨τ2, s1, s2, s3⟩ := M_goes hM2 hG1 hc
  have y1 := (hM1.2.2.2.1 _ k3).2.1
  have u1 : gI τ1 (gR σ 0 + 2) (who W c) = wsi W (who W c) + nI (wth (wkd W c) (wav W c)) / 2 := ((r2.2.2.2.1 _ k3).2.1).trans up_s
  have u2 : gI τ2 46 (who W c) = wsi W (who W c) + nI (wth (wkd W c) (wav W c)) / 2 := ((s2.2.2.2.1 _ k3).2.1).trans up_s
  have hr : gR τ1 0 = gR σ 0 := hF.2.2 0
  refine hI.fin (r := wsi W (who W c) + nI (wth (wkd W c) (wav W c)) / 2) r2 s2 (Gd_dC hG1) hF (PM.tr (PM.rf.s (by omega)) s3) ?_ ?_
  · unfold fE_melt
    simp (disch := omega) only [ib_t, ix_nI, nm_def, bd_some, bi_some, if_true, if_false, eq_self, nI_1, one_ne, hb, hc_i hE.2.1 g2 hc, x3, z1, E_worth hE hG hc, gR_sI, r1, hr, u1]
  · unfold fM_melt
    obtain ⟨i0, i1, i2, i3⟩ := M_its hM1 hG hc
    simp (disch := omega) only [ib_t, ix_nI, nm_def, bd_some, bi_some, if_true, if_false, eq_self, nI_1, one_ne, mc_i hM1.2.1 g2 hc, i2, y1, M_worth hM1 hG hc, s1, u2]
