/-! keep, again -/
theorem gI_cpo {σ : St} {a b n x j : Nat} (h : x ≠ b) : gI (cpI σ a b n) x j = gI σ x j := if_neg (fun z => h z.1)
theorem gI_cps {σ : St} {a b n j : Nat} (h : j < n) : gI (cpI σ a b n) b j = gI σ a j := if_pos ⟨rfl, h⟩
theorem bec {σ : St} {a b : Nat} (hab : a + 7 < b ∨ b + 7 < a) : ∃ τ, fT_become σ a b = some τ ∧ (gI τ a 0 = gI σ b 0 ∧ gI τ a 1 = gI σ b 1 ∧ gI τ a 2 = gI σ b 2) ∧ (∀ j, j < 7 → gI τ (a + 1) j = gI σ (b + 1) j ∧ gI τ (a + 2) j = gI σ (b + 2) j ∧ gI τ (a + 3) j = gI σ (b + 3) j) ∧ (∀ j, j < 6 → gI τ (a + 4) j = gI σ (b + 4) j ∧ gI τ (a + 5) j = gI σ (b + 5) j ∧ gI τ (a + 6) j = gI σ (b + 6) j ∧ gI τ (a + 7) j = gI σ (b + 7) j) ∧ (∀ k j, ¬ (a ≤ k ∧ k ≤ a + 7) → gI τ k j = gI σ k j) ∧ (∀ k j, gL τ k j = gL σ k j) ∧ (∀ j, gR τ j = gR σ j) := by
  refine ⟨_, rfl, ⟨?_, ?_, ?_⟩, fun j hj => ⟨?_, ?_, ?_⟩, fun j hj => ⟨?_, ?_, ?_, ?_⟩, fun k j h => ?_, fun k j => rfl, fun j => rfl⟩
  all_goals simp only [show (7 : Int32).toNatClampNeg = 7 from rfl, show (6 : Int32).toNatClampNeg = 6 from rfl]
  all_goals simp (disch := omega) only [gI_cpo, gI_cps, gI_o, gI_s, gI_p]
theorem mv_k {r len base : Nat} (hkd : (kd r).2 = len) (hr : (45 ≤ r ∧ r ≤ 48) ∨ r = 66) (hb : base + len ≤ 60) : ∀ n m i σ, m + i = len → m < n → gI σ 44 41 = nI (base + i) → ∃ τ, fM_moveRow_3 n σ r (nI len) 1 (nI i) = some τ ∧ gI τ 44 41 = nI (base + len) ∧ (∀ j, gI τ 65 j = if base + i ≤ j ∧ j < base + len then gI σ r (j - base) else gI σ 65 j) ∧ (∀ a b, ¬ a = 65 → ¬ (a = 44 ∧ b = 41) → gI τ a b = gI σ a b) ∧ (∀ a b, gL τ a b = gL σ a b) ∧ (∀ j, gR τ j = gR σ j)
  | 0, m, i, σ, h1, h2, hz => by omega
  | n + 1, 0, i, σ, h1, h2, hz => by
    unfold fM_moveRow_3
    rw [if_pos (nI_le (by omega) (by omega))]
    exact ⟨σ, rfl, by rw [hz, show base + i = base + len by omega], fun j => by rw [if_neg (by omega)], fun _ _ _ _ => rfl, fun _ _ => rfl, fun _ => rfl⟩
  | n + 1, m + 1, i, σ, h1, h2, hz => by
    unfold fM_moveRow_3
    rw [if_neg (nI_ge (by omega) (by omega)), if_neg one_ne, hkd, if_pos (ib_nI (by omega) (by omega)), hz, if_pos (ib_nI (n := base + i) (by omega) (by omega)), nm_def, nm_def, nm_def, ix_nI (by omega), ix_nI (by omega), gI_o (by decide), hz, nI_1, nI_1]
    obtain ⟨τ, r1, r2, r3, r4, r5, r6⟩ := mv_k hkd hr hb n m (i + 1) (sI (sI σ 65 (base + i) (gI σ r i)) 44 41 (nI (base + i + 1))) (by omega) (by omega) gI_s
    refine ⟨τ, r1, r2, fun j => ?_, fun a b h g => ?_, fun a b => r5 a b, fun j => r6 j⟩
    · have q65 : gI (sI (sI σ 65 (base + i) (gI σ r i)) 44 41 (nI (base + i + 1))) 65 j = if j = base + i then gI σ r i else gI σ 65 j := by
        rw [gI_o (by decide), gI_sI]; simp only [true_and]
      have qr : gI (sI (sI σ 65 (base + i) (gI σ r i)) 44 41 (nI (base + i + 1))) r (j - base) = gI σ r (j - base) := by rw [gI_o (by omega), gI_o (by omega)]
      rw [r3 j, q65, qr]
      by_cases e : j = base + i
      · rw [if_neg (by omega), if_pos e, if_pos (by omega), show j - base = i by omega]
      · by_cases e2 : base + i ≤ j ∧ j < base + len
        · rw [if_pos (by omega), if_pos e2]
        · rw [if_neg (by omega), if_neg e, if_neg e2]
    · rw [r4 a b h g, gI_sI, if_neg g, gI_o h]
theorem mv_a {r len base : Nat} (hkd : (kd r).2 = len) (hr : (45 ≤ r ∧ r ≤ 48) ∨ r = 66) (hb : base + len ≤ 60) : ∀ n m i σ, m + i = len → m < n → gI σ 44 41 = nI (base + i) → ∃ τ, fM_moveRow_3 n σ r (nI len) 0 (nI i) = some τ ∧ gI τ 44 41 = nI (base + len) ∧ (∀ j, i ≤ j → j < len → gI τ r j = gI σ 65 (base + j)) ∧ (∀ a b, ¬ (a = r ∧ i ≤ b) → ¬ (a = 44 ∧ b = 41) → gI τ a b = gI σ a b) ∧ (∀ a b, gL τ a b = gL σ a b) ∧ (∀ j, gR τ j = gR σ j)
  | 0, m, i, σ, h1, h2, hz => by omega
  | n + 1, 0, i, σ, h1, h2, hz => by
    unfold fM_moveRow_3
    rw [if_pos (nI_le (by omega) (by omega))]
    exact ⟨σ, rfl, by rw [hz, show base + i = base + len by omega], fun j _ _ => by omega, fun _ _ _ _ => rfl, fun _ _ => rfl, fun _ => rfl⟩
  | n + 1, m + 1, i, σ, h1, h2, hz => by
    unfold fM_moveRow_3
    rw [if_neg (nI_ge (by omega) (by omega)), if_pos rfl, hz, if_pos (ib_nI (n := base + i) (by omega) (by omega)), hkd, if_pos (ib_nI (n := i) (by omega) (by omega)), nm_def, nm_def, nm_def, ix_nI (by omega), ix_nI (by omega), gI_o (by omega), hz, nI_1, nI_1]
    obtain ⟨τ, r1, r2, r3, r4, r5, r6⟩ := mv_a hkd hr hb n m (i + 1) (sI (sI σ r i (gI σ 65 (base + i))) 44 41 (nI (base + i + 1))) (by omega) (by omega) gI_s
    refine ⟨τ, r1, r2, fun j hj hj2 => ?_, fun a b h g => ?_, fun a b => r5 a b, fun j => r6 j⟩
    · by_cases e : j = i
      · rw [e, r4 r i (by omega) (by omega), gI_o (by omega), gI_s]
      · rw [r3 j (by omega) hj2, gI_o (by decide), gI_o (by omega)]
    · rw [r4 a b (by omega) g, gI_sI, if_neg g, gI_sI, if_neg (by omega)]
theorem keepA (σ : St) : ∃ τ, fM_moveAll σ 1 = some τ ∧ (gI τ 65 0 = gI σ 44 0 ∧ gI τ 65 1 = gI σ 44 4 ∧ gI τ 65 2 = gI σ 44 6) ∧ (∀ p, p < 7 → gI τ 65 (3 + p) = gI σ 45 p ∧ gI τ 65 (10 + p) = gI σ 46 p ∧ gI τ 65 (17 + p) = gI σ 47 p) ∧ (∀ j, j < 24 → gI τ 65 (24 + j) = gI σ 48 j) ∧ (∀ a b, ¬ a = 65 → ¬ a = 66 → ¬ (a = 44 ∧ b = 41) → gI τ a b = gI σ a b) ∧ (∀ a b, gL τ a b = gL σ a b) ∧ (∀ j, gR τ j = gR σ j) := by
  generalize hσ0 : sI (sI (sI (sI σ 44 41 0) 66 0 (gI σ 44 0)) 66 1 (gI σ 44 4)) 66 2 (gI σ 44 6) = σ0
  have f0 : ∀ a b, ¬ a = 66 → ¬ (a = 44 ∧ b = 41) → gI σ0 a b = gI σ a b := fun a b h1 h2 => by
    rw [← hσ0, gI_o h1, gI_o h1, gI_o h1, gI_sI, if_neg h2]
  have z0 : gI σ0 44 41 = nI (0 + 0) := by rw [← hσ0]; rfl
  have y0 : gI σ0 66 0 = gI σ 44 0 ∧ gI σ0 66 1 = gI σ 44 4 ∧ gI σ0 66 2 = gI σ 44 6 := by rw [← hσ0]; exact ⟨rfl, rfl, rfl⟩
  obtain ⟨σ1, a1, a2, a3, a4, a5, a6⟩ := mv_k (r := 66) (len := 3) (base := 0) rfl (by omega) (by omega) 300 3 0 σ0 (by omega) (by omega) z0
  obtain ⟨σ2, b1, b2, b3, b4, b5, b6⟩ := mv_k (r := 45) (len := 7) (base := 3) rfl (by omega) (by omega) 300 7 0 σ1 (by omega) (by omega) a2
  obtain ⟨σ3, c1, c2, c3, c4, c5, c6⟩ := mv_k (r := 46) (len := 7) (base := 10) rfl (by omega) (by omega) 300 7 0 σ2 (by omega) (by omega) b2
  obtain ⟨σ4, d1, d2, d3, d4, d5, d6⟩ := mv_k (r := 47) (len := 7) (base := 17) rfl (by omega) (by omega) 300 7 0 σ3 (by omega) (by omega) c2
  obtain ⟨σ5, e1, e2, e3, e4, e5, e6⟩ := mv_k (r := 48) (len := 24) (base := 24) rfl (by omega) (by omega) 300 24 0 σ4 (by omega) (by omega) d2
  have fr : ∀ a b, ¬ a = 65 → ¬ a = 66 → ¬ (a = 44 ∧ b = 41) → gI σ5 a b = gI σ a b := fun a b h1 h2 h3 => by
    rw [e4 a b h1 h3, d4 a b h1 h3, c4 a b h1 h3, b4 a b h1 h3, a4 a b h1 h3, f0 a b h2 h3]
  refine ⟨σ5, ?_, ⟨?_, ?_, ?_⟩, fun p hp => ⟨?_, ?_, ?_⟩, fun j hj => ?_, fr, fun a b => ?_, fun j => ?_⟩
  · unfold fM_moveAll fM_moveRow
    rw [nm_def, if_pos (by decide), nm_def, if_pos (by decide), nm_def, if_pos (by decide), nm_def]
    show (fM_moveRow_3 300 (sI (sI (sI (sI σ 44 41 0) 66 0 (gI σ 44 0)) 66 1 (gI σ 44 4)) 66 2 (gI σ 44 6)) 66 3 1 0).bind _ = _
    rw [hσ0, show fM_moveRow_3 300 σ0 66 3 1 0 = some σ1 from a1, bd_some, show fM_moveRow_3 300 σ1 45 7 1 0 = some σ2 from b1, bd_some, show fM_moveRow_3 300 σ2 46 7 1 0 = some σ3 from c1, bd_some, show fM_moveRow_3 300 σ3 47 7 1 0 = some σ4 from d1, bd_some, show fM_moveRow_3 300 σ4 48 24 1 0 = some σ5 from e1, bd_some]
  · rw [e3, if_neg (by omega), d3, if_neg (by omega), c3, if_neg (by omega), b3, if_neg (by omega), a3, if_pos (by omega)]; exact y0.1
  · rw [e3, if_neg (by omega), d3, if_neg (by omega), c3, if_neg (by omega), b3, if_neg (by omega), a3, if_pos (by omega)]; exact y0.2.1
  · rw [e3, if_neg (by omega), d3, if_neg (by omega), c3, if_neg (by omega), b3, if_neg (by omega), a3, if_pos (by omega)]; exact y0.2.2
  · rw [e3, if_neg (by omega), d3, if_neg (by omega), c3, if_neg (by omega), b3, if_pos (by omega), a4 45 _ (by omega) (by omega), f0 45 _ (by omega) (by omega), show 3 + p - 3 = p by omega]
  · rw [e3, if_neg (by omega), d3, if_neg (by omega), c3, if_pos (by omega), b4 46 _ (by omega) (by omega), a4 46 _ (by omega) (by omega), f0 46 _ (by omega) (by omega), show 10 + p - 10 = p by omega]
  · rw [e3, if_neg (by omega), d3, if_pos (by omega), c4 47 _ (by omega) (by omega), b4 47 _ (by omega) (by omega), a4 47 _ (by omega) (by omega), f0 47 _ (by omega) (by omega), show 17 + p - 17 = p by omega]
  · rw [e3, if_pos (by omega), d4 48 _ (by omega) (by omega), c4 48 _ (by omega) (by omega), b4 48 _ (by omega) (by omega), a4 48 _ (by omega) (by omega), f0 48 _ (by omega) (by omega), show 24 + j - 24 = j by omega]
  · rw [e5, d5, c5, b5, a5, ← hσ0]; rfl
  · rw [e6, d6, c6, b6, a6, ← hσ0]; rfl
theorem againA (σ : St) : ∃ τ, fM_moveAll σ 0 = some τ ∧ (gI τ 66 0 = gI σ 65 0 ∧ gI τ 66 1 = gI σ 65 1 ∧ gI τ 66 2 = gI σ 65 2) ∧ (∀ p, p < 7 → gI τ 45 p = gI σ 65 (3 + p) ∧ gI τ 46 p = gI σ 65 (10 + p) ∧ gI τ 47 p = gI σ 65 (17 + p)) ∧ (∀ j, j < 24 → gI τ 48 j = gI σ 65 (24 + j)) ∧ (∀ a b, ¬ (45 ≤ a ∧ a ≤ 48) → ¬ a = 66 → ¬ (a = 44 ∧ b = 41) → gI τ a b = gI σ a b) ∧ (∀ a b, gL τ a b = gL σ a b) ∧ (∀ j, gR τ j = gR σ j) := by
  generalize hσ0 : sI (sI (sI (sI σ 44 41 0) 66 0 (gI σ 44 0)) 66 1 (gI σ 44 4)) 66 2 (gI σ 44 6) = σ0
  have f0 : ∀ a b, ¬ a = 66 → ¬ (a = 44 ∧ b = 41) → gI σ0 a b = gI σ a b := fun a b h1 h2 => by
    rw [← hσ0, gI_o h1, gI_o h1, gI_o h1, gI_sI, if_neg h2]
  have z0 : gI σ0 44 41 = nI (0 + 0) := by rw [← hσ0]; rfl
  obtain ⟨σ1, a1, a2, a3, a4, a5, a6⟩ := mv_a (r := 66) (len := 3) (base := 0) rfl (by omega) (by omega) 300 3 0 σ0 (by omega) (by omega) z0
  obtain ⟨σ2, b1, b2, b3, b4, b5, b6⟩ := mv_a (r := 45) (len := 7) (base := 3) rfl (by omega) (by omega) 300 7 0 σ1 (by omega) (by omega) a2
  obtain ⟨σ3, c1, c2, c3, c4, c5, c6⟩ := mv_a (r := 46) (len := 7) (base := 10) rfl (by omega) (by omega) 300 7 0 σ2 (by omega) (by omega) b2
  obtain ⟨σ4, d1, d2, d3, d4, d5, d6⟩ := mv_a (r := 47) (len := 7) (base := 17) rfl (by omega) (by omega) 300 7 0 σ3 (by omega) (by omega) c2
  obtain ⟨σ5, e1, e2, e3, e4, e5, e6⟩ := mv_a (r := 48) (len := 24) (base := 24) rfl (by omega) (by omega) 300 24 0 σ4 (by omega) (by omega) d2
  have fr : ∀ a b, ¬ (45 ≤ a ∧ a ≤ 48) → ¬ a = 66 → ¬ (a = 44 ∧ b = 41) → gI σ5 a b = gI σ a b := fun a b h1 h2 h3 => by
    rw [e4 a b (by omega) h3, d4 a b (by omega) h3, c4 a b (by omega) h3, b4 a b (by omega) h3, a4 a b (by omega) h3, f0 a b h2 h3]
  have h65a : ∀ j, gI σ1 65 j = gI σ 65 j := fun j => by rw [a4 65 j (by omega) (by omega), f0 65 j (by omega) (by omega)]
  have h65b : ∀ j, gI σ2 65 j = gI σ 65 j := fun j => by rw [b4 65 j (by omega) (by omega), h65a]
  have h65c : ∀ j, gI σ3 65 j = gI σ 65 j := fun j => by rw [c4 65 j (by omega) (by omega), h65b]
  have h65d : ∀ j, gI σ4 65 j = gI σ 65 j := fun j => by rw [d4 65 j (by omega) (by omega), h65c]
  have k66 : ∀ j, j < 3 → gI σ5 66 j = gI σ 65 j := fun j hj => by
    rw [e4 66 j (by omega) (by omega), d4 66 j (by omega) (by omega), c4 66 j (by omega) (by omega), b4 66 j (by omega) (by omega), a3 j (by omega) hj, f0 65 _ (by omega) (by omega), Nat.zero_add]
  refine ⟨σ5, ?_, ⟨k66 0 (by omega), k66 1 (by omega), k66 2 (by omega)⟩, fun p hp => ⟨?_, ?_, ?_⟩, fun j hj => ?_, fr, fun a b => ?_, fun j => ?_⟩
  · unfold fM_moveAll fM_moveRow
    rw [nm_def, if_pos (by decide), nm_def, if_pos (by decide), nm_def, if_pos (by decide), nm_def]
    show (fM_moveRow_3 300 (sI (sI (sI (sI σ 44 41 0) 66 0 (gI σ 44 0)) 66 1 (gI σ 44 4)) 66 2 (gI σ 44 6)) 66 3 0 0).bind _ = _
    rw [hσ0, show fM_moveRow_3 300 σ0 66 3 0 0 = some σ1 from a1, bd_some, show fM_moveRow_3 300 σ1 45 7 0 0 = some σ2 from b1, bd_some, show fM_moveRow_3 300 σ2 46 7 0 0 = some σ3 from c1, bd_some, show fM_moveRow_3 300 σ3 47 7 0 0 = some σ4 from d1, bd_some, show fM_moveRow_3 300 σ4 48 24 0 0 = some σ5 from e1, bd_some]
  · rw [e4 45 p (by omega) (by omega), d4 45 p (by omega) (by omega), c4 45 p (by omega) (by omega), b3 p (by omega) hp, h65a]
  · rw [e4 46 p (by omega) (by omega), d4 46 p (by omega) (by omega), c3 p (by omega) hp, h65b]
  · rw [e4 47 p (by omega) (by omega), d3 p (by omega) hp, h65c]
  · rw [e3 j (by omega) hj, h65d]
  · rw [e5, d5, c5, b5, a5, ← hσ0]; rfl
  · rw [e6, d6, c6, b6, a6, ← hσ0]; rfl
theorem Ok.cg {rk kn cn rk' kn' cn' : Nat → Int32} {P C : Nat} (h : Ok rk kn cn P C) (e1 : ∀ p, p < P → rk' p = rk p) (e2 : ∀ p, p < P → kn' p = kn p) (e3 : ∀ j, j < 4 * C → cn' j = cn j) : Ok rk' kn' cn' P C := by
  obtain ⟨o1, o2, o3, o4⟩ := h
  refine ⟨fun p hp => by rw [e1 p hp]; exact o1 p hp, fun p hp => by rw [e2 p hp]; exact o2 p hp, fun p q hp hq => by rw [e2 p hp, e2 q hq]; exact o3 p q hp hq, fun c hc => ?_⟩
  rw [e3 (4 * c) (by omega), e3 (4 * c + 1) (by omega), e3 (4 * c + 2) (by omega), e3 (4 * c + 3) (by omega)]
  exact o4 c hc
theorem st_keep : St_keep Inv := by
  intro σ hI
  have hb := hI.isT
  have ht := hI.t
  have hI0 := hI
  obtain ⟨hr, ⟨P, C, ⟨⟨p1, p2, p3⟩, ⟨q1, q2, q3⟩, z1, d1, e1⟩, hO⟩, hK, hTp, hRw, hSh, hSf, hTr⟩ := hI
  obtain ⟨σ1, b1, b2, b3, b4, b5, b6, b7⟩ := bec (σ := σ) (a := 17) (b := gR σ 0) (by omega)
  obtain ⟨σ2, k1, k2, k3, k4, k5, k6, k7⟩ := keepA (sI σ1 0 3 1)
  have g1 : ∀ a b, 44 ≤ a → gI (sI σ1 0 3 1) a b = gI σ a b := fun a b h => by rw [gI_o (by omega), b5 a b (by omega)]
  refine ⟨1, sI σ1 0 3 1, sI σ2 44 39 1, ?_, ?_, ?_⟩
  · unfold fE_keep
    rw [if_pos hb, b1, bd_some, nm_def]
  · unfold fM_keep
    rw [k1, bd_some, nm_def]
  have fr : ∀ a b, ¬ (17 ≤ a ∧ a ≤ 24) → ¬ a = 65 → ¬ a = 66 → ¬ (a = 44 ∧ (b = 39 ∨ b = 41)) → ¬ (a = 0 ∧ b = 3) → gI (sI σ2 44 39 1) a b = gI σ a b := fun a b h1 h2 h3 h4 h5 => by
    rw [gI_sI, if_neg (by omega), k5 a b h2 h3 (by omega), gI_sI, if_neg (by omega), b5 a b (by omega)]
  have f65 : ∀ j, gI (sI σ2 44 39 1) 65 j = gI σ2 65 j := fun j => gI_o (by decide)
  have f17 : ∀ a j, 17 ≤ a → a ≤ 24 → gI (sI σ2 44 39 1) a j = gI σ1 a j := fun a j h1 h2 => by
    rw [gI_o (by omega), k5 a j (by omega) (by omega) (by omega), gI_o (by omega)]
  refine hI0.rs (fun a b h => fr a b (by omega) (by omega) (by omega) (by omega) (by omega)) (fun j => ?_) ⟨?_, hTp.c (fun a b h => fr a b (by omega) (by omega) (by omega) (by omega) (by omega)), hRw.c (fun a b h => fr a b (by omega) (by omega) (by omega) (by omega) (by omega)), hSh.c (fun a b h => fr a b (by omega) (by omega) (by omega) (by omega) (by omega)) (fun j => ?_), hSf.c (fun a b h => fr a b (by omega) (by omega) (by omega) (by omega) (by omega)), hTr.c (fun a b h => fr a b (by omega) (by omega) (by omega) (by omega) (by omega))⟩
  · rw [gR_sI, k7, gR_sI, b7]
  rotate_left
  · rw [gL_sI, k6, gL_sI, b6]
  refine ⟨?_, Or.inr ⟨P, C, ⟨?_, ?_, p3⟩, ⟨?_, ?_, q3⟩, ?_, fun p hp => ⟨?_, ?_, ?_⟩, fun c hc => ⟨?_, ?_, ?_, ?_⟩, ?_⟩⟩
  · rw [gI_s, gI_o (by decide), k5 0 3 (by omega) (by omega) (by omega), gI_s]
  · rw [f17 17 0 (by omega) (by omega), b2.1]; exact p1
  · rw [f65, k2.1, g1 44 0 (by omega)]; exact p2
  · rw [f17 17 1 (by omega) (by omega), b2.2.1]; exact q1
  · rw [f65, k2.2.1, g1 44 4 (by omega)]; exact q2
  · rw [f17 17 2 (by omega) (by omega), b2.2.2, f65, k2.2.2, g1 44 6 (by omega)]; exact z1
  · rw [f17 18 p (by omega) (by omega), f65, (k3 p (by omega)).1, g1 45 p (by omega)]; exact ((b3 p (by omega)).1).trans (d1 p hp).1
  · rw [f17 19 p (by omega) (by omega), f65, (k3 p (by omega)).2.1, g1 46 p (by omega)]; exact ((b3 p (by omega)).2.1).trans (d1 p hp).2.1
  · rw [f17 20 p (by omega) (by omega), f65, (k3 p (by omega)).2.2, g1 47 p (by omega)]; exact ((b3 p (by omega)).2.2).trans (d1 p hp).2.2
  · rw [f17 21 c (by omega) (by omega), f65, k4 _ (by omega), g1 48 _ (by omega)]; exact ((b4 c (by omega)).1).trans (e1 c hc).1
  · rw [f17 22 c (by omega) (by omega), f65, k4 _ (by omega), g1 48 _ (by omega)]; exact ((b4 c (by omega)).2.1).trans (e1 c hc).2.1
  · rw [f17 23 c (by omega) (by omega), f65, k4 _ (by omega), g1 48 _ (by omega)]; exact ((b4 c (by omega)).2.2.1).trans (e1 c hc).2.2.1
  · rw [f17 24 c (by omega) (by omega), f65, k4 _ (by omega), g1 48 _ (by omega)]; exact ((b4 c (by omega)).2.2.2).trans (e1 c hc).2.2.2
  · refine hO.cg (fun p hp => ?_) (fun p hp => ?_) (fun j hj => ?_)
    · show gI _ 65 (3 + p) = _
      rw [f65, (k3 p (by omega)).1, g1 45 p (by omega)]
    · show gI _ 65 (17 + p) = _
      rw [f65, (k3 p (by omega)).2.2, g1 47 p (by omega)]
    · show gI _ 65 (24 + j) = _
      rw [f65, k4 j (by omega), g1 48 j (by omega)]
theorem st_again : St_again Inv := by
  intro σ hI
  have hb := hI.isT
  have ht := hI.t
  have hI0 := hI
  obtain ⟨hr, -, hK, hTp, hRw, hSh, hSf, hTr⟩ := hI
  obtain ⟨ek, hK2⟩ := id hK
  by_cases h0 : gI σ 44 39 = 0
  · refine ⟨-3, σ, σ, ?_, ?_, hI0⟩
    · unfold fE_again
      rw [ek, h0, if_pos rfl]
    · unfold fM_again
      rw [h0, if_pos rfl]
  rcases hK2 with hK2 | ⟨P, C, ⟨p1, p2, p3⟩, ⟨q1, q2, q3⟩, z1, d1, e1, hO⟩
  · exact absurd hK2 h0
  obtain ⟨σ1, b1, b2, b3, b4, b5, b6, b7⟩ := bec (σ := σ) (a := gR σ 0) (b := 17) (by omega)
  obtain ⟨σ2, k1, k2, k3, k4, k5, k6, k7⟩ := againA σ1
  have h44 : ∀ a b, 17 ≤ a → gI σ1 a b = gI σ a b := fun a b h => b5 a b (by omega)
  have hb1 : isTb (gR σ1 0) = true := by rw [b7]; exact hb
  generalize hτ : sI (sI (sI σ2 44 0 (gI σ2 66 0)) 44 4 (gI σ2 66 1)) 44 6 (gI σ2 66 2) = τ
  have ft : ∀ a b, ¬ (a = 44 ∧ (b = 0 ∨ b = 4 ∨ b = 6)) → gI τ a b = gI σ2 a b := fun a b h => by
    rw [← hτ, gI_sI, if_neg (by omega), gI_sI, if_neg (by omega), gI_sI, if_neg (by omega)]
  have t0 : gI τ 44 0 = gI σ 65 0 := by
    rw [← hτ]; show gI σ2 66 0 = _; rw [k2.1, h44 65 0 (by omega)]
  have t4 : gI τ 44 4 = gI σ 65 1 := by
    rw [← hτ]; show gI σ2 66 1 = _; rw [k2.2.1, h44 65 1 (by omega)]
  have t6 : gI τ 44 6 = gI σ 65 2 := by
    rw [← hτ]; show gI σ2 66 2 = _; rw [k2.2.2, h44 65 2 (by omega)]
  refine ⟨nI P, σ1, τ, ?_, ?_, ?_⟩
  · unfold fE_again
    rw [ek, if_neg h0, if_pos hb, b1, bd_some, if_pos hb1, b7, b2.1, p1]
  · unfold fM_again
    rw [h44 44 39 (by omega), if_neg h0, k1, bd_some, if_pos (by decide), nm_def, if_pos (by decide), nm_def, if_pos (by decide), nm_def]
    show some (gI (sI (sI (sI σ2 44 0 (gI σ2 66 0)) 44 4 (gI σ2 66 1)) 44 6 (gI σ2 66 2)) 44 0, sI (sI (sI σ2 44 0 (gI σ2 66 0)) 44 4 (gI σ2 66 1)) 44 6 (gI σ2 66 2)) = _
    rw [hτ, t0, p2]
  have hR : ∀ j, gR τ j = gR σ j := fun j => by rw [← hτ, gR_sI, gR_sI, gR_sI, k7, b7]
  have fr : ∀ a b, ¬ (1 ≤ a ∧ a ≤ 16) → ¬ (44 ≤ a ∧ a ≤ 48 ∧ (a = 44 → b = 0 ∨ b = 4 ∨ b = 6 ∨ b = 41)) → ¬ a = 66 → gI τ a b = gI σ a b := fun a b h1 h2 h3 => by
    rw [ft a b (by omega), k5 a b (by omega) h3 (by omega), b5 a b (by omega)]
  have fE : ∀ a b, a < 17 → gI τ a b = gI σ1 a b := fun a b h => by rw [ft a b (by omega), k5 a b (by omega) (by omega) (by omega)]
  refine ⟨by rw [hR, hR]; exact hr, ?_, hK.c (fun a b h => fr a b (by omega) (by omega) (by omega)), hTp.c (fun a b h => fr a b (by omega) (by omega) (by omega)), hRw.c (fun a b h => fr a b (by omega) (by omega) (by omega)), hSh.c (fun a b h => fr a b (by omega) (by omega) (by omega)) (fun j => ?_), hSf.c (fun a b h => fr a b (by omega) (by omega) (by omega)), hTr.c (fun a b h => fr a b (by omega) (by omega) (by omega))⟩
  rotate_left
  · rw [← hτ, gL_sI, gL_sI, gL_sI, k6, b6]
  have m45 : ∀ p, p < 7 → gI τ 45 p = gI σ 65 (3 + p) := fun p hp => by rw [ft 45 p (by omega), (k3 p hp).1, h44 65 _ (by omega)]
  have m46 : ∀ p, p < 7 → gI τ 46 p = gI σ 65 (10 + p) := fun p hp => by rw [ft 46 p (by omega), (k3 p hp).2.1, h44 65 _ (by omega)]
  have m47 : ∀ p, p < 7 → gI τ 47 p = gI σ 65 (17 + p) := fun p hp => by rw [ft 47 p (by omega), (k3 p hp).2.2, h44 65 _ (by omega)]
  have m48 : ∀ j, j < 24 → gI τ 48 j = gI σ 65 (24 + j) := fun j hj => by rw [ft 48 j (by omega), k4 j hj, h44 65 _ (by omega)]
  rw [hR]
  refine ⟨P, C, ⟨⟨?_, by rw [t0]; exact p2, p3⟩, ⟨?_, by rw [t4]; exact q2, q3⟩, ?_, fun p hp => ⟨?_, ?_, ?_⟩, fun c hc => ⟨?_, ?_, ?_, ?_⟩⟩, ?_⟩
  · rw [fE _ _ (by omega), b2.1]; exact p1
  · rw [fE _ _ (by omega), b2.2.1]; exact q1
  · rw [fE _ _ (by omega), b2.2.2, t6]; exact z1
  · rw [fE _ _ (by omega), (b3 p (by omega)).1, m45 p (by omega)]; exact (d1 p hp).1
  · rw [fE _ _ (by omega), (b3 p (by omega)).2.1, m46 p (by omega)]; exact (d1 p hp).2.1
  · rw [fE _ _ (by omega), (b3 p (by omega)).2.2, m47 p (by omega)]; exact (d1 p hp).2.2
  · rw [fE _ _ (by omega), (b4 c (by omega)).1, m48 _ (by omega)]; exact (e1 c hc).1
  · rw [fE _ _ (by omega), (b4 c (by omega)).2.1, m48 _ (by omega)]; exact (e1 c hc).2.1
  · rw [fE _ _ (by omega), (b4 c (by omega)).2.2.1, m48 _ (by omega)]; exact (e1 c hc).2.2.1
  · rw [fE _ _ (by omega), (b4 c (by omega)).2.2.2, m48 _ (by omega)]; exact (e1 c hc).2.2.2
  · exact hO.cg (fun p hp => m45 p (by omega)) (fun p hp => m47 p (by omega)) (fun j hj => m48 j (by omega))
