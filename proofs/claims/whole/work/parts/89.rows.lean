/-! rows, sheets, shelves: calls that leave the town -/
theorem Inv.rs {σ τ : St} (h : Inv σ) (hT : ∀ k j, (k < 17 ∧ k ≠ 0) ∨ (44 ≤ k ∧ k ≤ 48 ∧ (k = 44 → j = 0 ∨ j = 4 ∨ j = 6)) → gI τ k j = gI σ k j) (hR : ∀ j, gR τ j = gR σ j) (r : Rst τ) : Inv τ := by
  have ht := h.t
  obtain ⟨hr, ⟨P, C, ⟨⟨p1, p2, p3⟩, ⟨q1, q2, q3⟩, z1, d1, e1⟩, o1, o2, o3, o4⟩, -⟩ := h
  have f : ∀ k j, k < 8 → gI τ (gR σ 0 + k) j = gI σ (gR σ 0 + k) j := fun k j hk => hT _ j (Or.inl (by omega))
  have f0 : ∀ j, gI τ (gR σ 0) j = gI σ (gR σ 0) j := fun j => f 0 j (by decide)
  have g45 : ∀ j, gI τ 45 j = gI σ 45 j := fun j => hT 45 j (Or.inr (by omega))
  have g46 : ∀ j, gI τ 46 j = gI σ 46 j := fun j => hT 46 j (Or.inr (by omega))
  have g47 : ∀ j, gI τ 47 j = gI σ 47 j := fun j => hT 47 j (Or.inr (by omega))
  have g48 : ∀ j, gI τ 48 j = gI σ 48 j := fun j => hT 48 j (Or.inr (by omega))
  have a0 : gI τ 44 0 = gI σ 44 0 := hT 44 0 (Or.inr (by omega))
  have a4 : gI τ 44 4 = gI σ 44 4 := hT 44 4 (Or.inr (by omega))
  have a6 : gI τ 44 6 = gI σ 44 6 := hT 44 6 (Or.inr (by omega))
  refine ⟨by rw [hR 0, hR 1]; exact hr, ?_, r⟩
  rw [hR 0]
  refine ⟨P, C, ⟨⟨by rw [f0]; exact p1, by rw [a0]; exact p2, p3⟩, ⟨by rw [f0]; exact q1, by rw [a4]; exact q2, q3⟩, by rw [f0, a6]; exact z1, fun p hp => ?_, fun c hc => ?_⟩, ?_⟩
  · rw [f 1 p (by decide), f 2 p (by decide), f 3 p (by decide), g45, g46, g47]; exact d1 p hp
  · rw [f 4 c (by decide), f 5 c (by decide), f 6 c (by decide), f 7 c (by decide), g48, g48, g48, g48]; exact e1 c hc
  · have e45 : gI τ 45 = gI σ 45 := funext g45
    have e47 : gI τ 47 = gI σ 47 := funext g47
    have e48 : gI τ 48 = gI σ 48 := funext g48
    rw [e45, e47, e48]
    exact ⟨o1, o2, o3, o4⟩
theorem Sh.c {σ τ : St} (h : Sh σ) (e : ∀ k j, (34 ≤ k ∧ k ≤ 40) ∨ k = 58 ∨ k = 59 → gI τ k j = gI σ k j) (eL : ∀ j, gL τ 60 j = gL σ 60 j) : Sh τ := by
  intro s hs
  obtain ⟨a, b, c, n2, d, d2, d3⟩ := h s hs
  rw [e 34 s (by omega), e 58 s (by omega), e 35 s (by omega), e 59 s (by omega)]
  refine ⟨a, b, c, n2, d, d2, fun i hi => ?_⟩
  rw [eL, e (37 + s) i (by omega)]
  exact d3 i hi
theorem nI_m3 (c k : Nat) : (3 : Int32) * nI c + nI k = nI (3 * c + k) := by
  rw [show (3 : Int32) = nI 3 from rfl, pk_mul, nI_add]
/-- a place of the rows -/
theorem rowpart {σ : St} {r : Nat} (hr : r ≤ 7) (h1 : gI σ 0 7 = nI r) (h2 : gI σ 44 26 = nI r) (i w : Int32) : (∃ a b, a < r ∧ b < 3 ∧ i = nI a ∧ w = nI b ∧ fE_isRowPart σ i w = 1 ∧ fM_isRow σ i w = 1) ∨ (fE_isRowPart σ i w = 0 ∧ fM_isRow σ i w = 0) := by
  unfold fE_isRowPart fM_isRow
  rw [h1, h2]
  rcases arg i r (by omega) with ⟨a, ha, rfl⟩ | ho
  · rw [if_neg (nI_pos (by omega)), if_neg (nI_ge ha (by omega)), in_nI ha (by omega), if_neg one_ne]
    rcases arg w 3 (by omega) with ⟨b, hb, rfl⟩ | hw
    · refine Or.inl ⟨a, b, ha, hb, rfl, rfl, ?_, ?_⟩
      · rw [if_neg (nI_pos (by omega)), if_neg]
        exact nI_ge (a := b) (b := 3) hb (by omega)
      · have e : fM_in (nI b) 0 2 = 1 := by
          rw [in_iff, if_pos]
          rw [nI_toInt (by omega), show (0 : Int32).toInt = 0 from rfl, show (2 : Int32).toInt = 2 from rfl]
          omega
        rw [e]
        rfl
    · refine Or.inr ⟨?_, ?_⟩
      · by_cases g : w < 0
        · rw [if_pos g]
        · rw [if_neg g, if_pos]
          rw [lt_i, show (0 : Int32).toInt = 0 from rfl] at g
          rw [le_i, show (3 : Int32).toInt = 3 from rfl]
          omega
      · have e : fM_in w 0 2 = 0 := by
          rw [in_iff, if_neg]
          rw [show (0 : Int32).toInt = 0 from rfl, show (2 : Int32).toInt = 2 from rfl]
          omega
        rw [e]
        rfl
  · refine Or.inr ⟨?_, ?_⟩
    · by_cases g : i < 0
      · rw [if_pos g]
      · rw [if_neg g, if_pos]
        rw [lt_i, show (0 : Int32).toInt = 0 from rfl] at g
        rw [le_i, nI_toInt (by omega)]
        omega
    · rw [in_out (by omega) ho, if_pos rfl]
/-- rowOf -/
theorem st_rowOf : St_rowOf Inv := by
  intro σ a1 a2 hI
  have hI0 := hI
  obtain ⟨-, -, -, -, ⟨r, r1, r2, r3, r4⟩, -⟩ := hI
  rcases rowpart r1 r2 r3 a1 a2 with ⟨a, b, ha, hb, rfl, rfl, h1, h2⟩ | ⟨h1, h2⟩
  · refine ⟨gI σ 57 (3 * a + b), σ, σ, ⟨?_, rfl⟩, ⟨?_, rfl⟩, hI0⟩
    · unfold fE_rowOf
      rw [h1, if_neg one_ne, nI_m3, if_pos (ib_nI (by omega) (by omega)), ix_nI (by omega), r4 _ (by omega)]
    · unfold fM_rowOf
      rw [h2, if_neg one_ne, nI_m3, if_pos (ib_nI (by omega) (by omega)), ix_nI (by omega)]
  · refine ⟨-9, σ, σ, ⟨?_, rfl⟩, ⟨?_, rfl⟩, hI0⟩
    · unfold fE_rowOf
      rw [h1, if_pos rfl]
    · unfold fM_rowOf
      rw [h2, if_pos rfl]
/-- alterRow -/
theorem st_alterRow : St_alterRow Inv := by
  intro σ a1 a2 a3 hI
  have hI0 := hI
  obtain ⟨-, -, hK, hTp, ⟨r, r1, r2, r3, r4⟩, hSh, hSf, hTr⟩ := hI
  rcases rowpart r1 r2 r3 a1 a2 with ⟨a, b, ha, hb, rfl, rfl, h1, h2⟩ | ⟨h1, h2⟩
  · refine ⟨gI σ 57 (3 * a + b), sI σ 30 (3 * a + b) a3, sI (sI σ 30 (3 * a + b) a3) 57 (3 * a + b) a3, ?_, ?_, ?_⟩
    · unfold fE_alterRow
      rw [h1, if_neg one_ne, nI_m3, if_pos (ib_nI (by omega) (by omega)), nm_def, if_pos (ib_nI (by omega) (by omega)), nm_def, ix_nI (by omega), r4 _ (by omega)]
    · unfold fM_alterRow
      have h2' : fM_isRow (sI σ 30 (3 * a + b) a3) (nI a) (nI b) = 1 := h2
      rw [h2', if_neg one_ne, nI_m3, if_pos (ib_nI (by omega) (by omega)), nm_def, if_pos (ib_nI (by omega) (by omega)), nm_def, ix_nI (by omega)]
      rfl
    · refine hI0.rs (fun k j hk => ?_) (fun _ => rfl) ⟨hK, hTp, ⟨r, r1, r2, r3, fun j hj => ?_⟩, hSh.c (fun k j hk => ?_) (fun _ => rfl), hSf, hTr⟩
      · rw [gI_o (by omega), gI_o (by omega)]
      rotate_left
      · rw [gI_o (by omega), gI_o (by omega)]
      · by_cases h : j = 3 * a + b
        · subst h
          rw [gI_s, gI_o (by omega), gI_s]
        · rw [gI_p h, gI_o (by omega), gI_p h, gI_o (by omega)]
          exact r4 j hj
  · refine ⟨-9, σ, σ, ?_, ?_, hI0⟩
    · unfold fE_alterRow
      rw [h1, if_pos rfl]
    · unfold fM_alterRow
      rw [h2, if_pos rfl]
