/-! sheets and shelves -/
theorem Kp.c {σ τ : St} (h : Kp σ) (e : ∀ k j, (17 ≤ k ∧ k ≤ 24) ∨ k = 65 ∨ (k = 0 ∧ j = 3) ∨ (k = 44 ∧ j = 39) → gI τ k j = gI σ k j) : Kp τ := by
  have e17 : ∀ j, gI τ 17 j = gI σ 17 j := fun j => e 17 j (by omega)
  have e18 : ∀ j, gI τ 18 j = gI σ 18 j := fun j => e 18 j (by omega)
  have e19 : ∀ j, gI τ 19 j = gI σ 19 j := fun j => e 19 j (by omega)
  have e20 : ∀ j, gI τ 20 j = gI σ 20 j := fun j => e 20 j (by omega)
  have e21 : ∀ j, gI τ 21 j = gI σ 21 j := fun j => e 21 j (by omega)
  have e22 : ∀ j, gI τ 22 j = gI σ 22 j := fun j => e 22 j (by omega)
  have e23 : ∀ j, gI τ 23 j = gI σ 23 j := fun j => e 23 j (by omega)
  have e24 : ∀ j, gI τ 24 j = gI σ 24 j := fun j => e 24 j (by omega)
  have e65 : ∀ j, gI τ 65 j = gI σ 65 j := fun j => e 65 j (by omega)
  refine ⟨by rw [e 0 3 (by omega), e 44 39 (by omega)]; exact h.1, ?_⟩
  rw [e 44 39 (by omega)]
  simp only [e17, e18, e19, e20, e21, e22, e23, e24, e65]
  exact h.2
theorem Tp.c {σ τ : St} (h : Tp σ) (e : ∀ k j, k = 26 ∨ k = 49 ∨ (k = 25 ∧ j = 1) ∨ (k = 44 ∧ j = 8) → gI τ k j = gI σ k j) : Tp τ := by
  obtain ⟨n, t1, t2, t3, t4⟩ := h
  refine ⟨n, t1, by rw [e 25 1 (by omega)]; exact t2, by rw [e 44 8 (by omega)]; exact t3, fun i hi => ?_⟩
  rw [e 26 i (by omega), e 49 i (by omega)]
  exact t4 i hi
theorem Rw.c {σ τ : St} (h : Rw σ) (e : ∀ k j, k = 30 ∨ k = 57 ∨ (k = 0 ∧ j = 7) ∨ (k = 44 ∧ j = 26) → gI τ k j = gI σ k j) : Rw τ := by
  obtain ⟨n, t1, t2, t3, t4⟩ := h
  refine ⟨n, t1, by rw [e 0 7 (by omega)]; exact t2, by rw [e 44 26 (by omega)]; exact t3, fun i hi => ?_⟩
  rw [e 30 i (by omega), e 57 i (by omega)]
  exact t4 i hi
theorem Sf.c {σ τ : St} (h : Sf σ) (e : ∀ k j, (41 ≤ k ∧ k ≤ 43) ∨ (61 ≤ k ∧ k ≤ 63) → gI τ k j = gI σ k j) : Sf τ := by
  intro s hs
  rw [e 41 s (by omega), e 42 s (by omega), e 43 s (by omega), e 61 s (by omega), e 62 s (by omega), e 63 s (by omega)]
  exact h s hs
theorem Tr.c {σ τ : St} (h : Tr σ) (e : ∀ k j, k = 32 ∨ k = 64 ∨ (k = 31 ∧ j = 1) ∨ (k = 44 ∧ j = 37) → gI τ k j = gI σ k j) : Tr τ := by
  obtain ⟨n, t1, t2, t3, t4⟩ := h
  refine ⟨n, t1, by rw [e 31 1 (by omega)]; exact t2, by rw [e 44 37 (by omega)]; exact t3, fun i hi => ?_⟩
  rw [e 32 i (by omega), e 64 i (by omega)]
  exact t4 i hi
theorem in_zero {v a b : Int32} (h : fM_in v a b = 0) : v.toInt < a.toInt ∨ b.toInt < v.toInt := by
  rw [in_iff] at h
  by_cases g : a.toInt ≤ v.toInt ∧ v.toInt ≤ b.toInt
  · rw [if_pos g] at h; exact absurd h one_ne
  · omega
theorem sh_arg (i : Int32) : (∃ s, s < 4 ∧ i = nI s ∧ fH_hasSheet i = 1 ∧ fH_hasShelf i = 1 ∧ fM_isShelf i = 1) ∨ (fH_hasSheet i = 0 ∧ fH_hasShelf i = 0 ∧ fM_isShelf i = 0) := by
  rcases in_03 i with ⟨h, s, hs, rfl⟩ | h
  · refine Or.inl ⟨s, hs, rfl, ?_, ?_, h⟩
    · unfold fH_hasSheet
      rw [if_neg (nI_pos (by omega)), if_neg (show ¬ (4 : Int32) ≤ nI s from nI_ge (a := s) (b := 4) hs (by omega))]
    · unfold fH_hasShelf
      rw [if_neg (nI_pos (by omega)), if_neg (show ¬ (4 : Int32) ≤ nI s from nI_ge (a := s) (b := 4) hs (by omega))]
  · have h2 := in_zero h
    rw [show (0 : Int32).toInt = 0 from rfl, show (3 : Int32).toInt = 3 from rfl] at h2
    have key : (if i < 0 then (0 : Int32) else if (4 : Int32) ≤ i then 0 else 1) = 0 := by
      by_cases g : i < 0
      · rw [if_pos g]
      · rw [if_neg g, if_pos]
        rw [lt_i, show (0 : Int32).toInt = 0 from rfl] at g
        rw [le_i, show (4 : Int32).toInt = 4 from rfl]
        omega
    exact Or.inr ⟨key, key, h⟩
theorem m1_nI {k : Nat} (hk : k < 1000) : ¬ nI k = -1 := by
  rw [eq_i, nI_toInt (by omega), show (-1 : Int32).toInt = -1 from rfl]
  omega
theorem m1_neg : ¬ (0 : Int32) ≤ -1 := by decide
theorem refus {σ : St} (hSh : Sh σ) {s : Nat} (hs : s < 4) (w : Int32) : ∃ x, fH_refusalAs σ (nI s) w = some x ∧ fM_lacksSort σ (nI s) w = some x ∧ (x = 0 → gI σ 58 s = w ∧ ∃ k, k < 4 ∧ w = nI k) := by
  obtain ⟨a, -, c, -⟩ := hSh s hs
  unfold fH_refusalAs fM_lacksSort
  rw [if_pos (ib_nI hs (by omega)), if_pos (ib_nI hs (by omega)), if_pos (ib_nI hs (by omega)), if_pos (ib_nI hs (by omega)), ix_nI (by omega), a]
  rcases c with c | ⟨k, hk, c⟩
  · rw [c]
    exact ⟨-11, by rw [if_pos rfl], by rw [if_neg m1_neg], fun h => absurd h (by decide)⟩
  · rw [c, if_neg (m1_nI (by omega)), if_pos (nI_pos' (by omega))]
    refine ⟨_, rfl, rfl, fun h => ?_⟩
    by_cases g : nI k = w
    · exact ⟨g, k, hk, g.symm⟩
    · rw [if_neg g] at h
      exact absurd h (by decide)
theorem e40 (s i : Nat) : (40 : Int32) * nI s + nI i = nI (40 * s + i) := by
  rw [show (40 : Int32) = nI 40 from rfl, pk_mul, nI_add]
theorem i64_back (x : Int32) : x.toInt64.toInt32 = x := by
  rw [eq_i, Int64.toInt_toInt32, Int32.toInt_toInt64]
  exact Int32.toInt_bmod_size x
/-- item -/
theorem st_item : St_item Inv := by
  intro σ a1 a2 a3 hI
  have hI0 := hI
  obtain ⟨-, -, -, -, -, hSh, -⟩ := hI
  rcases (sh_arg a1).symm with ⟨h1, -, h2⟩ | ⟨s, hs, rfl, h1, -, h2⟩
  · exact ⟨-1, σ, σ, ⟨by unfold fE_item; rw [h1, if_pos rfl], rfl⟩, ⟨by unfold fM_item; rw [h2, if_pos rfl], rfl⟩, hI0⟩
  rcases (in_03 a2).symm with ho | ⟨hin, w, hw, rfl⟩
  · refine ⟨-1, σ, σ, ⟨?_, rfl⟩, ⟨by unfold fM_item; rw [h2, if_neg one_ne, ho, if_pos rfl], rfl⟩, hI0⟩
    have h3 := in_zero ho
    rw [show (0 : Int32).toInt = 0 from rfl, show (3 : Int32).toInt = 3 from rfl] at h3
    unfold fE_item
    rw [h1, if_neg one_ne]
    by_cases g : a2 < 0
    · rw [if_pos g]
    · rw [if_neg g, if_neg]
      rw [lt_i, show (0 : Int32).toInt = 0 from rfl] at g
      rw [le_i, show (3 : Int32).toInt = 3 from rfl]
      omega
  obtain ⟨x, x1, x2, x3⟩ := refus hSh hs (nI w)
  have e3 : nI w ≤ (3 : Int32) := nI_le (a := w) (b := 3) (by omega) (by omega)
  by_cases hx : x = 0
  · obtain ⟨a, b, -, n, hn, d2, d3⟩ := hSh s hs
    rcases (arg a3 n (by omega)).symm with ho | ⟨i, hi, rfl⟩
    · refine ⟨-12, σ, σ, ⟨?_, rfl⟩, ⟨?_, rfl⟩, hI0⟩
      · unfold fE_item
        rw [h1, if_neg one_ne, if_neg (nI_pos (by omega)), if_pos e3, x1, bd_some, if_pos hx]
        by_cases g : a3 < 0
        · rw [if_pos g]
        · rw [if_neg g, if_pos (ib_nI hs (by omega)), ix_nI (by omega), b, d2, if_pos]
          rw [lt_i, show (0 : Int32).toInt = 0 from rfl] at g
          rw [le_i, nI_toInt (by omega)]
          omega
      · unfold fM_item
        rw [h2, if_neg one_ne, hin, if_neg one_ne, x2, bd_some, if_pos hx, if_pos (ib_nI hs (by omega)), ix_nI (by omega), d2, in_out (by omega) ho, if_pos rfl]
    · refine ⟨gI σ (37 + s) i, σ, σ, ⟨?_, rfl⟩, ⟨?_, rfl⟩, hI0⟩
      · unfold fE_item
        rw [h1, if_neg one_ne, if_neg (nI_pos (by omega)), if_pos e3, x1, bd_some, if_pos hx, if_neg (nI_pos (by omega)), if_pos (ib_nI hs (by omega)), ix_nI (by omega), b, d2, if_neg (nI_ge hi (by omega)), if_pos (ib_nI hs (by omega)), if_pos (ib_nI (by omega) (by omega)), ix_nI (by omega)]
      · unfold fM_item
        rw [h2, if_neg one_ne, hin, if_neg one_ne, x2, bd_some, if_pos hx, if_pos (ib_nI hs (by omega)), ix_nI (by omega), d2, in_nI hi (by omega), if_neg one_ne, e40, if_pos (ib_nI (by omega) (by omega)), ix_nI (by omega), ← d3 i hi, i64_back]
  · refine ⟨x, σ, σ, ⟨?_, rfl⟩, ⟨?_, rfl⟩, hI0⟩
    · unfold fE_item
      rw [h1, if_neg one_ne, if_neg (nI_pos (by omega)), if_pos e3, x1, bd_some, if_neg hx]
    · unfold fM_item
      rw [h2, if_neg one_ne, hin, if_neg one_ne, x2, bd_some, if_neg hx]
/-- put -/
theorem st_put : St_put Inv := by
  intro σ a1 a2 a3 hI
  have hI0 := hI
  obtain ⟨-, -, hK, hTp, hRw, hSh, hSf, hTr⟩ := hI
  rcases (sh_arg a1).symm with ⟨h1, -, h2⟩ | ⟨s, hs, rfl, h1, -, h2⟩
  · exact ⟨-1, σ, σ, by unfold fE_put; rw [h1, if_pos rfl], by unfold fM_put; rw [h2, if_pos rfl], hI0⟩
  obtain ⟨a, b, c, n, hn, d2, d3⟩ := hSh s hs
  rcases c with c | ⟨k, hk, c⟩
  · refine ⟨-11, σ, σ, ?_, ?_, hI0⟩
    · unfold fE_put
      rw [h1, if_neg one_ne, if_pos (ib_nI hs (by omega)), ix_nI (by omega), a, c, if_pos rfl]
    · unfold fM_put
      rw [h2, if_neg one_ne, if_pos (ib_nI hs (by omega)), ix_nI (by omega), c, if_neg m1_neg]
  rcases (arg a2 n (by omega)).symm with ho | ⟨i, hi, rfl⟩
  · refine ⟨-12, σ, σ, ?_, ?_, hI0⟩
    · unfold fE_put
      rw [h1, if_neg one_ne, if_pos (ib_nI hs (by omega)), ix_nI (by omega), a, c, if_neg (m1_nI (by omega))]
      by_cases g : a2 < 0
      · rw [if_pos g]
      · rw [if_neg g, if_pos (ib_nI hs (by omega)), b, d2, if_neg]
        rw [lt_i, show (0 : Int32).toInt = 0 from rfl] at g
        rw [lt_i, nI_toInt (by omega)]
        omega
    · unfold fM_put
      rw [h2, if_neg one_ne, if_pos (ib_nI hs (by omega)), ix_nI (by omega), c, if_pos (nI_pos' (by omega)), if_pos (ib_nI hs (by omega)), d2, in_out (by omega) ho, if_pos rfl]
  have eE : fE_put σ (nI s) (nI i) a3 = some (1, sI σ (37 + s) i (fH_narrowed a3 (nI k))) := by
    unfold fE_put
    rw [h1, if_neg one_ne, if_pos (ib_nI hs (by omega)), ix_nI (by omega), a, c, if_neg (m1_nI (by omega)), if_neg (nI_pos (by omega)), if_pos (ib_nI hs (by omega)), b, d2, if_pos (nI_lt hi (by omega)), if_pos (ib_nI hs (by omega)), if_pos (ib_nI hs (by omega)), if_pos (ib_nI (by omega) (by omega)), nm_def, ix_nI (by omega)]
  refine ⟨1, _, sL (sI σ (37 + s) i (fH_narrowed a3 (nI k))) 60 (40 * s + i) (fH_narrowed a3 (nI k)).toInt64, eE, ?_, ?_⟩
  · unfold fM_put
    have q58 : gI (sI σ (37 + s) i (fH_narrowed a3 (nI k))) 58 s = nI k := by rw [gI_o (by omega)]; exact c
    have q59 : gI (sI σ (37 + s) i (fH_narrowed a3 (nI k))) 59 s = nI n := by rw [gI_o (by omega)]; exact d2
    rw [h2, if_neg one_ne, if_pos (ib_nI hs (by omega)), ix_nI (by omega), q58, if_pos (nI_pos' (by omega)), if_pos (ib_nI hs (by omega)), q59, in_nI hi (by omega), if_neg one_ne, if_pos (ib_nI hs (by omega)), e40, if_pos (ib_nI hs (by omega)), if_pos (ib_nI (n := 40 * s + i) (N := 160) (by omega) (by omega)), nm_def, nm_def, nm_def, ix_nI (by omega)]
    unfold fH_narrowed
    by_cases g0 : nI k = 0
    · rw [if_pos g0, if_pos g0]
    · rw [if_neg g0, if_neg g0]
      by_cases g1 : nI k = 1
      · rw [if_pos g1, if_pos g1, if_pos (ib_nI (n := 40 * s + i) (N := 160) (by omega) (by omega))]
      · rw [if_neg g1, if_neg g1, if_pos (ib_nI (n := 40 * s + i) (N := 160) (by omega) (by omega))]
  · have key : ∀ k' j, ¬ k' = 37 + s → gI (sL (sI σ (37 + s) i (fH_narrowed a3 (nI k))) 60 (40 * s + i) (fH_narrowed a3 (nI k)).toInt64) k' j = gI σ k' j := fun k' j h => by rw [gI_sL, gI_o h]
    refine hI0.rs (fun k' j hk' => key k' j (by omega)) (fun _ => rfl) ⟨hK.c (fun k' j h => key k' j (by omega)), hTp.c (fun k' j h => key k' j (by omega)), hRw.c (fun k' j h => key k' j (by omega)), ?_, hSf.c (fun k' j h => key k' j (by omega)), hTr.c (fun k' j h => key k' j (by omega))⟩
    intro s' hs'
    obtain ⟨a', b', c', n', hn', d2', d3'⟩ := hSh s' hs'
    rw [key 34 s' (by omega), key 35 s' (by omega), key 58 s' (by omega), key 59 s' (by omega)]
    refine ⟨a', b', c', n', hn', d2', fun i' hi' => ?_⟩
    rw [gI_sL, gL_sL, gL_sI, gI_sI]
    by_cases h : s' = s ∧ i' = i
    · obtain ⟨rfl, rfl⟩ := h
      rw [if_pos ⟨rfl, rfl⟩, if_pos ⟨rfl, rfl⟩]
    · rw [if_neg (by omega), if_neg (by omega)]
      exact d3' i' hi'
