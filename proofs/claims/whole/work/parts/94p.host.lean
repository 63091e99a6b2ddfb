/-! feed, sheet, shelf, taken -/
theorem fb_k1 : ∀ i, i < 8 → ((((8 : Int32) * nI i).toInt64.toUInt64 &&& Int64.toUInt64 63).toBitVec % 64).toNat = 8 * i := by decide +kernel
theorem fb_k2 : ∀ i, i < 8 → ((((8 : Int32) * nI i).toInt64 &&& 63).toBitVec.smod 64).toNat = 8 * i := by decide +kernel
theorem fb_255 : ∀ q, q < 32 → (255 : Int32).toBitVec.getLsbD q = decide (q < 8) := by decide +kernel
theorem fb_255L : ∀ q, q < 64 → (255 : Int64).toBitVec.getLsbD q = decide (q < 8) := by decide +kernel
theorem fb_e (l1 : Int64) {i q : Nat} (hi : i < 8) : (ushL l1 ((8 : Int32) * nI i)).toBitVec.getLsbD q = l1.toBitVec.getLsbD (8 * i + q) := by
  have k := fb_k1 i hi
  unfold ushL
  show (l1.toUInt64 >>> (((8 : Int32) * nI i).toInt64.toUInt64 &&& Int64.toUInt64 63)).toBitVec.getLsbD q = _
  rw [UInt64.toBitVec_shiftRight, BitVec.ushiftRight_eq', BitVec.getLsbD_ushiftRight, k]
  rfl
theorem fb_m (l1 : Int64) {i q : Nat} (hi : i < 8) (hq : q < 8) : (l1 >>> (((8 : Int32) * nI i).toInt64 &&& 63)).toBitVec.getLsbD q = l1.toBitVec.getLsbD (8 * i + q) := by
  have k := fb_k2 i hi
  rw [Int64.toBitVec_shiftRight, BitVec.sshiftRight_eq', BitVec.getLsbD_sshiftRight, k, if_pos (by omega)]
  simp
  omega
/-- the byte i of eight -/
def fby (l1 : Int64) (i : Nat) : Int32 := (ushL l1 ((8 : Int32) * nI i)).toInt32 &&& (255 : Int32)
theorem fby_b (l1 : Int64) (i : Nat) : ∃ b, b < 256 ∧ fby l1 i = nI b := ⟨_, Nat.mod_lt _ (by decide), pk_and _ 8 rfl⟩
theorem fby_m (l1 : Int64) {i : Nat} (hi : i < 8) : ((l1 >>> (((8 : Int32) * nI i).toInt64 &&& 63)) &&& (255 : Int64)).toInt32 = fby l1 i := by
  apply i32_ext
  intro q hq
  unfold fby
  rw [Int32.toBitVec_and, BitVec.getLsbD_and, fb_255 q hq]
  show (((l1 >>> (((8 : Int32) * nI i).toInt64 &&& 63)) &&& (255 : Int64)).toBitVec.signExtend 32).getLsbD q = (((ushL l1 ((8 : Int32) * nI i)).toBitVec.signExtend 32).getLsbD q && decide (q < 8))
  rw [BitVec.getLsbD_signExtend, BitVec.getLsbD_signExtend, if_pos (show q < 64 by omega), if_pos (show q < 64 by omega), Int64.toBitVec_and, BitVec.getLsbD_and, fb_255L q (by omega), fb_e l1 hi]
  by_cases h8 : q < 8
  · rw [fb_m l1 hi h8]
    simp [h8, hq]
  · simp [h8]
theorem E_feed_l {l1 : Int64} {k s0 : Nat} (hk : k ≤ 8) (hs : s0 + k ≤ 200) : ∀ n m i σ, m + i = k → m < n → gI σ 25 1 = nI (s0 + i) → ∃ τ, fE_feed_34 n σ l1 (nI k) (nI i) = some (nI (s0 + k), τ) ∧ gI τ 25 1 = nI (s0 + k) ∧ (∀ j, gI τ 26 j = if s0 + i ≤ j ∧ j < s0 + k then fby l1 (j - s0) else gI σ 26 j) ∧ (∀ a b, ¬ a = 26 → ¬ (a = 25 ∧ b = 1) → gI τ a b = gI σ a b) ∧ (∀ a b, gL τ a b = gL σ a b) ∧ (∀ j, gR τ j = gR σ j)
  | 0, m, i, σ, h1, h2, hz => by omega
  | n + 1, 0, i, σ, h1, h2, hz => by
    unfold fE_feed_34
    rw [if_pos (nI_le (by omega) (by omega)), hz, show s0 + i = s0 + k by omega]
    exact ⟨σ, rfl, by rw [hz, show s0 + i = s0 + k by omega], fun j => by rw [if_neg (by omega)], fun _ _ _ _ => rfl, fun _ _ => rfl, fun _ => rfl⟩
  | n + 1, m + 1, i, σ, h1, h2, hz => by
    unfold fE_feed_34
    rw [if_neg (nI_ge (by omega) (by omega)), hz, if_pos (ib_nI (by omega) (by omega)), nm_def, nm_def, nm_def, ix_nI (by omega), gI_o (by decide), hz, nI_1, nI_1]
    obtain ⟨τ, r1, r2, r3, r4, r5, r6⟩ := E_feed_l hk hs n m (i + 1) (sI (sI σ 26 (s0 + i) (fby l1 i)) 25 1 (nI (s0 + i + 1))) (by omega) (by omega) gI_s
    refine ⟨τ, r1, r2, fun j => ?_, fun a b h g => ?_, fun a b => r5 a b, fun j => r6 j⟩
    · rw [r3 j, gI_o (by decide), gI_sI]
      by_cases e : j = s0 + i
      · rw [if_neg (by omega), if_pos ⟨rfl, e⟩, if_pos (by omega), show j - s0 = i by omega]
      · by_cases e2 : s0 + i ≤ j ∧ j < s0 + k
        · rw [if_pos (by omega), if_pos e2]
        · rw [if_neg (by omega), if_neg (fun z => e z.2), if_neg e2]
    · rw [r4 a b h g, gI_sI, if_neg g, gI_o h]
theorem M_feed_l {l1 : Int64} {k s0 : Nat} (hk : k ≤ 8) (hs : s0 + k ≤ 200) : ∀ n m i σ, m + i = k → m < n → gI σ 44 8 = nI (s0 + i) → ∃ τ, fM_feed_30 n σ l1 (nI k) (nI i) = some (nI (s0 + k), τ) ∧ gI τ 44 8 = nI (s0 + k) ∧ (∀ j, gI τ 49 j = if s0 + i ≤ j ∧ j < s0 + k then fby l1 (j - s0) else gI σ 49 j) ∧ (∀ a b, ¬ a = 49 → ¬ (a = 44 ∧ b = 8) → gI τ a b = gI σ a b) ∧ (∀ a b, gL τ a b = gL σ a b) ∧ (∀ j, gR τ j = gR σ j)
  | 0, m, i, σ, h1, h2, hz => by omega
  | n + 1, 0, i, σ, h1, h2, hz => by
    unfold fM_feed_30
    rw [if_pos (nI_le (by omega) (by omega)), hz, show s0 + i = s0 + k by omega]
    exact ⟨σ, rfl, by rw [hz, show s0 + i = s0 + k by omega], fun j => by rw [if_neg (by omega)], fun _ _ _ _ => rfl, fun _ _ => rfl, fun _ => rfl⟩
  | n + 1, m + 1, i, σ, h1, h2, hz => by
    unfold fM_feed_30
    rw [if_neg (nI_ge (by omega) (by omega)), hz, if_pos (ib_nI (by omega) (by omega)), nm_def, nm_def, nm_def, ix_nI (by omega), gI_o (by decide), hz, nI_1, nI_1, fby_m l1 (by omega)]
    obtain ⟨τ, r1, r2, r3, r4, r5, r6⟩ := M_feed_l hk hs n m (i + 1) (sI (sI σ 49 (s0 + i) (fby l1 i)) 44 8 (nI (s0 + i + 1))) (by omega) (by omega) gI_s
    refine ⟨τ, r1, r2, fun j => ?_, fun a b h g => ?_, fun a b => r5 a b, fun j => r6 j⟩
    · rw [r3 j, gI_o (by decide), gI_sI]
      by_cases e : j = s0 + i
      · rw [if_neg (by omega), if_pos ⟨rfl, e⟩, if_pos (by omega), show j - s0 = i by omega]
      · by_cases e2 : s0 + i ≤ j ∧ j < s0 + k
        · rw [if_pos (by omega), if_pos e2]
        · rw [if_neg (by omega), if_neg (fun z => e z.2), if_neg e2]
    · rw [r4 a b h g, gI_sI, if_neg g, gI_o h]
theorem in_18 (v : Int32) : (fM_in v 1 8 = 1 ∧ ∃ j, 1 ≤ j ∧ j ≤ 8 ∧ v = nI j) ∨ fM_in v 1 8 = 0 := in_ex v 1 8 (by omega) (by omega)
theorem st_feed : St_feed Inv := by
  intro σ l1 a2 hI
  have hI0 := hI
  obtain ⟨-, -, hK, ⟨n, t1, t2, t3, t4⟩, hRw, hSh, hSf, hTr⟩ := hI
  rcases (in_18 a2).symm with ho | ⟨hin, k, hk1, hk, rfl⟩
  · refine ⟨-1, σ, σ, ?_, by unfold fM_feed; rw [ho, if_pos rfl], hI0⟩
    have h2 := in_zero ho
    rw [show (1 : Int32).toInt = 1 from rfl, show (8 : Int32).toInt = 8 from rfl] at h2
    unfold fE_feed
    by_cases g : a2 < 1
    · rw [if_pos g]
    · rw [if_neg g, if_neg]
      rw [lt_i, show (1 : Int32).toInt = 1 from rfl] at g
      rw [le_i, show (8 : Int32).toInt = 8 from rfl]
      omega
  have c1 : ¬ nI k < 1 := nI_nlt (b := 1) (by omega) (by omega)
  have c2 : nI k ≤ 8 := nI_le (b := 8) (by omega) (by omega)
  by_cases hf : n + k ≤ 200
  rotate_left
  · have c3 : ¬ nI (n + k) ≤ 200 := nI_ge (a := 200) (by omega) (by omega)
    refine ⟨-2, σ, σ, ?_, ?_, hI0⟩
    · unfold fE_feed
      rw [if_neg c1, if_pos c2, t2, nI_add, if_neg c3]
    · unfold fM_feed
      rw [hin, if_neg one_ne, t3, nI_add, if_neg c3]
  have c3 : nI (n + k) ≤ 200 := nI_le (b := 200) (by omega) (by omega)
  obtain ⟨σ1, r1, r2, r3, r4, r5, r6⟩ := E_feed_l (l1 := l1) hk hf 300 k 0 σ (by omega) (by omega) t2
  obtain ⟨σ2, s1, s2, s3, s4, s5, s6⟩ := M_feed_l (l1 := l1) hk hf 300 k 0 σ1 (by omega) (by omega) (by rw [r4 44 8 (by omega) (by omega)]; exact t3)
  refine ⟨nI (n + k), σ1, σ2, ?_, ?_, ?_⟩
  · unfold fE_feed
    rw [if_neg c1, if_pos c2, t2, nI_add, if_pos c3]
    exact r1
  · unfold fM_feed
    rw [hin, if_neg one_ne, r4 44 8 (by omega) (by omega), t3, nI_add, if_pos c3]
    exact s1
  · have fr : ∀ a b, ¬ a = 26 → ¬ (a = 25 ∧ b = 1) → ¬ a = 49 → ¬ (a = 44 ∧ b = 8) → gI σ2 a b = gI σ a b := fun a b u1 u2 u3 u4 => (s4 a b u3 u4).trans (r4 a b u1 u2)
    refine hI0.rs (fun a b h => fr a b (by omega) (by omega) (by omega) (by omega)) (fun j => (s6 j).trans (r6 j)) ⟨hK.c (fun a b h => fr a b (by omega) (by omega) (by omega) (by omega)), ⟨n + k, hf, ?_, s2, fun i hi => ?_⟩, hRw.c (fun a b h => fr a b (by omega) (by omega) (by omega) (by omega)), hSh.c (fun a b h => fr a b (by omega) (by omega) (by omega) (by omega)) (fun j => (s5 60 j).trans (r5 60 j)), hSf.c (fun a b h => fr a b (by omega) (by omega) (by omega) (by omega)), hTr.c (fun a b h => fr a b (by omega) (by omega) (by omega) (by omega))⟩
    · rw [s4 25 1 (by omega) (by omega)]; exact r2
    · rw [s4 26 i (by omega) (by omega), r3 i, s3 i, r4 49 i (by omega) (by omega)]
      by_cases e : n + 0 ≤ i ∧ i < n + k
      · rw [if_pos e, if_pos e]
        exact ⟨rfl, fby_b _ _⟩
      · rw [if_neg e, if_neg e]
        exact t4 i (by omega)
theorem E_lay_l {s k : Nat} (hs : s < 4) (hk : k ≤ 40) : ∀ n m i σ, m + i = k → m < n → ∃ τ, fH_lay_17 n σ (nI s) (nI k) (nI i) = some τ ∧ (∀ j, i ≤ j → j < k → gI τ (37 + s) j = 0) ∧ (∀ a b, ¬ (a = 37 + s ∧ i ≤ b) → gI τ a b = gI σ a b) ∧ (∀ a b, gL τ a b = gL σ a b) ∧ (∀ j, gR τ j = gR σ j)
  | 0, m, i, σ, h1, h2 => by omega
  | n + 1, 0, i, σ, h1, h2 => by
    unfold fH_lay_17
    rw [if_pos (nI_le (by omega) (by omega))]
    exact ⟨σ, rfl, fun j a b => by omega, fun _ _ _ => rfl, fun _ _ => rfl, fun _ => rfl⟩
  | n + 1, m + 1, i, σ, h1, h2 => by
    unfold fH_lay_17
    rw [if_neg (nI_ge (by omega) (by omega)), if_pos (ib_nI hs (by omega)), if_pos (ib_nI (by omega) (by omega)), nm_def, nm_def, ix_nI (by omega), ix_nI (by omega), nI_1]
    obtain ⟨τ, r1, r2, r3, r4, r5⟩ := E_lay_l hs hk n m (i + 1) (sI σ (37 + s) i 0) (by omega) (by omega)
    refine ⟨τ, r1, fun j a b => ?_, fun a b h => ?_, fun a b => r4 a b, fun j => r5 j⟩
    · by_cases e : j = i
      · rw [e, r3 _ _ (by omega), gI_s]
      · exact r2 j (by omega) b
    · rw [r3 a b (by omega), gI_sI, if_neg (by omega)]
theorem M_lay_l {s : Nat} (hs : s < 4) : ∀ n m i σ, m + i = 40 → m < n → ∃ τ, fM_sheet_64 n σ (nI s) (nI i) = some (1, τ) ∧ (∀ a b, gI τ a b = gI σ a b) ∧ (∀ j, gL τ 60 j = if 40 * s + i ≤ j ∧ j < 40 * s + 40 then 0 else gL σ 60 j) ∧ (∀ j, gR τ j = gR σ j)
  | 0, m, i, σ, h1, h2 => by omega
  | n + 1, 0, i, σ, h1, h2 => by
    unfold fM_sheet_64
    rw [if_pos (show (40 : Int32) ≤ nI i from nI_le (a := 40) (by omega) (by omega))]
    exact ⟨σ, rfl, fun _ _ => rfl, fun j => by rw [if_neg (by omega)], fun _ => rfl⟩
  | n + 1, m + 1, i, σ, h1, h2 => by
    unfold fM_sheet_64
    rw [if_neg (show ¬ (40 : Int32) ≤ nI i from nI_ge (b := 40) (by omega) (by omega)), e40, if_pos (ib_nI (by omega) (by omega)), nm_def, nm_def, ix_nI (by omega), nI_1]
    obtain ⟨τ, r1, r2, r3, r4⟩ := M_lay_l hs n m (i + 1) (sL σ 60 (40 * s + i) 0) (by omega) (by omega)
    refine ⟨τ, r1, fun a b => r2 a b, fun j => ?_, fun j => r4 j⟩
    rw [r3 j, gL_sL]
    by_cases e : j = 40 * s + i
    · rw [if_neg (by omega), if_pos ⟨rfl, e⟩, if_pos (by omega)]
    · by_cases e2 : 40 * s + i ≤ j ∧ j < 40 * s + 40
      · rw [if_pos (by omega), if_pos e2]
      · rw [if_neg (by omega), if_neg (fun z => e z.2), if_neg e2]
/-- a sheet is laid: sort so, n items -/
theorem lay_ok {σ : St} {s n : Nat} {so : Int32} (hI : Inv σ) (hs : s < 4) (hn : n ≤ 40) (hso : so = -1 ∨ ∃ k, k < 4 ∧ so = nI k) : ∃ σ1 σ2, fH_lay σ (nI s) so (nI n) = some σ1 ∧ fM_sheet_64 300 (sI (sI σ1 58 s so) 59 s (nI n)) (nI s) 0 = some (1, σ2) ∧ Inv σ2 := by
  obtain ⟨σ1, r1, r2, r3, r4, r5⟩ := E_lay_l hs hn 300 n 0 (sI (sI σ 34 s so) 35 s (nI n)) (by omega) (by omega)
  obtain ⟨σ2, s1, s2, s3, s4⟩ := M_lay_l hs 300 40 0 (sI (sI σ1 58 s so) 59 s (nI n)) (by omega) (by omega)
  refine ⟨σ1, σ2, ?_, s1, ?_⟩
  · unfold fH_lay
    rw [if_pos (ib_nI hs (by omega)), nm_def, if_pos (ib_nI hs (by omega)), nm_def, ix_nI (by omega)]
    exact r1
  have hI0 := hI
  obtain ⟨-, -, hK, hTp, hRw, hSh, hSf, hTr⟩ := hI
  have fr : ∀ a b, ¬ a = 37 + s → ¬ a = 34 → ¬ a = 35 → ¬ a = 58 → ¬ a = 59 → gI σ2 a b = gI σ a b := fun a b u1 u2 u3 u4 u5 => by
    rw [s2, gI_o u5, gI_o u4, r3 a b (by omega), gI_o u3, gI_o u2]
  refine hI0.rs (fun a b h => fr a b (by omega) (by omega) (by omega) (by omega) (by omega)) (fun j => (s4 j).trans (r5 j)) ⟨hK.c (fun a b h => fr a b (by omega) (by omega) (by omega) (by omega) (by omega)), hTp.c (fun a b h => fr a b (by omega) (by omega) (by omega) (by omega) (by omega)), hRw.c (fun a b h => fr a b (by omega) (by omega) (by omega) (by omega) (by omega)), ?_, hSf.c (fun a b h => fr a b (by omega) (by omega) (by omega) (by omega) (by omega)), hTr.c (fun a b h => fr a b (by omega) (by omega) (by omega) (by omega) (by omega))⟩
  intro s' hs'
  have e34 : gI σ2 34 s' = if s' = s then so else gI σ 34 s' := by
    rw [s2, gI_o (by decide), gI_o (by decide), r3 34 s' (by omega), gI_o (by decide), gI_sI]; simp only [true_and]
  have e35 : gI σ2 35 s' = if s' = s then nI n else gI σ 35 s' := by
    rw [s2, gI_o (by decide), gI_o (by decide), r3 35 s' (by omega), gI_sI, gI_o (by decide)]; simp only [true_and]
  have e58 : gI σ2 58 s' = if s' = s then so else gI σ 58 s' := by
    rw [s2, gI_o (by decide), gI_sI, r3 58 s' (by omega), gI_o (by decide), gI_o (by decide)]; simp only [true_and]
  have e59 : gI σ2 59 s' = if s' = s then nI n else gI σ 59 s' := by
    rw [s2, gI_sI, gI_o (by decide), r3 59 s' (by omega), gI_o (by decide), gI_o (by decide)]; simp only [true_and]
  rw [e34, e35, e58, e59]
  by_cases h : s' = s
  · subst h
    rw [if_pos rfl, if_pos rfl, if_pos rfl, if_pos rfl]
    refine ⟨rfl, rfl, hso, n, hn, rfl, fun i hi => ?_⟩
    rw [s2, gI_o (by omega), gI_o (by omega), r2 i (by omega) hi, s3, if_pos (by omega)]
    rfl
  · rw [if_neg h, if_neg h, if_neg h, if_neg h]
    obtain ⟨a, b, c, n2, d, d2, d3⟩ := hSh s' hs'
    refine ⟨a, b, c, n2, d, d2, fun i hi => ?_⟩
    rw [s2, gI_o (by omega), gI_o (by omega), r3 _ _ (by omega), gI_o (by omega), gI_o (by omega), s3, if_neg (by omega), gL_sI, gL_sI, r4, gL_sI, gL_sI]
    exact d3 i hi
theorem st_sheet : St_sheet Inv := by
  intro σ a1 a2 a3 hI
  rcases (sh_arg a1).symm with ⟨h1, -, h2⟩ | ⟨s, hs, rfl, h1, -, h2⟩
  · exact ⟨-1, σ, σ, by unfold fE_sheet; rw [h1, if_pos rfl], by unfold fM_sheet; rw [h2, if_pos rfl], hI⟩
  by_cases c : fM_in a2 (-1) 3 = 0
  · refine ⟨-1, σ, σ, ?_, by unfold fM_sheet; rw [h2, if_neg one_ne, if_pos c], hI⟩
    have h3 := in_zero c
    rw [show (-1 : Int32).toInt = -1 from rfl, show (3 : Int32).toInt = 3 from rfl] at h3
    unfold fE_sheet
    rw [h1, if_neg one_ne]
    by_cases g : a2 < -1
    · rw [if_pos g]
    · rw [if_neg g, if_neg]
      rw [lt_i, show (-1 : Int32).toInt = -1 from rfl] at g
      rw [le_i, show (3 : Int32).toInt = 3 from rfl]
      omega
  have c0 := c
  rw [in_iff, show (-1 : Int32).toInt = -1 from rfl, show (3 : Int32).toInt = 3 from rfl] at c
  have c' : -1 ≤ a2.toInt ∧ a2.toInt ≤ 3 := by
    by_cases z : -1 ≤ a2.toInt ∧ a2.toInt ≤ 3
    · exact z
    · rw [if_neg z] at c; exact absurd rfl c
  have l1 : ¬ a2 < -1 := by rw [lt_i, show (-1 : Int32).toInt = -1 from rfl]; omega
  have l2 : a2 ≤ 3 := by rw [le_i, show (3 : Int32).toInt = 3 from rfl]; omega
  by_cases m : a2 = -1
  · subst m
    obtain ⟨σ1, σ2, r1, r2, r3⟩ := lay_ok (so := -1) hI hs (show 0 ≤ 40 by omega) (Or.inl rfl)
    refine ⟨1, σ1, σ2, ?_, ?_, r3⟩
    · unfold fE_sheet fE_sheet_36 fE_sheet_48
      rw [h1, if_neg one_ne, if_neg l1, if_pos l2, if_pos rfl, if_pos rfl, if_pos rfl, show fH_lay σ (nI s) (-1) 0 = _ from r1, bd_some]
    · unfold fM_sheet fM_sheet_28 fM_sheet_39
      rw [h2, if_neg one_ne, if_neg c0, if_pos (by decide), if_pos (by decide), if_pos (ib_nI hs (by omega)), nm_def, if_pos (ib_nI hs (by omega)), nm_def, if_neg (by decide), ix_nI (by omega)]
      exact r2
  have p0 : ¬ a2 < 0 := by
    intro z
    rw [lt_i, show (0 : Int32).toInt = 0 from rfl] at z
    exact m (by rw [eq_i, show (-1 : Int32).toInt = -1 from rfl]; omega)
  obtain ⟨k, hk, rfl⟩ : ∃ k, k < 4 ∧ a2 = nI k := by
    rw [lt_i, show (0 : Int32).toInt = 0 from rfl] at p0
    refine ⟨a2.toInt.toNat, by omega, ?_⟩
    rw [eq_i, nI_toInt (by omega)]
    omega
  by_cases q : a3 ≤ 40
  rotate_left
  · refine ⟨-1, σ, σ, ?_, ?_, hI⟩
    · unfold fE_sheet
      rw [h1, if_neg one_ne, if_neg l1, if_pos l2, if_neg m, if_neg q]
    · unfold fM_sheet
      rw [h2, if_neg one_ne, if_neg c0, if_neg p0, if_neg q]
  by_cases q0 : 0 ≤ a3
  rotate_left
  · refine ⟨-14, σ, σ, ?_, ?_, hI⟩
    · unfold fE_sheet fE_sheet_36
      rw [h1, if_neg one_ne, if_neg l1, if_pos l2, if_neg m, if_pos q, if_neg m, if_neg q0]
    · unfold fM_sheet fM_sheet_28
      rw [h2, if_neg one_ne, if_neg c0, if_neg p0, if_pos q, if_neg p0, if_neg q0]
  obtain ⟨n, hn, rfl⟩ : ∃ n, n ≤ 40 ∧ a3 = nI n := by
    rw [le_i, show (0 : Int32).toInt = 0 from rfl] at q0
    rw [le_i, show (40 : Int32).toInt = 40 from rfl] at q
    refine ⟨a3.toInt.toNat, by omega, ?_⟩
    rw [eq_i, nI_toInt (by omega)]
    omega
  obtain ⟨σ1, σ2, r1, r2, r3⟩ := lay_ok (so := nI k) hI hs hn (Or.inr ⟨k, hk, rfl⟩)
  refine ⟨1, σ1, σ2, ?_, ?_, r3⟩
  · unfold fE_sheet fE_sheet_36 fE_sheet_48
    rw [h1, if_neg one_ne, if_neg l1, if_pos l2, if_neg m, if_pos q, if_neg m, if_pos q0, if_neg m, r1, bd_some]
  · unfold fM_sheet fM_sheet_28 fM_sheet_39
    rw [h2, if_neg one_ne, if_neg c0, if_neg p0, if_pos q, if_neg p0, if_pos q0, if_pos (ib_nI hs (by omega)), nm_def, if_pos (ib_nI hs (by omega)), nm_def, if_pos (nI_pos' (by omega)), ix_nI (by omega)]
    exact r2
