/-! calls that change the town without a loop -/
theorem in_ex (v : Int32) (a b : Nat) (hb : b < 2 ^ 31) (ha : a < 2 ^ 31) : (fM_in v (nI a) (nI b) = 1 ∧ ∃ j, a ≤ j ∧ j ≤ b ∧ v = nI j) ∨ fM_in v (nI a) (nI b) = 0 := by
  rw [in_iff, nI_toInt ha, nI_toInt hb]
  by_cases h : (a : Int) ≤ v.toInt ∧ v.toInt ≤ b
  · rw [if_pos h]
    refine Or.inl ⟨rfl, v.toInt.toNat, by omega, by omega, ?_⟩
    rw [eq_i, nI_toInt (by omega)]
    omega
  · rw [if_neg h]
    exact Or.inr rfl
theorem in_09 (v : Int32) : (fM_in v 0 9 = 1 ∧ ∃ j, j < 10 ∧ v = nI j) ∨ fM_in v 0 9 = 0 := by
  rcases in_ex v 0 9 (by omega) (by omega) with ⟨h, j, -, h2, h3⟩ | h
  · exact Or.inl ⟨h, j, by omega, h3⟩
  · exact Or.inr h
theorem in_05 (v : Int32) : (fM_in v 0 5 = 1 ∧ ∃ j, j < 6 ∧ v = nI j) ∨ fM_in v 0 5 = 0 := by
  rcases in_ex v 0 5 (by omega) (by omega) with ⟨h, j, -, h2, h3⟩ | h
  · exact Or.inl ⟨h, j, by omega, h3⟩
  · exact Or.inr h
theorem in_04 (v : Int32) : (fM_in v 0 4 = 1 ∧ ∃ j, j < 5 ∧ v = nI j) ∨ fM_in v 0 4 = 0 := by
  rcases in_ex v 0 4 (by omega) (by omega) with ⟨h, j, -, h2, h3⟩ | h
  · exact Or.inl ⟨h, j, by omega, h3⟩
  · exact Or.inr h
theorem in_03 (v : Int32) : (fM_in v 0 3 = 1 ∧ ∃ j, j < 4 ∧ v = nI j) ∨ fM_in v 0 3 = 0 := by
  rcases in_ex v 0 3 (by omega) (by omega) with ⟨h, j, -, h2, h3⟩ | h
  · exact Or.inl ⟨h, j, by omega, h3⟩
  · exact Or.inr h
theorem in_02 (v : Int32) : (fM_in v 0 2 = 1 ∧ ∃ j, j < 3 ∧ v = nI j) ∨ fM_in v 0 2 = 0 := by
  rcases in_ex v 0 2 (by omega) (by omega) with ⟨h, j, -, h2, h3⟩ | h
  · exact Or.inl ⟨h, j, by omega, h3⟩
  · exact Or.inr h
theorem in_199 (v : Int32) : (fM_in v 1 99 = 1 ∧ ∃ j, 1 ≤ j ∧ j < 100 ∧ v = nI j) ∨ fM_in v 1 99 = 0 := by
  rcases in_ex v 1 99 (by omega) (by omega) with ⟨h, j, h1, h2, h3⟩ | h
  · exact Or.inl ⟨h, j, by omega, by omega, h3⟩
  · exact Or.inr h
theorem isKind_in (v : Int32) : fE_isKind v = fM_in v 0 5 := by
  unfold fE_isKind fM_in
  by_cases h1 : v < 0
  · rw [if_pos h1, if_pos h1]
  · rw [if_neg h1, if_neg h1]
    by_cases h2 : (6 : Int32) ≤ v
    · rw [if_pos h2, if_pos]
      rw [le_i] at h2
      rw [lt_i]
      have e1 : (6 : Int32).toInt = 6 := rfl
      have e2 : (5 : Int32).toInt = 5 := rfl
      omega
    · rw [if_neg h2, if_neg]
      rw [le_i] at h2
      rw [lt_i]
      have e1 : (6 : Int32).toInt = 6 := rfl
      have e2 : (5 : Int32).toInt = 5 := rfl
      omega
theorem isRank_in (v : Int32) : fE_isRank v = fM_in v 0 9 := rfl
theorem isA_in (v : Int32) : fE_isA v = fM_in v 1 99 := rfl
theorem tt_ne {t k : Nat} (ht : t = 1 ∨ t = 9) (hk : k < 8) : t + k < 44 ∧ t + k < 17 ∧ 0 < t + k := by omega
/-- reads of the reference's cells behind a write to the class's -/
theorem rd_E {σ : St} {k j a b : Nat} {v : Int32} (h : k < 44) (ha : 44 ≤ a) : gI (sI σ k j v) a b = gI σ a b := gI_o (by omega)
theorem rd_M {σ : St} {k j a b : Nat} {v : Int32} (h : 44 ≤ k) (ha : a < 44) : gI (sI σ k j v) a b = gI σ a b := gI_o (by omega)
theorem Inv.mk2 {σ τ : St} (h : Inv σ) (hs : Sm σ τ) (hT : TnOk τ (gR σ 0)) : Inv τ := by
  obtain ⟨hr, -, rest⟩ := h
  refine ⟨by rw [hs.2.2 0, hs.2.2 1]; exact hr, by rw [hs.2.2 0]; exact hT, hs.rest rest⟩
/-- rank -/
theorem st_rank : St_rank Inv := by
  intro σ a1 a2 hI
  have ht := hI.t
  have hb := hI.isT
  have hI0 := hI
  obtain ⟨hr, ⟨P, C, hT, hO⟩, rest⟩ := hI
  obtain ⟨⟨p1, p2, p3⟩, ⟨q1, q2, q3⟩, z1, d1, e1⟩ := id hT
  rcases arg a1 P (by omega) with ⟨p, hp, rfl⟩ | ho
  · rcases in_09 a2 with ⟨hin, r, hr9, rfl⟩ | hout
    · refine ⟨gI σ 45 p, sI σ (gR σ 0 + 1) p (nI r), sI (sI σ (gR σ 0 + 1) p (nI r)) 45 p (nI r), ?_, ?_, ?_⟩
      · unfold fE_rank
        rw [if_pos hb, hp_i p1 p3 hp, if_neg one_ne, isRank_in, hin, if_neg one_ne, if_pos hb, if_pos (ib_nI (by omega) (by omega)), nm_def, if_pos hb, if_pos (ib_nI (by omega) (by omega)), nm_def, ix_nI (by omega), (d1 p hp).1]
      · unfold fM_rank
        rw [mp_i (by rw [rd_E (by omega) (by omega)]; exact p2) p3 hp, if_neg one_ne, hin, if_neg one_ne, if_pos (ib_nI (by omega) (by omega)), nm_def, if_pos (ib_nI (by omega) (by omega)), nm_def, ix_nI (by omega), rd_E (by omega) (by omega)]
      · have hs : Sm σ (sI (sI σ (gR σ 0 + 1) p (nI r)) 45 p (nI r)) := (Sm.rf.s (PR_t ht (by decide))).s rfl
        refine ⟨hr, ⟨P, C, ⟨⟨?_, ?_, p3⟩, ⟨?_, ?_, q3⟩, ?_, fun p' hp' => ?_, fun c hc => ?_⟩, ?_⟩, hs.rest rest⟩
        · show gI _ (gR σ 0) 0 = _
          rw [rd_M (by omega) (by omega), gI_o (by omega)]; exact p1
        · rw [gI_o (by omega), rd_E (by omega) (by omega)]; exact p2
        · show gI _ (gR σ 0) 1 = _
          rw [rd_M (by omega) (by omega), gI_o (by omega)]; exact q1
        · rw [gI_o (by omega), rd_E (by omega) (by omega)]; exact q2
        · show gI _ (gR σ 0) 2 = _
          rw [rd_M (by omega) (by omega), gI_o (by omega), gI_o (by omega), rd_E (by omega) (by omega)]; exact z1
        · show gI _ (gR σ 0 + 1) p' = _ ∧ gI _ (gR σ 0 + 2) p' = _ ∧ gI _ (gR σ 0 + 3) p' = _
          refine ⟨?_, ?_, ?_⟩
          · rw [rd_M (by omega) (by omega)]
            by_cases h : p' = p
            · subst h; rw [gI_s, gI_s]
            · rw [gI_p h, gI_p h, rd_E (by omega) (by omega)]; exact (d1 p' hp').1
          · rw [rd_M (by omega) (by omega), gI_o (by omega), gI_o (by omega), rd_E (by omega) (by omega)]; exact (d1 p' hp').2.1
          · rw [rd_M (by omega) (by omega), gI_o (by omega), gI_o (by omega), rd_E (by omega) (by omega)]; exact (d1 p' hp').2.2
        · show gI _ (gR σ 0 + 4) c = _ ∧ gI _ (gR σ 0 + 5) c = _ ∧ gI _ (gR σ 0 + 6) c = _ ∧ gI _ (gR σ 0 + 7) c = _
          obtain ⟨w1, w2, w3, w4⟩ := e1 c hc
          refine ⟨?_, ?_, ?_, ?_⟩
          all_goals rw [rd_M (by omega) (by omega), gI_o (by omega), gI_o (by omega), rd_E (by omega) (by omega)]
          · exact w1
          · exact w2
          · exact w3
          · exact w4
        · obtain ⟨o1, o2, o3, o4⟩ := hO
          refine ⟨fun p' hp' => ?_, fun p' hp' => ?_, fun p' q' hp' hq' => ?_, fun c hc => ?_⟩
          · by_cases h : p' = p
            · subst h; exact ⟨r, by omega, gI_s⟩
            · rw [gI_p h, rd_E (by omega) (by omega)]; exact o1 p' hp'
          · rw [gI_o (by omega), rd_E (by omega) (by omega)]; exact o2 p' hp'
          · rw [gI_o (by omega), rd_E (by omega) (by omega), gI_o (by omega), rd_E (by omega) (by omega)]; exact o3 p' q' hp' hq'
          · simp only [gI_o (show (48 : Nat) ≠ 45 by decide), rd_E (show gR σ 0 + 1 < 44 by omega) (show 44 ≤ 48 by decide)]
            exact o4 c hc
    · refine ⟨-1, σ, σ, ?_, ?_, hI0⟩
      · unfold fE_rank
        rw [if_pos hb, hp_i p1 p3 hp, if_neg one_ne, isRank_in, hout, if_pos rfl]
      · unfold fM_rank
        rw [mp_i p2 p3 hp, if_neg one_ne, hout, if_pos rfl]
  · refine ⟨-1, σ, σ, ?_, ?_, hI0⟩
    · unfold fE_rank
      rw [if_pos hb, hp_o p1 p3 ho, if_pos rfl]
    · unfold fM_rank
      rw [mp_o p2 p3 ho, if_pos rfl]
/-- stamp -/
theorem st_stamp : St_stamp Inv := by
  intro σ a1 a2 a3 hI
  have ht := hI.t
  have hb := hI.isT
  have hI0 := hI
  obtain ⟨hr, ⟨P, C, hT, hO⟩, rest⟩ := hI
  obtain ⟨⟨p1, p2, p3⟩, ⟨q1, q2, q3⟩, z1, d1, e1⟩ := id hT
  rcases (arg a1 C (by omega)).symm with ho | ⟨c, hc, rfl⟩
  · refine ⟨-1, σ, σ, ?_, ?_, hI0⟩
    · unfold fE_stamp
      rw [if_pos hb, hc_o q1 q3 ho, if_pos rfl]
    · unfold fM_stamp
      rw [mc_o q2 q3 ho, if_pos rfl]
  rcases (in_05 a2).symm with hout | ⟨hin, k, hk, rfl⟩
  · refine ⟨-1, σ, σ, ?_, ?_, hI0⟩
    · unfold fE_stamp
      rw [if_pos hb, hc_i q1 q3 hc, if_neg one_ne, isKind_in, hout, if_pos rfl]
    · unfold fM_stamp
      rw [mc_i q2 q3 hc, if_neg one_ne, hout, if_pos rfl]
  rcases (in_199 a3).symm with hout | ⟨hin2, a, ha1, ha2, rfl⟩
  · refine ⟨-1, σ, σ, ?_, ?_, hI0⟩
    · unfold fE_stamp
      rw [if_pos hb, hc_i q1 q3 hc, if_neg one_ne, isKind_in, hin, if_neg one_ne, isA_in, hout, if_pos rfl]
    · unfold fM_stamp
      rw [mc_i q2 q3 hc, if_neg one_ne, hin, if_neg one_ne, hout, if_pos rfl]
  obtain ⟨w1, w2, w3, w4⟩ := e1 c hc
  have e4 : (4 : Int32) * nI c = nI (4 * c) := by rw [show (4 : Int32) = nI 4 from rfl, pk_mul]
  have e41 : (4 : Int32) * nI c + 1 = nI (4 * c + 1) := nI_m4 c 1
  have e40 : (4 : Int32) * nI c + 0 = nI (4 * c) := nI_m4 c 0
  refine ⟨gI σ 48 (4 * c), sI (sI σ (gR σ 0 + 4) c (nI k)) (gR σ 0 + 5) c (nI a), sI (sI (sI (sI σ (gR σ 0 + 4) c (nI k)) (gR σ 0 + 5) c (nI a)) 48 (4 * c) (nI k)) 48 (4 * c + 1) (nI a), ?_, ?_, ?_⟩
  · unfold fE_stamp
    rw [if_pos hb, hc_i q1 q3 hc, if_neg one_ne, isKind_in, hin, if_neg one_ne, isA_in, hin2, if_neg one_ne, if_pos hb, if_pos (ib_nI (by omega) (by omega)), nm_def, if_pos hb, if_pos (ib_nI (by omega) (by omega)), nm_def, gR_sI, if_pos hb, if_pos (ib_nI (by omega) (by omega)), nm_def, ix_nI (by omega), w1]
  · unfold fM_stamp
    rw [mc_i (by rw [rd_E (by omega) (by omega), rd_E (by omega) (by omega)]; exact q2) q3 hc, if_neg one_ne, hin, if_neg one_ne, hin2, if_neg one_ne]
    unfold fM_its
    rw [e40, if_pos (ib_nI (by omega) (by omega)), bd_some, e41, e4, if_pos (ib_nI (by omega) (by omega)), nm_def, if_pos (ib_nI (by omega) (by omega)), nm_def, ix_nI (by omega), ix_nI (by omega), rd_E (by omega) (by omega), rd_E (by omega) (by omega)]
  · have hs : Sm σ (sI (sI (sI (sI σ (gR σ 0 + 4) c (nI k)) (gR σ 0 + 5) c (nI a)) 48 (4 * c) (nI k)) 48 (4 * c + 1) (nI a)) := (((Sm.rf.s (PR_t ht (by decide))).s (PR_t ht (by decide))).s (PR_a rfl (by decide))).s (PR_a rfl (by decide))
    refine hI0.mk2 hs ⟨P, C, ?_, ?_⟩
    · rcases ht with e | e <;> rw [e] at p1 q1 z1 d1 e1 ⊢
      all_goals
        refine ⟨⟨p1, p2, p3⟩, ⟨q1, q2, q3⟩, z1, d1, fun c' hc' => ?_⟩
        obtain ⟨v1, v2, v3, v4⟩ := e1 c' hc'
        simp only [gI_sI]
        by_cases h : c' = c
        · subst h; simp; exact ⟨v3, v4⟩
        · have h1 : ¬ 4 * c' = 4 * c := by omega
          have h2 : ¬ 4 * c' = 4 * c + 1 := by omega
          have h3 : ¬ 4 * c' + 1 = 4 * c := by omega
          have h4 : ¬ 4 * c' + 1 = 4 * c + 1 := by omega
          have h5 : ¬ 4 * c' + 2 = 4 * c := by omega
          have h6 : ¬ 4 * c' + 2 = 4 * c + 1 := by omega
          have h7 : ¬ 4 * c' + 3 = 4 * c := by omega
          have h8 : ¬ 4 * c' + 3 = 4 * c + 1 := by omega
          simp [h, h1, h2, h3, h4, h5, h6, h7, h8]
          exact ⟨v1, v2, v3, v4⟩
    · obtain ⟨o1, o2, o3, o4⟩ := hO
      have f45 : ∀ p, gI (sI (sI (sI (sI σ (gR σ 0 + 4) c (nI k)) (gR σ 0 + 5) c (nI a)) 48 (4 * c) (nI k)) 48 (4 * c + 1) (nI a)) 45 p = gI σ 45 p := fun p => by rw [gI_o (by omega), gI_o (by omega), rd_E (by omega) (by omega), rd_E (by omega) (by omega)]
      have f47 : ∀ p, gI (sI (sI (sI (sI σ (gR σ 0 + 4) c (nI k)) (gR σ 0 + 5) c (nI a)) 48 (4 * c) (nI k)) 48 (4 * c + 1) (nI a)) 47 p = gI σ 47 p := fun p => by rw [gI_o (by omega), gI_o (by omega), rd_E (by omega) (by omega), rd_E (by omega) (by omega)]
      have f48 : ∀ j, gI (sI (sI (sI (sI σ (gR σ 0 + 4) c (nI k)) (gR σ 0 + 5) c (nI a)) 48 (4 * c) (nI k)) 48 (4 * c + 1) (nI a)) 48 j = if j = 4 * c + 1 then nI a else if j = 4 * c then nI k else gI σ 48 j := fun j => by
        simp only [gI_sI, show ¬ (48 : Nat) = gR σ 0 + 4 by omega, show ¬ (48 : Nat) = gR σ 0 + 5 by omega, true_and, false_and, if_false]
      refine ⟨fun p hp => by rw [f45]; exact o1 p hp, fun p hp => by rw [f47]; exact o2 p hp, fun p q hp hq => by rw [f47, f47]; exact o3 p q hp hq, fun c' hc' => ?_⟩
      rw [f48, f48, f48, f48]
      by_cases h : c' = c
      · subst h
        rw [if_neg (by omega), if_pos rfl, if_pos rfl, if_neg (by omega), if_neg (by omega), if_neg (by omega), if_neg (by omega)]
        exact ⟨⟨k, hk, rfl⟩, ⟨a, ha1, ha2, rfl⟩, (o4 c' hc').2.2⟩
      · rw [if_neg (by omega), if_neg (by omega), if_neg (by omega), if_neg (by omega), if_neg (by omega), if_neg (by omega), if_neg (by omega), if_neg (by omega)]
        exact o4 c' hc'
