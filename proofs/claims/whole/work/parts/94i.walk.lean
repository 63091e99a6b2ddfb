/-! the reference's tables -/
def LM (σ τ : St) : Prop := (∀ a b, ¬ (53 ≤ a ∧ a ≤ 55) → gI τ a b = gI σ a b) ∧ (∀ a b, gL τ a b = gL σ a b) ∧ (∀ j, gR τ j = gR σ j)
theorem LM.rf {σ : St} : LM σ σ := ⟨fun _ _ _ => rfl, fun _ _ => rfl, fun _ => rfl⟩
theorem LM.tr {σ τ υ : St} (h1 : LM σ τ) (h2 : LM τ υ) : LM σ υ := ⟨fun a b h => (h2.1 a b h).trans (h1.1 a b h), fun a b => (h2.2.1 a b).trans (h1.2.1 a b), fun j => (h2.2.2 j).trans (h1.2.2 j)⟩
theorem LM.s {σ τ : St} {k j : Nat} {v : Int32} (h1 : LM σ τ) (h : 53 ≤ k ∧ k ≤ 55) : LM σ (sI τ k j v) := h1.tr ⟨fun a b x => gI_o (by omega), fun _ _ => rfl, fun _ => rfl⟩
theorem LM.pm {σ τ : St} (h : LM σ τ) : PM σ τ := ⟨fun a b _ _ x => h.1 a b (by omega), fun j => h.2.1 60 j, h.2.2⟩
theorem TM.l {σ τ : St} {W : Tw} (h : TM σ W) (e : LM σ τ) : TM τ W := h.f (fun a b h1 => e.1 a b (by omega))
def Ent (σ : St) (W : Tw) (k f h : Nat) : Prop := gI σ 53 (128 * f + h) = vw W k 0 f h ∧ gI σ 54 (128 * f + h) = vw W k 1 f h ∧ gI σ 55 (128 * f + h) = vw W k 2 f h
def TbM (σ : St) (W : Tw) (k m : Nat) : Prop := ∀ h, m ≤ h → h < 2 ^ wP W → ∀ f, f < wP W → h.testBit f = true → Ent σ W k f h
theorem i128 (h f : Nat) : (128 : Int32) * nI f + nI h = nI (128 * f + h) := by
  rw [show (128 : Int32) = nI 128 from rfl, pk_mul, nI_add]
theorem mmax_m (a x : Int32) : (if x + 1 ≤ a then a else x + 1) = opw 0 a x := by
  show _ = mmax a (x + 1)
  unfold mmax
  by_cases h : x + 1 ≤ a
  · rw [if_pos h, if_neg]
    rw [le_i] at h; rw [lt_i]; omega
  · rw [if_neg h, if_pos]
    rw [le_i] at h; rw [lt_i]; omega
theorem F1_l {W : Tw} {k f h : Nat} {a : Nat → Int32} (hG : Gd W) (k1 : k < 6) (hf : f < wP W) (hh : h < 2 ^ wP W) : ∀ n i σ, i ≤ wP W → wP W < n + i → TM σ W → TbM σ W k (h + 1) → (gI σ 53 (128 * f + h) = fo 0 (tkr W k f h) (fun p => vw W k 0 p (h ||| 2 ^ p)) (a 0) i ∧ gI σ 54 (128 * f + h) = fo 1 (tkr W k f h) (fun p => vw W k 1 p (h ||| 2 ^ p)) (a 1) i ∧ gI σ 55 (128 * f + h) = fo 2 (tkr W k f h) (fun p => vw W k 2 p (h ||| 2 ^ p)) (a 2) i) → ∃ τ, fM_findOne_71 n σ (nI k) (nI f) (nI h) (nI (128 * f + h)) (nI i) = some τ ∧ LM σ τ ∧ (∀ b j, j ≠ 128 * f + h → gI τ b j = gI σ b j) ∧ (gI τ 53 (128 * f + h) = fo 0 (tkr W k f h) (fun p => vw W k 0 p (h ||| 2 ^ p)) (a 0) (wP W) ∧ gI τ 54 (128 * f + h) = fo 1 (tkr W k f h) (fun p => vw W k 1 p (h ||| 2 ^ p)) (a 1) (wP W) ∧ gI τ 55 (128 * f + h) = fo 2 (tkr W k f h) (fun p => vw W k 2 p (h ||| 2 ^ p)) (a 2) (wP W))
  | 0, i, σ, h1, h2, hM, hT, hA => by omega
  | n + 1, i, σ, h1, h2, hM, hT, hA => by
    have g1 := hG.1.1
    have h7 := p27 g1
    unfold fM_findOne_71
    rw [hM.1]
    by_cases e : i = wP W
    · rw [if_pos (by rw [e]; exact Int32.le_refl _)]
      rw [e] at hA
      exact ⟨σ, rfl, LM.rf, fun _ _ _ => rfl, hA⟩
    · rw [if_neg (nI_ge (by omega) (by omega)), M_may hM hG k1 hf hh (by omega), bd_some]
      have hbit : (tkr W k f h).testBit i = (allow W k f i && !h.testBit i) := by
        rw [tkr_bit]; simp [show i < wP W by omega]
      rw [← hbit]
      by_cases q : (tkr W k f h).testBit i = true
      · have hb := (tkr_in q).2
        have h3 := or_add hb
        have h4 := or_lt hh (show i < wP W by omega)
        obtain ⟨v1, v2, v3⟩ := hT (h ||| 2 ^ i) (by omega) h4 i (by omega) (by rw [Nat.testBit_or, Nat.testBit_two_pow_self, Bool.or_true])
        obtain ⟨u1, u2, u3⟩ := hA
        have ne : 128 * i + (h ||| 2 ^ i) ≠ 128 * f + h := by omega
        rw [q, b2t, if_neg one_ne, or_nI (by omega) (by omega), i128]
        have hA' : gI (sI (sI (sI σ 53 (128 * f + h) (fo 0 (tkr W k f h) (fun p => vw W k 0 p (h ||| 2 ^ p)) (a 0) (i + 1))) 54 (128 * f + h) (fo 1 (tkr W k f h) (fun p => vw W k 1 p (h ||| 2 ^ p)) (a 1) (i + 1))) 55 (128 * f + h) (fo 2 (tkr W k f h) (fun p => vw W k 2 p (h ||| 2 ^ p)) (a 2) (i + 1))) 53 (128 * f + h) = fo 0 (tkr W k f h) (fun p => vw W k 0 p (h ||| 2 ^ p)) (a 0) (i + 1) := by
          rw [gI_o (by decide), gI_o (by decide), gI_s]
        have hB' : gI (sI (sI (sI σ 53 (128 * f + h) (fo 0 (tkr W k f h) (fun p => vw W k 0 p (h ||| 2 ^ p)) (a 0) (i + 1))) 54 (128 * f + h) (fo 1 (tkr W k f h) (fun p => vw W k 1 p (h ||| 2 ^ p)) (a 1) (i + 1))) 55 (128 * f + h) (fo 2 (tkr W k f h) (fun p => vw W k 2 p (h ||| 2 ^ p)) (a 2) (i + 1))) 54 (128 * f + h) = fo 1 (tkr W k f h) (fun p => vw W k 1 p (h ||| 2 ^ p)) (a 1) (i + 1) := by
          rw [gI_o (by decide), gI_s]
        have lm : LM σ (sI (sI (sI σ 53 (128 * f + h) (fo 0 (tkr W k f h) (fun p => vw W k 0 p (h ||| 2 ^ p)) (a 0) (i + 1))) 54 (128 * f + h) (fo 1 (tkr W k f h) (fun p => vw W k 1 p (h ||| 2 ^ p)) (a 1) (i + 1))) 55 (128 * f + h) (fo 2 (tkr W k f h) (fun p => vw W k 2 p (h ||| 2 ^ p)) (a 2) (i + 1))) := ((LM.rf.s (by omega)).s (by omega)).s (by omega)
        have oth : ∀ b j, j ≠ 128 * f + h → gI (sI (sI (sI σ 53 (128 * f + h) (fo 0 (tkr W k f h) (fun p => vw W k 0 p (h ||| 2 ^ p)) (a 0) (i + 1))) 54 (128 * f + h) (fo 1 (tkr W k f h) (fun p => vw W k 1 p (h ||| 2 ^ p)) (a 1) (i + 1))) 55 (128 * f + h) (fo 2 (tkr W k f h) (fun p => vw W k 2 p (h ||| 2 ^ p)) (a 2) (i + 1))) b j = gI σ b j := fun b j hj => by
          rw [gI_sI, if_neg (fun z => hj z.2), gI_sI, if_neg (fun z => hj z.2), gI_sI, if_neg (fun z => hj z.2)]
        obtain ⟨τ, r1, r2, r3, r4⟩ := F1_l (a := a) hG k1 hf hh n (i + 1) _ (by omega) (by omega) (hM.l lm) (fun h' a1 a2 f' hf' hb' => by
          have ne' : 128 * f' + h' ≠ 128 * f + h := by omega
          unfold Ent
          rw [oth _ _ ne', oth _ _ ne', oth _ _ ne']
          exact hT h' a1 a2 f' hf' hb') ⟨hA', hB', gI_s⟩
        refine ⟨τ, ?_, LM.tr lm r2, fun b j hj => (r3 b j hj).trans (oth b j hj), r4⟩
        rw [← r1]
        have q0 : fo 0 (tkr W k f h) (fun p => vw W k 0 p (h ||| 2 ^ p)) (a 0) (i + 1) = opw 0 (gI σ 53 (128 * f + h)) (gI σ 53 (128 * i + (h ||| 2 ^ i))) := by
          rw [fo, if_pos q, u1, v1]
        have q1 : fo 1 (tkr W k f h) (fun p => vw W k 1 p (h ||| 2 ^ p)) (a 1) (i + 1) = gI σ 54 (128 * f + h) + gI σ 54 (128 * i + (h ||| 2 ^ i)) := by
          rw [fo, if_pos q, u2, v2]; rfl
        have q2 : fo 2 (tkr W k f h) (fun p => vw W k 2 p (h ||| 2 ^ p)) (a 2) (i + 1) = gI σ 55 (128 * f + h) ||| gI σ 55 (128 * i + (h ||| 2 ^ i)) := by
          rw [fo, if_pos q, u3, v3]; rfl
        rw [q0, q1, q2]
        simp (disch := omega) only [ib_t, ix_nI, nm_def, bd_some, bi_some, if_true, if_false, eq_self, nI_1, one_ne, gI_o (show (54 : Nat) ≠ 53 by decide), gI_o (show (55 : Nat) ≠ 53 by decide), gI_o (show (55 : Nat) ≠ 54 by decide)]
        rw [← mmax_m]
        by_cases c : gI σ 53 (128 * i + (h ||| 2 ^ i)) + 1 ≤ gI σ 53 (128 * f + h)
        · rw [if_pos c, if_pos c]
        · rw [if_neg c, if_neg c]
      · have q' : (tkr W k f h).testBit i = false := by simpa using q
        rw [q', b2f, if_pos rfl, nm_def, nI_1]
        refine F1_l hG k1 hf hh n (i + 1) σ (by omega) (by omega) hM hT ?_
        rw [fo, fo, fo, if_neg q, if_neg q, if_neg q]
        exact hA
theorem tkr_full {W : Tw} {k f : Nat} : tkr W k f (2 ^ wP W - 1) = 0 := by
  apply nat_ext
  intro q
  rw [tkr_bit, Nat.testBit_two_pow_sub_one, Nat.zero_testBit]
  by_cases h : q < wP W <;> simp [h]
theorem M_one {W : Tw} {k f h : Nat} {σ : St} (hG : Gd W) (k1 : k < 6) (hf : f < wP W) (hh : h < 2 ^ wP W) (hM : TM σ W) (hT : TbM σ W k (h + 1)) : ∃ τ, fM_findOne σ (nI k) (nI f) (nI h) = some τ ∧ LM σ τ ∧ (∀ b j, j ≠ 128 * f + h → gI τ b j = gI σ b j) ∧ Ent τ W k f h := by
  have g1 := hG.1.1
  have h7 := p27 g1
  have eI : (nI h = fM_everybody σ) ↔ h = 2 ^ wP W - 1 := by
    unfold fM_everybody
    rw [hM.1, ev_P g1]
    exact nI_eq (by omega) (by omega)
  have lm : ∀ x y z : Int32, LM σ (sI (sI (sI σ 53 (128 * f + h) x) 54 (128 * f + h) y) 55 (128 * f + h) z) := fun x y z => ((LM.rf.s (by omega)).s (by omega)).s (by omega)
  have oth : ∀ (x y z : Int32) b j, j ≠ 128 * f + h → gI (sI (sI (sI σ 53 (128 * f + h) x) 54 (128 * f + h) y) 55 (128 * f + h) z) b j = gI σ b j := fun x y z b j hj => by
    rw [gI_sI, if_neg (fun z => hj z.2), gI_sI, if_neg (fun z => hj z.2), gI_sI, if_neg (fun z => hj z.2)]
  have hT' : ∀ x y z : Int32, TbM (sI (sI (sI σ 53 (128 * f + h) x) 54 (128 * f + h) y) 55 (128 * f + h) z) W k (h + 1) := fun x y z h' a1 a2 f' hf' hb' => by
    have ne' : 128 * f' + h' ≠ 128 * f + h := by omega
    unfold Ent
    rw [oth x y z _ _ ne', oth x y z _ _ ne', oth x y z _ _ ne']
    exact hT h' a1 a2 f' hf' hb'
  unfold fM_findOne
  rw [i128]
  by_cases q : h = 2 ^ wP W - 1
  · obtain ⟨τ, r1, r2, r3, r4⟩ := F1_l (a := fun w => bas w f) hG k1 hf hh 300 0 (sI (sI (sI σ 53 (128 * f + h) 0) 54 (128 * f + h) 1) 55 (128 * f + h) (nI (2 ^ f))) (by omega) (by omega) (hM.l (lm _ _ _)) (hT' _ _ _) ⟨by rw [gI_o (by decide), gI_o (by decide), gI_s]; rfl, by rw [gI_o (by decide), gI_s]; rfl, by rw [gI_s]; rfl⟩
    refine ⟨τ, ?_, LM.tr (lm _ _ _) r2, fun b j hj => (r3 b j hj).trans (oth _ _ _ b j hj), ?_⟩
    · simp (disch := omega) only [ib_t, ix_nI, nm_def, bd_some, bi_some, if_true, if_false, eq_self, nI_1, one_ne, if_pos (eI.mpr q), sh1 f (show f < 31 by omega)]
      exact r1
    · unfold Ent
      rw [r4.1, r4.2.1, r4.2.2, vw_eq hG hh, vw_eq hG hh, vw_eq hG hh, if_pos q, if_pos q, if_pos q, q, tkr_full, fo_zero, fo_zero, fo_zero]
      exact ⟨rfl, rfl, rfl⟩
  · obtain ⟨τ, r1, r2, r3, r4⟩ := F1_l (a := fun _ => 0) hG k1 hf hh 300 0 (sI (sI (sI σ 53 (128 * f + h) 0) 54 (128 * f + h) 0) 55 (128 * f + h) 0) (by omega) (by omega) (hM.l (lm _ _ _)) (hT' _ _ _) ⟨by rw [gI_o (by decide), gI_o (by decide), gI_s]; rfl, by rw [gI_o (by decide), gI_s]; rfl, by rw [gI_s]; rfl⟩
    refine ⟨τ, ?_, LM.tr (lm _ _ _) r2, fun b j hj => (r3 b j hj).trans (oth _ _ _ b j hj), ?_⟩
    · simp (disch := omega) only [ib_t, ix_nI, nm_def, bd_some, bi_some, if_true, if_false, eq_self, nI_1, one_ne, if_neg (fun z => q (eI.mp z))]
      exact r1
    · unfold Ent
      rw [r4.1, r4.2.1, r4.2.2, vw_eq hG hh, vw_eq hG hh, vw_eq hG hh, if_neg q, if_neg q, if_neg q]
      exact ⟨rfl, rfl, rfl⟩
theorem M_in_l {W : Tw} {k h : Nat} {K : St → Int32 → Int32 → Option St} (hG : Gd W) (k1 : k < 6) (hh : h < 2 ^ wP W) : ∀ n i σ, i ≤ wP W → wP W < n + i → TM σ W → TbM σ W k (h + 1) → (∀ f, f < i → h.testBit f = true → Ent σ W k f h) → ∃ τ, fM_findAll_11 n σ (nI k) (nI h) (nI i) K = K τ (nI k) (nI h) ∧ LM σ τ ∧ TbM τ W k h
  | 0, i, σ, h1, h2, hM, hT, hd => by omega
  | n + 1, i, σ, h1, h2, hM, hT, hd => by
    have g1 := hG.1.1
    have h7 := p27 g1
    unfold fM_findAll_11
    rw [hM.1]
    by_cases e : i = wP W
    · rw [if_pos (by rw [e]; exact Int32.le_refl _)]
      refine ⟨σ, rfl, LM.rf, fun h' a1 a2 f hf hb => ?_⟩
      by_cases e2 : h' = h
      · rw [e2]; rw [e2] at hb; exact hd f (by omega) hb
      · exact hT h' (by omega) a2 f hf hb
    · rw [if_neg (nI_ge (by omega) (by omega)), has_nI (by omega) (by omega)]
      by_cases q : h.testBit i = true
      · obtain ⟨τ1, r1, r2, r3, r4⟩ := M_one hG k1 (show i < wP W by omega) hh hM hT
        rw [q, b2t, if_neg one_ne, r1, bd_some, nm_def, nI_1]
        obtain ⟨τ, s1, s2, s3⟩ := M_in_l (K := K) hG k1 hh n (i + 1) τ1 (by omega) (by omega) (hM.l r2) (fun h' a1 a2 f hf hb => by
          have ne' : 128 * f + h' ≠ 128 * i + h := by omega
          unfold Ent
          rw [r3 _ _ ne', r3 _ _ ne', r3 _ _ ne']
          exact hT h' a1 a2 f hf hb) (fun f hf hb => by
          by_cases e3 : f = i
          · rw [e3]; exact r4
          · have ne' : 128 * f + h ≠ 128 * i + h := by omega
            unfold Ent
            rw [r3 _ _ ne', r3 _ _ ne', r3 _ _ ne']
            exact hd f (by omega) hb)
        exact ⟨τ, s1, LM.tr r2 s2, s3⟩
      · have q' : h.testBit i = false := by simpa using q
        rw [q', b2f, if_pos rfl, nm_def, nI_1]
        exact M_in_l hG k1 hh n (i + 1) σ (by omega) (by omega) hM hT (fun f hf hb => by
          by_cases e3 : f = i
          · rw [e3, q'] at hb; cases hb
          · exact hd f (by omega) hb)
theorem M_all_l {W : Tw} {k : Nat} (hG : Gd W) (k1 : k < 6) : ∀ n i σ, i < 2 ^ wP W → i < n → TM σ W → TbM σ W k (i + 1) → ∃ τ, fM_findAll_5 n σ (nI k) (nI i) = some τ ∧ LM σ τ ∧ TbM τ W k 1
  | 0, i, σ, h1, h2, hM, hT => by omega
  | n + 1, i, σ, h1, h2, hM, hT => by
    have g1 := hG.1.1
    have h7 := p27 g1
    unfold fM_findAll_5
    by_cases e : i = 0
    · rw [if_pos (show nI i ≤ 0 from nI_le (b := 0) (by omega) (by omega))]
      rw [e] at hT
      exact ⟨σ, rfl, LM.rf, hT⟩
    · have em : nI i + (-1) = nI (i - 1) := by
        have := pk_m1 (i - 1)
        rwa [show i - 1 + 1 = i by omega] at this
      rw [if_neg (show ¬ nI i ≤ 0 from nI_ge (a := 0) (by omega) (by omega))]
      obtain ⟨τ1, r1, r2, r3⟩ := M_in_l (K := fun σ9 y10 y11 => nm (y11 + (-1 : Int32)) fun v12 => fM_findAll_5 n σ9 y10 v12) hG k1 h1 300 0 σ (by omega) (by omega) hM hT (fun f hf => by omega)
      obtain ⟨τ, s1, s2, s3⟩ := M_all_l hG k1 n (i - 1) τ1 (by omega) (by omega) (hM.l r2) (by rw [show i - 1 + 1 = i by omega]; exact r3)
      refine ⟨τ, ?_, LM.tr r2 s2, s3⟩
      rw [← s1, ← em]
      exact r1
theorem M_find {σ : St} {W : Tw} {k : Nat} (hM : TM σ W) (hG : Gd W) (k1 : k < 6) : ∃ τ, fM_findAll σ (nI k) = some τ ∧ LM σ τ ∧ TbM τ W k 1 := by
  have h7 := p27 hG.1.1
  unfold fM_findAll fM_everybody
  rw [nm_def, hM.1, ev_P hG.1.1]
  have := Nat.two_pow_pos (wP W)
  exact M_all_l hG k1 300 (2 ^ wP W - 1) σ (by omega) (by omega) hM (fun h a1 a2 => by omega)
theorem ha_pos {W : Tw} {c : Nat} (hG : Gd W) (hc : c < wC W) : 1 ≤ wha W c := by
  have k5 := (hG.2.2.2 c hc).2.2.2.2
  rcases Nat.eq_zero_or_pos (wha W c) with h | h
  · rw [h, Nat.zero_testBit] at k5; cases k5
  · exact h
theorem M_place {σ : St} {W : Tw} {c : Nat} (hM : TM σ W) (hG : Gd W) (hc : c < wC W) : fM_placeOf σ (nI c) = some (nI (128 * who W c + wha W c)) := by
  obtain ⟨i0, i1, i2, i3⟩ := M_its hM hG hc
  unfold fM_placeOf
  rw [i2, bd_some, i3, bd_some, i128]
theorem M_left {σ : St} {W : Tw} {c : Nat} (hM : TM σ W) (hG : Gd W) (hc : c < wC W) : ∃ τ, fM_leftOf σ (nI c) = some (vw W (wkd W c) 0 (who W c) (wha W c), τ) ∧ LM σ τ ∧ TbM τ W (wkd W c) 1 := by
  obtain ⟨k1, k2, k3, k4, k5⟩ := hG.2.2.2 c hc
  have g1 := hG.1.1
  have h7 := p27 g1
  obtain ⟨τ, r1, r2, r3⟩ := M_find hM hG k1
  refine ⟨τ, ?_, r2, r3⟩
  unfold fM_leftOf
  rw [(M_its hM hG hc).1, bd_some, r1, bd_some, M_place (hM.l r2) hG hc, bd_some, if_pos (ib_nI (by omega) (by omega)), ix_nI (by omega), (r3 _ (ha_pos hG hc) k4 _ k3 k5).1]
