/-! the walks of a coin, as one recursion -/
def bas (w f : Nat) : Int32 := if w = 0 then 0 else if w = 1 then 1 else nI (2 ^ f)
def opw (w : Nat) (a x : Int32) : Int32 := if w = 0 then mmax a (x + 1) else if w = 1 then a + x else a ||| x
def fo (w s : Nat) (g : Nat → Int32) (a : Int32) : Nat → Int32
  | 0 => a
  | i + 1 => if s.testBit i = true then opw w (fo w s g a i) (g i) else fo w s g a i
theorem fo_congr {w s : Nat} {g g' : Nat → Int32} {a : Int32} : ∀ i, (∀ p, p < i → s.testBit p = true → g p = g' p) → fo w s g a i = fo w s g' a i
  | 0, _ => rfl
  | i + 1, h => by
    unfold fo
    rw [fo_congr i (fun p hp hs => h p (by omega) hs)]
    by_cases q : s.testBit i = true
    · rw [if_pos q, if_pos q, h i (by omega) q]
    · rw [if_neg q, if_neg q]
theorem fo_zero {w : Nat} {g : Nat → Int32} {a : Int32} : ∀ i, fo w 0 g a i = a
  | 0 => rfl
  | i + 1 => by
    unfold fo
    rw [Nat.zero_testBit, if_neg (by decide)]
    exact fo_zero i
def val (W : Tw) (k w : Nat) : Nat → Nat → Nat → Int32
  | 0, _, _ => 0
  | d + 1, f, h => if h = 2 ^ wP W - 1 then bas w f else fo w (tkr W k f h) (fun p => val W k w d p (h ||| 2 ^ p)) 0 (wP W)
theorem or_add {h p : Nat} (hb : h.testBit p = false) : h < h ||| 2 ^ p := by
  refine Nat.lt_of_le_of_ne Nat.left_le_or (fun e => ?_)
  have : (h ||| 2 ^ p).testBit p = true := by rw [Nat.testBit_or, Nat.testBit_two_pow_self, Bool.or_true]
  rw [← e, hb] at this
  cases this
theorem tkr_bit {W : Tw} {k f h p : Nat} : (tkr W k f h).testBit p = (decide (p < wP W) && (allow W k f p && !h.testBit p)) := setOf_bit _ _ _
theorem tkr_in {W : Tw} {k f h p : Nat} (hb : (tkr W k f h).testBit p = true) : p < wP W ∧ h.testBit p = false := by
  rw [tkr_bit] at hb
  simp only [Bool.and_eq_true, decide_eq_true_eq, Bool.not_eq_true'] at hb
  exact ⟨hb.1, hb.2.2⟩
theorem or_lt {h p P : Nat} (hh : h < 2 ^ P) (hp : p < P) : h ||| 2 ^ p < 2 ^ P := Nat.or_lt_two_pow hh (Nat.pow_lt_pow_right (by decide) hp)
theorem val_ind {W : Tw} {k w : Nat} : ∀ d e f h, h < 2 ^ wP W → 2 ^ wP W - 1 - h < d → 2 ^ wP W - 1 - h < e → val W k w d f h = val W k w e f h
  | 0, _, _, _, _, h1, _ => by omega
  | _ + 1, 0, _, _, _, _, h2 => by omega
  | d + 1, e + 1, f, h, hh, h1, h2 => by
    unfold val
    by_cases q : h = 2 ^ wP W - 1
    · rw [if_pos q, if_pos q]
    · rw [if_neg q, if_neg q]
      refine fo_congr _ (fun p hp hs => ?_)
      have hb := (tkr_in hs).2
      have h3 := or_add hb
      have h4 := or_lt hh hp
      exact val_ind d e p _ h4 (by omega) (by omega)
/-- what is asked of the walks (w: left, ways, last) from f, with h that had it -/
def vw (W : Tw) (k w f h : Nat) : Int32 := val W k w 128 f h
theorem vw_eq {W : Tw} {k w f h : Nat} (hG : Gd W) (hh : h < 2 ^ wP W) : vw W k w f h = if h = 2 ^ wP W - 1 then bas w f else fo w (tkr W k f h) (fun p => vw W k w p (h ||| 2 ^ p)) 0 (wP W) := by
  have h7 := p27 hG.1.1
  show val W k w 128 f h = _
  rw [val]
  by_cases q : h = 2 ^ wP W - 1
  · rw [if_pos q, if_pos q]
  · rw [if_neg q, if_neg q]
    refine fo_congr _ (fun p hp hs => ?_)
    have hb := (tkr_in hs).2
    have h3 := or_add hb
    have h4 := or_lt hh hp
    exact val_ind 127 128 p _ h4 (by omega) (by omega)
/-- only the walks' cells differ -/
def LE (σ τ : St) : Prop := (∀ a b, ¬ (27 ≤ a ∧ a ≤ 29) → gI τ a b = gI σ a b) ∧ (∀ a b, gL τ a b = gL σ a b) ∧ (∀ j, gR τ j = gR σ j)
theorem LE.rf {σ : St} : LE σ σ := ⟨fun _ _ _ => rfl, fun _ _ => rfl, fun _ => rfl⟩
theorem LE.tr {σ τ υ : St} (h1 : LE σ τ) (h2 : LE τ υ) : LE σ υ := ⟨fun a b h => (h2.1 a b h).trans (h1.1 a b h), fun a b => (h2.2.1 a b).trans (h1.2.1 a b), fun j => (h2.2.2 j).trans (h1.2.2 j)⟩
theorem LE.s {σ τ : St} {k j : Nat} {v : Int32} (h1 : LE σ τ) (h : 27 ≤ k ∧ k ≤ 29) : LE σ (sI τ k j v) := h1.tr ⟨fun a b x => gI_o (by omega), fun _ _ => rfl, fun _ => rfl⟩
theorem LE.pe {σ τ : St} (h : LE σ τ) : PE σ τ := ⟨fun a b _ x => h.1 a b x, fun j => h.2.1 60 j, h.2.2⟩
/-- the people and their reach -/
def SE (σ : St) (W : Tw) (k : Nat) : Prop := gI σ 27 2 = nI (wP W) ∧ ∀ f, f < wP W → gI σ 28 f = nI (setOf (wP W) (allow W k f))
/-- the table, from m on -/
def TbE (σ : St) (W : Tw) (k w first m : Nat) : Prop := ∀ h, m ≤ h → h < 2 ^ wP W → h &&& first = first → ∀ f, f < wP W → h.testBit f = true → gI σ 29 (8 * h + f) = vw W k w f h
theorem W_tk {σ : St} {W : Tw} {k f h : Nat} (hS : SE σ W k) (hG : Gd W) (hh : h < 2 ^ wP W) (hf : f < wP W) : fW_takers σ (nI h) (nI f) = some (nI (tkr W k f h)) := by
  have g1 := hG.1.1
  unfold fW_takers
  simp (disch := omega) only [ib_t, ix_nI, nm_def, bd_some, bi_some, if_true, if_false, eq_self, nI_1, one_ne, hS.2 f hf, nI_wo (s31 g1 (setOf_lt _ _)) (s31 g1 hh), setOf_wo]
  rfl
theorem i8 (h f : Nat) : (8 : Int32) * nI h + nI f = nI (8 * h + f) := by
  rw [show (8 : Int32) = nI 8 from rfl, pk_mul, nI_add]
theorem W_at {σ : St} {P h f : Nat} (hP : P ≤ 7) (hh : h < 2 ^ P) (hf : f < P) : fW_at σ (nI h) (nI f) = some (gI σ 29 (8 * h + f)) := by
  have h7 := p27 hP
  unfold fW_at
  rw [i8]
  simp (disch := omega) only [ib_t, ix_nI, nm_def, bd_some, bi_some, if_true, if_false, eq_self, nI_1, one_ne]
theorem or_nI {h p : Nat} (hh : h < 2 ^ 31) (hp : p < 31) : nI h ||| ((1 : Int32) <<< (nI p &&& 31)) = nI (h ||| 2 ^ p) := by
  rw [sh1 p hp, nI_or hh (p231 hp)]
theorem W_val_l {σ : St} {W : Tw} {h w s : Nat} {g : Nat → Int32} (hG : Gd W) (hP : gI σ 27 2 = nI (wP W)) (hh : h < 2 ^ wP W) (hw : w < 3) (hs : s < 2 ^ wP W) (hg : ∀ p, p < wP W → s.testBit p = true → gI σ 29 (8 * (h ||| 2 ^ p) + p) = g p) : ∀ n i, i ≤ wP W → wP W < n + i → fW_value_47 n σ (nI h) (nI w) (nI s) (fo w s g 0 i) (nI i) = some (fo w s g 0 (wP W))
  | 0, i, h1, h2 => by omega
  | n + 1, i, h1, h2 => by
    have g1 := hG.1.1
    have h7 := p27 g1
    unfold fW_value_47
    rw [hP]
    by_cases e : i = wP W
    · rw [if_pos (by rw [e]; exact Int32.le_refl _), e]
    · have ih := W_val_l hG hP hh hw hs hg n (i + 1) (by omega) (by omega)
      rw [if_neg (nI_ge (by omega) (by omega)), hold_nI (by omega) (by omega)]
      rw [fo] at ih
      by_cases q : s.testBit i = true
      · rw [if_pos q] at ih
        rw [q, b2t, if_neg one_ne, or_nI (by omega) (by omega), W_at g1 (or_lt hh (by omega)) (by omega), bd_some, hg i (by omega) q]
        simp only [nm_def, nI_1]
        unfold opw at ih
        rcases (show w = 0 ∨ w = 1 ∨ w = 2 by omega) with rfl | rfl | rfl
        · exact ih
        · exact ih
        · exact ih
      · rw [if_neg q] at ih
        have q' : s.testBit i = false := by simpa using q
        rw [q', b2f, if_pos rfl, nm_def, nI_1]
        exact ih
theorem W_val {σ : St} {W : Tw} {k h w f first : Nat} (hS : SE σ W k) (hG : Gd W) (hh : h < 2 ^ wP W) (hw : w < 3) (hf : f < wP W) (hfi : h &&& first = first) (hT : TbE σ W k w first (h + 1)) : fW_value σ (nI h) (nI f) (nI w) = some (vw W k w f h) := by
  have g1 := hG.1.1
  have h7 := p27 g1
  unfold fW_value
  rw [hS.1, ev_P g1, vw_eq hG hh]
  by_cases q : h = 2 ^ wP W - 1
  · rw [if_pos (by rw [← q]), if_pos q, sh1 f (by omega)]
    unfold bas
    rcases (show w = 0 ∨ w = 1 ∨ w = 2 by omega) with rfl | rfl | rfl <;> rfl
  · rw [if_neg (fun z => q ((nI_eq (by omega) (by omega)).mp z)), if_neg q, W_tk hS hG hh hf, bd_some]
    refine W_val_l (g := fun p => vw W k w p (h ||| 2 ^ p)) hG hS.1 hh hw (setOf_lt _ _) (fun p hp hs => ?_) 300 0 (by omega) (by omega)
    have hb := (tkr_in hs).2
    have h3 := or_add hb
    refine hT _ (by omega) (or_lt hh hp) ?_ p hp ?_
    · apply nat_ext
      intro x
      have := congrArg (fun y => Nat.testBit y x) hfi
      simp only [Nat.testBit_and] at this
      rw [Nat.testBit_and, Nat.testBit_or]
      cases e1 : h.testBit x <;> cases e2 : first.testBit x <;> simp_all
    · rw [Nat.testBit_or, Nat.testBit_two_pow_self, Bool.or_true]
theorem W_fill_l {W : Tw} {k h w first : Nat} (hG : Gd W) (hh : h < 2 ^ wP W) (hw : w < 3) (hfi : h &&& first = first) : ∀ n i σ, i ≤ wP W → wP W < n + i → SE σ W k → TbE σ W k w first (h + 1) → (∀ f, f < i → h.testBit f = true → gI σ 29 (8 * h + f) = vw W k w f h) → ∃ τ, fW_fill_2 n σ (nI h) (nI w) (nI i) = some τ ∧ SE τ W k ∧ TbE τ W k w first h ∧ LE σ τ
  | 0, i, σ, h1, h2, hS, hT, hd => by omega
  | n + 1, i, σ, h1, h2, hS, hT, hd => by
    have g1 := hG.1.1
    have h7 := p27 g1
    unfold fW_fill_2
    rw [hS.1]
    by_cases e : i = wP W
    · rw [if_pos (by rw [e]; exact Int32.le_refl _)]
      refine ⟨σ, rfl, hS, fun h' a1 a2 a3 f hf hb => ?_, LE.rf⟩
      by_cases e2 : h' = h
      · rw [e2]; rw [e2] at hb; exact hd f (by omega) hb
      · exact hT h' (by omega) a2 a3 f hf hb
    · rw [if_neg (nI_ge (by omega) (by omega)), hold_nI (by omega) (by omega)]
      by_cases q : h.testBit i = true
      · rw [q, b2t, if_neg one_ne, W_val hS hG hh hw (by omega) hfi hT, bd_some, i8, if_pos (ib_nI (by omega) (by omega)), nm_def, nm_def, ix_nI (by omega), nI_1]
        have c29 : ∀ j, j ≠ 8 * h + i → gI (sI σ 29 (8 * h + i) (vw W k w i h)) 29 j = gI σ 29 j := fun j hj => gI_p hj
        obtain ⟨τ, r1, r2, r3, r4⟩ := W_fill_l hG hh hw hfi n (i + 1) (sI σ 29 (8 * h + i) (vw W k w i h)) (by omega) (by omega) ⟨by rw [gI_o (by omega)]; exact hS.1, fun f hf => by rw [gI_o (by omega)]; exact hS.2 f hf⟩ (fun h' a1 a2 a3 f hf hb => by rw [c29 _ (by omega)]; exact hT h' a1 a2 a3 f hf hb) (fun f hf hb => by
          by_cases e3 : f = i
          · rw [e3, gI_s]
          · rw [c29 _ (by omega)]; exact hd f (by omega) hb)
        exact ⟨τ, r1, r2, r3, LE.tr (LE.rf.s (by omega)) r4⟩
      · have q' : h.testBit i = false := by simpa using q
        rw [q', b2f, if_pos rfl, nm_def, nI_1]
        exact W_fill_l hG hh hw hfi n (i + 1) σ (by omega) (by omega) hS hT (fun f hf hb => by
          by_cases e3 : f = i
          · rw [e3, q'] at hb; cases hb
          · exact hd f (by omega) hb)
theorem W_srv_l {W : Tw} {k w first : Nat} (hG : Gd W) (hw : w < 3) (hf1 : 1 ≤ first) (hf2 : first < 2 ^ wP W) : ∀ n i σ, first ≤ i + 1 → i < 2 ^ wP W → i < n → SE σ W k → TbE σ W k w first (i + 1) → ∃ τ, fW_survey_58 n σ (nI w) (nI first) (nI i) = some τ ∧ SE τ W k ∧ TbE τ W k w first first ∧ LE σ τ
  | 0, i, σ, h0, h1, h2, hS, hT => by omega
  | n + 1, i, σ, h0, h1, h2, hS, hT => by
    have g1 := hG.1.1
    have h7 := p27 g1
    unfold fW_survey_58
    by_cases e : i < first
    · rw [if_pos (nI_lt e (by omega))]
      exact ⟨σ, rfl, hS, fun h' a1 a2 a3 f hf hb => hT h' (by omega) a2 a3 f hf hb, LE.rf⟩
    · have em : nI i + (-1) = nI (i - 1) := by
        have := pk_m1 (i - 1)
        rwa [show i - 1 + 1 = i by omega] at this
      rw [if_neg (fun z => e ((nI_ltI (by omega) (by omega)).mp z)), nI_and (by omega) (by omega), nm_def, em]
      have hlt : i &&& first < 2 ^ 31 := by have := Nat.and_le_left (n := i) (m := first); omega
      by_cases q : i &&& first = first
      · rw [if_pos (by rw [q])]
        obtain ⟨τ1, r1, r2, r3, r4⟩ := W_fill_l (k := k) hG h1 hw q 300 0 σ (by omega) (by omega) hS hT (fun f hf => by omega)
        obtain ⟨τ, s1, s2, s3, s4⟩ := W_srv_l hG hw hf1 hf2 n (i - 1) τ1 (by omega) (by omega) (by omega) r2 (by rw [show i - 1 + 1 = i by omega]; exact r3)
        refine ⟨τ, ?_, s2, s3, LE.tr r4 s4⟩
        rw [show fW_fill σ (nI i) (nI w) = some τ1 from r1, bd_some]
        exact s1
      · rw [if_neg (fun z => q ((nI_eq hlt (by omega)).mp z))]
        refine W_srv_l hG hw hf1 hf2 n (i - 1) σ (by omega) (by omega) (by omega) hS (fun h' a1 a2 a3 f hf hb => ?_)
        by_cases e2 : h' = i
        · rw [e2] at a3; exact absurd a3 q
        · exact hT h' (by omega) a2 a3 f hf hb
theorem TE.l {σ τ : St} {t : Nat} {W : Tw} (ht : t = 1 ∨ t = 9) (h : TE σ t W) (e : LE σ τ) : TE τ t W := h.f (fun a b h1 h2 => e.1 a b (by omega))
theorem W_rch_l {t c w : Nat} {W : Tw} (ht : t = 1 ∨ t = 9) (hG : Gd W) (hc : c < wC W) (hw : w < 3) : ∀ n i σ, i ≤ wP W → wP W < n + i → TE σ t W → gI σ 27 2 = nI (wP W) → (∀ f, f < i → gI σ 28 f = nI (setOf (wP W) (allow W (wkd W c) f))) → ∃ τ, fW_survey_11 n σ t (nI c) (nI w) (nI i) = some τ ∧ SE τ W (wkd W c) ∧ TbE τ W (wkd W c) w (wha W c) (wha W c) ∧ LE σ τ
  | 0, i, σ, h1, h2, hE, hP, hd => by omega
  | n + 1, i, σ, h1, h2, hE, hP, hd => by
    have g1 := hG.1.1
    have g2 := hG.1.2
    have h7 := p27 g1
    unfold fW_survey_11
    rw [hP]
    by_cases e : i = wP W
    · obtain ⟨k1, k2, k3, k4, k5⟩ := hG.2.2.2 c hc
      have hpos : 1 ≤ wha W c := by
        rcases Nat.eq_zero_or_pos (wha W c) with h | h
        · rw [h, Nat.zero_testBit] at k5; cases k5
        · exact h
      rw [if_pos (by rw [e]; exact Int32.le_refl _)]
      unfold fW_survey_40
      rw [if_pos (ib_nI (by omega) (by omega)), nm_def, nm_def, ix_nI (by omega), (hE.2.2.2.2 c hc).2.2.2, hP, ev_P g1]
      exact W_srv_l hG hw hpos k4 300 (2 ^ wP W - 1) σ (by omega) (by omega) (by omega) ⟨hP, fun f hf => hd f (by omega)⟩ (fun h' a1 a2 => by omega)
    · rw [if_neg (nI_ge (by omega) (by omega)), E_reach hE hG hc (by omega), bd_some, if_pos (ib_nI (by omega) (by omega)), nm_def, nm_def, ix_nI (by omega), nI_1]
      obtain ⟨τ, r1, r2, r3, r4⟩ := W_rch_l ht hG hc hw n (i + 1) (sI σ 28 i (nI (setOf (wP W) (allow W (wkd W c) i)))) (by omega) (by omega) (hE.l ht (LE.rf.s (by omega))) (by rw [gI_o (by omega)]; exact hP) (fun f hf => by
        by_cases e3 : f = i
        · rw [e3, gI_s]
        · rw [gI_p e3]; exact hd f (by omega))
      exact ⟨τ, r1, r2, r3, LE.tr (LE.rf.s (by omega)) r4⟩
/-- the class looks -/
theorem E_look {σ : St} {c w : Nat} {W : Tw} (ht : gR σ 0 = 1 ∨ gR σ 0 = 9) (hE : TE σ (gR σ 0) W) (hG : Gd W) (hc : c < wC W) (hw : w < 3) : ∃ τ, fE_look σ (nI c) (nI w) = some (vw W (wkd W c) w (who W c) (wha W c), τ) ∧ SE τ W (wkd W c) ∧ TbE τ W (wkd W c) w (wha W c) (wha W c) ∧ LE σ τ := by
  have hb : isTb (gR σ 0) = true := by rcases ht with e | e <;> rw [e] <;> rfl
  have g1 := hG.1.1
  have g2 := hG.1.2
  obtain ⟨k1, k2, k3, k4, k5⟩ := hG.2.2.2 c hc
  have l0 : LE σ (sI σ 27 2 (nI (wP W))) := LE.rf.s (by omega)
  obtain ⟨τ, r1, r2, r3, r4⟩ := W_rch_l ht hG hc hw 300 0 (sI σ 27 2 (nI (wP W))) (by omega) (by omega) (hE.l ht l0) gI_s (fun f hf => by omega)
  have l1 := LE.tr l0 r4
  have hE1 := hE.l ht l1
  have hr : gR τ 0 = gR σ 0 := l1.2.2 0
  obtain ⟨x1, x2, x3, x4⟩ := hE1.2.2.2.2 c hc
  refine ⟨τ, ?_, r2, r3, l1⟩
  have e1 : fW_survey σ (gR σ 0) (nI c) (nI w) = some τ := by
    unfold fW_survey
    rw [nm_def, hE.1]
    exact r1
  unfold fE_look
  rw [if_pos hb, e1, bd_some, hr, if_pos hb, if_pos (ib_nI (by omega) (by omega)), if_pos hb, if_pos (ib_nI (by omega) (by omega)), ix_nI (by omega), x3, x4, W_at g1 k4 k3, bd_some, r3 (wha W c) (Nat.le_refl _) k4 (Nat.and_self _) (who W c) k3 k5]
