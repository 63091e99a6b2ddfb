/-! best, friend -/
def bq1 (x : Option (Nat × Nat × Nat)) : Int32 := match x with | none => -3 | some w => nI w.1
def bq2 (x : Option (Nat × Nat × Nat)) : Int32 := match x with | none => -3 | some w => nI w.2.1
def bq3 (x : Option (Nat × Nat × Nat)) (d : Int32) : Int32 := match x with | none => d | some w => nI w.2.2
def pk3 (a2 : Int32) (x : Option (Nat × Nat × Nat)) : Int32 := if a2 = 0 then bq1 x else if a2 = 1 then bq2 x else bq3 x (-3)
def ftc (W : Tw) (c : Nat) : Nat := (ft W (wkd W c) (who W c) (wha W c) (wP W) 0).getD 0
def bs2 (W : Tw) (i : Nat) (x : Option (Nat × Nat × Nat)) : Option (Nat × Nat × Nat) := match x with | none => some (i, ftc W i, lfc W i - 1) | some w => if lfc W i - 1 ≤ w.2.2 then some w else some (i, ftc W i, lfc W i - 1)
def bs1 (W : Tw) (p i : Nat) (x : Option (Nat × Nat × Nat)) : Option (Nat × Nat × Nat) := if who W i = p ∧ 0 < lfc W i then bs2 W i x else x
def bst (W : Tw) (p : Nat) : Nat → Nat → Option (Nat × Nat × Nat) → Option (Nat × Nat × Nat)
  | 0, _, x => x
  | m + 1, i, x => bst W p m (i + 1) (bs1 W p i x)
theorem bs1_6 {W : Tw} {p i : Nat} {x : Option (Nat × Nat × Nat)} (hG : Gd W) (hi : i < wC W) (hx : ∀ w, x = some w → w.2.2 ≤ 6) : ∀ w, bs1 W p i x = some w → w.2.2 ≤ 6 := by
  intro w hw
  have l6 := lfc_6 hG hi
  unfold bs1 at hw
  by_cases q : who W i = p ∧ 0 < lfc W i
  · rw [if_pos q] at hw
    cases x with
    | none => cases hw; show lfc W i - 1 ≤ 6; omega
    | some v =>
      rw [bs2] at hw
      by_cases q2 : lfc W i - 1 ≤ v.2.2
      · rw [if_pos q2] at hw; exact hx w hw
      · rw [if_neg q2] at hw; cases hw; show lfc W i - 1 ≤ 6; omega
  · rw [if_neg q] at hw; exact hx w hw
theorem ftc_e {W : Tw} {c : Nat} (hG : Gd W) (hc : c < wC W) (h : 0 < lfc W c) : ft W (wkd W c) (who W c) (wha W c) (wP W) 0 = some (ftc W c) := by
  obtain ⟨p, e⟩ := ft_ex (k := wkd W c) (f := who W c) hG (hG.2.2.2 c hc).2.2.2.1 h
  unfold ftc
  rw [e]
  rfl
theorem E_bst {t p : Nat} {a2 : Int32} {W : Tw} (ht : t = 1 ∨ t = 9) (hG : Gd W) (hp : p < wP W) : ∀ n m i x σ, gR σ 0 = t → TE σ t W → m + i = wC W → m < n → (∀ w, x = some w → w.2.2 ≤ 6) → ∃ τ, fE_best_36 n σ (nI p) a2 (bq1 x) (bq2 x) (bq3 x (-3)) (nI i) = some (pk3 a2 (bst W p m i x), τ) ∧ LE σ τ
  | 0, m, i, x, σ, hr, hE, h1, h2, hx => by omega
  | n + 1, 0, i, x, σ, hr, hE, h1, h2, hx => by
    have g2 := hG.1.2
    unfold fE_best_36 fE_best_123
    rw [if_pos (isT_t ht hr), hr, hE.2.1, if_pos (nI_le (by omega) (by omega))]
    exact ⟨σ, rfl, LE.rf⟩
  | n + 1, m + 1, i, x, σ, hr, hE, h1, h2, hx => by
    have g1 := hG.1.1
    have g2 := hG.1.2
    have h7 := p27 g1
    have hi : i < wC W := by omega
    have l6 := lfc_6 hG hi
    obtain ⟨k1, k2, k3, k4, k5⟩ := hG.2.2.2 i hi
    have IH : ∀ τ1, gR τ1 0 = t → TE τ1 t W → ∃ τ, fE_best_36 n τ1 (nI p) a2 (bq1 (bs1 W p i x)) (bq2 (bs1 W p i x)) (bq3 (bs1 W p i x) (-3)) (nI (i + 1)) = some (pk3 a2 (bst W p (m + 1) i x), τ) ∧ LE τ1 τ := fun τ1 u1 u2 => E_bst ht hG hp n m (i + 1) (bs1 W p i x) τ1 u1 u2 (by omega) (by omega) (bs1_6 hG hi hx)
    unfold fE_best_36
    simp only [nm_def, nI_1]
    rw [if_pos (isT_t ht hr), if_pos (isT_t ht hr), hr, hE.2.1, if_neg (nI_ge (by omega) (by omega)), if_pos (ib_nI (by omega) (by omega)), ix_nI (by omega), (hE.2.2.2.2 i hi).2.2.1]
    by_cases hw : who W i = p
    rotate_left
    · rw [if_neg (fun z => hw ((nI_eq (by omega) (by omega)).mp z)), if_pos (show (-3 : Int32) < 0 by decide)]
      obtain ⟨τ, s1, s2⟩ := IH σ hr hE
      rw [show bs1 W p i x = x from if_neg (fun z => hw z.1)] at s1
      exact ⟨τ, s1, s2⟩
    obtain ⟨τ1, r1, r2, r3, r4, r5, r6⟩ := E_lk (w := 0) ht hr hE hG hi (by decide)
    obtain ⟨τ, s1, s2⟩ := IH τ1 r5 r6
    have hb1 := isT_t ht r5
    rw [lfc_vw hG hi] at r1
    rw [if_pos (by rw [hw]), show fE_look σ (nI i) 0 = _ from r1, bi_some]
    by_cases hl : lfc W i = 0
    · rw [show bs1 W p i x = x from if_neg (fun z => by omega)] at s1
      rw [hl, if_pos (show nI 0 - 1 < 0 by decide)]
      exact ⟨τ, s1, LE.tr r4 s2⟩
    have hft := W_ft hG r2 r3 k4 (Nat.and_self _) k3 k5
    rw [ftc_e hG hi (by omega), hw] at hft
    have ed : nI (lfc W i) - 1 = nI (lfc W i - 1) := pk_sub (b := 1) (by omega)
    rw [ed, if_neg (nI_pos (by omega)), if_pos hb1, if_pos (ib_nI (by omega) (by omega)), r5, (r6.2.2.2.2 i hi).2.2.2, hft, bd_some, oN_s]
    have eb : bs1 W p i x = bs2 W i x := if_pos ⟨hw, by omega⟩
    rw [eb] at s1
    cases x with
    | none =>
      rw [if_neg (show ¬ nI (lfc W i - 1) ≤ bq3 none (-3) by rw [le_i, nI_toInt (by omega), show (bq3 none (-3)).toInt = -3 from rfl]; omega)]
      exact ⟨τ, s1, LE.tr r4 s2⟩
    | some w =>
      have hx6 := hx w rfl
      by_cases q : lfc W i - 1 ≤ w.2.2
      · rw [bs2, if_pos q] at s1
        rw [if_pos (show nI (lfc W i - 1) ≤ bq3 (some w) (-3) from nI_le q (by omega))]
        exact ⟨τ, s1, LE.tr r4 s2⟩
      · rw [bs2, if_neg q] at s1
        rw [if_neg (show ¬ nI (lfc W i - 1) ≤ bq3 (some w) (-3) from nI_ge (by omega) (by omega))]
        exact ⟨τ, s1, LE.tr r4 s2⟩
/-- one person of the reference's inner loop -/
theorem M_b1 {σ : St} {W : Tw} {c i n : Nat} {pI a2 fo most : Int32} {K : St → Int32 → Int32 → Int32 → Int32 → Int32 → Option (Int32 × St)} (hM : TM σ W) (hG : Gd W) (hc : c < wC W) (hT : TbM σ W (wkd W c) 1) (hi : i < wP W) : fM_best_62 (n + 1) σ pI a2 fo most (nI c) (nI i) K = (if (tkc W c).testBit i = true then (if nI (lf W (wkd W c) i (wha W c ||| 2 ^ i)) ≤ most then fM_best_62 n σ pI a2 fo most (nI c) (nI (i + 1)) K else fM_best_62 n σ pI a2 (if a2 = 0 then nI c else if a2 = 1 then nI i else nI (lf W (wkd W c) i (wha W c ||| 2 ^ i))) (nI (lf W (wkd W c) i (wha W c ||| 2 ^ i))) (nI c) (nI (i + 1)) K) else if -1 ≤ most then fM_best_62 n σ pI a2 fo most (nI c) (nI (i + 1)) K else fM_best_62 n σ pI a2 (if a2 = 0 then nI c else if a2 = 1 then nI i else -1) (-1) (nI c) (nI (i + 1)) K) := by
  have g1 := hG.1.1
  have h7 := p27 g1
  obtain ⟨k1, k2, k3, k4, k5⟩ := hG.2.2.2 c hc
  have h4 := or_lt k4 hi
  rw [fM_best_62]
  rw [hM.1, if_neg (nI_ge hi (by omega)), M_mayNow hM hG hc hi, bd_some, ← tkc_bit hi]
  simp only [nm_def, nI_1]
  by_cases q : (tkc W c).testBit i = true
  · rw [if_pos q, show b2i ((tkc W c).testBit i) = 1 by rw [q]; rfl, if_neg one_ne, (M_its hM hG hc).2.2.2, bd_some, or_nI (by omega) (by omega), i128, if_pos (ib_nI (by omega) (by omega)), ix_nI (by omega), TbM_lf hG hT h4 (bit_pos or_bit) hi or_bit]
  · have q' : (tkc W c).testBit i = false := by simpa using q
    rw [if_neg q, show b2i ((tkc W c).testBit i) = 0 by rw [q']; rfl, if_pos rfl]
theorem M_b0 {σ : St} {W : Tw} {i n : Nat} {cI pI a2 fo most : Int32} {K : St → Int32 → Int32 → Int32 → Int32 → Int32 → Option (Int32 × St)} (hM : TM σ W) (hG : Gd W) (hi : wP W ≤ i) (hi2 : i < 100) : fM_best_62 (n + 1) σ pI a2 fo most cI (nI i) K = K σ pI a2 fo most cI := by
  rw [fM_best_62]
  rw [hM.1, if_pos (nI_le hi (by omega))]
theorem M_skip {σ : St} {W : Tw} {c : Nat} {pI a2 fo most : Int32} {K : St → Int32 → Int32 → Int32 → Int32 → Int32 → Option (Int32 × St)} (hM : TM σ W) (hG : Gd W) (hc : c < wC W) (hT : TbM σ W (wkd W c) 1) (hm : -1 ≤ most.toInt) (hs : ∀ i, i < wP W → (tkc W c).testBit i = true → (lf W (wkd W c) i (wha W c ||| 2 ^ i) : Int) ≤ most.toInt) : ∀ n m i, m + i = wP W → m < n → fM_best_62 n σ pI a2 fo most (nI c) (nI i) K = K σ pI a2 fo most (nI c)
  | 0, m, i, h1, h2 => by omega
  | n + 1, 0, i, h1, h2 => by
    have g1 := hG.1.1
    exact M_b0 hM hG (by omega) (by omega)
  | n + 1, m + 1, i, h1, h2 => by
    have k4 := (hG.2.2.2 c hc).2.2.2.1
    have ih := M_skip (pI := pI) (a2 := a2) (fo := fo) (K := K) hM hG hc hT hm hs n m (i + 1) (by omega) (by omega)
    rw [M_b1 hM hG hc hT (by omega)]
    by_cases q : (tkc W c).testBit i = true
    · have := hs i (by omega) q
      have l := (lf_nI (k := wkd W c) (f := i) hG (or_lt k4 (show i < wP W by omega))).2
      rw [if_pos q, if_pos (by rw [le_i, nI_toInt (by omega)]; exact this)]
      exact ih
    · rw [if_neg q, if_pos (by rw [le_i, show (-1 : Int32).toInt = -1 from rfl]; exact hm)]
      exact ih
theorem M_find1 {σ : St} {W : Tw} {c d ps : Nat} {pI a2 : Int32} {K : St → Int32 → Int32 → Int32 → Int32 → Int32 → Option (Int32 × St)} (hM : TM σ W) (hG : Gd W) (hc : c < wC W) (hT : TbM σ W (wkd W c) 1) (hd : lfc W c = d + 1) : ∀ n m i (fo most : Int32), m + i = wP W → m < n → ft W (wkd W c) (who W c) (wha W c) m i = some ps → -1 ≤ most.toInt → most.toInt < (d : Int) → fM_best_62 n σ pI a2 fo most (nI c) (nI i) K = K σ pI a2 (if a2 = 0 then nI c else if a2 = 1 then nI ps else nI d) (nI d) (nI c)
  | 0, m, i, fo, most, h1, h2, e, hm, hm2 => by omega
  | n + 1, 0, i, fo, most, h1, h2, e, hm, hm2 => by cases e
  | n + 1, m + 1, i, fo, most, h1, h2, e, hm, hm2 => by
    have k4 := (hG.2.2.2 c hc).2.2.2.1
    have l6 := lfc_6 hG hc
    have le : ∀ p, p < wP W → (tkc W c).testBit p = true → lf W (wkd W c) p (wha W c ||| 2 ^ p) ≤ d := fun p hp hb => by
      have a := fN_ge (s := tkc W c) (g := fun p => lf W (wkd W c) p (wha W c ||| 2 ^ p)) (wP W) p hp hb
      have b : lfc W c = fN (tkc W c) (fun p => lf W (wkd W c) p (wha W c ||| 2 ^ p)) (wP W) := lf_eq hG k4
      omega
    rw [M_b1 hM hG hc hT (by omega)]
    rw [ft] at e
    by_cases q : (tkc W c).testBit i = true
    · have l := le i (by omega) q
      rw [if_pos q]
      by_cases q2 : lf W (wkd W c) i (wha W c ||| 2 ^ i) = d
      · rw [if_pos ⟨q, by rw [q2]; exact hd.symm⟩] at e
        have ei := Option.some.inj e
        subst ei
        rw [q2, if_neg (by rw [le_i, nI_toInt (by omega)]; omega)]
        exact M_skip hM hG hc hT (by rw [nI_toInt (by omega)]; omega) (fun p hp hb => by rw [nI_toInt (by omega)]; have := le p hp hb; omega) n m (i + 1) (by omega) (by omega)
      · rw [if_neg (fun z => q2 (by have := z.2; have h3 : lf W (wkd W c) (who W c) (wha W c) = d + 1 := hd; omega))] at e
        by_cases q3 : nI (lf W (wkd W c) i (wha W c ||| 2 ^ i)) ≤ most
        · rw [if_pos q3]
          exact M_find1 hM hG hc hT hd n m (i + 1) fo most (by omega) (by omega) e hm hm2
        · rw [if_neg q3]
          exact M_find1 hM hG hc hT hd n m (i + 1) _ _ (by omega) (by omega) e (by rw [nI_toInt (by omega)]; omega) (by rw [nI_toInt (by omega)]; omega)
    · rw [if_neg (fun z => q z.1)] at e
      rw [if_neg q, if_pos (by rw [le_i, show (-1 : Int32).toInt = -1 from rfl]; exact hm)]
      exact M_find1 hM hG hc hT hd n m (i + 1) fo most (by omega) (by omega) e hm hm2
theorem M_bst {p : Nat} {a2 : Int32} {W : Tw} (hG : Gd W) (hp : p < wP W) : ∀ n m i x σ, TM σ W → m + i = wC W → m < n → (∀ w, x = some w → w.2.2 ≤ 6) → ∃ τ, fM_best_28 n σ (nI p) a2 (pk3 a2 x) (bq3 x (-1)) (nI i) = some (pk3 a2 (bst W p m i x), τ) ∧ LM σ τ
  | 0, m, i, x, σ, hM, h1, h2, hx => by omega
  | n + 1, 0, i, x, σ, hM, h1, h2, hx => by
    have g2 := hG.1.2
    unfold fM_best_28
    rw [hM.2.1, if_pos (nI_le (by omega) (by omega))]
    exact ⟨σ, rfl, LM.rf⟩
  | n + 1, m + 1, i, x, σ, hM, h1, h2, hx => by
    have g1 := hG.1.1
    have g2 := hG.1.2
    have hi : i < wC W := by omega
    have l6 := lfc_6 hG hi
    obtain ⟨k1, k2, k3, k4, k5⟩ := hG.2.2.2 i hi
    have IH : ∀ τ1, TM τ1 W → ∃ τ, fM_best_28 n τ1 (nI p) a2 (pk3 a2 (bs1 W p i x)) (bq3 (bs1 W p i x) (-1)) (nI (i + 1)) = some (pk3 a2 (bst W p (m + 1) i x), τ) ∧ LM τ1 τ := fun τ1 u2 => M_bst hG hp n m (i + 1) (bs1 W p i x) τ1 u2 (by omega) (by omega) (bs1_6 hG hi hx)
    unfold fM_best_28
    rw [hM.2.1, if_neg (nI_ge (by omega) (by omega)), (M_its hM hG hi).2.2.1, bd_some]
    by_cases hw : who W i = p
    rotate_left
    · rw [if_neg (fun z => hw ((nI_eq (by omega) (by omega)).mp z)), nm_def, nI_1]
      obtain ⟨τ, s1, s2⟩ := IH σ hM
      rw [show bs1 W p i x = x from if_neg (fun z => hw z.1)] at s1
      exact ⟨τ, s1, s2⟩
    obtain ⟨τ1, r1, r2, r3⟩ := M_find hM hG k1
    have hM1 := hM.l r2
    obtain ⟨τ, s1, s2⟩ := IH τ1 hM1
    refine ⟨τ, ?_, LM.tr r2 s2⟩
    rw [if_pos (by rw [hw]), (M_its hM hG hi).1, bd_some, r1, bd_some]
    have mx : -1 ≤ (bq3 x (-1)).toInt := by
      cases x with
      | none => decide
      | some w => have := hx w rfl; show -1 ≤ (nI w.2.2).toInt; rw [nI_toInt (by omega)]; omega
    have le : ∀ p, p < wP W → (tkc W i).testBit p = true → lf W (wkd W i) p (wha W i ||| 2 ^ p) + 1 ≤ lfc W i := fun p hp hb => by
      have a := fN_ge (s := tkc W i) (g := fun p => lf W (wkd W i) p (wha W i ||| 2 ^ p)) (wP W) p hp hb
      have b : lfc W i = fN (tkc W i) (fun p => lf W (wkd W i) p (wha W i ||| 2 ^ p)) (wP W) := lf_eq hG k4
      omega
    by_cases hl : lfc W i = 0
    · rw [show bs1 W p i x = x from if_neg (fun z => by omega)] at s1
      rw [show (0 : Int32) = nI 0 from rfl, M_skip hM1 hG hi r3 mx (fun p hp hb => by have := le p hp hb; omega) 300 (wP W) 0 (by omega) (by omega), nm_def, nI_1]
      exact s1
    have eb : bs1 W p i x = bs2 W i x := if_pos ⟨hw, by omega⟩
    by_cases q : ((lfc W i - 1 : Nat) : Int) ≤ (bq3 x (-1)).toInt
    · have ebx : bs1 W p i x = x := by
        rw [eb]
        cases x with
        | none => rw [show (bq3 none (-1)).toInt = -1 from rfl] at q; omega
        | some w =>
          have := hx w rfl
          rw [show bq3 (some w) (-1) = nI w.2.2 from rfl, nI_toInt (by omega)] at q
          show (if lfc W i - 1 ≤ w.2.2 then some w else _) = some w
          rw [if_pos (by omega)]
      rw [ebx] at s1
      rw [show (0 : Int32) = nI 0 from rfl, M_skip hM1 hG hi r3 mx (fun p hp hb => by have := le p hp hb; omega) 300 (wP W) 0 (by omega) (by omega), nm_def, nI_1]
      exact s1
    · have ebx : bs1 W p i x = some (i, ftc W i, lfc W i - 1) := by
        rw [eb]
        cases x with
        | none => rfl
        | some w =>
          have := hx w rfl
          rw [show bq3 (some w) (-1) = nI w.2.2 from rfl, nI_toInt (by omega)] at q
          show (if lfc W i - 1 ≤ w.2.2 then some w else _) = _
          rw [if_neg (by omega)]
      rw [ebx] at s1
      rw [show (0 : Int32) = nI 0 from rfl, M_find1 hM1 hG hi r3 (show lfc W i = (lfc W i - 1) + 1 by omega) 300 (wP W) 0 _ _ (by omega) (by omega) (ftc_e hG hi (by omega)) mx (by omega), nm_def, nI_1]
      exact s1
theorem st_best : St_best Inv := by
  intro σ a1 a2 hI
  have hb := hI.isT
  have ht := hI.t
  obtain ⟨W, hE, hM, hG⟩ := hI.w
  have g1 := hG.1.1
  have g2 := hG.1.2
  rcases (arg a1 (wP W) (by omega)).symm with ho | ⟨p, hp, rfl⟩
  · refine ⟨-1, σ, σ, ?_, ?_, hI⟩
    · unfold fE_best
      rw [if_pos hb, hp_o hE.1 g1 ho, if_pos rfl]
    · unfold fM_best
      rw [mp_o hM.1 g1 ho, if_pos rfl]
  rcases (in_02 a2).symm with ho | ⟨hin, j, hj, rfl⟩
  · refine ⟨-1, σ, σ, ?_, ?_, hI⟩
    · unfold fE_best
      rw [if_pos hb, hp_i hE.1 g1 hp, if_neg one_ne]
      exact rng_o (m := 2) (by omega) ho
    · unfold fM_best
      rw [mp_i hM.1 g1 hp, if_neg one_ne, ho, if_pos rfl]
  obtain ⟨τ1, r1, r2⟩ := E_bst (a2 := nI j) ht hG hp 300 (wC W) 0 none σ rfl hE (by omega) (by omega) (fun w hw => by cases hw)
  have hM1 := hM.e r2.pe
  obtain ⟨τ2, s1, s2⟩ := M_bst (a2 := nI j) hG hp 300 (wC W) 0 none τ1 hM1 (by omega) (by omega) (fun w hw => by cases hw)
  have e0 : pk3 (nI j) none = -3 := by
    unfold pk3
    repeat' split
    all_goals rfl
  refine hI.fin (r := pk3 (nI j) (bst W p (wC W) 0 none)) (hE.l ht r2) (hM1.l s2) hG r2.pe s2.pm ?_ ?_
  · unfold fE_best
    rw [if_pos hb, hp_i hE.1 g1 hp, if_neg one_ne]
    exact (rng_i (m := 2) (by omega) (by omega)).trans r1
  · unfold fM_best
    rw [mp_i hM1.1 g1 hp, if_neg one_ne, hin, if_neg one_ne]
    rw [e0] at s1
    exact s1
