/-! the row of a coin -/
theorem oN_s {x : Nat} {d : Int32} : oN (some x) d = nI x := rfl
def ft (W : Tw) (k f h : Nat) : Nat → Nat → Option Nat
  | 0, _ => none
  | m + 1, i => if (tkr W k f h).testBit i = true ∧ lf W k i (h ||| 2 ^ i) + 1 = lf W k f h then some i else ft W k f h m (i + 1)
theorem ft_in {W : Tw} {k f h : Nat} : ∀ m i p, m + i = wP W → ft W k f h m i = some p → p < wP W ∧ (tkr W k f h).testBit p = true ∧ lf W k p (h ||| 2 ^ p) + 1 = lf W k f h
  | 0, i, p, h1, e => by cases e
  | m + 1, i, p, h1, e => by
    unfold ft at e
    by_cases q : (tkr W k f h).testBit i = true ∧ lf W k i (h ||| 2 ^ i) + 1 = lf W k f h
    · rw [if_pos q] at e
      cases e
      exact ⟨by omega, q⟩
    · rw [if_neg q] at e
      exact ft_in m (i + 1) p (by omega) e
theorem ft_no {W : Tw} {k f h : Nat} : ∀ m i, ft W k f h m i = none → ∀ p, i ≤ p → p < m + i → ¬ ((tkr W k f h).testBit p = true ∧ lf W k p (h ||| 2 ^ p) + 1 = lf W k f h)
  | 0, i, e, p, h1, h2 => by omega
  | m + 1, i, e, p, h1, h2 => by
    unfold ft at e
    by_cases q : (tkr W k f h).testBit i = true ∧ lf W k i (h ||| 2 ^ i) + 1 = lf W k f h
    · rw [if_pos q] at e; cases e
    · rw [if_neg q] at e
      by_cases hp : p = i
      · rw [hp]; exact q
      · exact ft_no m (i + 1) e p (by omega) (by omega)
theorem ft_ex {W : Tw} {k f h : Nat} (hG : Gd W) (hh : h < 2 ^ wP W) (hl : 0 < lf W k f h) : ∃ p, ft W k f h (wP W) 0 = some p := by
  cases e : ft W k f h (wP W) 0 with
  | some p => exact ⟨p, rfl⟩
  | none =>
    have no := ft_no (wP W) 0 e
    have e2 := lf_eq (k := k) (f := f) hG hh
    rcases fN_ex (s := tkr W k f h) (g := fun p => lf W k p (h ||| 2 ^ p)) (wP W) with h0 | ⟨p, a, b, c⟩
    · rw [h0] at e2; omega
    · exact absurd ⟨b, (e2.trans c).symm⟩ (no p (by omega) (by omega))
theorem ft_0 {W : Tw} {k f h : Nat} (h0 : lf W k f h = 0) : ft W k f h (wP W) 0 = none := by
  cases e : ft W k f h (wP W) 0 with
  | none => rfl
  | some p =>
    have := (ft_in (wP W) 0 p (by omega) e).2.2
    omega
theorem sub_or {h s p : Nat} (e : h &&& s = s) : (h ||| 2 ^ p) &&& s = s := by
  apply nat_ext
  intro x
  have := congrArg (fun y => Nat.testBit y x) e
  simp only [Nat.testBit_and] at this
  rw [Nat.testBit_and, Nat.testBit_or]
  cases e1 : h.testBit x <;> cases e2 : s.testBit x <;> simp_all
theorem or_bit {h p : Nat} : (h ||| 2 ^ p).testBit p = true := by rw [Nat.testBit_or, Nat.testBit_two_pow_self, Bool.or_true]
theorem TbE_lf {σ : St} {W : Tw} {k f h s : Nat} (hG : Gd W) (hT : TbE σ W k 0 s s) (hh : h < 2 ^ wP W) (hs : h &&& s = s) (hf : f < wP W) (hb : h.testBit f = true) : gI σ 29 (8 * h + f) = nI (lf W k f h) := by
  rw [hT h (by have := Nat.and_le_left (n := h) (m := s); omega) hh hs f hf hb]
  exact (lf_nI hG hh).1
theorem TbM_lf {σ : St} {W : Tw} {k f h : Nat} (hG : Gd W) (hT : TbM σ W k 1) (hh : h < 2 ^ wP W) (h1 : 1 ≤ h) (hf : f < wP W) (hb : h.testBit f = true) : gI σ 53 (128 * f + h) = nI (lf W k f h) := by
  rw [(hT h h1 hh f hf hb).1]
  exact (lf_nI hG hh).1
theorem eq_m1 {a b : Nat} (ha : a < 1000) (hb : b < 1000) : (nI a = nI b - 1) ↔ a + 1 = b := by
  rw [eq_i, nI_m1 hb, nI_toInt (by omega)]
  omega
theorem W_ft_l {σ : St} {W : Tw} {k f h s : Nat} (hG : Gd W) (hS : SE σ W k) (hT : TbE σ W k 0 s s) (hh : h < 2 ^ wP W) (hs : h &&& s = s) : ∀ n m i, m + i = wP W → m < n → fW_firstTaker_20 n σ (nI h) (nI (tkr W k f h)) (nI (lf W k f h) - 1) (nI i) = some (oN (ft W k f h m i) (-3))
  | 0, m, i, h1, h2 => by omega
  | n + 1, 0, i, h1, h2 => by
    have g1 := hG.1.1
    unfold fW_firstTaker_20
    rw [hS.1, if_pos (nI_le (by omega) (by omega))]
    rfl
  | n + 1, m + 1, i, h1, h2 => by
    have g1 := hG.1.1
    have h7 := p27 g1
    have ih := W_ft_l (f := f) hG hS hT hh hs n m (i + 1) (by omega) (by omega)
    have l1 := (lf_nI (k := k) (f := f) hG hh).2
    have l2 := (lf_nI (k := k) (f := i) hG (or_lt hh (show i < wP W by omega))).2
    have ht : tkr W k f h < 2 ^ wP W := setOf_lt _ _
    unfold fW_firstTaker_20
    rw [hS.1, if_neg (nI_ge (by omega) (by omega)), hold_nI (by omega) (by omega), ft]
    by_cases q : (tkr W k f h).testBit i = true
    · rw [show b2i ((tkr W k f h).testBit i) = 1 by rw [q]; rfl, if_neg one_ne, or_nI (by omega) (by omega), W_at g1 (or_lt hh (by omega)) (by omega), bd_some, TbE_lf hG hT (or_lt hh (by omega)) (sub_or hs) (by omega) or_bit]
      by_cases q2 : lf W k i (h ||| 2 ^ i) + 1 = lf W k f h
      · rw [if_pos ((eq_m1 (by omega) (by omega)).mpr q2), if_pos ⟨q, q2⟩]
        rfl
      · rw [if_neg (fun z => q2 ((eq_m1 (by omega) (by omega)).mp z)), if_neg (fun z => q2 z.2), nm_def, nI_1]
        exact ih
    · have q' : (tkr W k f h).testBit i = false := by simpa using q
      rw [show b2i ((tkr W k f h).testBit i) = 0 by rw [q']; rfl, if_pos rfl, if_neg (fun z => q z.1), nm_def, nI_1]
      exact ih
theorem W_ft {σ : St} {W : Tw} {k f h s : Nat} (hG : Gd W) (hS : SE σ W k) (hT : TbE σ W k 0 s s) (hh : h < 2 ^ wP W) (hs : h &&& s = s) (hf : f < wP W) (hb : h.testBit f = true) : fW_firstTaker σ (nI h) (nI f) = some (oN (ft W k f h (wP W) 0) (-3)) := by
  have g1 := hG.1.1
  unfold fW_firstTaker
  rw [W_tk hS hG hh hf, bd_some, W_at g1 hh hf, bd_some, nm_def, TbE_lf hG hT hh hs hf hb]
  exact W_ft_l hG hS hT hh hs 300 (wP W) 0 (by omega) (by omega)
def nx (W : Tw) (k : Nat) (x : Nat × Nat) : Nat × Nat := match ft W k x.1 x.2 (wP W) 0 with
  | none => x
  | some p => (p, x.2 ||| 2 ^ p)
/-- who holds it and who had it, behind j gifts of the row -/
def sq (W : Tw) (k f h : Nat) : Nat → Nat × Nat
  | 0 => (f, h)
  | j + 1 => nx W k (sq W k f h j)
def SQ (W : Tw) (k f h j : Nat) : Prop := (sq W k f h j).1 < wP W ∧ (sq W k f h j).2 < 2 ^ wP W ∧ (sq W k f h j).2.testBit (sq W k f h j).1 = true ∧ lf W k (sq W k f h j).1 (sq W k f h j).2 + j = lf W k f h ∧ (∀ s, h &&& s = s → (sq W k f h j).2 &&& s = s) ∧ h ≤ (sq W k f h j).2
theorem sq_e {W : Tw} {k f h j p : Nat} (e : ft W k (sq W k f h j).1 (sq W k f h j).2 (wP W) 0 = some p) : sq W k f h (j + 1) = (p, (sq W k f h j).2 ||| 2 ^ p) := by
  show nx W k (sq W k f h j) = _
  unfold nx
  rw [e]
theorem sq_ok {W : Tw} {k f h : Nat} (hG : Gd W) (hf : f < wP W) (hh : h < 2 ^ wP W) (hb : h.testBit f = true) : ∀ j, j ≤ lf W k f h → SQ W k f h j
  | 0, _ => ⟨hf, hh, hb, rfl, fun s e => e, Nat.le_refl _⟩
  | j + 1, hj => by
    obtain ⟨i1, i2, i3, i4, i5, i6⟩ := sq_ok (k := k) hG hf hh hb j (by omega)
    obtain ⟨p, e⟩ := ft_ex (k := k) (f := (sq W k f h j).1) hG i2 (by omega)
    obtain ⟨q1, q2, q3⟩ := ft_in (wP W) 0 p (by omega) e
    unfold SQ
    rw [sq_e e]
    exact ⟨q1, or_lt i2 q1, or_bit, by show lf W k p ((sq W k f h j).2 ||| 2 ^ p) + (j + 1) = _; omega, fun s es => sub_or (i5 s es), Nat.le_trans i6 Nat.left_le_or⟩
theorem sq_s {W : Tw} {k f h j : Nat} (hG : Gd W) (hf : f < wP W) (hh : h < 2 ^ wP W) (hb : h.testBit f = true) (hj : j < lf W k f h) : ft W k (sq W k f h j).1 (sq W k f h j).2 (wP W) 0 = some (sq W k f h (j + 1)).1 ∧ (sq W k f h (j + 1)).2 = (sq W k f h j).2 ||| 2 ^ (sq W k f h (j + 1)).1 := by
  obtain ⟨i1, i2, i3, i4, i5, i6⟩ := sq_ok (k := k) hG hf hh hb j (by omega)
  obtain ⟨p, e⟩ := ft_ex (k := k) (f := (sq W k f h j).1) hG i2 (by omega)
  rw [sq_e e]
  exact ⟨e, rfl⟩
theorem E_row_l {σ : St} {W : Tw} {k f h i : Nat} (hG : Gd W) (hS : SE σ W k) (hT : TbE σ W k 0 h h) (hf : f < wP W) (hh : h < 2 ^ wP W) (hb : h.testBit f = true) (hi : i < lf W k f h) : ∀ n m g, m + g = i + 1 → m < n → fE_row_54 n σ (nI i) (nI (sq W k f h g).2) (nI (sq W k f h g).1) (nI g) = some (nI (sq W k f h (i + 1)).1, σ)
  | 0, m, g, h1, h2 => by omega
  | n + 1, 0, g, h1, h2 => by
    have l1 := (lf_nI (k := k) (f := f) hG hh).2
    unfold fE_row_54
    rw [if_pos (nI_lt (by omega) (by omega)), show g = i + 1 by omega]
  | n + 1, m + 1, g, h1, h2 => by
    have g1 := hG.1.1
    have h7 := p27 g1
    have l1 := (lf_nI (k := k) (f := f) hG hh).2
    obtain ⟨i1, i2, i3, i4, i5, i6⟩ := sq_ok hG hf hh hb g (show g ≤ lf W k f h by omega)
    obtain ⟨j1, -, -, -, -, -⟩ := sq_ok hG hf hh hb (g + 1) (show g + 1 ≤ lf W k f h by omega)
    obtain ⟨s1, s2⟩ := sq_s hG hf hh hb (show g < lf W k f h by omega)
    have ih := E_row_l hG hS hT hf hh hb hi n m (g + 1) (by omega) (by omega)
    unfold fE_row_54
    rw [if_neg (nI_nlt (by omega) (by omega)), W_ft hG hS hT i2 (i5 h (Nat.and_self h)) i1 i3, bd_some, s1, oN_s, if_pos (nI_pos' (by omega)), nm_def, nm_def, or_nI (by omega) (by omega), ← s2, nI_1]
    exact ih
/-- g rows are written -/
def Rr (σ : St) (cell : Nat) (W : Tw) (k f h g : Nat) : Prop := ∀ j, j < g → gI σ cell (3 * j) = nI (sq W k f h j).1 ∧ gI σ cell (3 * j + 1) = nI (sq W k f h (j + 1)).1 ∧ gI σ cell (3 * j + 2) = nI (lf W k f h - 1 - j)
theorem Rr_s {σ τ : St} {cell : Nat} {W : Tw} {k f h g : Nat} (hr : Rr σ cell W k f h g) (e : ∀ j, gI τ cell j = if j = 3 * g + 2 then nI (lf W k f h - 1 - g) else if j = 3 * g + 1 then nI (sq W k f h (g + 1)).1 else if j = 3 * g then nI (sq W k f h g).1 else gI σ cell j) : Rr τ cell W k f h (g + 1) := by
  intro j hj
  rw [e, e, e]
  by_cases q : j = g
  · subst q
    rw [if_neg (by omega), if_neg (by omega), if_pos rfl, if_neg (by omega), if_pos rfl, if_pos rfl]
    exact ⟨rfl, rfl, rfl⟩
  · rw [if_neg (by omega), if_neg (by omega), if_neg (by omega), if_neg (by omega), if_neg (by omega), if_neg (by omega), if_neg (by omega), if_neg (by omega), if_neg (by omega)]
    exact hr j (by omega)
theorem M_fr36 {σ : St} {W : Tw} {c f h d : Nat} {K : St → Int32 → Int32 → Int32 → Int32 → Int32 → Option St} (hM : TM σ W) (hG : Gd W) (hc : c < wC W) (hT : TbM σ W (wkd W c) 1) (hf : f < wP W) (hh : h < 2 ^ wP W) (hd : d + 1 = lf W (wkd W c) f h) : ∀ n m i p, m + i = wP W → m < n → ft W (wkd W c) f h m i = some p → fM_findRow_36 n σ (nI c) (nI d) (nI f) (nI h) (nI i) K = K σ (nI c) (nI d) (nI f) (nI h) (nI p)
  | 0, m, i, p, h1, h2, e => by omega
  | n + 1, 0, i, p, h1, h2, e => by cases e
  | n + 1, m + 1, i, p, h1, h2, e => by
    have g1 := hG.1.1
    have h7 := p27 g1
    have k1 := (hG.2.2.2 c hc).1
    have l1 := (lf_nI (k := wkd W c) (f := f) hG hh).2
    have h4 := or_lt hh (show i < wP W by omega)
    have l2 := (lf_nI (k := wkd W c) (f := i) hG h4).2
    have hbit : (tkr W (wkd W c) f h).testBit i = (allow W (wkd W c) f i && !h.testBit i) := by
      rw [tkr_bit]; simp [show i < wP W by omega]
    unfold fM_findRow_36
    rw [(M_its hM hG hc).1, bd_some, M_may hM hG k1 hf hh (by omega), bd_some, ← hbit]
    by_cases q : (tkr W (wkd W c) f h).testBit i = true
    · have hp : 1 ≤ h ||| 2 ^ i := Nat.le_trans (Nat.two_pow_pos i) Nat.right_le_or
      rw [q, b2t, if_neg one_ne, or_nI (by omega) (by omega), i128, if_pos (ib_nI (by omega) (by omega)), ix_nI (by omega), TbM_lf hG hT h4 hp (by omega) or_bit]
      by_cases q2 : lf W (wkd W c) i (h ||| 2 ^ i) + 1 = lf W (wkd W c) f h
      · rw [ft, if_pos ⟨q, q2⟩] at e
        cases e
        rw [if_pos (show nI (lf W (wkd W c) i (h ||| 2 ^ i)) = nI d by rw [show lf W (wkd W c) i (h ||| 2 ^ i) = d by omega])]
      · rw [ft, if_neg (fun z => q2 z.2)] at e
        rw [if_neg (fun z => q2 (by have := (nI_eq (by omega) (by omega)).mp z; omega)), nm_def, nI_1]
        exact M_fr36 hM hG hc hT hf hh hd n m (i + 1) p (by omega) (by omega) e
    · have q' : (tkr W (wkd W c) f h).testBit i = false := by simpa using q
      rw [ft, if_neg (fun z => q z.1)] at e
      rw [q', b2f, if_pos rfl, nm_def, nI_1]
      exact M_fr36 hM hG hc hT hf hh hd n m (i + 1) p (by omega) (by omega) e
/-- only the reference's row differs -/
def LR (σ τ : St) : Prop := (∀ a b, ¬ (a = 44 ∧ b = 24) → ¬ a = 56 → gI τ a b = gI σ a b) ∧ (∀ a b, gL τ a b = gL σ a b) ∧ (∀ j, gR τ j = gR σ j)
theorem LR.rf {σ : St} : LR σ σ := ⟨fun _ _ _ _ => rfl, fun _ _ => rfl, fun _ => rfl⟩
theorem LR.tr {σ τ υ : St} (h1 : LR σ τ) (h2 : LR τ υ) : LR σ υ := ⟨fun a b h g => (h2.1 a b h g).trans (h1.1 a b h g), fun a b => (h2.2.1 a b).trans (h1.2.1 a b), fun j => (h2.2.2 j).trans (h1.2.2 j)⟩
theorem LR.s {σ τ : St} {k j : Nat} {v : Int32} (h1 : LR σ τ) (h : (k = 44 ∧ j = 24) ∨ k = 56) : LR σ (sI τ k j v) := h1.tr ⟨fun a b x y => if_neg (fun z => by omega), fun _ _ => rfl, fun _ => rfl⟩
theorem LR.pm {σ τ : St} (h : LR σ τ) : PM σ τ := ⟨fun a b x y z => h.1 a b (by omega) (by omega), fun j => h.2.1 60 j, h.2.2⟩
theorem TM.r {σ τ : St} {W : Tw} (h : TM σ W) (e : LR σ τ) : TM τ W := h.f (fun a b h1 => e.1 a b (by omega) (by omega))
theorem TbM.r {σ τ : St} {W : Tw} {k m : Nat} (h : TbM σ W k m) (e : LR σ τ) : TbM τ W k m := by
  intro h' a1 a2 f hf hb
  have := h h' a1 a2 f hf hb
  unfold Ent at this ⊢
  rw [e.1 53 _ (by omega) (by omega), e.1 54 _ (by omega) (by omega), e.1 55 _ (by omega) (by omega)]
  exact this
theorem M_fr26 {W : Tw} {c f h : Nat} (hG : Gd W) (hc : c < wC W) (hf : f < wP W) (hh : h < 2 ^ wP W) (hb : h.testBit f = true) : ∀ n m g σ, m + g = lf W (wkd W c) f h → m < n → TM σ W → TbM σ W (wkd W c) 1 → gI σ 44 24 = nI g → Rr σ 56 W (wkd W c) f h g → ∃ τ, fM_findRow_26 n σ (nI c) (nI m) (nI (sq W (wkd W c) f h g).1) (nI (sq W (wkd W c) f h g).2) = some τ ∧ LR σ τ ∧ gI τ 44 24 = nI (lf W (wkd W c) f h) ∧ Rr τ 56 W (wkd W c) f h (lf W (wkd W c) f h)
  | 0, m, g, σ, h1, h2, hM, hT, h24, hR => by omega
  | n + 1, 0, g, σ, h1, h2, hM, hT, h24, hR => by
    unfold fM_findRow_26
    rw [if_pos (show nI 0 ≤ 0 by decide)]
    have e : g = lf W (wkd W c) f h := by omega
    exact ⟨σ, rfl, LR.rf, by rw [← e]; exact h24, by rw [← e]; exact hR⟩
  | n + 1, m + 1, g, σ, h1, h2, hM, hT, h24, hR => by
    have g1 := hG.1.1
    have h7 := p27 g1
    have l1 := (lf_nI (k := wkd W c) (f := f) hG hh).2
    obtain ⟨i1, i2, i3, i4, i5, i6⟩ := sq_ok hG hf hh hb g (show g ≤ lf W (wkd W c) f h by omega)
    obtain ⟨j1, j2, -, -, -, -⟩ := sq_ok hG hf hh hb (g + 1) (show g + 1 ≤ lf W (wkd W c) f h by omega)
    obtain ⟨s1, s2⟩ := sq_s hG hf hh hb (show g < lf W (wkd W c) f h by omega)
    have e3 : (3 : Int32) * nI g = nI (3 * g) := by rw [show (3 : Int32) = nI 3 from rfl, pk_mul]
    have e31 : nI (3 * g) + (1 : Int32) = nI (3 * g + 1) := nI_add _ 1
    have e32 : nI (3 * g) + (2 : Int32) = nI (3 * g + 2) := nI_add _ 2
    unfold fM_findRow_26
    rw [if_neg (nI_nle (by omega) (by omega)), nm_def, pk_m1, show (0 : Int32) = nI 0 from rfl, M_fr36 hM hG hc hT i1 i2 (show m + 1 = _ by omega) 300 (wP W) 0 _ (by omega) (by omega) s1]
    have lr : LR σ (sI (sI (sI (sI σ 56 (3 * g) (nI (sq W (wkd W c) f h g).1)) 56 (3 * g + 1) (nI (sq W (wkd W c) f h (g + 1)).1)) 56 (3 * g + 2) (nI m)) 44 24 (nI (g + 1))) := (((LR.rf.s (by omega)).s (by omega)).s (by omega)).s (by omega)
    obtain ⟨τ, r1, r2, r3, r4⟩ := M_fr26 hG hc hf hh hb n m (g + 1) _ (by omega) (by omega) (hM.r lr) (hT.r lr) gI_s (Rr_s hR (fun j => by
      rw [gI_o (by decide), gI_sI, gI_sI, gI_sI, show lf W (wkd W c) f h - 1 - g = m by omega]
      simp only [true_and]))
    refine ⟨τ, ?_, LR.tr lr r2, r3, r4⟩
    rw [← r1, s2]
    simp (disch := omega) only [ib_t, ix_nI, nm_def, bd_some, bi_some, if_true, if_false, eq_self, nI_1, one_ne, h24, gI_o (show (44 : Nat) ≠ 56 by decide), e3, e31, e32, or_nI (h := (sq W (wkd W c) f h g).2) (p := (sq W (wkd W c) f h (g + 1)).1) (by omega) (by omega)]
/-- only the reference's tables and row differ -/
def LX (σ τ : St) : Prop := (∀ a b, ¬ (53 ≤ a ∧ a ≤ 56) → ¬ (a = 44 ∧ b = 24) → gI τ a b = gI σ a b) ∧ (∀ a b, gL τ a b = gL σ a b) ∧ (∀ j, gR τ j = gR σ j)
theorem LX.tr {σ τ υ : St} (h1 : LX σ τ) (h2 : LX τ υ) : LX σ υ := ⟨fun a b h g => (h2.1 a b h g).trans (h1.1 a b h g), fun a b => (h2.2.1 a b).trans (h1.2.1 a b), fun j => (h2.2.2 j).trans (h1.2.2 j)⟩
theorem LM.x {σ τ : St} (h : LM σ τ) : LX σ τ := ⟨fun a b x y => h.1 a b (by omega), h.2.1, h.2.2⟩
theorem LR.x {σ τ : St} (h : LR σ τ) : LX σ τ := ⟨fun a b x y => h.1 a b (by omega) (by omega), h.2.1, h.2.2⟩
theorem LX.pm {σ τ : St} (h : LX σ τ) : PM σ τ := ⟨fun a b x y z => h.1 a b (by omega) (by omega), fun j => h.2.1 60 j, h.2.2⟩
theorem M_fRow {σ : St} {W : Tw} {c : Nat} (hM : TM σ W) (hG : Gd W) (hc : c < wC W) : ∃ τ, fM_findRow σ (nI c) = some τ ∧ LX σ τ ∧ TM τ W ∧ gI τ 44 24 = nI (lfc W c) ∧ Rr τ 56 W (wkd W c) (who W c) (wha W c) (lfc W c) := by
  obtain ⟨k1, k2, k3, k4, k5⟩ := hG.2.2.2 c hc
  obtain ⟨τ1, r1, r2, r3⟩ := M_left hM hG hc
  have hM1 := hM.l r2
  have lr : LR τ1 (sI τ1 44 24 0) := LR.rf.s (by omega)
  have l6 := lfc_6 hG hc
  obtain ⟨τ, s1, s2, s3, s4⟩ := M_fr26 hG hc k3 k4 k5 300 (lfc W c) 0 (sI τ1 44 24 0) (Nat.add_zero _) (by omega) (hM1.r lr) (r3.r lr) gI_s (fun j hj => by omega)
  refine ⟨τ, ?_, LX.tr r2.x (LX.tr lr.x s2.x), (hM1.r lr).r s2, s3, s4⟩
  unfold fM_findRow
  rw [r1, bi_some, (M_its hM1 hG hc).2.2.1, bd_some, (M_its hM1 hG hc).2.2.2, bd_some, nm_def, lfc_vw hG hc]
  exact s1
theorem st_row : St_row Inv := by
  intro σ a1 a2 hI
  have hb := hI.isT
  have ht := hI.t
  obtain ⟨W, hE, hM, hG⟩ := hI.w
  have g2 := hG.1.2
  rcases (arg a1 (wC W) (by omega)).symm with ho | ⟨c, hc, rfl⟩
  · refine ⟨-1, σ, σ, ?_, ?_, hI⟩
    · unfold fE_row
      rw [if_pos hb, hc_o hE.2.1 g2 ho, if_pos rfl]
    · unfold fM_row
      rw [mc_o hM.2.1 g2 ho, if_pos rfl]
  by_cases a0 : 0 ≤ a2
  rotate_left
  · refine ⟨-1, σ, σ, ?_, ?_, hI⟩
    · unfold fE_row
      rw [if_pos hb, hc_i hE.2.1 g2 hc, if_neg one_ne, if_neg a0]
    · unfold fM_row
      rw [mc_i hM.2.1 g2 hc, if_neg one_ne, if_neg a0]
  obtain ⟨k1, k2, k3, k4, k5⟩ := hG.2.2.2 c hc
  have l6 := lfc_6 hG hc
  obtain ⟨τ1, r1, r2, r3, r4, r5, r6⟩ := E_lk (w := 0) ht rfl hE hG hc (by decide)
  rw [lfc_vw hG hc] at r1
  have hb1 : isTb (gR τ1 0) = true := isT_t ht r5
  have hM1 := hM.e r4.pe
  obtain ⟨τ2, s1, s2, s3, s4, s5⟩ := M_fRow hM1 hG hc
  have hin := hI.st r4.pe s2.pm r6 s3 hG
  obtain ⟨x1, x2, x3, x4⟩ := r6.2.2.2.2 c hc
  rcases (arg a2 (lfc W c) (by omega)).symm with ho | ⟨i, hi, rfl⟩
  · refine ⟨-3, τ1, τ2, ?_, ?_, hin⟩
    · unfold fE_row
      rw [if_pos hb, hc_i hE.2.1 g2 hc, if_neg one_ne, if_pos a0, show fE_look σ (nI c) 0 = _ from r1, bi_some, if_neg]
      rw [lt_i, nI_toInt (by omega)]
      rw [le_i, show (0 : Int32).toInt = 0 from rfl] at a0
      omega
    · unfold fM_row
      rw [mc_i hM1.2.1 g2 hc, if_neg one_ne, if_pos a0, s1, bd_some, s4, if_pos]
      rw [le_i, nI_toInt (by omega)]
      rw [le_i, show (0 : Int32).toInt = 0 from rfl] at a0
      omega
  · refine ⟨nI (sq W (wkd W c) (who W c) (wha W c) (i + 1)).1, τ1, τ2, ?_, ?_, hin⟩
    · unfold fE_row
      rw [if_pos hb, hc_i hE.2.1 g2 hc, if_neg one_ne, if_pos a0, show fE_look σ (nI c) 0 = _ from r1, bi_some, if_pos (nI_lt hi (by omega)), if_pos hb1, if_pos (ib_nI (by omega) (by omega)), nm_def, if_pos hb1, if_pos (ib_nI (by omega) (by omega)), nm_def, ix_nI (by omega), r5, x3, x4]
      exact E_row_l hG r2 r3 k3 k4 k5 hi 300 (i + 1) 0 (by omega) (by omega)
    · unfold fM_row
      rw [mc_i hM1.2.1 g2 hc, if_neg one_ne, if_pos a0, s1, bd_some, s4, if_neg (nI_ge hi (by omega)), show (3 : Int32) * nI i + 1 = nI (3 * i + 1) from nI_m3 i 1, if_pos (ib_nI (by omega) (by omega)), ix_nI (by omega), (s5 i hi).2.1]
