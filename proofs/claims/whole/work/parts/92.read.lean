/-! sets as numbers, and what the readers of a town answer -/
theorem i32_ext {x y : Int32} (h : ∀ q, q < 32 → x.toBitVec.getLsbD q = y.toBitVec.getLsbD q) : x = y := Int32.toBitVec_inj.mp (BitVec.eq_of_getLsbD_eq h)
theorem nI_or {a b : Nat} (ha : a < 2 ^ 31) (hb : b < 2 ^ 31) : nI a ||| nI b = nI (a ||| b) := by
  apply i32_ext
  intro q hq
  rw [Int32.toBitVec_or, BitVec.getLsbD_or, nI_bit ha, nI_bit hb, nI_bit (Nat.or_lt_two_pow ha hb), Nat.testBit_or]
theorem nI_and {a b : Nat} (ha : a < 2 ^ 31) (hb : b < 2 ^ 31) : nI a &&& nI b = nI (a &&& b) := by
  apply i32_ext
  intro q hq
  rw [Int32.toBitVec_and, BitVec.getLsbD_and, nI_bit ha, nI_bit hb, nI_bit (Nat.and_lt_two_pow _ hb), Nat.testBit_and]
theorem nI_xor {a b : Nat} (ha : a < 2 ^ 31) (hb : b < 2 ^ 31) : nI a ^^^ nI b = nI (a ^^^ b) := by
  apply i32_ext
  intro q hq
  rw [Int32.toBitVec_xor, BitVec.getLsbD_xor, nI_bit ha, nI_bit hb, nI_bit (Nat.xor_lt_two_pow ha hb), Nat.testBit_xor]
/-- a without b -/
def wo (a b : Nat) : Nat := a ^^^ (a &&& b)
theorem wo_bit (a b q : Nat) : (wo a b).testBit q = (a.testBit q && !b.testBit q) := by
  unfold wo
  rw [Nat.testBit_xor, Nat.testBit_and]
  cases a.testBit q <;> cases b.testBit q <;> rfl
theorem wo_lt {a b n : Nat} (ha : a < 2 ^ n) : wo a b < 2 ^ n := by
  unfold wo
  exact Nat.xor_lt_two_pow ha (Nat.lt_of_le_of_lt Nat.and_le_left ha)
theorem nI_wo {a b : Nat} (ha : a < 2 ^ 31) (hb : b < 2 ^ 31) : nI a &&& (nI b ^^^ (-1 : Int32)) = nI (wo a b) := by
  apply i32_ext
  intro q hq
  rw [Int32.toBitVec_and, BitVec.getLsbD_and, Int32.toBitVec_xor, BitVec.getLsbD_xor, nI_bit ha, nI_bit hb, nI_bit (wo_lt ha), wo_bit]
  have e : (-1 : Int32).toBitVec.getLsbD q = true := by
    show (BitVec.allOnes 32).getLsbD q = true
    rw [BitVec.getLsbD_allOnes]; simp [hq]
  rw [e]
  cases a.testBit q <;> cases b.testBit q <;> rfl
theorem sh1 : ∀ p, p < 31 → (1 : Int32) <<< (nI p &&& 31) = nI (2 ^ p) := by decide +kernel
theorem shr1 : ∀ p, p < 31 → ((nI p &&& 31).toBitVec.smod 32).toNat = p := by decide +kernel
theorem p231 {p : Nat} (h : p < 31) : 2 ^ p < 2 ^ 31 := Nat.pow_lt_pow_right (by decide) h
def b2i (b : Bool) : Int32 := if b = true then 1 else 0
theorem hold_nI {s p : Nat} (hs : s < 2 ^ 31) (hp : p < 31) : fE_holds (nI s) (nI p) = b2i (s.testBit p) := by
  unfold fE_holds b2i
  have hd : s / 2 ^ p ≤ s := Nat.div_le_self _ _
  rw [pk_shrN hs _ p (shr1 p hp), pk_andN (by omega) 1 rfl]
  have e : s.testBit p = decide (s / 2 ^ p % 2 = 1) := Nat.testBit_eq_decide_div_mod_eq
  have e2 : nI (s / 2 ^ p % 2 ^ 1) = 1 ↔ s / 2 ^ p % 2 = 1 := by
    rw [show (1 : Int32) = nI 1 from rfl, nI_eq (by omega) (by omega), Nat.pow_one]
  by_cases h : s / 2 ^ p % 2 = 1
  · rw [if_pos (e2.mpr h), e, if_pos (by simpa using h)]
  · rw [if_neg (fun z => h (e2.mp z)), e, if_neg (by simpa using h)]
theorem has_nI {s p : Nat} (hs : s < 2 ^ 31) (hp : p < 31) : fM_has (nI s) (nI p) = b2i (s.testBit p) := hold_nI hs hp
theorem b2i_0 (b : Bool) : (b2i b = 0) ↔ b = false := by cases b <;> decide
theorem b2i_01 (b : Bool) : b01 (b2i b) := by cases b <;> decide
/-- the set of those below n with f -/
def setOf : Nat → (Nat → Bool) → Nat
  | 0, _ => 0
  | n + 1, f => setOf n f ||| (if f n = true then 2 ^ n else 0)
theorem setOf_lt (f : Nat → Bool) : ∀ n, setOf n f < 2 ^ n
  | 0 => Nat.zero_lt_one
  | n + 1 => by
    have h := setOf_lt f n
    have e : 2 ^ n < 2 ^ (n + 1) := Nat.pow_lt_pow_right (by decide) (by omega)
    unfold setOf
    refine Nat.or_lt_two_pow (by omega) ?_
    by_cases g : f n = true
    · rw [if_pos g]; omega
    · rw [if_neg g]; omega
theorem setOf_bit (f : Nat → Bool) (q : Nat) : ∀ n, (setOf n f).testBit q = (decide (q < n) && f q)
  | 0 => by simp [setOf]
  | n + 1 => by
    unfold setOf
    rw [Nat.testBit_or, setOf_bit f q n]
    by_cases g : f n = true
    · rw [if_pos g, Nat.testBit_two_pow]
      by_cases h : n = q
      · subst h; simp [g]
      · have : decide (n = q) = false := by simpa using h
        rw [this, Bool.or_false]
        by_cases h2 : q < n
        · simp [h2, show q < n + 1 by omega]
        · simp [h2, show ¬ q < n + 1 by omega]
    · rw [if_neg g, Nat.zero_testBit, Bool.or_false]
      by_cases h : q = n
      · subst h; simp at g; simp [g]
      · by_cases h2 : q < n
        · simp [h2, show q < n + 1 by omega]
        · simp [h2, show ¬ q < n + 1 by omega]
theorem nat_ext {a b : Nat} (h : ∀ q, a.testBit q = b.testBit q) : a = b := Nat.eq_of_testBit_eq h
theorem setOf_wo (f : Nat → Bool) (n h : Nat) : wo (setOf n f) h = setOf n (fun q => f q && !h.testBit q) := by
  apply nat_ext
  intro q
  rw [wo_bit, setOf_bit, setOf_bit, Bool.and_assoc]
/-- the worth of a coin -/
def wth (k a : Nat) : Nat := if k = 1 then a / 2 else if k = 2 then 2 * a else if k = 3 then (if a / 2 < 10 then 0 else a / 2) else if k = 4 then 2 * a + 3 else if k = 5 then a - 1 else a
theorem wth_lt {k a : Nat} (h : a < 100) : wth k a < 202 := by
  unfold wth
  repeat' split
  all_goals omega
def allow (W : Tw) (k f to : Nat) : Bool := if k = 2 then (wkn W f).testBit to && decide (wrk W f ≤ wrk W to) else if k = 3 then (wkn W f).testBit to && decide (wrk W to < 5) else if k = 4 then (wkn W f).testBit to && (decide (wrk W f ≤ wrk W to) || decide (wrk W to = 0)) else if k = 5 then true else (wkn W f).testBit to
/-- who may be given a coin of kind k, by f, that h had -/
def tkr (W : Tw) (k f h : Nat) : Nat := setOf (wP W) (fun q => allow W k f q && !h.testBit q)
def tkc (W : Tw) (c : Nat) : Nat := tkr W (wkd W c) (who W c) (wha W c)
theorem kd6 {k : Nat} (h : k < 6) : k = 0 ∨ k = 1 ∨ k = 2 ∨ k = 3 ∨ k = 4 ∨ k = 5 := by omega
theorem E_worth {σ : St} {t c : Nat} {W : Tw} (hE : TE σ t W) (hG : Gd W) (hc : c < wC W) : fT_worth σ t (nI c) = some (nI (wth (wkd W c) (wav W c))) := by
  obtain ⟨-, -, -, -, a5⟩ := hE
  obtain ⟨⟨g1, g2⟩, -, -, g5⟩ := hG
  obtain ⟨k1, ⟨k2, k3⟩, -⟩ := g5 c hc
  obtain ⟨w1, w2, -⟩ := a5 c hc
  have e2 : nI (wav W c) / (2 : Int32) = nI (wav W c / 2) := pk_div (d := 2) (by omega) (by decide) (by decide)
  have m2 : (2 : Int32) * nI (wav W c) = nI (2 * wav W c) := pk_mul 2 _
  have s1 : nI (wav W c) - (1 : Int32) = nI (wav W c - 1) := pk_sub (b := 1) k2
  unfold fT_worth
  simp (disch := omega) only [ib_t, ix_nI, nm_def, bd_some, bi_some, if_true, if_false, eq_self, nI_1, one_ne, w1, w2, e2, m2, s1]
  generalize wav W c = a at *
  generalize wkd W c = k at *
  unfold wth
  rcases kd6 k1 with rfl | rfl | rfl | rfl | rfl | rfl
  · rfl
  · rfl
  · rfl
  · show some (if (10 : Int32) ≤ nI (a / 2) then nI (a / 2) else 0) = some (nI (if a / 2 < 10 then 0 else a / 2))
    by_cases h : a / 2 < 10
    · rw [if_neg (show ¬ (10 : Int32) ≤ nI (a / 2) from nI_ge (b := 10) h (by decide)), if_pos h]; rfl
    · rw [if_pos (show (10 : Int32) ≤ nI (a / 2) from nI_le (a := 10) (by omega) (by omega)), if_neg h]
  · show some (nI (2 * a) + (3 : Int32)) = some (nI (2 * a + 3))
    exact congrArg some (nI_add _ 3)
  · rfl
theorem M_its {σ : St} {c : Nat} {W : Tw} (hM : TM σ W) (hG : Gd W) (hc : c < wC W) : fM_its σ (nI c) 0 = some (nI (wkd W c)) ∧ fM_its σ (nI c) 1 = some (nI (wav W c)) ∧ fM_its σ (nI c) 2 = some (nI (who W c)) ∧ fM_its σ (nI c) 3 = some (nI (wha W c)) := by
  obtain ⟨-, -, -, -, a5⟩ := hM
  obtain ⟨⟨g1, g2⟩, -, -, -⟩ := hG
  obtain ⟨w1, w2, w3, w4⟩ := a5 c hc
  have e0 : (4 : Int32) * nI c + 0 = nI (4 * c) := nI_m4 c 0
  have e1 : (4 : Int32) * nI c + 1 = nI (4 * c + 1) := nI_m4 c 1
  have e2 : (4 : Int32) * nI c + 2 = nI (4 * c + 2) := nI_m4 c 2
  have e3 : (4 : Int32) * nI c + 3 = nI (4 * c + 3) := nI_m4 c 3
  unfold fM_its
  refine ⟨?_, ?_, ?_, ?_⟩
  · rw [e0]; simp (disch := omega) only [ib_t, ix_nI, nm_def, bd_some, bi_some, if_true, if_false, eq_self, nI_1, one_ne, w1]
  · rw [e1]; simp (disch := omega) only [ib_t, ix_nI, nm_def, bd_some, bi_some, if_true, if_false, eq_self, nI_1, one_ne, w2]
  · rw [e2]; simp (disch := omega) only [ib_t, ix_nI, nm_def, bd_some, bi_some, if_true, if_false, eq_self, nI_1, one_ne, w3]
  · rw [e3]; simp (disch := omega) only [ib_t, ix_nI, nm_def, bd_some, bi_some, if_true, if_false, eq_self, nI_1, one_ne, w4]
theorem M_worth {σ : St} {c : Nat} {W : Tw} (hM : TM σ W) (hG : Gd W) (hc : c < wC W) : fM_worth σ (nI c) = some (nI (wth (wkd W c) (wav W c))) := by
  obtain ⟨i0, i1, -, -⟩ := M_its hM hG hc
  obtain ⟨⟨g1, g2⟩, -, -, g5⟩ := hG
  obtain ⟨k1, ⟨k2, k3⟩, -⟩ := g5 c hc
  have e2 : nI (wav W c) / (2 : Int32) = nI (wav W c / 2) := pk_div (d := 2) (by omega) (by decide) (by decide)
  have m2 : (2 : Int32) * nI (wav W c) = nI (2 * wav W c) := pk_mul 2 _
  have s1 : nI (wav W c) - (1 : Int32) = nI (wav W c - 1) := pk_sub (b := 1) k2
  unfold fM_worth
  simp (disch := omega) only [ib_t, ix_nI, nm_def, bd_some, bi_some, if_true, if_false, eq_self, nI_1, one_ne, i0, i1, e2, m2, s1]
  generalize wav W c = a at *
  generalize wkd W c = k at *
  unfold wth
  rcases kd6 k1 with rfl | rfl | rfl | rfl | rfl | rfl
  · rfl
  · rfl
  · rfl
  · show (if (10 : Int32) ≤ nI (a / 2) then some (nI (a / 2)) else some 0) = some (nI (if a / 2 < 10 then 0 else a / 2))
    by_cases h : a / 2 < 10
    · rw [if_neg (show ¬ (10 : Int32) ≤ nI (a / 2) from nI_ge (b := 10) h (by decide)), if_pos h]; rfl
    · rw [if_pos (show (10 : Int32) ≤ nI (a / 2) from nI_le (a := 10) (by omega) (by omega)), if_neg h]
  · show some (nI (2 * a) + (3 : Int32)) = some (nI (2 * a + 3))
    exact congrArg some (nI_add _ 3)
  · rfl
theorem E_allow {σ : St} {t c f to : Nat} {W : Tw} (hE : TE σ t W) (hG : Gd W) (hc : c < wC W) (hf : f < wP W) (hto : to < wP W) : fT_kindAllows σ t (nI c) (nI f) (nI to) = some (b2i (allow W (wkd W c) f to)) := by
  obtain ⟨-, -, -, a4, a5⟩ := hE
  obtain ⟨⟨g1, g2⟩, g3, -, g5⟩ := hG
  obtain ⟨k1, -, -⟩ := g5 c hc
  obtain ⟨w1, -⟩ := a5 c hc
  obtain ⟨f1, -, f3⟩ := a4 f hf
  obtain ⟨t1, -, -⟩ := a4 to hto
  have h7 := p27 g1
  have hk := (g3 f hf).2.1
  have hr := (g3 f hf).1
  have hr2 := (g3 to hto).1
  unfold fT_kindAllows
  simp (disch := omega) only [ib_t, ix_nI, nm_def, bd_some, bi_some, if_true, if_false, eq_self, nI_1, one_ne, w1, f1, f3, t1, hold_nI (s := wkn W f) (p := to) (by omega) (by omega), b2i_01]
  unfold allow
  generalize wkd W c = k at *
  generalize wrk W f = r at *
  generalize wrk W to = r2 at *
  have c1 : (nI r2 < nI r) ↔ ¬ r ≤ r2 := by rw [nI_ltI (by omega) (by omega)]; omega
  have c2 : ((5 : Int32) ≤ nI r2) ↔ ¬ r2 < 5 := by rw [show (5 : Int32) = nI 5 from rfl, nI_leI (by omega) (by omega)]; omega
  have c3 : (nI r ≤ nI r2) ↔ r ≤ r2 := nI_leI (by omega) (by omega)
  have c4 : (nI r2 = 0) ↔ r2 = 0 := nI_eq (b := 0) (by omega) (by omega)
  rcases kd6 k1 with rfl | rfl | rfl | rfl | rfl | rfl
  · rfl
  · rfl
  · show (if b2i ((wkn W f).testBit to) = 0 then some 0 else some (if nI r2 < nI r then 0 else 1)) = some (b2i ((wkn W f).testBit to && decide (r ≤ r2)))
    simp only [c1]
    cases (wkn W f).testBit to <;> by_cases h : r ≤ r2 <;> simp [b2i, h]
  · show (if b2i ((wkn W f).testBit to) = 0 then some 0 else some (if (5 : Int32) ≤ nI r2 then 0 else 1)) = some (b2i ((wkn W f).testBit to && decide (r2 < 5)))
    simp only [c2]
    cases (wkn W f).testBit to <;> by_cases h : r2 < 5 <;> simp [b2i, h]
  · show (if b2i ((wkn W f).testBit to) = 0 then some 0 else if nI r ≤ nI r2 then some 1 else some (if nI r2 = 0 then 1 else 0)) = some (b2i ((wkn W f).testBit to && (decide (r ≤ r2) || decide (r2 = 0))))
    simp only [c3, c4]
    cases (wkn W f).testBit to <;> by_cases h : r ≤ r2 <;> by_cases h2 : r2 = 0 <;> simp [b2i, h, h2]
  · rfl
theorem M_may {σ : St} {k f h to : Nat} {W : Tw} (hM : TM σ W) (hG : Gd W) (k1 : k < 6) (hf : f < wP W) (hh : h < 2 ^ wP W) (hto : to < wP W) : fM_mayBe σ (nI k) (nI f) (nI h) (nI to) = some (b2i (allow W k f to && !h.testBit to)) := by
  obtain ⟨-, -, -, a4, -⟩ := hM
  obtain ⟨⟨g1, g2⟩, g3, -, -⟩ := hG
  obtain ⟨f1, -, f3⟩ := a4 f hf
  obtain ⟨t1, -, -⟩ := a4 to hto
  have h7 := p27 g1
  have hk := (g3 f hf).2.1
  have hr := (g3 f hf).1
  have hr2 := (g3 to hto).1
  unfold fM_mayBe fM_mayBe_27 fM_mayBe_28
  simp (disch := omega) only [ib_t, ix_nI, nm_def, bd_some, bi_some, if_true, if_false, eq_self, nI_1, one_ne, f1, f3, t1, has_nI (s := wkn W f) (p := to) (by omega) (by omega), has_nI (s := h) (p := to) (by omega) (by omega)]
  unfold allow
  generalize wrk W f = r at *
  generalize wrk W to = r2 at *
  have c1 : (nI r2 < nI r) ↔ ¬ r ≤ r2 := by rw [nI_ltI (by omega) (by omega)]; omega
  have c2 : ((5 : Int32) ≤ nI r2) ↔ ¬ r2 < 5 := by rw [show (5 : Int32) = nI 5 from rfl, nI_leI (by omega) (by omega)]; omega
  have c3 : (nI r ≤ nI r2) ↔ r ≤ r2 := nI_leI (by omega) (by omega)
  have c4 : (nI r2 = 0) ↔ r2 = 0 := nI_eq (b := 0) (by omega) (by omega)
  have d2 : (nI k = 2) ↔ k = 2 := nI_eq (b := 2) (by omega) (by omega)
  have d3 : (nI k = 3) ↔ k = 3 := nI_eq (b := 3) (by omega) (by omega)
  have d4 : (nI k = 4) ↔ k = 4 := nI_eq (b := 4) (by omega) (by omega)
  have d5 : (nI k = 5) ↔ k = 5 := nI_eq (b := 5) (by omega) (by omega)
  simp only [c1, c2, c3, c4, d2, d3, d4, d5]
  clear c1 c2 c3 c4 d2 d3 d4 d5 hh f3 f1 t1 hk hr hr2
  rcases kd6 k1 with rfl | rfl | rfl | rfl | rfl | rfl <;> cases h.testBit to <;> cases (wkn W f).testBit to
  all_goals first | rfl | (by_cases h : r ≤ r2 <;> by_cases h2 : r2 = 0 <;> by_cases h3 : r2 < 5 <;> simp [b2i, h, h2, h3])
