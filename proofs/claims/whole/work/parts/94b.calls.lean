/-! heir and paid -/
def o1 (x : Option (Nat × Nat)) : Int32 := match x with | none => -3 | some w => nI w.1
def o2 (x : Option (Nat × Nat)) (d : Int32) : Int32 := match x with | none => d | some w => nI w.2
theorem giv_lt {W : Tw} (g2 : wC W ≤ 6) (p to : Nat) : giv W p to < 2 ^ 6 := by
  have := setOf_lt (fun c => decide (who W c = p) && (tkc W c).testBit to) (wC W)
  have h2 : 2 ^ wC W ≤ 2 ^ 6 := Nat.pow_le_pow_right (by decide) g2
  unfold giv; omega
theorem heir_l {σ : St} {W : Tw} {p : Nat} {a2 : Int32} (hb : isTb (gR σ 0) = true) (hE : TE σ (gR σ 0) W) (hM : TM σ W) (hG : Gd W) (hp : p < wP W) : ∀ n i x, (∀ w, x = some w → w.1 < 8 ∧ w.2 < 2000) → i ≤ wP W → wP W < n + i → ∃ v, fE_heir_32 n σ (nI p) a2 (o1 x) (o2 x (-3)) (nI i) = some v ∧ fM_heir_26 n σ (nI p) a2 (o1 x) (o2 x (-1)) (nI i) = some v
  | 0, i, x, hx, h1, h2 => by omega
  | n + 1, i, x, hx, h1, h2 => by
    have g1 := hG.1.1
    have g2 := hG.1.2
    unfold fE_heir_32 fM_heir_26
    rw [if_pos hb, hE.1, hM.1]
    by_cases h : i = wP W
    · rw [if_pos (by rw [h]; exact Int32.le_refl _), if_pos (by rw [h]; exact Int32.le_refl _)]
      unfold fE_heir_95 fM_heir_77
      refine ⟨_, rfl, ?_⟩
      cases x with
      | none =>
        show some (if (-3 : Int32) < 0 then (-3 : Int32) else if a2 = 0 then -3 else -1) = some (if a2 = 0 then -3 else -3)
        rw [if_pos (by decide)]
        by_cases g : a2 = 0
        · rw [if_pos g]
        · rw [if_neg g]
      | some w =>
        have hw := hx w rfl
        show some (if nI w.1 < 0 then nI w.1 else if a2 = 0 then nI w.1 else nI w.2) = some (if a2 = 0 then nI w.1 else nI w.2)
        rw [if_neg (nI_pos (by omega))]
    · rw [if_neg (nI_ge (by omega) (by omega)), if_neg (nI_ge (by omega) (by omega)), if_pos hb, E_giv hE hG hp (by omega), M_giv hM hG hp (by omega), bd_some, bd_some]
      have hl := giv_lt g2 p i
      by_cases g : giv W p i = 0
      · rw [if_pos (by rw [g]; rfl), if_pos (by rw [g]; rfl), nm_def, nm_def, nI_1]
        exact heir_l (a2 := a2) hb hE hM hG hp n (i + 1) x hx (by omega) (by omega)
      · have gn : ¬ nI (giv W p i) = 0 := fun z => g ((nI_eq (b := 0) (by omega) (by omega)).mp z)
        have hw := sw_lt hG (giv W p i) (wC W) (by omega)
        rw [if_neg gn, if_neg gn, if_pos hb, E_sw hE hG (by omega), M_sw hM hG (by omega), bd_some, bd_some, if_pos hb, bd_some, bd_some, nm_def, nm_def, nm_def, nm_def, nI_1]
        have iha := heir_l (a2 := a2) hb hE hM hG hp n (i + 1) (some (i, sw W (giv W p i) (wC W))) (fun w hw2 => by cases hw2; exact ⟨by omega, by omega⟩) (by omega) (by omega)
        cases x with
        | none =>
          have e1 : ¬ nI (sw W (giv W p i) (wC W)) ≤ o2 none (-3) := by
            rw [le_i, nI_toInt (by omega), show (o2 none (-3)).toInt = -3 from rfl]; omega
          have e2 : ¬ nI (sw W (giv W p i) (wC W)) ≤ o2 none (-1) := by
            rw [le_i, nI_toInt (by omega), show (o2 none (-1)).toInt = -1 from rfl]; omega
          rw [if_neg e1, if_neg e2]
          exact iha
        | some w =>
          have ihb := heir_l (a2 := a2) hb hE hM hG hp n (i + 1) (some w) hx (by omega) (by omega)
          by_cases q : nI (sw W (giv W p i) (wC W)) ≤ nI w.2
          · rw [if_pos (show _ ≤ o2 (some w) (-3) from q), if_pos (show _ ≤ o2 (some w) (-1) from q)]; exact ihb
          · rw [if_neg (show ¬ _ ≤ o2 (some w) (-3) from q), if_neg (show ¬ _ ≤ o2 (some w) (-1) from q)]; exact iha
theorem in_01 (v : Int32) : (fM_in v 0 1 = 1 ∧ ∃ j, j < 2 ∧ v = nI j) ∨ fM_in v 0 1 = 0 := by
  rcases in_ex v 0 1 (by omega) (by omega) with ⟨h, j, -, h2, h3⟩ | h
  · exact Or.inl ⟨h, j, by omega, h3⟩
  · exact Or.inr h
/-- the class's own test of a range -/
theorem rng_o {v : Int32} {m : Nat} {α : Type} {x y : α} (hm : m < 1000) (h : fM_in v 0 (nI m) = 0) : (if v < 0 then x else if v ≤ nI m then y else x) = x := by
  have h2 := in_zero h
  rw [show (0 : Int32).toInt = 0 from rfl, nI_toInt (by omega)] at h2
  by_cases g : v < 0
  · rw [if_pos g]
  · rw [if_neg g, if_neg]
    rw [lt_i, show (0 : Int32).toInt = 0 from rfl] at g
    rw [le_i, nI_toInt (by omega)]
    omega
theorem rng_i {j m : Nat} {α : Type} {x y : α} (hm : m < 1000) (h : j ≤ m) : (if nI j < 0 then x else if nI j ≤ nI m then y else x) = y := by
  rw [if_neg (nI_pos (by omega)), if_pos (nI_le h (by omega))]
theorem st_heir : St_heir Inv := by
  intro σ a1 a2 hI
  have hb := hI.isT
  obtain ⟨W, hE, hM, hG⟩ := hI.w
  have g1 := hG.1.1
  have g2 := hG.1.2
  rcases (arg a1 (wP W) (by omega)).symm with ho | ⟨p, hp, rfl⟩
  · refine ⟨-1, σ, σ, ⟨?_, rfl⟩, ⟨?_, rfl⟩, hI⟩
    · unfold fE_heir
      rw [if_pos hb, hp_o hE.1 g1 ho, if_pos rfl]
    · unfold fM_heir
      rw [mp_o hM.1 g1 ho, if_pos rfl]
  rcases (in_01 a2).symm with ho | ⟨hin, j, hj, rfl⟩
  · refine ⟨-1, σ, σ, ⟨?_, rfl⟩, ⟨?_, rfl⟩, hI⟩
    · unfold fE_heir
      rw [if_pos hb, hp_i hE.1 g1 hp, if_neg one_ne]
      exact rng_o (m := 1) (by omega) ho
    · unfold fM_heir fM_isSide
      rw [mp_i hM.1 g1 hp, if_neg one_ne, ho, if_pos rfl]
  obtain ⟨v, e1, e2⟩ := heir_l (a2 := nI j) hb hE hM hG hp 300 0 none (fun w hw => by cases hw) (by omega) (by omega)
  refine ⟨v, σ, σ, ⟨?_, rfl⟩, ⟨?_, rfl⟩, hI⟩
  · unfold fE_heir
    rw [if_pos hb, hp_i hE.1 g1 hp, if_neg one_ne]
    exact (rng_i (m := 1) (by omega) (by omega)).trans e1
  · unfold fM_heir fM_isSide
    rw [mp_i hM.1 g1 hp, if_neg one_ne, hin, if_neg one_ne]
    exact e2
theorem pc_6 : ∀ s, s < 64 → pc s < 7 := by decide +kernel
def q1 (x : Option Nat) : Int32 := match x with | none => -3 | some s => nI s
def q2 (x : Option Nat) : Int32 := match x with | none => 7 | some s => nI (pc s)
theorem paid_l {σ : St} {W : Tw} {can : Nat} {sum : Int32} (hb : isTb (gR σ 0) = true) (hE : TE σ (gR σ 0) W) (hM : TM σ W) (hG : Gd W) (hcan : can < 64) : ∀ n i x, (∀ s, x = some s → s < 64) → i ≤ 2 ^ wC W → 2 ^ wC W < n + i → ∃ v, fE_paid_62 n σ sum (nI can) (q1 x) (q2 x) (nI i) = some v ∧ fM_paid_49 n σ sum (nI can) (q1 x) (nI i) = some v
  | 0, i, x, hx, h1, h2 => by omega
  | n + 1, i, x, hx, h1, h2 => by
    have g1 := hG.1.1
    have g2 := hG.1.2
    have hC : 2 ^ wC W ≤ 2 ^ 6 := Nat.pow_le_pow_right (by decide) g2
    unfold fE_paid_62 fM_paid_49
    rw [if_pos hb, hE.2.1, hM.2.1, sh1 _ (by omega)]
    by_cases h : i = 2 ^ wC W
    · rw [if_pos (by rw [h]; exact Int32.le_refl _), if_pos (by rw [h]; exact Int32.le_refl _)]
      exact ⟨_, rfl, rfl⟩
    · rw [if_neg (nI_ge (by omega) (by omega)), if_neg (nI_ge (by omega) (by omega))]
      have ihx := paid_l (sum := sum) hb hE hM hG hcan n (i + 1) x hx (by omega) (by omega)
      have ihi := paid_l (sum := sum) hb hE hM hG hcan n (i + 1) (some i) (fun s hs => by cases hs; omega) (by omega) (by omega)
      have hpi := pc_6 i (by omega)
      by_cases g : (nI i &&& (nI can ^^^ (-1 : Int32))) = 0
      · rw [if_pos g, if_pos g, M_sw hM hG (by omega), bd_some, bc_nI i (by omega), if_pos hb, E_sw hE hG (by omega), bd_some]
        simp only [nm_def, nI_1]
        by_cases gs : nI (sw W i (wC W)) = sum
        · rw [if_pos gs, if_pos gs]
          cases x with
          | none =>
            have e1 : ¬ q2 none ≤ nI (pc i) := nI_ge (b := 7) hpi (by decide)
            rw [if_neg e1, if_pos (show q1 none < 0 by decide)]
            exact ihi
          | some s =>
            have hs := hx s rfl
            have e1 : ¬ q1 (some s) < 0 := nI_pos (n := s) (by omega)
            rw [if_neg e1, M_ones (show i < 128 by omega), bd_some, show q1 (some s) = nI s from rfl, M_ones (show s < 128 by omega), bd_some, show q2 (some s) = nI (pc s) from rfl]
            by_cases gp : nI (pc s) ≤ nI (pc i)
            · rw [if_pos gp, if_pos gp]; exact ihx
            · rw [if_neg gp, if_neg gp]; exact ihi
        · rw [if_neg gs, if_neg gs]
          by_cases gp : q2 x ≤ nI (pc i)
          · rw [if_pos gp]; exact ihx
          · rw [if_neg gp]; exact ihx
      · rw [if_neg g, if_neg g, nm_def, nm_def, nI_1]
        exact ihx
theorem in_999 (v : Int32) : (fM_in v 0 999 = 1 ∧ ∃ j, j < 1000 ∧ v = nI j) ∨ fM_in v 0 999 = 0 := by
  rcases in_ex v 0 999 (by omega) (by omega) with ⟨h, j, -, h2, h3⟩ | h
  · exact Or.inl ⟨h, j, by omega, h3⟩
  · exact Or.inr h
theorem st_paid : St_paid Inv := by
  intro σ a1 a2 a3 hI
  have hb := hI.isT
  obtain ⟨W, hE, hM, hG⟩ := hI.w
  have g1 := hG.1.1
  have g2 := hG.1.2
  have hC : 2 ^ wC W ≤ 2 ^ 6 := Nat.pow_le_pow_right (by decide) g2
  rcases (arg a1 (wP W) (by omega)).symm with ho | ⟨p, hp, rfl⟩
  · refine ⟨-1, σ, σ, ⟨?_, rfl⟩, ⟨?_, rfl⟩, hI⟩
    · unfold fE_paid
      rw [if_pos hb, hp_o hE.1 g1 ho, if_pos rfl]
    · unfold fM_paid
      rw [mp_o hM.1 g1 ho, if_pos rfl]
  rcases (arg a2 (wP W) (by omega)).symm with ho | ⟨q, hq, rfl⟩
  · refine ⟨-1, σ, σ, ⟨?_, rfl⟩, ⟨?_, rfl⟩, hI⟩
    · unfold fE_paid
      rw [if_pos hb, hp_i hE.1 g1 hp, if_neg one_ne, if_pos hb, hp_o hE.1 g1 ho, if_pos rfl]
    · unfold fM_paid
      rw [mp_i hM.1 g1 hp, if_neg one_ne, mp_o hM.1 g1 ho, if_pos rfl]
  by_cases hpq : nI p = nI q
  · refine ⟨-1, σ, σ, ⟨?_, rfl⟩, ⟨?_, rfl⟩, hI⟩
    · unfold fE_paid
      rw [if_pos hb, hp_i hE.1 g1 hp, if_neg one_ne, if_pos hb, hp_i hE.1 g1 hq, if_neg one_ne, if_pos hpq]
    · unfold fM_paid
      rw [mp_i hM.1 g1 hp, if_neg one_ne, mp_i hM.1 g1 hq, if_neg one_ne, if_pos hpq]
  rcases (in_999 a3).symm with ho | ⟨hin, j, hj, rfl⟩
  · refine ⟨-1, σ, σ, ⟨?_, rfl⟩, ⟨?_, rfl⟩, hI⟩
    · unfold fE_paid
      rw [if_pos hb, hp_i hE.1 g1 hp, if_neg one_ne, if_pos hb, hp_i hE.1 g1 hq, if_neg one_ne, if_neg hpq]
      exact rng_o (m := 999) (by omega) ho
    · unfold fM_paid
      rw [mp_i hM.1 g1 hp, if_neg one_ne, mp_i hM.1 g1 hq, if_neg one_ne, if_neg hpq, ho, if_pos rfl]
  obtain ⟨v, e1, e2⟩ := paid_l (sum := nI j) hb hE hM hG (giv_lt g2 p q) 300 0 none (fun w hw => by cases hw) (Nat.zero_le _) (by omega)
  refine ⟨v, σ, σ, ⟨?_, rfl⟩, ⟨?_, rfl⟩, hI⟩
  · unfold fE_paid
    rw [if_pos hb, hp_i hE.1 g1 hp, if_neg one_ne, if_pos hb, hp_i hE.1 g1 hq, if_neg one_ne, if_neg hpq, if_pos hb, E_giv hE hG hp hq, bd_some]
    exact (rng_i (m := 999) (by omega) (by omega)).trans e1
  · unfold fM_paid
    rw [mp_i hM.1 g1 hp, if_neg one_ne, mp_i hM.1 g1 hq, if_neg one_ne, if_neg hpq, hin, if_neg one_ne, M_giv hM hG hp hq, bd_some]
    exact e2
