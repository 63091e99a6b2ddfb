/-! loops that gather a set -/
theorem so_1 {i : Nat} (hi : i < 31) (f : Nat → Bool) : nI (setOf i f) ||| (if b2i (f i) = 0 then (0 : Int32) else (1 : Int32) <<< (nI i &&& 31)) = nI (setOf (i + 1) f) := by
  have h1 := setOf_lt f i
  have h2 := p231 hi
  rw [sh1 i hi]
  show _ = nI (setOf i f ||| (if f i = true then 2 ^ i else 0))
  cases h : f i
  · rw [if_pos (show b2i false = 0 from rfl), if_neg (by decide)]
    exact nI_or (b := 0) (by omega) (by omega)
  · rw [if_neg (show ¬ b2i true = 0 by decide), if_pos rfl]
    exact nI_or (by omega) h2
theorem so_2 {i : Nat} (hi : i < 31) (f : Nat → Bool) {Q : Prop} (d : Decidable Q) (e : Q ↔ f i = true) : nI (setOf i f) ||| (if Q then (1 : Int32) <<< (nI i &&& 31) else (0 : Int32)) = nI (setOf (i + 1) f) := by
  rw [← so_1 hi f]
  congr 1
  by_cases h : Q
  · rw [if_pos h, e.mp h, if_neg (by decide)]
  · have h2 : f i = false := by
      cases hf : f i
      · rfl
      · exact absurd (e.mpr hf) h
    rw [if_neg h, h2, if_pos (show b2i false = 0 from rfl)]
theorem E_reach_l {σ : St} {t c f : Nat} {W : Tw} (hE : TE σ t W) (hG : Gd W) (hc : c < wC W) (hf : f < wP W) : ∀ n i, i ≤ wP W → wP W < n + i → fT_reach_5 n σ t (nI c) (nI f) (nI (setOf i (allow W (wkd W c) f))) (nI i) = some (nI (setOf (wP W) (allow W (wkd W c) f)))
  | 0, i, h1, h2 => by omega
  | n + 1, i, h1, h2 => by
    have g1 := hG.1.1
    unfold fT_reach_5
    rw [hE.1]
    by_cases h : i = wP W
    · rw [if_pos (by rw [h]; exact Int32.le_refl _), h]
    · rw [if_neg (nI_ge (by omega) (by omega)), E_allow hE hG hc hf (by omega), bd_some, nm_def, nm_def, so_1 (by omega), nI_1]
      exact E_reach_l hE hG hc hf n (i + 1) (by omega) (by omega)
theorem E_reach {σ : St} {t c f : Nat} {W : Tw} (hE : TE σ t W) (hG : Gd W) (hc : c < wC W) (hf : f < wP W) : fT_reach σ t (nI c) (nI f) = some (nI (setOf (wP W) (allow W (wkd W c) f))) := E_reach_l hE hG hc hf 300 0 (by omega) (by have := hG.1.1; omega)
theorem s31 {P : Nat} (h : P ≤ 7) {s : Nat} (hs : s < 2 ^ P) : s < 2 ^ 31 := by have := p27 h; omega
theorem E_takers {σ : St} {t c : Nat} {W : Tw} (hE : TE σ t W) (hG : Gd W) (hc : c < wC W) : fT_takers σ t (nI c) = some (nI (tkc W c)) := by
  obtain ⟨w1, w2, w3, w4⟩ := hE.2.2.2.2 c hc
  obtain ⟨k1, k2, k3, k4, k5⟩ := hG.2.2.2 c hc
  have g1 := hG.1.1
  have g2 := hG.1.2
  unfold fT_takers
  simp (disch := omega) only [ib_t, ix_nI, nm_def, bd_some, bi_some, if_true, if_false, eq_self, nI_1, one_ne, w3, w4, E_reach hE hG hc k3, nI_wo (s31 g1 (setOf_lt _ _)) (s31 g1 k4), setOf_wo]
  rfl
theorem M_mayNow {σ : St} {c to : Nat} {W : Tw} (hM : TM σ W) (hG : Gd W) (hc : c < wC W) (hto : to < wP W) : fM_mayNow σ (nI c) (nI to) = some (b2i (allow W (wkd W c) (who W c) to && !(wha W c).testBit to)) := by
  obtain ⟨k1, k2, k3, k4, k5⟩ := hG.2.2.2 c hc
  obtain ⟨i0, i1, i2, i3⟩ := M_its hM hG hc
  unfold fM_mayNow
  simp (disch := omega) only [ib_t, ix_nI, nm_def, bd_some, bi_some, if_true, if_false, eq_self, nI_1, one_ne, i0, i2, i3, M_may hM hG k1 k3 k4 hto, b2i_01]
theorem M_mayAll_l {σ : St} {c : Nat} {W : Tw} (hM : TM σ W) (hG : Gd W) (hc : c < wC W) : ∀ n i, i ≤ wP W → wP W < n + i → fM_mayAll_4 n σ (nI c) (nI (setOf i (fun q => allow W (wkd W c) (who W c) q && !(wha W c).testBit q))) (nI i) = some (nI (tkc W c))
  | 0, i, h1, h2 => by omega
  | n + 1, i, h1, h2 => by
    have g1 := hG.1.1
    unfold fM_mayAll_4
    rw [hM.1]
    by_cases h : i = wP W
    · rw [if_pos (by rw [h]; exact Int32.le_refl _), h]; rfl
    · rw [if_neg (nI_ge (by omega) (by omega)), M_mayNow hM hG hc (by omega), bd_some, nm_def, nm_def, so_1 (f := fun q => allow W (wkd W c) (who W c) q && !(wha W c).testBit q) (by omega), nI_1]
      exact M_mayAll_l hM hG hc n (i + 1) (by omega) (by omega)
theorem M_mayAll {σ : St} {c : Nat} {W : Tw} (hM : TM σ W) (hG : Gd W) (hc : c < wC W) : fM_mayAll σ (nI c) = some (nI (tkc W c)) := M_mayAll_l hM hG hc 300 0 (by omega) (by have := hG.1.1; omega)
def purse (W : Tw) (p : Nat) : Nat := setOf (wC W) (fun c => decide (who W c = p))
theorem E_purse_l {σ : St} {t p : Nat} {W : Tw} (hE : TE σ t W) (hG : Gd W) (hp : p < wP W) : ∀ n i, i ≤ wC W → wC W < n + i → fT_purse_4 n σ t (nI p) (nI (setOf i (fun c => decide (who W c = p)))) (nI i) = some (nI (purse W p))
  | 0, i, h1, h2 => by omega
  | n + 1, i, h1, h2 => by
    have g1 := hG.1.1
    have g2 := hG.1.2
    unfold fT_purse_4
    rw [hE.2.1]
    by_cases h : i = wC W
    · rw [if_pos (by rw [h]; exact Int32.le_refl _), h]; rfl
    · have k3 := (hG.2.2.2 i (by omega)).2.2.1
      rw [if_neg (nI_ge (by omega) (by omega)), if_pos (ib_nI (by omega) (by omega)), ix_nI (by omega), (hE.2.2.2.2 i (by omega)).2.2.1, nm_def, nm_def, so_2 (f := fun c => decide (who W c = p)) (by omega) _ (by rw [nI_eq (by omega) (by omega)]; simp), nI_1]
      exact E_purse_l hE hG hp n (i + 1) (by omega) (by omega)
theorem E_purse {σ : St} {t p : Nat} {W : Tw} (hE : TE σ t W) (hG : Gd W) (hp : p < wP W) : fT_purse σ t (nI p) = some (nI (purse W p)) := E_purse_l hE hG hp 300 0 (by omega) (by have := hG.1.2; omega)
theorem M_purse_l {σ : St} {p : Nat} {W : Tw} (hM : TM σ W) (hG : Gd W) (hp : p < wP W) : ∀ n i, i ≤ wC W → wC W < n + i → fM_heldBy_4 n σ (nI p) (nI (setOf i (fun c => decide (who W c = p)))) (nI i) = some (nI (purse W p))
  | 0, i, h1, h2 => by omega
  | n + 1, i, h1, h2 => by
    have g1 := hG.1.1
    have g2 := hG.1.2
    unfold fM_heldBy_4
    rw [hM.2.1]
    by_cases h : i = wC W
    · rw [if_pos (by rw [h]; exact Int32.le_refl _), h]; rfl
    · have k3 := (hG.2.2.2 i (by omega)).2.2.1
      rw [if_neg (nI_ge (by omega) (by omega)), (M_its hM hG (show i < wC W by omega)).2.2.1, bd_some, nm_def, nm_def, so_2 (f := fun c => decide (who W c = p)) (by omega) _ (by rw [nI_eq (by omega) (by omega)]; simp), nI_1]
      exact M_purse_l hM hG hp n (i + 1) (by omega) (by omega)
theorem M_purse {σ : St} {p : Nat} {W : Tw} (hM : TM σ W) (hG : Gd W) (hp : p < wP W) : fM_heldBy σ (nI p) = some (nI (purse W p)) := M_purse_l hM hG hp 300 0 (by omega) (by have := hG.1.2; omega)
/-- the worth of the coins of a set, of those below i -/
def sw (W : Tw) (s : Nat) : Nat → Nat
  | 0 => 0
  | i + 1 => sw W s i + (if s.testBit i = true then wth (wkd W i) (wav W i) else 0)
theorem sw_s (W : Tw) (s i : Nat) : sw W s (i + 1) = sw W s i + (if s.testBit i = true then wth (wkd W i) (wav W i) else 0) := rfl
theorem b2f : b2i false = 0 := rfl
theorem b2t : b2i true = 1 := rfl
theorem sw_lt {W : Tw} (hG : Gd W) (s : Nat) : ∀ i, i ≤ wC W → sw W s i ≤ 202 * i
  | 0, _ => by simp [sw]
  | i + 1, h => by
    have h1 := sw_lt hG s i (by omega)
    have h2 := wth_lt (k := wkd W i) (hG.2.2.2 i (by omega)).2.1.2
    unfold sw
    by_cases g : s.testBit i = true
    · rw [if_pos g]; omega
    · rw [if_neg g]; omega
theorem E_sw_l {σ : St} {t s : Nat} {W : Tw} (hE : TE σ t W) (hG : Gd W) (hs : s < 2 ^ 31) : ∀ n i, i ≤ wC W → wC W < n + i → fT_worthOfAll_4 n σ t (nI s) (nI (sw W s i)) (nI i) = some (nI (sw W s (wC W)))
  | 0, i, h1, h2 => by omega
  | n + 1, i, h1, h2 => by
    have g2 := hG.1.2
    unfold fT_worthOfAll_4
    rw [hE.2.1]
    by_cases h : i = wC W
    · rw [if_pos (by rw [h]; exact Int32.le_refl _), h]
    · rw [if_neg (nI_ge (by omega) (by omega)), hold_nI hs (by omega)]
      have ih := E_sw_l hE hG hs n (i + 1) (by omega) (by omega)
      by_cases g : s.testBit i = true
      · rw [g, if_neg (by decide), E_worth hE hG (by omega), bd_some, nm_def, nm_def, nI_add, nI_1]
        rw [sw_s, if_pos g] at ih
        exact ih
      · have g' : s.testBit i = false := by simpa using g
        rw [g', b2f, if_pos rfl, nm_def, nm_def, show nI (sw W s i) + 0 = nI (sw W s i + 0) from nI_add _ 0, nI_1]
        rw [sw_s, if_neg g] at ih
        exact ih
theorem E_sw {σ : St} {t s : Nat} {W : Tw} (hE : TE σ t W) (hG : Gd W) (hs : s < 2 ^ 31) : fT_worthOfAll σ t (nI s) = some (nI (sw W s (wC W))) := E_sw_l hE hG hs 300 0 (by omega) (by have := hG.1.2; omega)
theorem M_sw_l {σ : St} {s : Nat} {W : Tw} (hM : TM σ W) (hG : Gd W) (hs : s < 2 ^ 31) : ∀ n i, i ≤ wC W → wC W < n + i → fM_worthOf_4 n σ (nI s) (nI (sw W s i)) (nI i) = some (nI (sw W s (wC W)))
  | 0, i, h1, h2 => by omega
  | n + 1, i, h1, h2 => by
    have g2 := hG.1.2
    unfold fM_worthOf_4
    rw [hM.2.1]
    by_cases h : i = wC W
    · rw [if_pos (by rw [h]; exact Int32.le_refl _), h]
    · rw [if_neg (nI_ge (by omega) (by omega)), has_nI hs (by omega)]
      have ih := M_sw_l hM hG hs n (i + 1) (by omega) (by omega)
      by_cases g : s.testBit i = true
      · rw [g, if_neg (by decide), M_worth hM hG (by omega), bd_some, nm_def, nm_def, nI_add, nI_1]
        rw [sw_s, if_pos g] at ih
        exact ih
      · have g' : s.testBit i = false := by simpa using g
        rw [g', b2f, if_pos rfl, nm_def, nm_def, show nI (sw W s i) + 0 = nI (sw W s i + 0) from nI_add _ 0, nI_1]
        rw [sw_s, if_neg g] at ih
        exact ih
theorem M_sw {σ : St} {s : Nat} {W : Tw} (hM : TM σ W) (hG : Gd W) (hs : s < 2 ^ 31) : fM_worthOf σ (nI s) = some (nI (sw W s (wC W))) := M_sw_l hM hG hs 300 0 (by omega) (by have := hG.1.2; omega)
def giv (W : Tw) (p to : Nat) : Nat := setOf (wC W) (fun c => decide (who W c = p) && (tkc W c).testBit to)
theorem tkc_bit {W : Tw} {c to : Nat} (hto : to < wP W) : (tkc W c).testBit to = (allow W (wkd W c) (who W c) to && !(wha W c).testBit to) := by
  unfold tkc tkr
  rw [setOf_bit]
  simp [hto]
theorem tkc_lt {W : Tw} {c : Nat} : tkc W c < 2 ^ wP W := setOf_lt _ _
theorem E_giv_l {σ : St} {t p to : Nat} {W : Tw} (hE : TE σ t W) (hG : Gd W) (hp : p < wP W) (hto : to < wP W) : ∀ n i, i ≤ wC W → wC W < n + i → fT_purseFor_5 n σ t (nI p) (nI to) (nI (setOf i (fun c => decide (who W c = p) && (tkc W c).testBit to))) (nI i) = some (nI (giv W p to))
  | 0, i, h1, h2 => by omega
  | n + 1, i, h1, h2 => by
    have g1 := hG.1.1
    have g2 := hG.1.2
    unfold fT_purseFor_5
    rw [hE.2.1]
    by_cases h : i = wC W
    · rw [if_pos (by rw [h]; exact Int32.le_refl _), h]; rfl
    · have k3 := (hG.2.2.2 i (by omega)).2.2.1
      have ih := E_giv_l hE hG hp hto n (i + 1) (by omega) (by omega)
      rw [← so_1 (f := fun c => decide (who W c = p) && (tkc W c).testBit to) (by omega)] at ih
      rw [if_neg (nI_ge (by omega) (by omega)), if_pos (ib_nI (by omega) (by omega)), ix_nI (by omega), (hE.2.2.2.2 i (by omega)).2.2.1]
      by_cases g : who W i = p
      · rw [if_pos (by rw [g]), E_takers hE hG (by omega), bd_some, hold_nI (s31 g1 tkc_lt) (by omega), nm_def, nm_def, nI_1]
        simp only [g, decide_true, Bool.true_and] at ih
        exact ih
      · rw [if_neg (by rw [nI_eq (by omega) (by omega)]; exact g), nm_def, nm_def, nI_1]
        simp only [g, decide_false, Bool.false_and] at ih
        exact ih
theorem E_giv {σ : St} {t p to : Nat} {W : Tw} (hE : TE σ t W) (hG : Gd W) (hp : p < wP W) (hto : to < wP W) : fT_purseFor σ t (nI p) (nI to) = some (nI (giv W p to)) := E_giv_l hE hG hp hto 300 0 (by omega) (by have := hG.1.2; omega)
theorem M_giv_l {σ : St} {p to : Nat} {W : Tw} (hM : TM σ W) (hG : Gd W) (hp : p < wP W) (hto : to < wP W) : ∀ n i, i ≤ wC W → wC W < n + i → fM_given_5 n σ (nI p) (nI to) (nI (setOf i (fun c => decide (who W c = p) && (tkc W c).testBit to))) (nI i) = some (nI (giv W p to))
  | 0, i, h1, h2 => by omega
  | n + 1, i, h1, h2 => by
    have g1 := hG.1.1
    have g2 := hG.1.2
    unfold fM_given_5
    rw [hM.2.1]
    by_cases h : i = wC W
    · rw [if_pos (by rw [h]; exact Int32.le_refl _), h]; rfl
    · have k3 := (hG.2.2.2 i (by omega)).2.2.1
      have ih := M_giv_l hM hG hp hto n (i + 1) (by omega) (by omega)
      rw [← so_1 (f := fun c => decide (who W c = p) && (tkc W c).testBit to) (by omega)] at ih
      rw [if_neg (nI_ge (by omega) (by omega)), (M_its hM hG (show i < wC W by omega)).2.2.1, bd_some]
      by_cases g : who W i = p
      · rw [if_pos (by rw [g]), M_mayNow hM hG (by omega) hto, bd_some, nm_def, nm_def, nI_1]
        rw [show (decide (who W i = p) && (tkc W i).testBit to) = (allow W (wkd W i) (who W i) to && !(wha W i).testBit to) by simp only [g, decide_true, Bool.true_and, tkc_bit hto]] at ih
        exact ih
      · rw [if_neg (by rw [nI_eq (by omega) (by omega)]; exact g), nm_def, nm_def, nI_1]
        simp only [g, decide_false, Bool.false_and] at ih
        exact ih
theorem M_giv {σ : St} {p to : Nat} {W : Tw} (hM : TM σ W) (hG : Gd W) (hp : p < wP W) (hto : to < wP W) : fM_given σ (nI p) (nI to) = some (nI (giv W p to)) := M_giv_l hM hG hp hto 300 0 (by omega) (by have := hG.1.2; omega)
theorem M_ones_l {σ τ : St} : ∀ n a s, fM_ones_4 n σ a s = fM_ones_4 n τ a s
  | 0, _, _ => rfl
  | n + 1, a, s => by
    unfold fM_ones_4
    rw [nm_def, nm_def, nm_def, nm_def, M_ones_l n]
def pc (s : Nat) : Nat := (if s.testBit 0 then 1 else 0) + (if s.testBit 1 then 1 else 0) + (if s.testBit 2 then 1 else 0) + (if s.testBit 3 then 1 else 0) + (if s.testBit 4 then 1 else 0) + (if s.testBit 5 then 1 else 0) + (if s.testBit 6 then 1 else 0)
theorem bc_nI : ∀ s, s < 128 → fJI_bitCount (nI s) = nI (pc s) := by decide +kernel
theorem M_ones0 : ∀ s, s < 128 → fM_ones_4 9 σ00 0 (nI s) = some (nI (pc s)) := by decide +kernel
theorem M_ones_m {σ : St} : ∀ n m a s v, n ≤ m → fM_ones_4 n σ a s = some v → fM_ones_4 m σ a s = some v
  | 0, _, _, _, _, _, h => by cases h
  | n + 1, 0, _, _, _, h, _ => by omega
  | n + 1, m + 1, a, s, v, h, e => by
    unfold fM_ones_4 at e ⊢
    by_cases g : s = 0
    · rw [if_pos g] at e ⊢; exact e
    · rw [if_neg g, nm_def, nm_def] at e ⊢
      exact M_ones_m n m _ _ v (by omega) e
theorem M_ones {σ : St} {s : Nat} (hs : s < 128) : fM_ones σ (nI s) = some (nI (pc s)) := by
  unfold fM_ones
  rw [M_ones_l (τ := σ00)]
  exact M_ones_m 9 300 _ _ _ (by omega) (M_ones0 s hs)
theorem pc_le (s : Nat) : pc s ≤ 7 := by
  unfold pc
  repeat' split
  all_goals omega
