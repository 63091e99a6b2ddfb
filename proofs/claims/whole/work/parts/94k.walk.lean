/-! least, all -/
def lfc (W : Tw) (c : Nat) : Nat := lf W (wkd W c) (who W c) (wha W c)
theorem lfc_vw {W : Tw} {c : Nat} (hG : Gd W) (hc : c < wC W) : vw W (wkd W c) 0 (who W c) (wha W c) = nI (lfc W c) := (lf_nI hG (hG.2.2.2 c hc).2.2.2.1).1
theorem lfc_6 {W : Tw} {c : Nat} (hG : Gd W) (hc : c < wC W) : lfc W c ≤ 6 := lf_6 hG (hG.2.2.2 c hc).2.2.2.1 (ha_pos hG hc)
theorem isT_t {σ : St} {t : Nat} (ht : t = 1 ∨ t = 9) (hr : gR σ 0 = t) : isTb (gR σ 0) = true := by rw [hr]; rcases ht with e | e <;> rw [e] <;> rfl
theorem E_lk {σ : St} {t c w : Nat} {W : Tw} (ht : t = 1 ∨ t = 9) (hr : gR σ 0 = t) (hE : TE σ t W) (hG : Gd W) (hc : c < wC W) (hw : w < 3) : ∃ τ, fE_look σ (nI c) (nI w) = some (vw W (wkd W c) w (who W c) (wha W c), τ) ∧ SE τ W (wkd W c) ∧ TbE τ W (wkd W c) w (wha W c) (wha W c) ∧ LE σ τ ∧ gR τ 0 = t ∧ TE τ t W := by
  obtain ⟨τ, r1, r2, r3, r4⟩ := E_look (W := W) (by rw [hr]; exact ht) (by rw [hr]; exact hE) hG hc hw
  exact ⟨τ, r1, r2, r3, r4, (r4.2.2 0).trans hr, hE.l ht r4⟩
/-- the one with the fewest, from i on, m of them left -/
def lst (W : Tw) : Nat → Nat → Option (Nat × Nat) → Option (Nat × Nat)
  | 0, _, x => x
  | m + 1, i, none => lst W m (i + 1) (some (i, lfc W i))
  | m + 1, i, some w => lst W m (i + 1) (if w.2 ≤ lfc W i then some w else some (i, lfc W i))
theorem E_lst {t : Nat} {W : Tw} (ht : t = 1 ∨ t = 9) (hG : Gd W) : ∀ n m i x σ, gR σ 0 = t → TE σ t W → m + i = wC W → m < n → (∀ w, x = some w → w.2 ≤ 6) → ∃ τ, fE_least_8 n σ (o1 x) (o2 x 7) (nI i) = some (o1 (lst W m i x), τ) ∧ LE σ τ
  | 0, m, i, x, σ, hr, hE, h1, h2, hx => by omega
  | n + 1, 0, i, x, σ, hr, hE, h1, h2, hx => by
    have g2 := hG.1.2
    unfold fE_least_8
    rw [if_pos (isT_t ht hr), hr, hE.2.1, if_pos (nI_le (by omega) (by omega))]
    exact ⟨σ, rfl, LE.rf⟩
  | n + 1, m + 1, i, x, σ, hr, hE, h1, h2, hx => by
    have g2 := hG.1.2
    have l6 := lfc_6 hG (show i < wC W by omega)
    obtain ⟨τ1, r1, -, -, r4, r5, r6⟩ := E_lk (w := 0) ht hr hE hG (show i < wC W by omega) (by decide)
    rw [lfc_vw hG (by omega)] at r1
    unfold fE_least_8
    rw [if_pos (isT_t ht hr), hr, hE.2.1, if_neg (nI_ge (by omega) (by omega)), show fE_look σ (nI i) 0 = _ from r1, bi_some, nm_def, nm_def, nI_1]
    cases x with
    | none =>
      obtain ⟨τ, s1, s2⟩ := E_lst ht hG n m (i + 1) (some (i, lfc W i)) τ1 r5 r6 (by omega) (by omega) (fun w hw => by cases hw; exact l6)
      rw [if_neg (show ¬ o2 none 7 ≤ nI (lfc W i) from nI_ge (b := 7) (by omega) (by omega))]
      exact ⟨τ, s1, LE.tr r4 s2⟩
    | some w =>
      have hw := hx w rfl
      by_cases q : w.2 ≤ lfc W i
      · obtain ⟨τ, s1, s2⟩ := E_lst ht hG n m (i + 1) (some w) τ1 r5 r6 (by omega) (by omega) hx
        rw [if_pos (show o2 (some w) 7 ≤ nI (lfc W i) from nI_le q (by omega)), lst, if_pos q]
        exact ⟨τ, s1, LE.tr r4 s2⟩
      · obtain ⟨τ, s1, s2⟩ := E_lst ht hG n m (i + 1) (some (i, lfc W i)) τ1 r5 r6 (by omega) (by omega) (fun w hw => by cases hw; exact l6)
        rw [if_neg (show ¬ o2 (some w) 7 ≤ nI (lfc W i) from nI_ge (by omega) (by omega)), lst, if_neg q]
        exact ⟨τ, s1, LE.tr r4 s2⟩
theorem M_lst {W : Tw} (hG : Gd W) : ∀ n m i x σ, TM σ W → m + i = wC W → m < n → (∀ w, x = some w → w.1 < 6 ∧ w.2 ≤ 6) → ∃ τ, fM_least_7 n σ (o1 x) (o2 x 0) (nI i) = some (o1 (lst W m i x), τ) ∧ LM σ τ
  | 0, m, i, x, σ, hM, h1, h2, hx => by omega
  | n + 1, 0, i, x, σ, hM, h1, h2, hx => by
    have g2 := hG.1.2
    unfold fM_least_7
    rw [hM.2.1, if_pos (nI_le (by omega) (by omega))]
    exact ⟨σ, rfl, LM.rf⟩
  | n + 1, m + 1, i, x, σ, hM, h1, h2, hx => by
    have g2 := hG.1.2
    have l6 := lfc_6 hG (show i < wC W by omega)
    obtain ⟨τ1, r1, r4, -⟩ := M_left hM hG (show i < wC W by omega)
    have r6 := hM.l r4
    rw [lfc_vw hG (by omega)] at r1
    unfold fM_least_7
    rw [hM.2.1, if_neg (nI_ge (by omega) (by omega)), r1, bi_some, nm_def, nm_def, nI_1]
    have ih1 := M_lst hG n m (i + 1) (some (i, lfc W i)) τ1 r6 (by omega) (by omega) (fun w hw => by cases hw; exact ⟨by omega, l6⟩)
    cases x with
    | none =>
      obtain ⟨τ, s1, s2⟩ := ih1
      rw [if_pos (show o1 none < 0 by decide)]
      exact ⟨τ, s1, LM.tr r4 s2⟩
    | some w =>
      have hw := hx w rfl
      rw [if_neg (show ¬ o1 (some w) < 0 from nI_pos (by omega))]
      by_cases q : w.2 ≤ lfc W i
      · obtain ⟨τ, s1, s2⟩ := M_lst hG n m (i + 1) (some w) τ1 r6 (by omega) (by omega) hx
        rw [if_pos (show o2 (some w) 0 ≤ nI (lfc W i) from nI_le q (by omega)), lst, if_pos q]
        exact ⟨τ, s1, LM.tr r4 s2⟩
      · obtain ⟨τ, s1, s2⟩ := ih1
        rw [if_neg (show ¬ o2 (some w) 0 ≤ nI (lfc W i) from nI_ge (by omega) (by omega)), lst, if_neg q]
        exact ⟨τ, s1, LM.tr r4 s2⟩
theorem st_least : St_least Inv := by
  intro σ hI
  have ht := hI.t
  obtain ⟨W, hE, hM, hG⟩ := hI.w
  have g2 := hG.1.2
  obtain ⟨τ1, r1, r2⟩ := E_lst ht hG 300 (wC W) 0 none σ rfl hE (by omega) (by omega) (fun w hw => by cases hw)
  have hM1 := hM.e r2.pe
  obtain ⟨τ2, s1, s2⟩ := M_lst hG 300 (wC W) 0 none τ1 hM1 (by omega) (by omega) (fun w hw => by cases hw)
  exact hI.fin (r := o1 (lst W (wC W) 0 none)) (hE.l ht r2) (hM1.l s2) hG r2.pe s2.pm r1 s1
/-- silver of all -/
def sS (W : Tw) : Nat → Nat → Int32 → Int32
  | 0, _, a => a
  | m + 1, i, a => sS W m (i + 1) (a + wsi W i)
theorem E_sS {σ : St} {t : Nat} {W : Tw} (hE : TE σ t W) (hG : Gd W) : ∀ n m i a, m + i = wP W → m < n → fT_allSilver_4 n σ t a (nI i) = some (sS W m i a)
  | 0, m, i, a, h1, h2 => by omega
  | n + 1, 0, i, a, h1, h2 => by
    have g1 := hG.1.1
    unfold fT_allSilver_4
    rw [hE.1, if_pos (nI_le (by omega) (by omega))]
    rfl
  | n + 1, m + 1, i, a, h1, h2 => by
    have g1 := hG.1.1
    unfold fT_allSilver_4
    rw [hE.1, if_neg (nI_ge (by omega) (by omega)), if_pos (ib_nI (by omega) (by omega)), nm_def, nm_def, ix_nI (by omega), (hE.2.2.2.1 i (by omega)).2.1, nI_1]
    exact E_sS hE hG n m (i + 1) _ (by omega) (by omega)
theorem M_sS {σ : St} {W : Tw} (hM : TM σ W) (hG : Gd W) : ∀ n m i a, m + i = wP W → m < n → fM_all_47 n σ a (nI i) = some (sS W m i a, σ)
  | 0, m, i, a, h1, h2 => by omega
  | n + 1, 0, i, a, h1, h2 => by
    have g1 := hG.1.1
    unfold fM_all_47
    rw [hM.1, if_pos (nI_le (by omega) (by omega))]
    rfl
  | n + 1, m + 1, i, a, h1, h2 => by
    have g1 := hG.1.1
    unfold fM_all_47
    rw [hM.1, if_neg (nI_ge (by omega) (by omega)), if_pos (ib_nI (by omega) (by omega)), nm_def, nm_def, ix_nI (by omega), (hM.2.2.2.1 i (by omega)).2.1, nI_1]
    exact M_sS hM hG n m (i + 1) _ (by omega) (by omega)
/-- how many two know one another -/
def sK (W : Tw) : Nat → Nat → Int32 → Int32
  | 0, _, a => a / 2
  | m + 1, i, a => sK W m (i + 1) (a + nI (pc (wkn W i)))
theorem E_sK {σ : St} {t : Nat} {W : Tw} (hE : TE σ t W) (hG : Gd W) : ∀ n m i a, m + i = wP W → m < n → fT_acquaintances_4 n σ t a (nI i) = some (sK W m i a)
  | 0, m, i, a, h1, h2 => by omega
  | n + 1, 0, i, a, h1, h2 => by
    have g1 := hG.1.1
    unfold fT_acquaintances_4
    rw [hE.1, if_pos (nI_le (by omega) (by omega))]
    rfl
  | n + 1, m + 1, i, a, h1, h2 => by
    have g1 := hG.1.1
    have h7 := p27 g1
    have hk := (hG.2.1 i (by omega)).2.1
    unfold fT_acquaintances_4
    rw [hE.1, if_neg (nI_ge (by omega) (by omega)), if_pos (ib_nI (by omega) (by omega)), nm_def, nm_def, ix_nI (by omega), (hE.2.2.2.1 i (by omega)).2.2, nI_1, bc_nI _ (by omega)]
    exact E_sK hE hG n m (i + 1) _ (by omega) (by omega)
theorem M_sK {σ : St} {W : Tw} (hM : TM σ W) (hG : Gd W) : ∀ n m i a, m + i = wP W → m < n → fM_all_74 n σ a (nI i) = some (sK W m i a, σ)
  | 0, m, i, a, h1, h2 => by omega
  | n + 1, 0, i, a, h1, h2 => by
    have g1 := hG.1.1
    unfold fM_all_74
    rw [hM.1, if_pos (nI_le (by omega) (by omega))]
    rfl
  | n + 1, m + 1, i, a, h1, h2 => by
    have g1 := hG.1.1
    have h7 := p27 g1
    have hk := (hG.2.1 i (by omega)).2.1
    unfold fM_all_74
    rw [hM.1, if_neg (nI_ge (by omega) (by omega)), if_pos (ib_nI (by omega) (by omega)), ix_nI (by omega), (hM.2.2.2.1 i (by omega)).2.2, M_ones (by omega), bd_some, nm_def, nm_def, nI_1]
    exact M_sK hM hG n m (i + 1) _ (by omega) (by omega)
/-- left of all -/
def sF (W : Tw) : Nat → Nat → Int32 → Int32
  | 0, _, a => a
  | m + 1, i, a => sF W m (i + 1) (a + vw W (wkd W i) 0 (who W i) (wha W i))
theorem E_sF {t : Nat} {W : Tw} (ht : t = 1 ∨ t = 9) (hG : Gd W) : ∀ n m i a σ, gR σ 0 = t → TE σ t W → m + i = wC W → m < n → ∃ τ, fE_leftOfAll_4 n σ a (nI i) = some (sF W m i a, τ) ∧ LE σ τ
  | 0, m, i, a, σ, hr, hE, h1, h2 => by omega
  | n + 1, 0, i, a, σ, hr, hE, h1, h2 => by
    have g2 := hG.1.2
    unfold fE_leftOfAll_4
    rw [if_pos (isT_t ht hr), hr, hE.2.1, if_pos (nI_le (by omega) (by omega))]
    exact ⟨σ, rfl, LE.rf⟩
  | n + 1, m + 1, i, a, σ, hr, hE, h1, h2 => by
    have g2 := hG.1.2
    obtain ⟨τ1, r1, -, -, r4, r5, r6⟩ := E_lk (w := 0) ht hr hE hG (show i < wC W by omega) (by decide)
    obtain ⟨τ, s1, s2⟩ := E_sF ht hG n m (i + 1) (a + vw W (wkd W i) 0 (who W i) (wha W i)) τ1 r5 r6 (by omega) (by omega)
    unfold fE_leftOfAll_4
    rw [if_pos (isT_t ht hr), hr, hE.2.1, if_neg (nI_ge (by omega) (by omega)), show fE_look σ (nI i) 0 = _ from r1, bi_some, nm_def, nm_def, nI_1]
    exact ⟨τ, s1, LE.tr r4 s2⟩
theorem M_sF {W : Tw} (hG : Gd W) : ∀ n m i a σ, TM σ W → m + i = wC W → m < n → ∃ τ, fM_all_106 n σ a (nI i) = some (sF W m i a, τ) ∧ LM σ τ
  | 0, m, i, a, σ, hM, h1, h2 => by omega
  | n + 1, 0, i, a, σ, hM, h1, h2 => by
    have g2 := hG.1.2
    unfold fM_all_106
    rw [hM.2.1, if_pos (nI_le (by omega) (by omega))]
    exact ⟨σ, rfl, LM.rf⟩
  | n + 1, m + 1, i, a, σ, hM, h1, h2 => by
    have g2 := hG.1.2
    obtain ⟨τ1, r1, r4, -⟩ := M_left hM hG (show i < wC W by omega)
    obtain ⟨τ, s1, s2⟩ := M_sF hG n m (i + 1) (a + vw W (wkd W i) 0 (who W i) (wha W i)) τ1 (hM.l r4) (by omega) (by omega)
    unfold fM_all_106
    rw [hM.2.1, if_neg (nI_ge (by omega) (by omega)), r1, bi_some, nm_def, nm_def, nI_1]
    exact ⟨τ, s1, LM.tr r4 s2⟩
theorem st_all : St_all Inv := by
  intro σ a1 hI
  have hb := hI.isT
  have ht := hI.t
  obtain ⟨W, hE, hM, hG⟩ := hI.w
  have g1 := hG.1.1
  have g2 := hG.1.2
  have h6 : 2 ^ wC W ≤ 2 ^ 6 := Nat.pow_le_pow_right (by decide) g2
  unfold fE_all fM_all
  by_cases c0 : a1 = 0
  · refine ⟨nI (sw W (2 ^ wC W - 1) (wC W)), σ, σ, ?_, ?_, hI⟩
    · rw [if_pos c0, if_pos hb, if_pos hb, hE.2.1, ev_P (by omega), E_sw hE hG (by omega), bd_some]
    · rw [if_pos c0, hM.2.1, ev_P (by omega), M_sw hM hG (by omega), bd_some]
  by_cases c1 : a1 = 1
  · refine ⟨sS W (wP W) 0 0, σ, σ, ?_, ?_, hI⟩
    · rw [if_neg c0, if_pos c1, if_pos hb, show fT_allSilver σ (gR σ 0) = _ from E_sS hE hG 300 (wP W) 0 0 (by omega) (by omega), bd_some]
    · rw [if_neg c0, if_pos c1]
      exact M_sS hM hG 300 (wP W) 0 0 (by omega) (by omega)
  by_cases c2 : a1 = 2
  · refine ⟨sK W (wP W) 0 0, σ, σ, ?_, ?_, hI⟩
    · rw [if_neg c0, if_neg c1, if_pos c2, if_pos hb, show fT_acquaintances σ (gR σ 0) = _ from E_sK hE hG 300 (wP W) 0 0 (by omega) (by omega), bd_some]
    · rw [if_neg c0, if_neg c1, if_pos c2]
      exact M_sK hM hG 300 (wP W) 0 0 (by omega) (by omega)
  by_cases c3 : a1 = 3
  · obtain ⟨τ1, r1, r2⟩ := E_sF ht hG 300 (wC W) 0 0 σ rfl hE (by omega) (by omega)
    have hM1 := hM.e r2.pe
    obtain ⟨τ2, s1, s2⟩ := M_sF hG 300 (wC W) 0 0 τ1 hM1 (by omega) (by omega)
    refine ⟨sF W (wC W) 0 0, τ1, τ2, ?_, ?_, hI.st r2.pe s2.pm (hE.l ht r2) (hM1.l s2) hG⟩
    · rw [if_neg c0, if_neg c1, if_neg c2, if_pos c3, show fE_leftOfAll σ = _ from r1, bi_some]
    · rw [if_neg c0, if_neg c1, if_neg c2, if_pos c3]
      exact s1
  · refine ⟨-1, σ, σ, ?_, ?_, hI⟩
    · rw [if_neg c0, if_neg c1, if_neg c2, if_neg c3]
    · rw [if_neg c0, if_neg c1, if_neg c2, if_neg c3]
