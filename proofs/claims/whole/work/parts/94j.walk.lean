/-! left, through, ways, last, least, all -/
theorem st_left : St_left Inv := by
  intro σ a1 hI
  have hb := hI.isT
  have ht := hI.t
  obtain ⟨W, hE, hM, hG⟩ := hI.w
  have g2 := hG.1.2
  rcases (arg a1 (wC W) (by omega)).symm with ho | ⟨c, hc, rfl⟩
  · refine ⟨-1, σ, σ, ?_, ?_, hI⟩
    · unfold fE_left
      rw [if_pos hb, hc_o hE.2.1 g2 ho, if_pos rfl]
    · unfold fM_left
      rw [mc_o hM.2.1 g2 ho, if_pos rfl]
  obtain ⟨τ1, r1, r2, r3, r4⟩ := E_look (w := 0) ht hE hG hc (by decide)
  have hM1 := hM.e r4.pe
  obtain ⟨τ2, s1, s2, s3⟩ := M_left hM1 hG hc
  refine hI.fin (r := vw W (wkd W c) 0 (who W c) (wha W c)) (hE.l ht r4) (hM1.l s2) hG r4.pe s2.pm ?_ ?_
  · unfold fE_left
    rw [if_pos hb, hc_i hE.2.1 g2 hc, if_neg one_ne, show fE_look σ (nI c) 0 = _ from r1]
    rfl
  · unfold fM_left
    rw [mc_i hM1.2.1 g2 hc, if_neg one_ne, s1]
    rfl
/-- the reference's tables at a coin's place -/
theorem M_pl {σ : St} {W : Tw} {c : Nat} (hM : TM σ W) (hG : Gd W) (hc : c < wC W) : ∃ τ, fM_findAll σ (nI (wkd W c)) = some τ ∧ LM σ τ ∧ TbM τ W (wkd W c) 1 ∧ fM_placeOf τ (nI c) = some (nI (128 * who W c + wha W c)) ∧ ib (nI (128 * who W c + wha W c)) 896 = true ∧ ix (nI (128 * who W c + wha W c)) = 128 * who W c + wha W c ∧ Ent τ W (wkd W c) (who W c) (wha W c) := by
  obtain ⟨k1, k2, k3, k4, k5⟩ := hG.2.2.2 c hc
  have g1 := hG.1.1
  have h7 := p27 g1
  obtain ⟨τ, r1, r2, r3⟩ := M_find hM hG k1
  exact ⟨τ, r1, r2, r3, M_place (hM.l r2) hG hc, ib_nI (by omega) (by omega), ix_nI (by omega), r3 _ (ha_pos hG hc) k4 _ k3 k5⟩
theorem st_ways : St_ways Inv := by
  intro σ a1 hI
  have hb := hI.isT
  have ht := hI.t
  obtain ⟨W, hE, hM, hG⟩ := hI.w
  have g2 := hG.1.2
  rcases (arg a1 (wC W) (by omega)).symm with ho | ⟨c, hc, rfl⟩
  · refine ⟨-1, σ, σ, ?_, ?_, hI⟩
    · unfold fE_ways
      rw [if_pos hb, hc_o hE.2.1 g2 ho, if_pos rfl]
    · unfold fM_ways
      rw [mc_o hM.2.1 g2 ho, if_pos rfl]
  obtain ⟨τ1, r1, r2, r3, r4⟩ := E_look (w := 1) ht hE hG hc (by decide)
  have hM1 := hM.e r4.pe
  obtain ⟨τ2, s1, s2, s3, s4, s5, s6, s7⟩ := M_pl hM1 hG hc
  refine hI.fin (r := vw W (wkd W c) 1 (who W c) (wha W c)) (hE.l ht r4) (hM1.l s2) hG r4.pe s2.pm ?_ ?_
  · unfold fE_ways
    rw [if_pos hb, hc_i hE.2.1 g2 hc, if_neg one_ne, show fE_look σ (nI c) 1 = _ from r1]
    rfl
  · unfold fM_ways
    rw [mc_i hM1.2.1 g2 hc, if_neg one_ne, (M_its hM1 hG hc).1, bd_some, s1, bd_some, s4, bd_some, if_pos s5, s6, s7.2.1]
theorem st_last : St_last Inv := by
  intro σ a1 hI
  have hb := hI.isT
  have ht := hI.t
  obtain ⟨W, hE, hM, hG⟩ := hI.w
  have g2 := hG.1.2
  rcases (arg a1 (wC W) (by omega)).symm with ho | ⟨c, hc, rfl⟩
  · refine ⟨-1, σ, σ, ?_, ?_, hI⟩
    · unfold fE_last
      rw [if_pos hb, hc_o hE.2.1 g2 ho, if_pos rfl]
    · unfold fM_last
      rw [mc_o hM.2.1 g2 ho, if_pos rfl]
  obtain ⟨τ1, r1, r2, r3, r4⟩ := E_look (w := 2) ht hE hG hc (by decide)
  have hM1 := hM.e r4.pe
  obtain ⟨τ2, s1, s2, s3, s4, s5, s6, s7⟩ := M_pl hM1 hG hc
  refine hI.fin (r := vw W (wkd W c) 2 (who W c) (wha W c)) (hE.l ht r4) (hM1.l s2) hG r4.pe s2.pm ?_ ?_
  · unfold fE_last
    rw [if_pos hb, hc_i hE.2.1 g2 hc, if_neg one_ne, show fE_look σ (nI c) 2 = _ from r1]
    rfl
  · unfold fM_last
    rw [mc_i hM1.2.1 g2 hc, if_neg one_ne, (M_its hM1 hG hc).1, bd_some, s1, bd_some, s4, bd_some, if_pos s5, s6, s7.2.2]
theorem st_through : St_through Inv := by
  intro σ a1 hI
  have hb := hI.isT
  have ht := hI.t
  obtain ⟨W, hE, hM, hG⟩ := hI.w
  have g2 := hG.1.2
  rcases (arg a1 (wC W) (by omega)).symm with ho | ⟨c, hc, rfl⟩
  · refine ⟨-1, σ, σ, ?_, ?_, hI⟩
    · unfold fE_through
      rw [if_pos hb, hc_o hE.2.1 g2 ho, if_pos rfl]
    · unfold fM_through
      rw [mc_o hM.2.1 g2 ho, if_pos rfl]
  obtain ⟨τ1, r1, r2, r3, r4⟩ := E_look (w := 1) ht hE hG hc (by decide)
  have hM1 := hM.e r4.pe
  obtain ⟨τ2, s1, s2, s3, s4, s5, s6, s7⟩ := M_pl hM1 hG hc
  refine hI.fin (r := if vw W (wkd W c) 1 (who W c) (wha W c) ≤ 0 then 0 else 1) (hE.l ht r4) (hM1.l s2) hG r4.pe s2.pm ?_ ?_
  · unfold fE_through
    rw [if_pos hb, hc_i hE.2.1 g2 hc, if_neg one_ne, show fE_look σ (nI c) 1 = _ from r1]
    rfl
  · unfold fM_through
    rw [mc_i hM1.2.1 g2 hc, if_neg one_ne, (M_its hM1 hG hc).1, bd_some, s1, bd_some, s4, bd_some, if_pos s5, s6, s7.2.1]
/-! left as a number -/
def lf (W : Tw) (k f h : Nat) : Nat := (vw W k 0 f h).toInt.toNat
def fN (s : Nat) (g : Nat → Nat) : Nat → Nat
  | 0 => 0
  | i + 1 => if s.testBit i = true then max (fN s g i) (g i + 1) else fN s g i
theorem fN_le {s : Nat} {g : Nat → Nat} {m : Nat} : ∀ i, (∀ p, p < i → s.testBit p = true → g p + 1 ≤ m) → fN s g i ≤ m
  | 0, _ => Nat.zero_le _
  | i + 1, h => by
    have ih := fN_le i (fun p hp hs => h p (by omega) hs)
    unfold fN
    by_cases q : s.testBit i = true
    · rw [if_pos q]; have := h i (by omega) q; omega
    · rw [if_neg q]; exact ih
theorem fN_ge {s : Nat} {g : Nat → Nat} : ∀ i p, p < i → s.testBit p = true → g p + 1 ≤ fN s g i
  | 0, p, h, _ => by omega
  | i + 1, p, h, hs => by
    unfold fN
    by_cases e : p = i
    · rw [e] at hs; rw [if_pos hs, e]; omega
    · have ih := fN_ge (g := g) i p (by omega) hs
      by_cases q : s.testBit i = true
      · rw [if_pos q]; omega
      · rw [if_neg q]; exact ih
theorem fN_ex {s : Nat} {g : Nat → Nat} : ∀ i, fN s g i = 0 ∨ ∃ p, p < i ∧ s.testBit p = true ∧ fN s g i = g p + 1
  | 0 => Or.inl rfl
  | i + 1 => by
    unfold fN
    by_cases q : s.testBit i = true
    · rw [if_pos q]
      rcases Nat.le_total (fN s g i) (g i + 1) with l | l
      · rw [Nat.max_eq_right l]; exact Or.inr ⟨i, by omega, q, rfl⟩
      · rw [Nat.max_eq_left l]
        rcases fN_ex (s := s) (g := g) i with e | ⟨p, h1, h2, h3⟩
        · omega
        · exact Or.inr ⟨p, by omega, h2, h3⟩
    · rw [if_neg q]
      rcases fN_ex (s := s) (g := g) i with e | ⟨p, h1, h2, h3⟩
      · exact Or.inl e
      · exact Or.inr ⟨p, by omega, h2, h3⟩
theorem fo_fN {s : Nat} {g : Nat → Int32} {g' : Nat → Nat} : ∀ i, (∀ p, p < i → s.testBit p = true → g p = nI (g' p) ∧ g' p < 1000) → fo 0 s g 0 i = nI (fN s g' i) ∧ fN s g' i ≤ 1000
  | 0, _ => ⟨rfl, by simp [fN]⟩
  | i + 1, h => by
    obtain ⟨ih1, ih2⟩ := fo_fN i (fun p hp hs => h p (by omega) hs)
    unfold fo fN
    by_cases q : s.testBit i = true
    · obtain ⟨e1, e2⟩ := h i (by omega) q
      rw [if_pos q, if_pos q, ih1, e1]
      refine ⟨?_, by omega⟩
      show mmax (nI (fN s g' i)) (nI (g' i) + 1) = _
      rw [nI_1]
      unfold mmax
      by_cases c : fN s g' i < g' i + 1
      · rw [if_pos (nI_lt c (by omega)), Nat.max_eq_right (by omega)]
      · rw [if_neg (fun z => c ((nI_ltI (by omega) (by omega)).mp z)), Nat.max_eq_left (by omega)]
    · rw [if_neg q, if_neg q]; exact ⟨ih1, ih2⟩
/-- those that have not had it -/
def mis (P h : Nat) : Nat := pc (wo (2 ^ P - 1) h)
theorem mis_s : ∀ P, P < 8 → ∀ h, h < 2 ^ P → ∀ p, p < P → h.testBit p = false → mis P (h ||| 2 ^ p) + 1 = mis P h := by decide +kernel
theorem val_lf {W : Tw} {k : Nat} (hG : Gd W) : ∀ d f h, h < 2 ^ wP W → mis (wP W) h ≤ d → ∃ l, vw W k 0 f h = nI l ∧ l ≤ mis (wP W) h
  | d, f, h, hh, hd => by
    have g1 := hG.1.1
    rw [vw_eq hG hh]
    by_cases q : h = 2 ^ wP W - 1
    · rw [if_pos q]; exact ⟨0, rfl, Nat.zero_le _⟩
    · rw [if_neg q]
      have key : ∀ p, p < wP W → (tkr W k f h).testBit p = true → ∃ l, vw W k 0 p (h ||| 2 ^ p) = nI l ∧ l + 1 ≤ mis (wP W) h := fun p hp hs => by
        have hb := (tkr_in hs).2
        have hm := mis_s (wP W) (by omega) h hh p hp hb
        match d, hd with
        | 0, hd => omega
        | d + 1, hd =>
          obtain ⟨l, e1, e2⟩ := val_lf (k := k) hG d p (h ||| 2 ^ p) (or_lt hh hp) (by omega)
          exact ⟨l, e1, by omega⟩
      have key2 : ∀ p, ∃ l, p < wP W → (tkr W k f h).testBit p = true → vw W k 0 p (h ||| 2 ^ p) = nI l ∧ l + 1 ≤ mis (wP W) h := fun p => by
        by_cases hp : p < wP W
        · by_cases hs : (tkr W k f h).testBit p = true
          · obtain ⟨l, a, b⟩ := key p hp hs; exact ⟨l, fun _ _ => ⟨a, b⟩⟩
          · exact ⟨0, fun _ z => absurd z hs⟩
        · exact ⟨0, fun z => absurd z hp⟩
      obtain ⟨g, hg⟩ := Classical.axiomOfChoice key2
      have h7 : mis (wP W) h ≤ 7 := pc_le _
      refine ⟨fN (tkr W k f h) g (wP W), (fo_fN (wP W) (fun p hp hs => ⟨(hg p hp hs).1, by have := (hg p hp hs).2; omega⟩)).1, fN_le (wP W) (fun p hp hs => (hg p hp hs).2)⟩
theorem lf_nI {W : Tw} {k f h : Nat} (hG : Gd W) (hh : h < 2 ^ wP W) : vw W k 0 f h = nI (lf W k f h) ∧ lf W k f h ≤ 7 := by
  obtain ⟨l, e1, e2⟩ := val_lf (k := k) hG _ f h hh (Nat.le_refl _)
  have h7 : mis (wP W) h ≤ 7 := pc_le _
  have e : lf W k f h = l := by
    unfold lf
    rw [e1, nI_toInt (by omega)]
    rfl
  rw [e]
  exact ⟨e1, by omega⟩
/-- less than all are ahead of one that had it -/
theorem mis_6 : ∀ P, P < 8 → ∀ h, h < 2 ^ P → 1 ≤ h → mis P h ≤ 6 := by decide +kernel
theorem lf_6 {W : Tw} {k f h : Nat} (hG : Gd W) (hh : h < 2 ^ wP W) (h1 : 1 ≤ h) : lf W k f h ≤ 6 := by
  obtain ⟨l, e1, e2⟩ := val_lf (k := k) hG _ f h hh (Nat.le_refl _)
  have h6 := mis_6 (wP W) (by have := hG.1.1; omega) h hh h1
  have e : lf W k f h = l := by
    unfold lf
    rw [e1, nI_toInt (by omega)]
    rfl
  omega
theorem lf_eq {W : Tw} {k f h : Nat} (hG : Gd W) (hh : h < 2 ^ wP W) : lf W k f h = fN (tkr W k f h) (fun p => lf W k p (h ||| 2 ^ p)) (wP W) := by
  have e1 := (lf_nI (k := k) (f := f) hG hh).1
  have l1 := (lf_nI (k := k) (f := f) hG hh).2
  by_cases q : h = 2 ^ wP W - 1
  · rw [vw_eq hG hh, if_pos q] at e1
    have : lf W k f h = 0 := ((nI_eq (a := lf W k f h) (b := 0) (by omega) (by omega)).mp e1.symm)
    rw [this, q, tkr_full]
    symm
    rcases fN_ex (s := 0) (g := fun p => lf W k p ((2 ^ wP W - 1) ||| 2 ^ p)) (wP W) with e | ⟨p, a, b, c⟩
    · exact e
    · rw [Nat.zero_testBit] at b; cases b
  · have e2 := e1
    rw [vw_eq hG hh, if_neg q] at e2
    obtain ⟨f1, f2⟩ := fo_fN (s := tkr W k f h) (g := fun p => vw W k 0 p (h ||| 2 ^ p)) (g' := fun p => lf W k p (h ||| 2 ^ p)) (wP W) (fun p hp hs => by
      have := lf_nI (k := k) (f := p) hG (or_lt hh hp)
      exact ⟨this.1, by omega⟩)
    rw [f1] at e2
    exact ((nI_eq (by omega) (by omega)).mp e2).symm
