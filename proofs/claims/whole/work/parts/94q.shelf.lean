/-! shelf, taken, ranks -/
theorem Inv.sfx {σ τ : St} (h : Inv σ) (e : ∀ k j, ¬ (41 ≤ k ∧ k ≤ 43) → ¬ (61 ≤ k ∧ k ≤ 63) → gI τ k j = gI σ k j) (eL : ∀ j, gL τ 60 j = gL σ 60 j) (eR : ∀ j, gR τ j = gR σ j) (hs : Sf τ) : Inv τ := by
  have h0 := h
  obtain ⟨-, -, hK, hTp, hRw, hSh, -, hTr⟩ := h
  exact h0.rs (fun k j hk => e k j (by omega) (by omega)) eR ⟨hK.c (fun k j hk => e k j (by omega) (by omega)), hTp.c (fun k j hk => e k j (by omega) (by omega)), hRw.c (fun k j hk => e k j (by omega) (by omega)), hSh.c (fun k j hk => e k j (by omega) (by omega)) eL, hs, hTr.c (fun k j hk => e k j (by omega) (by omega))⟩
/-- one shelf becomes another -/
theorem sf_1 {σ : St} {s : Nat} {a b c d e f : Int32} (hI : Inv σ) (h : (a = 0 ∧ d = 0 ∧ b = e) ∨ (a = 1 ∧ d = 1 ∧ b = f ∧ c = e ∧ ∃ k, k < 4 ∧ e = nI k) ∨ (a = 2 ∧ d = -1)) : Inv (sI (sI (sI (sI (sI (sI σ 41 s a) 42 s b) 43 s c) 61 s d) 62 s e) 63 s f) := by
  refine hI.sfx (fun k j h1 h2 => ?_) (fun _ => rfl) (fun _ => rfl) ?_
  · rw [gI_o (by omega), gI_o (by omega), gI_o (by omega), gI_o (by omega), gI_o (by omega), gI_o (by omega)]
  · intro s' hs'
    have old := hI.2.2.2.2.2.2.1 s' hs'
    simp only [gI_sI]
    by_cases g : s' = s
    · subst g
      simp
      simpa using h
    · simp [g]
      exact old
theorem sI_id {σ : St} {k j : Nat} : sI σ k j (gI σ k j) = σ := by
  obtain ⟨f, g⟩ := σ
  show ((fun a b => if a = k ∧ b = j then f k j else f a b), g) = (f, g)
  congr 1
  funext a b
  by_cases h : a = k ∧ b = j
  · rw [if_pos h, h.1, h.2]
  · rw [if_neg h]
theorem sf_2 {σ τ : St} {s : Nat} (hI : Inv σ) (hS : s < 4) (fr : ∀ k j, ¬ (j = s ∧ ((41 ≤ k ∧ k ≤ 43) ∨ (61 ≤ k ∧ k ≤ 63))) → gI τ k j = gI σ k j) (eL : ∀ j, gL τ 60 j = gL σ 60 j) (eR : ∀ j, gR τ j = gR σ j) (h : (gI τ 41 s = 0 ∧ gI τ 61 s = 0 ∧ gI τ 42 s = gI τ 62 s) ∨ (gI τ 41 s = 1 ∧ gI τ 61 s = 1 ∧ gI τ 42 s = gI τ 63 s ∧ gI τ 43 s = gI τ 62 s ∧ ∃ k, k < 4 ∧ gI τ 62 s = nI k) ∨ (gI τ 41 s = 2 ∧ gI τ 61 s = -1)) : Inv τ := by
  refine hI.sfx (fun k j h1 h2 => fr k j (by omega)) eL eR ?_
  intro s' hs'
  by_cases g : s' = s
  · rw [g]; exact h
  · rw [fr 41 s' (by omega), fr 61 s' (by omega), fr 42 s' (by omega), fr 62 s' (by omega), fr 63 s' (by omega), fr 43 s' (by omega)]
    exact hI.2.2.2.2.2.2.1 s' hs'
theorem st_shelf : St_shelf Inv := by
  intro σ a1 a2 a3 hI
  have hb := hI.isT
  have ht := hI.t
  obtain ⟨W, hE, hM, hG⟩ := hI.w
  have g2 := hG.1.2
  have hSh : Sh σ := hI.2.2.2.2.2.1
  rcases (sh_arg a1).symm with ⟨-, h1, h2⟩ | ⟨s, hs, rfl, -, h1, h2⟩
  · exact ⟨-1, σ, σ, by unfold fE_shelf; rw [h1, if_pos rfl], by unfold fM_shelf; rw [h2, if_pos rfl], hI⟩
  have i4 : ib (nI s) 4 = true := ib_nI hs (by omega)
  by_cases c0 : a2 = 0
  · subst c0
    rcases (arg a3 (wC W) (by omega)).symm with ho | ⟨c, hc, rfl⟩
    · refine ⟨-1, σ, σ, ?_, ?_, hI⟩
      · unfold fE_shelf fE_shelf_39 fE_shelf_66
        rw [h1, if_neg one_ne, if_pos rfl, if_pos hb, hc_o hE.2.1 g2 ho, if_pos rfl, if_neg (by decide), if_neg (by decide)]
      · unfold fM_shelf fM_isHeld
        rw [h2, if_neg one_ne, if_pos (show (0 : Int32) = 0 from rfl), mc_o hM.2.1 g2 ho, if_pos rfl]
    · refine ⟨1, sI (sI σ 41 s 0) 42 s (nI c), sI (sI (sI (sI (sI σ 41 s 0) 42 s (nI c)) 61 s 0) 62 s (nI c)) 63 s 0, ?_, ?_, ?_⟩
      · unfold fE_shelf fH_holdCoin
        rw [h1, if_neg one_ne, if_pos rfl, if_pos hb, hc_i hE.2.1 g2 hc, if_neg one_ne, if_pos i4, nm_def, if_pos i4, nm_def, bd_some, ix_nI (by omega)]
      · unfold fM_shelf fM_isHeld fM_shelf_46 fM_shelf_47 fM_shelf_68
        rw [h2, if_neg one_ne, if_pos (show (0 : Int32) = 0 from rfl), mc_i (by rw [rd_E (by omega) (by omega), rd_E (by omega) (by omega)]; exact hM.2.1) g2 hc, if_neg one_ne, if_neg (by decide), if_neg (by decide), if_pos i4, nm_def, if_neg (by decide), if_pos i4, nm_def, if_neg (by decide), if_pos i4, nm_def, ix_nI (by omega)]
      · refine sf_2 (s := s) hI hs (fun k j h => ?_) (fun _ => rfl) (fun _ => rfl) (Or.inl ⟨?_, ?_, ?_⟩)
        · simp only [gI_sI]
          rw [if_neg (by omega), if_neg (by omega), if_neg (by omega), if_neg (by omega), if_neg (by omega)]
        · simp [gI_sI]
        · simp [gI_sI]
        · simp [gI_sI]
  by_cases c1 : a2 = 1
  · subst c1
    rcases (sh_arg a3).symm with ⟨k1, k3, k2⟩ | ⟨m, hm, rfl, k1, k3, k2⟩
    · refine ⟨-1, σ, σ, ?_, ?_, hI⟩
      · unfold fE_shelf fE_shelf_39 fE_shelf_66
        rw [h1, if_neg one_ne, if_neg c0, if_pos rfl, k1, if_pos rfl, if_neg (by decide)]
      · unfold fM_shelf fM_isHeld
        rw [h2, if_neg one_ne, if_neg c0, if_pos (show (1 : Int32) = 1 from rfl), k2, if_pos rfl]
    · obtain ⟨x1, x2, x3, -⟩ := hSh m hm
      have m4 : ib (nI m) 4 = true := ib_nI hm (by omega)
      refine ⟨1, sI (sI (sI σ 41 s (if gI σ 34 m = -1 then 2 else 1)) 42 s (gI σ 35 m)) 43 s (gI σ 34 m), sI (sI (sI (sI (sI (sI σ 41 s (if gI σ 34 m = -1 then 2 else 1)) 42 s (gI σ 35 m)) 43 s (gI σ 34 m)) 61 s (if 0 ≤ gI σ 58 m then 1 else -1)) 62 s (gI σ 58 m)) 63 s (gI σ 59 m), ?_, ?_, ?_⟩
      · unfold fE_shelf fE_shelf_39 fH_holdRow
        rw [h1, if_neg one_ne, if_neg c0, if_pos rfl, k1, if_neg one_ne, if_pos m4, if_pos i4, nm_def, if_pos m4, if_pos i4, nm_def, if_pos m4, if_pos i4, nm_def, bd_some, ix_nI (by omega), ix_nI (by omega)]
        rfl
      · unfold fM_shelf fM_isHeld fM_shelf_68
        rw [h2, if_neg one_ne, if_neg c0, if_pos (show (1 : Int32) = 1 from rfl), k2, if_neg one_ne, if_neg (by decide), if_pos rfl, if_pos m4, if_pos i4, nm_def, if_pos rfl, if_pos m4, if_pos i4, nm_def, if_pos rfl, if_pos m4, if_pos i4, nm_def, ix_nI (by omega), ix_nI (by omega)]
        rfl
      · refine sf_2 (s := s) hI hs (fun k j h => ?_) (fun _ => rfl) (fun _ => rfl) ?_
        · simp only [gI_sI]
          rw [if_neg (by omega), if_neg (by omega), if_neg (by omega), if_neg (by omega), if_neg (by omega), if_neg (by omega)]
        · have y41 : gI (sI (sI (sI (sI (sI (sI σ 41 s (if gI σ 34 m = -1 then 2 else 1)) 42 s (gI σ 35 m)) 43 s (gI σ 34 m)) 61 s (if 0 ≤ gI σ 58 m then 1 else -1)) 62 s (gI σ 58 m)) 63 s (gI σ 59 m)) 41 s = (if gI σ 34 m = -1 then 2 else 1) := by simp [gI_sI]
          have y42 : gI (sI (sI (sI (sI (sI (sI σ 41 s (if gI σ 34 m = -1 then 2 else 1)) 42 s (gI σ 35 m)) 43 s (gI σ 34 m)) 61 s (if 0 ≤ gI σ 58 m then 1 else -1)) 62 s (gI σ 58 m)) 63 s (gI σ 59 m)) 42 s = gI σ 35 m := by simp [gI_sI]
          have y43 : gI (sI (sI (sI (sI (sI (sI σ 41 s (if gI σ 34 m = -1 then 2 else 1)) 42 s (gI σ 35 m)) 43 s (gI σ 34 m)) 61 s (if 0 ≤ gI σ 58 m then 1 else -1)) 62 s (gI σ 58 m)) 63 s (gI σ 59 m)) 43 s = gI σ 34 m := by simp [gI_sI]
          have y61 : gI (sI (sI (sI (sI (sI (sI σ 41 s (if gI σ 34 m = -1 then 2 else 1)) 42 s (gI σ 35 m)) 43 s (gI σ 34 m)) 61 s (if 0 ≤ gI σ 58 m then 1 else -1)) 62 s (gI σ 58 m)) 63 s (gI σ 59 m)) 61 s = (if 0 ≤ gI σ 58 m then 1 else -1) := by simp [gI_sI]
          have y62 : gI (sI (sI (sI (sI (sI (sI σ 41 s (if gI σ 34 m = -1 then 2 else 1)) 42 s (gI σ 35 m)) 43 s (gI σ 34 m)) 61 s (if 0 ≤ gI σ 58 m then 1 else -1)) 62 s (gI σ 58 m)) 63 s (gI σ 59 m)) 62 s = gI σ 58 m := by simp [gI_sI]
          have y63 : gI (sI (sI (sI (sI (sI (sI σ 41 s (if gI σ 34 m = -1 then 2 else 1)) 42 s (gI σ 35 m)) 43 s (gI σ 34 m)) 61 s (if 0 ≤ gI σ 58 m then 1 else -1)) 62 s (gI σ 58 m)) 63 s (gI σ 59 m)) 63 s = gI σ 59 m := by simp [gI_sI]
          rw [y41, y42, y43, y61, y62, y63, x1, x2]
          rcases x3 with e | ⟨k, hk, e⟩
          · rw [e]; exact Or.inr (Or.inr ⟨rfl, by decide⟩)
          · rw [e, if_neg (m1_nI (by omega)), if_pos (nI_pos' (by omega))]
            exact Or.inr (Or.inl ⟨rfl, rfl, rfl, rfl, k, hk, rfl⟩)
  by_cases c2 : a2 = 2
  · subst c2
    refine ⟨1, sI σ 41 s 2, sI (sI (sI (sI σ 41 s 2) 61 s (-1)) 62 s a3) 63 s 0, ?_, ?_, ?_⟩
    · unfold fE_shelf fE_shelf_39 fE_shelf_66
      rw [h1, if_neg one_ne, if_neg c0, if_neg c1, if_pos rfl, if_pos i4, nm_def, ix_nI (by omega)]
    · unfold fM_shelf fM_isHeld fM_shelf_42 fM_shelf_47 fM_shelf_68
      rw [h2, if_neg one_ne, if_neg c0, if_neg c1, if_pos (show (2 : Int32) = 2 from rfl), if_neg one_ne, if_pos rfl, if_pos i4, nm_def, if_neg c1, if_pos i4, nm_def, if_neg c1, if_pos i4, nm_def, ix_nI (by omega)]
    · refine sf_2 (s := s) hI hs (fun k j h => ?_) (fun _ => rfl) (fun _ => rfl) (Or.inr (Or.inr ⟨?_, ?_⟩))
      · simp only [gI_sI]
        rw [if_neg (by omega), if_neg (by omega), if_neg (by omega), if_neg (by omega)]
      · simp [gI_sI]
      · simp [gI_sI]
  · refine ⟨-1, σ, σ, ?_, ?_, hI⟩
    · unfold fE_shelf fE_shelf_39 fE_shelf_66
      rw [h1, if_neg one_ne, if_neg c0, if_neg c1, if_neg c2]
    · unfold fM_shelf fM_isHeld
      rw [h2, if_neg one_ne, if_neg c0, if_neg c1, if_neg c2, if_pos rfl]
theorem iu_l {σ τ : St} : ∀ n a b i, fE_isUnder_4 n σ a b i = fE_isUnder_4 n τ a b i
  | 0, _, _, _ => rfl
  | n + 1, a, b, i => by
    unfold fE_isUnder_4
    simp only [nm_def]
    rw [iu_l (σ := σ) (τ := τ) n]
theorem iu_0 : ∀ a, a < 6 → ∀ b, b < 6 → fE_isUnder σ00 (nI a) (nI b) = some (fM_isUnder (nI a) (nI b)) := by decide +kernel
theorem iu {σ : St} {a b : Nat} (ha : a < 6) (hb : b < 6) : fE_isUnder σ (nI a) (nI b) = some (fM_isUnder (nI a) (nI b)) := by
  rw [← iu_0 a ha b hb]
  exact iu_l _ _ _ _
theorem in_1013 (v : Int32) : (fM_in v 10 13 = 1 ∧ ∃ j, 10 ≤ j ∧ j ≤ 13 ∧ v = nI j) ∨ fM_in v 10 13 = 0 := in_ex v 10 13 (by omega) (by omega)
/-- the coin on a shelf -/
theorem on_sh {σ : St} {t s : Nat} {W : Tw} (ht : t = 1 ∨ t = 9) (hr : gR σ 0 = t) (hE : TE σ t W) (hM : TM σ W) (hG : Gd W) (hs : s < 4) (h : Sf σ) : (∃ c, c < wC W ∧ gI σ 42 s = nI c ∧ gI σ 62 s = nI c ∧ gI σ 41 s = 0 ∧ fE_coinOnShelf σ (nI s) = some (nI c) ∧ fM_kindOn σ (nI s) = some (nI (wkd W c))) ∨ (fE_coinOnShelf σ (nI s) = some (-3) ∧ fM_kindOn σ (nI s) = some (-1) ∧ ¬ gI σ 41 s = 1) ∨ (gI σ 41 s = 1 ∧ gI σ 42 s = gI σ 63 s ∧ gI σ 43 s = gI σ 62 s ∧ (∃ k, k < 4 ∧ gI σ 62 s = nI k) ∧ fE_coinOnShelf σ (nI s) = some (-3) ∧ fM_kindOn σ (nI s) = some 9) := by
  have g2 := hG.1.2
  have hb := isT_t ht hr
  have i4 : ib (nI s) 4 = true := ib_nI hs (by omega)
  unfold fE_coinOnShelf fE_coinOnShelf_35 fE_coinOnShelf_36 fM_kindOn
  rw [if_pos i4, if_pos i4, if_pos i4, if_pos i4, if_pos i4, if_pos i4, if_pos i4, if_pos hb, nm_def, ix_nI (by omega), hr]
  rcases h s hs with ⟨e1, e2, e3⟩ | ⟨e1, e2, e3, e4, e5⟩ | ⟨e1, e2⟩
  · rw [e1, e2, e3, if_pos rfl, if_pos rfl]
    rcases (arg (gI σ 62 s) (wC W) (by omega)).symm with ho | ⟨c, hc, e⟩
    · rw [hc_o hE.2.1 g2 ho, mc_o hM.2.1 g2 ho]
      exact Or.inr (Or.inl ⟨rfl, rfl, by decide⟩)
    · rw [e, hc_i hE.2.1 g2 hc, mc_i hM.2.1 g2 hc, (M_its hM hG hc).1]
      exact Or.inl ⟨c, hc, rfl, rfl, rfl, rfl, rfl⟩
  · rw [e1, e2]
    exact Or.inr (Or.inr ⟨rfl, e3, e4, e5, rfl, rfl⟩)
  · rw [e1, e2]
    exact Or.inr (Or.inl ⟨rfl, rfl, by decide⟩)
theorem st_taken : St_taken Inv := by
  intro σ a1 a2 hI
  have hb := hI.isT
  have ht := hI.t
  obtain ⟨W, hE, hM, hG⟩ := hI.w
  have g2 := hG.1.2
  have hSf : Sf σ := hI.2.2.2.2.2.2.1
  have ev1 : (if a2 < (10 : Int32) then (0 : Int32) else (if (13 : Int32) < a2 then (0 : Int32) else (1 : Int32))) = fM_in a2 10 13 := rfl
  rcases (sh_arg a1).symm with ⟨-, h1, h2⟩ | ⟨s, hs, rfl, -, h1, h2⟩
  · exact ⟨-1, σ, σ, ⟨by unfold fE_taken; rw [nm_def, h1, if_pos rfl], rfl⟩, ⟨by unfold fM_taken; rw [h2, if_pos rfl], rfl⟩, hI⟩
  have i4 : ib (nI s) 4 = true := ib_nI hs (by omega)
  have key : (fM_in a2 0 5 = 0 ∧ fM_in a2 10 13 = 0) ∨ ((fM_in a2 10 13 = 0 ∧ ∃ k, k < 6 ∧ a2 = nI k) ∨ (fM_in a2 10 13 = 1 ∧ ∃ j, 10 ≤ j ∧ j ≤ 13 ∧ a2 = nI j)) → ∃ r, fE_taken σ (nI s) a2 = some r ∧ fM_taken σ (nI s) a2 = some r := by
    intro hk
    unfold fE_taken fM_taken
    rw [nm_def, ev1, h1, h2, if_neg one_ne, if_neg one_ne, isKind_in]
    rcases hk with ⟨u1, u2⟩ | hk
    · rw [u1, u2]; exact ⟨-1, rfl, rfl⟩
    have red : ∀ (X Y : Option Int32), (∃ r, X = some r ∧ Y = some r) → ∃ r, (if fM_in a2 0 5 = 0 then (if fM_in a2 10 13 = 0 then some (-1) else X) else X) = some r ∧ (if fM_in a2 0 5 = 0 then (if fM_in a2 10 13 = 0 then some (-1) else Y) else Y) = some r := by
      intro X Y hXY
      rcases hk with ⟨u1, k, hk6, rfl⟩ | ⟨u1, -⟩
      · have : ¬ fM_in (nI k) 0 5 = 0 := by
          rcases kd6 hk6 with rfl | rfl | rfl | rfl | rfl | rfl <;> decide
        rw [if_neg this, if_neg this]; exact hXY
      · rw [u1, if_neg one_ne, if_neg one_ne]
        by_cases z : fM_in a2 0 5 = 0
        · rw [if_pos z, if_pos z]; exact hXY
        · rw [if_neg z, if_neg z]; exact hXY
    refine red _ _ ?_
    unfold fE_taken_42 fM_taken_29
    rw [if_pos i4, if_pos i4, if_pos i4, if_pos i4, if_pos i4, if_pos i4, ix_nI (by omega)]
    rcases on_sh ht rfl hE hM hG hs hSf with ⟨c, hc, e1, e2, e3, e4, e5⟩ | ⟨e1, e2, e3⟩ | ⟨e1, e2, e3, ⟨k, hk4, e6⟩, e4, e5⟩
    · have k1 := (hG.2.2.2 c hc).1
      rw [e3, if_neg (by decide), e4, e5, bd_some, bd_some, if_pos (nI_pos' (by omega)), if_pos (nI_pos' (by omega)), if_neg (show ¬ nI (wkd W c) = 9 from fun z => by have := (nI_eq (b := 9) (by omega) (by omega)).mp z; omega), if_pos hb, if_pos (ib_nI (by omega) (by omega)), ix_nI (by omega), (hE.2.2.2.2 c hc).1, e2]
      rcases hk with ⟨u1, k, hk6, rfl⟩ | ⟨u1, j, j1, j2, rfl⟩
      · rw [u1, if_pos rfl, iu k1 hk6, bd_some, if_neg (show ¬ (10 : Int32) ≤ nI k from nI_ge (b := 10) (by omega) (by omega))]
        by_cases z : fM_isUnder (nI (wkd W c)) (nI k) = 0
        · rw [if_pos z, if_pos z]; exact ⟨_, rfl, rfl⟩
        · rw [if_neg z, if_neg z]; exact ⟨_, rfl, rfl⟩
      · rw [u1, if_neg one_ne, if_pos (show (10 : Int32) ≤ nI j from nI_le (a := 10) (by omega) (by omega))]
        exact ⟨_, rfl, rfl⟩
    · rw [if_neg e3, e1, e2, bd_some, bd_some]
      exact ⟨-11, rfl, rfl⟩
    · rw [if_pos e1, e5, bd_some, if_pos (show (0 : Int32) ≤ 9 by decide), if_pos (show (9 : Int32) = 9 from rfl), e2, e3, e6]
      rcases hk with ⟨u1, k', hk6, rfl⟩ | ⟨u1, j, j1, j2, rfl⟩
      · rw [u1, if_pos rfl, show (10 : Int32) + nI k = nI (10 + k) from nI_add 10 k, if_neg (fun z => by have := (nI_eq (by omega) (by omega)).mp z; omega)]
        exact ⟨-13, rfl, rfl⟩
      · rw [u1, if_neg one_ne, show (10 : Int32) + nI k = nI (10 + k) from nI_add 10 k, show nI j - (10 : Int32) = nI (j - 10) from pk_sub (b := 10) (by omega)]
        by_cases z : j = 10 + k
        · rw [if_pos (by rw [z, show 10 + k - 10 = k by omega]), if_pos (by rw [z])]
          exact ⟨_, rfl, rfl⟩
        · rw [if_neg (fun w => z (by have := (nI_eq (by omega) (by omega)).mp w; omega)), if_neg (fun w => z ((nI_eq (by omega) (by omega)).mp w))]
          exact ⟨_, rfl, rfl⟩
  have hcase : (fM_in a2 0 5 = 0 ∧ fM_in a2 10 13 = 0) ∨ ((fM_in a2 10 13 = 0 ∧ ∃ k, k < 6 ∧ a2 = nI k) ∨ (fM_in a2 10 13 = 1 ∧ ∃ j, 10 ≤ j ∧ j ≤ 13 ∧ a2 = nI j)) := by
    rcases in_1013 a2 with ⟨u, v⟩ | u
    · exact Or.inr (Or.inr ⟨u, v⟩)
    · rcases in_05 a2 with ⟨-, v⟩ | v
      · exact Or.inr (Or.inl ⟨u, v⟩)
      · exact Or.inl ⟨v, u⟩
  obtain ⟨r, r1, r2⟩ := key hcase
  exact ⟨r, σ, σ, ⟨r1, rfl⟩, ⟨r2, rfl⟩, hI⟩
/-- held to 0 to 9 -/
def cl9 (v : Int32) : Nat := if v.toInt < 0 then 0 else if 9 < v.toInt then 9 else v.toInt.toNat
theorem cl9_lt (v : Int32) : cl9 v < 10 := by
  unfold cl9
  repeat' split
  all_goals omega
theorem cl9_e (v : Int32) : mmax 0 (mmin 9 v) = nI (cl9 v) := by
  rw [eq_i, nI_toInt (by have := cl9_lt v; omega)]
  unfold mmax mmin cl9
  simp only [lt_i]
  have e0 : (0 : Int32).toInt = 0 := rfl
  have e9 : (9 : Int32).toInt = 9 := rfl
  repeat' split
  all_goals omega
theorem cl9_m (v : Int32) : (if 0 ≤ (lg_cmp v.toInt64 (0 : Int64)) then (if (lg_cmp v.toInt64 (9 : Int64)) ≤ 0 then v.toInt64.toInt32 else (9 : Int32)) else (0 : Int32)) = nI (cl9 v) := by
  simp only [lg_cmp_ge, lg_cmp_le, i64_back, Int64.le_iff_toInt_le, Int32.toInt_toInt64]
  rw [show (0 : Int64).toInt = 0 from rfl, show (9 : Int64).toInt = 9 from rfl, eq_i, nI_toInt (by have := cl9_lt v; omega)]
  unfold cl9
  have e0 : (0 : Int32).toInt = 0 := rfl
  have e9 : (9 : Int32).toInt = 9 := rfl
  repeat' split
  all_goals omega
/-- ranks from p on become g 0, g 1, .. up to k of them -/
def rkW (W : Tw) (p : Nat) (g : Nat → Nat) (k : Nat) : Tw := (wP W, wC W, wz W, fun j => if p ≤ j ∧ j < p + k then g (j - p) else wrk W j, wsi W, wkn W, wkd W, wav W, who W, wha W)
theorem rkW_s {W : Tw} {p k j : Nat} {g : Nat → Nat} : wrk (rkW W p g (k + 1)) j = if j = p + k then g k else wrk (rkW W p g k) j := by
  show (if p ≤ j ∧ j < p + (k + 1) then g (j - p) else wrk W j) = if j = p + k then g k else (if p ≤ j ∧ j < p + k then g (j - p) else wrk W j)
  by_cases e : j = p + k
  · rw [if_pos (by omega), if_pos e, show j - p = k by omega]
  · rw [if_neg e]
    by_cases e2 : p ≤ j ∧ j < p + k
    · rw [if_pos (by omega), if_pos e2]
    · rw [if_neg (by omega), if_neg e2]
theorem TE_rk {σ : St} {t p k : Nat} {g : Nat → Nat} {W : Tw} (h : TE σ t (rkW W p g k)) : TE (sI σ (t + 1) (p + k) (nI (g k))) t (rkW W p g (k + 1)) := by
  obtain ⟨a1, a2, a3, a4, a5⟩ := h
  refine ⟨by rw [gI_o (by omega)]; exact a1, by rw [gI_o (by omega)]; exact a2, by rw [gI_o (by omega)]; exact a3, fun j hj => ?_, fun c hc => ?_⟩
  · obtain ⟨b1, b2, b3⟩ := a4 j hj
    refine ⟨?_, by rw [gI_o (by omega)]; exact b2, by rw [gI_o (by omega)]; exact b3⟩
    rw [rkW_s]
    by_cases e : j = p + k
    · rw [if_pos e, e, gI_s]
    · rw [if_neg e, gI_p e]; exact b1
  · rw [gI_o (by omega), gI_o (by omega), gI_o (by omega), gI_o (by omega)]; exact a5 c hc
theorem TM_rk {σ : St} {p k : Nat} {g : Nat → Nat} {W : Tw} (h : TM σ (rkW W p g k)) : TM (sI σ 45 (p + k) (nI (g k))) (rkW W p g (k + 1)) := by
  obtain ⟨a1, a2, a3, a4, a5⟩ := h
  refine ⟨by rw [gI_o (by omega)]; exact a1, by rw [gI_o (by omega)]; exact a2, by rw [gI_o (by omega)]; exact a3, fun j hj => ?_, fun c hc => ?_⟩
  · obtain ⟨b1, b2, b3⟩ := a4 j hj
    refine ⟨?_, by rw [gI_o (by omega)]; exact b2, by rw [gI_o (by omega)]; exact b3⟩
    rw [rkW_s]
    by_cases e : j = p + k
    · rw [if_pos e, e, gI_s]
    · rw [if_neg e, gI_p e]; exact b1
  · rw [gI_o (by omega), gI_o (by omega), gI_o (by omega), gI_o (by omega)]; exact a5 c hc
theorem Gd_rk {W : Tw} {p k : Nat} {g : Nat → Nat} (hG : Gd W) (hg : ∀ j, g j < 10) : Gd (rkW W p g k) := by
  obtain ⟨a, b, c, d⟩ := hG
  refine ⟨a, fun q hq => ⟨?_, (b q hq).2⟩, c, d⟩
  show (if p ≤ q ∧ q < p + k then g (q - p) else wrk W q) < 10
  by_cases e : p ≤ q ∧ q < p + k
  · rw [if_pos e]; exact hg _
  · rw [if_neg e]; exact (b q hq).1
theorem rkW_0 {W : Tw} {p : Nat} {g : Nat → Nat} : rkW W p g 0 = W := by
  have e : (fun j => if p ≤ j ∧ j < p + 0 then g (j - p) else wrk W j) = wrk W := by
    funext j
    rw [if_neg (by omega)]
  unfold rkW
  rw [e]
  rfl
theorem E_rk_l {t s p i n0 : Nat} {W : Tw} {v : Nat → Int32} (ht : t = 1 ∨ t = 9) (hs : s < 4) (hp : p + n0 ≤ 7) (hi : i + n0 ≤ 40) : ∀ n m k σ, m + k = n0 → m < n → gR σ 0 = t → TE σ t (rkW W p (fun j => cl9 (v j)) k) → (∀ j, j < n0 → gI σ (37 + s) (i + j) = v j) → ∃ τ, fE_ranks_95 n σ (nI s) (nI i) (nI p) (nI n0) (nI k) = some (nI n0, τ) ∧ TE τ t (rkW W p (fun j => cl9 (v j)) n0) ∧ PE σ τ
  | 0, m, k, σ, h1, h2, hr, hE, hv => by omega
  | n + 1, 0, k, σ, h1, h2, hr, hE, hv => by
    unfold fE_ranks_95
    rw [if_pos (nI_le (by omega) (by omega))]
    have : k = n0 := by omega
    rw [this] at hE
    exact ⟨σ, rfl, hE, PE.rf⟩
  | n + 1, m + 1, k, σ, h1, h2, hr, hE, hv => by
    have hvk : gI σ (36 + 1 + s) (i + k) = v k := hv k (by omega)
    unfold fE_ranks_95
    rw [if_neg (nI_ge (by omega) (by omega)), if_pos (isT_t ht hr), if_pos (ib_nI hs (by omega)), nI_add, if_pos (ib_nI (by omega) (by omega)), nI_add, if_pos (ib_nI (by omega) (by omega)), nm_def, nm_def, ix_nI (by omega), ix_nI (by omega), ix_nI (by omega), nI_1, hr, hvk, cl9_e]
    obtain ⟨τ, r1, r2, r3⟩ := E_rk_l ht hs hp hi n m (k + 1) (sI σ (t + 1) (p + k) (nI (cl9 (v k)))) (by omega) (by omega) hr (TE_rk (g := fun j => cl9 (v j)) hE) (fun j hj => by rw [gI_o (by omega)]; exact hv j hj)
    exact ⟨τ, r1, r2, PE.tr (PE.rf.s (by omega)) r3⟩
theorem M_rk_l {s p i n0 : Nat} {W : Tw} {v : Nat → Int32} (hs : s < 4) (hp : p + n0 ≤ 7) (hi : i + n0 ≤ 40) : ∀ n m k σ, m + k = n0 → m < n → TM σ (rkW W p (fun j => cl9 (v j)) k) → (∀ j, j < n0 → gL σ 60 (40 * s + (i + j)) = (v j).toInt64) → ∃ τ, fM_ranks_78 n σ (nI s) (nI i) (nI p) (nI n0) (nI k) = some (nI n0, τ) ∧ TM τ (rkW W p (fun j => cl9 (v j)) n0) ∧ PM σ τ
  | 0, m, k, σ, h1, h2, hM, hv => by omega
  | n + 1, 0, k, σ, h1, h2, hM, hv => by
    unfold fM_ranks_78
    rw [if_pos (nI_le (by omega) (by omega))]
    have : k = n0 := by omega
    rw [this] at hM
    exact ⟨σ, rfl, hM, PM.rf⟩
  | n + 1, m + 1, k, σ, h1, h2, hM, hv => by
    have hvk := hv k (by omega)
    unfold fM_ranks_78
    rw [if_neg (nI_ge (by omega) (by omega)), e40, nI_add, show 40 * s + i + k = 40 * s + (i + k) by omega, if_pos (ib_nI (by omega) (by omega)), nm_def, nI_add, if_pos (ib_nI (by omega) (by omega)), nm_def, nm_def, ix_nI (by omega), ix_nI (by omega), nI_1, hvk, cl9_m]
    obtain ⟨τ, r1, r2, r3⟩ := M_rk_l hs hp hi n m (k + 1) (sI σ 45 (p + k) (nI (cl9 (v k)))) (by omega) (by omega) (TM_rk (g := fun j => cl9 (v j)) hM) (fun j hj => by rw [gL_sI]; exact hv j hj)
    exact ⟨τ, r1, r2, PM.tr (PM.rf.s (by omega)) r3⟩
theorem in_07 (v : Int32) : (fM_in v 0 7 = 1 ∧ ∃ j, j ≤ 7 ∧ v = nI j) ∨ fM_in v 0 7 = 0 := by
  rcases in_ex v 0 7 (by omega) (by omega) with ⟨h, j, -, h2, h3⟩ | h
  · exact Or.inl ⟨h, j, h2, h3⟩
  · exact Or.inr h
theorem st_ranks : St_ranks Inv := by
  intro σ a1 a2 a3 a4 hI
  have hb := hI.isT
  have ht := hI.t
  obtain ⟨W, hE, hM, hG⟩ := hI.w
  have g1 := hG.1.1
  have hSh : Sh σ := hI.2.2.2.2.2.1
  rcases (sh_arg a1).symm with ⟨h1, -, h2⟩ | ⟨s, hs, rfl, h1, -, h2⟩
  · exact ⟨-1, σ, σ, by unfold fE_ranks; rw [h1, if_pos rfl], by unfold fM_ranks; rw [h2, if_pos rfl], hI⟩
  rcases (arg a3 (wP W) (by omega)).symm with ho | ⟨p, hp, rfl⟩
  · refine ⟨-1, σ, σ, ?_, ?_, hI⟩
    · unfold fE_ranks
      rw [h1, if_neg one_ne, if_pos hb, hp_o hE.1 g1 ho, if_pos rfl]
    · unfold fM_ranks
      rw [h2, if_neg one_ne, mp_o hM.1 g1 ho, if_pos rfl]
  rcases (in_07 a4).symm with ho | ⟨hin, n, hn, rfl⟩
  · refine ⟨-1, σ, σ, ?_, ?_, hI⟩
    · have h3 := in_zero ho
      rw [show (0 : Int32).toInt = 0 from rfl, show (7 : Int32).toInt = 7 from rfl] at h3
      unfold fE_ranks
      rw [h1, if_neg one_ne, if_pos hb, hp_i hE.1 g1 hp, if_neg one_ne]
      by_cases g : a4 < 0
      · rw [if_pos g]
      · rw [if_neg g, if_pos]
        rw [lt_i, show (0 : Int32).toInt = 0 from rfl] at g
        rw [lt_i, show (7 : Int32).toInt = 7 from rfl]
        omega
    · unfold fM_ranks
      rw [h2, if_neg one_ne, mp_i hM.1 g1 hp, if_neg one_ne, ho, if_pos rfl]
  have n0 : ¬ nI n < 0 := nI_pos (by omega)
  have n7 : ¬ (7 : Int32) < nI n := nI_nlt (a := 7) (by omega) (by omega)
  by_cases hpn : p + n ≤ wP W
  rotate_left
  · refine ⟨-1, σ, σ, ?_, ?_, hI⟩
    · unfold fE_ranks
      rw [h1, if_neg one_ne, if_pos hb, hp_i hE.1 g1 hp, if_neg one_ne, if_neg n0, if_neg n7, if_pos hb, nI_add, hE.1, if_neg (nI_ge (by omega) (by omega))]
    · unfold fM_ranks
      rw [h2, if_neg one_ne, mp_i hM.1 g1 hp, if_neg one_ne, hin, if_neg one_ne, nI_add, hM.1, if_neg (nI_ge (by omega) (by omega))]
  obtain ⟨x, x1, x2, x3⟩ := refus hSh hs 2
  obtain ⟨a, b, c, N, hN, d2, d3⟩ := hSh s hs
  have E0 : fE_ranks σ (nI s) a2 (nI p) (nI n) = (if x = 0 then (if a2 < 0 then some (-12, σ) else if a2 ≤ nI N - nI n then fE_ranks_95 300 σ (nI s) a2 (nI p) (nI n) 0 else some (-12, σ)) else some (x, σ)) := by
    unfold fE_ranks
    rw [h1, if_neg one_ne, if_pos hb, hp_i hE.1 g1 hp, if_neg one_ne, if_neg n0, if_neg n7, if_pos hb, nI_add, hE.1, if_pos (nI_le hpn (by omega)), x1, bd_some, if_pos (ib_nI hs (by omega)), ix_nI (by omega), b, d2]
  have M0 : ∀ τ, TM τ W → gI τ 59 s = nI N → fM_lacksSort τ (nI s) 2 = some x → fM_ranks τ (nI s) a2 (nI p) (nI n) = (if x = 0 then (if a2 < 0 then some (-12, τ) else if a2 ≤ nI N - nI n then fM_ranks_78 300 τ (nI s) a2 (nI p) (nI n) 0 else some (-12, τ)) else some (x, τ)) := fun τ u1 u2 u3 => by
    unfold fM_ranks
    rw [h2, if_neg one_ne, mp_i u1.1 g1 hp, if_neg one_ne, hin, if_neg one_ne, nI_add, u1.1, if_pos (nI_le hpn (by omega)), u3, bd_some, if_pos (ib_nI hs (by omega)), ix_nI (by omega), u2]
  by_cases hx : x = 0
  rotate_left
  · exact ⟨x, σ, σ, by rw [E0, if_neg hx], by rw [M0 σ hM d2 x2, if_neg hx], hI⟩
  by_cases hin2 : a2 < 0
  · exact ⟨-12, σ, σ, by rw [E0, if_pos hx, if_pos hin2], by rw [M0 σ hM d2 x2, if_pos hx, if_pos hin2], hI⟩
  by_cases hle : a2 ≤ nI N - nI n
  rotate_left
  · exact ⟨-12, σ, σ, by rw [E0, if_pos hx, if_neg hin2, if_neg hle], by rw [M0 σ hM d2 x2, if_pos hx, if_neg hin2, if_neg hle], hI⟩
  obtain ⟨i, hi, rfl⟩ : ∃ i, i + n ≤ N ∧ a2 = nI i := by
    have h3 := hle
    rw [le_i, pk_sub_toInt (by omega) (by omega)] at h3
    have h4 := hin2
    rw [lt_i, show (0 : Int32).toInt = 0 from rfl] at h4
    refine ⟨a2.toInt.toNat, by omega, ?_⟩
    rw [eq_i, nI_toInt (by omega)]
    omega
  obtain ⟨σ1, r1, r2, r3⟩ := E_rk_l (W := W) (v := fun j => gI σ (37 + s) (i + j)) ht hs (show p + n ≤ 7 by omega) (show i + n ≤ 40 by omega) 300 n 0 σ (by omega) (by omega) rfl (by rw [rkW_0]; exact hE) (fun j hj => rfl)
  have hM1 := hM.e r3
  obtain ⟨σ2, s1, s2, s3⟩ := M_rk_l (W := W) (v := fun j => gI σ (37 + s) (i + j)) hs (show p + n ≤ 7 by omega) (show i + n ≤ 40 by omega) 300 n 0 σ1 (by omega) (by omega) (by rw [rkW_0]; exact hM1) (fun j hj => by rw [r3.2.1]; exact (d3 (i + j) (by omega)).symm)
  refine ⟨nI n, σ1, σ2, by rw [E0, if_pos hx, if_neg hin2, if_pos hle]; exact r1, ?_, hI.st r3 s3 r2 s2 (Gd_rk hG (fun j => cl9_lt _))⟩
  rw [M0 σ1 hM1 (by rw [r3.1 59 s (by omega) (by omega)]; exact d2) ?_, if_pos hx, if_neg hin2, if_pos hle]
  · exact s1
  · rw [← x2]
    unfold fM_lacksSort
    rw [if_pos (ib_nI hs (by omega)), if_pos (ib_nI hs (by omega)), if_pos (ib_nI hs (by omega)), if_pos (ib_nI hs (by omega)), ix_nI (by omega), r3.1 58 s (by omega) (by omega)]
