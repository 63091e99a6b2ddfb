/-! friend -/
theorem kx_kx {W : Tw} {a b : Nat} (hab : ¬ a = b) : kx (kx W a b) a b = W := by
  have e : wkn (kx (kx W a b) a b) = wkn W := by
    funext j
    apply nat_ext
    intro q
    rw [kx_bit hab, kx_bit hab]
    cases (wkn W j).testBit q <;> cases ((decide (j = a) && decide (q = b)) || (decide (j = b) && decide (q = a))) <;> rfl
  show (wP W, wC W, wz W, wrk W, wsi W, wkn (kx (kx W a b) a b), wkd W, wav W, who W, wha W) = W
  rw [e]
  rfl
theorem kx_ab {W : Tw} {a b : Nat} (hab : ¬ a = b) (h : (wkn W a).testBit b = false) : (wkn (kx W a b) a).testBit b = true := by
  rw [kx_bit hab, h]
  simp
def lia (W : Tw) (c a b : Nat) : Nat := if (wkn W a).testBit b = true then 0 else lfc (kx W a b) c
theorem E_lia {σ : St} {t c a b : Nat} {W : Tw} (ht : t = 1 ∨ t = 9) (hr : gR σ 0 = t) (hE : TE σ t W) (hG : Gd W) (hc : c < wC W) (ha : a < wP W) (hb : b < wP W) (hab : ¬ a = b) : ∃ τ, fE_leftIfAcquainted σ (nI c) (nI a) (nI b) = some (nI (lia W c a b), τ) ∧ gR τ 0 = t ∧ TE τ t W ∧ PE σ τ := by
  have g1 := hG.1.1
  have h7 := p27 g1
  have hk := (hG.2.1 a ha).2.1
  have ea : fT_areAcquainted σ t (nI a) (nI b) = some (b2i ((wkn W a).testBit b)) := by
    unfold fT_areAcquainted
    rw [if_pos (ib_nI (by omega) (by omega)), ix_nI (by omega), (hE.2.2.2.1 a ha).2.2, hold_nI (by omega) (by omega)]
  unfold fE_leftIfAcquainted lia
  rw [if_pos (isT_t ht hr), if_pos (isT_t ht hr), hr, ea, bd_some]
  by_cases q : (wkn W a).testBit b = true
  · rw [q, b2t, if_neg one_ne, if_pos rfl]
    exact ⟨σ, rfl, hr, hE, PE.rf⟩
  have q' : (wkn W a).testBit b = false := by simpa using q
  rw [q', b2f, if_pos rfl, if_neg (by decide), E_acq hE hG ha hb hab (Or.inl ⟨rfl, q'⟩), bd_some]
  have e1 := TE_kx hE hab
  have gk := Gd_kx hG ha hb hab
  obtain ⟨τ1, r1, r2, r3, r4, r5, r6⟩ := E_lk (w := 0) (c := c) ht (show gR (sI (sI σ (t + 3) a (nI (wkn W a ^^^ 2 ^ b))) (t + 3) b (nI (wkn W b ^^^ 2 ^ a))) 0 = t from hr) e1 gk hc (by decide)
  rw [lfc_vw gk hc] at r1
  have e2 := TE_kx r6 hab
  rw [kx_kx hab] at e2
  rw [show fE_look _ (nI c) 0 = _ from r1, bi_some, if_pos (isT_t ht r5), r5, E_acq r6 gk ha hb hab (Or.inr ⟨rfl, kx_ab hab q'⟩), bd_some]
  refine ⟨_, rfl, r5, e2, ?_⟩
  exact ((PE.tr ((PE.rf.s (by omega)).s (by omega)) r4.pe).s (by omega)).s (by omega)
theorem M_lia {σ : St} {c a b : Nat} {W : Tw} (hM : TM σ W) (hG : Gd W) (hc : c < wC W) (ha : a < wP W) (hb : b < wP W) (hab : ¬ a = b) : ∃ τ1 τ2 τ3, fM_swapsKnow σ (nI a) (nI b) = some τ1 ∧ fM_leftOf τ1 (nI c) = some (nI (lfc (kx W a b) c), τ2) ∧ fM_swapsKnow τ2 (nI a) (nI b) = some τ3 ∧ TM τ3 W ∧ PM σ τ3 := by
  have m1 := TM_kx hM hab
  have gk := Gd_kx hG ha hb hab
  obtain ⟨τ2, r1, r2, -⟩ := M_left (c := c) m1 gk hc
  rw [lfc_vw gk hc] at r1
  have m2 := m1.l r2
  have m3 := TM_kx m2 hab
  rw [kx_kx hab] at m3
  refine ⟨_, τ2, _, M_swp hM hG ha hb hab, r1, M_swp m2 gk ha hb hab, m3, ?_⟩
  exact ((PM.tr ((PM.rf.s (by omega)).s (by omega)) r2.pm).s (by omega)).s (by omega)
def fs (W : Tw) (c a b : Nat) (x : Int32 × Nat) : Int32 × Nat := if (wkn W a).testBit b = true then x else if lfc (kx W a b) c ≤ x.2 then x else (nI (10 * a + b), lfc (kx W a b) c)
def fnn (W : Tw) (c a : Nat) : Nat → Nat → Int32 × Nat → Int32 × Nat
  | 0, _, x => x
  | m + 1, b, x => fnn W c a m (b + 1) (fs W c a b x)
def fou (W : Tw) (c : Nat) : Nat → Nat → Int32 × Nat → Int32 × Nat
  | 0, _, x => x
  | m + 1, a, x => fou W c m (a + 1) (fnn W c a m (a + 1) x)
theorem fs_6 {W : Tw} {c a b : Nat} {x : Int32 × Nat} (hG : Gd W) (hc : c < wC W) (ha : a < wP W) (hb : b < wP W) (hab : ¬ a = b) (hx : x.2 ≤ 6) : (fs W c a b x).2 ≤ 6 := by
  have := lfc_6 (c := c) (Gd_kx hG ha hb hab) hc
  unfold fs
  repeat' split
  · exact hx
  · exact hx
  · exact this
theorem fnn_6 {W : Tw} {c a : Nat} (hG : Gd W) (hc : c < wC W) (ha : a < wP W) : ∀ m b x, m + b = wP W → a < b → x.2 ≤ 6 → (fnn W c a m b x).2 ≤ 6
  | 0, _, x, _, _, hx => hx
  | m + 1, b, x, h1, h2, hx => fnn_6 hG hc ha m (b + 1) _ (by omega) (by omega) (fs_6 hG hc ha (by omega) (by omega) hx)
theorem e10 (a b : Nat) : (10 : Int32) * nI a + nI b = nI (10 * a + b) := by
  rw [show (10 : Int32) = nI 10 from rfl, pk_mul, nI_add]
theorem E_fnn {t c a : Nat} {W : Tw} {K : St → Int32 → Int32 → Int32 → Int32 → Option (Int32 × St)} (ht : t = 1 ∨ t = 9) (hG : Gd W) (hc : c < wC W) (ha : a < wP W) : ∀ n m b x σ, gR σ 0 = t → TE σ t W → m + b = wP W → a < b → m < n → x.2 ≤ 6 → ∃ τ, fE_friend_44 n σ (nI c) x.1 (nI x.2) (nI a) (nI b) K = K τ (nI c) (fnn W c a m b x).1 (nI (fnn W c a m b x).2) (nI a) ∧ gR τ 0 = t ∧ TE τ t W ∧ PE σ τ
  | 0, m, b, x, σ, hr, hE, h1, h3, h2, hx => by omega
  | n + 1, 0, b, x, σ, hr, hE, h1, h3, h2, hx => by
    have g1 := hG.1.1
    unfold fE_friend_44
    rw [if_pos (isT_t ht hr), hr, hE.1, if_pos (nI_le (by omega) (by omega))]
    exact ⟨σ, rfl, hr, hE, PE.rf⟩
  | n + 1, m + 1, b, x, σ, hr, hE, h1, h3, h2, hx => by
    have g1 := hG.1.1
    have l6 := lfc_6 (c := c) (Gd_kx hG ha (show b < wP W by omega) (show ¬ a = b by omega)) hc
    obtain ⟨τ1, r1, r2, r3, r4⟩ := E_lia ht hr hE hG hc ha (show b < wP W by omega) (show ¬ a = b by omega)
    obtain ⟨τ, s1, s2, s3, s4⟩ := E_fnn (K := K) ht hG hc ha n m (b + 1) (fs W c a b x) τ1 r2 r3 (by omega) (by omega) (by omega) (fs_6 hG hc ha (by omega) (by omega) hx)
    refine ⟨τ, ?_, s2, s3, PE.tr r4 s4⟩
    unfold fE_friend_44
    rw [if_pos (isT_t ht hr), hr, hE.1, if_neg (nI_ge (by omega) (by omega)), r1, bi_some, nm_def, nm_def, nm_def, nI_1, e10]
    unfold lia
    unfold fs at s1
    by_cases q : (wkn W a).testBit b = true
    · simp only [if_pos q] at s1 ⊢
      rw [if_pos (nI_le (by omega) (by omega))]
      show _ = K τ (nI c) (fnn W c a m (b + 1) (fs W c a b x)).1 (nI (fnn W c a m (b + 1) (fs W c a b x)).2) (nI a)
      unfold fs
      rw [if_pos q]
      exact s1
    · simp only [if_neg q] at s1 ⊢
      show _ = K τ (nI c) (fnn W c a m (b + 1) (fs W c a b x)).1 (nI (fnn W c a m (b + 1) (fs W c a b x)).2) (nI a)
      unfold fs
      rw [if_neg q]
      by_cases q2 : lfc (kx W a b) c ≤ x.2
      · rw [if_pos (nI_le q2 (by omega)), if_pos q2]
        rw [if_pos q2] at s1
        exact s1
      · rw [if_neg (nI_ge (by omega) (by omega)), if_neg q2]
        rw [if_neg q2] at s1
        exact s1
theorem E_fou {t c : Nat} {W : Tw} (ht : t = 1 ∨ t = 9) (hG : Gd W) (hc : c < wC W) : ∀ n m a x σ, gR σ 0 = t → TE σ t W → m + a = wP W → m < n → x.2 ≤ 6 → ∃ τ, fE_friend_26 n σ (nI c) x.1 (nI x.2) (nI a) = some ((fou W c m a x).1, τ) ∧ TE τ t W ∧ PE σ τ
  | 0, m, a, x, σ, hr, hE, h1, h2, hx => by omega
  | n + 1, 0, a, x, σ, hr, hE, h1, h2, hx => by
    have g1 := hG.1.1
    unfold fE_friend_26
    rw [if_pos (isT_t ht hr), hr, hE.1, if_pos (nI_le (by omega) (by omega))]
    exact ⟨σ, rfl, hE, PE.rf⟩
  | n + 1, m + 1, a, x, σ, hr, hE, h1, h2, hx => by
    have g1 := hG.1.1
    unfold fE_friend_26
    rw [if_pos (isT_t ht hr), hr, hE.1, if_neg (nI_ge (by omega) (by omega)), nm_def, nI_1]
    obtain ⟨τ1, r1, r2, r3, r4⟩ := E_fnn (K := fun σ16 y17 y18 y19 y20 => nm (y20 + (1 : Int32)) fun v21 => fE_friend_26 n σ16 y17 y18 y19 v21) ht hG hc (show a < wP W by omega) 300 m (a + 1) x σ hr hE (by omega) (by omega) (by omega) hx
    obtain ⟨τ, s1, s2, s3⟩ := E_fou ht hG hc n m (a + 1) (fnn W c a m (a + 1) x) τ1 r2 r3 (by omega) (by omega) (fnn_6 hG hc (by omega) m (a + 1) x (by omega) (by omega) hx)
    refine ⟨τ, ?_, s2, PE.tr r4 s3⟩
    rw [r1, nm_def, nI_1]
    exact s1
theorem M_fnn {c a : Nat} {W : Tw} {K : St → Int32 → Int32 → Int32 → Int32 → Option (Int32 × St)} (hG : Gd W) (hc : c < wC W) (ha : a < wP W) : ∀ n m b x σ, TM σ W → m + b = wP W → a < b → m < n → x.2 ≤ 6 → ∃ τ, fM_friend_37 n σ (nI c) (nI x.2) x.1 (nI a) (nI b) K = K τ (nI c) (nI (fnn W c a m b x).2) (fnn W c a m b x).1 (nI a) ∧ TM τ W ∧ PM σ τ
  | 0, m, b, x, σ, hM, h1, h3, h2, hx => by omega
  | n + 1, 0, b, x, σ, hM, h1, h3, h2, hx => by
    have g1 := hG.1.1
    unfold fM_friend_37
    rw [hM.1, if_pos (nI_le (by omega) (by omega))]
    exact ⟨σ, rfl, hM, PM.rf⟩
  | n + 1, m + 1, b, x, σ, hM, h1, h3, h2, hx => by
    have g1 := hG.1.1
    have h7 := p27 g1
    have hk := (hG.2.1 a ha).2.1
    have l6 := lfc_6 (c := c) (Gd_kx hG ha (show b < wP W by omega) (show ¬ a = b by omega)) hc
    unfold fM_friend_37
    rw [hM.1, if_neg (nI_ge (by omega) (by omega)), if_pos (ib_nI (by omega) (by omega)), ix_nI (by omega), (hM.2.2.2.1 a ha).2.2, has_nI (by omega) (by omega)]
    by_cases q : (wkn W a).testBit b = true
    · obtain ⟨τ, s1, s2, s3⟩ := M_fnn (K := K) hG hc ha n m (b + 1) x σ hM (by omega) (by omega) (by omega) hx
      rw [show b2i ((wkn W a).testBit b) = 1 by rw [q]; rfl, if_neg one_ne, nm_def, nI_1, show fnn W c a (m + 1) b x = fnn W c a m (b + 1) x by rw [fnn, fs, if_pos q]]
      exact ⟨τ, s1, s2, s3⟩
    have q' : (wkn W a).testBit b = false := by simpa using q
    obtain ⟨τ1, τ2, τ3, r1, r2, r3, r4, r5⟩ := M_lia hM hG hc ha (show b < wP W by omega) (show ¬ a = b by omega)
    rw [show b2i ((wkn W a).testBit b) = 0 by rw [q']; rfl, if_pos rfl, r1, bd_some, r2, bi_some, r3, bd_some, nm_def, nm_def, nm_def, nI_1, e10]
    by_cases q2 : lfc (kx W a b) c ≤ x.2
    · obtain ⟨τ, s1, s2, s3⟩ := M_fnn (K := K) hG hc ha n m (b + 1) x τ3 r4 (by omega) (by omega) (by omega) hx
      rw [if_pos (nI_le q2 (by omega)), if_pos (nI_le q2 (by omega)), show fnn W c a (m + 1) b x = fnn W c a m (b + 1) x by rw [fnn, fs, if_neg q, if_pos q2]]
      exact ⟨τ, s1, s2, PM.tr r5 s3⟩
    · obtain ⟨τ, s1, s2, s3⟩ := M_fnn (K := K) hG hc ha n m (b + 1) (nI (10 * a + b), lfc (kx W a b) c) τ3 r4 (by omega) (by omega) (by omega) l6
      rw [if_neg (nI_ge (by omega) (by omega)), if_neg (nI_ge (by omega) (by omega)), show fnn W c a (m + 1) b x = fnn W c a m (b + 1) (nI (10 * a + b), lfc (kx W a b) c) by rw [fnn, fs, if_neg q, if_neg q2]]
      exact ⟨τ, s1, s2, PM.tr r5 s3⟩
theorem M_fou {c : Nat} {W : Tw} (hG : Gd W) (hc : c < wC W) : ∀ n m a x σ, TM σ W → m + a = wP W → m < n → x.2 ≤ 6 → ∃ τ, fM_friend_22 n σ (nI c) (nI x.2) x.1 (nI a) = some ((fou W c m a x).1, τ) ∧ TM τ W ∧ PM σ τ
  | 0, m, a, x, σ, hM, h1, h2, hx => by omega
  | n + 1, 0, a, x, σ, hM, h1, h2, hx => by
    have g1 := hG.1.1
    unfold fM_friend_22
    rw [hM.1, if_pos (nI_le (by omega) (by omega))]
    exact ⟨σ, rfl, hM, PM.rf⟩
  | n + 1, m + 1, a, x, σ, hM, h1, h2, hx => by
    have g1 := hG.1.1
    unfold fM_friend_22
    rw [hM.1, if_neg (nI_ge (by omega) (by omega)), nm_def, nI_1]
    obtain ⟨τ1, r1, r3, r4⟩ := M_fnn (K := fun σ21 y22 y23 y24 y25 => nm (y25 + (1 : Int32)) fun v26 => fM_friend_22 n σ21 y22 y23 y24 v26) hG hc (show a < wP W by omega) 300 m (a + 1) x σ hM (by omega) (by omega) (by omega) hx
    obtain ⟨τ, s1, s2, s3⟩ := M_fou hG hc n m (a + 1) (fnn W c a m (a + 1) x) τ1 r3 (by omega) (by omega) (fnn_6 hG hc (by omega) m (a + 1) x (by omega) (by omega) hx)
    refine ⟨τ, ?_, s2, PM.tr r4 s3⟩
    rw [r1, nm_def, nI_1]
    exact s1
theorem st_friend : St_friend Inv := by
  intro σ a1 hI
  have hb := hI.isT
  have ht := hI.t
  obtain ⟨W, hE, hM, hG⟩ := hI.w
  have g1 := hG.1.1
  have g2 := hG.1.2
  rcases (arg a1 (wC W) (by omega)).symm with ho | ⟨c, hc, rfl⟩
  · refine ⟨-1, σ, σ, ?_, ?_, hI⟩
    · unfold fE_friend
      rw [if_pos hb, hc_o hE.2.1 g2 ho, if_pos rfl]
    · unfold fM_friend
      rw [mc_o hM.2.1 g2 ho, if_pos rfl]
  have l6 := lfc_6 hG hc
  obtain ⟨τ1, r1, r2, r3, r4, r5, r6⟩ := E_lk (w := 0) ht rfl hE hG hc (by decide)
  rw [lfc_vw hG hc] at r1
  obtain ⟨σ1, p1, p2, p3⟩ := E_fou ht hG hc 300 (wP W) 0 (-3, lfc W c) τ1 r5 r6 (by omega) (by omega) l6
  have pe := PE.tr r4.pe p3
  have hM1 := hM.e pe
  obtain ⟨τ2, s1, s2, -⟩ := M_left hM1 hG hc
  rw [lfc_vw hG hc] at s1
  obtain ⟨σ2, u1, u2, u3⟩ := M_fou hG hc 300 (wP W) 0 (-3, lfc W c) τ2 (hM1.l s2) (by omega) (by omega) l6
  refine hI.fin (r := (fou W c (wP W) 0 (-3, lfc W c)).1) p2 u2 hG pe (PM.tr s2.pm u3) ?_ ?_
  · unfold fE_friend
    rw [if_pos hb, hc_i hE.2.1 g2 hc, if_neg one_ne, show fE_look σ (nI c) 0 = _ from r1, bi_some]
    exact p1
  · unfold fM_friend
    rw [mc_i hM1.2.1 g2 hc, if_neg one_ne, s1, bi_some]
    exact u1
