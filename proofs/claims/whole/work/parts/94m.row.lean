/-! prove, judge -/
/-- what look, the rows and the reference's rows may change -/
theorem Inv.rwx {σ τ : St} (h : Inv σ) (e : ∀ k j, ¬ (27 ≤ k ∧ k ≤ 30) → ¬ (k = 0 ∧ j = 7) → ¬ (53 ≤ k ∧ k ≤ 57) → ¬ (k = 44 ∧ (j = 24 ∨ j = 26)) → gI τ k j = gI σ k j) (eL : ∀ j, gL τ 60 j = gL σ 60 j) (eR : ∀ j, gR τ j = gR σ j) (hR : Rw τ) : Inv τ := by
  have h0 := h
  obtain ⟨-, -, hK, hTp, -, hSh, hSf, hTr⟩ := h
  refine h0.rs (fun k j hk => e k j (by omega) (by omega) (by omega) (by omega)) eR ⟨hK.c (fun k j hk => e k j (by omega) (by omega) (by omega) (by omega)), hTp.c (fun k j hk => e k j (by omega) (by omega) (by omega) (by omega)), hR, hSh.c (fun k j hk => e k j (by omega) (by omega) (by omega) (by omega)) eL, hSf.c (fun k j hk => e k j (by omega) (by omega) (by omega) (by omega)), hTr.c (fun k j hk => e k j (by omega) (by omega) (by omega) (by omega))⟩
/-- only the class's rows differ -/
def LB (σ τ : St) : Prop := (∀ a b, ¬ (a = 0 ∧ b = 7) → ¬ a = 30 → gI τ a b = gI σ a b) ∧ (∀ a b, gL τ a b = gL σ a b) ∧ (∀ j, gR τ j = gR σ j)
theorem LB.rf {σ : St} : LB σ σ := ⟨fun _ _ _ _ => rfl, fun _ _ => rfl, fun _ => rfl⟩
theorem LB.tr {σ τ υ : St} (h1 : LB σ τ) (h2 : LB τ υ) : LB σ υ := ⟨fun a b h g => (h2.1 a b h g).trans (h1.1 a b h g), fun a b => (h2.2.1 a b).trans (h1.2.1 a b), fun j => (h2.2.2 j).trans (h1.2.2 j)⟩
theorem LB.s {σ τ : St} {k j : Nat} {v : Int32} (h1 : LB σ τ) (h : (k = 0 ∧ j = 7) ∨ k = 30) : LB σ (sI τ k j v) := h1.tr ⟨fun a b x y => if_neg (fun z => by omega), fun _ _ => rfl, fun _ => rfl⟩
theorem SE.b {σ τ : St} {W : Tw} {k : Nat} (h : SE σ W k) (e : LB σ τ) : SE τ W k := ⟨by rw [e.1 27 2 (by omega) (by omega)]; exact h.1, fun f hf => by rw [e.1 28 f (by omega) (by omega)]; exact h.2 f hf⟩
theorem TbE.b {σ τ : St} {W : Tw} {k w s m : Nat} (h : TbE σ W k w s m) (e : LB σ τ) : TbE τ W k w s m := fun h' a1 a2 a3 f hf hb => by rw [e.1 29 _ (by omega) (by omega)]; exact h h' a1 a2 a3 f hf hb
theorem E_pr {W : Tw} {k f h : Nat} (hG : Gd W) (hf : f < wP W) (hh : h < 2 ^ wP W) (hb : h.testBit f = true) (l6 : lf W k f h ≤ 6) : ∀ n m g σ, m + g = lf W k f h → m < n → SE σ W k → TbE σ W k 0 h h → gI σ 0 7 = nI g → Rr σ 30 W k f h g → ∃ τ, fE_prove_48 n σ (nI (sq W k f h g).2) (nI (sq W k f h g).1) (nI g) = some (nI (lf W k f h), τ) ∧ LB σ τ ∧ gI τ 0 7 = nI (lf W k f h) ∧ Rr τ 30 W k f h (lf W k f h)
  | 0, m, g, σ, h1, h2, hS, hT, h07, hR => by omega
  | n + 1, 0, g, σ, h1, h2, hS, hT, h07, hR => by
    have e : g = lf W k f h := by omega
    obtain ⟨i1, i2, i3, i4, i5, i6⟩ := sq_ok hG hf hh hb g (show g ≤ lf W k f h by omega)
    unfold fE_prove_48
    rw [if_neg (show ¬ (7 : Int32) ≤ nI g from nI_ge (b := 7) (by omega) (by omega)), W_ft hG hS hT i2 (i5 h (Nat.and_self h)) i1 i3, bd_some, ft_0 (show lf W k (sq W k f h g).1 (sq W k f h g).2 = 0 by omega), if_neg (show ¬ 0 ≤ oN none (-3) by decide), h07]
    exact ⟨σ, by rw [e], LB.rf, by rw [← e]; exact h07, by rw [← e]; exact hR⟩
  | n + 1, m + 1, g, σ, h1, h2, hS, hT, h07, hR => by
    have g1 := hG.1.1
    have h7 := p27 g1
    obtain ⟨i1, i2, i3, i4, i5, i6⟩ := sq_ok hG hf hh hb g (show g ≤ lf W k f h by omega)
    obtain ⟨j1, j2, j3, j4, j5, j6⟩ := sq_ok hG hf hh hb (g + 1) (show g + 1 ≤ lf W k f h by omega)
    obtain ⟨s1, s2⟩ := sq_s hG hf hh hb (show g < lf W k f h by omega)
    have e3 : (3 : Int32) * nI g = nI (3 * g) := by rw [show (3 : Int32) = nI 3 from rfl, pk_mul]
    have e31 : nI (3 * g) + (1 : Int32) = nI (3 * g + 1) := nI_add _ 1
    have e32 : nI (3 * g) + (2 : Int32) = nI (3 * g + 2) := nI_add _ 2
    have lb : LB σ (sI (sI (sI (sI σ 30 (3 * g) (nI (sq W k f h g).1)) 30 (3 * g + 1) (nI (sq W k f h (g + 1)).1)) 30 (3 * g + 2) (nI m)) 0 7 (nI (g + 1))) := (((LB.rf.s (by omega)).s (by omega)).s (by omega)).s (by omega)
    obtain ⟨τ, r1, r2, r3, r4⟩ := E_pr hG hf hh hb l6 n m (g + 1) _ (by omega) (by omega) (hS.b lb) (hT.b lb) gI_s (Rr_s hR (fun j => by
      rw [gI_o (by decide), gI_sI, gI_sI, gI_sI, show lf W k f h - 1 - g = m by omega]
      simp only [true_and]))
    refine ⟨τ, ?_, LB.tr lb r2, r3, r4⟩
    have at1 : ∀ υ, gI υ 29 (8 * (sq W k f h (g + 1)).2 + (sq W k f h (g + 1)).1) = gI σ 29 (8 * (sq W k f h (g + 1)).2 + (sq W k f h (g + 1)).1) → fW_at υ (nI (sq W k f h (g + 1)).2) (nI (sq W k f h (g + 1)).1) = some (nI m) := fun υ hυ => by
      rw [W_at g1 j2 j1, hυ, TbE_lf hG hT j2 (j5 h (Nat.and_self h)) j1 j3, show lf W k (sq W k f h (g + 1)).1 (sq W k f h (g + 1)).2 = m by omega]
    unfold fE_prove_48
    rw [if_neg (show ¬ (7 : Int32) ≤ nI g from nI_ge (b := 7) (by omega) (by omega)), W_ft hG hS hT i2 (i5 h (Nat.and_self h)) i1 i3, bd_some, s1, oN_s, if_pos (nI_pos' (by omega)), or_nI (by omega) (by omega), ← s2, ← r1]
    simp (disch := omega) only [ib_t, ix_nI, nm_def, bd_some, bi_some, if_true, if_false, eq_self, nI_1, one_ne, e3, e31, e32, gI_o (show (0 : Nat) ≠ 30 by decide), h07]
    rw [at1 _ (by rw [gI_o (by decide), gI_o (by decide)]), bd_some]
theorem M_pr_l {r : Nat} (hr : r ≤ 7) : ∀ n m i σ, m + i = 3 * r → m < n → gI σ 44 26 = nI r → (∀ j, j < i → gI σ 57 j = gI σ 56 j) → ∃ τ, fM_prove_25 n σ (nI i) = some (nI r, τ) ∧ (∀ j, j < 3 * r → gI τ 57 j = gI τ 56 j) ∧ (∀ a b, ¬ a = 57 → gI τ a b = gI σ a b) ∧ (∀ a b, gL τ a b = gL σ a b) ∧ (∀ j, gR τ j = gR σ j)
  | 0, m, i, σ, h1, h2, h26, hd => by omega
  | n + 1, 0, i, σ, h1, h2, h26, hd => by
    have e3 : (3 : Int32) * nI r = nI (3 * r) := by rw [show (3 : Int32) = nI 3 from rfl, pk_mul]
    unfold fM_prove_25
    rw [h26, e3, if_pos (nI_le (by omega) (by omega))]
    exact ⟨σ, rfl, fun j hj => hd j (by omega), fun _ _ _ => rfl, fun _ _ => rfl, fun _ => rfl⟩
  | n + 1, m + 1, i, σ, h1, h2, h26, hd => by
    have e3 : (3 : Int32) * nI r = nI (3 * r) := by rw [show (3 : Int32) = nI 3 from rfl, pk_mul]
    unfold fM_prove_25
    rw [h26, e3, if_neg (nI_ge (by omega) (by omega)), if_pos (ib_nI (by omega) (by omega)), if_pos (ib_nI (by omega) (by omega)), nm_def, nm_def, nI_1, ix_nI (by omega)]
    obtain ⟨τ, r1, r2, r3, r4, r5⟩ := M_pr_l hr n m (i + 1) (sI σ 57 i (gI σ 56 i)) (by omega) (by omega) (by rw [gI_o (by decide)]; exact h26) (fun j hj => by
      rw [gI_o (show (56 : Nat) ≠ 57 by decide)]
      by_cases q : j = i
      · rw [q, gI_s]
      · rw [gI_p q]; exact hd j (by omega))
    exact ⟨τ, r1, r2, fun a b h => by rw [r3 a b h, gI_o h], fun a b => (r4 a b).trans rfl, fun j => (r5 j).trans rfl⟩
theorem Rr_eq {σ τ : St} {a b : Nat} {W : Tw} {k f h g : Nat} (h1 : Rr σ a W k f h g) (h2 : Rr τ b W k f h g) (j : Nat) (hj : j < 3 * g) : gI σ a j = gI τ b j := by
  obtain ⟨x1, x2, x3⟩ := h1 (j / 3) (by omega)
  obtain ⟨y1, y2, y3⟩ := h2 (j / 3) (by omega)
  rcases (show j % 3 = 0 ∨ j % 3 = 1 ∨ j % 3 = 2 by omega) with e | e | e
  · rw [show j = 3 * (j / 3) by omega]; exact x1.trans y1.symm
  · rw [show j = 3 * (j / 3) + 1 by omega]; exact x2.trans y2.symm
  · rw [show j = 3 * (j / 3) + 2 by omega]; exact x3.trans y3.symm
theorem st_prove : St_prove Inv := by
  intro σ a1 hI
  have hb := hI.isT
  have ht := hI.t
  obtain ⟨W, hE, hM, hG⟩ := hI.w
  have g2 := hG.1.2
  rcases (arg a1 (wC W) (by omega)).symm with ho | ⟨c, hc, rfl⟩
  · refine ⟨-1, σ, σ, ?_, ?_, hI⟩
    · unfold fE_prove
      rw [if_pos hb, hc_o hE.2.1 g2 ho, if_pos rfl]
    · unfold fM_prove
      rw [mc_o hM.2.1 g2 ho, if_pos rfl]
  obtain ⟨k1, k2, k3, k4, k5⟩ := hG.2.2.2 c hc
  have l6 := lfc_6 hG hc
  obtain ⟨τ1, r1, r2, r3, r4, r5, r6⟩ := E_lk (w := 0) ht rfl hE hG hc (by decide)
  rw [lfc_vw hG hc] at r1
  have hb1 : isTb (gR τ1 0) = true := isT_t ht r5
  obtain ⟨x1, x2, x3, x4⟩ := r6.2.2.2.2 c hc
  have lb : LB τ1 (sI τ1 0 7 0) := LB.rf.s (by omega)
  obtain ⟨σ1, p1, p2, p3, p4⟩ := E_pr hG k3 k4 k5 l6 300 (lfc W c) 0 (sI τ1 0 7 0) (Nat.add_zero _) (by omega) (r2.b lb) (r3.b lb) gI_s (fun j hj => by omega)
  have lb2 := LB.tr lb p2
  have hM1 : TM σ1 W := (hM.e r4.pe).f (fun a b h => lb2.1 a b (by omega) (by omega))
  obtain ⟨τ2, s1, s2, s3, s4, s5⟩ := M_fRow hM1 hG hc
  obtain ⟨σ2, q1, q2, q3, q4, q5⟩ := M_pr_l (r := lfc W c) (by omega) 300 (3 * lfc W c) 0 (sI τ2 44 26 (nI (lfc W c))) (by omega) (by omega) gI_s (fun j hj => by omega)
  refine ⟨nI (lfc W c), σ1, σ2, ?_, ?_, ?_⟩
  · unfold fE_prove
    rw [if_pos hb, hc_i hE.2.1 g2 hc, if_neg one_ne, show fE_look σ (nI c) 0 = _ from r1, bi_some, if_pos hb1, if_pos (ib_nI (by omega) (by omega)), nm_def, if_pos hb1, if_pos (ib_nI (by omega) (by omega)), nm_def, nm_def, ix_nI (by omega), r5, x3, x4]
    exact p1
  · unfold fM_prove
    rw [mc_i hM1.2.1 g2 hc, if_neg one_ne, s1, bd_some, nm_def, s4]
    exact q1
  · have fr : ∀ k j, ¬ (27 ≤ k ∧ k ≤ 30) → ¬ (k = 0 ∧ j = 7) → ¬ (53 ≤ k ∧ k ≤ 57) → ¬ (k = 44 ∧ (j = 24 ∨ j = 26)) → gI σ2 k j = gI σ k j := fun k j u1 u2 u3 u4 => by
      rw [q3 k j (by omega), gI_sI, if_neg (by omega), s2.1 k j (by omega) (by omega), lb2.1 k j (by omega) (by omega), r4.1 k j (by omega)]
    refine hI.rwx fr (fun j => ?_) (fun j => ?_) ⟨lfc W c, by omega, ?_, ?_, fun j hj => ?_⟩
    · rw [q4]; exact (s2.2.1 60 j).trans ((lb2.2.1 60 j).trans (r4.2.1 60 j))
    · rw [q5]; exact (s2.2.2 j).trans ((lb2.2.2 j).trans (r4.2.2 j))
    · rw [q3 0 7 (by omega), gI_o (by decide), s2.1 0 7 (by omega) (by omega)]; exact p3
    · rw [q3 44 26 (by omega), gI_s]
    · rw [q2 j hj, q3 56 j (by omega), gI_o (by decide), q3 30 j (by omega), gI_o (by decide), s2.1 30 j (by omega) (by omega)]
      exact Rr_eq p4 s5 j hj
theorem lf_0 {W : Tw} {k f h : Nat} (hG : Gd W) (hh : h < 2 ^ wP W) : tkr W k f h = 0 ↔ lf W k f h = 0 := by
  have e := lf_eq (k := k) (f := f) hG hh
  constructor
  · intro h0
    rw [h0] at e
    rcases fN_ex (s := 0) (g := fun p => lf W k p (h ||| 2 ^ p)) (wP W) with z | ⟨p, a, b, c⟩
    · exact e.trans z
    · rw [Nat.zero_testBit] at b; cases b
  · intro h0
    apply nat_ext
    intro q
    rw [Nat.zero_testBit]
    cases hb : (tkr W k f h).testBit q
    · rfl
    · have := fN_ge (s := tkr W k f h) (g := fun p => lf W k p (h ||| 2 ^ p)) (wP W) q (tkr_in hb).1 hb
      omega
theorem bit_pos {h f : Nat} (hb : h.testBit f = true) : 1 ≤ h := by
  rcases Nat.eq_zero_or_pos h with e | e
  · rw [e, Nat.zero_testBit] at hb; cases hb
  · exact e
theorem jd {σ1 σ2 : St} {t c s r : Nat} {W : Tw} (ht : t = 1 ∨ t = 9) (hr : gR σ1 0 = t) (hE : TE σ1 t W) (hM : TM σ2 W) (hG : Gd W) (hc : c < wC W) (hS : SE σ1 W (wkd W c)) (hT : TbE σ1 W (wkd W c) 0 s s) (hTM : TbM σ2 W (wkd W c) 1) (r7 : r ≤ 7) (h07 : gI σ1 0 7 = nI r) (h26 : gI σ2 44 26 = nI r) (hrow : ∀ j, j < 3 * r → gI σ1 30 j = gI σ2 57 j) : ∀ n m i f h, m + i = r → m < n → f < wP W → h < 2 ^ wP W → h.testBit f = true → h &&& s = s → ∃ v, fE_judge_43 n σ1 (nI h) (nI f) (nI i) = some (v, σ1) ∧ fM_judge_37 n σ2 (nI c) (nI f) (nI h) (nI i) = some (v, σ2)
  | 0, m, i, f, h, h1, h2, hf, hh, hb, hs => by omega
  | n + 1, 0, i, f, h, h1, h2, hf, hh, hb, hs => by
    have g1 := hG.1.1
    have h7 := p27 g1
    have l1 := (lf_nI (k := wkd W c) (f := f) hG hh).2
    have ht : tkr W (wkd W c) f h < 2 ^ wP W := setOf_lt _ _
    unfold fE_judge_43 fM_judge_37 fE_judge_156 fM_judge_180
    rw [h07, h26, if_pos (nI_le (by omega) (by omega)), if_pos (nI_le (by omega) (by omega)), W_tk hS hG hh hf, bd_some, i128, if_pos (ib_nI (by omega) (by omega)), ix_nI (by omega), TbM_lf hG hTM hh (bit_pos hb) hf hb]
    refine ⟨_, rfl, ?_⟩
    by_cases q : lf W (wkd W c) f h = 0
    · rw [(lf_0 hG hh).mpr q, q]; rfl
    · rw [if_neg (nI_nle (by omega) (by omega)), if_neg]
      exact fun z => q ((lf_0 hG hh).mp ((nI_eq (b := 0) (by omega) (by omega)).mp z))
  | n + 1, m + 1, i, f, h, h1, h2, hf, hh, hb, hs => by
    have g1 := hG.1.1
    have h7 := p27 g1
    have k1 := (hG.2.2.2 c hc).1
    have hti := isT_t ht hr
    have htk : tkr W (wkd W c) f h < 2 ^ wP W := setOf_lt _ _
    have e3 : (3 : Int32) * nI i = nI (3 * i) := by rw [show (3 : Int32) = nI 3 from rfl, pk_mul]
    have e31 : nI (3 * i) + (1 : Int32) = nI (3 * i + 1) := nI_add _ 1
    have e32 : nI (3 * i) + (2 : Int32) = nI (3 * i + 2) := nI_add _ 2
    have y0 := hrow (3 * i) (by omega)
    have y1 := hrow (3 * i + 1) (by omega)
    have y2 := hrow (3 * i + 2) (by omega)
    have ih := jd ht hr hE hM hG hc hS hT hTM r7 h07 h26 hrow n m (i + 1)
    generalize hu0 : gI σ2 57 (3 * i) = u0 at y0
    generalize hu1 : gI σ2 57 (3 * i + 1) = u1 at y1
    generalize hu2 : gI σ2 57 (3 * i + 2) = u2 at y2
    by_cases c0 : u0 = nI f
    rotate_left
    · refine ⟨nI i + 1, ?_, ?_⟩
      · unfold fE_judge_43; simp only [nm_def]; rw [h07, if_neg (nI_ge (by omega) (by omega)), e3, e31, if_pos (ib_nI (by omega) (by omega)), if_pos (ib_nI (by omega) (by omega)), ix_nI (by omega), ix_nI (by omega), y0, y1, if_neg c0]
      · unfold fM_judge_37; rw [h26, if_neg (nI_ge (by omega) (by omega)), e3, e31, if_pos (ib_nI (by omega) (by omega)), nm_def, if_pos (ib_nI (by omega) (by omega)), nm_def, ix_nI (by omega), ix_nI (by omega), hu0, hu1, if_neg c0]; rfl
    rcases (arg u1 (wP W) (by omega)).symm with ho | ⟨p, hp, rfl⟩
    · refine ⟨nI i + 1, ?_, ?_⟩
      · unfold fE_judge_43; simp only [nm_def]; rw [h07, if_neg (nI_ge (by omega) (by omega)), e3, e31, if_pos (ib_nI (by omega) (by omega)), if_pos (ib_nI (by omega) (by omega)), ix_nI (by omega), ix_nI (by omega), y0, y1, if_pos c0, if_pos hti, hr, hp_o hE.1 g1 ho, if_pos rfl]
      · unfold fM_judge_37; rw [h26, if_neg (nI_ge (by omega) (by omega)), e3, e31, if_pos (ib_nI (by omega) (by omega)), nm_def, if_pos (ib_nI (by omega) (by omega)), nm_def, ix_nI (by omega), ix_nI (by omega), hu0, hu1, if_pos c0, nm_def, mp_o hM.1 g1 ho, if_pos rfl]; rfl
    have hbit : (tkr W (wkd W c) f h).testBit p = (allow W (wkd W c) f p && !h.testBit p) := by
      rw [tkr_bit]; simp [hp]
    have h4 := or_lt hh hp
    by_cases q : (tkr W (wkd W c) f h).testBit p = true
    rotate_left
    · have q' : (tkr W (wkd W c) f h).testBit p = false := by simpa using q
      refine ⟨nI i + 1, ?_, ?_⟩
      · unfold fE_judge_43; simp only [nm_def]; rw [h07, if_neg (nI_ge (by omega) (by omega)), e3, e31, if_pos (ib_nI (by omega) (by omega)), if_pos (ib_nI (by omega) (by omega)), ix_nI (by omega), ix_nI (by omega), y0, y1, if_pos c0, if_pos hti, hr, hp_i hE.1 g1 hp, if_neg one_ne, W_tk hS hG hh hf, bd_some, hold_nI (by omega) (by omega), q', b2f, if_pos rfl]
      · unfold fM_judge_37; rw [h26, if_neg (nI_ge (by omega) (by omega)), e3, e31, if_pos (ib_nI (by omega) (by omega)), nm_def, if_pos (ib_nI (by omega) (by omega)), nm_def, ix_nI (by omega), ix_nI (by omega), hu0, hu1, if_pos c0, nm_def, mp_i hM.1 g1 hp, if_neg one_ne, if_neg one_ne, (M_its hM hG hc).1, bd_some, M_may hM hG k1 hf hh hp, bd_some, ← hbit, q']; rfl
    have EE : fE_judge_43 (n + 1) σ1 (nI h) (nI f) (nI i) = if u2 = nI (lf W (wkd W c) p (h ||| 2 ^ p)) then fE_judge_43 n σ1 (nI (h ||| 2 ^ p)) (nI p) (nI (i + 1)) else some (nI (i + 1), σ1) := by
      rw [fE_judge_43]; simp only [nm_def]; rw [h07, if_neg (nI_ge (by omega) (by omega)), e3, e31, if_pos (ib_nI (by omega) (by omega)), if_pos (ib_nI (by omega) (by omega)), ix_nI (by omega), ix_nI (by omega), y0, y1, if_pos c0, if_pos hti, hr, hp_i hE.1 g1 hp, if_neg one_ne, W_tk hS hG hh hf, bd_some, hold_nI (by omega) (by omega), q, b2t, if_neg one_ne, or_nI (by omega) (by omega), e32, if_pos (ib_nI (by omega) (by omega)), W_at g1 h4 hp, bd_some, ix_nI (by omega), TbE_lf hG hT h4 (sub_or hs) hp or_bit, y2, nI_1]
    have EM : fM_judge_37 (n + 1) σ2 (nI c) (nI f) (nI h) (nI i) = if u2 = nI (lf W (wkd W c) p (h ||| 2 ^ p)) then fM_judge_37 n σ2 (nI c) (nI p) (nI (h ||| 2 ^ p)) (nI (i + 1)) else some (nI (i + 1), σ2) := by
      rw [fM_judge_37]; rw [h26, if_neg (nI_ge (by omega) (by omega)), e3, e31, if_pos (ib_nI (by omega) (by omega)), nm_def, if_pos (ib_nI (by omega) (by omega)), nm_def, ix_nI (by omega), ix_nI (by omega), hu0, hu1, if_pos c0, nm_def, mp_i hM.1 g1 hp, if_neg one_ne, if_neg one_ne, (M_its hM hG hc).1, bd_some, M_may hM hG k1 hf hh hp, bd_some, ← hbit, q, b2t]; simp only [nm_def, if_neg one_ne]; rw [or_nI (by omega) (by omega), e32, if_pos (ib_nI (by omega) (by omega)), i128, if_pos (ib_nI (by omega) (by omega)), ix_nI (by omega), ix_nI (by omega), TbM_lf hG hTM h4 (bit_pos or_bit) hp or_bit, hu2, nI_1]
    rw [EE, EM]
    by_cases c2 : u2 = nI (lf W (wkd W c) p (h ||| 2 ^ p))
    · rw [if_pos c2, if_pos c2]
      exact ih p (h ||| 2 ^ p) (by omega) (by omega) hp h4 or_bit (sub_or hs)
    · rw [if_neg c2, if_neg c2]
      exact ⟨nI (i + 1), rfl, rfl⟩
theorem st_judge : St_judge Inv := by
  intro σ a1 hI
  have hb := hI.isT
  have ht := hI.t
  obtain ⟨W, hE, hM, hG⟩ := hI.w
  have g2 := hG.1.2
  rcases (arg a1 (wC W) (by omega)).symm with ho | ⟨c, hc, rfl⟩
  · refine ⟨-1, σ, σ, ?_, ?_, hI⟩
    · unfold fE_judge
      rw [if_pos hb, hc_o hE.2.1 g2 ho, if_pos rfl]
    · unfold fM_judge
      rw [mc_o hM.2.1 g2 ho, if_pos rfl]
  obtain ⟨k1, k2, k3, k4, k5⟩ := hG.2.2.2 c hc
  obtain ⟨r, w1, w2, w3, w4⟩ := hI.2.2.2.2.1
  obtain ⟨τ1, r1, r2, r3, r4, r5, r6⟩ := E_lk (w := 0) ht rfl hE hG hc (by decide)
  have hb1 : isTb (gR τ1 0) = true := isT_t ht r5
  have hM1 := hM.e r4.pe
  obtain ⟨τ2, s1, s2, s3⟩ := M_find hM1 hG k1
  have hM2 := hM1.l s2
  obtain ⟨x1, x2, x3, x4⟩ := r6.2.2.2.2 c hc
  obtain ⟨v, v1, v2⟩ := jd ht r5 r6 hM2 hG hc r2 r3 s3 w1 (by rw [r4.1 0 7 (by omega)]; exact w2) (by rw [s2.1 44 26 (by omega), r4.1 44 26 (by omega)]; exact w3) (fun j hj => by rw [s2.1 57 j (by omega), r4.1 57 j (by omega), r4.1 30 j (by omega)]; exact w4 j hj) 300 r 0 (who W c) (wha W c) (by omega) (by omega) k3 k4 k5 (Nat.and_self _)
  refine hI.fin (r := v) r6 hM2 hG r4.pe s2.pm ?_ ?_
  · unfold fE_judge
    rw [if_pos hb, hc_i hE.2.1 g2 hc, if_neg one_ne, show fE_look σ (nI c) 0 = _ from r1, bi_some, if_pos hb1, if_pos (ib_nI (by omega) (by omega)), nm_def, if_pos hb1, if_pos (ib_nI (by omega) (by omega)), nm_def, ix_nI (by omega), r5, x3, x4]
    exact v1
  · unfold fM_judge
    rw [mc_i hM1.2.1 g2 hc, if_neg one_ne, (M_its hM1 hG hc).1, bd_some, s1, bd_some, (M_its hM2 hG hc).2.2.1, bd_some, (M_its hM2 hG hc).2.2.2, bd_some]
    exact v2
