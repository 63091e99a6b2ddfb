/-! names by their signs, names by their numbers; numbers; ends -/
def csL : List (List Nat) := [[112, 101, 114, 115, 111, 110], [59], [107, 110, 111, 119], [99, 111, 105, 110], [104, 97, 108, 102], [99, 114, 111, 119, 110], [102, 97, 108, 115, 101], [98, 108, 101, 115, 115, 101, 100], [119, 111, 114, 110], [111, 102], [104, 97, 100], [44]]
def ch (r i : Nat) : Nat := (csL.getD (r - 100) []).getD i 0
def ln (r : Nat) : Nat := tLN.getD (r - 100) 0
theorem ch_k : ∀ r, r < 12 → ∀ i, i < ln (100 + r) → fJS_charAt (100 + r) (nI i) = some (nI (ch (100 + r) i)) := by decide +kernel
theorem ch_l : ∀ r, r < 12 → ∀ i, i < ln (100 + r) → ch (100 + r) i < 256 := by decide +kernel
theorem ln_k : ∀ r, r < 12 → 1 ≤ ln (100 + r) ∧ ln (100 + r) ≤ 7 := by decide +kernel
def mtf (t : Nat → Nat) (r f : Nat) : Nat → Nat → Bool
  | 0, _ => true
  | d + 1, i => decide (t (f + i) = ch r i) && mtf t r f d (i + 1)
theorem mtf_i {t : Nat → Nat} {r f : Nat} : ∀ d i, mtf t r f d i = true ↔ ∀ j, i ≤ j → j < d + i → t (f + j) = ch r j
  | 0, i => ⟨fun _ j h1 h2 => by omega, fun _ => rfl⟩
  | d + 1, i => by
    show (decide (t (f + i) = ch r i) && mtf t r f d (i + 1)) = true ↔ _
    rw [Bool.and_eq_true, decide_eq_true_eq, mtf_i d (i + 1)]
    refine ⟨fun h j h1 h2 => ?_, fun h => ⟨h i (Nat.le_refl _) (by omega), fun j h1 h2 => h j (by omega) (by omega)⟩⟩
    by_cases e : j = i
    · rw [e]; exact h.1
    · exact h.2 j (by omega) (by omega)
def rdB (t : Nat → Nat) (r f g : Nat) : Bool := decide (g - f = ln r) && mtf t r f (ln r) 0
theorem rdB_i {t : Nat → Nat} {r f g : Nat} : rdB t r f g = true ↔ g - f = ln r ∧ ∀ j, j < ln r → t (f + j) = ch r j := by
  unfold rdB
  rw [Bool.and_eq_true, decide_eq_true_eq, mtf_i]
  exact ⟨fun h => ⟨h.1, fun j hj => h.2 j (Nat.zero_le _) (by omega)⟩, fun h => ⟨h.1, fun j _ hj => h.2 j (by omega)⟩⟩
theorem X_rl {σ : St} {t : Nat → Nat} {n f r : Nat} (h : TpE σ t n) (h2 : gI σ 25 2 = nI f) (hr : r < 12) (hn : f + ln (100 + r) ≤ n) : ∀ d fu i, d + i = ln (100 + r) → d < fu → fX_reads_20 fu σ (100 + r) (nI i) = some (b2i (mtf t (100 + r) f d i))
  | _, 0, _, _, hf => absurd hf (Nat.not_lt_zero _)
  | 0, fu + 1, i, hd, hf => by
    have := (ln_k r hr).2
    rw [fX_reads_20, show fJS_length (100 + r) = nI (ln (100 + r)) from rfl, if_pos (nI_le (by omega) (by omega))]
    rfl
  | d + 1, fu + 1, i, hd, hf => by
    have h7 := (ln_k r hr).2
    have h200 := h.2.1
    have hc := ch_l r hr i (by omega)
    have hx := h.2.2 (f + i) (by omega)
    rw [fX_reads_20, show fJS_length (100 + r) = nI (ln (100 + r)) from rfl, if_neg (nI_ge (by omega) (by omega)), h2, nI_add, if_pos (ib_nI (by omega) (by omega)), ch_k r hr i (by omega), bd_some, ix_nI (by omega), hx.1]
    show _ = some (b2i (decide (t (f + i) = ch (100 + r) i) && mtf t (100 + r) f d (i + 1)))
    by_cases e : t (f + i) = ch (100 + r) i
    · rw [if_pos (by rw [e]), nm_def, nI_1, X_rl h h2 hr hn d fu (i + 1) (by omega) (by omega), decide_eq_true e, Bool.true_and]
    · rw [if_neg (fun z => e ((nI_eq (by omega) (by omega)).mp z)), decide_eq_false e, Bool.false_and]
      rfl
theorem X_rd {σ : St} {t : Nat → Nat} {n f g r : Nat} (h : TpE σ t n) (h2 : gI σ 25 2 = nI f) (h3 : gI σ 25 3 = nI g) (hfg : f ≤ g) (hg : g ≤ n) (hr : r < 12) : fX_reads σ (100 + r) = some (b2i (rdB t (100 + r) f g)) := by
  have h7 := (ln_k r hr).2
  have h200 := h.2.1
  unfold fX_reads rdB
  rw [h2, h3, pk_sub hfg, show fJS_length (100 + r) = nI (ln (100 + r)) from rfl]
  by_cases e : g - f = ln (100 + r)
  · rw [if_pos (by rw [e]), decide_eq_true e, Bool.true_and]
    exact X_rl h h2 hr (by omega) (ln (100 + r)) 300 0 (by omega) (by omega)
  · rw [if_neg (fun z => e ((nI_eq (by omega) (by omega)).mp z)), decide_eq_false e, Bool.false_and]
    rfl
theorem hv_inj (a b : Nat → Nat) (f g : Nat) : ∀ k l, (∀ j, j < k → 97 ≤ a (f + j) ∧ a (f + j) ≤ 122) → (∀ j, j < l → 97 ≤ b (g + j) ∧ b (g + j) ≤ 122) → hv a f k = hv b g l → k = l ∧ ∀ j, j < k → a (f + j) = b (g + j)
  | 0, 0, _, _, _ => ⟨rfl, fun j hj => absurd hj (Nat.not_lt_zero j)⟩
  | 0, l + 1, _, h2, e => by
    have e2 : (0 : Nat) = 27 * hv b g l + (b (g + l) - 96) := e
    have := h2 l (Nat.lt_succ_self l)
    omega
  | k + 1, 0, h1, _, e => by
    have e2 : 27 * hv a f k + (a (f + k) - 96) = 0 := e
    have := h1 k (Nat.lt_succ_self k)
    omega
  | k + 1, l + 1, h1, h2, e => by
    have e2 : 27 * hv a f k + (a (f + k) - 96) = 27 * hv b g l + (b (g + l) - 96) := e
    have x1 := h1 k (Nat.lt_succ_self k)
    have x2 := h2 l (Nat.lt_succ_self l)
    obtain ⟨r1, r2⟩ := hv_inj a b f g k l (fun j hj => h1 j (by omega)) (fun j hj => h2 j (by omega)) (by omega)
    subst r1
    refine ⟨rfl, fun j hj => ?_⟩
    by_cases ej : j = k
    · rw [ej]; omega
    · exact r2 j (by omega)
theorem hv_cg (a b : Nat → Nat) (f g : Nat) : ∀ k, (∀ j, j < k → a (f + j) = b (g + j)) → hv a f k = hv b g k
  | 0, _ => rfl
  | k + 1, h => by
    show 27 * hv a f k + (a (f + k) - 96) = 27 * hv b g k + (b (g + k) - 96)
    rw [hv_cg a b f g k (fun j hj => h j (by omega)), h k (Nat.lt_succ_self k)]
theorem hv_lt (a : Nat → Nat) (f : Nat) : ∀ k, (∀ j, j < k → a (f + j) ≤ 122) → hv a f k < 27 ^ k
  | 0, _ => Nat.one_pos
  | k + 1, h => by
    show 27 * hv a f k + (a (f + k) - 96) < 27 ^ k * 27
    have h1 := hv_lt a f k (fun j hj => h j (by omega))
    have h2 := h k (Nat.lt_succ_self k)
    omega
theorem hv_63 {a : Nat → Nat} {f k : Nat} (hk : k ≤ 8) (h : ∀ j, j < k → a (f + j) ≤ 122) : hv a f k < 2 ^ 63 := by
  have h1 := hv_lt a f k h
  have h2 : 27 ^ k ≤ 27 ^ 8 := Nat.pow_le_pow_right (by decide) hk
  have h3 : 27 ^ 8 < 2 ^ 63 := by decide
  omega
/-- a name: the class's signs, the reference's number -/
theorem M_wd {τ : St} {t : Nat → Nat} {n f r : Nat} (hK : TK t n τ f) (hf : f ≤ n) (hr : r < 12) (hw : ∀ j, j < ln (100 + r) → cL (ch (100 + r) j) = true) : fM_isWord τ (Int64.ofNat (hv (ch (100 + r)) 0 (ln (100 + r)))) = b2i (rdB t (100 + r) f (tg t n f)) := by
  obtain ⟨l1, l7⟩ := ln_k r hr
  have hcl : ∀ j, j < ln (100 + r) → 97 ≤ ch (100 + r) (0 + j) ∧ ch (100 + r) (0 + j) ≤ 122 := fun j hj => by rw [Nat.zero_add]; exact cL_i.mp (hw j hj)
  have no : f < tg t n f ∧ t f = ch (100 + r) 0 → cL (t f) = false → False := fun z y => by
    rw [z.2, hw 0 (by omega)] at y; cases y
  have bd := tg_b (t := t) hf
  have nb : so t n f ≠ 1 → rdB t (100 + r) f (tg t n f) = false := by
    intro hs
    cases hb : rdB t (100 + r) f (tg t n f)
    · rfl
    · obtain ⟨b1, b2⟩ := rdB_i.mp hb
      have b3 := b2 0 (by omega)
      rcases so_c t n f with ⟨e, h1⟩ | ⟨e, h1, hl⟩ | ⟨e, h1, hl, hd⟩ | ⟨e, h1, hl, hd⟩
      · omega
      · exact absurd e hs
      · exact (no ⟨by omega, b3⟩ hl).elim
      · exact (no ⟨by omega, b3⟩ hl).elim
  unfold fM_isWord
  rw [hK.1]
  by_cases hs : so t n f = 1
  · rw [hs, if_pos (show nI 1 = (1 : Int32) from rfl), hK.2.2.2.1 hs]
    have hall := (sk_b (P := cL) (t := t) hf).2.2.1
    rw [← tg_1 hs] at hall
    have hlt : ∀ j, j < tg t n f - f → 97 ≤ t (f + j) ∧ t (f + j) ≤ 122 := fun j hj => cL_i.mp (hall (f + j) (by omega) (by omega))
    cases hb : rdB t (100 + r) f (tg t n f)
    · rw [if_neg]
      · rfl
      · intro z
        rw [lg_cmp_eq] at z
        have hW := hv_63 (a := ch (100 + r)) (f := 0) (k := ln (100 + r)) (by omega) (fun j hj => (hcl j hj).2)
        unfold ww at z
        by_cases hk : tg t n f - f ≤ 8
        · rw [if_pos hk, ← Int64.toInt_inj, Int64.toInt_ofNat_of_lt (hv_63 hk (fun j hj => (hlt j hj).2)), Int64.toInt_ofNat_of_lt hW] at z
          obtain ⟨q1, q2⟩ := hv_inj t (ch (100 + r)) f 0 _ _ hlt hcl (by omega)
          have : rdB t (100 + r) f (tg t n f) = true := rdB_i.mpr ⟨q1, fun j hj => by have := q2 j (by omega); rw [Nat.zero_add] at this; exact this⟩
          rw [hb] at this
          cases this
        · rw [if_neg hk, ← Int64.toInt_inj, Int64.toInt_ofNat_of_lt hW, show (-1 : Int64).toInt = -1 from rfl] at z
          omega
    · obtain ⟨b1, b2⟩ := rdB_i.mp hb
      rw [if_pos]
      · rfl
      · rw [lg_cmp_eq, b1]
        unfold ww
        rw [if_pos (by omega), hv_cg t (ch (100 + r)) f 0 _ (fun j hj => by rw [Nat.zero_add]; exact b2 j hj)]
  · rw [nb hs, if_neg]
    · rfl
    · intro z
      have := so_lt t n f
      exact hs ((nI_eq (b := 1) (by omega) (by omega)).mp z)
theorem M_mk {τ : St} {t : Nat → Nat} {n f r : Nat} (hp : TpM τ t n) (hK : TK t n τ f) (hf : f ≤ n) (hr : r < 12) (h1 : ln (100 + r) = 1) (hl : cL (ch (100 + r) 0) = false) (hd : cD (ch (100 + r) 0) = false) : fM_isMark τ (nI (ch (100 + r) 0)) = b2i (rdB t (100 + r) f (tg t n f)) := by
  have bd := tg_b (t := t) hf
  have hc := ch_l r hr 0 (by omega)
  unfold fM_isMark
  rw [hK.1]
  rcases so_c t n f with ⟨e, g1⟩ | ⟨e, g1, gl⟩ | ⟨e, g1, gl, gd⟩ | ⟨e, g1, gl, gd⟩
  rotate_right
  · rw [e, if_pos (show nI 3 = (3 : Int32) from rfl), hK.2.2.2.2.2 e]
    have hb := (hp.2.2 f g1).2
    have ei : rdB t (100 + r) f (tg t n f) = true ↔ t f = ch (100 + r) 0 := by
      rw [rdB_i, h1, tg_3 e]
      exact ⟨fun h => h.2 0 (by omega), fun h => ⟨by omega, fun j hj => by rw [show j = 0 by omega]; exact h⟩⟩
    by_cases z : t f = ch (100 + r) 0
    · rw [if_pos (by rw [z]), ei.mpr z]
      rfl
    · rw [if_neg (fun w => z ((nI_eq (by omega) (by omega)).mp w))]
      cases hx : rdB t (100 + r) f (tg t n f)
      · rfl
      · exact absurd (ei.mp hx) z
  all_goals
    have nb : rdB t (100 + r) f (tg t n f) = false := by
      cases hb : rdB t (100 + r) f (tg t n f)
      · rfl
      · obtain ⟨b1, b2⟩ := rdB_i.mp hb
        have b3 : t f = ch (100 + r) 0 := b2 0 (by omega)
        first
        | omega
        | (rw [b3, hl] at gl; cases gl; done)
        | (rw [b3, hd] at gd; cases gd; done)
    rw [nb, e, if_neg (by decide)]
    rfl
/-! both stand alike: ahead of a step of the class's, behind it -/
def Sy (t : Nat → Nat) (n : Nat) (σ τ : St) (e : Nat) : Prop := TpE σ t n ∧ TpM τ t n ∧ e ≤ n ∧ gI σ 25 3 = nI e ∧ TK t n τ (tf t n e) ∧ gI τ 44 14 = 1
def Sy1 (t : Nat → Nat) (n : Nat) (σ τ : St) (f : Nat) : Prop := TpE σ t n ∧ TpM τ t n ∧ f ≤ n ∧ (gI σ 25 2 = nI f ∧ gI σ 25 3 = nI (tg t n f)) ∧ TK t n τ f ∧ gI τ 44 14 = 1
/-- a fault at the same place -/
def Fl (σ τ : St) : Prop := gI τ 44 14 = 0 ∧ ∃ f, f ≤ 200 ∧ gI σ 25 2 = nI f ∧ gI τ 44 10 = nI f
def FG (σ τ : St) : Prop := (∀ a b, ¬ (a = 44 ∧ ((9 ≤ b ∧ b ≤ 11) ∨ b = 13 ∨ b = 14)) → gI τ a b = gI σ a b) ∧ (∀ a b, ¬ a = 44 → gL τ a b = gL σ a b) ∧ (∀ j, gR τ j = gR σ j)
theorem FG.rf {σ : St} : FG σ σ := ⟨fun _ _ _ => rfl, fun _ _ _ => rfl, fun _ => rfl⟩
theorem FG.tr {σ τ υ : St} (h1 : FG σ τ) (h2 : FG τ υ) : FG σ υ := ⟨fun a b h => (h2.1 a b h).trans (h1.1 a b h), fun a b h => (h2.2.1 a b h).trans (h1.2.1 a b h), fun j => (h2.2.2 j).trans (h1.2.2 j)⟩
theorem FG.s {σ τ : St} {k j : Nat} {v : Int32} (h1 : FG σ τ) (h : k = 44 ∧ ((9 ≤ j ∧ j ≤ 11) ∨ j = 13 ∨ j = 14)) : FG σ (sI τ k j v) := h1.tr ⟨fun a b x => if_neg (fun z => by omega), fun _ _ _ => rfl, fun _ => rfl⟩
theorem FA.g {σ τ : St} (h : FA σ τ) : FG σ τ := ⟨fun a b x => h.1 a b (by omega), h.2.1, h.2.2⟩
theorem TpM.g {σ τ : St} {t : Nat → Nat} {n : Nat} (h : TpM σ t n) (e : FG σ τ) : TpM τ t n := ⟨by rw [e.1 44 8 (by omega)]; exact h.1, h.2.1, fun i hi => by rw [e.1 49 i (by omega)]; exact h.2.2 i hi⟩
theorem TK.g {σ : St} {t : Nat → Nat} {n f : Nat} {v : Int32} (h : TK t n σ f) : TK t n (sI σ 44 14 v) f := by
  obtain ⟨h1, h2, h3, h4, h5, h6⟩ := h
  exact ⟨by rw [gI_p (by decide)]; exact h1, by rw [gI_p (by decide)]; exact h2, by rw [gI_p (by decide)]; exact h3, h4, fun z => by rw [gI_p (by decide)]; exact h5 z, fun z => by rw [gI_p (by decide)]; exact h6 z⟩
theorem Sy.st {t : Nat → Nat} {n : Nat} {σ τ : St} {e : Nat} (h : Sy t n σ τ e) : ∃ σ', fX_step σ = some σ' ∧ Sy1 t n σ' τ (tf t n e) ∧ FS σ σ' := by
  obtain ⟨h1, h2, h3, h4, h5, h6⟩ := h
  obtain ⟨σ', r1, r2, r3, r4⟩ := X_st h1 h3 h4
  exact ⟨σ', r1, ⟨h1.f r4, h2, (tf_b h3).2, ⟨r2, r3⟩, h5, h6⟩, r4⟩
theorem Sy1.ad {t : Nat → Nat} {n : Nat} {σ τ : St} {f : Nat} (h : Sy1 t n σ τ f) : ∃ τ', fM_advance τ = some τ' ∧ Sy t n σ τ' (tg t n f) ∧ FA τ τ' := by
  obtain ⟨h1, h2, h3, h4, h5, h6⟩ := h
  obtain ⟨τ', r1, r2, r3⟩ := M_adv h2 (tg_b (t := t) h3).2.1 h5.2.2.1
  exact ⟨τ', r1, ⟨h1, h2.f r3, (tg_b (t := t) h3).2.1, h4.2, r2, by rw [r3.1 44 14 (by omega)]; exact h6⟩, r3⟩
theorem Sy1.g1 {t : Nat → Nat} {n : Nat} {σ τ : St} {f : Nat} (h : Sy1 t n σ τ f) : Sy1 t n σ (sI τ 44 14 1) f := by
  obtain ⟨h1, h2, h3, h4, h5, h6⟩ := h
  exact ⟨h1, h2.g (FG.rf.s (by omega)), h3, h4, h5.g, gI_s⟩
theorem Sy.g1 {t : Nat → Nat} {n : Nat} {σ τ : St} {e : Nat} (h : Sy t n σ τ e) : Sy t n σ (sI τ 44 14 1) e := by
  obtain ⟨h1, h2, h3, h4, h5, h6⟩ := h
  exact ⟨h1, h2.g (FG.rf.s (by omega)), h3, h4, h5.g, gI_s⟩
theorem Sy1.g0 {t : Nat → Nat} {n : Nat} {σ τ : St} {f : Nat} (h : Sy1 t n σ τ f) : Fl σ (sI τ 44 14 0) := by
  obtain ⟨h1, h2, h3, h4, h5, h6⟩ := h
  exact ⟨gI_s, f, by have := h1.2.1; omega, h4.1, by rw [gI_p (by decide)]; exact h5.2.1⟩
theorem Sy1.wd {t : Nat → Nat} {n : Nat} {σ τ : St} {f : Nat} (h : Sy1 t n σ τ f) {r : Nat} (hr : r < 12) (hw : ∀ j, j < ln (100 + r) → cL (ch (100 + r) j) = true) (W : Int64) (e : Int64.ofNat (hv (ch (100 + r)) 0 (ln (100 + r))) = W) : (fX_reads σ (100 + r) = some 1 ∧ fM_isWord τ W = 1 ∧ f < n ∧ f < tg t n f) ∨ (fX_reads σ (100 + r) = some 0 ∧ fM_isWord τ W = 0) := by
  obtain ⟨h1, h2, h3, h4, h5, h6⟩ := h
  have bd := tg_b (t := t) h3
  rw [← e, X_rd h1 h4.1 h4.2 bd.1 bd.2.1 hr, M_wd h5 h3 hr hw]
  cases hb : rdB t (100 + r) f (tg t n f)
  · exact Or.inr ⟨rfl, rfl⟩
  · have := (rdB_i.mp hb).1
    have := (ln_k r hr).1
    exact Or.inl ⟨rfl, rfl, by omega, by omega⟩
theorem Sy1.mk {t : Nat → Nat} {n : Nat} {σ τ : St} {f : Nat} (h : Sy1 t n σ τ f) {r : Nat} (hr : r < 12) (g1 : ln (100 + r) = 1) (hl : cL (ch (100 + r) 0) = false) (hd : cD (ch (100 + r) 0) = false) : (fX_reads σ (100 + r) = some 1 ∧ fM_isMark τ (nI (ch (100 + r) 0)) = 1 ∧ f < n ∧ f < tg t n f) ∨ (fX_reads σ (100 + r) = some 0 ∧ fM_isMark τ (nI (ch (100 + r) 0)) = 0) := by
  obtain ⟨h1, h2, h3, h4, h5, h6⟩ := h
  have bd := tg_b (t := t) h3
  rw [X_rd h1 h4.1 h4.2 bd.1 bd.2.1 hr, M_mk h2 h5 h3 hr g1 hl hd]
  cases hb : rdB t (100 + r) f (tg t n f)
  · exact Or.inr ⟨rfl, rfl⟩
  · have := (rdB_i.mp hb).1
    exact Or.inl ⟨rfl, rfl, by omega, by omega⟩
theorem Sy1.semi {t : Nat → Nat} {n : Nat} {σ τ : St} {f : Nat} (h : Sy1 t n σ τ f) : (fX_reads σ 101 = some 1 ∧ fM_isMark τ 59 = 1 ∧ f < n ∧ f < tg t n f) ∨ (fX_reads σ 101 = some 0 ∧ fM_isMark τ 59 = 0) := h.mk (r := 1) (by decide) rfl rfl rfl
theorem Sy1.comma {t : Nat → Nat} {n : Nat} {σ τ : St} {f : Nat} (h : Sy1 t n σ τ f) : (fX_reads σ 111 = some 1 ∧ fM_isMark τ 44 = 1 ∧ f < n ∧ f < tg t n f) ∨ (fX_reads σ 111 = some 0 ∧ fM_isMark τ 44 = 0) := h.mk (r := 11) (by decide) rfl rfl rfl
/-- at the end of one told thing -/
theorem Sy1.en {t : Nat → Nat} {n : Nat} {σ τ : St} {f : Nat} (h : Sy1 t n σ τ f) : (fX_reads σ 101 = some 1 ∧ ∃ τ', fM_wantEnd τ = some τ' ∧ Sy t n σ τ' (tg t n f) ∧ f < tg t n f ∧ FG τ τ') ∨ (fX_reads σ 101 = some 0 ∧ ∃ τ', fM_wantEnd τ = some τ' ∧ Fl σ τ' ∧ FG τ τ') := by
  have h6 := h.2.2.2.2.2
  rcases h.semi with ⟨a1, a2, a3, a4⟩ | ⟨a1, a2⟩
  · obtain ⟨τ', r1, r2, r3⟩ := h.g1.ad
    refine Or.inl ⟨a1, τ', ?_, r2, a4, (FG.rf.s (by omega)).tr r3.g⟩
    unfold fM_wantEnd
    rw [nm_def, h6, if_neg one_ne, a2, if_neg one_ne, gI_s, if_neg one_ne, r1, bd_some]
  · refine Or.inr ⟨a1, _, ?_, h.g0, FG.rf.s (by omega)⟩
    unfold fM_wantEnd
    rw [nm_def, h6, if_neg one_ne, a2, if_pos rfl, gI_s, if_pos rfl]
theorem Sy.en {t : Nat → Nat} {n : Nat} {σ τ : St} {e : Nat} (h : Sy t n σ τ e) : (∃ σ' τ' e', fX_readEnd σ = some (1, σ') ∧ fM_wantEnd τ = some τ' ∧ Sy t n σ' τ' e' ∧ e < e' ∧ FS σ σ' ∧ FG τ τ') ∨ (∃ σ' τ', fX_readEnd σ = some (0, σ') ∧ fM_wantEnd τ = some τ' ∧ Fl σ' τ' ∧ FS σ σ' ∧ FG τ τ') := by
  obtain ⟨σ', r1, r2, r3⟩ := h.st
  have := (tf_b (t := t) h.2.2.1).1
  rcases r2.en with ⟨a1, τ', a2, a3, a4, a5⟩ | ⟨a1, τ', a2, a3, a5⟩
  · refine Or.inl ⟨σ', τ', _, ?_, a2, a3, by omega, r3, a5⟩
    unfold fX_readEnd
    rw [r1, bd_some, a1, bd_some, if_pos (b01_1)]
  · refine Or.inr ⟨σ', τ', ?_, a2, a3, r3, a5⟩
    unfold fX_readEnd
    rw [r1, bd_some, a1, bd_some, if_pos (b01_0)]
theorem X_49 {σ : St} {t : Nat → Nat} {n f g : Nat} {lo hi : Int32} (h : TpE σ t n) (h3 : gI σ 25 3 = nI g) (hg : g ≤ n) (hd : ∀ j, f ≤ j → j < g → 48 ≤ t j) : ∀ d fu i, d + i = g → d < fu → f ≤ i → fX_readNumber_49 fu σ lo hi (nI (dv t f (i - f))) (nI i) = fX_readNumber_80 σ lo hi (nI (dv t f (g - f)))
  | _, 0, _, _, hf, _ => absurd hf (Nat.not_lt_zero _)
  | 0, fu + 1, i, e, hf, hi => by
    have h200 := h.2.1
    rw [fX_readNumber_49, h3, if_pos (nI_le (by omega) (by omega)), show i = g by omega]
  | d + 1, fu + 1, i, e, hf, hi => by
    have h200 := h.2.1
    have e2 : dv t f (i + 1 - f) = 10 * dv t f (i - f) + (t i - 48) := by
      rw [show i + 1 - f = (i - f) + 1 by omega]
      show 10 * dv t f (i - f) + (t (f + (i - f)) - 48) = _
      rw [show f + (i - f) = i by omega]
    rw [fX_readNumber_49, h3, if_neg (nI_ge (by omega) (by omega)), if_pos (ib_nI (by omega) (by omega)), nm_def, nm_def, ix_nI (by omega), (h.2.2 i (by omega)).1, dv_st (hd i hi (by omega)), nI_1, ← e2]
    exact X_49 h h3 hg hd d fu (i + 1) (by omega) (by omega) (by omega)
theorem dv_lt (t : Nat → Nat) (f : Nat) : ∀ k, (∀ j, j < k → t (f + j) ≤ 57) → dv t f k < 10 ^ k
  | 0, _ => Nat.one_pos
  | k + 1, h => by
    show 10 * dv t f k + (t (f + k) - 48) < 10 ^ k * 10
    have h1 := dv_lt t f k (fun j hj => h j (by omega))
    have h2 := h k (Nat.lt_succ_self k)
    omega
/-- a number: the class's step and reading, the reference's -/
theorem Sy.nu {t : Nat → Nat} {n : Nat} {σ τ : St} {e : Nat} (h : Sy t n σ τ e) {l0 : Nat} (hl0 : l0 < 1000) (hi : Int32) :
    (∃ v σ' τ' e', fX_readNumber σ (nI l0) hi = some (nI v, σ') ∧ fM_wantNumber τ (nI l0) hi = some (nI v, τ') ∧ (l0 ≤ v ∧ (v : Int) ≤ hi.toInt ∧ v < 100) ∧ Sy t n σ' τ' e' ∧ e < e' ∧ FS σ σ' ∧ FG τ τ' ∧ (gI τ 44 9 = 2 ∧ gI τ 44 13 = nI v) ∧ gI σ' 25 2 = nI (tf t n e)) ∨
    (∃ w σ' τ', fX_readNumber σ (nI l0) hi = some (-1, σ') ∧ fM_wantNumber τ (nI l0) hi = some (w, τ') ∧ Fl σ' τ' ∧ FS σ σ' ∧ FG τ τ' ∧ ∀ p, p < 1000 → l0 ≤ p → (p : Int) ≤ hi.toInt → ¬ (gI τ 44 9 = 2 ∧ gI τ 44 13 = nI p)) := by
  obtain ⟨σ1, r1, r2, r3⟩ := h.st
  have hef := (tf_b (t := t) h.2.2.1).1
  generalize hfe : tf t n e = f at *
  obtain ⟨k1, k2, k3, k4, k5, k6⟩ := id r2
  have bd := tg_b (t := t) k3
  have h200 := k1.2.1
  have bad : fX_readNumber σ (nI l0) hi = some (-1, σ1) → (if gI τ 44 9 = 2 then (if fM_in (gI τ 44 13) (nI l0) hi = 0 then (0 : Int32) else 1) else 0) = 0 → (∀ p, p < 1000 → l0 ≤ p → (p : Int) ≤ hi.toInt → ¬ (gI τ 44 9 = 2 ∧ gI τ 44 13 = nI p)) → (∃ w σ' τ', fX_readNumber σ (nI l0) hi = some (-1, σ') ∧ fM_wantNumber τ (nI l0) hi = some (w, τ') ∧ Fl σ' τ' ∧ FS σ σ' ∧ FG τ τ' ∧ ∀ p, p < 1000 → l0 ≤ p → (p : Int) ≤ hi.toInt → ¬ (gI τ 44 9 = 2 ∧ gI τ 44 13 = nI p)) := by
    intro x1 x2 x3
    refine ⟨gI τ 44 13, σ1, sI τ 44 14 0, x1, ?_, r2.g0, r3, FG.rf.s (by omega), x3⟩
    unfold fM_wantNumber
    rw [nm_def, nm_def, k6, if_neg one_ne, x2, gI_s, if_pos rfl]
  have nd : f < n → cD (t f) = false → fX_readNumber σ (nI l0) hi = some (-1, σ1) := by
    intro x1 x2
    unfold fX_readNumber
    rw [r1, bd_some, k1.1, k4.1, if_neg (nI_ge x1 (by omega)), X_d k1 x1, bd_some, x2, b2f, if_pos rfl]
  rcases so_c t n f with ⟨e0, g1⟩ | ⟨e0, g1, gl⟩ | ⟨e0, g1, gl, gd⟩ | ⟨e0, g1, gl, gd⟩
  · refine Or.inr (bad ?_ ?_ ?_)
    · unfold fX_readNumber
      rw [r1, bd_some, k1.1, k4.1, if_pos (nI_le g1 (by omega))]
    · rw [k5.1, e0, if_neg (by decide)]
    · intro p _ _ _ z
      rw [k5.1, e0] at z
      exact absurd z.1 (by decide)
  · refine Or.inr (bad (nd g1 ?_) ?_ ?_)
    · have := cL_i.mp gl
      cases hx : cD (t f)
      · rfl
      · have := cD_i.mp hx; omega
    · rw [k5.1, e0, if_neg (by decide)]
    · intro p _ _ _ z
      rw [k5.1, e0] at z
      exact absurd z.1 (by decide)
  · have hall := (sk_b (P := cD) (t := t) k3).2.2.1
    rw [← tg_2 e0] at hall
    have s2 : gI τ 44 9 = 2 := by rw [k5.1, e0]; rfl
    have E0 : fX_readNumber σ (nI l0) hi = if nI (tg t n f - f) ≤ 2 then fX_readNumber_49 300 σ1 (nI l0) hi 0 (nI f) else some (-1, σ1) := by
      unfold fX_readNumber
      rw [r1, bd_some, k1.1, k4.1, if_neg (nI_ge g1 (by omega)), X_d k1 g1, bd_some, gd, b2t, if_neg one_ne, k4.2, pk_sub bd.1]
      rfl
    by_cases hk : tg t n f - f ≤ 2
    · have x49 := X_49 (lo := nI l0) (hi := hi) k1 k4.2 bd.2.1 (fun j a b => (cD_i.mp (hall j a b)).1) (tg t n f - f) 300 f (by omega) (by omega) (Nat.le_refl _)
      rw [Nat.sub_self] at x49
      have hv : dv t f (tg t n f - f) < 100 := by
        have a1 := dv_lt t f (tg t n f - f) (fun j hj => (cD_i.mp (hall (f + j) (by omega) (by omega))).2)
        have a2 : 10 ^ (tg t n f - f) ≤ 10 ^ 2 := Nat.pow_le_pow_right (by decide) hk
        omega
      have ev : gI τ 44 13 = nI (dv t f (tg t n f - f)) := by
        rw [k5.2.2.2.2.1 e0]; unfold vv; rw [if_pos hk]
      rw [if_pos (show nI (tg t n f - f) ≤ (2 : Int32) from nI_le (b := 2) hk (by omega)), show fX_readNumber_49 300 σ1 (nI l0) hi 0 (nI f) = _ from x49] at E0
      generalize dv t f (tg t n f - f) = v at *
      unfold fX_readNumber_80 at E0
      by_cases c1 : nI v < nI l0
      · refine Or.inr (bad (by rw [E0, if_pos c1]) ?_ ?_)
        · rw [s2, if_pos rfl, ev, show fM_in (nI v) (nI l0) hi = 0 from if_pos c1, if_pos rfl]
        · intro p q1 q2 q3 z
          rw [ev] at z
          rw [(nI_eq (by omega) (by omega)).mp z.2, lt_i, nI_toInt (by omega), nI_toInt (by omega)] at c1
          omega
      by_cases c2 : hi < nI v
      · refine Or.inr (bad (by rw [E0, if_neg c1, if_pos c2]) ?_ ?_)
        · rw [s2, if_pos rfl, ev, show fM_in (nI v) (nI l0) hi = 0 by unfold fM_in; rw [if_neg c1, if_pos c2], if_pos rfl]
        · intro p q1 q2 q3 z
          rw [ev] at z
          rw [(nI_eq (by omega) (by omega)).mp z.2, lt_i, nI_toInt (by omega)] at c2
          omega
      obtain ⟨τ', a1, a2, a3⟩ := r2.g1.ad
      refine Or.inl ⟨v, σ1, τ', _, by rw [E0, if_neg c1, if_neg c2], ?_, ⟨?_, ?_, hv⟩, a2, by have := bd.2.2 g1; omega, r3, (FG.rf.s (by omega)).tr a3.g, ⟨s2, ev⟩, k4.1⟩
      · unfold fM_wantNumber
        rw [nm_def, nm_def, k6, if_neg one_ne, s2, if_pos rfl, ev, show fM_in (nI v) (nI l0) hi = 1 by unfold fM_in; rw [if_neg c1, if_neg c2], if_neg one_ne, gI_s, if_neg one_ne, a1, bd_some]
      · rw [lt_i, nI_toInt (by omega), nI_toInt (by omega)] at c1
        omega
      · rw [lt_i, nI_toInt (by omega)] at c2
        omega
    · have ev : gI τ 44 13 = -1 := by
        rw [k5.2.2.2.2.1 e0]; unfold vv; rw [if_neg hk]
      refine Or.inr (bad ?_ ?_ ?_)
      · rw [E0, if_neg (show ¬ nI (tg t n f - f) ≤ (2 : Int32) from nI_ge (a := 2) (by omega) (by omega))]
      · rw [s2, if_pos rfl, ev, show fM_in (-1) (nI l0) hi = 0 from if_pos (by rw [lt_i, nI_toInt (by omega), show (-1 : Int32).toInt = -1 from rfl]; omega), if_pos rfl]
      · intro p q1 q2 q3 z
        rw [ev] at z
        exact m1_nI q1 z.2.symm
  · refine Or.inr (bad (nd g1 gd) ?_ ?_)
    · rw [k5.1, e0, if_neg (by decide)]
    · intro p _ _ _ z
      rw [k5.1, e0] at z
      exact absurd z.1 (by decide)
