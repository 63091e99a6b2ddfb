/-! the text: blanks, names, numbers; how both step over it -/
def cL (b : Nat) : Bool := decide (97 ≤ b) && decide (b ≤ 122)
def cD (b : Nat) : Bool := decide (48 ≤ b) && decide (b ≤ 57)
def cB (b : Nat) : Bool := decide (b = 32)
theorem cL_i {b : Nat} : cL b = true ↔ 97 ≤ b ∧ b ≤ 122 := by simp [cL]
theorem cD_i {b : Nat} : cD b = true ↔ 48 ≤ b ∧ b ≤ 57 := by simp [cD]
/-- on while it holds -/
def skf (P : Nat → Bool) (t : Nat → Nat) : Nat → Nat → Nat
  | 0, i => i
  | k + 1, i => if P (t i) = true then skf P t k (i + 1) else i
def sk (P : Nat → Bool) (t : Nat → Nat) (n i : Nat) : Nat := skf P t (n - i) i
theorem sk_y {P : Nat → Bool} {t : Nat → Nat} {n i : Nat} (h : i < n) (hp : P (t i) = true) : sk P t n i = sk P t n (i + 1) := by
  unfold sk
  rw [show n - i = (n - (i + 1)) + 1 by omega]
  show (if P (t i) = true then _ else _) = _
  rw [if_pos hp]
theorem sk_n {P : Nat → Bool} {t : Nat → Nat} {n i : Nat} (h : ¬ (i < n ∧ P (t i) = true)) : sk P t n i = i := by
  unfold sk
  by_cases hi : i < n
  · rw [show n - i = (n - (i + 1)) + 1 by omega]
    show (if P (t i) = true then _ else _) = _
    rw [if_neg (fun z => h ⟨hi, z⟩)]
  · rw [show n - i = 0 by omega]; rfl
theorem sk_bd {P : Nat → Bool} {t : Nat → Nat} {n : Nat} : ∀ d i, d + i = n → i ≤ sk P t n i ∧ sk P t n i ≤ n ∧ (∀ j, i ≤ j → j < sk P t n i → P (t j) = true) ∧ (sk P t n i < n → P (t (sk P t n i)) = false)
  | 0, i, h => by
    rw [sk_n (fun z => absurd z.1 (by omega))]
    exact ⟨Nat.le_refl _, by omega, fun j h1 h2 => by omega, fun h => by omega⟩
  | d + 1, i, h => by
    by_cases hp : P (t i) = true
    · rw [sk_y (by omega) hp]
      obtain ⟨h1, h2, h3, h4⟩ := sk_bd (P := P) (t := t) (n := n) d (i + 1) (by omega)
      refine ⟨by omega, h2, fun j g1 g2 => ?_, h4⟩
      by_cases e : j = i
      · rw [e]; exact hp
      · exact h3 j (by omega) g2
    · rw [sk_n (fun z => hp z.2)]
      exact ⟨Nat.le_refl _, by omega, fun j h1 h2 => by omega, fun _ => by simpa using hp⟩
theorem sk_b {P : Nat → Bool} {t : Nat → Nat} {n i : Nat} (h : i ≤ n) : i ≤ sk P t n i ∧ sk P t n i ≤ n ∧ (∀ j, i ≤ j → j < sk P t n i → P (t j) = true) ∧ (sk P t n i < n → P (t (sk P t n i)) = false) := sk_bd (n - i) i (by omega)
/-- where the next one begins, its sort, where it ends -/
def tf (t : Nat → Nat) (n e : Nat) : Nat := sk cB t n e
def so (t : Nat → Nat) (n f : Nat) : Nat := if n ≤ f then 0 else if cL (t f) = true then 1 else if cD (t f) = true then 2 else 3
def tg (t : Nat → Nat) (n f : Nat) : Nat := if so t n f = 0 then f else if so t n f = 1 then sk cL t n f else if so t n f = 2 then sk cD t n f else f + 1
theorem so_c (t : Nat → Nat) (n f : Nat) : (so t n f = 0 ∧ n ≤ f) ∨ (so t n f = 1 ∧ f < n ∧ cL (t f) = true) ∨ (so t n f = 2 ∧ f < n ∧ cL (t f) = false ∧ cD (t f) = true) ∨ (so t n f = 3 ∧ f < n ∧ cL (t f) = false ∧ cD (t f) = false) := by
  unfold so
  by_cases h1 : n ≤ f
  · rw [if_pos h1]; exact Or.inl ⟨rfl, h1⟩
  rw [if_neg h1]
  cases h2 : cL (t f)
  · rw [if_neg (by decide)]
    cases h3 : cD (t f)
    · rw [if_neg (by decide)]; exact Or.inr (Or.inr (Or.inr ⟨rfl, by omega, rfl, rfl⟩))
    · rw [if_pos rfl]; exact Or.inr (Or.inr (Or.inl ⟨rfl, by omega, rfl, rfl⟩))
  · rw [if_pos rfl]; exact Or.inr (Or.inl ⟨rfl, by omega, rfl⟩)
theorem so_lt (t : Nat → Nat) (n f : Nat) : so t n f < 4 := by
  rcases so_c t n f with ⟨e, -⟩ | ⟨e, -⟩ | ⟨e, -⟩ | ⟨e, -⟩ <;> rw [e] <;> decide
theorem tg_0 {t : Nat → Nat} {n f : Nat} (h : so t n f = 0) : tg t n f = f := if_pos h
theorem tg_1 {t : Nat → Nat} {n f : Nat} (h : so t n f = 1) : tg t n f = sk cL t n f := by unfold tg; rw [h]; rfl
theorem tg_2 {t : Nat → Nat} {n f : Nat} (h : so t n f = 2) : tg t n f = sk cD t n f := by unfold tg; rw [h]; rfl
theorem tg_3 {t : Nat → Nat} {n f : Nat} (h : so t n f = 3) : tg t n f = f + 1 := by unfold tg; rw [h]; rfl
theorem tf_b {t : Nat → Nat} {n e : Nat} (h : e ≤ n) : e ≤ tf t n e ∧ tf t n e ≤ n := ⟨(sk_b h).1, (sk_b h).2.1⟩
theorem tg_b {t : Nat → Nat} {n f : Nat} (h : f ≤ n) : f ≤ tg t n f ∧ tg t n f ≤ n ∧ (f < n → f < tg t n f) := by
  rcases so_c t n f with ⟨e, h1⟩ | ⟨e, h1, h2⟩ | ⟨e, h1, -, h2⟩ | ⟨e, h1, -⟩
  · rw [tg_0 e]; omega
  · rw [tg_1 e, sk_y h1 h2]; have := sk_b (P := cL) (t := t) (show f + 1 ≤ n by omega); omega
  · rw [tg_2 e, sk_y h1 h2]; have := sk_b (P := cD) (t := t) (show f + 1 ≤ n by omega); omega
  · rw [tg_3 e]; omega
/-- the tape on both sides -/
def TpE (σ : St) (t : Nat → Nat) (n : Nat) : Prop := gI σ 25 1 = nI n ∧ n ≤ 200 ∧ ∀ i, i < n → gI σ 26 i = nI (t i) ∧ t i < 256
def TpM (σ : St) (t : Nat → Nat) (n : Nat) : Prop := gI σ 44 8 = nI n ∧ n ≤ 200 ∧ ∀ i, i < n → gI σ 49 i = nI (t i) ∧ t i < 256
def FS (σ τ : St) : Prop := (∀ a b, ¬ (a = 25 ∧ (b = 2 ∨ b = 3)) → gI τ a b = gI σ a b) ∧ (∀ a b, gL τ a b = gL σ a b) ∧ (∀ j, gR τ j = gR σ j)
def FA (σ τ : St) : Prop := (∀ a b, ¬ (a = 44 ∧ (b = 9 ∨ b = 10 ∨ b = 11 ∨ b = 13)) → gI τ a b = gI σ a b) ∧ (∀ a b, ¬ a = 44 → gL τ a b = gL σ a b) ∧ (∀ j, gR τ j = gR σ j)
theorem FS.rf {σ : St} : FS σ σ := ⟨fun _ _ _ => rfl, fun _ _ => rfl, fun _ => rfl⟩
theorem FS.tr {σ τ υ : St} (h1 : FS σ τ) (h2 : FS τ υ) : FS σ υ := ⟨fun a b h => (h2.1 a b h).trans (h1.1 a b h), fun a b => (h2.2.1 a b).trans (h1.2.1 a b), fun j => (h2.2.2 j).trans (h1.2.2 j)⟩
theorem FS.s {σ τ : St} {k j : Nat} {v : Int32} (h1 : FS σ τ) (h : k = 25 ∧ (j = 2 ∨ j = 3)) : FS σ (sI τ k j v) := h1.tr ⟨fun a b x => if_neg (fun z => by omega), fun _ _ => rfl, fun _ => rfl⟩
theorem FA.rf {σ : St} : FA σ σ := ⟨fun _ _ _ => rfl, fun _ _ _ => rfl, fun _ => rfl⟩
theorem FA.tr {σ τ υ : St} (h1 : FA σ τ) (h2 : FA τ υ) : FA σ υ := ⟨fun a b h => (h2.1 a b h).trans (h1.1 a b h), fun a b h => (h2.2.1 a b h).trans (h1.2.1 a b h), fun j => (h2.2.2 j).trans (h1.2.2 j)⟩
theorem FA.s {σ τ : St} {k j : Nat} {v : Int32} (h1 : FA σ τ) (h : k = 44 ∧ (j = 9 ∨ j = 10 ∨ j = 11 ∨ j = 13)) : FA σ (sI τ k j v) := h1.tr ⟨fun a b x => if_neg (fun z => by omega), fun _ _ _ => rfl, fun _ => rfl⟩
theorem FA.l {σ τ : St} {j : Nat} {v : Int64} (h1 : FA σ τ) : FA σ (sL τ 44 j v) := h1.tr ⟨fun a b x => rfl, fun a b h => if_neg (fun z => h z.1), fun _ => rfl⟩
theorem TpE.f {σ τ : St} {t : Nat → Nat} {n : Nat} (h : TpE σ t n) (e : FS σ τ) : TpE τ t n := ⟨by rw [e.1 25 1 (by omega)]; exact h.1, h.2.1, fun i hi => by rw [e.1 26 i (by omega)]; exact h.2.2 i hi⟩
theorem TpM.f {σ τ : St} {t : Nat → Nat} {n : Nat} (h : TpM σ t n) (e : FA σ τ) : TpM τ t n := ⟨by rw [e.1 44 8 (by omega)]; exact h.1, h.2.1, fun i hi => by rw [e.1 49 i (by omega)]; exact h.2.2 i hi⟩
/-! the class's step -/
theorem xl_k : ∀ b, b < 256 → (if nI b < (97 : Int32) then some (0 : Int32) else some (if (122 : Int32) < nI b then (0 : Int32) else (1 : Int32))) = some (b2i (cL b)) := by decide +kernel
theorem xd_k : ∀ b, b < 256 → (if nI b < (48 : Int32) then some (0 : Int32) else some (if (57 : Int32) < nI b then (0 : Int32) else (1 : Int32))) = some (b2i (cD b)) := by decide +kernel
theorem X_l {σ : St} {t : Nat → Nat} {n i : Nat} (h : TpE σ t n) (hi : i < n) : fX_isLetter σ (nI i) = some (b2i (cL (t i))) := by
  have h2 := h.2.1
  have i2 : ib (nI i) 200 = true := ib_nI (by omega) (by omega)
  unfold fX_isLetter
  rw [if_pos i2, if_pos i2, ix_nI (by omega), (h.2.2 i hi).1]
  exact xl_k _ (h.2.2 i hi).2
theorem X_d {σ : St} {t : Nat → Nat} {n i : Nat} (h : TpE σ t n) (hi : i < n) : fX_isDigit σ (nI i) = some (b2i (cD (t i))) := by
  have h2 := h.2.1
  have i2 : ib (nI i) 200 = true := ib_nI (by omega) (by omega)
  unfold fX_isDigit
  rw [if_pos i2, if_pos i2, ix_nI (by omega), (h.2.2 i hi).1]
  exact xd_k _ (h.2.2 i hi).2
theorem X_142 {t : Nat → Nat} {n : Nat} : ∀ d fu i σ, TpE σ t n → d + i = n → d < fu → gI σ 25 3 = nI i → ∃ τ, fX_step_142 fu σ = some τ ∧ gI τ 25 3 = nI (sk cD t n i) ∧ gI τ 25 2 = gI σ 25 2 ∧ FS σ τ
  | _, 0, _, _, _, _, hf, _ => absurd hf (Nat.not_lt_zero _)
  | 0, fu + 1, i, σ, h, hd, hf, hi => by
    refine ⟨σ, ?_, ?_, rfl, FS.rf⟩
    · rw [fX_step_142, h.1, hi, if_pos (nI_le (by omega) (by have := h.2.1; omega))]
    · rw [hi, sk_n (fun z => absurd z.1 (by omega))]
  | d + 1, fu + 1, i, σ, h, hd, hf, hi => by
    have h200 := h.2.1
    rw [fX_step_142, h.1, hi, if_neg (nI_ge (by omega) (by omega)), X_d h (by omega), bd_some]
    by_cases hp : cD (t i) = true
    · rw [hp, b2t, if_neg one_ne, nm_def, nI_1, sk_y (by omega) hp]
      obtain ⟨τ, r1, r2, r3, r4⟩ := X_142 d fu (i + 1) (sI σ 25 3 (nI (i + 1))) (h.f (FS.rf.s (by omega))) (by omega) (by omega) gI_s
      exact ⟨τ, r1, r2, r3.trans (gI_p (by decide)), (FS.rf.s (by omega)).tr r4⟩
    · rw [Bool.not_eq_true] at hp
      rw [hp, b2f, if_pos rfl]
      exact ⟨σ, rfl, by rw [hi, sk_n (fun z => by rw [hp] at z; cases z.2)], rfl, FS.rf⟩
theorem X_85 {t : Nat → Nat} {n : Nat} : ∀ d fu i σ, TpE σ t n → d + i = n → d < fu → gI σ 25 3 = nI i → ∃ τ, fX_step_85 fu σ = some τ ∧ gI τ 25 3 = nI (sk cL t n i) ∧ gI τ 25 2 = gI σ 25 2 ∧ FS σ τ
  | _, 0, _, _, _, _, hf, _ => absurd hf (Nat.not_lt_zero _)
  | 0, fu + 1, i, σ, h, hd, hf, hi => by
    refine ⟨σ, ?_, ?_, rfl, FS.rf⟩
    · rw [fX_step_85, h.1, hi, if_pos (nI_le (by omega) (by have := h.2.1; omega))]
    · rw [hi, sk_n (fun z => absurd z.1 (by omega))]
  | d + 1, fu + 1, i, σ, h, hd, hf, hi => by
    have h200 := h.2.1
    rw [fX_step_85, h.1, hi, if_neg (nI_ge (by omega) (by omega)), X_l h (by omega), bd_some]
    by_cases hp : cL (t i) = true
    · rw [hp, b2t, if_neg one_ne, nm_def, nI_1, sk_y (by omega) hp]
      obtain ⟨τ, r1, r2, r3, r4⟩ := X_85 d fu (i + 1) (sI σ 25 3 (nI (i + 1))) (h.f (FS.rf.s (by omega))) (by omega) (by omega) gI_s
      exact ⟨τ, r1, r2, r3.trans (gI_p (by decide)), (FS.rf.s (by omega)).tr r4⟩
    · rw [Bool.not_eq_true] at hp
      rw [hp, b2f, if_pos rfl]
      exact ⟨σ, rfl, by rw [hi, sk_n (fun z => by rw [hp] at z; cases z.2)], rfl, FS.rf⟩
theorem X_46 {σ : St} {t : Nat → Nat} {n f : Nat} (h : TpE σ t n) (hf : f ≤ n) (h2 : gI σ 25 2 = nI f) : ∃ τ, fX_step_46 σ = some τ ∧ gI τ 25 2 = nI f ∧ gI τ 25 3 = nI (tg t n f) ∧ FS σ τ := by
  have h200 := h.2.1
  unfold fX_step_46
  rw [nm_def, h2, h.1, nI_1]
  rcases so_c t n f with ⟨e, h1⟩ | ⟨e, h1, hl⟩ | ⟨e, h1, hl, hd⟩ | ⟨e, h1, hl, hd⟩
  · have em : mmin (nI (f + 1)) (nI n) = nI f := by
      unfold mmin
      rw [if_pos (nI_lt (by omega) (by omega)), show n = f by omega]
    rw [em, tg_0 e]
    unfold fX_step_120
    rw [gI_p (by decide), gI_p (by decide), h2, h.1, if_pos (nI_le h1 (by omega)), if_pos (nI_le h1 (by omega))]
    exact ⟨_, rfl, by rw [gI_p (by decide)]; exact h2, gI_s, FS.rf.s (by omega)⟩
  all_goals
    have em : mmin (nI (f + 1)) (nI n) = nI (f + 1) := by
      unfold mmin
      rw [if_neg (Int32.not_lt.mpr (nI_le (by omega) (by omega)))]
    rw [em]
    have hs : TpE (sI σ 25 3 (nI (f + 1))) t n := h.f (FS.rf.s (by omega))
    have g2 : gI (sI σ 25 3 (nI (f + 1))) 25 2 = nI f := by rw [gI_p (by decide)]; exact h2
    rw [hs.1, g2, if_neg (nI_ge h1 (by omega)), X_l hs h1, bd_some, hl]
  · rw [b2t, if_neg one_ne, tg_1 e, sk_y h1 hl]
    obtain ⟨τ, r1, r2, r3, r4⟩ := X_85 (n - (f + 1)) 300 (f + 1) _ hs (by omega) (by omega) gI_s
    exact ⟨τ, r1, r3.trans g2, r2, (FS.rf.s (by omega)).tr r4⟩
  · unfold fX_step_120
    rw [b2f, if_pos rfl, hs.1, g2, if_neg (nI_ge h1 (by omega)), X_d hs h1, bd_some, hd, b2t, if_neg one_ne, tg_2 e, sk_y h1 hd]
    obtain ⟨τ, r1, r2, r3, r4⟩ := X_142 (n - (f + 1)) 300 (f + 1) _ hs (by omega) (by omega) gI_s
    exact ⟨τ, r1, r3.trans g2, r2, (FS.rf.s (by omega)).tr r4⟩
  · unfold fX_step_120
    rw [b2f, if_pos rfl, hs.1, g2, if_neg (nI_ge h1 (by omega)), X_d hs h1, bd_some, hd, b2f, if_pos rfl, tg_3 e]
    exact ⟨_, rfl, g2, gI_s, FS.rf.s (by omega)⟩
theorem nI_b32 {b : Nat} (h : b < 256) : nI b = (32 : Int32) ↔ cB b = true := by
  rw [show (32 : Int32) = nI 32 from rfl, nI_eq (by omega) (by omega)]
  simp [cB]
theorem X_8 {t : Nat → Nat} {n : Nat} : ∀ d fu i σ, TpE σ t n → d + i = n → d < fu → gI σ 25 2 = nI i → ∃ τ, fX_step_8 fu σ = fX_step_46 τ ∧ gI τ 25 2 = nI (sk cB t n i) ∧ FS σ τ
  | _, 0, _, _, _, _, hf, _ => absurd hf (Nat.not_lt_zero _)
  | 0, fu + 1, i, σ, h, hd, hf, hi => by
    refine ⟨σ, ?_, ?_, FS.rf⟩
    · rw [fX_step_8, h.1, hi, if_pos (nI_le (by omega) (by have := h.2.1; omega))]
    · rw [hi, sk_n (fun z => absurd z.1 (by omega))]
  | d + 1, fu + 1, i, σ, h, hd, hf, hi => by
    have h200 := h.2.1
    have hi' : i < n := by omega
    have hb := nI_b32 (h.2.2 i hi').2
    rw [fX_step_8, h.1, hi, if_neg (nI_ge hi' (by omega)), if_pos (ib_nI (by omega) (by omega)), ix_nI (by omega), (h.2.2 i hi').1]
    by_cases hp : cB (t i) = true
    · rw [if_pos (hb.mpr hp), nm_def, nI_1, sk_y hi' hp]
      obtain ⟨τ, r1, r2, r4⟩ := X_8 d fu (i + 1) (sI σ 25 2 (nI (i + 1))) (h.f (FS.rf.s (by omega))) (by omega) (by omega) gI_s
      exact ⟨τ, r1, r2, (FS.rf.s (by omega)).tr r4⟩
    · rw [if_neg (fun z => hp (hb.mp z))]
      exact ⟨σ, rfl, by rw [hi, sk_n (fun z => hp z.2)], FS.rf⟩
theorem X_st {σ : St} {t : Nat → Nat} {n e : Nat} (h : TpE σ t n) (he : e ≤ n) (h3 : gI σ 25 3 = nI e) : ∃ τ, fX_step σ = some τ ∧ gI τ 25 2 = nI (tf t n e) ∧ gI τ 25 3 = nI (tg t n (tf t n e)) ∧ FS σ τ := by
  have h200 := h.2.1
  obtain ⟨τ, r1, r2, r3⟩ := X_8 (n - e) 300 e (sI σ 25 2 (nI e)) (h.f (FS.rf.s (by omega))) (by omega) (by omega) gI_s
  obtain ⟨υ, s1, s2, s3, s4⟩ := X_46 ((h.f (FS.rf.s (by omega))).f r3) (tf_b he).2 r2
  refine ⟨υ, ?_, s2, s3, ((FS.rf.s (by omega)).tr r3).tr s4⟩
  unfold fX_step
  rw [nm_def, h3, r1, s1]
/-! the reference's -/
theorem M_by {σ : St} {t : Nat → Nat} {n i : Nat} (h : TpM σ t n) (hi : i < n) : fM_byteAt σ (nI i) = some (nI (t i)) := by
  have h2 := h.2.1
  unfold fM_byteAt
  rw [h.1, if_neg (nI_ge hi (by omega)), if_pos (ib_nI (by omega) (by omega)), ix_nI (by omega), (h.2.2 i hi).1]
theorem M_byN {σ : St} {t : Nat → Nat} {n i : Nat} (h : TpM σ t n) (hi : n ≤ i) (hi2 : i < 1000) : fM_byteAt σ (nI i) = some (-1) := by
  unfold fM_byteAt
  rw [h.1, if_pos (nI_le hi (by omega))]
theorem ml_k : ∀ b, b < 256 → fM_isLetter (nI b) = b2i (cL b) := by decide +kernel
theorem md_k : ∀ b, b < 256 → fM_isDigit (nI b) = b2i (cD b) := by decide +kernel
/-- the number so far, the name so far -/
def dv (t : Nat → Nat) (f : Nat) : Nat → Nat
  | 0 => 0
  | k + 1 => 10 * dv t f k + (t (f + k) - 48)
def vv (t : Nat → Nat) (f k : Nat) : Int32 := if k ≤ 2 then nI (dv t f k) else -1
def hv (t : Nat → Nat) (f : Nat) : Nat → Nat
  | 0 => 0
  | k + 1 => 27 * hv t f k + (t (f + k) - 96)
def ww (t : Nat → Nat) (f k : Nat) : Int64 := if k ≤ 8 then Int64.ofNat (hv t f k) else -1
theorem dv_st {v b : Nat} (h : 48 ≤ b) : (10 : Int32) * nI v + nI b - 48 = nI (10 * v + (b - 48)) := by
  rw [show (10 : Int32) = nI 10 from rfl, show (48 : Int32) = nI 48 from rfl, pk_mul, nI_add, pk_sub (by omega), show 10 * v + b - 48 = 10 * v + (b - 48) by omega]
theorem b64_k : ∀ b, b < 256 → (nI b).toInt64 = Int64.ofNat b := by decide +kernel
theorem hv_st {v b : Nat} (h : 96 ≤ b) (h2 : b < 256) : (27 : Int64) * Int64.ofNat v + (nI b).toInt64 - 96 = Int64.ofNat (27 * v + (b - 96)) := by
  obtain ⟨c, rfl⟩ : ∃ c, b = c + 96 := ⟨b - 96, by omega⟩
  rw [b64_k _ h2, show (27 : Int64) = Int64.ofNat 27 from rfl, show (96 : Int64) = Int64.ofNat 96 from rfl, ← Int64.ofNat_mul, ← Int64.ofNat_add, ← Nat.add_assoc, Int64.ofNat_add _ 96, Int64.add_sub_cancel, Nat.add_sub_cancel]
theorem M_207n {σ : St} {fu : Nat} (h : ¬ gI σ 44 9 = 2) : fM_advance_207 (fu + 1) σ = some σ := by
  rw [fM_advance_207, if_neg h]
theorem M_207 {t : Nat → Nat} {n f : Nat} : ∀ d fu i σ, TpM σ t n → d + i = n → d < fu → f ≤ i → gI σ 44 9 = 2 → gI σ 44 10 = nI f → gI σ 44 11 = nI i → gI σ 44 13 = vv t f (i - f) → ∃ τ, fM_advance_207 fu σ = some τ ∧ gI τ 44 9 = 2 ∧ gI τ 44 10 = nI f ∧ gI τ 44 11 = nI (sk cD t n i) ∧ gI τ 44 13 = vv t f (sk cD t n i - f) ∧ FA σ τ
  | _, 0, _, _, _, _, hf, _, _, _, _, _ => absurd hf (Nat.not_lt_zero _)
  | 0, fu + 1, i, σ, h, hd, hf, hfi, h9, h10, hi, hw => by
    have h200 := h.2.1
    refine ⟨σ, ?_, h9, h10, ?_, ?_, FA.rf⟩
    · rw [fM_advance_207, if_pos h9, hi, M_byN h (by omega) (by omega), bd_some, if_pos (by decide)]
    · rw [hi, sk_n (fun z => absurd z.1 (by omega))]
    · rw [hw, sk_n (fun z => absurd z.1 (by omega))]
  | d + 1, fu + 1, i, σ, h, hd, hf, hfi, h9, h10, hi, hw => by
    have h200 := h.2.1
    have hi' : i < n := by omega
    have hb := (h.2.2 i hi').2
    rw [fM_advance_207, if_pos h9, hi, M_by h hi', bd_some, md_k _ hb]
    by_cases hp : cD (t i) = true
    · have hd2 := cD_i.mp hp
      rw [hp, b2t, if_neg one_ne, h10, pk_sub hfi, sk_y hi' hp]
      by_cases hk : 2 ≤ i - f
      · rw [if_pos (show (2 : Int32) ≤ nI (i - f) from nI_le (a := 2) hk (by omega)), nm_def, nm_def, gI_p (by decide), hi, nI_1]
        obtain ⟨τ, r1, r2, r3, r4, r5, r6⟩ := M_207 (t := t) (n := n) (f := f) d fu (i + 1) (sI (sI σ 44 13 (-1)) 44 11 (nI (i + 1))) (h.f ((FA.rf.s (by omega)).s (by omega))) (by omega) (by omega) (by omega) (by rw [gI_p (by decide), gI_p (by decide)]; exact h9) (by rw [gI_p (by decide), gI_p (by decide)]; exact h10) gI_s (by rw [gI_p (by decide), gI_s]; unfold vv; rw [if_neg (by omega)])
        exact ⟨τ, r1, r2, r3, r4, r5, ((FA.rf.s (by omega)).s (by omega)).tr r6⟩
      · have e1 : gI σ 44 13 = nI (dv t f (i - f)) := by rw [hw]; unfold vv; rw [if_pos (by omega)]
        have e2 : vv t f (i + 1 - f) = nI (10 * dv t f (i - f) + (t i - 48)) := by
          unfold vv
          rw [if_pos (by omega), show i + 1 - f = (i - f) + 1 by omega]
          show nI (10 * dv t f (i - f) + (t (f + (i - f)) - 48)) = _
          rw [show f + (i - f) = i by omega]
        rw [if_neg (show ¬ (2 : Int32) ≤ nI (i - f) from nI_ge (b := 2) (by omega) (by omega)), bd_some, nm_def, nm_def, gI_p (by decide), hi, nI_1, e1, dv_st (by omega)]
        obtain ⟨τ, r1, r2, r3, r4, r5, r6⟩ := M_207 (t := t) (n := n) (f := f) d fu (i + 1) (sI (sI σ 44 13 (nI (10 * dv t f (i - f) + (t i - 48)))) 44 11 (nI (i + 1))) (h.f ((FA.rf.s (by omega)).s (by omega))) (by omega) (by omega) (by omega) (by rw [gI_p (by decide), gI_p (by decide)]; exact h9) (by rw [gI_p (by decide), gI_p (by decide)]; exact h10) gI_s (by rw [gI_p (by decide), gI_s, e2])
        exact ⟨τ, r1, r2, r3, r4, r5, ((FA.rf.s (by omega)).s (by omega)).tr r6⟩
    · rw [Bool.not_eq_true] at hp
      rw [hp, b2f, if_pos rfl]
      exact ⟨σ, rfl, h9, h10, by rw [hi, sk_n (fun z => by rw [hp] at z; cases z.2)], by rw [hw, sk_n (fun z => by rw [hp] at z; cases z.2)], FA.rf⟩
theorem M_126n {σ : St} {fu : Nat} (h : ¬ gI σ 44 9 = 1) : fM_advance_126 (fu + 1) σ = fM_advance_207 300 σ := by
  rw [fM_advance_126, if_neg h]
theorem M_126 {t : Nat → Nat} {n f : Nat} : ∀ d fu i σ, TpM σ t n → d + i = n → d < fu → f ≤ i → gI σ 44 9 = 1 → gI σ 44 10 = nI f → gI σ 44 11 = nI i → gL σ 44 12 = ww t f (i - f) → ∃ τ, fM_advance_126 fu σ = some τ ∧ gI τ 44 9 = 1 ∧ gI τ 44 10 = nI f ∧ gI τ 44 11 = nI (sk cL t n i) ∧ gL τ 44 12 = ww t f (sk cL t n i - f) ∧ FA σ τ
  | _, 0, _, _, _, _, hf, _, _, _, _, _ => absurd hf (Nat.not_lt_zero _)
  | 0, fu + 1, i, σ, h, hd, hf, hfi, h9, h10, hi, hw => by
    have h200 := h.2.1
    refine ⟨σ, ?_, h9, h10, ?_, ?_, FA.rf⟩
    · rw [fM_advance_126, if_pos h9, hi, M_byN h (by omega) (by omega), bd_some, if_pos (by decide)]
      exact M_207n (fu := 299) (by rw [h9]; decide)
    · rw [hi, sk_n (fun z => absurd z.1 (by omega))]
    · rw [hw, sk_n (fun z => absurd z.1 (by omega))]
  | d + 1, fu + 1, i, σ, h, hd, hf, hfi, h9, h10, hi, hw => by
    have h200 := h.2.1
    have hi' : i < n := by omega
    have hb := (h.2.2 i hi').2
    rw [fM_advance_126, if_pos h9, hi, M_by h hi', bd_some, ml_k _ hb]
    by_cases hp : cL (t i) = true
    · have hd2 := cL_i.mp hp
      rw [hp, b2t, if_neg one_ne, h10, pk_sub hfi, sk_y hi' hp]
      by_cases hk : 8 ≤ i - f
      · rw [if_pos (show (8 : Int32) ≤ nI (i - f) from nI_le (a := 8) hk (by omega)), nm_def, nm_def, gI_sL, hi, nI_1]
        obtain ⟨τ, r1, r2, r3, r4, r5, r6⟩ := M_126 (t := t) (n := n) (f := f) d fu (i + 1) (sI (sL σ 44 12 (-1)) 44 11 (nI (i + 1))) (h.f (FA.rf.l.s (by omega))) (by omega) (by omega) (by omega) (by rw [gI_p (by decide)]; exact h9) (by rw [gI_p (by decide)]; exact h10) gI_s (by rw [gL_sI, gL_sL, if_pos ⟨rfl, rfl⟩]; unfold ww; rw [if_neg (by omega)])
        exact ⟨τ, r1, r2, r3, r4, r5, (FA.rf.l.s (by omega)).tr r6⟩
      · have e1 : gL σ 44 12 = Int64.ofNat (hv t f (i - f)) := by rw [hw]; unfold ww; rw [if_pos (by omega)]
        have e2 : ww t f (i + 1 - f) = Int64.ofNat (27 * hv t f (i - f) + (t i - 96)) := by
          unfold ww
          rw [if_pos (by omega), show i + 1 - f = (i - f) + 1 by omega]
          show Int64.ofNat (27 * hv t f (i - f) + (t (f + (i - f)) - 96)) = _
          rw [show f + (i - f) = i by omega]
        rw [if_neg (show ¬ (8 : Int32) ≤ nI (i - f) from nI_ge (b := 8) (by omega) (by omega)), bd_some, nm_def, nm_def, gI_sL, hi, nI_1, e1, hv_st (by omega) hb]
        obtain ⟨τ, r1, r2, r3, r4, r5, r6⟩ := M_126 (t := t) (n := n) (f := f) d fu (i + 1) (sI (sL σ 44 12 (Int64.ofNat (27 * hv t f (i - f) + (t i - 96)))) 44 11 (nI (i + 1))) (h.f (FA.rf.l.s (by omega))) (by omega) (by omega) (by omega) (by rw [gI_p (by decide)]; exact h9) (by rw [gI_p (by decide)]; exact h10) gI_s (by rw [gL_sI, gL_sL, if_pos ⟨rfl, rfl⟩, e2])
        exact ⟨τ, r1, r2, r3, r4, r5, (FA.rf.l.s (by omega)).tr r6⟩
    · rw [Bool.not_eq_true] at hp
      rw [hp, b2f, if_pos rfl]
      exact ⟨σ, M_207n (fu := 299) (by rw [h9]; decide), h9, h10, by rw [hi, sk_n (fun z => by rw [hp] at z; cases z.2)], by rw [hw, sk_n (fun z => by rw [hp] at z; cases z.2)], FA.rf⟩
/-- the reference stands at the one that begins at f -/
def TK (t : Nat → Nat) (n : Nat) (τ : St) (f : Nat) : Prop := gI τ 44 9 = nI (so t n f) ∧ gI τ 44 10 = nI f ∧ gI τ 44 11 = nI (tg t n f) ∧ (so t n f = 1 → gL τ 44 12 = ww t f (tg t n f - f)) ∧ (so t n f = 2 → gI τ 44 13 = vv t f (tg t n f - f)) ∧ (so t n f = 3 → gI τ 44 13 = nI (t f))
theorem M_34 {σ : St} {t : Nat → Nat} {n f : Nat} (h : TpM σ t n) (hf : f ≤ n) (h2 : gI σ 44 10 = nI f) : ∃ τ, fM_advance_34 σ = some τ ∧ TK t n τ f ∧ FA σ τ := by
  have h200 := h.2.1
  have hs : TpM (sI σ 44 11 (nI f)) t n := h.f (FA.rf.s (by omega))
  have g10 : gI (sI σ 44 11 (nI f)) 44 10 = nI f := by rw [gI_p (by decide)]; exact h2
  unfold fM_advance_34
  rw [nm_def, h2, g10]
  rcases so_c t n f with ⟨e, h1⟩ | ⟨e, h1, hl⟩ | ⟨e, h1, hl, hd⟩ | ⟨e, h1, hl, hd⟩
  · rw [M_byN hs h1 (by omega), bd_some, if_neg m1_neg, nm_def, nm_def, nm_def]
    refine ⟨sI (sL (sI (sI σ 44 11 (nI f)) 44 9 0) 44 12 0) 44 13 (-1), ?_, ⟨?_, ?_, ?_, fun z => ?_, fun z => ?_, fun z => ?_⟩, (((FA.rf.s (by omega)).s (by omega)).l).s (by omega)⟩
    · rw [gI_p (by decide), gI_sL, gI_s, if_neg (by decide), if_neg (by decide), M_126n (fu := 299), M_207n (fu := 299)]
      · rw [gI_p (by decide), gI_sL, gI_s]; decide
      · rw [gI_p (by decide), gI_sL, gI_s]; decide
    · rw [gI_p (by decide), gI_sL, gI_s, e]; rfl
    · rw [gI_p (by decide), gI_sL, gI_p (by decide)]; exact g10
    · rw [gI_p (by decide), gI_sL, gI_p (by decide), gI_s, tg_0 e]
    · rw [e] at z; cases z
    · rw [e] at z; cases z
    · rw [e] at z; cases z
  · rw [M_by hs h1, bd_some, if_pos (nI_pos' (by have := (h.2.2 f h1).2; omega)), ml_k _ (h.2.2 f h1).2, hl, b2t, if_neg one_ne, nm_def, nm_def, nm_def, gI_p (by decide), gI_sL, gI_s, if_neg (by decide), if_neg (by decide)]
    obtain ⟨τ, r1, r2, r3, r4, r5, r6⟩ := M_126 (t := t) (n := n) (f := f) (n - f) 300 f (sI (sL (sI (sI σ 44 11 (nI f)) 44 9 1) 44 12 0) 44 13 (nI (t f))) (h.f ((((FA.rf.s (by omega)).s (by omega)).l).s (by omega))) (by omega) (by omega) (Nat.le_refl _) (by rw [gI_p (by decide), gI_sL, gI_s]) (by rw [gI_p (by decide), gI_sL, gI_p (by decide)]; exact g10) (by rw [gI_p (by decide), gI_sL, gI_p (by decide), gI_s]) (by rw [gL_sI, gL_sL, if_pos ⟨rfl, rfl⟩, Nat.sub_self]; rfl)
    exact ⟨τ, r1, ⟨by rw [r2, e]; rfl, r3, by rw [r4, tg_1 e], fun _ => by rw [r5, tg_1 e], fun z => (by rw [e] at z; cases z), fun z => (by rw [e] at z; cases z)⟩, ((((FA.rf.s (by omega)).s (by omega)).l).s (by omega)).tr r6⟩
  · rw [M_by hs h1, bd_some, if_pos (nI_pos' (by have := (h.2.2 f h1).2; omega)), ml_k _ (h.2.2 f h1).2, hl, b2f, if_pos rfl, md_k _ (h.2.2 f h1).2, hd, b2t, if_neg one_ne, nm_def, nm_def, nm_def, gI_p (by decide), gI_sL, gI_s, if_neg (by decide), if_pos rfl]
    obtain ⟨τ, r1, r2, r3, r4, r5, r6⟩ := M_207 (t := t) (n := n) (f := f) (n - f) 300 f (sI (sL (sI (sI σ 44 11 (nI f)) 44 9 2) 44 12 0) 44 13 0) (h.f ((((FA.rf.s (by omega)).s (by omega)).l).s (by omega))) (by omega) (by omega) (Nat.le_refl _) (by rw [gI_p (by decide), gI_sL, gI_s]) (by rw [gI_p (by decide), gI_sL, gI_p (by decide)]; exact g10) (by rw [gI_p (by decide), gI_sL, gI_p (by decide), gI_s]) (by rw [gI_s, Nat.sub_self]; rfl)
    refine ⟨τ, ?_, ⟨by rw [r2, e]; rfl, r3, by rw [r4, tg_2 e], fun z => (by rw [e] at z; cases z), fun _ => by rw [r5, tg_2 e], fun z => (by rw [e] at z; cases z)⟩, ((((FA.rf.s (by omega)).s (by omega)).l).s (by omega)).tr r6⟩
    rw [M_126n (fu := 299) (by rw [gI_p (by decide), gI_sL, gI_s]; decide)]
    exact r1
  · rw [M_by hs h1, bd_some, if_pos (nI_pos' (by have := (h.2.2 f h1).2; omega)), ml_k _ (h.2.2 f h1).2, hl, b2f, if_pos rfl, md_k _ (h.2.2 f h1).2, hd, b2f, if_pos rfl, nm_def, nm_def, nm_def, gI_p (by decide), gI_sL, gI_s, if_pos rfl, if_neg (by decide), nm_def, gI_p (by decide), gI_sL, gI_p (by decide), gI_s, nI_1]
    refine ⟨sI (sI (sL (sI (sI σ 44 11 (nI f)) 44 9 3) 44 12 0) 44 13 (nI (t f))) 44 11 (nI (f + 1)), ?_, ⟨?_, ?_, ?_, fun z => ?_, fun z => ?_, fun z => ?_⟩, ((((FA.rf.s (by omega)).s (by omega)).l).s (by omega)).s (by omega)⟩
    · rw [M_126n (fu := 299), M_207n (fu := 299)]
      · rw [gI_p (by decide), gI_p (by decide), gI_sL, gI_s]; decide
      · rw [gI_p (by decide), gI_p (by decide), gI_sL, gI_s]; decide
    · rw [gI_p (by decide), gI_p (by decide), gI_sL, gI_s, e]; rfl
    · rw [gI_p (by decide), gI_p (by decide), gI_sL, gI_p (by decide)]; exact g10
    · rw [gI_s, tg_3 e]
    · rw [e] at z; cases z
    · rw [e] at z; cases z
    · rw [gI_p (by decide), gI_s]
theorem M_8 {t : Nat → Nat} {n : Nat} : ∀ d fu i σ, TpM σ t n → d + i = n → d < fu → gI σ 44 10 = nI i → ∃ τ, fM_advance_8 fu σ = fM_advance_34 τ ∧ gI τ 44 10 = nI (sk cB t n i) ∧ FA σ τ
  | _, 0, _, _, _, _, hf, _ => absurd hf (Nat.not_lt_zero _)
  | 0, fu + 1, i, σ, h, hd, hf, hi => by
    refine ⟨σ, ?_, ?_, FA.rf⟩
    · rw [fM_advance_8, hi, M_byN h (by omega) (by have := h.2.1; omega), bd_some, if_neg (by decide)]
    · rw [hi, sk_n (fun z => absurd z.1 (by omega))]
  | d + 1, fu + 1, i, σ, h, hd, hf, hi => by
    have h200 := h.2.1
    have hi' : i < n := by omega
    have hb := nI_b32 (h.2.2 i hi').2
    rw [fM_advance_8, hi, M_by h hi', bd_some]
    by_cases hp : cB (t i) = true
    · rw [if_pos (hb.mpr hp), nm_def, nI_1, sk_y hi' hp]
      obtain ⟨τ, r1, r2, r4⟩ := M_8 d fu (i + 1) (sI σ 44 10 (nI (i + 1))) (h.f (FA.rf.s (by omega))) (by omega) (by omega) gI_s
      exact ⟨τ, r1, r2, (FA.rf.s (by omega)).tr r4⟩
    · rw [if_neg (fun z => hp (hb.mp z))]
      exact ⟨σ, rfl, by rw [hi, sk_n (fun z => hp z.2)], FA.rf⟩
theorem M_adv {σ : St} {t : Nat → Nat} {n e : Nat} (h : TpM σ t n) (he : e ≤ n) (h3 : gI σ 44 11 = nI e) : ∃ τ, fM_advance σ = some τ ∧ TK t n τ (tf t n e) ∧ FA σ τ := by
  have h200 := h.2.1
  obtain ⟨τ, r1, r2, r3⟩ := M_8 (n - e) 300 e (sI σ 44 10 (nI e)) (h.f (FA.rf.s (by omega))) (by omega) (by omega) gI_s
  obtain ⟨υ, s1, s2, s3⟩ := M_34 ((h.f (FA.rf.s (by omega))).f r3) (tf_b he).2 r2
  refine ⟨υ, ?_, s2, ((FA.rf.s (by omega)).tr r3).tr s3⟩
  unfold fM_advance
  rw [nm_def, h3, r1, s1]
