/-! the town as numbers, told apart from where it lies -/
theorem ib_t {n N : Nat} (h : n < N) (hN : N < 2 ^ 31) : ib (nI n) N = true := ib_nI h hN
abbrev Tw : Type := Nat × Nat × Int32 × (Nat → Nat) × (Nat → Int32) × (Nat → Nat) × (Nat → Nat) × (Nat → Nat) × (Nat → Nat) × (Nat → Nat)
def wP (W : Tw) : Nat := W.1
def wC (W : Tw) : Nat := W.2.1
def wz (W : Tw) : Int32 := W.2.2.1
def wrk (W : Tw) : Nat → Nat := W.2.2.2.1
def wsi (W : Tw) : Nat → Int32 := W.2.2.2.2.1
def wkn (W : Tw) : Nat → Nat := W.2.2.2.2.2.1
def wkd (W : Tw) : Nat → Nat := W.2.2.2.2.2.2.1
def wav (W : Tw) : Nat → Nat := W.2.2.2.2.2.2.2.1
def who (W : Tw) : Nat → Nat := W.2.2.2.2.2.2.2.2.1
def wha (W : Tw) : Nat → Nat := W.2.2.2.2.2.2.2.2.2
def TE (σ : St) (t : Nat) (W : Tw) : Prop := gI σ t 0 = nI (wP W) ∧ gI σ t 1 = nI (wC W) ∧ gI σ t 2 = wz W ∧
  (∀ p, p < wP W → gI σ (t + 1) p = nI (wrk W p) ∧ gI σ (t + 2) p = wsi W p ∧ gI σ (t + 3) p = nI (wkn W p)) ∧
  (∀ c, c < wC W → gI σ (t + 4) c = nI (wkd W c) ∧ gI σ (t + 5) c = nI (wav W c) ∧ gI σ (t + 6) c = nI (who W c) ∧ gI σ (t + 7) c = nI (wha W c))
def TM (σ : St) (W : Tw) : Prop := gI σ 44 0 = nI (wP W) ∧ gI σ 44 4 = nI (wC W) ∧ gI σ 44 6 = wz W ∧
  (∀ p, p < wP W → gI σ 45 p = nI (wrk W p) ∧ gI σ 46 p = wsi W p ∧ gI σ 47 p = nI (wkn W p)) ∧
  (∀ c, c < wC W → gI σ 48 (4 * c) = nI (wkd W c) ∧ gI σ 48 (4 * c + 1) = nI (wav W c) ∧ gI σ 48 (4 * c + 2) = nI (who W c) ∧ gI σ 48 (4 * c + 3) = nI (wha W c))
def Gd (W : Tw) : Prop := (wP W ≤ 7 ∧ wC W ≤ 6) ∧ (∀ p, p < wP W → wrk W p < 10 ∧ wkn W p < 2 ^ wP W ∧ (wkn W p).testBit p = false) ∧
  (∀ p q, p < wP W → q < wP W → (wkn W p).testBit q = (wkn W q).testBit p) ∧
  (∀ c, c < wC W → wkd W c < 6 ∧ (1 ≤ wav W c ∧ wav W c < 100) ∧ who W c < wP W ∧ wha W c < 2 ^ wP W ∧ (wha W c).testBit (who W c) = true)
theorem nI_bit {n q : Nat} (h : n < 2 ^ 31) : (nI n).toBitVec.getLsbD q = n.testBit q := by
  show (BitVec.ofNat 32 n).getLsbD q = _
  rw [BitVec.getLsbD_ofNat]
  by_cases hq : q < 32
  · simp [hq]
  · simp [hq]
    exact Nat.testBit_lt_two_pow (Nat.lt_of_lt_of_le h (Nat.pow_le_pow_right (n := 2) (i := 31) (j := q) (by decide) (by omega)))
theorem p27 {P : Nat} (h : P ≤ 7) : 2 ^ P ≤ 128 := Nat.pow_le_pow_right (n := 2) (j := 7) (by decide) h
theorem tw_of {σ : St} {t : Nat} (h : TnOk σ t) : ∃ W : Tw, TE σ t W ∧ TM σ W ∧ Gd W := by
  obtain ⟨P, C, ⟨⟨p1, p2, p3⟩, ⟨q1, q2, q3⟩, z1, d1, e1⟩, o1, o2, o3, o4⟩ := h
  have h7 := p27 p3
  have c1 : ∀ p, ∃ r, p < P → r < 10 ∧ gI σ 45 p = nI r := fun p => by
    by_cases hp : p < P
    · obtain ⟨r, h⟩ := o1 p hp; exact ⟨r, fun _ => h⟩
    · exact ⟨0, fun h => absurd h hp⟩
  have c2 : ∀ p, ∃ s, p < P → s < 2 ^ P ∧ gI σ 47 p = nI s ∧ s.testBit p = false := fun p => by
    by_cases hp : p < P
    · obtain ⟨r, h⟩ := o2 p hp; exact ⟨r, fun _ => h⟩
    · exact ⟨0, fun h => absurd h hp⟩
  have c3 : ∀ c, ∃ k, c < C → k < 6 ∧ gI σ 48 (4 * c) = nI k := fun c => by
    by_cases hc : c < C
    · obtain ⟨⟨k, h⟩, -⟩ := o4 c hc; exact ⟨k, fun _ => h⟩
    · exact ⟨0, fun h => absurd h hc⟩
  have c4 : ∀ c, ∃ a, c < C → 1 ≤ a ∧ a < 100 ∧ gI σ 48 (4 * c + 1) = nI a := fun c => by
    by_cases hc : c < C
    · obtain ⟨-, ⟨k, h⟩, -⟩ := o4 c hc; exact ⟨k, fun _ => h⟩
    · exact ⟨0, fun h => absurd h hc⟩
  have c5 : ∀ c, ∃ w : Nat × Nat, c < C → w.1 < P ∧ gI σ 48 (4 * c + 2) = nI w.1 ∧ w.2 < 2 ^ P ∧ gI σ 48 (4 * c + 3) = nI w.2 ∧ w.2.testBit w.1 = true := fun c => by
    by_cases hc : c < C
    · obtain ⟨-, -, ⟨k, s, h⟩⟩ := o4 c hc; exact ⟨(k, s), fun _ => h⟩
    · exact ⟨(0, 0), fun h => absurd h hc⟩
  obtain ⟨rk, c1⟩ := Classical.axiomOfChoice c1
  obtain ⟨kn, c2⟩ := Classical.axiomOfChoice c2
  obtain ⟨kk, c3⟩ := Classical.axiomOfChoice c3
  obtain ⟨av, c4⟩ := Classical.axiomOfChoice c4
  obtain ⟨hh, c5⟩ := Classical.axiomOfChoice c5
  refine ⟨(P, C, gI σ 44 6, rk, gI σ 46, kn, kk, av, fun c => (hh c).1, fun c => (hh c).2), ⟨p1, q1, z1, fun p hp => ?_, fun c hc => ?_⟩, ⟨p2, q2, rfl, fun p hp => ?_, fun c hc => ?_⟩, ⟨p3, q3⟩, fun p hp => ?_, fun p q hp hq => ?_, fun c hc => ?_⟩
  · obtain ⟨w1, w2, w3⟩ := d1 p hp
    exact ⟨w1.trans (c1 p hp).2, w2, w3.trans (c2 p hp).2.1⟩
  · obtain ⟨w1, w2, w3, w4⟩ := e1 c hc
    exact ⟨w1.trans (c3 c hc).2, w2.trans (c4 c hc).2.2, w3.trans (c5 c hc).2.1, w4.trans (c5 c hc).2.2.2.1⟩
  · exact ⟨(c1 p hp).2, rfl, (c2 p hp).2.1⟩
  · exact ⟨(c3 c hc).2, (c4 c hc).2.2, (c5 c hc).2.1, (c5 c hc).2.2.2.1⟩
  · exact ⟨(c1 p hp).1, (c2 p hp).1, (c2 p hp).2.2⟩
  · have hp1 := (c2 p hp).1
    have hq1 := (c2 q hq).1
    have w := o3 p q hp hq
    rw [(c2 p hp).2.1, (c2 q hq).2.1, nI_bit (by omega), nI_bit (by omega)] at w
    exact w
  · exact ⟨(c3 c hc).1, ⟨(c4 c hc).1, (c4 c hc).2.1⟩, (c5 c hc).1, (c5 c hc).2.2.1, (c5 c hc).2.2.2.2⟩
theorem tw_to {σ : St} {t : Nat} {W : Tw} (hE : TE σ t W) (hM : TM σ W) (hG : Gd W) : TnOk σ t := by
  obtain ⟨a1, a2, a3, a4, a5⟩ := hE
  obtain ⟨b1, b2, b3, b4, b5⟩ := hM
  obtain ⟨⟨g1, g2⟩, g3, g4, g5⟩ := hG
  have h7 := p27 g1
  refine ⟨wP W, wC W, ⟨⟨a1, b1, g1⟩, ⟨a2, b2, g2⟩, a3.trans b3.symm, fun p hp => ?_, fun c hc => ?_⟩, fun p hp => ⟨_, (g3 p hp).1, (b4 p hp).1⟩, fun p hp => ⟨_, (g3 p hp).2.1, (b4 p hp).2.2, (g3 p hp).2.2⟩, fun p q hp hq => ?_, fun c hc => ?_⟩
  · exact ⟨(a4 p hp).1.trans (b4 p hp).1.symm, (a4 p hp).2.1.trans (b4 p hp).2.1.symm, (a4 p hp).2.2.trans (b4 p hp).2.2.symm⟩
  · exact ⟨(a5 c hc).1.trans (b5 c hc).1.symm, (a5 c hc).2.1.trans (b5 c hc).2.1.symm, (a5 c hc).2.2.1.trans (b5 c hc).2.2.1.symm, (a5 c hc).2.2.2.trans (b5 c hc).2.2.2.symm⟩
  · have hp1 := (g3 p hp).2.1
    have hq1 := (g3 q hq).2.1
    rw [(b4 p hp).2.2, (b4 q hq).2.2, nI_bit (by omega), nI_bit (by omega)]
    exact g4 p q hp hq
  · exact ⟨⟨_, (g5 c hc).1, (b5 c hc).1⟩, ⟨_, (g5 c hc).2.1.1, (g5 c hc).2.1.2, (b5 c hc).2.1⟩, _, _, (g5 c hc).2.2.1, (b5 c hc).2.2.1, (g5 c hc).2.2.2.1, (b5 c hc).2.2.2, (g5 c hc).2.2.2.2⟩
/-- what the class's calls of this kind change: the towns and the walks -/
def PE (σ τ : St) : Prop := (∀ k j, ¬ (1 ≤ k ∧ k ≤ 16) → ¬ (27 ≤ k ∧ k ≤ 29) → gI τ k j = gI σ k j) ∧ (∀ j, gL τ 60 j = gL σ 60 j) ∧ (∀ j, gR τ j = gR σ j)
/-- and the reference's -/
def PM (σ τ : St) : Prop := (∀ k j, ¬ (k = 44 ∧ (j = 0 ∨ j = 4 ∨ j = 6 ∨ j = 24)) → ¬ (45 ≤ k ∧ k ≤ 48) → ¬ (53 ≤ k ∧ k ≤ 56) → gI τ k j = gI σ k j) ∧ (∀ j, gL τ 60 j = gL σ 60 j) ∧ (∀ j, gR τ j = gR σ j)
theorem PE.rf {σ : St} : PE σ σ := ⟨fun _ _ _ _ => rfl, fun _ => rfl, fun _ => rfl⟩
theorem PM.rf {σ : St} : PM σ σ := ⟨fun _ _ _ _ _ => rfl, fun _ => rfl, fun _ => rfl⟩
theorem PE.tr {σ τ υ : St} (h1 : PE σ τ) (h2 : PE τ υ) : PE σ υ := ⟨fun k j a b => (h2.1 k j a b).trans (h1.1 k j a b), fun j => (h2.2.1 j).trans (h1.2.1 j), fun j => (h2.2.2 j).trans (h1.2.2 j)⟩
theorem PM.tr {σ τ υ : St} (h1 : PM σ τ) (h2 : PM τ υ) : PM σ υ := ⟨fun k j a b c => (h2.1 k j a b c).trans (h1.1 k j a b c), fun j => (h2.2.1 j).trans (h1.2.1 j), fun j => (h2.2.2 j).trans (h1.2.2 j)⟩
theorem PE.s {σ τ : St} {k j : Nat} {v : Int32} (h1 : PE σ τ) (h : (1 ≤ k ∧ k ≤ 16) ∨ (27 ≤ k ∧ k ≤ 29)) : PE σ (sI τ k j v) := h1.tr ⟨fun a b x y => gI_o (by omega), fun _ => rfl, fun _ => rfl⟩
theorem PM.s {σ τ : St} {k j : Nat} {v : Int32} (h1 : PM σ τ) (h : (k = 44 ∧ (j = 0 ∨ j = 4 ∨ j = 6 ∨ j = 24)) ∨ (45 ≤ k ∧ k ≤ 48) ∨ (53 ≤ k ∧ k ≤ 56)) : PM σ (sI τ k j v) := h1.tr ⟨fun a b x y z => if_neg (fun w => by omega), fun _ => rfl, fun _ => rfl⟩
theorem TE.f {σ τ : St} {t : Nat} {W : Tw} (h : TE σ t W) (e : ∀ k j, t ≤ k → k ≤ t + 7 → gI τ k j = gI σ k j) : TE τ t W := by
  obtain ⟨a1, a2, a3, a4, a5⟩ := h
  refine ⟨by rw [e t 0 (by omega) (by omega)]; exact a1, by rw [e t 1 (by omega) (by omega)]; exact a2, by rw [e t 2 (by omega) (by omega)]; exact a3, fun p hp => ?_, fun c hc => ?_⟩
  · rw [e (t + 1) p (by omega) (by omega), e (t + 2) p (by omega) (by omega), e (t + 3) p (by omega) (by omega)]; exact a4 p hp
  · rw [e (t + 4) c (by omega) (by omega), e (t + 5) c (by omega) (by omega), e (t + 6) c (by omega) (by omega), e (t + 7) c (by omega) (by omega)]; exact a5 c hc
theorem TM.f {σ τ : St} {W : Tw} (h : TM σ W) (e : ∀ k j, (k = 44 ∧ (j = 0 ∨ j = 4 ∨ j = 6)) ∨ (45 ≤ k ∧ k ≤ 48) → gI τ k j = gI σ k j) : TM τ W := by
  obtain ⟨a1, a2, a3, a4, a5⟩ := h
  refine ⟨by rw [e 44 0 (by omega)]; exact a1, by rw [e 44 4 (by omega)]; exact a2, by rw [e 44 6 (by omega)]; exact a3, fun p hp => ?_, fun c hc => ?_⟩
  · rw [e 45 p (by omega), e 46 p (by omega), e 47 p (by omega)]; exact a4 p hp
  · rw [e 48 _ (by omega), e 48 _ (by omega), e 48 _ (by omega), e 48 _ (by omega)]; exact a5 c hc
theorem TM.e {σ τ : St} {W : Tw} (h : TM σ W) (e : PE σ τ) : TM τ W := h.f (fun k j hk => e.1 k j (by omega) (by omega))
theorem Inv.w {σ : St} (h : Inv σ) : ∃ W : Tw, TE σ (gR σ 0) W ∧ TM σ W ∧ Gd W := tw_of h.2.1
theorem Inv.st {σ σ1 σ2 : St} {W : Tw} (h : Inv σ) (hE : PE σ σ1) (hM : PM σ1 σ2) (e1 : TE σ1 (gR σ 0) W) (m2 : TM σ2 W) (g : Gd W) : Inv σ2 := by
  have ht := h.t
  refine h.mk2 ⟨fun k j hp => ?_, fun j => (hM.2.1 j).trans (hE.2.1 j), fun j => (hM.2.2 j).trans (hE.2.2 j)⟩ (tw_to (e1.f (fun k j h1 h2 => hM.1 k j (by omega) (by omega) (by omega))) m2 g)
  have q1 : ¬ (1 ≤ k ∧ k ≤ 16) := fun z => by
    rcases (show k = 1 + (k - 1) ∧ k - 1 < 8 ∨ k = 9 + (k - 9) ∧ k - 9 < 8 by omega) with ⟨e, l⟩ | ⟨e, l⟩
    · rw [e, PR_t (Or.inl rfl) l] at hp; cases hp
    · rw [e, PR_t (Or.inr rfl) l] at hp; cases hp
  have q2 : ¬ (27 ≤ k ∧ k ≤ 29) := fun z => by
    rcases (show k = 27 ∨ k = 28 ∨ k = 29 by omega) with e | e | e <;> rw [e] at hp <;> cases hp
  have q3 : ¬ (k = 44 ∧ (j = 0 ∨ j = 4 ∨ j = 6 ∨ j = 24)) := fun z => by
    rcases z with ⟨e, e2 | e2 | e2 | e2⟩ <;> rw [e, e2] at hp <;> cases hp
  have q4 : ¬ (45 ≤ k ∧ k ≤ 48) := fun z => by
    rcases (show k = 45 ∨ k = 46 ∨ k = 47 ∨ k = 48 by omega) with e | e | e | e <;> rw [e] at hp <;> cases hp
  have q5 : ¬ (53 ≤ k ∧ k ≤ 56) := fun z => by
    rcases (show k = 53 ∨ k = 54 ∨ k = 55 ∨ k = 56 by omega) with e | e | e | e <;> rw [e] at hp <;> cases hp
  rw [hM.1 k j q3 q4 q5, hE.1 k j q1 q2]
