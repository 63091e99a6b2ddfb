/-! the pure side: reading behind writing, numbers, and what ties the class to the reference -/
theorem gI_sI (σ : St) (k j a b : Nat) (v : Int32) : gI (sI σ k j v) a b = if a = k ∧ b = j then v else gI σ a b := rfl
theorem gI_sL (σ : St) (k j a b : Nat) (v : Int64) : gI (sL σ k j v) a b = gI σ a b := rfl
theorem gI_sR (σ : St) (j a b v : Nat) : gI (sR σ j v) a b = gI σ a b := rfl
theorem gL_sI (σ : St) (k j a b : Nat) (v : Int32) : gL (sI σ k j v) a b = gL σ a b := rfl
theorem gL_sL (σ : St) (k j a b : Nat) (v : Int64) : gL (sL σ k j v) a b = if a = k ∧ b = j then v else gL σ a b := rfl
theorem gL_sR (σ : St) (j a b v : Nat) : gL (sR σ j v) a b = gL σ a b := rfl
theorem gR_sI (σ : St) (k j a : Nat) (v : Int32) : gR (sI σ k j v) a = gR σ a := rfl
theorem gR_sL (σ : St) (k j a : Nat) (v : Int64) : gR (sL σ k j v) a = gR σ a := rfl
theorem gR_sR (σ : St) (j a v : Nat) : gR (sR σ j v) a = if a = j then v else gR σ a := rfl
theorem gI_cp (σ : St) (a b n x j : Nat) : gI (cpI σ a b n) x j = if x = b ∧ j < n then gI σ a j else gI σ x j := rfl
theorem gL_cp (σ : St) (a b n x j : Nat) : gL (cpI σ a b n) x j = gL σ x j := rfl
theorem gR_cp (σ : St) (a b n x : Nat) : gR (cpI σ a b n) x = gR σ x := rfl
theorem gI_o {σ : St} {k j a b : Nat} {v : Int32} (h : a ≠ k) : gI (sI σ k j v) a b = gI σ a b := if_neg (fun z => h z.1)
theorem gI_s {σ : St} {k j : Nat} {v : Int32} : gI (sI σ k j v) k j = v := if_pos ⟨rfl, rfl⟩
theorem gI_p {σ : St} {k j b : Nat} {v : Int32} (h : b ≠ j) : gI (sI σ k j v) k b = gI σ k b := if_neg (fun z => h z.2)
theorem ix_nI {n : Nat} (h : n < 2 ^ 31) : ix (nI n) = n := nI_clamp h
theorem ib_nI {n N : Nat} (h : n < N) (hN : N < 2 ^ 31) : ib (nI n) N = true := ib_in.mpr (vp_in_nI h hN)
theorem bi_some {β : Type} (r : Int32) (σ : St) (f : Int32 → St → Option β) : bi (some (r, σ)) f = f r σ := rfl
theorem bd_some {α β : Type} (a : α) (f : α → Option β) : (some a).bind f = f a := rfl
theorem nm_def {α β : Type} (a : α) (f : α → β) : nm a f = f a := rfl
theorem lt_i (a b : Int32) : a < b ↔ a.toInt < b.toInt := Int32.lt_iff_toInt_lt
theorem le_i (a b : Int32) : a ≤ b ↔ a.toInt ≤ b.toInt := Int32.le_iff_toInt_le
theorem eq_i (a b : Int32) : a = b ↔ a.toInt = b.toInt := ⟨fun h => by rw [h], fun h => Int32.toInt_inj.mp h⟩
theorem nI_m4 (c k : Nat) : (4 : Int32) * nI c + nI k = nI (4 * c + k) := by
  rw [show (4 : Int32) = nI 4 from rfl, pk_mul, nI_add]
/-- an argument: one of n, or out -/
theorem arg (i : Int32) (n : Nat) (hn : n < 2 ^ 31) : (∃ j, j < n ∧ i = nI j) ∨ (i.toInt < 0 ∨ (n : Int) ≤ i.toInt) := by
  by_cases h : i.toInt < 0
  · exact Or.inr (Or.inl h)
  by_cases h2 : (n : Int) ≤ i.toInt
  · exact Or.inr (Or.inr h2)
  refine Or.inl ⟨i.toInt.toNat, by omega, ?_⟩
  rw [eq_i, nI_toInt (by omega)]
  omega
/-- fM_in by numbers -/
theorem in_iff (v a b : Int32) : fM_in v a b = if a.toInt ≤ v.toInt ∧ v.toInt ≤ b.toInt then 1 else 0 := by
  unfold fM_in
  by_cases h1 : v < a
  · rw [if_pos h1, if_neg]
    rw [lt_i] at h1
    omega
  · rw [if_neg h1]
    rw [lt_i] at h1
    by_cases h2 : b < v
    · rw [if_pos h2, if_neg]
      rw [lt_i] at h2
      omega
    · rw [if_neg h2, if_pos]
      rw [lt_i] at h2
      omega
/-! ===== what holds between two calls ===== -/
/-- the class's town t and the reference's: P people, C coins -/
def Tn (σ : St) (t P C : Nat) : Prop :=
  (gI σ t 0 = nI P ∧ gI σ 44 0 = nI P ∧ P ≤ 7) ∧ (gI σ t 1 = nI C ∧ gI σ 44 4 = nI C ∧ C ≤ 6) ∧ gI σ t 2 = gI σ 44 6 ∧
  (∀ p, p < P → gI σ (t + 1) p = gI σ 45 p ∧ gI σ (t + 2) p = gI σ 46 p ∧ gI σ (t + 3) p = gI σ 47 p) ∧
  (∀ c, c < C → gI σ (t + 4) c = gI σ 48 (4 * c) ∧ gI σ (t + 5) c = gI σ 48 (4 * c + 1) ∧ gI σ (t + 6) c = gI σ 48 (4 * c + 2) ∧ gI σ (t + 7) c = gI σ 48 (4 * c + 3))
/-- a reference's town that is as told: ranks, acquaintances, coins -/
def Ok (rk kn : Nat → Int32) (cn : Nat → Int32) (P C : Nat) : Prop :=
  (∀ p, p < P → ∃ r, r < 10 ∧ rk p = nI r) ∧
  (∀ p, p < P → ∃ s, s < 2 ^ P ∧ kn p = nI s ∧ s.testBit p = false) ∧
  (∀ p q, p < P → q < P → (kn p).toBitVec.getLsbD q = (kn q).toBitVec.getLsbD p) ∧
  (∀ c, c < C → (∃ k, k < 6 ∧ cn (4 * c) = nI k) ∧ (∃ a, 1 ≤ a ∧ a < 100 ∧ cn (4 * c + 1) = nI a) ∧ ∃ h s, h < P ∧ cn (4 * c + 2) = nI h ∧ s < 2 ^ P ∧ cn (4 * c + 3) = nI s ∧ s.testBit h = true)
def TnOk (σ : St) (t : Nat) : Prop := ∃ P C, Tn σ t P C ∧ Ok (gI σ 45) (gI σ 47) (gI σ 48) P C
/-- what is kept -/
def Kp (σ : St) : Prop := gI σ 0 3 = gI σ 44 39 ∧ (gI σ 44 39 = 0 ∨ ∃ P C, (gI σ 17 0 = nI P ∧ gI σ 65 0 = nI P ∧ P ≤ 7) ∧ (gI σ 17 1 = nI C ∧ gI σ 65 1 = nI C ∧ C ≤ 6) ∧ gI σ 17 2 = gI σ 65 2 ∧
  (∀ p, p < P → gI σ 18 p = gI σ 65 (3 + p) ∧ gI σ 19 p = gI σ 65 (10 + p) ∧ gI σ 20 p = gI σ 65 (17 + p)) ∧
  (∀ c, c < C → gI σ 21 c = gI σ 65 (24 + 4 * c) ∧ gI σ 22 c = gI σ 65 (24 + (4 * c + 1)) ∧ gI σ 23 c = gI σ 65 (24 + (4 * c + 2)) ∧ gI σ 24 c = gI σ 65 (24 + (4 * c + 3))) ∧
  Ok (fun p => gI σ 65 (3 + p)) (fun p => gI σ 65 (17 + p)) (fun j => gI σ 65 (24 + j)) P C)
/-- the tape -/
def Tp (σ : St) : Prop := ∃ n, n ≤ 200 ∧ gI σ 25 1 = nI n ∧ gI σ 44 8 = nI n ∧ ∀ i, i < n → gI σ 26 i = gI σ 49 i ∧ ∃ b, b < 256 ∧ gI σ 49 i = nI b
/-- the rows -/
def Rw (σ : St) : Prop := ∃ r, r ≤ 7 ∧ gI σ 0 7 = nI r ∧ gI σ 44 26 = nI r ∧ ∀ j, j < 3 * r → gI σ 30 j = gI σ 57 j
/-- the sheets -/
def Sh (σ : St) : Prop := ∀ s, s < 4 → gI σ (34 : Nat) s = gI σ 58 s ∧ gI σ 35 s = gI σ 59 s ∧ (gI σ 58 s = -1 ∨ ∃ k, k < 4 ∧ gI σ 58 s = nI k) ∧ ∃ n, n ≤ 40 ∧ gI σ 59 s = nI n ∧ ∀ i, i < n → (gI σ (37 + s) i).toInt64 = gL σ 60 (40 * s + i)
/-- the shelves -/
def Sf (σ : St) : Prop := ∀ s, s < 4 → (gI σ 41 s = 0 ∧ gI σ 61 s = 0 ∧ gI σ 42 s = gI σ 62 s) ∨ (gI σ 41 s = 1 ∧ gI σ 61 s = 1 ∧ gI σ 42 s = gI σ 63 s ∧ gI σ 43 s = gI σ 62 s ∧ ∃ k, k < 4 ∧ gI σ 62 s = nI k) ∨ (gI σ 41 s = 2 ∧ gI σ 61 s = -1)
/-- the trace -/
def Tr (σ : St) : Prop := ∃ n, n ≤ 30 ∧ gI σ 31 1 = nI n ∧ gI σ 44 37 = nI n ∧ ∀ i, i < n → gI σ 32 i = gI σ 64 i
def Inv (σ : St) : Prop := ((gR σ 0 = 1 ∧ gR σ 1 = 9) ∨ (gR σ 0 = 9 ∧ gR σ 1 = 1)) ∧ TnOk σ (gR σ 0) ∧ Kp σ ∧ Tp σ ∧ Rw σ ∧ Sh σ ∧ Sf σ ∧ Tr σ
theorem inv_start : Inv σ00 := by
  refine ⟨Or.inl ⟨rfl, rfl⟩, ⟨0, 0, ⟨⟨rfl, rfl, by decide⟩, ⟨rfl, rfl, by decide⟩, rfl, fun p h => absurd h (Nat.not_lt_zero p), fun p h => absurd h (Nat.not_lt_zero p)⟩, fun p h => absurd h (Nat.not_lt_zero p), fun p h => absurd h (Nat.not_lt_zero p), fun p _ h => absurd h (Nat.not_lt_zero p), fun p h => absurd h (Nat.not_lt_zero p)⟩, ⟨rfl, Or.inl rfl⟩, ⟨0, by decide, rfl, rfl, fun p h => absurd h (Nat.not_lt_zero p)⟩, ⟨0, by decide, rfl, rfl, fun p h => absurd h (Nat.not_lt_zero p)⟩, ?_, ?_, ⟨0, by decide, rfl, rfl, fun p h => absurd h (Nat.not_lt_zero p)⟩⟩
  · intro s hs
    refine ⟨?_, ?_, Or.inl ?_, 0, by decide, ?_, fun i h => absurd h (Nat.not_lt_zero i)⟩
    all_goals rcases (show s = 0 ∨ s = 1 ∨ s = 2 ∨ s = 3 by omega) with rfl | rfl | rfl | rfl <;> rfl
  · intro s hs
    refine Or.inr (Or.inr ⟨?_, ?_⟩)
    all_goals rcases (show s = 0 ∨ s = 1 ∨ s = 2 ∨ s = 3 by omega) with rfl | rfl | rfl | rfl <;> rfl
theorem Inv.t {σ : St} (h : Inv σ) : gR σ 0 = 1 ∨ gR σ 0 = 9 := h.1.imp And.left And.left
theorem Inv.isT {σ : St} (h : Inv σ) : isTb (gR σ 0) = true := by rcases h.t with e | e <;> rw [e] <;> rfl
