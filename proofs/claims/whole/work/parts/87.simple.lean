/-! locations that only some calls change, and the calls without loops -/
def PR (k j : Nat) : Bool := (k == 0 && (j == 3 || j == 7)) || (decide (17 ≤ k) && decide (k ≤ 24)) || (k == 25 && j == 1) || k == 26 || k == 30 || (k == 31 && j == 1) || k == 32 || (decide (34 ≤ k) && decide (k ≤ 43)) || (k == 44 && (j == 8 || j == 26 || j == 37 || j == 39)) || k == 49 || (decide (57 ≤ k) && decide (k ≤ 65))
def Rst (σ : St) : Prop := Kp σ ∧ Tp σ ∧ Rw σ ∧ Sh σ ∧ Sf σ ∧ Tr σ
/-- what PR names is the same, and so are the references -/
def Sm (σ τ : St) : Prop := (∀ k j, PR k j = true → gI τ k j = gI σ k j) ∧ (∀ j, gL τ 60 j = gL σ 60 j) ∧ (∀ j, gR τ j = gR σ j)
theorem Sm.rf {σ : St} : Sm σ σ := ⟨fun _ _ _ => rfl, fun _ => rfl, fun _ => rfl⟩
theorem Sm.tr {σ τ υ : St} (h1 : Sm σ τ) (h2 : Sm τ υ) : Sm σ υ := ⟨fun k j h => (h2.1 k j h).trans (h1.1 k j h), fun j => (h2.2.1 j).trans (h1.2.1 j), fun j => (h2.2.2 j).trans (h1.2.2 j)⟩
theorem Sm.s {σ τ : St} {k j : Nat} {v : Int32} (h1 : Sm σ τ) (h : PR k j = false) : Sm σ (sI τ k j v) := h1.tr ⟨fun a b hab => if_neg (fun z => by rw [z.1, z.2, h] at hab; cases hab), fun _ => rfl, fun _ => rfl⟩
theorem Sm.l {σ τ : St} {k j : Nat} {v : Int64} (h1 : Sm σ τ) (h : k ≠ 60) : Sm σ (sL τ k j v) := h1.tr ⟨fun a b hab => rfl, fun b => if_neg (fun z => h z.1.symm), fun _ => rfl⟩
theorem PR_t {t k j : Nat} (h : t = 1 ∨ t = 9) (hk : k < 8) : PR (t + k) j = false := by
  rcases h with rfl | rfl
  · have key : ∀ k, k < 8 → ((1 + k == 0) = false ∧ decide (17 ≤ 1 + k) = false ∧ (1 + k == 25) = false ∧ (1 + k == 26) = false ∧ (1 + k == 30) = false ∧ (1 + k == 31) = false ∧ (1 + k == 32) = false ∧ decide (34 ≤ 1 + k) = false ∧ (1 + k == 44) = false ∧ (1 + k == 49) = false ∧ decide (57 ≤ 1 + k) = false) := by decide
    obtain ⟨a1, a2, a3, a4, a5, a6, a7, a8, a9, a10, a11⟩ := key k hk
    simp only [PR, a1, a2, a3, a4, a5, a6, a7, a8, a9, a10, a11, Bool.false_and, Bool.or_false]
  · have key : ∀ k, k < 8 → ((9 + k == 0) = false ∧ decide (17 ≤ 9 + k) = false ∧ (9 + k == 25) = false ∧ (9 + k == 26) = false ∧ (9 + k == 30) = false ∧ (9 + k == 31) = false ∧ (9 + k == 32) = false ∧ decide (34 ≤ 9 + k) = false ∧ (9 + k == 44) = false ∧ (9 + k == 49) = false ∧ decide (57 ≤ 9 + k) = false) := by decide
    obtain ⟨a1, a2, a3, a4, a5, a6, a7, a8, a9, a10, a11⟩ := key k hk
    simp only [PR, a1, a2, a3, a4, a5, a6, a7, a8, a9, a10, a11, Bool.false_and, Bool.or_false]
theorem PR_t0 {t j : Nat} (h : t = 1 ∨ t = 9) : PR t j = false := PR_t (k := 0) h (by decide)
theorem PR_a {k j : Nat} (h1 : k == 0 || k == 25 || k == 31 || k == 44 || PR k 0 == false) (h2 : ¬ (k == 0 || k == 25 || k == 31 || k == 44) = true) : PR k j = false := by
  simp only [Bool.or_eq_true, not_or] at h2
  obtain ⟨⟨⟨a0, a1⟩, a2⟩, a3⟩ := h2
  have b0 : (k == 0) = false := by simpa using a0
  have b1 : (k == 25) = false := by simpa using a1
  have b2 : (k == 31) = false := by simpa using a2
  have b3 : (k == 44) = false := by simpa using a3
  simp only [b0, b1, b2, b3, Bool.false_or, beq_iff_eq] at h1
  simp only [PR, b0, b1, b2, b3, Bool.false_and] at h1 ⊢
  exact h1
theorem Sm.rest {σ τ : St} (h : Sm σ τ) (r : Rst σ) : Rst τ := by
  obtain ⟨e, eL, -⟩ := h
  obtain ⟨⟨k1, k2⟩, ⟨n, t1, t2, t3, t4⟩, ⟨r0, r1, r2, r3, r4⟩, s1, f1, ⟨m, u1, u2, u3, u4⟩⟩ := r
  have e17 : ∀ j, gI τ 17 j = gI σ 17 j := fun j => e 17 j rfl
  have e18 : ∀ j, gI τ 18 j = gI σ 18 j := fun j => e 18 j rfl
  have e19 : ∀ j, gI τ 19 j = gI σ 19 j := fun j => e 19 j rfl
  have e20 : ∀ j, gI τ 20 j = gI σ 20 j := fun j => e 20 j rfl
  have e21 : ∀ j, gI τ 21 j = gI σ 21 j := fun j => e 21 j rfl
  have e22 : ∀ j, gI τ 22 j = gI σ 22 j := fun j => e 22 j rfl
  have e23 : ∀ j, gI τ 23 j = gI σ 23 j := fun j => e 23 j rfl
  have e24 : ∀ j, gI τ 24 j = gI σ 24 j := fun j => e 24 j rfl
  have e65 : ∀ j, gI τ 65 j = gI σ 65 j := fun j => e 65 j rfl
  have e58 : ∀ j, gI τ 58 j = gI σ 58 j := fun j => e 58 j rfl
  have e59 : ∀ j, gI τ 59 j = gI σ 59 j := fun j => e 59 j rfl
  refine ⟨⟨?_, ?_⟩, ⟨n, t1, ?_, ?_, fun i hi => ?_⟩, ⟨r0, r1, ?_, ?_, fun j hj => ?_⟩, fun s hs => ?_, fun s hs => ?_, ⟨m, u1, ?_, ?_, fun i hi => ?_⟩⟩
  · rw [e 0 3 rfl, e 44 39 rfl]; exact k1
  · rw [e 44 39 rfl]
    simp only [e17, e18, e19, e20, e21, e22, e23, e24, e65]
    exact k2
  · rw [e 25 1 rfl]; exact t2
  · rw [e 44 8 rfl]; exact t3
  · rw [e 26 i rfl, e 49 i rfl]; exact t4 i hi
  · rw [e 0 7 rfl]; exact r2
  · rw [e 44 26 rfl]; exact r3
  · rw [e 30 j rfl, e 57 j rfl]; exact r4 j hj
  · obtain ⟨a, b, c, n2, d, d2, d3⟩ := s1 s hs
    rw [e 34 s rfl, e58, e 35 s rfl, e59]
    refine ⟨a, b, c, n2, d, d2, fun i hi => ?_⟩
    rw [eL, e (37 + s) i (by rcases (show s = 0 ∨ s = 1 ∨ s = 2 ∨ s = 3 by omega) with rfl | rfl | rfl | rfl <;> rfl)]
    exact d3 i hi
  · rw [e 41 s rfl, e 61 s rfl, e 42 s rfl, e 62 s rfl, e 63 s rfl, e 43 s rfl]
    exact f1 s hs
  · rw [e 31 1 rfl]; exact u2
  · rw [e 44 37 rfl]; exact u3
  · rw [e 32 i rfl, e 64 i rfl]; exact u4 i hi
/-! who there is -/
theorem hp_i {σ : St} {t P p : Nat} (h : gI σ t 0 = nI P) (hP : P ≤ 7) (hp : p < P) : fT_hasPerson σ t (nI p) = 1 := by
  unfold fT_hasPerson
  rw [h, if_neg (nI_pos (by omega)), if_neg (nI_ge hp (by omega))]
theorem hp_o {σ : St} {t P : Nat} {i : Int32} (h : gI σ t 0 = nI P) (hP : P ≤ 7) (ho : i.toInt < 0 ∨ (P : Int) ≤ i.toInt) : fT_hasPerson σ t i = 0 := by
  unfold fT_hasPerson
  rw [h]
  by_cases h1 : i < 0
  · rw [if_pos h1]
  · rw [if_neg h1, if_pos]
    rw [lt_i] at h1
    rw [le_i, nI_toInt (by omega)]
    rcases ho with ho | ho
    · exact absurd ho h1
    · exact ho
theorem hc_i {σ : St} {t C c : Nat} (h : gI σ t 1 = nI C) (hC : C ≤ 6) (hc : c < C) : fT_hasCoin σ t (nI c) = 1 := by
  unfold fT_hasCoin
  rw [h, if_neg (nI_pos (by omega)), if_neg (nI_ge hc (by omega))]
theorem hc_o {σ : St} {t C : Nat} {i : Int32} (h : gI σ t 1 = nI C) (hC : C ≤ 6) (ho : i.toInt < 0 ∨ (C : Int) ≤ i.toInt) : fT_hasCoin σ t i = 0 := by
  unfold fT_hasCoin
  rw [h]
  by_cases h1 : i < 0
  · rw [if_pos h1]
  · rw [if_neg h1, if_pos]
    rw [lt_i] at h1
    rw [le_i, nI_toInt (by omega)]
    rcases ho with ho | ho
    · exact absurd ho h1
    · exact ho
theorem nI_m1 {n : Nat} (h : n < 1000) : (nI n - 1).toInt = (n : Int) - 1 := pk_sub_toInt (a := n) (b := 1) (by omega) (by omega)
theorem in_nI {j n : Nat} (h : j < n) (hn : n < 1000) : fM_in (nI j) 0 (nI n - 1) = 1 := by
  rw [in_iff, if_pos]
  rw [nI_toInt (by omega), nI_m1 hn, show (0 : Int32).toInt = 0 from rfl]
  omega
theorem in_out {i : Int32} {n : Nat} (hn : n < 1000) (ho : i.toInt < 0 ∨ (n : Int) ≤ i.toInt) : fM_in i 0 (nI n - 1) = 0 := by
  rw [in_iff, if_neg]
  rw [nI_m1 hn, show (0 : Int32).toInt = 0 from rfl]
  omega
theorem mp_i {σ : St} {P p : Nat} (h : gI σ 44 0 = nI P) (hP : P ≤ 7) (hp : p < P) : fM_isPerson σ (nI p) = 1 := by
  unfold fM_isPerson; rw [h]; exact in_nI hp (by omega)
theorem mp_o {σ : St} {P : Nat} {i : Int32} (h : gI σ 44 0 = nI P) (hP : P ≤ 7) (ho : i.toInt < 0 ∨ (P : Int) ≤ i.toInt) : fM_isPerson σ i = 0 := by
  unfold fM_isPerson; rw [h]; exact in_out (by omega) ho
theorem mc_i {σ : St} {C c : Nat} (h : gI σ 44 4 = nI C) (hC : C ≤ 6) (hc : c < C) : fM_isCoin σ (nI c) = 1 := by
  unfold fM_isCoin; rw [h]; exact in_nI hc (by omega)
theorem mc_o {σ : St} {C : Nat} {i : Int32} (h : gI σ 44 4 = nI C) (hC : C ≤ 6) (ho : i.toInt < 0 ∨ (C : Int) ≤ i.toInt) : fM_isCoin σ i = 0 := by
  unfold fM_isCoin; rw [h]; exact in_out (by omega) ho
theorem one_ne : ¬ (1 : Int32) = 0 := by decide
/-- seed -/
theorem st_seed : St_seed Inv := by
  intro σ a1 hI
  have ht := hI.t
  have hb := hI.isT
  obtain ⟨hr, ⟨P, C, hT, hO⟩, rest⟩ := hI
  refine ⟨gI σ 44 6, sI σ (gR σ 0) 2 a1, sI (sI σ (gR σ 0) 2 a1) 44 6 a1, ?_, ?_, ?_⟩
  · unfold fE_seed
    rw [if_pos hb, nm_def, if_pos hb, nm_def, hT.2.2.1]
  · unfold fM_seed
    rcases ht with e | e <;> rw [e] <;> rfl
  · have hs : Sm σ (sI (sI σ (gR σ 0) 2 a1) 44 6 a1) := (Sm.rf.s (PR_t0 ht)).s rfl
    refine ⟨hr, ⟨P, C, ?_, ?_⟩, hs.rest rest⟩
    · show Tn _ (gR σ 0) P C
      obtain ⟨⟨a1, a2, a3⟩, ⟨b1, b2, b3⟩, c1, d1, e1⟩ := hT
      rcases ht with e | e <;> rw [e] at a1 b1 c1 d1 e1 ⊢ <;> exact ⟨⟨a1, a2, a3⟩, ⟨b1, b2, b3⟩, rfl, d1, e1⟩
    · rcases ht with e | e <;> rw [e] <;> exact hO
/-- many -/
theorem st_many : St_many Inv := by
  intro σ a1 hI
  have hb := hI.isT
  have hI0 := hI
  obtain ⟨hr, ⟨P, C, hT, hO⟩, hK, ⟨n, -, t2, t3, -⟩, ⟨r, -, r2, r3, -⟩, -, -, ⟨m, -, u2, u3, -⟩⟩ := hI
  refine ⟨fM_many σ a1, σ, σ, ⟨?_, rfl⟩, ⟨rfl, rfl⟩, hI0⟩
  unfold fE_many fM_many
  rw [hT.1.1, hT.1.2.1, hT.2.1.1, hT.2.1.2.1, t2, t3, r2, r3, u2, u3]
  simp only [if_pos hb]
  repeat' split
  all_goals rfl
/-- trace -/
theorem st_trace : St_trace Inv := by
  intro σ a1 hI
  have hI0 := hI
  obtain ⟨hr, -, -, -, -, -, -, ⟨m, u1, u2, u3, u4⟩⟩ := hI
  rcases arg a1 m (by omega) with ⟨j, hj, rfl⟩ | ho
  · refine ⟨gI σ 64 j, σ, σ, ⟨?_, rfl⟩, ⟨?_, rfl⟩, hI0⟩
    · unfold fE_trace
      rw [if_neg (nI_pos (by omega)), u2, if_neg (nI_ge hj (by omega)), if_pos (ib_nI (by omega) (by omega)), ix_nI (by omega), u4 j hj]
    · unfold fM_trace
      rw [u3, in_nI hj (by omega), if_neg one_ne, if_pos (ib_nI (by omega) (by omega)), ix_nI (by omega)]
  · refine ⟨-3, σ, σ, ⟨?_, rfl⟩, ⟨?_, rfl⟩, hI0⟩
    · unfold fE_trace
      rw [u2]
      by_cases h1 : a1 < 0
      · rw [if_pos h1]
      · rw [if_neg h1, if_pos]
        rw [lt_i] at h1
        rw [le_i, nI_toInt (by omega)]
        rcases ho with ho | ho
        · exact absurd ho h1
        · exact ho
    · unfold fM_trace
      rw [u3, in_out (by omega) ho, if_pos rfl]
