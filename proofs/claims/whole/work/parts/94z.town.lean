/-! town -/
theorem s_kind {t : Nat → Nat} {n f : Nat} {σ τ : St} (h : Sy1 t n σ τ f) : (fX_kindRead σ = some (-1) ∧ fM_kindHere τ = -1) ∨ ∃ k, k < 6 ∧ fX_kindRead σ = some (nI k) ∧ fM_kindHere τ = nI k := by
  unfold fX_kindRead fM_kindHere
  rcases h.wd (r := 3) (by decide) (by decide +kernel) 70241 (by decide +kernel) with ⟨a1, a2, -⟩ | ⟨a1, a2⟩
  · rw [show fX_reads σ 103 = _ from a1, a2, bd_some, if_neg one_ne, if_neg one_ne]
    exact Or.inr ⟨0, by decide, rfl, rfl⟩
  rw [show fX_reads σ 103 = _ from a1, a2, bd_some, if_pos rfl, if_pos rfl]
  rcases h.wd (r := 4) (by decide) (by decide +kernel) 158523 (by decide +kernel) with ⟨a1, a2, -⟩ | ⟨a1, a2⟩
  · rw [show fX_reads σ 104 = _ from a1, a2, bd_some, if_neg one_ne, if_neg one_ne]
    exact Or.inr ⟨1, by decide, rfl, rfl⟩
  rw [show fX_reads σ 104 = _ from a1, a2, bd_some, if_pos rfl, if_pos rfl]
  rcases h.wd (r := 5) (by decide) (by decide +kernel) 1960187 (by decide +kernel) with ⟨a1, a2, -⟩ | ⟨a1, a2⟩
  · rw [show fX_reads σ 105 = _ from a1, a2, bd_some, if_neg one_ne, if_neg one_ne]
    exact Or.inr ⟨2, by decide, rfl, rfl⟩
  rw [show fX_reads σ 105 = _ from a1, a2, bd_some, if_pos rfl, if_pos rfl]
  rcases h.wd (r := 6) (by decide) (by decide +kernel) 3217595 (by decide +kernel) with ⟨a1, a2, -⟩ | ⟨a1, a2⟩
  · rw [show fX_reads σ 106 = _ from a1, a2, bd_some, if_neg one_ne, if_neg one_ne]
    exact Or.inr ⟨3, by decide, rfl, rfl⟩
  rw [show fX_reads σ 106 = _ from a1, a2, bd_some, if_pos rfl, if_pos rfl]
  rcases h.wd (r := 7) (by decide) (by decide +kernel) 950073034 (by decide +kernel) with ⟨a1, a2, -⟩ | ⟨a1, a2⟩
  · rw [show fX_reads σ 107 = _ from a1, a2, bd_some, if_neg one_ne, if_neg one_ne]
    exact Or.inr ⟨4, by decide, rfl, rfl⟩
  rw [show fX_reads σ 107 = _ from a1, a2, bd_some, if_pos rfl, if_pos rfl]
  rcases h.wd (r := 8) (by decide) (by decide +kernel) 464144 (by decide +kernel) with ⟨a1, a2, -⟩ | ⟨a1, a2⟩
  · rw [show fX_reads σ 108 = _ from a1, a2, bd_some, if_neg one_ne]
    exact Or.inr ⟨5, by decide, rfl, rfl⟩
  rw [show fX_reads σ 108 = _ from a1, a2, bd_some, if_pos rfl]
  exact Or.inl ⟨rfl, rfl⟩
theorem s_stmt {t : Nat → Nat} {n td f : Nat} {σ τ : St} {W : Tw} (htd : td = 1 ∨ td = 9) (h : Sy1 t n σ τ f) (hfn : f < n) (hE : TE σ td W) (hF : TF τ W) (hG : Gd W) (hsi : ∀ p, wsi W p = 0) : ∃ q σ' τ', fX_readStatement σ td = some (q, σ') ∧ (∀ fu, fM_town_24 (fu + 1) τ = fM_town_24 fu τ') ∧ Rs t n td σ τ W f q σ' τ' := by
  have hs0 : ¬ gI τ 44 9 = 0 := by
    rw [h.2.2.2.2.1.1]
    intro z
    have := so_lt t n f
    have e0 := (nI_eq (b := 0) (by omega) (by omega)).mp z
    rcases so_c t n f with ⟨-, g⟩ | ⟨e, -⟩ | ⟨e, -⟩ | ⟨e, -⟩ <;> omega
  have h14 : ¬ gI τ 44 14 = 0 := by rw [h.2.2.2.2.2]; exact one_ne
  unfold fX_readStatement
  rcases h.wd (r := 0) (by decide) (by decide +kernel) 232608281 (by decide +kernel) with ⟨a1, a2, -⟩ | ⟨a1, a2⟩
  · obtain ⟨q, σ', τ', r1, r2, r3⟩ := s_person htd h hfn hE hF hG hsi
    refine ⟨q, σ', τ', ?_, fun fu => ?_, r3⟩
    · rw [show fX_reads σ 100 = _ from a1, bd_some, if_neg one_ne, r1, bi_some, if_pos r3.q]
    · rw [fM_town_24, if_neg h14, if_neg hs0, a2, if_neg one_ne, r2, bd_some]
  rcases h.wd (r := 2) (by decide) (by decide +kernel) 227147 (by decide +kernel) with ⟨b1, b2, -⟩ | ⟨b1, b2⟩
  · obtain ⟨q, σ', τ', r1, r2, r3⟩ := s_know htd h hfn hE hF hG hsi
    refine ⟨q, σ', τ', ?_, fun fu => ?_, r3⟩
    · rw [show fX_reads σ 100 = _ from a1, bd_some, if_pos rfl, show fX_reads σ 102 = _ from b1, bd_some, if_neg one_ne, r1, bi_some, if_pos r3.q]
    · rw [fM_town_24, if_neg h14, if_neg hs0, a2, if_pos rfl, b2, if_neg one_ne, r2, bd_some]
  rw [show fX_reads σ 100 = _ from a1, bd_some, if_pos rfl, show fX_reads σ 102 = _ from b1, bd_some, if_pos rfl]
  rcases s_kind h with ⟨c1, c2⟩ | ⟨k, hk, c1, c2⟩
  · refine ⟨0, σ, sI τ 44 14 0, ?_, fun fu => ?_, FT.rf, FN.rf.s (by omega), Or.inr ⟨rfl, h.g0⟩⟩
    · rw [c1, bd_some, if_pos (by decide)]
    · rw [fM_town_24, if_neg h14, if_neg hs0, a2, if_pos rfl, b2, if_pos rfl, c2, if_pos (by decide), nm_def]
  · obtain ⟨q, σ', τ', r1, r2, r3⟩ := s_coin htd hk h hfn hE hF hG hsi
    refine ⟨q, σ', τ', ?_, fun fu => ?_, r3⟩
    · rw [c1, bd_some, if_neg (nI_pos (by omega)), r1, bi_some]
      rcases r3.q with z | z
      · rw [z]; rfl
      · rw [z]; rfl
    · rw [fM_town_24, if_neg h14, if_neg hs0, a2, if_pos rfl, b2, if_pos rfl, c2, if_neg (nI_pos (by omega)), r2, bd_some]
theorem s_all {t : Nat → Nat} {n td : Nat} {z0 : Int32} (htd : td = 1 ∨ td = 9) : ∀ d fu fv e i σ τ W, n - e ≤ d → d < fu → d + 1 < fv → i ≤ e → Sy t n σ τ e → TE σ td W → TF τ W → Gd W → wz W = z0 → (∀ p, wsi W p = 0) → ∃ q σ' τ', fX_readInto_11 fu σ td (nI i) = some (q, σ') ∧ fM_town_24 fv τ = fM_town_98 τ' ∧ FT td σ σ' ∧ FN τ τ' ∧ ((∃ f, f ≤ 200 ∧ q = nI f ∧ gI τ' 44 14 = 0 ∧ gI τ' 44 10 = nI f) ∨ (q = -3 ∧ gI τ' 44 14 = 1 ∧ ∃ W', TE σ' td W' ∧ TF τ' W' ∧ Gd W' ∧ wz W' = z0 ∧ ∀ p, wsi W' p = 0))
  | _, 0, _, _, _, _, _, _, _, hfu, _, _, _, _, _, _, _, _ => absurd hfu (Nat.not_lt_zero _)
  | _, _ + 1, 0, _, _, _, _, _, _, _, hfv, _, _, _, _, _, _, _ => absurd hfv (Nat.not_lt_zero _)
  | d, fu + 1, fv + 1, e, i, σ, τ, W, hd, hfu, hfv, hie, s, hE, hF, hG, hz, hsi => by
    have h200 := s.1.2.1
    have hen := s.2.2.1
    obtain ⟨σ1, r1, r2, r3⟩ := s.st
    have hfe := tf_b (t := t) hen
    generalize tf t n e = f at *
    have hE1 := hE.fs htd r3
    rw [fX_readInto_11, if_neg (show ¬ (200 : Int32) < nI i from Int32.not_lt.mpr (nI_le (b := 200) (by omega) (by omega))), r1, bd_some, r2.2.2.2.1.1, r2.1.1]
    by_cases hfn : f < n
    · rw [if_pos (nI_lt hfn (by omega))]
      obtain ⟨q, σ2, τ2, m1, m2, m3⟩ := s_stmt htd r2 hfn hE1 hF hG hsi
      rw [m1, bi_some, m2]
      obtain ⟨k1, k2, k3⟩ := m3
      rcases k3 with ⟨rfl, W', e', j1, j2, j3, j4, j5, j6, j7⟩ | ⟨rfl, j1, f5, j2, j3, j4⟩
      · rw [if_neg one_ne, nm_def, nI_1]
        have hn' := j2.2.2.1
        obtain ⟨d', rfl⟩ : ∃ x, d = x + 1 := ⟨d - 1, by omega⟩
        obtain ⟨q, σ3, τ3, u1, u2, u3, u4, u5⟩ := s_all htd d' fu fv e' (i + 1) σ2 τ2 W' (by omega) (by omega) (by omega) (by omega) j2 j3 j4 j5 (j6.trans hz) j7
        exact ⟨q, σ3, τ3, u1, u2, (r3.t.tr k1).tr u3, k2.tr u4, u5⟩
      · rw [if_pos rfl]
        obtain ⟨fv', rfl⟩ : ∃ x, fv = x + 1 := ⟨fv - 1, by omega⟩
        refine ⟨_, σ2, τ2, rfl, ?_, r3.t.tr k1, k2, Or.inl ⟨f5, j2, j3, j1, j4⟩⟩
        rw [fM_town_24, if_pos j1]
    · rw [if_neg (Int32.not_lt.mpr (nI_le (by omega) (by omega)))]
      refine ⟨_, σ1, τ, rfl, ?_, r3.t, FN.rf, Or.inr ⟨rfl, s.2.2.2.2.2, W, hE1, hF, hG, hz, hsi⟩⟩
      rw [fM_town_24, s.2.2.2.2.2, if_neg one_ne, r2.2.2.2.2.1.1]
      rcases so_c t n f with ⟨e0, -⟩ | ⟨-, g, -⟩ | ⟨-, g, -⟩ | ⟨-, g, -⟩
      · rw [e0, if_pos (by decide)]
      all_goals omega
/-- the reference takes its fresh town -/
theorem M_136 : ∀ m fu i σ, m + i = 7 → m < fu → ∃ τ, fM_town_136 fu σ (nI i) = fM_town_179 τ ∧ (∀ p, i ≤ p → p < 7 → gI τ 45 p = gI σ 50 p ∧ gI τ 46 p = 0 ∧ gI τ 47 p = gI σ 51 p) ∧ (∀ a b, (45 ≤ a ∧ a ≤ 47 → b < i) → gI τ a b = gI σ a b) ∧ (∀ a b, gL τ a b = gL σ a b) ∧ (∀ j, gR τ j = gR σ j)
  | _, 0, _, _, _, hf => absurd hf (Nat.not_lt_zero _)
  | 0, fu + 1, i, σ, h, hf => by
    refine ⟨σ, ?_, fun p h1 h2 => by omega, fun _ _ _ => rfl, fun _ _ => rfl, fun _ => rfl⟩
    rw [fM_town_136, if_pos (show (7 : Int32) ≤ nI i from nI_le (a := 7) (by omega) (by omega))]
  | m + 1, fu + 1, i, σ, h, hf => by
    have hb : ib (nI i) 7 = true := ib_nI (by omega) (by omega)
    rw [fM_town_136, if_neg (show ¬ (7 : Int32) ≤ nI i from nI_ge (b := 7) (by omega) (by omega)), if_pos hb, if_pos hb, nm_def, if_pos hb, if_pos hb, nm_def, if_pos hb, nm_def, nm_def, nI_1, ix_nI (by omega), gI_o (show (51 : Nat) ≠ 45 by decide)]
    obtain ⟨τ, r1, r2, r3, r4, r5⟩ := M_136 m fu (i + 1) (sI (sI (sI σ 45 i (gI σ 50 i)) 47 i (gI σ 51 i)) 46 i 0) (by omega) (by omega)
    refine ⟨τ, r1, fun p h1 h2 => ?_, fun a b hab => ?_, fun a b => r4 a b, fun j => r5 j⟩
    · by_cases e : p = i
      · rw [e, r3 45 i (fun _ => Nat.lt_succ_self _), r3 46 i (fun _ => Nat.lt_succ_self _), r3 47 i (fun _ => Nat.lt_succ_self _)]
        exact ⟨by rw [gI_o (by decide), gI_o (by decide), gI_s], gI_s, by rw [gI_o (by decide), gI_s]⟩
      · obtain ⟨w1, w2, w3⟩ := r2 p (by omega) h2
        rw [w1, w2, w3]
        exact ⟨by rw [gI_o (by decide), gI_o (by decide), gI_o (by decide)], rfl, by rw [gI_o (by decide), gI_o (by decide), gI_o (by decide)]⟩
    · rw [r3 a b (fun z => by have := hab z; omega), gI_sI, if_neg (fun z => by have := hab (by omega); omega), gI_sI, if_neg (fun z => by have := hab (by omega); omega), gI_sI, if_neg (fun z => by have := hab (by omega); omega)]
theorem M_181 : ∀ m fu i σ, m + i = 24 → m < fu → ∃ τ, fM_town_181 fu σ (nI i) = some (gI σ 44 0, τ) ∧ (∀ p, i ≤ p → p < 24 → gI τ 48 p = gI σ 52 p) ∧ (∀ a b, (a = 48 → b < i) → ¬ (a = 44 ∧ b = 26) → gI τ a b = gI σ a b) ∧ gI τ 44 26 = 0 ∧ (∀ a b, gL τ a b = gL σ a b) ∧ (∀ j, gR τ j = gR σ j)
  | _, 0, _, _, _, hf => absurd hf (Nat.not_lt_zero _)
  | 0, fu + 1, i, σ, h, hf => by
    refine ⟨sI σ 44 26 0, ?_, fun p h1 h2 => by omega, fun a b _ x => if_neg x, gI_s, fun _ _ => rfl, fun _ => rfl⟩
    rw [fM_town_181, if_pos (show (24 : Int32) ≤ nI i from nI_le (a := 24) (by omega) (by omega)), nm_def, gI_p (by decide)]
  | m + 1, fu + 1, i, σ, h, hf => by
    have hb : ib (nI i) 24 = true := ib_nI (by omega) (by omega)
    rw [fM_town_181, if_neg (show ¬ (24 : Int32) ≤ nI i from nI_ge (b := 24) (by omega) (by omega)), if_pos hb, if_pos hb, nm_def, nm_def, nI_1, ix_nI (by omega)]
    obtain ⟨τ, r1, r2, r3, r3', r4, r5⟩ := M_181 m fu (i + 1) (sI σ 48 i (gI σ 52 i)) (by omega) (by omega)
    refine ⟨τ, by rw [r1, gI_o (by decide)], fun p h1 h2 => ?_, fun a b hab x => ?_, r3', fun a b => r4 a b, fun j => r5 j⟩
    · by_cases e : p = i
      · rw [e, r3 48 i (fun _ => Nat.lt_succ_self _) (by omega), gI_s]
      · rw [r2 p (by omega) h2, gI_o (by decide)]
    · rw [r3 a b (fun z => by have := hab z; omega) x, gI_sI, if_neg (fun z => by have := hab z.1; omega)]
theorem M_98 {τ : St} {W : Tw} (h14 : gI τ 44 14 = 1) (hF : TF τ W) (hG : Gd W) (hz : gI τ 44 6 = wz W) (hsi : ∀ p, wsi W p = 0) : ∃ τ', fM_town_98 τ = some (nI (wP W), τ') ∧ TM τ' W ∧ gI τ' 44 8 = 0 ∧ gI τ' 44 26 = 0 ∧ (∀ a b, ¬ (45 ≤ a ∧ a ≤ 48) → ¬ (a = 44 ∧ (b = 0 ∨ b = 4 ∨ b = 8 ∨ b = 26)) → gI τ' a b = gI τ a b) ∧ (∀ a b, gL τ' a b = gL τ a b) ∧ (∀ j, gR τ' j = gR τ j) := by
  obtain ⟨⟨g1, g2⟩, -⟩ := hG
  obtain ⟨a1, a2, a4, a5⟩ := hF
  obtain ⟨τ1, r1, r2, r3, r4, r5⟩ := M_136 7 300 0 (sI (sI (sI τ 44 8 0) 44 0 (nI (wP W))) 44 4 (nI (wC W))) rfl (by decide)
  obtain ⟨τ2, s1, s2, s3, s3', s4, s5⟩ := M_181 24 300 0 τ1 rfl (by decide)
  have b0 : ∀ a b, ¬ (a = 44 ∧ (b = 0 ∨ b = 4 ∨ b = 8)) → gI (sI (sI (sI τ 44 8 0) 44 0 (nI (wP W))) 44 4 (nI (wC W))) a b = gI τ a b := fun a b x => by
    rw [gI_sI, if_neg (by omega), gI_sI, if_neg (by omega), gI_sI, if_neg (by omega)]
  have p0 : gI τ1 44 0 = nI (wP W) := by rw [r3 44 0 (by omega), gI_p (by decide), gI_s]
  refine ⟨τ2, ?_, ⟨?_, ?_, ?_, fun p hp => ?_, fun c hc => ?_⟩, ?_, s3', fun a b x y => ?_, fun a b => (s4 a b).trans (r4 a b), fun j => (s5 j).trans (r5 j)⟩
  · unfold fM_town_98
    rw [nm_def, gI_p (by decide), h14, if_neg one_ne, nm_def, gI_p (by decide), a1, nm_def, gI_p (by decide), gI_p (by decide), a2]
    rw [show fM_town_136 300 (sI (sI (sI τ 44 8 0) 44 0 (nI (wP W))) 44 4 (nI (wC W))) 0 = _ from r1]
    unfold fM_town_179
    rw [show fM_town_181 300 τ1 0 = _ from s1, p0]
  · rw [s3 44 0 (by omega) (by omega), p0]
  · rw [s3 44 4 (by omega) (by omega), r3 44 4 (by omega), gI_s]
  · rw [s3 44 6 (by omega) (by omega), r3 44 6 (by omega), b0 44 6 (by omega)]; exact hz
  · obtain ⟨w1, w2, w3⟩ := r2 p (by omega) (by omega)
    rw [s3 45 p (by omega) (by omega), s3 46 p (by omega) (by omega), s3 47 p (by omega) (by omega), w1, w2, w3, b0 50 p (by omega), b0 51 p (by omega)]
    exact ⟨(a4 p hp).1, (hsi p).symm, (a4 p hp).2⟩
  · have k : ∀ x, x < 24 → gI τ2 48 x = gI τ 52 x := fun x hx => by
      rw [s2 x (by omega) hx, r3 52 x (by omega), b0 52 x (by omega)]
    rw [k _ (by omega), k _ (by omega), k _ (by omega), k _ (by omega)]
    exact a5 c hc
  · rw [s3 44 8 (by omega) (by omega), r3 44 8 (by omega), gI_p (by decide), gI_p (by decide), gI_s]
  · rw [s3 a b (by omega) (by omega), r3 a b (by omega), b0 a b (by omega)]
def W00 (z : Int32) : Tw := (0, 0, z, fun _ => 0, fun _ => 0, fun _ => 0, fun _ => 0, fun _ => 0, fun _ => 0, fun _ => 0)
theorem st_town : St_town Inv := by
  intro σ hI
  have hI0 := hI
  obtain ⟨h01, hT, hK, hTp, hRw, hSh, hSf, hTr⟩ := hI
  obtain ⟨n, hn, p1, p2, p3⟩ := hTp
  obtain ⟨P, C, hTn, -⟩ := hT
  have hz := hTn.2.2.1
  generalize ho : gR σ 0 = o at *
  generalize htd : gR σ 1 = td at *
  have htd9 : td = 1 ∨ td = 9 := by omega
  have ho9 : o = 1 ∨ o = 9 := by omega
  have hne : ∀ k, td ≤ k → k ≤ td + 7 → ¬ (o ≤ k ∧ k ≤ o + 7) := fun k a b => by omega
  have hto : isTb o = true := by rcases ho9 with e | e <;> rw [e] <;> rfl
  have htt : isTb td = true := by rcases htd9 with e | e <;> rw [e] <;> rfl
  obtain ⟨t, ht⟩ : ∃ t : Nat → Nat, ∀ i, i < n → gI σ 49 i = nI (t i) ∧ t i < 256 := ⟨fun i => (gI σ 49 i).toNatClampNeg, fun i hi => by
    obtain ⟨-, b, hb, e⟩ := p3 i hi
    have : (gI σ 49 i).toNatClampNeg = b := by rw [e]; exact nI_clamp (by omega)
    show gI σ 49 i = nI (gI σ 49 i).toNatClampNeg ∧ (gI σ 49 i).toNatClampNeg < 256
    rw [this]
    exact ⟨e, hb⟩⟩
  -- the class's start
  have E0 : ∀ X : Option (Int32 × St), fX_readInto (sI σ td 2 (gI σ o 2)) td = X → fE_town σ = bi X fun q6 σ6 => nm (sI σ6 25 1 (0 : Int32)) fun σ7 => if q6 < 0 then nm (sR σ7 0 (gR σ7 1)) fun σ9 => nm (sR σ9 1 (gR σ7 0)) fun σ10 => nm (sI σ10 0 7 (0 : Int32)) fun σ11 => if isTb (gR σ11 0) = true then some (gI σ11 (gR σ11 0) 0, σ11) else none else some ((-100 : Int32) - q6, σ7) := by
    intro X hX
    unfold fE_town
    rw [ho, htd, if_pos hto, if_pos htt, nm_def, gR_sI, htd, if_pos htt, hX]
  have hG0 : Gd (W00 (gI σ o 2)) := ⟨⟨Nat.zero_le _, Nat.zero_le _⟩, fun p h => absurd h (Nat.not_lt_zero p), fun p _ h => absurd h (Nat.not_lt_zero p), fun p h => absurd h (Nat.not_lt_zero p)⟩
  generalize hσ0 : sI (sI (sI (sI σ td 2 (gI σ o 2)) td 0 0) td 1 0) 25 3 0 = σ0
  have fr0 : ∀ a b, ¬ (td ≤ a ∧ a ≤ td + 7) → ¬ (a = 25 ∧ (b = 2 ∨ b = 3)) → gI σ0 a b = gI σ a b := fun a b x y => by
    rw [← hσ0, gI_sI, if_neg (by omega), gI_o (by omega), gI_o (by omega), gI_o (by omega)]
  have hR0 : ∀ X, fX_readInto_11 300 σ0 td 0 = X → fX_readInto (sI σ td 2 (gI σ o 2)) td = X := by
    intro X hX
    unfold fX_readInto fT_empty
    rw [nm_def, nm_def, bd_some, nm_def, hσ0, hX]
  have hTE : TE σ0 td (W00 (gI σ o 2)) := by
    refine ⟨?_, ?_, ?_, fun p h => absurd h (Nat.not_lt_zero p), fun p h => absurd h (Nat.not_lt_zero p)⟩
    · rw [← hσ0, gI_o (by omega), gI_p (by decide), gI_s]; rfl
    · rw [← hσ0, gI_o (by omega), gI_s]; rfl
    · rw [← hσ0, gI_o (by omega), gI_p (by decide), gI_p (by decide), gI_s]; rfl
  have hPE : TpE σ0 t n := ⟨by rw [fr0 25 1 (by omega) (by omega)]; exact p1, hn, fun i hi => by rw [fr0 26 i (by omega) (by omega), (p3 i hi).1]; exact ht i hi⟩
  have g3 : gI σ0 25 3 = nI 0 := by rw [← hσ0, gI_s]; rfl
  -- both from any state whose tape is the same
  have both : ∀ υ : St, (∀ a b, 44 ≤ a → gI υ a b = gI σ a b) → ∃ q σ' τ', fX_readInto_11 300 σ0 td 0 = some (q, σ') ∧ fM_town υ = fM_town_98 τ' ∧ FT td σ0 σ' ∧ FN υ τ' ∧ ((∃ f, f ≤ 200 ∧ q = nI f ∧ gI τ' 44 14 = 0 ∧ gI τ' 44 10 = nI f) ∨ (q = -3 ∧ gI τ' 44 14 = 1 ∧ ∃ W', TE σ' td W' ∧ TF τ' W' ∧ Gd W' ∧ wz W' = gI σ o 2 ∧ ∀ p, wsi W' p = 0)) := by
    intro υ hυ
    generalize hυ4 : sI (sI (sI (sI υ 44 11 0) 44 14 1) 44 15 0) 44 16 0 = υ4
    have fr4 : ∀ a b, ¬ (a = 44 ∧ (b = 11 ∨ b = 14 ∨ b = 15 ∨ b = 16)) → gI υ4 a b = gI υ a b := fun a b x => by
      rw [← hυ4, gI_sI, if_neg (by omega), gI_sI, if_neg (by omega), gI_sI, if_neg (by omega), gI_sI, if_neg (by omega)]
    have hPM : TpM υ4 t n := ⟨by rw [fr4 44 8 (by omega), hυ 44 8 (by omega)]; exact p2, hn, fun i hi => by rw [fr4 49 i (by omega), hυ 49 i (by omega)]; exact ht i hi⟩
    have g11 : gI υ4 44 11 = nI 0 := by rw [← hυ4, gI_p (by decide), gI_p (by decide), gI_p (by decide), gI_s]; rfl
    obtain ⟨τ, m1, m2, m3⟩ := M_adv (e := 0) hPM (Nat.zero_le _) g11
    have hTF : TF τ (W00 (gI σ o 2)) := by
      refine ⟨?_, ?_, fun p h => absurd h (Nat.not_lt_zero p), fun p h => absurd h (Nat.not_lt_zero p)⟩
      · rw [m3.1 44 15 (by omega), ← hυ4, gI_p (by decide), gI_s]; rfl
      · rw [m3.1 44 16 (by omega), ← hυ4, gI_s]; rfl
    have sy : Sy t n σ0 τ 0 := ⟨hPE, hPM.f m3, Nat.zero_le _, g3, m2, by rw [m3.1 44 14 (by omega), ← hυ4, gI_p (by decide), gI_p (by decide), gI_s]⟩
    obtain ⟨q, σ', τ', a1, a2, a3, a4, a5⟩ := s_all (z0 := gI σ o 2) htd9 n 300 300 0 0 σ0 τ (W00 (gI σ o 2)) (by omega) (by omega) (by omega) (Nat.le_refl _) sy hTE hTF hG0 rfl (fun _ => rfl)
    refine ⟨q, σ', τ', a1, ?_, a3, ?_, a5⟩
    · unfold fM_town
      rw [nm_def, nm_def, nm_def, nm_def, hυ4, m1, bd_some, a2]
    · refine FN.tr ?_ a4
      refine FN.tr (τ := υ4) ?_ m3.g.n
      rw [← hυ4]
      exact (((FN.rf.s (by omega)).s (by omega)).s (by omega)).s (by omega)
  obtain ⟨q, σ6, -, b1, -, b3, -, b5⟩ := both σ (fun _ _ _ => rfl)
  have hE := E0 _ (hR0 _ b1)
  rw [bi_some, nm_def] at hE
  have fr6 : ∀ a b, ¬ (td ≤ a ∧ a ≤ td + 7) → ¬ (a = 25 ∧ (b = 2 ∨ b = 3)) → gI σ6 a b = gI σ a b := fun a b x y => (b3.1 a b x y).trans (fr0 a b x y)
  have gR6 : ∀ j, gR σ6 j = gR σ j := fun j => (b3.2.2 j).trans (by rw [← hσ0]; rfl)
  have gL6 : ∀ a b, gL σ6 a b = gL σ a b := fun a b => (b3.2.1 a b).trans (by rw [← hσ0]; rfl)
  by_cases hq : q < 0
  · -- a town
    rw [if_pos hq, nm_def, nm_def, nm_def] at hE
    generalize hσ1 : sI (sR (sR (sI σ6 25 1 0) 0 (gR (sI σ6 25 1 0) 1)) 1 (gR (sI σ6 25 1 0) 0)) 0 7 0 = σ1 at hE
    have r0 : gR σ1 0 = td := by rw [← hσ1, gR_sI, gR_sR, if_neg (by decide), gR_sR, if_pos rfl, gR_sI, gR6, htd]
    have r1 : gR σ1 1 = o := by rw [← hσ1, gR_sI, gR_sR, if_pos rfl, gR_sI, gR6, ho]
    have i1 : ∀ a b, ¬ (a = 25 ∧ b = 1) → ¬ (a = 0 ∧ b = 7) → gI σ1 a b = gI σ6 a b := fun a b x y => by
      rw [← hσ1, gI_sI, if_neg y, gI_sR, gI_sR, gI_sI, if_neg x]
    have l1 : ∀ a b, gL σ1 a b = gL σ a b := fun a b => by rw [← hσ1]; exact gL6 a b
    have fr1 : ∀ a b, ¬ (td ≤ a ∧ a ≤ td + 7) → ¬ (a = 25 ∧ (b = 1 ∨ b = 2 ∨ b = 3)) → ¬ (a = 0 ∧ b = 7) → gI σ1 a b = gI σ a b := fun a b x y z => (i1 a b (by omega) z).trans (fr6 a b x (by omega))
    obtain ⟨q', σ6', τ', c1, c2, c3, c4, c5⟩ := both σ1 (fun a b hab => fr1 a b (by omega) (by omega) (by omega))
    have cc := Option.some.inj (c1.symm.trans b1)
    rw [show q' = q from congrArg Prod.fst cc, show σ6' = σ6 from congrArg Prod.snd cc] at c5
    rcases c5 with ⟨f, hf, e, -⟩ | ⟨e, d1, W', d2, d3, d4, d5, d6⟩
    · rw [e] at hq
      exact absurd hq (nI_pos (by omega))
    have hz6 : gI τ' 44 6 = wz W' := by rw [c4.1 44 6 (by omega) (by omega), fr1 44 6 (by omega) (by omega) (by omega), d5]; exact hz.symm
    obtain ⟨τ2, u1, u2, u3, u4, u5, u6, u7⟩ := M_98 d1 d3 d4 hz6 d6
    have hE1 : TE σ1 td W' := d2.f (fun k j x y => i1 k j (by omega) (by omega))
    rw [r0, if_pos htt, hE1.1] at hE
    have fin : ∀ a b, ¬ (1 ≤ a ∧ a ≤ 16) → ¬ (a = 25 ∧ (b = 1 ∨ b = 2 ∨ b = 3)) → ¬ (a = 0 ∧ b = 7) → ¬ (45 ≤ a ∧ a ≤ 48) → ¬ (a = 44 ∧ (b ≤ 16 ∨ b = 26)) → ¬ (50 ≤ a ∧ a ≤ 52) → gI τ2 a b = gI σ a b := fun a b v1 v2 v3 v4 v5 v6 => by
      rw [u5 a b (by omega) (by omega), c4.1 a b (by omega) (by omega), fr1 a b (by omega) (by omega) v3]
    have finR : ∀ j, gR τ2 j = gR σ1 j := fun j => (u7 j).trans (c4.2.2 j)
    refine ⟨nI (wP W'), σ1, τ2, hE, by rw [c2, u1], ?_⟩
    have hE2 : TE τ2 td W' := hE1.f (fun k j x y => by rw [u5 k j (by omega) (by omega), c4.1 k j (by omega) (by omega)])
    refine ⟨?_, ?_, hK.c (fun a b x => fin a b (by omega) (by omega) (by omega) (by omega) (by omega) (by omega)), ⟨0, by decide, ?_, u3, fun i hi => absurd hi (Nat.not_lt_zero i)⟩, ⟨0, by decide, ?_, u4, fun i hi => absurd hi (Nat.not_lt_zero i)⟩, hSh.c (fun a b x => fin a b (by omega) (by omega) (by omega) (by omega) (by omega) (by omega)) (fun j => by rw [u6, c4.2.1 60 j (by decide), l1]), hSf.c (fun a b x => fin a b (by omega) (by omega) (by omega) (by omega) (by omega) (by omega)), hTr.c (fun a b x => fin a b (by omega) (by omega) (by omega) (by omega) (by omega) (by omega))⟩
    · rw [finR, finR, r0, r1]; omega
    · rw [finR, r0]; exact tw_to hE2 u2 d4
    · rw [u5 25 1 (by omega) (by omega), c4.1 25 1 (by omega) (by omega), ← hσ1, gI_o (by decide), gI_sR, gI_sR, gI_s]; rfl
    · rw [u5 0 7 (by omega) (by omega), c4.1 0 7 (by omega) (by omega), ← hσ1, gI_s]; rfl
  · -- a fault
    rw [if_neg hq] at hE
    have fr1 : ∀ a b, ¬ (td ≤ a ∧ a ≤ td + 7) → ¬ (a = 25 ∧ (b = 1 ∨ b = 2 ∨ b = 3)) → gI (sI σ6 25 1 0) a b = gI σ a b := fun a b x y => by
      rw [gI_sI, if_neg (by omega), fr6 a b x (by omega)]
    obtain ⟨q', σ6', τ', c1, c2, c3, c4, c5⟩ := both (sI σ6 25 1 0) (fun a b hab => fr1 a b (by omega) (by omega))
    have cc := Option.some.inj (c1.symm.trans b1)
    rw [show q' = q from congrArg Prod.fst cc, show σ6' = σ6 from congrArg Prod.snd cc] at c5
    rcases c5 with ⟨f, hf, e, d1, d2⟩ | ⟨e, -⟩
    rotate_left
    · rw [e] at hq
      exact absurd (by decide) hq
    have fin : ∀ a b, ¬ (td ≤ a ∧ a ≤ td + 7) → ¬ (a = 25 ∧ (b = 1 ∨ b = 2 ∨ b = 3)) → ¬ (a = 44 ∧ 8 ≤ b ∧ b ≤ 16) → ¬ (50 ≤ a ∧ a ≤ 52) → gI (sI τ' 44 8 0) a b = gI σ a b := fun a b v1 v2 v3 v4 => by
      rw [gI_sI, if_neg (by omega), c4.1 a b (by omega) (by omega), fr1 a b v1 v2]
    have finR : ∀ j, gR (sI τ' 44 8 0) j = gR σ j := fun j => (c4.2.2 j).trans (gR6 j)
    refine ⟨-100 - q, sI σ6 25 1 0, sI τ' 44 8 0, hE, ?_, ?_⟩
    · rw [c2]
      unfold fM_town_98
      rw [nm_def, gI_p (by decide), d1, if_pos rfl, gI_p (by decide), d2, e]
    · refine ⟨by rw [finR, finR, ho, htd]; exact h01, ?_, hK.c (fun a b x => fin a b (by omega) (by omega) (by omega) (by omega)), ⟨0, by decide, ?_, gI_s, fun i hi => absurd hi (Nat.not_lt_zero i)⟩, hRw.c (fun a b x => fin a b (by omega) (by omega) (by omega) (by omega)), hSh.c (fun a b x => fin a b (by omega) (by omega) (by omega) (by omega)) (fun j => by rw [gL_sI, c4.2.1 60 j (by decide)]; exact gL6 60 j), hSf.c (fun a b x => fin a b (by omega) (by omega) (by omega) (by omega)), hTr.c (fun a b x => fin a b (by omega) (by omega) (by omega) (by omega))⟩
      · rw [finR, ho]
        obtain ⟨W, y1, y2, y3⟩ := tw_of hI0.2.1
        rw [ho] at y1
        exact tw_to (y1.f (fun k j x y => fin k j (by omega) (by omega) (by omega) (by omega))) (y2.f (fun k j x => fin k j (by omega) (by omega) (by omega) (by omega))) y3
      · rw [gI_o (by decide), c4.1 25 1 (by omega) (by omega), gI_s]; rfl
