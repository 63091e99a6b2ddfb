/-! know -/
def ko (W : Tw) (a b : Nat) : Tw := (wP W, wC W, wz W, wrk W, wsi W, upd1 (upd1 (wkn W) a (wkn W a ||| 2 ^ b)) b (wkn W b ||| 2 ^ a), wkd W, wav W, who W, wha W)
theorem E_ko {σ : St} {t a b : Nat} {W : Tw} (hE : TE σ t W) (hG : Gd W) (ha : a < wP W) (hb : b < wP W) (hab : ¬ a = b) : fT_acquaint σ t (nI a) (nI b) 1 = some (sI (sI σ (t + 3) a (nI (wkn W a ||| 2 ^ b))) (t + 3) b (nI (wkn W b ||| 2 ^ a))) := by
  have g1 := hG.1.1
  have h7 := p27 g1
  have x1 := (hE.2.2.2.1 a ha).2.2
  have x2 := (hE.2.2.2.1 b hb).2.2
  have y1 := (hG.2.1 a ha).2.1
  have y2 := (hG.2.1 b hb).2.1
  have pa := p231 (show a < 31 by omega)
  have pb := p231 (show b < 31 by omega)
  unfold fT_acquaint fT_acquaint_34
  simp (disch := omega) only [ib_t, ix_nI, nm_def, bd_some, bi_some, if_true, if_false, eq_self, nI_1, one_ne, x1, x2, gI_p (show b ≠ a from fun z => hab z.symm), sh1 a (show a < 31 by omega), sh1 b (show b < 31 by omega), nI_or (show wkn W a < 2 ^ 31 by omega) pb, nI_or (show wkn W b < 2 ^ 31 by omega) pa]
theorem TE_ko {σ : St} {t a b : Nat} {W : Tw} (hE : TE σ t W) (hab : ¬ a = b) : TE (sI (sI σ (t + 3) a (nI (wkn W a ||| 2 ^ b))) (t + 3) b (nI (wkn W b ||| 2 ^ a))) t (ko W a b) := by
  obtain ⟨a1, a2, a3, a4, a5⟩ := hE
  refine ⟨by simp [gI_sI]; exact a1, by simp [gI_sI]; exact a2, by simp [gI_sI]; exact a3, fun p hp => ?_, fun c' hc => ?_⟩
  · show _ = nI (wrk W p) ∧ _ = wsi W p ∧ _ = nI (upd1 (upd1 (wkn W) a (wkn W a ||| 2 ^ b)) b (wkn W b ||| 2 ^ a) p)
    obtain ⟨v1, v2, v3⟩ := a4 p hp
    rw [gI_o (by omega), gI_o (by omega), gI_o (by omega), gI_o (by omega)]
    refine ⟨v1, v2, ?_⟩
    by_cases e : p = b
    · rw [e, gI_s, up_s]
    · by_cases e2 : p = a
      · rw [gI_p e, up_o e, e2, gI_s, up_s]
      · rw [gI_p e, up_o e, gI_p e2, up_o e2]; exact v3
  · simp [gI_sI]; exact a5 c' hc
theorem TF_ko {σ : St} {a b : Nat} {W : Tw} (hF : TF σ W) (hab : ¬ a = b) : TF (sI (sI σ 51 a (nI (wkn W a ||| 2 ^ b))) 51 b (nI (wkn W b ||| 2 ^ a))) (ko W a b) := by
  obtain ⟨a1, a2, a4, a5⟩ := hF
  refine ⟨by simp [gI_sI]; exact a1, by simp [gI_sI]; exact a2, fun p hp => ?_, fun c' hc => ?_⟩
  · show _ = nI (wrk W p) ∧ _ = nI (upd1 (upd1 (wkn W) a (wkn W a ||| 2 ^ b)) b (wkn W b ||| 2 ^ a) p)
    obtain ⟨v1, v3⟩ := a4 p hp
    rw [gI_o (by omega), gI_o (by omega)]
    refine ⟨v1, ?_⟩
    by_cases e : p = b
    · rw [e, gI_s, up_s]
    · by_cases e2 : p = a
      · rw [gI_p e, up_o e, e2, gI_s, up_s]
      · rw [gI_p e, up_o e, gI_p e2, up_o e2]; exact v3
  · simp [gI_sI]; exact a5 c' hc
theorem ko_bit {W : Tw} {a b p q : Nat} (hab : ¬ a = b) : (wkn (ko W a b) p).testBit q = ((wkn W p).testBit q || ((decide (p = a) && decide (q = b)) || (decide (p = b) && decide (q = a)))) := by
  show (upd1 (upd1 (wkn W) a (wkn W a ||| 2 ^ b)) b (wkn W b ||| 2 ^ a) p).testBit q = _
  by_cases e : p = b
  · have e2 : ¬ p = a := fun z => hab (z.symm.trans e)
    subst e
    rw [up_s, Nat.testBit_or, Nat.testBit_two_pow]
    simp [e2, eq_comm]
  · by_cases e2 : p = a
    · subst e2
      rw [up_o e, up_s, Nat.testBit_or, Nat.testBit_two_pow]
      simp [e, eq_comm]
    · rw [up_o e, up_o e2]; simp [e, e2]
theorem Gd_ko {W : Tw} {a b : Nat} (hG : Gd W) (ha : a < wP W) (hb : b < wP W) (hab : ¬ a = b) : Gd (ko W a b) := by
  obtain ⟨g12, g3, g4, g5⟩ := id hG
  refine ⟨g12, fun p hp => ⟨(g3 p hp).1, ?_, ?_⟩, fun p q hp hq => ?_, g5⟩
  · show upd1 (upd1 (wkn W) a (wkn W a ||| 2 ^ b)) b (wkn W b ||| 2 ^ a) p < 2 ^ wP W
    by_cases e : p = b
    · rw [e, up_s]; exact Nat.or_lt_two_pow (g3 b hb).2.1 (Nat.pow_lt_pow_right (by decide) ha)
    · by_cases e2 : p = a
      · rw [up_o e, e2, up_s]; exact Nat.or_lt_two_pow (g3 a ha).2.1 (Nat.pow_lt_pow_right (by decide) hb)
      · rw [up_o e, up_o e2]; exact (g3 p hp).2.1
  · rw [ko_bit hab, (g3 p hp).2.2]
    by_cases e : p = a
    · have : ¬ p = b := fun z => hab (e.symm.trans z)
      simp [e, hab]
    · simp [e]
  · rw [ko_bit hab, ko_bit hab, g4 p q hp hq]
    congr 1
    by_cases e : p = a <;> by_cases e2 : p = b <;> by_cases e3 : q = a <;> by_cases e4 : q = b <;> simp [e, e2, e3, e4]
theorem s_know {t : Nat → Nat} {n td f : Nat} {σ τ : St} {W : Tw} (htd : td = 1 ∨ td = 9) (h : Sy1 t n σ τ f) (hfn : f < n) (hE : TE σ td W) (hF : TF τ W) (hG : Gd W) (hsi : ∀ p, wsi W p = 0) : ∃ q σ' τ', fX_readKnow σ td = some (q, σ') ∧ fM_wantKnow τ = some τ' ∧ Rs t n td σ τ W f q σ' τ' := by
  have g1 := hG.1.1
  have h7 := p27 g1
  have bd := (tg_b (t := t) h.2.2.1).2.2 hfn
  obtain ⟨τ1, m1, s1, f1⟩ := h.ad
  have hF1 := hF.g f1.g
  unfold fX_readKnow fM_wantKnow
  rw [m1, bd_some, hE.1, hF1.1]
  have hm := nI_m1 (n := wP W) (by omega)
  rcases s1.nu (l0 := 0) (by decide) (nI (wP W) - 1) with ⟨p, σ2, τ2, e2, x1, x2, ⟨-, x3, -⟩, x4, x5, x6, x7, -, -⟩ | ⟨w, σ2, τ2, x1, x2, x3, x4, x5, -⟩
  rotate_left
  · rw [show fX_readNumber σ 0 (nI (wP W) - 1) = _ from x1, show fM_wantNumber τ1 0 (nI (wP W) - 1) = _ from x2, bi_some, bi_some, if_neg m1_neg, nm_def, x3.1, if_pos rfl, nu0 gI_s, bi_some, en0 gI_s, bd_some, gI_s, if_pos rfl]
    exact ⟨0, σ2, _, rfl, rfl, x4.t, ((((f1.g.tr x5).n).s (by omega)).s (by omega)).s (by omega), Or.inr ⟨rfl, x3.z.z.z⟩⟩
  have hp : p < wP W := by omega
  have hE2 := hE.fs htd x6
  have hF2 := hF1.g x7
  rw [show fX_readNumber σ 0 (nI (wP W) - 1) = _ from x1, show fM_wantNumber τ1 0 (nI (wP W) - 1) = _ from x2, bi_some, bi_some, if_pos (nI_pos' (by omega)), hE2.1, nm_def, x4.2.2.2.2.2, if_neg one_ne]
  by_cases hq : gI τ2 44 9 = 2 ∧ gI τ2 44 13 = nI p
  · rw [if_pos hq.1, if_pos hq.2, nu0 gI_s, bi_some, en0 gI_s, bd_some, gI_s, if_pos rfl]
    rcases x4.nu (l0 := 0) (by decide) (nI (wP W) - 1) with ⟨v, σ3, τ3, e3, y1, -, ⟨-, -, yv⟩, -, -, y6, -, y8, y9⟩ | ⟨w, σ3, τ3, -, -, -, -, -, y6⟩
    · have ev : v = p := by
        have := y8.2.symm.trans hq.2
        exact (nI_eq (by omega) (by omega)).mp this
      rw [show fX_readNumber σ2 0 (nI (wP W) - 1) = _ from y1, bi_some, ev, if_neg (nI_pos (by omega)), if_pos rfl]
      have hfl : Fl σ3 (sI τ2 44 14 0) := ⟨gI_s, tf t n e2, by have := (tf_b (t := t) x4.2.2.1).2; have := x4.1.2.1; omega, y9, by rw [gI_p (by decide)]; exact x4.2.2.2.2.1.2.1⟩
      exact ⟨0, σ3, _, rfl, rfl, (x6.tr y6).t, ((((f1.g.tr x7).n).s (by omega)).s (by omega)).s (by omega), Or.inr ⟨rfl, hfl.z.z⟩⟩
    · exact absurd hq (y6 p (by omega) (by omega) (by omega))
  have e1 : (if gI τ2 44 9 = 2 then (if gI τ2 44 13 = nI p then (0 : Int32) else 1) else 1) = 1 := by
    by_cases z : gI τ2 44 9 = 2
    · rw [if_pos z, if_neg (fun y => hq ⟨z, y⟩)]
    · rw [if_neg z]
  have x4' := x4.g1
  have hF2' : TF (sI τ2 44 14 1) W := hF2.g (FG.rf.s (by omega))
  rw [e1, hF2'.1]
  rcases x4'.nu (l0 := 0) (by decide) (nI (wP W) - 1) with ⟨q, σ3, τ3, e3, y1, y2, ⟨-, y3, -⟩, y4, y5, y6, y7, y8, -⟩ | ⟨w, σ3, τ3, y1, y2, y3, y4, y5, -⟩
  rotate_left
  · rw [show fX_readNumber σ2 0 (nI (wP W) - 1) = _ from y1, show fM_wantNumber (sI τ2 44 14 1) 0 (nI (wP W) - 1) = _ from y2, bi_some, bi_some, if_pos (by decide), en0 y3.1, bd_some, gI_s, if_pos rfl]
    exact ⟨0, σ3, _, rfl, rfl, (x6.tr y4).t, ((((f1.g.tr x7).n).s (by omega)).tr y5.n).s (by omega), Or.inr ⟨rfl, y3.z⟩⟩
  have hq7 : q < wP W := by omega
  have hpq : ¬ p = q := by
    intro z
    rw [gI_p (by decide), gI_p (by decide), ← z] at y8
    exact hq y8
  rw [show fX_readNumber σ2 0 (nI (wP W) - 1) = _ from y1, show fM_wantNumber (sI τ2 44 14 1) 0 (nI (wP W) - 1) = _ from y2, bi_some, bi_some, if_neg (nI_pos (by omega)), if_neg (fun z => hpq ((nI_eq (by omega) (by omega)).mp z).symm)]
  have hE3 := hE2.fs htd y6
  have hF3 := hF2'.g y7
  rw [E_ko hE3 hG hp hq7 hpq, bd_some]
  have hE4 := TE_ko hE3 hpq
  have s4 : Sy t n (sI (sI σ3 (td + 3) p (nI (wkn W p ||| 2 ^ q))) (td + 3) q (nI (wkn W q ||| 2 ^ p))) τ3 e3 := y4.x (fun a b hab => by rw [gI_o (by omega), gI_o (by omega)])
  have ft : FT td σ (sI (sI σ3 (td + 3) p (nI (wkn W p ||| 2 ^ q))) (td + 3) q (nI (wkn W q ||| 2 ^ p))) := ((x6.tr y6).t.s (by omega)).s (by omega)
  generalize sI (sI σ3 (td + 3) p (nI (wkn W p ||| 2 ^ q))) (td + 3) q (nI (wkn W q ||| 2 ^ p)) = σ4 at *
  have fn : FN τ τ3 := (((f1.g.tr x7).n).s (by omega)).tr y7.n
  rcases s4.en with ⟨σ5, τ5, e5, z1, z2, z3, z4, z5, z6⟩ | ⟨σ5, τ5, z1, z2, z3, z5, z6⟩
  · have hF5 := hF3.g z6
    have v1 := (hG.2.1 p hp).2.1
    have v2 := (hG.2.1 q hq7).2.1
    have pa := p231 (show p < 31 by omega)
    have pb := p231 (show q < 31 by omega)
    rw [z1, z2, bi_some, bd_some, if_pos (b01_1), z3.2.2.2.2.2, if_neg one_ne, if_pos (ib_nI (by omega) (by omega)), if_pos (ib_nI (by omega) (by omega)), nm_def, if_pos (ib_nI (by omega) (by omega)), if_pos (ib_nI (by omega) (by omega)), nm_def, ix_nI (by omega), ix_nI (by omega), gI_p (fun z => hpq z.symm), (hF5.2.2.1 p hp).2, (hF5.2.2.1 q hq7).2, sh1 p (by omega), sh1 q (by omega), nI_or (by omega) pb, nI_or (by omega) pa]
    refine ⟨1, σ5, _, rfl, rfl, ft.tr z5.t, ((fn.tr z6.n).s (by omega)).s (by omega), Or.inl ⟨rfl, ko W p q, e5, by omega, ?_, hE4.fs htd z5, TF_ko hF5 hpq, Gd_ko hG hp hq7 hpq, rfl, hsi⟩⟩
    exact z3.y (fun a b hab => by rw [gI_o (by omega), gI_o (by omega)]) rfl
  · rw [z1, z2, bi_some, bd_some, if_pos (b01_0), z3.1, if_pos rfl]
    exact ⟨0, σ5, τ5, rfl, rfl, ft.tr z5.t, fn.tr z6.n, Or.inr ⟨rfl, z3⟩⟩
