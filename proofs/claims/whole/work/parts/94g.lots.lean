/-! lot, lots -/
def sl : Nat → Nat → Nat → Nat → Nat
  | 0, _, i, _ => i
  | m + 1, s, i, k => if s.testBit i = true then (if k = 0 then i else sl m s (i + 1) (k - 1)) else sl m s (i + 1) k
theorem pc_rec : ∀ s, s < 128 → ∀ i, i < 7 → pc (s / 2 ^ i) = (if s.testBit i = true then 1 else 0) + pc (s / 2 ^ (i + 1)) := by decide +kernel
theorem pc_end : ∀ P, P < 8 → ∀ s, s < 2 ^ P → pc (s / 2 ^ P) = 0 := by decide +kernel
theorem pc_pos : ∀ s, s < 128 → s ≠ 0 → 0 < pc s := by decide +kernel
theorem draw_l {σ : St} {t s P : Nat} (hP : P ≤ 7) (hs : s < 2 ^ P) (he : gI σ t 0 = nI P) : ∀ n m i k, m + i = P → m < n → k < pc (s / 2 ^ i) → sl m s i k < P ∧ s.testBit (sl m s i k) = true ∧ fT_draw_40 n σ t (nI s) (nI k) (nI i) = some (nI (sl m s i k), σ)
  | 0, m, i, k, h1, h2, h3 => by omega
  | n + 1, 0, i, k, h1, h2, h3 => by
    have : i = P := by omega
    subst this
    rw [pc_end i (by omega) s hs] at h3
    omega
  | n + 1, m + 1, i, k, h1, h2, h3 => by
    have h7 := p27 hP
    have hr := pc_rec s (by omega) i (by omega)
    unfold fT_draw_40
    rw [he, if_neg (nI_ge (show i < P by omega) (by omega)), hold_nI (by omega) (by omega)]
    by_cases g : s.testBit i = true
    · rw [if_pos g] at hr
      rw [g, b2t, if_neg one_ne]
      by_cases hk : k = 0
      · have e : sl (m + 1) s i k = i := by unfold sl; rw [if_pos g, if_pos hk]
        rw [e, if_pos (by rw [hk]; rfl)]
        exact ⟨by omega, g, rfl⟩
      · have e : sl (m + 1) s i k = sl m s (i + 1) (k - 1) := by rw [sl, if_pos g, if_neg hk]
        have hpc := pc_le (s / 2 ^ i)
        rw [e, if_neg (show ¬ nI k = (0 : Int32) from fun z => hk ((nI_eq (b := 0) (by omega) (by omega)).mp z)), nm_def, nm_def, nI_1]
        have ek : nI k + (-1) = nI (k - 1) := by
          have := pk_m1 (k - 1)
          rwa [show k - 1 + 1 = k by omega] at this
        rw [ek]
        exact draw_l hP hs he n m (i + 1) (k - 1) (by omega) (by omega) (by omega)
    · rw [if_neg g] at hr
      have g' : s.testBit i = false := by simpa using g
      have e : sl (m + 1) s i k = sl m s (i + 1) k := by rw [sl, if_neg g]
      rw [e, g', b2f, if_pos rfl, nm_def, nI_1]
      exact draw_l hP hs he n m (i + 1) k (by omega) (by omega) (by omega)
theorem lot_l {σ : St} {s P : Nat} {c : Int32} (hP : P ≤ 7) (hs : s < 2 ^ P) : ∀ n m i k, m + i = P → m < n → k < pc (s / 2 ^ i) → fM_lot_54 n σ c (nI s) (nI k) (nI i) = fM_lot_82 σ c (nI (sl m s i k))
  | 0, m, i, k, h1, h2, h3 => by omega
  | n + 1, 0, i, k, h1, h2, h3 => by
    have : i = P := by omega
    subst this
    rw [pc_end i (by omega) s hs] at h3
    omega
  | n + 1, m + 1, i, k, h1, h2, h3 => by
    have h7 := p27 hP
    have hr := pc_rec s (by omega) i (by omega)
    have hpc := pc_le (s / 2 ^ i)
    have hd : s / 2 ^ i ≤ s := Nat.div_le_self _ _
    have eb : (nI s >>> (nI i &&& 31)) &&& (1 : Int32) = nI (s / 2 ^ i % 2) := by
      rw [pk_shrN (by omega) _ i (shr1 i (by omega)), pk_andN (by omega) 1 rfl, Nat.pow_one]
    have et : s.testBit i = decide (s / 2 ^ i % 2 = 1) := Nat.testBit_eq_decide_div_mod_eq
    unfold fM_lot_54
    simp only [nm_def]
    rw [has_nI (by omega) (by omega), eb, nI_1]
    by_cases g : s.testBit i = true
    · rw [if_pos g] at hr
      have g2 : s / 2 ^ i % 2 = 1 := by rw [et] at g; simpa using g
      rw [g, b2t, if_neg one_ne, g2]
      by_cases hk : k = 0
      · have e : sl (m + 1) s i k = i := by unfold sl; rw [if_pos g, if_pos hk]
        rw [e, if_pos (by rw [hk]; decide)]
      · have e : sl (m + 1) s i k = sl m s (i + 1) (k - 1) := by rw [sl, if_pos g, if_neg hk]
        have l0 : ¬ nI k ≤ 0 := nI_ge (a := 0) (by omega) (by omega)
        rw [e, if_neg l0, pk_sub (b := 1) (show 1 ≤ k by omega)]
        exact lot_l hP hs n m (i + 1) (k - 1) (by omega) (by omega) (by omega)
    · rw [if_neg g] at hr
      have g' : s.testBit i = false := by simpa using g
      have g2 : s / 2 ^ i % 2 = 0 := by rw [et] at g'; simp at g'; omega
      have e : sl (m + 1) s i k = sl m s (i + 1) k := by rw [sl, if_neg g]
      rw [e, g', b2f, if_pos rfl, g2, pk_sub (b := 0) (Nat.zero_le k)]
      exact lot_l hP hs n m (i + 1) k (by omega) (by omega) (by omega)
def nxz (W : Tw) : Int32 := wz W * (1103515245 : Int32) + (12345 : Int32)
def pl (W : Tw) (s : Nat) : Nat := (nxz W).toBitVec.toNat / 2 ^ 16 % pc s
/-- whom the lot names among s -/
def dr (W : Tw) (s : Nat) : Nat := sl (wP W) s 0 (pl W s)
theorem ush16 (x : Int32) : ush x (16 : Int32) = nI (x.toBitVec.toNat / 2 ^ 16) := by
  have h1 := pk_ushr x 16 16 rfl
  have h2 : x.toBitVec.toNat < 2 ^ 32 := x.toBitVec.isLt
  apply Int32.toBitVec_inj.mp
  apply BitVec.eq_of_toNat_eq
  rw [pk_tn (by omega)]
  exact h1
theorem pl_nI {W : Tw} {s : Nat} (hs : s < 128) (h0 : s ≠ 0) : ush (nxz W) 16 - ush (nxz W) 16 / nI (pc s) * nI (pc s) = nI (pl W s) := by
  have h2 : (nxz W).toBitVec.toNat < 2 ^ 32 := (nxz W).toBitVec.isLt
  have h3 := pc_pos s hs h0
  have h4 := pc_le s
  rw [ush16]
  exact pk_rem (by omega) h3 (by omega)
theorem TE_sZ {σ : St} {t : Nat} {z : Int32} {W : Tw} (hE : TE σ t W) : TE (sI σ t 2 z) t (sZ W z) := by
  obtain ⟨a1, a2, a3, a4, a5⟩ := hE
  refine ⟨by simp [gI_sI]; exact a1, by simp [gI_sI]; exact a2, by simp [gI_sI]; rfl, fun q hq => ?_, fun c hc => ?_⟩
  · simp [gI_sI]; exact a4 q hq
  · simp [gI_sI]; exact a5 c hc
theorem TM_sZ {σ : St} {z : Int32} {W : Tw} (hM : TM σ W) : TM (sI σ 44 6 z) (sZ W z) := by
  obtain ⟨a1, a2, a3, a4, a5⟩ := hM
  refine ⟨by simp [gI_sI]; exact a1, by simp [gI_sI]; exact a2, by simp [gI_sI]; rfl, fun q hq => ?_, fun c hc => ?_⟩
  · simp [gI_sI]; exact a4 q hq
  · simp [gI_sI]; exact a5 c hc
theorem dr_in {W : Tw} {s : Nat} (hP : wP W ≤ 7) (hs : s < 2 ^ wP W) (h0 : s ≠ 0) : dr W s < wP W ∧ s.testBit (dr W s) = true := by
  have h7 := p27 hP
  have h3 := pc_pos s (by omega) h0
  have := draw_l (σ := sI σ00 1 0 (nI (wP W))) (t := 1) hP hs gI_s 300 (wP W) 0 (pl W s) (by omega) (by omega) (by rw [Nat.pow_zero, Nat.div_one]; exact Nat.mod_lt _ h3)
  exact ⟨this.1, this.2.1⟩
theorem E_draw {σ : St} {t s : Nat} {W : Tw} (hE : TE σ t W) (hG : Gd W) (hs : s < 2 ^ wP W) (h0 : s ≠ 0) : fT_draw σ t (nI s) = some (nI (dr W s), sI σ t 2 (nxz W)) := by
  have g1 := hG.1.1
  have h7 := p27 g1
  have h3 := pc_pos s (by omega) h0
  have h4 := pc_le s
  have n0 : ¬ nI (pc s) = 0 := fun z => by
    have := (nI_eq (b := 0) (by omega) (by omega)).mp z
    omega
  unfold fT_draw
  simp (disch := omega) only [ib_t, ix_nI, nm_def, bd_some, bi_some, if_true, if_false, eq_self, nI_1, one_ne, bc_nI s (by omega), n0, not_false_eq_true, hE.2.2.1]
  rw [gI_s]
  show fT_draw_40 300 (sI σ t 2 (nxz W)) t (nI s) (ush (nxz W) 16 - ush (nxz W) 16 / nI (pc s) * nI (pc s)) (nI 0) = _
  rw [pl_nI (by omega) h0]
  exact (draw_l g1 hs (by rw [gI_p (by decide)]; exact hE.1) 300 (wP W) 0 (pl W s) (by omega) (by omega) (by rw [Nat.pow_zero, Nat.div_one]; exact Nat.mod_lt _ h3)).2.2
theorem Gd_hz {W : Tw} {z : Int32} {c p : Nat} (hG : Gd W) (hc : c < wC W) (hp : p < wP W) : Gd (hW (sZ W z) c p) := Gd_hW (W := sZ W z) hG hc hp
theorem E_hz {σ : St} {t c p : Nat} {z : Int32} {W : Tw} (ht : t = 1 ∨ t = 9) (hE : TE σ t W) (hG : Gd W) (hc : c < wC W) (hp : p < wP W) : ∃ τ, fT_hand (sI σ t 2 z) t (nI c) (nI p) = some (b2i (fu W c p), τ) ∧ TE τ t (hW (sZ W z) c p) ∧ PE σ τ := by
  obtain ⟨τ, r1, r2, r3⟩ := E_hand (W := sZ W z) ht (TE_sZ (z := z) hE) hG hc hp
  exact ⟨τ, r1, r2, PE.tr (PE.rf.s (by omega)) r3⟩
theorem M_hz {σ : St} {c p : Nat} {z : Int32} {W : Tw} (hM : TM σ W) (hG : Gd W) (hc : c < wC W) (hp : p < wP W) : ∃ τ, fM_gives (sI σ 44 6 z) (nI c) (nI p) = some (b2i (fu W c p), τ) ∧ TM τ (hW (sZ W z) c p) ∧ PM σ τ := by
  obtain ⟨τ, r1, r2, r3⟩ := M_gives (W := sZ W z) (TM_sZ (z := z) hM) hG hc hp
  exact ⟨τ, r1, r2, PM.tr (PM.rf.s (by omega)) r3⟩
/-- a town behind a lot over coin c -/
def lW (W : Tw) (c : Nat) : Tw := hW (sZ W (nxz W)) c (dr W (tkc W c))
theorem M_lot {σ : St} {c : Nat} {W : Tw} (hM : TM σ W) (hG : Gd W) (hc : c < wC W) (h0 : tkc W c ≠ 0) : ∃ τ, fM_lot σ (nI c) = some (if b2i (fu W c (dr W (tkc W c))) = 0 then nI (dr W (tkc W c)) else 10 + nI (dr W (tkc W c)), τ) ∧ TM τ (lW W c) ∧ PM σ τ := by
  have g1 := hG.1.1
  have g2 := hG.1.2
  have h7 := p27 g1
  have hs : tkc W c < 2 ^ wP W := tkc_lt
  have h3 := pc_pos (tkc W c) (by omega) h0
  have h4 := pc_le (tkc W c)
  have n0 : ¬ nI (pc (tkc W c)) = 0 := fun z => by
    have := (nI_eq (b := 0) (by omega) (by omega)).mp z
    omega
  have t0 : ¬ nI (tkc W c) = 0 := fun z => h0 ((z31 g1 hs).mp z)
  obtain ⟨τ, r1, r2, r3⟩ := M_hz (z := nxz W) hM hG hc (dr_in g1 hs h0).1
  refine ⟨τ, ?_, r2, r3⟩
  unfold fM_lot
  simp (disch := omega) only [ib_t, ix_nI, nm_def, bd_some, bi_some, if_true, if_false, eq_self, nI_1, one_ne, mc_i hM.2.1 g2 hc, M_mayAll hM hG hc, t0, hM.2.2.1, M_ones (show tkc W c < 128 by omega), n0, not_false_eq_true, gI_s]
  show fM_lot_54 300 (sI σ 44 6 (nxz W)) (nI c) (nI (tkc W c)) (ush (nxz W) 16 - ush (nxz W) 16 / nI (pc (tkc W c)) * nI (pc (tkc W c))) (nI 0) = _
  rw [pl_nI (by omega) h0, lot_l g1 hs 300 (wP W) 0 (pl W (tkc W c)) (by omega) (by omega) (by rw [Nat.pow_zero, Nat.div_one]; exact Nat.mod_lt _ h3)]
  unfold fM_lot_82
  show bi (fM_gives (sI σ 44 6 (nxz W)) (nI c) (nI (dr W (tkc W c)))) _ = _
  rw [r1]
  rfl
theorem Gd_lW {W : Tw} {c : Nat} (hG : Gd W) (hc : c < wC W) (h0 : tkc W c ≠ 0) : Gd (lW W c) := Gd_hz hG hc (dr_in hG.1.1 tkc_lt h0).1
theorem E_lot1 {σ : St} {t c : Nat} {W : Tw} (ht : t = 1 ∨ t = 9) (hE : TE σ t W) (hG : Gd W) (hc : c < wC W) (h0 : tkc W c ≠ 0) : ∃ τ, fT_hand (sI σ t 2 (nxz W)) t (nI c) (nI (dr W (tkc W c))) = some (b2i (fu W c (dr W (tkc W c))), τ) ∧ TE τ t (lW W c) ∧ PE σ τ := E_hz ht hE hG hc (dr_in hG.1.1 tkc_lt h0).1
theorem st_lot : St_lot Inv := by
  intro σ a1 hI
  have hb := hI.isT
  have ht := hI.t
  obtain ⟨W, hE, hM, hG⟩ := hI.w
  have g1 := hG.1.1
  have g2 := hG.1.2
  rcases (arg a1 (wC W) (by omega)).symm with ho | ⟨c, hc, rfl⟩
  · refine ⟨-1, σ, σ, ?_, ?_, hI⟩
    · unfold fE_lot
      rw [if_pos hb, hc_o hE.2.1 g2 ho, if_pos rfl]
    · unfold fM_lot
      rw [mc_o hM.2.1 g2 ho, if_pos rfl]
  by_cases h0 : tkc W c = 0
  · refine ⟨-3, σ, σ, ?_, ?_, hI⟩
    · unfold fE_lot
      simp (disch := omega) only [ib_t, ix_nI, nm_def, bd_some, bi_some, if_true, if_false, eq_self, nI_1, one_ne, hb, hc_i hE.2.1 g2 hc, E_takers hE hG hc, h0, show nI 0 = (0 : Int32) from rfl]
    · unfold fM_lot
      simp (disch := omega) only [ib_t, ix_nI, nm_def, bd_some, bi_some, if_true, if_false, eq_self, nI_1, one_ne, mc_i hM.2.1 g2 hc, M_mayAll hM hG hc, h0, show nI 0 = (0 : Int32) from rfl]
  have t0 : ¬ nI (tkc W c) = 0 := fun z => h0 ((z31 g1 tkc_lt).mp z)
  obtain ⟨τ1, r1, r2, r3⟩ := E_lot1 ht hE hG hc h0
  obtain ⟨τ2, s1, s2, s3⟩ := M_lot (hM.e r3) hG hc h0
  refine hI.fin r2 s2 (Gd_lW hG hc h0) r3 s3 ?_ s1
  unfold fE_lot
  simp (disch := omega) only [ib_t, ix_nI, nm_def, bd_some, bi_some, if_true, if_false, eq_self, nI_1, one_ne, hb, hc_i hE.2.1 g2 hc, E_takers hE hG hc, t0, E_draw hE hG (tkc_lt (W := W) (c := c)) h0, gR_sI, r1]
  rw [Int32.add_comm 10]
/-- the first coin that can be given, from i on; m of them are left -/
def ffr (W : Tw) : Nat → Nat → Option Nat
  | 0, _ => none
  | m + 1, i => if tkc W i = 0 then ffr W m (i + 1) else some i
theorem ffr_in {W : Tw} : ∀ m i c, m + i = wC W → ffr W m i = some c → c < wC W ∧ tkc W c ≠ 0
  | 0, i, c, h, e => by cases e
  | m + 1, i, c, h, e => by
    unfold ffr at e
    by_cases g : tkc W i = 0
    · rw [if_pos g] at e; exact ffr_in m (i + 1) c (by omega) e
    · rw [if_neg g] at e; cases e; exact ⟨by omega, g⟩
def oN (x : Option Nat) (d : Int32) : Int32 := match x with | none => d | some c => nI c
theorem E_ffr {σ : St} {W : Tw} (hb : isTb (gR σ 0) = true) (hE : TE σ (gR σ 0) W) (hG : Gd W) : ∀ n m i, m + i = wC W → m < n → fE_leastCoinToGive_2 n σ (nI i) = some (oN (ffr W m i) (-3))
  | 0, m, i, h1, h2 => by omega
  | n + 1, 0, i, h1, h2 => by
    have g2 := hG.1.2
    unfold fE_leastCoinToGive_2
    rw [if_pos hb, hE.2.1, if_pos (nI_le (by omega) (by omega))]
    rfl
  | n + 1, m + 1, i, h1, h2 => by
    have g1 := hG.1.1
    have g2 := hG.1.2
    unfold fE_leastCoinToGive_2
    rw [if_pos hb, hE.2.1, if_neg (nI_ge (by omega) (by omega)), if_pos hb, E_takers hE hG (by omega), bd_some, nm_def, nI_1]
    by_cases g : tkc W i = 0
    · rw [if_pos (by rw [g]; rfl), show ffr W (m + 1) i = ffr W m (i + 1) by rw [ffr, if_pos g]]
      exact E_ffr hb hE hG n m (i + 1) (by omega) (by omega)
    · rw [if_neg (fun z => g ((z31 g1 tkc_lt).mp z)), show ffr W (m + 1) i = some i by rw [ffr, if_neg g]]
      rfl
theorem M_ffr {σ : St} {W : Tw} (hM : TM σ W) (hG : Gd W) : ∀ n m i, m + i = wC W → m < n → fM_firstFree_2 n σ (nI i) = some (oN (ffr W m i) (-1))
  | 0, m, i, h1, h2 => by omega
  | n + 1, 0, i, h1, h2 => by
    have g2 := hG.1.2
    unfold fM_firstFree_2 fM_firstFree_24
    rw [hM.2.1, if_pos (nI_le (by omega) (by omega)), if_pos (nI_le (by omega) (by omega))]
    rfl
  | n + 1, m + 1, i, h1, h2 => by
    have g1 := hG.1.1
    have g2 := hG.1.2
    unfold fM_firstFree_2
    rw [hM.2.1, if_neg (nI_ge (by omega) (by omega)), M_mayAll hM hG (by omega), bd_some, nm_def, nI_1]
    by_cases g : tkc W i = 0
    · rw [if_pos (by rw [g]; rfl), show ffr W (m + 1) i = ffr W m (i + 1) by rw [ffr, if_pos g]]
      exact M_ffr hM hG n m (i + 1) (by omega) (by omega)
    · unfold fM_firstFree_24
      rw [if_neg (fun z => g ((z31 g1 tkc_lt).mp z)), show ffr W (m + 1) i = some i by rw [ffr, if_neg g], hM.2.1, if_neg (nI_ge (by omega) (by omega))]
      rfl
/-- k lots from W: how many were given, of i before, and the town then -/
def lts : Nat → Tw → Nat → Nat × Tw
  | 0, W, i => (i, W)
  | k + 1, W, i => match ffr W (wC W) 0 with
    | none => (i, W)
    | some c => lts k (lW W c) (i + 1)
theorem Gd_lts : ∀ k W i, Gd W → Gd (lts k W i).2
  | 0, W, i, h => h
  | k + 1, W, i, h => by
    unfold lts
    cases e : ffr W (wC W) 0 with
    | none => exact h
    | some c =>
      have := ffr_in (wC W) 0 c (by omega) e
      exact Gd_lts k _ _ (Gd_lW h this.1 this.2)
theorem E_lts {t m : Nat} (ht : t = 1 ∨ t = 9) (hm : m < 100) : ∀ n k W i σ, gR σ 0 = t → TE σ t W → Gd W → i + k = m → k < n → ∃ τ, fE_lots_14 n σ (nI m) (nI i) = some (nI (lts k W i).1, τ) ∧ TE τ t (lts k W i).2 ∧ PE σ τ
  | 0, k, W, i, σ, hr, hE, hG, h1, h2 => by omega
  | n + 1, 0, W, i, σ, hr, hE, hG, h1, h2 => by
    unfold fE_lots_14
    rw [if_pos (nI_le (by omega) (by omega))]
    exact ⟨σ, by rw [show m = i by omega]; rfl, hE, PE.rf⟩
  | n + 1, k + 1, W, i, σ, hr, hE, hG, h1, h2 => by
    have hb : isTb (gR σ 0) = true := by rw [hr]; rcases ht with e | e <;> rw [e] <;> rfl
    have g1 := hG.1.1
    have g2 := hG.1.2
    have hf := E_ffr hb (by rw [hr]; exact hE) hG 300 (wC W) 0 (by omega) (by omega)
    unfold fE_lots_14
    rw [if_neg (nI_ge (by omega) (by omega)), show fE_leastCoinToGive σ = some (oN (ffr W (wC W) 0) (-3)) from hf, bd_some]
    unfold lts
    cases e : ffr W (wC W) 0 with
    | none =>
      rw [if_neg (show ¬ (0 : Int32) ≤ oN none (-3) by decide)]
      exact ⟨σ, rfl, hE, PE.rf⟩
    | some c =>
      obtain ⟨hc, h0⟩ := ffr_in (wC W) 0 c (by omega) e
      obtain ⟨τ1, r1, r2, r3⟩ := E_lot1 ht hE hG hc h0
      have hr1 : gR τ1 0 = t := (r3.2.2 0).trans hr
      obtain ⟨τ, q1, q2, q3⟩ := E_lts ht hm n k (lW W c) (i + 1) τ1 hr1 r2 (Gd_lW hG hc h0) (by omega) (by omega)
      refine ⟨τ, ?_, q2, PE.tr r3 q3⟩
      rw [show oN (some c) (-3) = nI c from rfl, if_pos (nI_pos' (by omega)), if_pos hb, hr, E_takers hE hG hc, bd_some, if_pos (by rw [← hr]; exact hb), E_draw hE hG tkc_lt h0, bi_some, if_pos (by rw [← hr]; exact hb), r1, bi_some, nm_def, nI_1]
      exact q1
theorem M_lts {m : Nat} (hm : m < 100) : ∀ n k W i σ, TM σ W → Gd W → i + k = m → k < n → ∃ τ, fM_lots_27 n σ (nI m) (nI i) (if k = 0 then (-1) else oN (ffr W (wC W) 0) (-1)) = some (nI (lts k W i).1, τ) ∧ TM τ (lts k W i).2 ∧ PM σ τ
  | 0, k, W, i, σ, hM, hG, h1, h2 => by omega
  | n + 1, 0, W, i, σ, hM, hG, h1, h2 => by
    unfold fM_lots_27
    rw [if_pos rfl, if_pos (by decide)]
    exact ⟨σ, rfl, hM, PM.rf⟩
  | n + 1, k + 1, W, i, σ, hM, hG, h1, h2 => by
    have g1 := hG.1.1
    have g2 := hG.1.2
    rw [if_neg (show ¬ k + 1 = 0 by omega)]
    unfold fM_lots_27
    unfold lts
    cases e : ffr W (wC W) 0 with
    | none =>
      rw [if_pos (show oN none (-1) < 0 by decide)]
      exact ⟨σ, rfl, hM, PM.rf⟩
    | some c =>
      obtain ⟨hc, h0⟩ := ffr_in (wC W) 0 c (by omega) e
      obtain ⟨τ1, r1, r2, r3⟩ := M_lot hM hG hc h0
      have hGl := Gd_lW hG hc h0
      obtain ⟨τ, q1, q2, q3⟩ := M_lts hm n k (lW W c) (i + 1) τ1 r2 hGl (by omega) (by omega)
      refine ⟨τ, ?_, q2, PM.tr r3 q3⟩
      rw [show oN (some c) (-1) = nI c from rfl, if_neg (nI_pos (by omega)), r1, bi_some, nm_def, nI_1]
      by_cases hk : k = 0
      · rw [if_pos (nI_le (by omega) (by omega))]
        rw [if_pos hk] at q1
        exact q1
      · rw [if_neg (nI_ge (by omega) (by omega))]
        have hf := M_ffr r2 hGl 300 (wC (lW W c)) 0 (by omega) (by have := hGl.1.2; omega)
        rw [show fM_firstFree τ1 = some (oN (ffr (lW W c) (wC (lW W c)) 0) (-1)) from hf, bd_some]
        rw [if_neg hk] at q1
        exact q1
theorem in_20 (v : Int32) : (fM_in v 0 20 = 1 ∧ ∃ j, j < 21 ∧ v = nI j) ∨ fM_in v 0 20 = 0 := by
  rcases in_ex v 0 20 (by omega) (by omega) with ⟨h, j, -, h2, h3⟩ | h
  · exact Or.inl ⟨h, j, by omega, h3⟩
  · exact Or.inr h
theorem st_lots : St_lots Inv := by
  intro σ a1 hI
  have ht := hI.t
  obtain ⟨W, hE, hM, hG⟩ := hI.w
  have g2 := hG.1.2
  rcases (in_20 a1).symm with ho | ⟨hin, m, hm, rfl⟩
  · refine ⟨-1, σ, σ, ?_, ?_, hI⟩
    · unfold fE_lots
      exact rng_o (m := 20) (by omega) ho
    · unfold fM_lots
      rw [ho, if_pos rfl]
  obtain ⟨τ1, r1, r2, r3⟩ := E_lts ht (show m < 100 by omega) 300 m W 0 σ rfl hE hG (by omega) (by omega)
  have hM1 := hM.e r3
  obtain ⟨τ2, s1, s2, s3⟩ := M_lts (show m < 100 by omega) 300 m W 0 τ1 hM1 hG (by omega) (by omega)
  refine hI.fin (r := nI (lts m W 0).1) r2 s2 (Gd_lts m W 0 hG) r3 s3 ?_ ?_
  · unfold fE_lots
    exact (rng_i (m := 20) (by omega) (by omega)).trans r1
  · unfold fM_lots fM_lots_26
    rw [hin, if_neg one_ne]
    by_cases h : m = 0
    · rw [if_pos h] at s1
      rw [if_pos (show nI m ≤ 0 from nI_le (b := 0) (by omega) (by omega))]
      exact s1
    · rw [if_neg h] at s1
      rw [if_neg (show ¬ nI m ≤ 0 from nI_ge (a := 0) (by omega) (by omega)), show fM_firstFree τ1 = some (oN (ffr W (wC W) 0) (-1)) from M_ffr hM1 hG 300 (wC W) 0 (by omega) (by omega), bd_some]
      exact s1
