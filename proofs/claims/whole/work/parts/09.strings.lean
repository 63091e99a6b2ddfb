/-! the texts of the class, by the JDK's own code -/
section TX
variable {E : Ev} {M : MI} {F : VF} {pc n : Nat} {ls : List (Nat × Value)} {st : List Value} {σ σ2 : St} {M' : MI} {stk : List Value} {idx : Nat} {r : Int32}
theorem isSb_i {t : Nat} (h : isSb t = true) : t - 100 < 12 ∧ 100 + (t - 100) = t ∧ 150 + (t - 100) = t + 50 := by
  simp only [isSb, Bool.and_eq_true, decide_eq_true_eq] at h
  omega
theorem V.callT (k : Nat) (As : List Value) (hd : decode M.1 pc = .ok (.invokevirtual idx, 3)) (hC : Ct M' E (.ref k :: As) σ (some (.int r), σ2)) (hw : Cond.methodLink M.2.2.2.1.cls idx M'.2.2.2.1 ∈ GW) (hy : MYV M') (hm : MN M' As.length) (hr : RM M M') (hs : isSb k = true ∧ M'.2.2.2.1.cls = "java/lang/String") (hst : stk = As.reverse ++ .ref k :: st) (hcat : (st.map fun v => v.category).sum ≤ 8) (hf : F.2.1 ≤ M.2.2.2.2.cells ∧ F.2.2.1 ≤ M.2.2.2.2.slots) (hn : pc + 3 = n) (kk : V E M F n ls (.int r :: st) σ2) : V E M F pc ls stk σ := by
  subst hn; subst hst; intro p l e s m args below meth c C H locs la hP hS hl
  obtain ⟨y1, y2, y3, y4⟩ := hy
  obtain ⟨r1, r2, r3, r4⟩ := hr
  have hts := C.2.2.2.2.2.2.1
  obtain ⟨i1, i2, i3⟩ := isSb_i hs.1
  have hrc := vk_recv C.2.2.2.2.2.2.2.1.2.2.2.2.2.1 i1 hS
  rw [i2] at hrc
  have cw : CallW M.2.2.2.2 s args M.2.2.2.1.cls M'.2.2.2.1.cls idx M'.2.2.2.1 M'.1 M'.2.1 M'.2.2.1 (Cond.code M'.2.2.2.1 M'.1 M'.2.1 M'.2.2.1 :: GW) M'.2.2.2.2 0 0 As.length :=
    ⟨callB_of As.length hts (gw_code y4) rfl r1 r2 (hts _ y3) (hts _ hw) hm ⟨r3, r4⟩, hts _ y1, hts _ y2⟩
  refine call_on (z := (some (.int r), σ2)) (rest := st.map (cv E)) (va_runV (As := As.map (cv E)) (b := E.1 k) ⟨C.1, C.2.1, C.2.2.1, C.2.2.2.2.2.1, hts⟩ (hC l) cw ⟨pw_blind, by rw [hs.2]; exact hrc, fun U hU hW => ⟨rfl, by rw [hU]; exact hP, C.2.2.2.2.2.2.2.1.go hW (by rw [hU]; exact hS)⟩⟩ rfl (by simp) hl.1 ?_ (lv_room (by rw [cat_cv]; exact hcat)) hd hf) hS (fun H1 locs1 hP1 hS1 => ?_)
  · show (As.reverse ++ .ref k :: st).map (cv E) = _
    rw [List.map_append, List.map_reverse]
    rfl
  · exact kk p l e s m args below meth c C H1 locs1 la hP1 hS1 hl
theorem V.sval (t : Nat) {ix : Nat} (hs : isSb t = true) (hd : decode M.1 pc = .ok (.getfield ix, 3)) (hw : Cond.fieldLink M.2.2.2.1.cls ix "java/lang/String" "value" "[B" ∈ GW) (hn : pc + 3 = n) (kk : V E M F n ls (.ref (t + 50) :: st) σ) : V E M F pc ls (.ref t :: st) σ := by
  subst hn; intro p l e s m args below meth c C H locs la hP hS hl
  obtain ⟨i1, i2, i3⟩ := isSb_i hs
  have h := (C.2.2.2.2.2.2.2.1.2.2.2.2.2.1.1 (t - 100) i1).2.2.1
  dsimp only at h
  rw [i2, i3] at h
  exact vk_getf C.1 C.2.1 h hS C.2.2.2.2.2.1 (C.2.2.2.2.2.2.1 _ hw) (fun x h => h) hd (kk p l e s m args below meth c C H locs la hP hS hl)
theorem V.scod (t : Nat) {ix : Nat} (hs : isSb t = true) (hd : decode M.1 pc = .ok (.getfield ix, 3)) (hw : Cond.fieldLink M.2.2.2.1.cls ix "java/lang/String" "coder" "B" ∈ GW) (hn : pc + 3 = n) (kk : V E M F n ls (.int 0 :: st) σ) : V E M F pc ls (.ref t :: st) σ := by
  subst hn; intro p l e s m args below meth c C H locs la hP hS hl
  obtain ⟨i1, i2, i3⟩ := isSb_i hs
  have h := (C.2.2.2.2.2.2.2.1.2.2.2.2.2.1.1 (t - 100) i1).2.1
  dsimp only at h
  rw [i2] at h
  exact vk_getf C.1 C.2.1 h hS C.2.2.2.2.2.1 (C.2.2.2.2.2.2.1 _ hw) (fun x h => h) hd (kk p l e s m args below meth c C H locs la hP hS hl)
theorem V.slen (t : Nat) (hs : isSb t = true) (hd : decode M.1 pc = .ok (.arraylength, 1)) (hn : pc + 1 = n) (kk : V E M F n ls (.int (nI (tLN.getD (t - 100) 0)) :: st) σ) : V E M F pc ls (.ref (t + 50) :: st) σ := by
  subst hn; intro p l e s m args below meth c C H locs la hP hS hl
  obtain ⟨i1, i2, i3⟩ := isSb_i hs
  have h := (C.2.2.2.2.2.2.2.1.2.2.2.2.2.1.1 (t - 100) i1).2.2.2
  dsimp only at h
  rw [i3] at h
  exact va_tlen C.1 C.2.1 h hS rfl hd (kk p l e s m args below meth c C H locs la hP hS hl)
theorem V.sbald (t : Nat) {i : Int32} (hs : isSb t = true) (hi : ib i (tLN.getD (t - 100) 0) = true) (hd : decode M.1 pc = .ok (.baload, 1)) (hn : pc + 1 = n) (kk : V E M F n ls (.int ((tBY.getD (t - 100) []).getD (ix i) 0) :: st) σ) : V E M F pc ls (.int i :: .ref (t + 50) :: st) σ := by
  subst hn; intro p l e s m args below meth c C H locs la hP hS hl
  obtain ⟨i1, i2, i3⟩ := isSb_i hs
  have h := (C.2.2.2.2.2.2.2.1.2.2.2.2.2.1.1 (t - 100) i1).2.2.2
  dsimp only at h
  rw [i3] at h
  exact va_tb C.1 C.2.1 h hS (ib_in.mp hi) rfl hd (kk p l e s m args below meth c C H locs la hP hS hl)
theorem V.getsF {ix : Nat} (hd : decode M.1 pc = .ok (.getstatic ix, 3)) (hw : Cond.fieldLink M.2.2.2.1.cls ix "jdk/internal/util/Preconditions" "SIOOBE_FORMATTER" "Ljava/util/function/BiFunction;" ∈ GW) (hn : pc + 3 = n) (kk : ∀ v : Value, (v = .null ∨ v = .ref 302) → V E M F n ls (v :: st) σ) : V E M F pc ls st σ := by
  subst hn; intro p l e s m args below meth c C H locs la hP hS hl
  rcases C.2.2.2.2.2.2.2.1.2.2.2.2.2.2.2.2.2.2 with h | h
  · exact va_gets C.1 C.2.1 h hS C.2.2.2.2.2.1 (C.2.2.2.2.2.2.1 _ hw) (fun x h => h) hd (kk .null (Or.inl rfl) p l e s m args below meth c C H locs la hP hS hl)
  · exact va_gets C.1 C.2.1 h hS C.2.2.2.2.2.1 (C.2.2.2.2.2.2.1 _ hw) (fun x h => h) hd (kk (.ref 302) (Or.inr rfl) p l e s m args below meth c C H locs la hP hS hl)
theorem kJP_checkIndex {i k : Int32} {v : Value} (hv : v = .null ∨ v = .ref 302) (h0 : ¬ i < 0) (h1 : i < k) : Ct mJP_checkIndex E [.int i, .int k, v] σ (some (.int i), σ) := by
  have key : V E mJP_checkIndex (FM E (some (.int i), σ)) 0 [(0, .int i), (1, .int k)] [] σ := by
    refine V.iloadn 0 dJP_checkIndex_0 rfl rfl ?_
    refine V.iflt 9 dJP_checkIndex_1 rfl rfl (fun g => absurd g h0) (fun _ => ?_)
    refine V.iloadn 0 dJP_checkIndex_4 rfl rfl ?_
    refine V.iloadn 1 dJP_checkIndex_5 rfl rfl ?_
    refine V.icmplt 16 dJP_checkIndex_6 rfl rfl (fun _ => ?_) (fun g => absurd h1 g)
    refine V.iloadn 0 dJP_checkIndex_16 rfl rfl ?_
    exact V.iret dJP_checkIndex_17 rfl rfl
  rcases hv with rfl | rfl
  · exact Ct.of (by decide) (Nat.le_of_ble_eq_true rfl) (V.sub [0, 1] rfl key)
  · exact Ct.of (by decide) (Nat.le_of_ble_eq_true rfl) (V.sub [0, 1] rfl key)
theorem kJS_checkIndex {i k : Int32} (h0 : ¬ i < 0) (h1 : i < k) : Ct mJS_checkIndex E [.int i, .int k] σ (none, σ) := by
  refine Ct.of (by decide) (Nat.le_of_ble_eq_true rfl) ?_
  refine V.iloadn 0 dJS_checkIndex_0 rfl rfl ?_
  refine V.iloadn 1 dJS_checkIndex_1 rfl rfl ?_
  refine V.getsF dJS_checkIndex_2 (gw 337 (by decide +kernel) (by decide +kernel)) rfl (fun v hv => ?_)
  refine V.callsi [.int i, .int k, v] dJS_checkIndex_5 (kJP_checkIndex hv h0 h1) mlJS_1059 myJP_checkIndex mnJP_checkIndex ⟨rfl, rfl, by decide, by decide⟩ rfl (Nat.le_of_ble_eq_true rfl) ⟨Nat.zero_le _, Nat.zero_le _⟩ rfl ?_
  refine V.pop dJS_checkIndex_8 rfl rfl ?_
  exact V.vret dJS_checkIndex_9 rfl rfl
theorem V.calls0 (As : List Value) (hd : decode M.1 pc = .ok (.invokestatic idx, 3)) (hC : Ct M' E As σ (none, σ2)) (hw : Cond.methodLink M.2.2.2.1.cls idx M'.2.2.2.1 ∈ GW) (hy : MYS M') (hm : MN M' As.length) (hr : RM M M') (hst : stk = As.reverse ++ st) (hcat : (st.map fun v => v.category).sum ≤ 8) (hf : F.2.1 ≤ M.2.2.2.2.cells ∧ F.2.2.1 ≤ M.2.2.2.2.slots) (hn : pc + 3 = n) (kk : V E M F n ls st σ2) : V E M F pc ls stk σ :=
  V.calls As (v := none) hd hC rfl hw hy hm hr hst hcat hf hn kk
/-- the text's length, the sign at a place -/
def fJS_length (t : Nat) : Int32 := nI (tLN.getD (t - 100) 0)
def fJS_charAt (t : Nat) (i : Int32) : Option Int32 := if ib i (tLN.getD (t - 100) 0) = true then some ((tBY.getD (t - 100) []).getD (ix i) 0) else none
theorem tx_ok : ∀ i, i < 12 → ∀ j, j < tLN.getD i 0 → (((tBY.getD i []).getD j 0 &&& 255).toUInt32 % 65536).toInt32 = (tBY.getD i []).getD j 0 ∧ narrow .char (.int ((tBY.getD i []).getD j 0)) = .int ((tBY.getD i []).getD j 0) := by decide +kernel
theorem tx_len : ∀ i, i < 12 → tLN.getD i 0 < 8 := by decide +kernel
theorem ib_lt {i : Int32} {n : Nat} (h : ib i n = true) (hn : n < 2 ^ 31) : ix i < n ∧ ¬ i < 0 ∧ i < nI n ∧ i = nI (ix i) := by
  obtain ⟨j, hj, rfl⟩ := vp_in_of (ib_in.mp h) hn
  have e : ix (nI j) = j := nI_clamp (by omega)
  rw [e]
  exact ⟨hj, nI_pos (by omega), nI_lt hj hn, rfl⟩
theorem kJL_charAt {t : Nat} {i : Int32} (hs : isSb t = true) (hi : ib i (tLN.getD (t - 100) 0) = true) : Ct mJL_charAt E [.ref (t + 50), .int i] σ (some (.int ((tBY.getD (t - 100) []).getD (ix i) 0)), σ) := by
  obtain ⟨i1, i2, i3⟩ := isSb_i hs
  have hL := tx_len (t - 100) i1
  obtain ⟨g1, g2, g3, -⟩ := ib_lt hi (by omega)
  obtain ⟨e1, e2⟩ := tx_ok (t - 100) i1 (ix i) g1
  refine Ct.of (by decide) (Nat.le_of_ble_eq_true rfl) ?_
  refine V.iloadn 1 dJL_charAt_0 rfl rfl ?_
  refine V.aloadn 0 dJL_charAt_1 rfl rfl ?_
  refine V.slen t hs dJL_charAt_2 rfl ?_
  refine V.calls0 [.int i, .int (nI (tLN.getD (t - 100) 0))] dJL_charAt_3 (kJS_checkIndex g2 g3) mlJL_9 myJS_checkIndex mnJS_checkIndex ⟨rfl, rfl, by decide, by decide⟩ rfl (Nat.le_of_ble_eq_true rfl) ⟨Nat.zero_le _, Nat.zero_le _⟩ rfl ?_
  refine V.aloadn 0 dJL_charAt_6 rfl rfl ?_
  refine V.iloadn 1 dJL_charAt_7 rfl rfl ?_
  refine V.sbald t hs hi dJL_charAt_8 rfl ?_
  refine V.sipush 255 dJL_charAt_9 (by decide) rfl ?_
  refine V.iand dJL_charAt_12 rfl ?_
  refine V.i2c dJL_charAt_13 rfl ?_
  rw [e1]
  exact V.zret .char dJL_charAt_14 rfl e2 rfl
theorem kJS_isLatin1 {t : Nat} (hs : isSb t = true) : Ct mJS_isLatin1 E [.ref t] σ (some (.int 1), σ) := by
  refine Ct.of (by decide) (Nat.le_of_ble_eq_true rfl) ?_
  refine V.getsC dJS_isLatin1_0 (gw 321 (by decide +kernel) (by decide +kernel)) rfl ?_
  refine V.ifeq 17 dJS_isLatin1_3 rfl rfl (fun g => absurd g (by decide)) (fun _ => ?_)
  refine V.aloadn 0 dJS_isLatin1_6 rfl rfl ?_
  refine V.scod t hs dJS_isLatin1_7 (gw 1325 (by decide +kernel) (by decide +kernel)) rfl ?_
  refine V.ifne 17 dJS_isLatin1_10 rfl rfl (fun g => absurd rfl g) (fun _ => ?_)
  refine V.iconst 1 dJS_isLatin1_13 (by decide) rfl ?_
  refine V.goto 18 dJS_isLatin1_14 rfl ?_
  exact V.zret .boolean dJS_isLatin1_18 rfl rfl rfl
theorem kJS_coder {t : Nat} (hs : isSb t = true) : Ct mJS_coder E [.ref t] σ (some (.int 0), σ) := by
  refine Ct.of (by decide) (Nat.le_of_ble_eq_true rfl) ?_
  refine V.getsC dJS_coder_0 (gw 321 (by decide +kernel) (by decide +kernel)) rfl ?_
  refine V.ifeq 13 dJS_coder_3 rfl rfl (fun g => absurd g (by decide)) (fun _ => ?_)
  refine V.aloadn 0 dJS_coder_6 rfl rfl ?_
  refine V.scod t hs dJS_coder_7 (gw 1325 (by decide +kernel) (by decide +kernel)) rfl ?_
  refine V.goto 14 dJS_coder_10 rfl ?_
  exact V.zret .byte dJS_coder_14 rfl rfl rfl
theorem kJS_length {t : Nat} (hs : isSb t = true) : Ct mJS_length E [.ref t] σ (some (.int (fJS_length t)), σ) := by
  refine Ct.of (by decide) (Nat.le_of_ble_eq_true rfl) ?_
  refine V.aloadn 0 dJS_length_0 rfl rfl ?_
  refine V.sval t hs dJS_length_1 (gw 1324 (by decide +kernel) (by decide +kernel)) rfl ?_
  refine V.slen t hs dJS_length_4 rfl ?_
  refine V.aloadn 0 dJS_length_5 rfl rfl ?_
  refine V.callT t [] dJS_length_6 (kJS_coder hs) mlJS_335 myJS_coder mnJS_coder ⟨rfl, rfl, by decide, by decide⟩ ⟨hs, rfl⟩ rfl (Nat.le_of_ble_eq_true rfl) ⟨Nat.zero_le _, Nat.zero_le _⟩ rfl ?_
  refine V.ishr dJS_length_9 rfl ?_
  rw [show (0 : Int32) &&& 31 = 0 from rfl, show nI (tLN.getD (t - 100) 0) >>> (0 : Int32) = nI (tLN.getD (t - 100) 0) from sb_shr0 _]
  exact V.iret dJS_length_10 rfl rfl
theorem kJS_charAt {t : Nat} {i z : Int32} (hs : isSb t = true) (h : fJS_charAt t i = some z) : Ct mJS_charAt E [.ref t, .int i] σ (some (.int z), σ) := by
  obtain ⟨hi, h⟩ := ob h
  cases h
  obtain ⟨i1, i2, i3⟩ := isSb_i hs
  have hL := tx_len (t - 100) i1
  obtain ⟨g1, g2, g3, -⟩ := ib_lt hi (by omega)
  obtain ⟨e1, e2⟩ := tx_ok (t - 100) i1 (ix i) g1
  refine Ct.of (by decide) (Nat.le_of_ble_eq_true rfl) ?_
  refine V.aloadn 0 dJS_charAt_0 rfl rfl ?_
  refine V.callT t [] dJS_charAt_1 (kJS_isLatin1 hs) mlJS_492 myJS_isLatin1 mnJS_isLatin1 ⟨rfl, rfl, by decide, by decide⟩ ⟨hs, rfl⟩ rfl (Nat.le_of_ble_eq_true rfl) ⟨Nat.zero_le _, Nat.zero_le _⟩ rfl ?_
  refine V.ifeq 16 dJS_charAt_4 rfl rfl (fun g => absurd g (by decide)) (fun _ => ?_)
  refine V.aloadn 0 dJS_charAt_7 rfl rfl ?_
  refine V.sval t hs dJS_charAt_8 (gw 1324 (by decide +kernel) (by decide +kernel)) rfl ?_
  refine V.iloadn 1 dJS_charAt_11 rfl rfl ?_
  refine V.callsi [.ref (t + 50), .int i] dJS_charAt_12 (kJL_charAt hs hi) mlJS_495 myJL_charAt mnJL_charAt ⟨rfl, rfl, by decide, by decide⟩ rfl (Nat.le_of_ble_eq_true rfl) ⟨Nat.zero_le _, Nat.zero_le _⟩ rfl ?_
  exact V.zret .char dJS_charAt_15 rfl e2 rfl
end TX
