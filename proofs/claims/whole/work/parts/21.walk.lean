theorem dX_readStatement_0 : decode mX_readStatement.1 0 = .ok (.aload_n 0, 1) := by decide +kernel
theorem dX_readStatement_1 : decode mX_readStatement.1 1 = .ok (.ldc 37, 2) := by decide +kernel
theorem dX_readStatement_3 : decode mX_readStatement.1 3 = .ok (.invokevirtual 39, 3) := by decide +kernel
theorem dX_readStatement_6 : decode mX_readStatement.1 6 = .ok (.ifCond .eq 9, 3) := by decide +kernel
theorem dX_readStatement_9 : decode mX_readStatement.1 9 = .ok (.aload_n 0, 1) := by decide +kernel
theorem dX_readStatement_10 : decode mX_readStatement.1 10 = .ok (.aload_n 1, 1) := by decide +kernel
theorem dX_readStatement_11 : decode mX_readStatement.1 11 = .ok (.invokevirtual 43, 3) := by decide +kernel
theorem dX_readStatement_14 : decode mX_readStatement.1 14 = .ok (.ireturn, 1) := by decide +kernel
theorem dX_readStatement_15 : decode mX_readStatement.1 15 = .ok (.aload_n 0, 1) := by decide +kernel
theorem dX_readStatement_16 : decode mX_readStatement.1 16 = .ok (.ldc 46, 2) := by decide +kernel
theorem dX_readStatement_18 : decode mX_readStatement.1 18 = .ok (.invokevirtual 39, 3) := by decide +kernel
theorem dX_readStatement_21 : decode mX_readStatement.1 21 = .ok (.ifCond .eq 9, 3) := by decide +kernel
theorem dX_readStatement_24 : decode mX_readStatement.1 24 = .ok (.aload_n 0, 1) := by decide +kernel
theorem dX_readStatement_25 : decode mX_readStatement.1 25 = .ok (.aload_n 1, 1) := by decide +kernel
theorem dX_readStatement_26 : decode mX_readStatement.1 26 = .ok (.invokevirtual 48, 3) := by decide +kernel
theorem dX_readStatement_29 : decode mX_readStatement.1 29 = .ok (.ireturn, 1) := by decide +kernel
theorem dX_readStatement_30 : decode mX_readStatement.1 30 = .ok (.aload_n 0, 1) := by decide +kernel
theorem dX_readStatement_31 : decode mX_readStatement.1 31 = .ok (.invokevirtual 51, 3) := by decide +kernel
theorem dX_readStatement_34 : decode mX_readStatement.1 34 = .ok (.istore_n 2, 1) := by decide +kernel
theorem dX_readStatement_35 : decode mX_readStatement.1 35 = .ok (.iload_n 2, 1) := by decide +kernel
theorem dX_readStatement_36 : decode mX_readStatement.1 36 = .ok (.ifCond .lt 16, 3) := by decide +kernel
theorem dX_readStatement_39 : decode mX_readStatement.1 39 = .ok (.aload_n 0, 1) := by decide +kernel
theorem dX_readStatement_40 : decode mX_readStatement.1 40 = .ok (.aload_n 1, 1) := by decide +kernel
theorem dX_readStatement_41 : decode mX_readStatement.1 41 = .ok (.iload_n 2, 1) := by decide +kernel
theorem dX_readStatement_42 : decode mX_readStatement.1 42 = .ok (.invokevirtual 55, 3) := by decide +kernel
theorem dX_readStatement_45 : decode mX_readStatement.1 45 = .ok (.ifCond .eq 7, 3) := by decide +kernel
theorem dX_readStatement_48 : decode mX_readStatement.1 48 = .ok (.iconst 1, 1) := by decide +kernel
theorem dX_readStatement_49 : decode mX_readStatement.1 49 = .ok (.goto 4, 3) := by decide +kernel
theorem dX_readStatement_52 : decode mX_readStatement.1 52 = .ok (.iconst 0, 1) := by decide +kernel
theorem dX_readStatement_53 : decode mX_readStatement.1 53 = .ok (.ireturn, 1) := by decide +kernel
set_option maxRecDepth 4000 in
theorem wX_readStatement {E : Ev} {z : Int32 × St} (σ : St) (r1 : Nat) (ht_r1 : isTb r1 = true) (hX : fX_readStatement σ r1 = some z) : V E mX_readStatement (FM E (some (.int z.1), z.2)) 0 [(0, .ref 25), (1, .ref r1)] [] σ := by
  unfold fX_readStatement at hX
  refine V.aloadn 0 dX_readStatement_0 rfl rfl ?_
  refine V.ldcS 0 (by decide) rfl rfl dX_readStatement_1 rfl ?_
  obtain ⟨q1, c2, hX⟩ := bd hX; try dsimp only at hX
  refine V.callvi 25 [.ref 100] dX_readStatement_3 (kX_reads (rfl : isSb 100 = true) c2) mlX_39 myX_reads mnX_reads ⟨rfl, rfl, by decide, by decide⟩ (rfl : kd 25 = (3, 0)) (by decide) rfl (Nat.le_of_ble_eq_true rfl) ⟨Nat.zero_le _, Nat.zero_le _⟩ rfl ?_
  refine V.ifeq 15 dX_readStatement_6 rfl rfl (fun g3 => ?_) (fun g3 => ?_)
  · replace hX := ip hX g3
    refine V.aloadn 0 dX_readStatement_15 rfl rfl ?_
    refine V.ldcS 2 (by decide) rfl rfl dX_readStatement_16 rfl ?_
    obtain ⟨q4, c5, hX⟩ := bd hX; try dsimp only at hX
    refine V.callvi 25 [.ref 102] dX_readStatement_18 (kX_reads (rfl : isSb 102 = true) c5) mlX_39 myX_reads mnX_reads ⟨rfl, rfl, by decide, by decide⟩ (rfl : kd 25 = (3, 0)) (by decide) rfl (Nat.le_of_ble_eq_true rfl) ⟨Nat.zero_le _, Nat.zero_le _⟩ rfl ?_
    refine V.ifeq 30 dX_readStatement_21 rfl rfl (fun g6 => ?_) (fun g6 => ?_)
    · replace hX := ip hX g6
      refine V.aloadn 0 dX_readStatement_30 rfl rfl ?_
      obtain ⟨q7, c8, hX⟩ := bd hX; try dsimp only at hX
      refine V.callvi 25 [] dX_readStatement_31 (kX_kindRead c8) mlX_51 myX_kindRead mnX_kindRead ⟨rfl, rfl, by decide, by decide⟩ (rfl : kd 25 = (3, 0)) (by decide) rfl (Nat.le_of_ble_eq_true rfl) ⟨Nat.zero_le _, Nat.zero_le _⟩ rfl ?_
      refine V.istoren _ dX_readStatement_34 (by decide) rfl rfl ?_
      refine V.iloadn 0 dX_readStatement_35 rfl rfl ?_
      refine V.iflt 52 dX_readStatement_36 rfl rfl (fun g9 => ?_) (fun g9 => ?_)
      · replace hX := ip hX g9
        refine V.iconst (0 : Int32) dX_readStatement_52 lc0 rfl ?_
        have hX := (Option.some.inj hX).symm; subst hX; exact V.zret .boolean dX_readStatement_53 rfl (nz b01_0).1 rfl
      · replace hX := im hX g9
        refine V.aloadn 1 dX_readStatement_39 rfl rfl ?_
        refine V.aloadn 2 dX_readStatement_40 rfl rfl ?_
        refine V.iloadn 0 dX_readStatement_41 rfl rfl ?_
        obtain ⟨q11, σ11, c10, hX⟩ := bi2 hX; try dsimp only at hX
        refine V.callvi 25 [.ref r1, .int q7] dX_readStatement_42 (kX_readCoin ht_r1 c10) mlX_55 myX_readCoin mnX_readCoin ⟨rfl, rfl, by decide, by decide⟩ (rfl : kd 25 = (3, 0)) (by decide) rfl (Nat.le_of_ble_eq_true rfl) ⟨Nat.zero_le _, Nat.zero_le _⟩ rfl ?_
        have JJ : V E mX_readStatement (FM E (some (.int z.1), z.2)) 53 [(2, .int q7), (0, .ref 25), (1, .ref r1)] [.int (if q11 = 0 then (0 : Int32) else (1 : Int32))] σ11 := by
          have hX := (Option.some.inj hX).symm; subst hX; exact V.zret .boolean dX_readStatement_53 rfl (nz (b01_i b01_0 b01_1)).1 rfl
        refine V.ifeq 52 dX_readStatement_45 rfl rfl (fun g12 => ?_) (fun g12 => ?_)
        · refine V.iconst (0 : Int32) dX_readStatement_52 lc0 rfl ?_
          exact V.top (if_pos g12).symm JJ
        · refine V.iconst (1 : Int32) dX_readStatement_48 lc1 rfl ?_
          refine V.goto 53 dX_readStatement_49 rfl ?_
          exact V.top (if_neg g12).symm JJ
    · replace hX := im hX g6
      refine V.aloadn 0 dX_readStatement_24 rfl rfl ?_
      refine V.aloadn 1 dX_readStatement_25 rfl rfl ?_
      obtain ⟨q14, σ14, c13, hX⟩ := bi2 hX; try dsimp only at hX
      refine V.callvi 25 [.ref r1] dX_readStatement_26 (kX_readKnow ht_r1 c13) mlX_48 myX_readKnow mnX_readKnow ⟨rfl, rfl, by decide, by decide⟩ (rfl : kd 25 = (3, 0)) (by decide) rfl (Nat.le_of_ble_eq_true rfl) ⟨Nat.zero_le _, Nat.zero_le _⟩ rfl ?_
      obtain ⟨h15, hX⟩ := ob hX
      have hX := (Option.some.inj hX).symm; subst hX; exact V.zret .boolean dX_readStatement_29 rfl (nz h15).1 rfl
  · replace hX := im hX g3
    refine V.aloadn 0 dX_readStatement_9 rfl rfl ?_
    refine V.aloadn 1 dX_readStatement_10 rfl rfl ?_
    obtain ⟨q17, σ17, c16, hX⟩ := bi2 hX; try dsimp only at hX
    refine V.callvi 25 [.ref r1] dX_readStatement_11 (kX_readPerson ht_r1 c16) mlX_43 myX_readPerson mnX_readPerson ⟨rfl, rfl, by decide, by decide⟩ (rfl : kd 25 = (3, 0)) (by decide) rfl (Nat.le_of_ble_eq_true rfl) ⟨Nat.zero_le _, Nat.zero_le _⟩ rfl ?_
    obtain ⟨h18, hX⟩ := ob hX
    have hX := (Option.some.inj hX).symm; subst hX; exact V.zret .boolean dX_readStatement_14 rfl (nz h18).1 rfl
theorem kX_readStatement {E : Ev} {σ σ2 : St} {r1 : Nat} {z : Int32} (ht_r1 : isTb r1 = true) (h : fX_readStatement σ r1 = some (z, σ2)) : Ct mX_readStatement E [.ref 25, .ref r1] σ (some (.int z), σ2) := Ct.of (by decide) (Nat.le_of_ble_eq_true rfl) (wX_readStatement σ r1 ht_r1 h)
theorem dX_readInto_0 : decode mX_readInto.1 0 = .ok (.aload_n 1, 1) := by decide +kernel
theorem dX_readInto_1 : decode mX_readInto.1 1 = .ok (.invokevirtual 25, 3) := by decide +kernel
theorem dX_readInto_4 : decode mX_readInto.1 4 = .ok (.aload_n 0, 1) := by decide +kernel
theorem dX_readInto_5 : decode mX_readInto.1 5 = .ok (.iconst 0, 1) := by decide +kernel
theorem dX_readInto_6 : decode mX_readInto.1 6 = .ok (.putfield 22, 3) := by decide +kernel
theorem dX_readInto_9 : decode mX_readInto.1 9 = .ok (.iconst 0, 1) := by decide +kernel
theorem dX_readInto_10 : decode mX_readInto.1 10 = .ok (.istore_n 2, 1) := by decide +kernel
theorem dX_readInto_11 : decode mX_readInto.1 11 = .ok (.iload_n 2, 1) := by decide +kernel
theorem dX_readInto_12 : decode mX_readInto.1 12 = .ok (.sipush 200, 3) := by decide +kernel
theorem dX_readInto_15 : decode mX_readInto.1 15 = .ok (.if_icmp .gt 40, 3) := by decide +kernel
theorem dX_readInto_18 : decode mX_readInto.1 18 = .ok (.aload_n 0, 1) := by decide +kernel
theorem dX_readInto_19 : decode mX_readInto.1 19 = .ok (.invokevirtual 30, 3) := by decide +kernel
theorem dX_readInto_22 : decode mX_readInto.1 22 = .ok (.aload_n 0, 1) := by decide +kernel
theorem dX_readInto_23 : decode mX_readInto.1 23 = .ok (.getfield 19, 3) := by decide +kernel
theorem dX_readInto_26 : decode mX_readInto.1 26 = .ok (.aload_n 0, 1) := by decide +kernel
theorem dX_readInto_27 : decode mX_readInto.1 27 = .ok (.getfield 15, 3) := by decide +kernel
theorem dX_readInto_30 : decode mX_readInto.1 30 = .ok (.if_icmp .lt 6, 3) := by decide +kernel
theorem dX_readInto_33 : decode mX_readInto.1 33 = .ok (.bipush (-3), 2) := by decide +kernel
theorem dX_readInto_35 : decode mX_readInto.1 35 = .ok (.ireturn, 1) := by decide +kernel
theorem dX_readInto_36 : decode mX_readInto.1 36 = .ok (.aload_n 0, 1) := by decide +kernel
theorem dX_readInto_37 : decode mX_readInto.1 37 = .ok (.aload_n 1, 1) := by decide +kernel
theorem dX_readInto_38 : decode mX_readInto.1 38 = .ok (.invokevirtual 33, 3) := by decide +kernel
theorem dX_readInto_41 : decode mX_readInto.1 41 = .ok (.ifCond .ne 8, 3) := by decide +kernel
theorem dX_readInto_44 : decode mX_readInto.1 44 = .ok (.aload_n 0, 1) := by decide +kernel
theorem dX_readInto_45 : decode mX_readInto.1 45 = .ok (.getfield 19, 3) := by decide +kernel
theorem dX_readInto_48 : decode mX_readInto.1 48 = .ok (.ireturn, 1) := by decide +kernel
theorem dX_readInto_49 : decode mX_readInto.1 49 = .ok (.iinc 2 1, 3) := by decide +kernel
theorem dX_readInto_52 : decode mX_readInto.1 52 = .ok (.goto (-41), 3) := by decide +kernel
theorem dX_readInto_55 : decode mX_readInto.1 55 = .ok (.aload_n 0, 1) := by decide +kernel
theorem dX_readInto_56 : decode mX_readInto.1 56 = .ok (.getfield 19, 3) := by decide +kernel
theorem dX_readInto_59 : decode mX_readInto.1 59 = .ok (.ireturn, 1) := by decide +kernel
set_option maxRecDepth 4000 in
theorem wX_readInto_11 {E : Ev} {z : Int32 × St} : ∀ (fu : Nat) (σ : St) (r1 : Nat) (i2 : Int32) (ht_r1 : isTb r1 = true), fX_readInto_11 fu σ r1 i2 = some z → V E mX_readInto (FM E (some (.int z.1), z.2)) 11 [(0, .ref 25), (1, .ref r1), (2, .int i2)] [] σ := by
  intro fu
  induction fu with
  | zero => intro σ r1 i2 ht_r1 hX; cases hX
  | succ fu ih =>
    intro σ r1 i2 ht_r1 hX
    rw [fX_readInto_11] at hX
    refine V.iloadn 2 dX_readInto_11 rfl rfl ?_
    refine V.sipush (200 : Int32) dX_readInto_12 ls200 rfl ?_
    refine V.icmpgt 55 dX_readInto_15 rfl rfl (fun g4 => ?_) (fun g4 => ?_)
    · replace hX := ip hX g4
      refine V.aloadn 0 dX_readInto_55 rfl rfl ?_
      refine V.geti 25 dX_readInto_56 flX_19 (rfl : kd 25 = (3, 0)) rfl ?_
      have hX := (Option.some.inj hX).symm; subst hX; exact V.iret dX_readInto_59 rfl rfl
    · replace hX := im hX g4
      refine V.aloadn 0 dX_readInto_18 rfl rfl ?_
      obtain ⟨σ6, c5, hX⟩ := bd hX; try dsimp only at hX
      refine V.callv0 25 [] dX_readInto_19 (kX_step c5) mlX_30 myX_step mnX_step ⟨rfl, rfl, by decide, by decide⟩ (rfl : kd 25 = (3, 0)) (by decide) rfl (Nat.le_of_ble_eq_true rfl) ⟨Nat.zero_le _, Nat.zero_le _⟩ rfl ?_
      refine V.aloadn 0 dX_readInto_22 rfl rfl ?_
      refine V.geti 25 dX_readInto_23 flX_19 (rfl : kd 25 = (3, 0)) rfl ?_
      refine V.aloadn 0 dX_readInto_26 rfl rfl ?_
      refine V.geti 25 dX_readInto_27 flX_15 (rfl : kd 25 = (3, 0)) rfl ?_
      refine V.icmplt 36 dX_readInto_30 rfl rfl (fun g7 => ?_) (fun g7 => ?_)
      · replace hX := ip hX g7
        refine V.aloadn 0 dX_readInto_36 rfl rfl ?_
        refine V.aloadn 1 dX_readInto_37 rfl rfl ?_
        obtain ⟨q9, σ9, c8, hX⟩ := bi2 hX; try dsimp only at hX
        refine V.callvi 25 [.ref r1] dX_readInto_38 (kX_readStatement ht_r1 c8) mlX_33 myX_readStatement mnX_readStatement ⟨rfl, rfl, by decide, by decide⟩ (rfl : kd 25 = (3, 0)) (by decide) rfl (Nat.le_of_ble_eq_true rfl) ⟨Nat.zero_le _, Nat.zero_le _⟩ rfl ?_
        refine V.ifne 49 dX_readInto_41 rfl rfl (fun g10 => ?_) (fun g10 => ?_)
        · replace hX := im hX g10
          refine V.iinc 2 (1 : Int32) _ dX_readInto_49 rfl lc1 (by decide) rfl rfl ?_
          replace hX := nmx hX; generalize i2 + (1 : Int32) = v11 at hX ⊢; try dsimp only at hX
          refine V.goto 11 dX_readInto_52 rfl ?_
          refine V.sub [1, 2, 0] rfl ?_
          exact ih σ9 r1 v11 ht_r1 hX
        · replace hX := ip hX g10
          refine V.aloadn 0 dX_readInto_44 rfl rfl ?_
          refine V.geti 25 dX_readInto_45 flX_19 (rfl : kd 25 = (3, 0)) rfl ?_
          have hX := (Option.some.inj hX).symm; subst hX; exact V.iret dX_readInto_48 rfl rfl
      · replace hX := im hX g7
        refine V.bipush (-3 : Int32) dX_readInto_33 lbm3 rfl ?_
        have hX := (Option.some.inj hX).symm; subst hX; exact V.iret dX_readInto_35 rfl rfl
set_option maxRecDepth 4000 in
theorem wX_readInto {E : Ev} {z : Int32 × St} (σ : St) (r1 : Nat) (ht_r1 : isTb r1 = true) (hX : fX_readInto σ r1 = some z) : V E mX_readInto (FM E (some (.int z.1), z.2)) 0 [(0, .ref 25), (1, .ref r1)] [] σ := by
  unfold fX_readInto at hX
  refine V.aloadn 1 dX_readInto_0 rfl rfl ?_
  obtain ⟨σ2, c1, hX⟩ := bd hX; try dsimp only at hX
  refine V.callv0 r1 [] dX_readInto_1 (kT_empty ht_r1 c1) mlX_25 myT_empty mnT_empty ⟨rfl, rfl, by decide, by decide⟩ (tk0 ht_r1) (by decide) rfl (Nat.le_of_ble_eq_true rfl) ⟨Nat.zero_le _, Nat.zero_le _⟩ rfl ?_
  refine V.aloadn 0 dX_readInto_4 rfl rfl ?_
  refine V.iconst (0 : Int32) dX_readInto_5 lc0 rfl ?_
  refine V.puti 25 .int dX_readInto_6 flX_22 fw3_3 (rfl : kd 25 = (3, 0)) ⟨rfl, rfl⟩ rfl ?_
  replace hX := nmx hX; generalize sI σ2 25 3 (0 : Int32) = σ3 at hX ⊢; try dsimp only at hX
  refine V.iconst (0 : Int32) dX_readInto_9 lc0 rfl ?_
  refine V.istoren _ dX_readInto_10 (by decide) rfl rfl ?_
  refine V.sub [1, 2, 0] rfl ?_
  exact wX_readInto_11 300 σ3 r1 (0 : Int32) ht_r1 hX
theorem kX_readInto {E : Ev} {σ σ2 : St} {r1 : Nat} {z : Int32} (ht_r1 : isTb r1 = true) (h : fX_readInto σ r1 = some (z, σ2)) : Ct mX_readInto E [.ref 25, .ref r1] σ (some (.int z), σ2) := Ct.of (by decide) (Nat.le_of_ble_eq_true rfl) (wX_readInto σ r1 ht_r1 h)
theorem dE_town_0 : decode mE_town.1 0 = .ok (.aload_n 0, 1) := by decide +kernel
theorem dE_town_1 : decode mE_town.1 1 = .ok (.getfield 16, 3) := by decide +kernel
theorem dE_town_4 : decode mE_town.1 4 = .ok (.aload_n 0, 1) := by decide +kernel
theorem dE_town_5 : decode mE_town.1 5 = .ok (.getfield 10, 3) := by decide +kernel
theorem dE_town_8 : decode mE_town.1 8 = .ok (.getfield 68, 3) := by decide +kernel
theorem dE_town_11 : decode mE_town.1 11 = .ok (.putfield 68, 3) := by decide +kernel
theorem dE_town_14 : decode mE_town.1 14 = .ok (.aload_n 0, 1) := by decide +kernel
theorem dE_town_15 : decode mE_town.1 15 = .ok (.getfield 29, 3) := by decide +kernel
theorem dE_town_18 : decode mE_town.1 18 = .ok (.aload_n 0, 1) := by decide +kernel
theorem dE_town_19 : decode mE_town.1 19 = .ok (.getfield 16, 3) := by decide +kernel
theorem dE_town_22 : decode mE_town.1 22 = .ok (.invokevirtual 71, 3) := by decide +kernel
theorem dE_town_25 : decode mE_town.1 25 = .ok (.istore_n 1, 1) := by decide +kernel
theorem dE_town_26 : decode mE_town.1 26 = .ok (.aload_n 0, 1) := by decide +kernel
theorem dE_town_27 : decode mE_town.1 27 = .ok (.getfield 29, 3) := by decide +kernel
theorem dE_town_30 : decode mE_town.1 30 = .ok (.iconst 0, 1) := by decide +kernel
theorem dE_town_31 : decode mE_town.1 31 = .ok (.putfield 62, 3) := by decide +kernel
theorem dE_town_34 : decode mE_town.1 34 = .ok (.iload_n 1, 1) := by decide +kernel
theorem dE_town_35 : decode mE_town.1 35 = .ok (.ifCond .lt 8, 3) := by decide +kernel
theorem dE_town_38 : decode mE_town.1 38 = .ok (.bipush (-100), 2) := by decide +kernel
theorem dE_town_40 : decode mE_town.1 40 = .ok (.iload_n 1, 1) := by decide +kernel
theorem dE_town_41 : decode mE_town.1 41 = .ok (.isub, 1) := by decide +kernel
theorem dE_town_42 : decode mE_town.1 42 = .ok (.ireturn, 1) := by decide +kernel
theorem dE_town_43 : decode mE_town.1 43 = .ok (.aload_n 0, 1) := by decide +kernel
theorem dE_town_44 : decode mE_town.1 44 = .ok (.getfield 10, 3) := by decide +kernel
theorem dE_town_47 : decode mE_town.1 47 = .ok (.astore_n 2, 1) := by decide +kernel
theorem dE_town_48 : decode mE_town.1 48 = .ok (.aload_n 0, 1) := by decide +kernel
theorem dE_town_49 : decode mE_town.1 49 = .ok (.aload_n 0, 1) := by decide +kernel
theorem dE_town_50 : decode mE_town.1 50 = .ok (.getfield 16, 3) := by decide +kernel
theorem dE_town_53 : decode mE_town.1 53 = .ok (.putfield 10, 3) := by decide +kernel
theorem dE_town_56 : decode mE_town.1 56 = .ok (.aload_n 0, 1) := by decide +kernel
theorem dE_town_57 : decode mE_town.1 57 = .ok (.aload_n 2, 1) := by decide +kernel
theorem dE_town_58 : decode mE_town.1 58 = .ok (.putfield 16, 3) := by decide +kernel
theorem dE_town_61 : decode mE_town.1 61 = .ok (.aload_n 0, 1) := by decide +kernel
theorem dE_town_62 : decode mE_town.1 62 = .ok (.iconst 0, 1) := by decide +kernel
theorem dE_town_63 : decode mE_town.1 63 = .ok (.putfield 44, 3) := by decide +kernel
theorem dE_town_66 : decode mE_town.1 66 = .ok (.aload_n 0, 1) := by decide +kernel
theorem dE_town_67 : decode mE_town.1 67 = .ok (.getfield 10, 3) := by decide +kernel
theorem dE_town_70 : decode mE_town.1 70 = .ok (.getfield 75, 3) := by decide +kernel
theorem dE_town_73 : decode mE_town.1 73 = .ok (.ireturn, 1) := by decide +kernel
set_option maxRecDepth 4000 in
theorem wE_town {E : Ev} {z : Int32 × St} (σ : St) (hX : fE_town σ = some z) : V E mE_town (FM E (some (.int z.1), z.2)) 0 [(0, .ref 0)] [] σ := by
  unfold fE_town at hX
  refine V.aloadn 0 dE_town_0 rfl rfl ?_
  refine V.getd 0 dE_town_1 flE_16 (rfl : kd 0 = (5, 0)) rfl ?_
  refine V.aloadn 0 dE_town_4 rfl rfl ?_
  refine V.getd 0 dE_town_5 flE_10 (rfl : kd 0 = (5, 0)) rfl ?_
  obtain ⟨h1, hX⟩ := ob hX
  refine V.geti (gR σ 0) dE_town_8 flE_68 (tk0 h1) rfl ?_
  obtain ⟨h2, hX⟩ := ob hX
  refine V.puti (gR σ 1) .int dE_town_11 flE_68 fw2_2 (tk0 h2) ⟨rfl, rfl⟩ rfl ?_
  replace hX := nmx hX; generalize sI σ (gR σ 1) 2 (gI σ (gR σ 0) 2) = σ3 at hX ⊢; try dsimp only at hX
  refine V.aloadn 0 dE_town_14 rfl rfl ?_
  refine V.getr 0 25 dE_town_15 flE_29 (rfl : kd 0 = (5, 0)) rfl rfl ?_
  refine V.aloadn 0 dE_town_18 rfl rfl ?_
  refine V.getd 0 dE_town_19 flE_16 (rfl : kd 0 = (5, 0)) rfl ?_
  obtain ⟨h4, hX⟩ := ob hX
  obtain ⟨q6, σ6, c5, hX⟩ := bi2 hX; try dsimp only at hX
  refine V.callvi 25 [.ref (gR σ3 1)] dE_town_22 (kX_readInto h4 c5) mlE_71 myX_readInto mnX_readInto ⟨rfl, rfl, by decide, by decide⟩ (rfl : kd 25 = (3, 0)) (by decide) rfl (Nat.le_of_ble_eq_true rfl) ⟨Nat.zero_le _, Nat.zero_le _⟩ rfl ?_
  refine V.istoren _ dE_town_25 (by decide) rfl rfl ?_
  refine V.aloadn 1 dE_town_26 rfl rfl ?_
  refine V.getr 0 25 dE_town_27 flE_29 (rfl : kd 0 = (5, 0)) rfl rfl ?_
  refine V.iconst (0 : Int32) dE_town_30 lc0 rfl ?_
  refine V.puti 25 .int dE_town_31 flE_62 fw3_1 (rfl : kd 25 = (3, 0)) ⟨rfl, rfl⟩ rfl ?_
  replace hX := nmx hX; generalize sI σ6 25 1 (0 : Int32) = σ7 at hX ⊢; try dsimp only at hX
  refine V.iloadn 0 dE_town_34 rfl rfl ?_
  refine V.iflt 43 dE_town_35 rfl rfl (fun g8 => ?_) (fun g8 => ?_)
  · replace hX := ip hX g8
    refine V.aloadn 1 dE_town_43 rfl rfl ?_
    refine V.getd 0 dE_town_44 flE_10 (rfl : kd 0 = (5, 0)) rfl ?_
    refine V.astoren _ dE_town_47 (by decide) rfl rfl ?_
    refine V.aloadn 2 dE_town_48 rfl rfl ?_
    refine V.aloadn 2 dE_town_49 rfl rfl ?_
    refine V.getd 0 dE_town_50 flE_16 (rfl : kd 0 = (5, 0)) rfl ?_
    refine V.putd "EveryHand$Town" dE_town_53 flE_10 fw5_0 rfl rfl ?_
    replace hX := nmx hX; generalize sR σ7 0 (gR σ7 1) = σ9 at hX ⊢; try dsimp only at hX
    refine V.aloadn 2 dE_town_56 rfl rfl ?_
    refine V.aloadn 0 dE_town_57 rfl rfl ?_
    refine V.putd "EveryHand$Town" dE_town_58 flE_16 fw5_1 rfl rfl ?_
    replace hX := nmx hX; generalize sR σ9 1 (gR σ7 0) = σ10 at hX ⊢; try dsimp only at hX
    refine V.aloadn 2 dE_town_61 rfl rfl ?_
    refine V.iconst (0 : Int32) dE_town_62 lc0 rfl ?_
    refine V.puti 0 .int dE_town_63 flE_44 fw5_7 (rfl : kd 0 = (5, 0)) ⟨rfl, rfl⟩ rfl ?_
    replace hX := nmx hX; generalize sI σ10 0 7 (0 : Int32) = σ11 at hX ⊢; try dsimp only at hX
    refine V.aloadn 2 dE_town_66 rfl rfl ?_
    refine V.getd 0 dE_town_67 flE_10 (rfl : kd 0 = (5, 0)) rfl ?_
    obtain ⟨h12, hX⟩ := ob hX
    refine V.geti (gR σ11 0) dE_town_70 flE_75 (tk0 h12) rfl ?_
    have hX := (Option.some.inj hX).symm; subst hX; exact V.iret dE_town_73 rfl rfl
  · replace hX := im hX g8
    refine V.bipush (-100 : Int32) dE_town_38 lbm100 rfl ?_
    refine V.iloadn 0 dE_town_40 rfl rfl ?_
    refine V.isub dE_town_41 rfl ?_
    have hX := (Option.some.inj hX).symm; subst hX; exact V.iret dE_town_42 rfl rfl
theorem kE_town {E : Ev} {σ σ2 : St} {z : Int32} (h : fE_town σ = some (z, σ2)) : Ct mE_town E [.ref 0] σ (some (.int z), σ2) := Ct.of (by decide) (Nat.le_of_ble_eq_true rfl) (wE_town σ h)
theorem dE_isRank_0 : decode mE_isRank.1 0 = .ok (.iload_n 0, 1) := by decide +kernel
theorem dE_isRank_1 : decode mE_isRank.1 1 = .ok (.ifCond .lt 13, 3) := by decide +kernel
theorem dE_isRank_4 : decode mE_isRank.1 4 = .ok (.iload_n 0, 1) := by decide +kernel
theorem dE_isRank_5 : decode mE_isRank.1 5 = .ok (.bipush 9, 2) := by decide +kernel
theorem dE_isRank_7 : decode mE_isRank.1 7 = .ok (.if_icmp .gt 7, 3) := by decide +kernel
theorem dE_isRank_10 : decode mE_isRank.1 10 = .ok (.iconst 1, 1) := by decide +kernel
theorem dE_isRank_11 : decode mE_isRank.1 11 = .ok (.goto 4, 3) := by decide +kernel
theorem dE_isRank_14 : decode mE_isRank.1 14 = .ok (.iconst 0, 1) := by decide +kernel
theorem dE_isRank_15 : decode mE_isRank.1 15 = .ok (.ireturn, 1) := by decide +kernel
set_option maxRecDepth 4000 in
theorem wE_isRank {E : Ev} {z : Int32} (σ : St) (i0 : Int32) (hX : fE_isRank i0 = z) : V E mE_isRank (FM E (some (.int z), σ)) 0 [(0, .int i0)] [] σ := by
  unfold fE_isRank at hX
  refine V.iloadn 0 dE_isRank_0 rfl rfl ?_
  have JJ : V E mE_isRank (FM E (some (.int z), σ)) 15 [(0, .int i0)] [.int (if i0 < 0 then (0 : Int32) else (if (9 : Int32) < i0 then (0 : Int32) else (1 : Int32)))] σ := by
    subst hX; exact V.zret .boolean dE_isRank_15 rfl (nz (b01_i b01_0 (b01_i b01_0 b01_1))).1 rfl
  refine V.iflt 14 dE_isRank_1 rfl rfl (fun g1 => ?_) (fun g1 => ?_)
  · refine V.iconst (0 : Int32) dE_isRank_14 lc0 rfl ?_
    exact V.top (if_pos g1).symm JJ
  · refine V.iloadn 0 dE_isRank_4 rfl rfl ?_
    refine V.bipush (9 : Int32) dE_isRank_5 lb9 rfl ?_
    refine V.icmpgt 14 dE_isRank_7 rfl rfl (fun g2 => ?_) (fun g2 => ?_)
    · refine V.iconst (0 : Int32) dE_isRank_14 lc0 rfl ?_
      exact V.top ((if_neg g1).trans (if_pos g2)).symm JJ
    · refine V.iconst (1 : Int32) dE_isRank_10 lc1 rfl ?_
      refine V.goto 15 dE_isRank_11 rfl ?_
      exact V.top ((if_neg g1).trans (if_neg g2)).symm JJ
theorem kE_isRank {E : Ev} {σ : St} (i0 : Int32) : Ct mE_isRank E [.int i0] σ (some (.int (fE_isRank i0)), σ) := Ct.of (by decide) (Nat.le_of_ble_eq_true rfl) (wE_isRank σ i0 rfl)
theorem bE_isRank (i0 : Int32) : b01 (fE_isRank i0) := by
  unfold fE_isRank
  exact (b01_i b01_0 (b01_i b01_0 b01_1))
theorem dE_person_0 : decode mE_person.1 0 = .ok (.iload_n 1, 1) := by decide +kernel
theorem dE_person_1 : decode mE_person.1 1 = .ok (.invokestatic 78, 3) := by decide +kernel
theorem dE_person_4 : decode mE_person.1 4 = .ok (.ifCond .ne 5, 3) := by decide +kernel
theorem dE_person_7 : decode mE_person.1 7 = .ok (.iconst (-1), 1) := by decide +kernel
theorem dE_person_8 : decode mE_person.1 8 = .ok (.ireturn, 1) := by decide +kernel
theorem dE_person_9 : decode mE_person.1 9 = .ok (.aload_n 0, 1) := by decide +kernel
theorem dE_person_10 : decode mE_person.1 10 = .ok (.getfield 10, 3) := by decide +kernel
theorem dE_person_13 : decode mE_person.1 13 = .ok (.getfield 75, 3) := by decide +kernel
theorem dE_person_16 : decode mE_person.1 16 = .ok (.bipush 7, 2) := by decide +kernel
theorem dE_person_18 : decode mE_person.1 18 = .ok (.if_icmp .lt 6, 3) := by decide +kernel
theorem dE_person_21 : decode mE_person.1 21 = .ok (.bipush (-2), 2) := by decide +kernel
theorem dE_person_23 : decode mE_person.1 23 = .ok (.ireturn, 1) := by decide +kernel
theorem dE_person_24 : decode mE_person.1 24 = .ok (.aload_n 0, 1) := by decide +kernel
theorem dE_person_25 : decode mE_person.1 25 = .ok (.getfield 10, 3) := by decide +kernel
theorem dE_person_28 : decode mE_person.1 28 = .ok (.iload_n 1, 1) := by decide +kernel
theorem dE_person_29 : decode mE_person.1 29 = .ok (.invokevirtual 82, 3) := by decide +kernel
theorem dE_person_32 : decode mE_person.1 32 = .ok (.ireturn, 1) := by decide +kernel
set_option maxRecDepth 4000 in
theorem wE_person {E : Ev} {z : Int32 × St} (σ : St) (i1 : Int32) (hX : fE_person σ i1 = some z) : V E mE_person (FM E (some (.int z.1), z.2)) 0 [(0, .ref 0), (1, .int i1)] [] σ := by
  unfold fE_person at hX
  refine V.iloadn 1 dE_person_0 rfl rfl ?_
  refine V.callsi [.int i1] dE_person_1 (kE_isRank (σ := σ) i1) mlE_78 myE_isRank mnE_isRank ⟨rfl, rfl, by decide, by decide⟩ rfl (Nat.le_of_ble_eq_true rfl) ⟨Nat.zero_le _, Nat.zero_le _⟩ rfl ?_
  refine V.ifne 9 dE_person_4 rfl rfl (fun g1 => ?_) (fun g1 => ?_)
  · replace hX := im hX g1
    refine V.aloadn 0 dE_person_9 rfl rfl ?_
    refine V.getd 0 dE_person_10 flE_10 (rfl : kd 0 = (5, 0)) rfl ?_
    obtain ⟨h2, hX⟩ := ob hX
    refine V.geti (gR σ 0) dE_person_13 flE_75 (tk0 h2) rfl ?_
    refine V.bipush (7 : Int32) dE_person_16 lb7 rfl ?_
    refine V.icmplt 24 dE_person_18 rfl rfl (fun g3 => ?_) (fun g3 => ?_)
    · replace hX := ip hX g3
      refine V.aloadn 0 dE_person_24 rfl rfl ?_
      refine V.getd 0 dE_person_25 flE_10 (rfl : kd 0 = (5, 0)) rfl ?_
      refine V.iloadn 1 dE_person_28 rfl rfl ?_
      obtain ⟨h4, hX⟩ := ob hX
      obtain ⟨q6, σ6, c5, hX⟩ := bi2 hX; try dsimp only at hX
      refine V.callvi (gR σ 0) [.int i1] dE_person_29 (kT_addPerson h4 c5) mlE_82 myT_addPerson mnT_addPerson ⟨rfl, rfl, by decide, by decide⟩ (tk0 h4) (by decide) rfl (Nat.le_of_ble_eq_true rfl) ⟨Nat.zero_le _, Nat.zero_le _⟩ rfl ?_
      have hX := (Option.some.inj hX).symm; subst hX; exact V.iret dE_person_32 rfl rfl
    · replace hX := im hX g3
      refine V.bipush (-2 : Int32) dE_person_21 lbm2 rfl ?_
      have hX := (Option.some.inj hX).symm; subst hX; exact V.iret dE_person_23 rfl rfl
  · replace hX := ip hX g1
    refine V.iconst (-1 : Int32) dE_person_7 lcm1 rfl ?_
    have hX := (Option.some.inj hX).symm; subst hX; exact V.iret dE_person_8 rfl rfl
theorem kE_person {E : Ev} {σ σ2 : St} {i1 : Int32} {z : Int32} (h : fE_person σ i1 = some (z, σ2)) : Ct mE_person E [.ref 0, .int i1] σ (some (.int z), σ2) := Ct.of (by decide) (Nat.le_of_ble_eq_true rfl) (wE_person σ i1 h)
theorem dT_hasPerson_0 : decode mT_hasPerson.1 0 = .ok (.iload_n 1, 1) := by decide +kernel
theorem dT_hasPerson_1 : decode mT_hasPerson.1 1 = .ok (.ifCond .lt 15, 3) := by decide +kernel
theorem dT_hasPerson_4 : decode mT_hasPerson.1 4 = .ok (.iload_n 1, 1) := by decide +kernel
theorem dT_hasPerson_5 : decode mT_hasPerson.1 5 = .ok (.aload_n 0, 1) := by decide +kernel
theorem dT_hasPerson_6 : decode mT_hasPerson.1 6 = .ok (.getfield 9, 3) := by decide +kernel
theorem dT_hasPerson_9 : decode mT_hasPerson.1 9 = .ok (.if_icmp .ge 7, 3) := by decide +kernel
theorem dT_hasPerson_12 : decode mT_hasPerson.1 12 = .ok (.iconst 1, 1) := by decide +kernel
theorem dT_hasPerson_13 : decode mT_hasPerson.1 13 = .ok (.goto 4, 3) := by decide +kernel
theorem dT_hasPerson_16 : decode mT_hasPerson.1 16 = .ok (.iconst 0, 1) := by decide +kernel
theorem dT_hasPerson_17 : decode mT_hasPerson.1 17 = .ok (.ireturn, 1) := by decide +kernel
set_option maxRecDepth 4000 in
theorem wT_hasPerson {E : Ev} {z : Int32} (σ : St) (r0 : Nat) (i1 : Int32) (ht_r0 : isTb r0 = true) (hX : fT_hasPerson σ r0 i1 = z) : V E mT_hasPerson (FM E (some (.int z), σ)) 0 [(0, .ref r0), (1, .int i1)] [] σ := by
  unfold fT_hasPerson at hX
  refine V.iloadn 1 dT_hasPerson_0 rfl rfl ?_
  have JJ : V E mT_hasPerson (FM E (some (.int z), σ)) 17 [(0, .ref r0), (1, .int i1)] [.int (if i1 < 0 then (0 : Int32) else (if (gI σ r0 0) ≤ i1 then (0 : Int32) else (1 : Int32)))] σ := by
    subst hX; exact V.zret .boolean dT_hasPerson_17 rfl (nz (b01_i b01_0 (b01_i b01_0 b01_1))).1 rfl
  refine V.iflt 16 dT_hasPerson_1 rfl rfl (fun g1 => ?_) (fun g1 => ?_)
  · refine V.iconst (0 : Int32) dT_hasPerson_16 lc0 rfl ?_
    exact V.top (if_pos g1).symm JJ
  · refine V.iloadn 1 dT_hasPerson_4 rfl rfl ?_
    refine V.aloadn 0 dT_hasPerson_5 rfl rfl ?_
    refine V.geti r0 dT_hasPerson_6 flT_9 (tk0 ht_r0) rfl ?_
    refine V.icmpge 16 dT_hasPerson_9 rfl rfl (fun g2 => ?_) (fun g2 => ?_)
    · refine V.iconst (0 : Int32) dT_hasPerson_16 lc0 rfl ?_
      exact V.top ((if_neg g1).trans (if_pos g2)).symm JJ
    · refine V.iconst (1 : Int32) dT_hasPerson_12 lc1 rfl ?_
      refine V.goto 17 dT_hasPerson_13 rfl ?_
      exact V.top ((if_neg g1).trans (if_neg g2)).symm JJ
theorem kT_hasPerson {E : Ev} {σ : St} (r0 : Nat) (i1 : Int32) (ht_r0 : isTb r0 = true) : Ct mT_hasPerson E [.ref r0, .int i1] σ (some (.int (fT_hasPerson σ r0 i1)), σ) := Ct.of (by decide) (Nat.le_of_ble_eq_true rfl) (wT_hasPerson σ r0 i1 ht_r0 rfl)
theorem bT_hasPerson (σ : St) (r0 : Nat) (i1 : Int32) : b01 (fT_hasPerson σ r0 i1) := by
  unfold fT_hasPerson
  exact (b01_i b01_0 (b01_i b01_0 b01_1))
theorem dT_purse_0 : decode mT_purse.1 0 = .ok (.iconst 0, 1) := by decide +kernel
theorem dT_purse_1 : decode mT_purse.1 1 = .ok (.istore_n 2, 1) := by decide +kernel
theorem dT_purse_2 : decode mT_purse.1 2 = .ok (.iconst 0, 1) := by decide +kernel
theorem dT_purse_3 : decode mT_purse.1 3 = .ok (.istore_n 3, 1) := by decide +kernel
theorem dT_purse_4 : decode mT_purse.1 4 = .ok (.iload_n 3, 1) := by decide +kernel
theorem dT_purse_5 : decode mT_purse.1 5 = .ok (.aload_n 0, 1) := by decide +kernel
theorem dT_purse_6 : decode mT_purse.1 6 = .ok (.getfield 15, 3) := by decide +kernel
theorem dT_purse_9 : decode mT_purse.1 9 = .ok (.if_icmp .ge 29, 3) := by decide +kernel
theorem dT_purse_12 : decode mT_purse.1 12 = .ok (.iload_n 2, 1) := by decide +kernel
theorem dT_purse_13 : decode mT_purse.1 13 = .ok (.aload_n 0, 1) := by decide +kernel
theorem dT_purse_14 : decode mT_purse.1 14 = .ok (.getfield 37, 3) := by decide +kernel
theorem dT_purse_17 : decode mT_purse.1 17 = .ok (.iload_n 3, 1) := by decide +kernel
theorem dT_purse_18 : decode mT_purse.1 18 = .ok (.iaload, 1) := by decide +kernel
theorem dT_purse_19 : decode mT_purse.1 19 = .ok (.iload_n 1, 1) := by decide +kernel
theorem dT_purse_20 : decode mT_purse.1 20 = .ok (.if_icmp .ne 9, 3) := by decide +kernel
theorem dT_purse_23 : decode mT_purse.1 23 = .ok (.iconst 1, 1) := by decide +kernel
theorem dT_purse_24 : decode mT_purse.1 24 = .ok (.iload_n 3, 1) := by decide +kernel
theorem dT_purse_25 : decode mT_purse.1 25 = .ok (.ishl, 1) := by decide +kernel
theorem dT_purse_26 : decode mT_purse.1 26 = .ok (.goto 4, 3) := by decide +kernel
theorem dT_purse_29 : decode mT_purse.1 29 = .ok (.iconst 0, 1) := by decide +kernel
theorem dT_purse_30 : decode mT_purse.1 30 = .ok (.ior, 1) := by decide +kernel
theorem dT_purse_31 : decode mT_purse.1 31 = .ok (.istore_n 2, 1) := by decide +kernel
theorem dT_purse_32 : decode mT_purse.1 32 = .ok (.iinc 3 1, 3) := by decide +kernel
theorem dT_purse_35 : decode mT_purse.1 35 = .ok (.goto (-31), 3) := by decide +kernel
theorem dT_purse_38 : decode mT_purse.1 38 = .ok (.iload_n 2, 1) := by decide +kernel
theorem dT_purse_39 : decode mT_purse.1 39 = .ok (.ireturn, 1) := by decide +kernel
set_option maxRecDepth 4000 in
theorem wT_purse_4 {E : Ev} {z : Int32} : ∀ (fu : Nat) (σ : St) (r0 : Nat) (i1 : Int32) (i2 : Int32) (i3 : Int32) (ht_r0 : isTb r0 = true), fT_purse_4 fu σ r0 i1 i2 i3 = some z → V E mT_purse (FM E (some (.int z), σ)) 4 [(0, .ref r0), (1, .int i1), (2, .int i2), (3, .int i3)] [] σ := by
  intro fu
  induction fu with
  | zero => intro σ r0 i1 i2 i3 ht_r0 hX; cases hX
  | succ fu ih =>
    intro σ r0 i1 i2 i3 ht_r0 hX
    rw [fT_purse_4] at hX
    refine V.iloadn 3 dT_purse_4 rfl rfl ?_
    refine V.aloadn 0 dT_purse_5 rfl rfl ?_
    refine V.geti r0 dT_purse_6 flT_15 (tk0 ht_r0) rfl ?_
    refine V.icmpge 38 dT_purse_9 rfl rfl (fun g1 => ?_) (fun g1 => ?_)
    · replace hX := ip hX g1
      refine V.iloadn 2 dT_purse_38 rfl rfl ?_
      have hX := (Option.some.inj hX).symm; subst hX; exact V.iret dT_purse_39 rfl rfl
    · replace hX := im hX g1
      refine V.iloadn 2 dT_purse_12 rfl rfl ?_
      refine V.aloadn 0 dT_purse_13 rfl rfl ?_
      refine V.getr r0 (r0 + 6) dT_purse_14 flT_37 (tk0 ht_r0) rfl rfl ?_
      refine V.iloadn 3 dT_purse_17 rfl rfl ?_
      obtain ⟨h2, hX⟩ := ob hX
      refine V.iald (r0 + 6) dT_purse_18 (tk6 ht_r0) h2 rfl ?_
      refine V.iloadn 1 dT_purse_19 rfl rfl ?_
      have JJ : V E mT_purse (FM E (some (.int z), σ)) 30 [(0, .ref r0), (1, .int i1), (2, .int i2), (3, .int i3)] [.int (if (gI σ (r0 + 6) (ix i3)) = i1 then (1 : Int32) <<< (i3 &&& 31) else (0 : Int32)), .int i2] σ := by
        refine V.ior dT_purse_30 rfl ?_
        refine V.istoren _ dT_purse_31 (by decide) rfl rfl ?_
        replace hX := nmx hX; generalize i2 ||| (if (gI σ (r0 + 6) (ix i3)) = i1 then (1 : Int32) <<< (i3 &&& 31) else (0 : Int32)) = v3 at hX ⊢; try dsimp only at hX
        refine V.iinc 3 (1 : Int32) _ dT_purse_32 rfl lc1 (by decide) rfl rfl ?_
        replace hX := nmx hX; generalize i3 + (1 : Int32) = v4 at hX ⊢; try dsimp only at hX
        refine V.goto 4 dT_purse_35 rfl ?_
        refine V.sub [2, 3, 1, 0] rfl ?_
        exact ih σ r0 i1 v3 v4 ht_r0 hX
      refine V.icmpne 29 dT_purse_20 rfl rfl (fun g5 => ?_) (fun g5 => ?_)
      · refine V.iconst (0 : Int32) dT_purse_29 lc0 rfl ?_
        exact V.top (if_neg g5).symm JJ
      · refine V.iconst (1 : Int32) dT_purse_23 lc1 rfl ?_
        refine V.iloadn 3 dT_purse_24 rfl rfl ?_
        refine V.ishl dT_purse_25 rfl ?_
        refine V.goto 30 dT_purse_26 rfl ?_
        exact V.top (if_pos g5).symm JJ
set_option maxRecDepth 4000 in
theorem wT_purse {E : Ev} {z : Int32} (σ : St) (r0 : Nat) (i1 : Int32) (ht_r0 : isTb r0 = true) (hX : fT_purse σ r0 i1 = some z) : V E mT_purse (FM E (some (.int z), σ)) 0 [(0, .ref r0), (1, .int i1)] [] σ := by
  unfold fT_purse at hX
  refine V.iconst (0 : Int32) dT_purse_0 lc0 rfl ?_
  refine V.istoren _ dT_purse_1 (by decide) rfl rfl ?_
  refine V.iconst (0 : Int32) dT_purse_2 lc0 rfl ?_
  refine V.istoren _ dT_purse_3 (by decide) rfl rfl ?_
  refine V.sub [2, 3, 1, 0] rfl ?_
  exact wT_purse_4 300 σ r0 i1 (0 : Int32) (0 : Int32) ht_r0 hX
theorem kT_purse {E : Ev} {σ : St} {r0 : Nat} {i1 : Int32} {z : Int32} (ht_r0 : isTb r0 = true) (h : fT_purse σ r0 i1 = some z) : Ct mT_purse E [.ref r0, .int i1] σ (some (.int z), σ) := Ct.of (by decide) (Nat.le_of_ble_eq_true rfl) (wT_purse σ r0 i1 ht_r0 h)
theorem dE_holds_0 : decode mE_holds.1 0 = .ok (.iload_n 0, 1) := by decide +kernel
theorem dE_holds_1 : decode mE_holds.1 1 = .ok (.iload_n 1, 1) := by decide +kernel
theorem dE_holds_2 : decode mE_holds.1 2 = .ok (.ishr, 1) := by decide +kernel
theorem dE_holds_3 : decode mE_holds.1 3 = .ok (.iconst 1, 1) := by decide +kernel
theorem dE_holds_4 : decode mE_holds.1 4 = .ok (.iand, 1) := by decide +kernel
theorem dE_holds_5 : decode mE_holds.1 5 = .ok (.iconst 1, 1) := by decide +kernel
theorem dE_holds_6 : decode mE_holds.1 6 = .ok (.if_icmp .ne 7, 3) := by decide +kernel
theorem dE_holds_9 : decode mE_holds.1 9 = .ok (.iconst 1, 1) := by decide +kernel
theorem dE_holds_10 : decode mE_holds.1 10 = .ok (.goto 4, 3) := by decide +kernel
theorem dE_holds_13 : decode mE_holds.1 13 = .ok (.iconst 0, 1) := by decide +kernel
theorem dE_holds_14 : decode mE_holds.1 14 = .ok (.ireturn, 1) := by decide +kernel
set_option maxRecDepth 4000 in
theorem wE_holds {E : Ev} {z : Int32} (σ : St) (i0 : Int32) (i1 : Int32) (hX : fE_holds i0 i1 = z) : V E mE_holds (FM E (some (.int z), σ)) 0 [(0, .int i0), (1, .int i1)] [] σ := by
  unfold fE_holds at hX
  refine V.iloadn 0 dE_holds_0 rfl rfl ?_
  refine V.iloadn 1 dE_holds_1 rfl rfl ?_
  refine V.ishr dE_holds_2 rfl ?_
  refine V.iconst (1 : Int32) dE_holds_3 lc1 rfl ?_
  refine V.iand dE_holds_4 rfl ?_
  refine V.iconst (1 : Int32) dE_holds_5 lc1 rfl ?_
  have JJ : V E mE_holds (FM E (some (.int z), σ)) 14 [(0, .int i0), (1, .int i1)] [.int (if ((i0 >>> (i1 &&& 31)) &&& (1 : Int32)) = (1 : Int32) then (1 : Int32) else (0 : Int32))] σ := by
    subst hX; exact V.zret .boolean dE_holds_14 rfl (nz (b01_i b01_1 b01_0)).1 rfl
  refine V.icmpne 13 dE_holds_6 rfl rfl (fun g1 => ?_) (fun g1 => ?_)
  · refine V.iconst (0 : Int32) dE_holds_13 lc0 rfl ?_
    exact V.top (if_neg g1).symm JJ
  · refine V.iconst (1 : Int32) dE_holds_9 lc1 rfl ?_
    refine V.goto 14 dE_holds_10 rfl ?_
    exact V.top (if_pos g1).symm JJ
theorem kE_holds {E : Ev} {σ : St} (i0 : Int32) (i1 : Int32) : Ct mE_holds E [.int i0, .int i1] σ (some (.int (fE_holds i0 i1)), σ) := Ct.of (by decide) (Nat.le_of_ble_eq_true rfl) (wE_holds σ i0 i1 rfl)
theorem bE_holds (i0 : Int32) (i1 : Int32) : b01 (fE_holds i0 i1) := by
  unfold fE_holds
  exact (b01_i b01_1 b01_0)
theorem dT_worth_0 : decode mT_worth.1 0 = .ok (.aload_n 0, 1) := by decide +kernel
theorem dT_worth_1 : decode mT_worth.1 1 = .ok (.getfield 34, 3) := by decide +kernel
theorem dT_worth_4 : decode mT_worth.1 4 = .ok (.iload_n 1, 1) := by decide +kernel
theorem dT_worth_5 : decode mT_worth.1 5 = .ok (.iaload, 1) := by decide +kernel
theorem dT_worth_6 : decode mT_worth.1 6 = .ok (.iconst 2, 1) := by decide +kernel
theorem dT_worth_7 : decode mT_worth.1 7 = .ok (.idiv, 1) := by decide +kernel
theorem dT_worth_8 : decode mT_worth.1 8 = .ok (.istore_n 2, 1) := by decide +kernel
theorem dT_worth_9 : decode mT_worth.1 9 = .ok (.aload_n 0, 1) := by decide +kernel
theorem dT_worth_10 : decode mT_worth.1 10 = .ok (.getfield 31, 3) := by decide +kernel
theorem dT_worth_13 : decode mT_worth.1 13 = .ok (.iload_n 1, 1) := by decide +kernel
theorem dT_worth_14 : decode mT_worth.1 14 = .ok (.iaload, 1) := by decide +kernel
theorem dT_worth_15 : decode mT_worth.1 15 = .ok (.tableswitch 76 1 5 #[33, 35, 44, 56, 67], 33) := by decide +kernel
theorem dT_worth_48 : decode mT_worth.1 48 = .ok (.iload_n 2, 1) := by decide +kernel
theorem dT_worth_49 : decode mT_worth.1 49 = .ok (.ireturn, 1) := by decide +kernel
theorem dT_worth_50 : decode mT_worth.1 50 = .ok (.iconst 2, 1) := by decide +kernel
theorem dT_worth_51 : decode mT_worth.1 51 = .ok (.aload_n 0, 1) := by decide +kernel
theorem dT_worth_52 : decode mT_worth.1 52 = .ok (.getfield 34, 3) := by decide +kernel
theorem dT_worth_55 : decode mT_worth.1 55 = .ok (.iload_n 1, 1) := by decide +kernel
theorem dT_worth_56 : decode mT_worth.1 56 = .ok (.iaload, 1) := by decide +kernel
theorem dT_worth_57 : decode mT_worth.1 57 = .ok (.imul, 1) := by decide +kernel
theorem dT_worth_58 : decode mT_worth.1 58 = .ok (.ireturn, 1) := by decide +kernel
theorem dT_worth_59 : decode mT_worth.1 59 = .ok (.iload_n 2, 1) := by decide +kernel
theorem dT_worth_60 : decode mT_worth.1 60 = .ok (.bipush 10, 2) := by decide +kernel
theorem dT_worth_62 : decode mT_worth.1 62 = .ok (.if_icmp .ge 7, 3) := by decide +kernel
theorem dT_worth_65 : decode mT_worth.1 65 = .ok (.iconst 0, 1) := by decide +kernel
theorem dT_worth_66 : decode mT_worth.1 66 = .ok (.goto 4, 3) := by decide +kernel
theorem dT_worth_69 : decode mT_worth.1 69 = .ok (.iload_n 2, 1) := by decide +kernel
theorem dT_worth_70 : decode mT_worth.1 70 = .ok (.ireturn, 1) := by decide +kernel
theorem dT_worth_71 : decode mT_worth.1 71 = .ok (.iconst 2, 1) := by decide +kernel
theorem dT_worth_72 : decode mT_worth.1 72 = .ok (.aload_n 0, 1) := by decide +kernel
theorem dT_worth_73 : decode mT_worth.1 73 = .ok (.getfield 34, 3) := by decide +kernel
theorem dT_worth_76 : decode mT_worth.1 76 = .ok (.iload_n 1, 1) := by decide +kernel
theorem dT_worth_77 : decode mT_worth.1 77 = .ok (.iaload, 1) := by decide +kernel
theorem dT_worth_78 : decode mT_worth.1 78 = .ok (.imul, 1) := by decide +kernel
theorem dT_worth_79 : decode mT_worth.1 79 = .ok (.iconst 3, 1) := by decide +kernel
theorem dT_worth_80 : decode mT_worth.1 80 = .ok (.iadd, 1) := by decide +kernel
theorem dT_worth_81 : decode mT_worth.1 81 = .ok (.ireturn, 1) := by decide +kernel
theorem dT_worth_82 : decode mT_worth.1 82 = .ok (.aload_n 0, 1) := by decide +kernel
theorem dT_worth_83 : decode mT_worth.1 83 = .ok (.getfield 34, 3) := by decide +kernel
theorem dT_worth_86 : decode mT_worth.1 86 = .ok (.iload_n 1, 1) := by decide +kernel
theorem dT_worth_87 : decode mT_worth.1 87 = .ok (.iaload, 1) := by decide +kernel
theorem dT_worth_88 : decode mT_worth.1 88 = .ok (.iconst 1, 1) := by decide +kernel
theorem dT_worth_89 : decode mT_worth.1 89 = .ok (.isub, 1) := by decide +kernel
theorem dT_worth_90 : decode mT_worth.1 90 = .ok (.ireturn, 1) := by decide +kernel
theorem dT_worth_91 : decode mT_worth.1 91 = .ok (.aload_n 0, 1) := by decide +kernel
theorem dT_worth_92 : decode mT_worth.1 92 = .ok (.getfield 34, 3) := by decide +kernel
theorem dT_worth_95 : decode mT_worth.1 95 = .ok (.iload_n 1, 1) := by decide +kernel
theorem dT_worth_96 : decode mT_worth.1 96 = .ok (.iaload, 1) := by decide +kernel
theorem dT_worth_97 : decode mT_worth.1 97 = .ok (.ireturn, 1) := by decide +kernel
set_option maxRecDepth 4000 in
theorem wT_worth {E : Ev} {z : Int32} (σ : St) (r0 : Nat) (i1 : Int32) (ht_r0 : isTb r0 = true) (hX : fT_worth σ r0 i1 = some z) : V E mT_worth (FM E (some (.int z), σ)) 0 [(0, .ref r0), (1, .int i1)] [] σ := by
  unfold fT_worth at hX
  refine V.aloadn 0 dT_worth_0 rfl rfl ?_
  refine V.getr r0 (r0 + 5) dT_worth_1 flT_34 (tk0 ht_r0) rfl rfl ?_
  refine V.iloadn 1 dT_worth_4 rfl rfl ?_
  obtain ⟨h1, hX⟩ := ob hX
  refine V.iald (r0 + 5) dT_worth_5 (tk5 ht_r0) h1 rfl ?_
  refine V.iconst (2 : Int32) dT_worth_6 lc2 rfl ?_
  refine V.idiv dT_worth_7 (by decide) rfl ?_
  refine V.istoren _ dT_worth_8 (by decide) rfl rfl ?_
  replace hX := nmx hX; generalize (gI σ (r0 + 5) (ix i1)) / (2 : Int32) = v2 at hX ⊢; try dsimp only at hX
  refine V.aloadn 1 dT_worth_9 rfl rfl ?_
  refine V.getr r0 (r0 + 4) dT_worth_10 flT_31 (tk0 ht_r0) rfl rfl ?_
  refine V.iloadn 2 dT_worth_13 rfl rfl ?_
  obtain ⟨h3, hX⟩ := ob hX
  refine V.iald (r0 + 4) dT_worth_14 (tk4 ht_r0) h3 rfl ?_
  by_cases g4 : (gI σ (r0 + 4) (ix i1)) = (1 : Int32)
  · replace hX := ip hX g4
    refine V.tabIn (off := 33) 48 dT_worth_15 (by rw [g4]; decide) (by rw [g4]; decide) (by rw [g4]; rfl) rfl ?_
    refine V.iloadn 0 dT_worth_48 rfl rfl ?_
    have hX := (Option.some.inj hX).symm; subst hX; exact V.iret dT_worth_49 rfl rfl
  · replace hX := im hX g4
    by_cases g5 : (gI σ (r0 + 4) (ix i1)) = (2 : Int32)
    · replace hX := ip hX g5
      refine V.tabIn (off := 35) 50 dT_worth_15 (by rw [g5]; decide) (by rw [g5]; decide) (by rw [g5]; rfl) rfl ?_
      refine V.iconst (2 : Int32) dT_worth_50 lc2 rfl ?_
      refine V.aloadn 1 dT_worth_51 rfl rfl ?_
      refine V.getr r0 (r0 + 5) dT_worth_52 flT_34 (tk0 ht_r0) rfl rfl ?_
      refine V.iloadn 2 dT_worth_55 rfl rfl ?_
      obtain ⟨h6, hX⟩ := ob hX
      refine V.iald (r0 + 5) dT_worth_56 (tk5 ht_r0) h6 rfl ?_
      refine V.imul dT_worth_57 rfl ?_
      have hX := (Option.some.inj hX).symm; subst hX; exact V.iret dT_worth_58 rfl rfl
    · replace hX := im hX g5
      by_cases g7 : (gI σ (r0 + 4) (ix i1)) = (3 : Int32)
      · replace hX := ip hX g7
        refine V.tabIn (off := 44) 59 dT_worth_15 (by rw [g7]; decide) (by rw [g7]; decide) (by rw [g7]; rfl) rfl ?_
        refine V.iloadn 0 dT_worth_59 rfl rfl ?_
        refine V.bipush (10 : Int32) dT_worth_60 lb10 rfl ?_
        have JJ : V E mT_worth (FM E (some (.int z), σ)) 70 [(2, .int v2), (0, .ref r0), (1, .int i1)] [.int (if (10 : Int32) ≤ v2 then v2 else (0 : Int32))] σ := by
          have hX := (Option.some.inj hX).symm; subst hX; exact V.iret dT_worth_70 rfl rfl
        refine V.icmpge 69 dT_worth_62 rfl rfl (fun g8 => ?_) (fun g8 => ?_)
        · refine V.iloadn 0 dT_worth_69 rfl rfl ?_
          exact V.top (if_pos g8).symm JJ
        · refine V.iconst (0 : Int32) dT_worth_65 lc0 rfl ?_
          refine V.goto 70 dT_worth_66 rfl ?_
          exact V.top (if_neg g8).symm JJ
      · replace hX := im hX g7
        by_cases g9 : (gI σ (r0 + 4) (ix i1)) = (4 : Int32)
        · replace hX := ip hX g9
          refine V.tabIn (off := 56) 71 dT_worth_15 (by rw [g9]; decide) (by rw [g9]; decide) (by rw [g9]; rfl) rfl ?_
          refine V.iconst (2 : Int32) dT_worth_71 lc2 rfl ?_
          refine V.aloadn 1 dT_worth_72 rfl rfl ?_
          refine V.getr r0 (r0 + 5) dT_worth_73 flT_34 (tk0 ht_r0) rfl rfl ?_
          refine V.iloadn 2 dT_worth_76 rfl rfl ?_
          obtain ⟨h10, hX⟩ := ob hX
          refine V.iald (r0 + 5) dT_worth_77 (tk5 ht_r0) h10 rfl ?_
          refine V.imul dT_worth_78 rfl ?_
          refine V.iconst (3 : Int32) dT_worth_79 lc3 rfl ?_
          refine V.iadd dT_worth_80 rfl ?_
          have hX := (Option.some.inj hX).symm; subst hX; exact V.iret dT_worth_81 rfl rfl
        · replace hX := im hX g9
          by_cases g11 : (gI σ (r0 + 4) (ix i1)) = (5 : Int32)
          · replace hX := ip hX g11
            refine V.tabIn (off := 67) 82 dT_worth_15 (by rw [g11]; decide) (by rw [g11]; decide) (by rw [g11]; rfl) rfl ?_
            refine V.aloadn 1 dT_worth_82 rfl rfl ?_
            refine V.getr r0 (r0 + 5) dT_worth_83 flT_34 (tk0 ht_r0) rfl rfl ?_
            refine V.iloadn 2 dT_worth_86 rfl rfl ?_
            obtain ⟨h12, hX⟩ := ob hX
            refine V.iald (r0 + 5) dT_worth_87 (tk5 ht_r0) h12 rfl ?_
            refine V.iconst (1 : Int32) dT_worth_88 lc1 rfl ?_
            refine V.isub dT_worth_89 rfl ?_
            have hX := (Option.some.inj hX).symm; subst hX; exact V.iret dT_worth_90 rfl rfl
          · replace hX := im hX g11
            refine V.tabOut 91 dT_worth_15 (by have a0 := lv_neT g4 (a := 1) (by decide); have a1 := lv_neT g5 (a := 2) (by decide); have a2 := lv_neT g7 (a := 3) (by decide); have a3 := lv_neT g9 (a := 4) (by decide); have a4 := lv_neT g11 (a := 5) (by decide); omega) rfl ?_
            refine V.aloadn 1 dT_worth_91 rfl rfl ?_
            refine V.getr r0 (r0 + 5) dT_worth_92 flT_34 (tk0 ht_r0) rfl rfl ?_
            refine V.iloadn 2 dT_worth_95 rfl rfl ?_
            obtain ⟨h13, hX⟩ := ob hX
            refine V.iald (r0 + 5) dT_worth_96 (tk5 ht_r0) h13 rfl ?_
            have hX := (Option.some.inj hX).symm; subst hX; exact V.iret dT_worth_97 rfl rfl
theorem kT_worth {E : Ev} {σ : St} {r0 : Nat} {i1 : Int32} {z : Int32} (ht_r0 : isTb r0 = true) (h : fT_worth σ r0 i1 = some z) : Ct mT_worth E [.ref r0, .int i1] σ (some (.int z), σ) := Ct.of (by decide) (Nat.le_of_ble_eq_true rfl) (wT_worth σ r0 i1 ht_r0 h)
theorem dT_worthOfAll_0 : decode mT_worthOfAll.1 0 = .ok (.iconst 0, 1) := by decide +kernel
theorem dT_worthOfAll_1 : decode mT_worthOfAll.1 1 = .ok (.istore_n 2, 1) := by decide +kernel
theorem dT_worthOfAll_2 : decode mT_worthOfAll.1 2 = .ok (.iconst 0, 1) := by decide +kernel
theorem dT_worthOfAll_3 : decode mT_worthOfAll.1 3 = .ok (.istore_n 3, 1) := by decide +kernel
theorem dT_worthOfAll_4 : decode mT_worthOfAll.1 4 = .ok (.iload_n 3, 1) := by decide +kernel
theorem dT_worthOfAll_5 : decode mT_worthOfAll.1 5 = .ok (.aload_n 0, 1) := by decide +kernel
theorem dT_worthOfAll_6 : decode mT_worthOfAll.1 6 = .ok (.getfield 15, 3) := by decide +kernel
theorem dT_worthOfAll_9 : decode mT_worthOfAll.1 9 = .ok (.if_icmp .ge 29, 3) := by decide +kernel
theorem dT_worthOfAll_12 : decode mT_worthOfAll.1 12 = .ok (.iload_n 2, 1) := by decide +kernel
theorem dT_worthOfAll_13 : decode mT_worthOfAll.1 13 = .ok (.iload_n 1, 1) := by decide +kernel
theorem dT_worthOfAll_14 : decode mT_worthOfAll.1 14 = .ok (.iload_n 3, 1) := by decide +kernel
theorem dT_worthOfAll_15 : decode mT_worthOfAll.1 15 = .ok (.invokestatic 49, 3) := by decide +kernel
theorem dT_worthOfAll_18 : decode mT_worthOfAll.1 18 = .ok (.ifCond .eq 11, 3) := by decide +kernel
theorem dT_worthOfAll_21 : decode mT_worthOfAll.1 21 = .ok (.aload_n 0, 1) := by decide +kernel
theorem dT_worthOfAll_22 : decode mT_worthOfAll.1 22 = .ok (.iload_n 3, 1) := by decide +kernel
theorem dT_worthOfAll_23 : decode mT_worthOfAll.1 23 = .ok (.invokevirtual 59, 3) := by decide +kernel
theorem dT_worthOfAll_26 : decode mT_worthOfAll.1 26 = .ok (.goto 4, 3) := by decide +kernel
theorem dT_worthOfAll_29 : decode mT_worthOfAll.1 29 = .ok (.iconst 0, 1) := by decide +kernel
theorem dT_worthOfAll_30 : decode mT_worthOfAll.1 30 = .ok (.iadd, 1) := by decide +kernel
theorem dT_worthOfAll_31 : decode mT_worthOfAll.1 31 = .ok (.istore_n 2, 1) := by decide +kernel
theorem dT_worthOfAll_32 : decode mT_worthOfAll.1 32 = .ok (.iinc 3 1, 3) := by decide +kernel
theorem dT_worthOfAll_35 : decode mT_worthOfAll.1 35 = .ok (.goto (-31), 3) := by decide +kernel
theorem dT_worthOfAll_38 : decode mT_worthOfAll.1 38 = .ok (.iload_n 2, 1) := by decide +kernel
theorem dT_worthOfAll_39 : decode mT_worthOfAll.1 39 = .ok (.ireturn, 1) := by decide +kernel
set_option maxRecDepth 4000 in
theorem wT_worthOfAll_4 {E : Ev} {z : Int32} : ∀ (fu : Nat) (σ : St) (r0 : Nat) (i1 : Int32) (i2 : Int32) (i3 : Int32) (ht_r0 : isTb r0 = true), fT_worthOfAll_4 fu σ r0 i1 i2 i3 = some z → V E mT_worthOfAll (FM E (some (.int z), σ)) 4 [(0, .ref r0), (1, .int i1), (2, .int i2), (3, .int i3)] [] σ := by
  intro fu
  induction fu with
  | zero => intro σ r0 i1 i2 i3 ht_r0 hX; cases hX
  | succ fu ih =>
    intro σ r0 i1 i2 i3 ht_r0 hX
    rw [fT_worthOfAll_4] at hX
    refine V.iloadn 3 dT_worthOfAll_4 rfl rfl ?_
    refine V.aloadn 0 dT_worthOfAll_5 rfl rfl ?_
    refine V.geti r0 dT_worthOfAll_6 flT_15 (tk0 ht_r0) rfl ?_
    refine V.icmpge 38 dT_worthOfAll_9 rfl rfl (fun g1 => ?_) (fun g1 => ?_)
    · replace hX := ip hX g1
      refine V.iloadn 2 dT_worthOfAll_38 rfl rfl ?_
      have hX := (Option.some.inj hX).symm; subst hX; exact V.iret dT_worthOfAll_39 rfl rfl
    · replace hX := im hX g1
      refine V.iloadn 2 dT_worthOfAll_12 rfl rfl ?_
      refine V.iloadn 1 dT_worthOfAll_13 rfl rfl ?_
      refine V.iloadn 3 dT_worthOfAll_14 rfl rfl ?_
      refine V.callNi [.int i1, .int i3] dT_worthOfAll_15 (kE_holds (σ := σ) i1 i3) (fun U h => h.2.2.2.2.2.2.2.2.1) myE_holds mnE_holds ⟨rfl, rfl, by decide, by decide⟩ rfl (Nat.le_of_ble_eq_true rfl) ⟨Nat.zero_le _, Nat.zero_le _⟩ rfl ?_
      refine V.ifeq 29 dT_worthOfAll_18 rfl rfl (fun g2 => ?_) (fun g2 => ?_)
      · replace hX := ip hX g2
        refine V.iconst (0 : Int32) dT_worthOfAll_29 lc0 rfl ?_
        refine V.iadd dT_worthOfAll_30 rfl ?_
        refine V.istoren _ dT_worthOfAll_31 (by decide) rfl rfl ?_
        replace hX := nmx hX; generalize i2 + (0 : Int32) = v3 at hX ⊢; try dsimp only at hX
        refine V.iinc 3 (1 : Int32) _ dT_worthOfAll_32 rfl lc1 (by decide) rfl rfl ?_
        replace hX := nmx hX; generalize i3 + (1 : Int32) = v4 at hX ⊢; try dsimp only at hX
        refine V.goto 4 dT_worthOfAll_35 rfl ?_
        refine V.sub [2, 3, 1, 0] rfl ?_
        exact ih σ r0 i1 v3 v4 ht_r0 hX
      · replace hX := im hX g2
        refine V.aloadn 0 dT_worthOfAll_21 rfl rfl ?_
        refine V.iloadn 3 dT_worthOfAll_22 rfl rfl ?_
        obtain ⟨q5, c6, hX⟩ := bd hX; try dsimp only at hX
        refine V.callvi r0 [.int i3] dT_worthOfAll_23 (kT_worth ht_r0 c6) mlT_59 myT_worth mnT_worth ⟨rfl, rfl, by decide, by decide⟩ (tk0 ht_r0) (by decide) rfl (Nat.le_of_ble_eq_true rfl) ⟨Nat.zero_le _, Nat.zero_le _⟩ rfl ?_
        refine V.goto 30 dT_worthOfAll_26 rfl ?_
        refine V.iadd dT_worthOfAll_30 rfl ?_
        refine V.istoren _ dT_worthOfAll_31 (by decide) rfl rfl ?_
        replace hX := nmx hX; generalize i2 + q5 = v7 at hX ⊢; try dsimp only at hX
        refine V.iinc 3 (1 : Int32) _ dT_worthOfAll_32 rfl lc1 (by decide) rfl rfl ?_
        replace hX := nmx hX; generalize i3 + (1 : Int32) = v8 at hX ⊢; try dsimp only at hX
        refine V.goto 4 dT_worthOfAll_35 rfl ?_
        refine V.sub [2, 3, 1, 0] rfl ?_
        exact ih σ r0 i1 v7 v8 ht_r0 hX
set_option maxRecDepth 4000 in
theorem wT_worthOfAll {E : Ev} {z : Int32} (σ : St) (r0 : Nat) (i1 : Int32) (ht_r0 : isTb r0 = true) (hX : fT_worthOfAll σ r0 i1 = some z) : V E mT_worthOfAll (FM E (some (.int z), σ)) 0 [(0, .ref r0), (1, .int i1)] [] σ := by
  unfold fT_worthOfAll at hX
  refine V.iconst (0 : Int32) dT_worthOfAll_0 lc0 rfl ?_
  refine V.istoren _ dT_worthOfAll_1 (by decide) rfl rfl ?_
  refine V.iconst (0 : Int32) dT_worthOfAll_2 lc0 rfl ?_
  refine V.istoren _ dT_worthOfAll_3 (by decide) rfl rfl ?_
  refine V.sub [2, 3, 1, 0] rfl ?_
  exact wT_worthOfAll_4 300 σ r0 i1 (0 : Int32) (0 : Int32) ht_r0 hX
theorem kT_worthOfAll {E : Ev} {σ : St} {r0 : Nat} {i1 : Int32} {z : Int32} (ht_r0 : isTb r0 = true) (h : fT_worthOfAll σ r0 i1 = some z) : Ct mT_worthOfAll E [.ref r0, .int i1] σ (some (.int z), σ) := Ct.of (by decide) (Nat.le_of_ble_eq_true rfl) (wT_worthOfAll σ r0 i1 ht_r0 h)
theorem dT_riches_0 : decode mT_riches.1 0 = .ok (.aload_n 0, 1) := by decide +kernel
theorem dT_riches_1 : decode mT_riches.1 1 = .ok (.aload_n 0, 1) := by decide +kernel
theorem dT_riches_2 : decode mT_riches.1 2 = .ok (.iload_n 1, 1) := by decide +kernel
theorem dT_riches_3 : decode mT_riches.1 3 = .ok (.invokevirtual 65, 3) := by decide +kernel
theorem dT_riches_6 : decode mT_riches.1 6 = .ok (.invokevirtual 68, 3) := by decide +kernel
theorem dT_riches_9 : decode mT_riches.1 9 = .ok (.aload_n 0, 1) := by decide +kernel
theorem dT_riches_10 : decode mT_riches.1 10 = .ok (.getfield 25, 3) := by decide +kernel
theorem dT_riches_13 : decode mT_riches.1 13 = .ok (.iload_n 1, 1) := by decide +kernel
theorem dT_riches_14 : decode mT_riches.1 14 = .ok (.iaload, 1) := by decide +kernel
theorem dT_riches_15 : decode mT_riches.1 15 = .ok (.iadd, 1) := by decide +kernel
theorem dT_riches_16 : decode mT_riches.1 16 = .ok (.ireturn, 1) := by decide +kernel
set_option maxRecDepth 4000 in
theorem wT_riches {E : Ev} {z : Int32} (σ : St) (r0 : Nat) (i1 : Int32) (ht_r0 : isTb r0 = true) (hX : fT_riches σ r0 i1 = some z) : V E mT_riches (FM E (some (.int z), σ)) 0 [(0, .ref r0), (1, .int i1)] [] σ := by
  unfold fT_riches at hX
  refine V.aloadn 0 dT_riches_0 rfl rfl ?_
  refine V.aloadn 0 dT_riches_1 rfl rfl ?_
  refine V.iloadn 1 dT_riches_2 rfl rfl ?_
  obtain ⟨q1, c2, hX⟩ := bd hX; try dsimp only at hX
  refine V.callvi r0 [.int i1] dT_riches_3 (kT_purse ht_r0 c2) mlT_65 myT_purse mnT_purse ⟨rfl, rfl, by decide, by decide⟩ (tk0 ht_r0) (by decide) rfl (Nat.le_of_ble_eq_true rfl) ⟨Nat.zero_le _, Nat.zero_le _⟩ rfl ?_
  obtain ⟨q3, c4, hX⟩ := bd hX; try dsimp only at hX
  refine V.callvi r0 [.int q1] dT_riches_6 (kT_worthOfAll ht_r0 c4) mlT_68 myT_worthOfAll mnT_worthOfAll ⟨rfl, rfl, by decide, by decide⟩ (tk0 ht_r0) (by decide) rfl (Nat.le_of_ble_eq_true rfl) ⟨Nat.zero_le _, Nat.zero_le _⟩ rfl ?_
  refine V.aloadn 0 dT_riches_9 rfl rfl ?_
  refine V.getr r0 (r0 + 2) dT_riches_10 flT_25 (tk0 ht_r0) rfl rfl ?_
  refine V.iloadn 1 dT_riches_13 rfl rfl ?_
  obtain ⟨h5, hX⟩ := ob hX
  refine V.iald (r0 + 2) dT_riches_14 (tk2 ht_r0) h5 rfl ?_
  refine V.iadd dT_riches_15 rfl ?_
  have hX := (Option.some.inj hX).symm; subst hX; exact V.iret dT_riches_16 rfl rfl
theorem kT_riches {E : Ev} {σ : St} {r0 : Nat} {i1 : Int32} {z : Int32} (ht_r0 : isTb r0 = true) (h : fT_riches σ r0 i1 = some z) : Ct mT_riches E [.ref r0, .int i1] σ (some (.int z), σ) := Ct.of (by decide) (Nat.le_of_ble_eq_true rfl) (wT_riches σ r0 i1 ht_r0 h)
theorem dE_personOf_0 : decode mE_personOf.1 0 = .ok (.aload_n 0, 1) := by decide +kernel
theorem dE_personOf_1 : decode mE_personOf.1 1 = .ok (.getfield 10, 3) := by decide +kernel
theorem dE_personOf_4 : decode mE_personOf.1 4 = .ok (.iload_n 1, 1) := by decide +kernel
theorem dE_personOf_5 : decode mE_personOf.1 5 = .ok (.invokevirtual 86, 3) := by decide +kernel
theorem dE_personOf_8 : decode mE_personOf.1 8 = .ok (.ifCond .ne 5, 3) := by decide +kernel
theorem dE_personOf_11 : decode mE_personOf.1 11 = .ok (.iconst (-1), 1) := by decide +kernel
theorem dE_personOf_12 : decode mE_personOf.1 12 = .ok (.ireturn, 1) := by decide +kernel
theorem dE_personOf_13 : decode mE_personOf.1 13 = .ok (.iload_n 2, 1) := by decide +kernel
theorem dE_personOf_14 : decode mE_personOf.1 14 = .ok (.tableswitch 82 0 4 #[34, 44, 54, 63, 72], 34) := by decide +kernel
theorem dE_personOf_48 : decode mE_personOf.1 48 = .ok (.aload_n 0, 1) := by decide +kernel
theorem dE_personOf_49 : decode mE_personOf.1 49 = .ok (.getfield 10, 3) := by decide +kernel
theorem dE_personOf_52 : decode mE_personOf.1 52 = .ok (.getfield 89, 3) := by decide +kernel
theorem dE_personOf_55 : decode mE_personOf.1 55 = .ok (.iload_n 1, 1) := by decide +kernel
theorem dE_personOf_56 : decode mE_personOf.1 56 = .ok (.iaload, 1) := by decide +kernel
theorem dE_personOf_57 : decode mE_personOf.1 57 = .ok (.ireturn, 1) := by decide +kernel
theorem dE_personOf_58 : decode mE_personOf.1 58 = .ok (.aload_n 0, 1) := by decide +kernel
theorem dE_personOf_59 : decode mE_personOf.1 59 = .ok (.getfield 10, 3) := by decide +kernel
theorem dE_personOf_62 : decode mE_personOf.1 62 = .ok (.getfield 92, 3) := by decide +kernel
theorem dE_personOf_65 : decode mE_personOf.1 65 = .ok (.iload_n 1, 1) := by decide +kernel
theorem dE_personOf_66 : decode mE_personOf.1 66 = .ok (.iaload, 1) := by decide +kernel
theorem dE_personOf_67 : decode mE_personOf.1 67 = .ok (.ireturn, 1) := by decide +kernel
theorem dE_personOf_68 : decode mE_personOf.1 68 = .ok (.aload_n 0, 1) := by decide +kernel
theorem dE_personOf_69 : decode mE_personOf.1 69 = .ok (.getfield 10, 3) := by decide +kernel
theorem dE_personOf_72 : decode mE_personOf.1 72 = .ok (.iload_n 1, 1) := by decide +kernel
theorem dE_personOf_73 : decode mE_personOf.1 73 = .ok (.invokevirtual 95, 3) := by decide +kernel
theorem dE_personOf_76 : decode mE_personOf.1 76 = .ok (.ireturn, 1) := by decide +kernel
theorem dE_personOf_77 : decode mE_personOf.1 77 = .ok (.aload_n 0, 1) := by decide +kernel
theorem dE_personOf_78 : decode mE_personOf.1 78 = .ok (.getfield 10, 3) := by decide +kernel
theorem dE_personOf_81 : decode mE_personOf.1 81 = .ok (.iload_n 1, 1) := by decide +kernel
theorem dE_personOf_82 : decode mE_personOf.1 82 = .ok (.invokevirtual 98, 3) := by decide +kernel
theorem dE_personOf_85 : decode mE_personOf.1 85 = .ok (.ireturn, 1) := by decide +kernel
theorem dE_personOf_86 : decode mE_personOf.1 86 = .ok (.aload_n 0, 1) := by decide +kernel
theorem dE_personOf_87 : decode mE_personOf.1 87 = .ok (.getfield 10, 3) := by decide +kernel
theorem dE_personOf_90 : decode mE_personOf.1 90 = .ok (.getfield 101, 3) := by decide +kernel
theorem dE_personOf_93 : decode mE_personOf.1 93 = .ok (.iload_n 1, 1) := by decide +kernel
theorem dE_personOf_94 : decode mE_personOf.1 94 = .ok (.iaload, 1) := by decide +kernel
theorem dE_personOf_95 : decode mE_personOf.1 95 = .ok (.ireturn, 1) := by decide +kernel
theorem dE_personOf_96 : decode mE_personOf.1 96 = .ok (.iconst (-1), 1) := by decide +kernel
theorem dE_personOf_97 : decode mE_personOf.1 97 = .ok (.ireturn, 1) := by decide +kernel
set_option maxRecDepth 4000 in
theorem wE_personOf {E : Ev} {z : Int32} (σ : St) (i1 : Int32) (i2 : Int32) (hX : fE_personOf σ i1 i2 = some z) : V E mE_personOf (FM E (some (.int z), σ)) 0 [(0, .ref 0), (1, .int i1), (2, .int i2)] [] σ := by
  unfold fE_personOf at hX
  refine V.aloadn 0 dE_personOf_0 rfl rfl ?_
  refine V.getd 0 dE_personOf_1 flE_10 (rfl : kd 0 = (5, 0)) rfl ?_
  refine V.iloadn 1 dE_personOf_4 rfl rfl ?_
  obtain ⟨h1, hX⟩ := ob hX
  refine V.callvi (gR σ 0) [.int i1] dE_personOf_5 (kT_hasPerson (σ := σ) (gR σ 0) i1 h1) mlE_86 myT_hasPerson mnT_hasPerson ⟨rfl, rfl, by decide, by decide⟩ (tk0 h1) (by decide) rfl (Nat.le_of_ble_eq_true rfl) ⟨Nat.zero_le _, Nat.zero_le _⟩ rfl ?_
  refine V.ifne 13 dE_personOf_8 rfl rfl (fun g2 => ?_) (fun g2 => ?_)
  · replace hX := im hX g2
    refine V.iloadn 2 dE_personOf_13 rfl rfl ?_
    by_cases g3 : i2 = (0 : Int32)
    · replace hX := ip hX g3
      refine V.tabIn (off := 34) 48 dE_personOf_14 (by rw [g3]; decide) (by rw [g3]; decide) (by rw [g3]; rfl) rfl ?_
      refine V.aloadn 0 dE_personOf_48 rfl rfl ?_
      refine V.getd 0 dE_personOf_49 flE_10 (rfl : kd 0 = (5, 0)) rfl ?_
      obtain ⟨h4, hX⟩ := ob hX
      refine V.getr (gR σ 0) ((gR σ 0) + 1) dE_personOf_52 flE_89 (tk0 h4) rfl rfl ?_
      refine V.iloadn 1 dE_personOf_55 rfl rfl ?_
      obtain ⟨h5, hX⟩ := ob hX
      refine V.iald ((gR σ 0) + 1) dE_personOf_56 (tk1 h4) h5 rfl ?_
      have hX := (Option.some.inj hX).symm; subst hX; exact V.iret dE_personOf_57 rfl rfl
    · replace hX := im hX g3
      by_cases g6 : i2 = (1 : Int32)
      · replace hX := ip hX g6
        refine V.tabIn (off := 44) 58 dE_personOf_14 (by rw [g6]; decide) (by rw [g6]; decide) (by rw [g6]; rfl) rfl ?_
        refine V.aloadn 0 dE_personOf_58 rfl rfl ?_
        refine V.getd 0 dE_personOf_59 flE_10 (rfl : kd 0 = (5, 0)) rfl ?_
        obtain ⟨h7, hX⟩ := ob hX
        refine V.getr (gR σ 0) ((gR σ 0) + 2) dE_personOf_62 flE_92 (tk0 h7) rfl rfl ?_
        refine V.iloadn 1 dE_personOf_65 rfl rfl ?_
        obtain ⟨h8, hX⟩ := ob hX
        refine V.iald ((gR σ 0) + 2) dE_personOf_66 (tk2 h7) h8 rfl ?_
        have hX := (Option.some.inj hX).symm; subst hX; exact V.iret dE_personOf_67 rfl rfl
      · replace hX := im hX g6
        by_cases g9 : i2 = (2 : Int32)
        · replace hX := ip hX g9
          refine V.tabIn (off := 54) 68 dE_personOf_14 (by rw [g9]; decide) (by rw [g9]; decide) (by rw [g9]; rfl) rfl ?_
          refine V.aloadn 0 dE_personOf_68 rfl rfl ?_
          refine V.getd 0 dE_personOf_69 flE_10 (rfl : kd 0 = (5, 0)) rfl ?_
          refine V.iloadn 1 dE_personOf_72 rfl rfl ?_
          obtain ⟨h10, hX⟩ := ob hX
          obtain ⟨q11, c12, hX⟩ := bd hX; try dsimp only at hX
          refine V.callvi (gR σ 0) [.int i1] dE_personOf_73 (kT_riches h10 c12) mlE_95 myT_riches mnT_riches ⟨rfl, rfl, by decide, by decide⟩ (tk0 h10) (by decide) rfl (Nat.le_of_ble_eq_true rfl) ⟨Nat.zero_le _, Nat.zero_le _⟩ rfl ?_
          have hX := (Option.some.inj hX).symm; subst hX; exact V.iret dE_personOf_76 rfl rfl
        · replace hX := im hX g9
          by_cases g13 : i2 = (3 : Int32)
          · replace hX := ip hX g13
            refine V.tabIn (off := 63) 77 dE_personOf_14 (by rw [g13]; decide) (by rw [g13]; decide) (by rw [g13]; rfl) rfl ?_
            refine V.aloadn 0 dE_personOf_77 rfl rfl ?_
            refine V.getd 0 dE_personOf_78 flE_10 (rfl : kd 0 = (5, 0)) rfl ?_
            refine V.iloadn 1 dE_personOf_81 rfl rfl ?_
            obtain ⟨h14, hX⟩ := ob hX
            obtain ⟨q15, c16, hX⟩ := bd hX; try dsimp only at hX
            refine V.callvi (gR σ 0) [.int i1] dE_personOf_82 (kT_purse h14 c16) mlE_98 myT_purse mnT_purse ⟨rfl, rfl, by decide, by decide⟩ (tk0 h14) (by decide) rfl (Nat.le_of_ble_eq_true rfl) ⟨Nat.zero_le _, Nat.zero_le _⟩ rfl ?_
            have hX := (Option.some.inj hX).symm; subst hX; exact V.iret dE_personOf_85 rfl rfl
          · replace hX := im hX g13
            by_cases g17 : i2 = (4 : Int32)
            · replace hX := ip hX g17
              refine V.tabIn (off := 72) 86 dE_personOf_14 (by rw [g17]; decide) (by rw [g17]; decide) (by rw [g17]; rfl) rfl ?_
              refine V.aloadn 0 dE_personOf_86 rfl rfl ?_
              refine V.getd 0 dE_personOf_87 flE_10 (rfl : kd 0 = (5, 0)) rfl ?_
              obtain ⟨h18, hX⟩ := ob hX
              refine V.getr (gR σ 0) ((gR σ 0) + 3) dE_personOf_90 flE_101 (tk0 h18) rfl rfl ?_
              refine V.iloadn 1 dE_personOf_93 rfl rfl ?_
              obtain ⟨h19, hX⟩ := ob hX
              refine V.iald ((gR σ 0) + 3) dE_personOf_94 (tk3 h18) h19 rfl ?_
              have hX := (Option.some.inj hX).symm; subst hX; exact V.iret dE_personOf_95 rfl rfl
            · replace hX := im hX g17
              refine V.tabOut 96 dE_personOf_14 (by have a0 := lv_neT g3 (a := 0) (by decide); have a1 := lv_neT g6 (a := 1) (by decide); have a2 := lv_neT g9 (a := 2) (by decide); have a3 := lv_neT g13 (a := 3) (by decide); have a4 := lv_neT g17 (a := 4) (by decide); omega) rfl ?_
              refine V.iconst (-1 : Int32) dE_personOf_96 lcm1 rfl ?_
              have hX := (Option.some.inj hX).symm; subst hX; exact V.iret dE_personOf_97 rfl rfl
  · replace hX := ip hX g2
    refine V.iconst (-1 : Int32) dE_personOf_11 lcm1 rfl ?_
    have hX := (Option.some.inj hX).symm; subst hX; exact V.iret dE_personOf_12 rfl rfl
theorem kE_personOf {E : Ev} {σ : St} {i1 : Int32} {i2 : Int32} {z : Int32} (h : fE_personOf σ i1 i2 = some z) : Ct mE_personOf E [.ref 0, .int i1, .int i2] σ (some (.int z), σ) := Ct.of (by decide) (Nat.le_of_ble_eq_true rfl) (wE_personOf σ i1 i2 h)
theorem dE_rank_0 : decode mE_rank.1 0 = .ok (.aload_n 0, 1) := by decide +kernel
theorem dE_rank_1 : decode mE_rank.1 1 = .ok (.getfield 10, 3) := by decide +kernel
theorem dE_rank_4 : decode mE_rank.1 4 = .ok (.iload_n 1, 1) := by decide +kernel
theorem dE_rank_5 : decode mE_rank.1 5 = .ok (.invokevirtual 86, 3) := by decide +kernel
theorem dE_rank_8 : decode mE_rank.1 8 = .ok (.ifCond .eq 10, 3) := by decide +kernel
theorem dE_rank_11 : decode mE_rank.1 11 = .ok (.iload_n 2, 1) := by decide +kernel
theorem dE_rank_12 : decode mE_rank.1 12 = .ok (.invokestatic 78, 3) := by decide +kernel
theorem dE_rank_15 : decode mE_rank.1 15 = .ok (.ifCond .ne 5, 3) := by decide +kernel
theorem dE_rank_18 : decode mE_rank.1 18 = .ok (.iconst (-1), 1) := by decide +kernel
theorem dE_rank_19 : decode mE_rank.1 19 = .ok (.ireturn, 1) := by decide +kernel
theorem dE_rank_20 : decode mE_rank.1 20 = .ok (.aload_n 0, 1) := by decide +kernel
theorem dE_rank_21 : decode mE_rank.1 21 = .ok (.getfield 10, 3) := by decide +kernel
theorem dE_rank_24 : decode mE_rank.1 24 = .ok (.getfield 89, 3) := by decide +kernel
theorem dE_rank_27 : decode mE_rank.1 27 = .ok (.iload_n 1, 1) := by decide +kernel
theorem dE_rank_28 : decode mE_rank.1 28 = .ok (.iaload, 1) := by decide +kernel
theorem dE_rank_29 : decode mE_rank.1 29 = .ok (.istore_n 3, 1) := by decide +kernel
theorem dE_rank_30 : decode mE_rank.1 30 = .ok (.aload_n 0, 1) := by decide +kernel
theorem dE_rank_31 : decode mE_rank.1 31 = .ok (.getfield 10, 3) := by decide +kernel
theorem dE_rank_34 : decode mE_rank.1 34 = .ok (.getfield 89, 3) := by decide +kernel
theorem dE_rank_37 : decode mE_rank.1 37 = .ok (.iload_n 1, 1) := by decide +kernel
theorem dE_rank_38 : decode mE_rank.1 38 = .ok (.iload_n 2, 1) := by decide +kernel
theorem dE_rank_39 : decode mE_rank.1 39 = .ok (.iastore, 1) := by decide +kernel
theorem dE_rank_40 : decode mE_rank.1 40 = .ok (.iload_n 3, 1) := by decide +kernel
theorem dE_rank_41 : decode mE_rank.1 41 = .ok (.ireturn, 1) := by decide +kernel
set_option maxRecDepth 4000 in
theorem wE_rank {E : Ev} {z : Int32 × St} (σ : St) (i1 : Int32) (i2 : Int32) (hX : fE_rank σ i1 i2 = some z) : V E mE_rank (FM E (some (.int z.1), z.2)) 0 [(0, .ref 0), (1, .int i1), (2, .int i2)] [] σ := by
  unfold fE_rank at hX
  refine V.aloadn 0 dE_rank_0 rfl rfl ?_
  refine V.getd 0 dE_rank_1 flE_10 (rfl : kd 0 = (5, 0)) rfl ?_
  refine V.iloadn 1 dE_rank_4 rfl rfl ?_
  obtain ⟨h1, hX⟩ := ob hX
  refine V.callvi (gR σ 0) [.int i1] dE_rank_5 (kT_hasPerson (σ := σ) (gR σ 0) i1 h1) mlE_86 myT_hasPerson mnT_hasPerson ⟨rfl, rfl, by decide, by decide⟩ (tk0 h1) (by decide) rfl (Nat.le_of_ble_eq_true rfl) ⟨Nat.zero_le _, Nat.zero_le _⟩ rfl ?_
  refine V.ifeq 18 dE_rank_8 rfl rfl (fun g2 => ?_) (fun g2 => ?_)
  · replace hX := ip hX g2
    refine V.iconst (-1 : Int32) dE_rank_18 lcm1 rfl ?_
    have hX := (Option.some.inj hX).symm; subst hX; exact V.iret dE_rank_19 rfl rfl
  · replace hX := im hX g2
    refine V.iloadn 2 dE_rank_11 rfl rfl ?_
    refine V.callsi [.int i2] dE_rank_12 (kE_isRank (σ := σ) i2) mlE_78 myE_isRank mnE_isRank ⟨rfl, rfl, by decide, by decide⟩ rfl (Nat.le_of_ble_eq_true rfl) ⟨Nat.zero_le _, Nat.zero_le _⟩ rfl ?_
    refine V.ifne 20 dE_rank_15 rfl rfl (fun g3 => ?_) (fun g3 => ?_)
    · replace hX := im hX g3
      refine V.aloadn 0 dE_rank_20 rfl rfl ?_
      refine V.getd 0 dE_rank_21 flE_10 (rfl : kd 0 = (5, 0)) rfl ?_
      obtain ⟨h4, hX⟩ := ob hX
      refine V.getr (gR σ 0) ((gR σ 0) + 1) dE_rank_24 flE_89 (tk0 h4) rfl rfl ?_
      refine V.iloadn 1 dE_rank_27 rfl rfl ?_
      obtain ⟨h5, hX⟩ := ob hX
      refine V.iald ((gR σ 0) + 1) dE_rank_28 (tk1 h4) h5 rfl ?_
      refine V.istoren _ dE_rank_29 (by decide) rfl rfl ?_
      replace hX := nmx hX; generalize gI σ ((gR σ 0) + 1) (ix i1) = v6 at hX ⊢; try dsimp only at hX
      refine V.aloadn 1 dE_rank_30 rfl rfl ?_
      refine V.getd 0 dE_rank_31 flE_10 (rfl : kd 0 = (5, 0)) rfl ?_
      obtain ⟨h7, hX⟩ := ob hX
      refine V.getr (gR σ 0) ((gR σ 0) + 1) dE_rank_34 flE_89 (tk0 h7) rfl rfl ?_
      refine V.iloadn 2 dE_rank_37 rfl rfl ?_
      refine V.iloadn 3 dE_rank_38 rfl rfl ?_
      obtain ⟨h8, hX⟩ := ob hX
      refine V.iast ((gR σ 0) + 1) dE_rank_39 (tk1 h7) h8 rfl ?_
      replace hX := nmx hX; generalize sI σ ((gR σ 0) + 1) (ix i1) i2 = σ9 at hX ⊢; try dsimp only at hX
      refine V.iloadn 0 dE_rank_40 rfl rfl ?_
      have hX := (Option.some.inj hX).symm; subst hX; exact V.iret dE_rank_41 rfl rfl
    · replace hX := ip hX g3
      refine V.iconst (-1 : Int32) dE_rank_18 lcm1 rfl ?_
      have hX := (Option.some.inj hX).symm; subst hX; exact V.iret dE_rank_19 rfl rfl
theorem kE_rank {E : Ev} {σ σ2 : St} {i1 : Int32} {i2 : Int32} {z : Int32} (h : fE_rank σ i1 i2 = some (z, σ2)) : Ct mE_rank E [.ref 0, .int i1, .int i2] σ (some (.int z), σ2) := Ct.of (by decide) (Nat.le_of_ble_eq_true rfl) (wE_rank σ i1 i2 h)
theorem dT_areAcquainted_0 : decode mT_areAcquainted.1 0 = .ok (.aload_n 0, 1) := by decide +kernel
theorem dT_areAcquainted_1 : decode mT_areAcquainted.1 1 = .ok (.getfield 28, 3) := by decide +kernel
theorem dT_areAcquainted_4 : decode mT_areAcquainted.1 4 = .ok (.iload_n 1, 1) := by decide +kernel
theorem dT_areAcquainted_5 : decode mT_areAcquainted.1 5 = .ok (.iaload, 1) := by decide +kernel
theorem dT_areAcquainted_6 : decode mT_areAcquainted.1 6 = .ok (.iload_n 2, 1) := by decide +kernel
theorem dT_areAcquainted_7 : decode mT_areAcquainted.1 7 = .ok (.invokestatic 49, 3) := by decide +kernel
theorem dT_areAcquainted_10 : decode mT_areAcquainted.1 10 = .ok (.ireturn, 1) := by decide +kernel
set_option maxRecDepth 4000 in
theorem wT_areAcquainted {E : Ev} {z : Int32} (σ : St) (r0 : Nat) (i1 : Int32) (i2 : Int32) (ht_r0 : isTb r0 = true) (hX : fT_areAcquainted σ r0 i1 i2 = some z) : V E mT_areAcquainted (FM E (some (.int z), σ)) 0 [(0, .ref r0), (1, .int i1), (2, .int i2)] [] σ := by
  unfold fT_areAcquainted at hX
  refine V.aloadn 0 dT_areAcquainted_0 rfl rfl ?_
  refine V.getr r0 (r0 + 3) dT_areAcquainted_1 flT_28 (tk0 ht_r0) rfl rfl ?_
  refine V.iloadn 1 dT_areAcquainted_4 rfl rfl ?_
  obtain ⟨h1, hX⟩ := ob hX
  refine V.iald (r0 + 3) dT_areAcquainted_5 (tk3 ht_r0) h1 rfl ?_
  refine V.iloadn 2 dT_areAcquainted_6 rfl rfl ?_
  refine V.callNi [.int (gI σ (r0 + 3) (ix i1)), .int i2] dT_areAcquainted_7 (kE_holds (σ := σ) (gI σ (r0 + 3) (ix i1)) i2) (fun U h => h.2.2.2.2.2.2.2.2.1) myE_holds mnE_holds ⟨rfl, rfl, by decide, by decide⟩ rfl (Nat.le_of_ble_eq_true rfl) ⟨Nat.zero_le _, Nat.zero_le _⟩ rfl ?_
  have hX := (Option.some.inj hX).symm; subst hX; exact V.zret .boolean dT_areAcquainted_10 rfl (nz (bE_holds (gI σ (r0 + 3) (ix i1)) i2)).1 rfl
theorem kT_areAcquainted {E : Ev} {σ : St} {r0 : Nat} {i1 : Int32} {i2 : Int32} {z : Int32} (ht_r0 : isTb r0 = true) (h : fT_areAcquainted σ r0 i1 i2 = some z) : Ct mT_areAcquainted E [.ref r0, .int i1, .int i2] σ (some (.int z), σ) := Ct.of (by decide) (Nat.le_of_ble_eq_true rfl) (wT_areAcquainted σ r0 i1 i2 ht_r0 h)
theorem dE_know_0 : decode mE_know.1 0 = .ok (.aload_n 0, 1) := by decide +kernel
theorem dE_know_1 : decode mE_know.1 1 = .ok (.getfield 10, 3) := by decide +kernel
theorem dE_know_4 : decode mE_know.1 4 = .ok (.iload_n 1, 1) := by decide +kernel
theorem dE_know_5 : decode mE_know.1 5 = .ok (.invokevirtual 86, 3) := by decide +kernel
theorem dE_know_8 : decode mE_know.1 8 = .ok (.ifCond .eq 19, 3) := by decide +kernel
theorem dE_know_11 : decode mE_know.1 11 = .ok (.aload_n 0, 1) := by decide +kernel
theorem dE_know_12 : decode mE_know.1 12 = .ok (.getfield 10, 3) := by decide +kernel
theorem dE_know_15 : decode mE_know.1 15 = .ok (.iload_n 2, 1) := by decide +kernel
theorem dE_know_16 : decode mE_know.1 16 = .ok (.invokevirtual 86, 3) := by decide +kernel
theorem dE_know_19 : decode mE_know.1 19 = .ok (.ifCond .eq 8, 3) := by decide +kernel
theorem dE_know_22 : decode mE_know.1 22 = .ok (.iload_n 1, 1) := by decide +kernel
theorem dE_know_23 : decode mE_know.1 23 = .ok (.iload_n 2, 1) := by decide +kernel
theorem dE_know_24 : decode mE_know.1 24 = .ok (.if_icmp .ne 5, 3) := by decide +kernel
theorem dE_know_27 : decode mE_know.1 27 = .ok (.iconst (-1), 1) := by decide +kernel
theorem dE_know_28 : decode mE_know.1 28 = .ok (.ireturn, 1) := by decide +kernel
theorem dE_know_29 : decode mE_know.1 29 = .ok (.aload_n 0, 1) := by decide +kernel
theorem dE_know_30 : decode mE_know.1 30 = .ok (.getfield 10, 3) := by decide +kernel
theorem dE_know_33 : decode mE_know.1 33 = .ok (.iload_n 1, 1) := by decide +kernel
theorem dE_know_34 : decode mE_know.1 34 = .ok (.iload_n 2, 1) := by decide +kernel
theorem dE_know_35 : decode mE_know.1 35 = .ok (.invokevirtual 104, 3) := by decide +kernel
theorem dE_know_38 : decode mE_know.1 38 = .ok (.iload_n 3, 1) := by decide +kernel
theorem dE_know_39 : decode mE_know.1 39 = .ok (.if_icmp .ne 5, 3) := by decide +kernel
theorem dE_know_42 : decode mE_know.1 42 = .ok (.iconst 0, 1) := by decide +kernel
theorem dE_know_43 : decode mE_know.1 43 = .ok (.ireturn, 1) := by decide +kernel
theorem dE_know_44 : decode mE_know.1 44 = .ok (.aload_n 0, 1) := by decide +kernel
theorem dE_know_45 : decode mE_know.1 45 = .ok (.getfield 10, 3) := by decide +kernel
theorem dE_know_48 : decode mE_know.1 48 = .ok (.iload_n 1, 1) := by decide +kernel
theorem dE_know_49 : decode mE_know.1 49 = .ok (.iload_n 2, 1) := by decide +kernel
theorem dE_know_50 : decode mE_know.1 50 = .ok (.iload_n 3, 1) := by decide +kernel
theorem dE_know_51 : decode mE_know.1 51 = .ok (.invokevirtual 108, 3) := by decide +kernel
theorem dE_know_54 : decode mE_know.1 54 = .ok (.iconst 1, 1) := by decide +kernel
theorem dE_know_55 : decode mE_know.1 55 = .ok (.ireturn, 1) := by decide +kernel
set_option maxRecDepth 4000 in
theorem wE_know {E : Ev} {z : Int32 × St} (σ : St) (i1 : Int32) (i2 : Int32) (i3 : Int32) (hX : fE_know σ i1 i2 i3 = some z) : V E mE_know (FM E (some (.int z.1), z.2)) 0 [(0, .ref 0), (1, .int i1), (2, .int i2), (3, .int i3)] [] σ := by
  unfold fE_know at hX
  refine V.aloadn 0 dE_know_0 rfl rfl ?_
  refine V.getd 0 dE_know_1 flE_10 (rfl : kd 0 = (5, 0)) rfl ?_
  refine V.iloadn 1 dE_know_4 rfl rfl ?_
  obtain ⟨h1, hX⟩ := ob hX
  refine V.callvi (gR σ 0) [.int i1] dE_know_5 (kT_hasPerson (σ := σ) (gR σ 0) i1 h1) mlE_86 myT_hasPerson mnT_hasPerson ⟨rfl, rfl, by decide, by decide⟩ (tk0 h1) (by decide) rfl (Nat.le_of_ble_eq_true rfl) ⟨Nat.zero_le _, Nat.zero_le _⟩ rfl ?_
  refine V.ifeq 27 dE_know_8 rfl rfl (fun g2 => ?_) (fun g2 => ?_)
  · replace hX := ip hX g2
    refine V.iconst (-1 : Int32) dE_know_27 lcm1 rfl ?_
    have hX := (Option.some.inj hX).symm; subst hX; exact V.iret dE_know_28 rfl rfl
  · replace hX := im hX g2
    refine V.aloadn 0 dE_know_11 rfl rfl ?_
    refine V.getd 0 dE_know_12 flE_10 (rfl : kd 0 = (5, 0)) rfl ?_
    refine V.iloadn 2 dE_know_15 rfl rfl ?_
    obtain ⟨h3, hX⟩ := ob hX
    refine V.callvi (gR σ 0) [.int i2] dE_know_16 (kT_hasPerson (σ := σ) (gR σ 0) i2 h3) mlE_86 myT_hasPerson mnT_hasPerson ⟨rfl, rfl, by decide, by decide⟩ (tk0 h3) (by decide) rfl (Nat.le_of_ble_eq_true rfl) ⟨Nat.zero_le _, Nat.zero_le _⟩ rfl ?_
    refine V.ifeq 27 dE_know_19 rfl rfl (fun g4 => ?_) (fun g4 => ?_)
    · replace hX := ip hX g4
      refine V.iconst (-1 : Int32) dE_know_27 lcm1 rfl ?_
      have hX := (Option.some.inj hX).symm; subst hX; exact V.iret dE_know_28 rfl rfl
    · replace hX := im hX g4
      refine V.iloadn 1 dE_know_22 rfl rfl ?_
      refine V.iloadn 2 dE_know_23 rfl rfl ?_
      refine V.icmpne 29 dE_know_24 rfl rfl (fun g5 => ?_) (fun g5 => ?_)
      · replace hX := im hX g5
        refine V.aloadn 0 dE_know_29 rfl rfl ?_
        refine V.getd 0 dE_know_30 flE_10 (rfl : kd 0 = (5, 0)) rfl ?_
        refine V.iloadn 1 dE_know_33 rfl rfl ?_
        refine V.iloadn 2 dE_know_34 rfl rfl ?_
        obtain ⟨h6, hX⟩ := ob hX
        obtain ⟨q7, c8, hX⟩ := bd hX; try dsimp only at hX
        refine V.callvi (gR σ 0) [.int i1, .int i2] dE_know_35 (kT_areAcquainted h6 c8) mlE_104 myT_areAcquainted mnT_areAcquainted ⟨rfl, rfl, by decide, by decide⟩ (tk0 h6) (by decide) rfl (Nat.le_of_ble_eq_true rfl) ⟨Nat.zero_le _, Nat.zero_le _⟩ rfl ?_
        refine V.iloadn 3 dE_know_38 rfl rfl ?_
        refine V.icmpne 44 dE_know_39 rfl rfl (fun g9 => ?_) (fun g9 => ?_)
        · replace hX := im hX g9
          refine V.aloadn 0 dE_know_44 rfl rfl ?_
          refine V.getd 0 dE_know_45 flE_10 (rfl : kd 0 = (5, 0)) rfl ?_
          refine V.iloadn 1 dE_know_48 rfl rfl ?_
          refine V.iloadn 2 dE_know_49 rfl rfl ?_
          refine V.iloadn 3 dE_know_50 rfl rfl ?_
          obtain ⟨h10, hX⟩ := ob hX
          obtain ⟨σ12, c11, hX⟩ := bd hX; try dsimp only at hX
          refine V.callv0 (gR σ 0) [.int i1, .int i2, .int i3] dE_know_51 (kT_acquaint h10 c11) mlE_108 myT_acquaint mnT_acquaint ⟨rfl, rfl, by decide, by decide⟩ (tk0 h10) (by decide) rfl (Nat.le_of_ble_eq_true rfl) ⟨Nat.zero_le _, Nat.zero_le _⟩ rfl ?_
          refine V.iconst (1 : Int32) dE_know_54 lc1 rfl ?_
          have hX := (Option.some.inj hX).symm; subst hX; exact V.iret dE_know_55 rfl rfl
        · replace hX := ip hX g9
          refine V.iconst (0 : Int32) dE_know_42 lc0 rfl ?_
          have hX := (Option.some.inj hX).symm; subst hX; exact V.iret dE_know_43 rfl rfl
      · replace hX := ip hX g5
        refine V.iconst (-1 : Int32) dE_know_27 lcm1 rfl ?_
        have hX := (Option.some.inj hX).symm; subst hX; exact V.iret dE_know_28 rfl rfl
theorem kE_know {E : Ev} {σ σ2 : St} {i1 : Int32} {i2 : Int32} {i3 : Int32} {z : Int32} (h : fE_know σ i1 i2 i3 = some (z, σ2)) : Ct mE_know E [.ref 0, .int i1, .int i2, .int i3] σ (some (.int z), σ2) := Ct.of (by decide) (Nat.le_of_ble_eq_true rfl) (wE_know σ i1 i2 i3 h)
theorem dE_isKind_0 : decode mE_isKind.1 0 = .ok (.iload_n 0, 1) := by decide +kernel
theorem dE_isKind_1 : decode mE_isKind.1 1 = .ok (.ifCond .lt 13, 3) := by decide +kernel
theorem dE_isKind_4 : decode mE_isKind.1 4 = .ok (.iload_n 0, 1) := by decide +kernel
theorem dE_isKind_5 : decode mE_isKind.1 5 = .ok (.bipush 6, 2) := by decide +kernel
theorem dE_isKind_7 : decode mE_isKind.1 7 = .ok (.if_icmp .ge 7, 3) := by decide +kernel
theorem dE_isKind_10 : decode mE_isKind.1 10 = .ok (.iconst 1, 1) := by decide +kernel
theorem dE_isKind_11 : decode mE_isKind.1 11 = .ok (.goto 4, 3) := by decide +kernel
theorem dE_isKind_14 : decode mE_isKind.1 14 = .ok (.iconst 0, 1) := by decide +kernel
theorem dE_isKind_15 : decode mE_isKind.1 15 = .ok (.ireturn, 1) := by decide +kernel
set_option maxRecDepth 4000 in
theorem wE_isKind {E : Ev} {z : Int32} (σ : St) (i0 : Int32) (hX : fE_isKind i0 = z) : V E mE_isKind (FM E (some (.int z), σ)) 0 [(0, .int i0)] [] σ := by
  unfold fE_isKind at hX
  refine V.iloadn 0 dE_isKind_0 rfl rfl ?_
  have JJ : V E mE_isKind (FM E (some (.int z), σ)) 15 [(0, .int i0)] [.int (if i0 < 0 then (0 : Int32) else (if (6 : Int32) ≤ i0 then (0 : Int32) else (1 : Int32)))] σ := by
    subst hX; exact V.zret .boolean dE_isKind_15 rfl (nz (b01_i b01_0 (b01_i b01_0 b01_1))).1 rfl
  refine V.iflt 14 dE_isKind_1 rfl rfl (fun g1 => ?_) (fun g1 => ?_)
  · refine V.iconst (0 : Int32) dE_isKind_14 lc0 rfl ?_
    exact V.top (if_pos g1).symm JJ
  · refine V.iloadn 0 dE_isKind_4 rfl rfl ?_
    refine V.bipush (6 : Int32) dE_isKind_5 lb6 rfl ?_
    refine V.icmpge 14 dE_isKind_7 rfl rfl (fun g2 => ?_) (fun g2 => ?_)
    · refine V.iconst (0 : Int32) dE_isKind_14 lc0 rfl ?_
      exact V.top ((if_neg g1).trans (if_pos g2)).symm JJ
    · refine V.iconst (1 : Int32) dE_isKind_10 lc1 rfl ?_
      refine V.goto 15 dE_isKind_11 rfl ?_
      exact V.top ((if_neg g1).trans (if_neg g2)).symm JJ
theorem kE_isKind {E : Ev} {σ : St} (i0 : Int32) : Ct mE_isKind E [.int i0] σ (some (.int (fE_isKind i0)), σ) := Ct.of (by decide) (Nat.le_of_ble_eq_true rfl) (wE_isKind σ i0 rfl)
theorem bE_isKind (i0 : Int32) : b01 (fE_isKind i0) := by
  unfold fE_isKind
  exact (b01_i b01_0 (b01_i b01_0 b01_1))
theorem dE_isA_0 : decode mE_isA.1 0 = .ok (.iload_n 0, 1) := by decide +kernel
theorem dE_isA_1 : decode mE_isA.1 1 = .ok (.iconst 1, 1) := by decide +kernel
theorem dE_isA_2 : decode mE_isA.1 2 = .ok (.if_icmp .lt 13, 3) := by decide +kernel
theorem dE_isA_5 : decode mE_isA.1 5 = .ok (.iload_n 0, 1) := by decide +kernel
theorem dE_isA_6 : decode mE_isA.1 6 = .ok (.bipush 99, 2) := by decide +kernel
theorem dE_isA_8 : decode mE_isA.1 8 = .ok (.if_icmp .gt 7, 3) := by decide +kernel
theorem dE_isA_11 : decode mE_isA.1 11 = .ok (.iconst 1, 1) := by decide +kernel
theorem dE_isA_12 : decode mE_isA.1 12 = .ok (.goto 4, 3) := by decide +kernel
theorem dE_isA_15 : decode mE_isA.1 15 = .ok (.iconst 0, 1) := by decide +kernel
theorem dE_isA_16 : decode mE_isA.1 16 = .ok (.ireturn, 1) := by decide +kernel
set_option maxRecDepth 4000 in
theorem wE_isA {E : Ev} {z : Int32} (σ : St) (i0 : Int32) (hX : fE_isA i0 = z) : V E mE_isA (FM E (some (.int z), σ)) 0 [(0, .int i0)] [] σ := by
  unfold fE_isA at hX
  refine V.iloadn 0 dE_isA_0 rfl rfl ?_
  refine V.iconst (1 : Int32) dE_isA_1 lc1 rfl ?_
  have JJ : V E mE_isA (FM E (some (.int z), σ)) 16 [(0, .int i0)] [.int (if i0 < (1 : Int32) then (0 : Int32) else (if (99 : Int32) < i0 then (0 : Int32) else (1 : Int32)))] σ := by
    subst hX; exact V.zret .boolean dE_isA_16 rfl (nz (b01_i b01_0 (b01_i b01_0 b01_1))).1 rfl
  refine V.icmplt 15 dE_isA_2 rfl rfl (fun g1 => ?_) (fun g1 => ?_)
  · refine V.iconst (0 : Int32) dE_isA_15 lc0 rfl ?_
    exact V.top (if_pos g1).symm JJ
  · refine V.iloadn 0 dE_isA_5 rfl rfl ?_
    refine V.bipush (99 : Int32) dE_isA_6 lb99 rfl ?_
    refine V.icmpgt 15 dE_isA_8 rfl rfl (fun g2 => ?_) (fun g2 => ?_)
    · refine V.iconst (0 : Int32) dE_isA_15 lc0 rfl ?_
      exact V.top ((if_neg g1).trans (if_pos g2)).symm JJ
    · refine V.iconst (1 : Int32) dE_isA_11 lc1 rfl ?_
      refine V.goto 16 dE_isA_12 rfl ?_
      exact V.top ((if_neg g1).trans (if_neg g2)).symm JJ
theorem kE_isA {E : Ev} {σ : St} (i0 : Int32) : Ct mE_isA E [.int i0] σ (some (.int (fE_isA i0)), σ) := Ct.of (by decide) (Nat.le_of_ble_eq_true rfl) (wE_isA σ i0 rfl)
theorem bE_isA (i0 : Int32) : b01 (fE_isA i0) := by
  unfold fE_isA
  exact (b01_i b01_0 (b01_i b01_0 b01_1))
theorem dE_coin_0 : decode mE_coin.1 0 = .ok (.iload_n 1, 1) := by decide +kernel
theorem dE_coin_1 : decode mE_coin.1 1 = .ok (.invokestatic 112, 3) := by decide +kernel
theorem dE_coin_4 : decode mE_coin.1 4 = .ok (.ifCond .eq 21, 3) := by decide +kernel
theorem dE_coin_7 : decode mE_coin.1 7 = .ok (.iload_n 2, 1) := by decide +kernel
theorem dE_coin_8 : decode mE_coin.1 8 = .ok (.invokestatic 115, 3) := by decide +kernel
theorem dE_coin_11 : decode mE_coin.1 11 = .ok (.ifCond .eq 14, 3) := by decide +kernel
theorem dE_coin_14 : decode mE_coin.1 14 = .ok (.aload_n 0, 1) := by decide +kernel
theorem dE_coin_15 : decode mE_coin.1 15 = .ok (.getfield 10, 3) := by decide +kernel
theorem dE_coin_18 : decode mE_coin.1 18 = .ok (.iload_n 3, 1) := by decide +kernel
theorem dE_coin_19 : decode mE_coin.1 19 = .ok (.invokevirtual 86, 3) := by decide +kernel
theorem dE_coin_22 : decode mE_coin.1 22 = .ok (.ifCond .ne 5, 3) := by decide +kernel
theorem dE_coin_25 : decode mE_coin.1 25 = .ok (.iconst (-1), 1) := by decide +kernel
theorem dE_coin_26 : decode mE_coin.1 26 = .ok (.ireturn, 1) := by decide +kernel
theorem dE_coin_27 : decode mE_coin.1 27 = .ok (.aload_n 0, 1) := by decide +kernel
theorem dE_coin_28 : decode mE_coin.1 28 = .ok (.getfield 10, 3) := by decide +kernel
theorem dE_coin_31 : decode mE_coin.1 31 = .ok (.getfield 118, 3) := by decide +kernel
theorem dE_coin_34 : decode mE_coin.1 34 = .ok (.bipush 6, 2) := by decide +kernel
theorem dE_coin_36 : decode mE_coin.1 36 = .ok (.if_icmp .lt 6, 3) := by decide +kernel
theorem dE_coin_39 : decode mE_coin.1 39 = .ok (.bipush (-2), 2) := by decide +kernel
theorem dE_coin_41 : decode mE_coin.1 41 = .ok (.ireturn, 1) := by decide +kernel
theorem dE_coin_42 : decode mE_coin.1 42 = .ok (.aload_n 0, 1) := by decide +kernel
theorem dE_coin_43 : decode mE_coin.1 43 = .ok (.getfield 10, 3) := by decide +kernel
theorem dE_coin_46 : decode mE_coin.1 46 = .ok (.iload_n 1, 1) := by decide +kernel
theorem dE_coin_47 : decode mE_coin.1 47 = .ok (.iload_n 2, 1) := by decide +kernel
theorem dE_coin_48 : decode mE_coin.1 48 = .ok (.iload_n 3, 1) := by decide +kernel
theorem dE_coin_49 : decode mE_coin.1 49 = .ok (.invokevirtual 121, 3) := by decide +kernel
theorem dE_coin_52 : decode mE_coin.1 52 = .ok (.ireturn, 1) := by decide +kernel
set_option maxRecDepth 4000 in
theorem wE_coin {E : Ev} {z : Int32 × St} (σ : St) (i1 : Int32) (i2 : Int32) (i3 : Int32) (hX : fE_coin σ i1 i2 i3 = some z) : V E mE_coin (FM E (some (.int z.1), z.2)) 0 [(0, .ref 0), (1, .int i1), (2, .int i2), (3, .int i3)] [] σ := by
  unfold fE_coin at hX
  refine V.iloadn 1 dE_coin_0 rfl rfl ?_
  refine V.callsi [.int i1] dE_coin_1 (kE_isKind (σ := σ) i1) mlE_112 myE_isKind mnE_isKind ⟨rfl, rfl, by decide, by decide⟩ rfl (Nat.le_of_ble_eq_true rfl) ⟨Nat.zero_le _, Nat.zero_le _⟩ rfl ?_
  refine V.ifeq 25 dE_coin_4 rfl rfl (fun g1 => ?_) (fun g1 => ?_)
  · replace hX := ip hX g1
    refine V.iconst (-1 : Int32) dE_coin_25 lcm1 rfl ?_
    have hX := (Option.some.inj hX).symm; subst hX; exact V.iret dE_coin_26 rfl rfl
  · replace hX := im hX g1
    refine V.iloadn 2 dE_coin_7 rfl rfl ?_
    refine V.callsi [.int i2] dE_coin_8 (kE_isA (σ := σ) i2) mlE_115 myE_isA mnE_isA ⟨rfl, rfl, by decide, by decide⟩ rfl (Nat.le_of_ble_eq_true rfl) ⟨Nat.zero_le _, Nat.zero_le _⟩ rfl ?_
    refine V.ifeq 25 dE_coin_11 rfl rfl (fun g2 => ?_) (fun g2 => ?_)
    · replace hX := ip hX g2
      refine V.iconst (-1 : Int32) dE_coin_25 lcm1 rfl ?_
      have hX := (Option.some.inj hX).symm; subst hX; exact V.iret dE_coin_26 rfl rfl
    · replace hX := im hX g2
      refine V.aloadn 0 dE_coin_14 rfl rfl ?_
      refine V.getd 0 dE_coin_15 flE_10 (rfl : kd 0 = (5, 0)) rfl ?_
      refine V.iloadn 3 dE_coin_18 rfl rfl ?_
      obtain ⟨h3, hX⟩ := ob hX
      refine V.callvi (gR σ 0) [.int i3] dE_coin_19 (kT_hasPerson (σ := σ) (gR σ 0) i3 h3) mlE_86 myT_hasPerson mnT_hasPerson ⟨rfl, rfl, by decide, by decide⟩ (tk0 h3) (by decide) rfl (Nat.le_of_ble_eq_true rfl) ⟨Nat.zero_le _, Nat.zero_le _⟩ rfl ?_
      refine V.ifne 27 dE_coin_22 rfl rfl (fun g4 => ?_) (fun g4 => ?_)
      · replace hX := im hX g4
        refine V.aloadn 0 dE_coin_27 rfl rfl ?_
        refine V.getd 0 dE_coin_28 flE_10 (rfl : kd 0 = (5, 0)) rfl ?_
        obtain ⟨h5, hX⟩ := ob hX
        refine V.geti (gR σ 0) dE_coin_31 flE_118 (tk0 h5) rfl ?_
        refine V.bipush (6 : Int32) dE_coin_34 lb6 rfl ?_
        refine V.icmplt 42 dE_coin_36 rfl rfl (fun g6 => ?_) (fun g6 => ?_)
        · replace hX := ip hX g6
          refine V.aloadn 0 dE_coin_42 rfl rfl ?_
          refine V.getd 0 dE_coin_43 flE_10 (rfl : kd 0 = (5, 0)) rfl ?_
          refine V.iloadn 1 dE_coin_46 rfl rfl ?_
          refine V.iloadn 2 dE_coin_47 rfl rfl ?_
          refine V.iloadn 3 dE_coin_48 rfl rfl ?_
          obtain ⟨h7, hX⟩ := ob hX
          obtain ⟨q9, σ9, c8, hX⟩ := bi2 hX; try dsimp only at hX
          refine V.callvi (gR σ 0) [.int i1, .int i2, .int i3] dE_coin_49 (kT_addCoin h7 c8) mlE_121 myT_addCoin mnT_addCoin ⟨rfl, rfl, by decide, by decide⟩ (tk0 h7) (by decide) rfl (Nat.le_of_ble_eq_true rfl) ⟨Nat.zero_le _, Nat.zero_le _⟩ rfl ?_
          have hX := (Option.some.inj hX).symm; subst hX; exact V.iret dE_coin_52 rfl rfl
        · replace hX := im hX g6
          refine V.bipush (-2 : Int32) dE_coin_39 lbm2 rfl ?_
          have hX := (Option.some.inj hX).symm; subst hX; exact V.iret dE_coin_41 rfl rfl
      · replace hX := ip hX g4
        refine V.iconst (-1 : Int32) dE_coin_25 lcm1 rfl ?_
        have hX := (Option.some.inj hX).symm; subst hX; exact V.iret dE_coin_26 rfl rfl
theorem kE_coin {E : Ev} {σ σ2 : St} {i1 : Int32} {i2 : Int32} {i3 : Int32} {z : Int32} (h : fE_coin σ i1 i2 i3 = some (z, σ2)) : Ct mE_coin E [.ref 0, .int i1, .int i2, .int i3] σ (some (.int z), σ2) := Ct.of (by decide) (Nat.le_of_ble_eq_true rfl) (wE_coin σ i1 i2 i3 h)
theorem dT_hasCoin_0 : decode mT_hasCoin.1 0 = .ok (.iload_n 1, 1) := by decide +kernel
theorem dT_hasCoin_1 : decode mT_hasCoin.1 1 = .ok (.ifCond .lt 15, 3) := by decide +kernel
theorem dT_hasCoin_4 : decode mT_hasCoin.1 4 = .ok (.iload_n 1, 1) := by decide +kernel
theorem dT_hasCoin_5 : decode mT_hasCoin.1 5 = .ok (.aload_n 0, 1) := by decide +kernel
theorem dT_hasCoin_6 : decode mT_hasCoin.1 6 = .ok (.getfield 15, 3) := by decide +kernel
theorem dT_hasCoin_9 : decode mT_hasCoin.1 9 = .ok (.if_icmp .ge 7, 3) := by decide +kernel
theorem dT_hasCoin_12 : decode mT_hasCoin.1 12 = .ok (.iconst 1, 1) := by decide +kernel
theorem dT_hasCoin_13 : decode mT_hasCoin.1 13 = .ok (.goto 4, 3) := by decide +kernel
theorem dT_hasCoin_16 : decode mT_hasCoin.1 16 = .ok (.iconst 0, 1) := by decide +kernel
theorem dT_hasCoin_17 : decode mT_hasCoin.1 17 = .ok (.ireturn, 1) := by decide +kernel
set_option maxRecDepth 4000 in
theorem wT_hasCoin {E : Ev} {z : Int32} (σ : St) (r0 : Nat) (i1 : Int32) (ht_r0 : isTb r0 = true) (hX : fT_hasCoin σ r0 i1 = z) : V E mT_hasCoin (FM E (some (.int z), σ)) 0 [(0, .ref r0), (1, .int i1)] [] σ := by
  unfold fT_hasCoin at hX
  refine V.iloadn 1 dT_hasCoin_0 rfl rfl ?_
  have JJ : V E mT_hasCoin (FM E (some (.int z), σ)) 17 [(0, .ref r0), (1, .int i1)] [.int (if i1 < 0 then (0 : Int32) else (if (gI σ r0 1) ≤ i1 then (0 : Int32) else (1 : Int32)))] σ := by
    subst hX; exact V.zret .boolean dT_hasCoin_17 rfl (nz (b01_i b01_0 (b01_i b01_0 b01_1))).1 rfl
  refine V.iflt 16 dT_hasCoin_1 rfl rfl (fun g1 => ?_) (fun g1 => ?_)
  · refine V.iconst (0 : Int32) dT_hasCoin_16 lc0 rfl ?_
    exact V.top (if_pos g1).symm JJ
  · refine V.iloadn 1 dT_hasCoin_4 rfl rfl ?_
    refine V.aloadn 0 dT_hasCoin_5 rfl rfl ?_
    refine V.geti r0 dT_hasCoin_6 flT_15 (tk0 ht_r0) rfl ?_
    refine V.icmpge 16 dT_hasCoin_9 rfl rfl (fun g2 => ?_) (fun g2 => ?_)
    · refine V.iconst (0 : Int32) dT_hasCoin_16 lc0 rfl ?_
      exact V.top ((if_neg g1).trans (if_pos g2)).symm JJ
    · refine V.iconst (1 : Int32) dT_hasCoin_12 lc1 rfl ?_
      refine V.goto 17 dT_hasCoin_13 rfl ?_
      exact V.top ((if_neg g1).trans (if_neg g2)).symm JJ
theorem kT_hasCoin {E : Ev} {σ : St} (r0 : Nat) (i1 : Int32) (ht_r0 : isTb r0 = true) : Ct mT_hasCoin E [.ref r0, .int i1] σ (some (.int (fT_hasCoin σ r0 i1)), σ) := Ct.of (by decide) (Nat.le_of_ble_eq_true rfl) (wT_hasCoin σ r0 i1 ht_r0 rfl)
theorem bT_hasCoin (σ : St) (r0 : Nat) (i1 : Int32) : b01 (fT_hasCoin σ r0 i1) := by
  unfold fT_hasCoin
  exact (b01_i b01_0 (b01_i b01_0 b01_1))
theorem dT_kindAllows_0 : decode mT_kindAllows.1 0 = .ok (.aload_n 0, 1) := by decide +kernel
theorem dT_kindAllows_1 : decode mT_kindAllows.1 1 = .ok (.getfield 28, 3) := by decide +kernel
theorem dT_kindAllows_4 : decode mT_kindAllows.1 4 = .ok (.iload_n 2, 1) := by decide +kernel
theorem dT_kindAllows_5 : decode mT_kindAllows.1 5 = .ok (.iaload, 1) := by decide +kernel
theorem dT_kindAllows_6 : decode mT_kindAllows.1 6 = .ok (.iload_n 3, 1) := by decide +kernel
theorem dT_kindAllows_7 : decode mT_kindAllows.1 7 = .ok (.invokestatic 49, 3) := by decide +kernel
theorem dT_kindAllows_10 : decode mT_kindAllows.1 10 = .ok (.istore 4, 2) := by decide +kernel
theorem dT_kindAllows_12 : decode mT_kindAllows.1 12 = .ok (.aload_n 0, 1) := by decide +kernel
theorem dT_kindAllows_13 : decode mT_kindAllows.1 13 = .ok (.getfield 31, 3) := by decide +kernel
theorem dT_kindAllows_16 : decode mT_kindAllows.1 16 = .ok (.iload_n 1, 1) := by decide +kernel
theorem dT_kindAllows_17 : decode mT_kindAllows.1 17 = .ok (.iaload, 1) := by decide +kernel
theorem dT_kindAllows_18 : decode mT_kindAllows.1 18 = .ok (.tableswitch 114 2 5 #[30, 56, 77, 112], 30) := by decide +kernel
theorem dT_kindAllows_48 : decode mT_kindAllows.1 48 = .ok (.iload 4, 2) := by decide +kernel
theorem dT_kindAllows_50 : decode mT_kindAllows.1 50 = .ok (.ifCond .eq 22, 3) := by decide +kernel
theorem dT_kindAllows_53 : decode mT_kindAllows.1 53 = .ok (.aload_n 0, 1) := by decide +kernel
theorem dT_kindAllows_54 : decode mT_kindAllows.1 54 = .ok (.getfield 21, 3) := by decide +kernel
theorem dT_kindAllows_57 : decode mT_kindAllows.1 57 = .ok (.iload_n 3, 1) := by decide +kernel
theorem dT_kindAllows_58 : decode mT_kindAllows.1 58 = .ok (.iaload, 1) := by decide +kernel
theorem dT_kindAllows_59 : decode mT_kindAllows.1 59 = .ok (.aload_n 0, 1) := by decide +kernel
theorem dT_kindAllows_60 : decode mT_kindAllows.1 60 = .ok (.getfield 21, 3) := by decide +kernel
theorem dT_kindAllows_63 : decode mT_kindAllows.1 63 = .ok (.iload_n 2, 1) := by decide +kernel
theorem dT_kindAllows_64 : decode mT_kindAllows.1 64 = .ok (.iaload, 1) := by decide +kernel
theorem dT_kindAllows_65 : decode mT_kindAllows.1 65 = .ok (.if_icmp .lt 7, 3) := by decide +kernel
theorem dT_kindAllows_68 : decode mT_kindAllows.1 68 = .ok (.iconst 1, 1) := by decide +kernel
theorem dT_kindAllows_69 : decode mT_kindAllows.1 69 = .ok (.goto 4, 3) := by decide +kernel
theorem dT_kindAllows_72 : decode mT_kindAllows.1 72 = .ok (.iconst 0, 1) := by decide +kernel
theorem dT_kindAllows_73 : decode mT_kindAllows.1 73 = .ok (.ireturn, 1) := by decide +kernel
theorem dT_kindAllows_74 : decode mT_kindAllows.1 74 = .ok (.iload 4, 2) := by decide +kernel
theorem dT_kindAllows_76 : decode mT_kindAllows.1 76 = .ok (.ifCond .eq 17, 3) := by decide +kernel
theorem dT_kindAllows_79 : decode mT_kindAllows.1 79 = .ok (.aload_n 0, 1) := by decide +kernel
theorem dT_kindAllows_80 : decode mT_kindAllows.1 80 = .ok (.getfield 21, 3) := by decide +kernel
theorem dT_kindAllows_83 : decode mT_kindAllows.1 83 = .ok (.iload_n 3, 1) := by decide +kernel
theorem dT_kindAllows_84 : decode mT_kindAllows.1 84 = .ok (.iaload, 1) := by decide +kernel
theorem dT_kindAllows_85 : decode mT_kindAllows.1 85 = .ok (.iconst 5, 1) := by decide +kernel
theorem dT_kindAllows_86 : decode mT_kindAllows.1 86 = .ok (.if_icmp .ge 7, 3) := by decide +kernel
theorem dT_kindAllows_89 : decode mT_kindAllows.1 89 = .ok (.iconst 1, 1) := by decide +kernel
theorem dT_kindAllows_90 : decode mT_kindAllows.1 90 = .ok (.goto 4, 3) := by decide +kernel
theorem dT_kindAllows_93 : decode mT_kindAllows.1 93 = .ok (.iconst 0, 1) := by decide +kernel
theorem dT_kindAllows_94 : decode mT_kindAllows.1 94 = .ok (.ireturn, 1) := by decide +kernel
theorem dT_kindAllows_95 : decode mT_kindAllows.1 95 = .ok (.iload 4, 2) := by decide +kernel
theorem dT_kindAllows_97 : decode mT_kindAllows.1 97 = .ok (.ifCond .eq 31, 3) := by decide +kernel
theorem dT_kindAllows_100 : decode mT_kindAllows.1 100 = .ok (.aload_n 0, 1) := by decide +kernel
theorem dT_kindAllows_101 : decode mT_kindAllows.1 101 = .ok (.getfield 21, 3) := by decide +kernel
theorem dT_kindAllows_104 : decode mT_kindAllows.1 104 = .ok (.iload_n 3, 1) := by decide +kernel
theorem dT_kindAllows_105 : decode mT_kindAllows.1 105 = .ok (.iaload, 1) := by decide +kernel
theorem dT_kindAllows_106 : decode mT_kindAllows.1 106 = .ok (.aload_n 0, 1) := by decide +kernel
theorem dT_kindAllows_107 : decode mT_kindAllows.1 107 = .ok (.getfield 21, 3) := by decide +kernel
theorem dT_kindAllows_110 : decode mT_kindAllows.1 110 = .ok (.iload_n 2, 1) := by decide +kernel
theorem dT_kindAllows_111 : decode mT_kindAllows.1 111 = .ok (.iaload, 1) := by decide +kernel
theorem dT_kindAllows_112 : decode mT_kindAllows.1 112 = .ok (.if_icmp .ge 12, 3) := by decide +kernel
theorem dT_kindAllows_115 : decode mT_kindAllows.1 115 = .ok (.aload_n 0, 1) := by decide +kernel
theorem dT_kindAllows_116 : decode mT_kindAllows.1 116 = .ok (.getfield 21, 3) := by decide +kernel
theorem dT_kindAllows_119 : decode mT_kindAllows.1 119 = .ok (.iload_n 3, 1) := by decide +kernel
theorem dT_kindAllows_120 : decode mT_kindAllows.1 120 = .ok (.iaload, 1) := by decide +kernel
theorem dT_kindAllows_121 : decode mT_kindAllows.1 121 = .ok (.ifCond .ne 7, 3) := by decide +kernel
theorem dT_kindAllows_124 : decode mT_kindAllows.1 124 = .ok (.iconst 1, 1) := by decide +kernel
theorem dT_kindAllows_125 : decode mT_kindAllows.1 125 = .ok (.goto 4, 3) := by decide +kernel
theorem dT_kindAllows_128 : decode mT_kindAllows.1 128 = .ok (.iconst 0, 1) := by decide +kernel
theorem dT_kindAllows_129 : decode mT_kindAllows.1 129 = .ok (.ireturn, 1) := by decide +kernel
theorem dT_kindAllows_130 : decode mT_kindAllows.1 130 = .ok (.iconst 1, 1) := by decide +kernel
theorem dT_kindAllows_131 : decode mT_kindAllows.1 131 = .ok (.ireturn, 1) := by decide +kernel
theorem dT_kindAllows_132 : decode mT_kindAllows.1 132 = .ok (.iload 4, 2) := by decide +kernel
theorem dT_kindAllows_134 : decode mT_kindAllows.1 134 = .ok (.ireturn, 1) := by decide +kernel
set_option maxRecDepth 4000 in
theorem wT_kindAllows {E : Ev} {z : Int32} (σ : St) (r0 : Nat) (i1 : Int32) (i2 : Int32) (i3 : Int32) (ht_r0 : isTb r0 = true) (hX : fT_kindAllows σ r0 i1 i2 i3 = some z) : V E mT_kindAllows (FM E (some (.int z), σ)) 0 [(0, .ref r0), (1, .int i1), (2, .int i2), (3, .int i3)] [] σ := by
  unfold fT_kindAllows at hX
  refine V.aloadn 0 dT_kindAllows_0 rfl rfl ?_
  refine V.getr r0 (r0 + 3) dT_kindAllows_1 flT_28 (tk0 ht_r0) rfl rfl ?_
  refine V.iloadn 2 dT_kindAllows_4 rfl rfl ?_
  obtain ⟨h1, hX⟩ := ob hX
  refine V.iald (r0 + 3) dT_kindAllows_5 (tk3 ht_r0) h1 rfl ?_
  refine V.iloadn 3 dT_kindAllows_6 rfl rfl ?_
  refine V.callNi [.int (gI σ (r0 + 3) (ix i2)), .int i3] dT_kindAllows_7 (kE_holds (σ := σ) (gI σ (r0 + 3) (ix i2)) i3) (fun U h => h.2.2.2.2.2.2.2.2.1) myE_holds mnE_holds ⟨rfl, rfl, by decide, by decide⟩ rfl (Nat.le_of_ble_eq_true rfl) ⟨Nat.zero_le _, Nat.zero_le _⟩ rfl ?_
  refine V.istore _ dT_kindAllows_10 (by decide) rfl rfl ?_
  replace hX := nmx hX; generalize fE_holds (gI σ (r0 + 3) (ix i2)) i3 = v2 at hX ⊢; try dsimp only at hX
  refine V.aloadn 1 dT_kindAllows_12 rfl rfl ?_
  refine V.getr r0 (r0 + 4) dT_kindAllows_13 flT_31 (tk0 ht_r0) rfl rfl ?_
  refine V.iloadn 2 dT_kindAllows_16 rfl rfl ?_
  obtain ⟨h3, hX⟩ := ob hX
  refine V.iald (r0 + 4) dT_kindAllows_17 (tk4 ht_r0) h3 rfl ?_
  by_cases g4 : (gI σ (r0 + 4) (ix i1)) = (2 : Int32)
  · replace hX := ip hX g4
    refine V.tabIn (off := 30) 48 dT_kindAllows_18 (by rw [g4]; decide) (by rw [g4]; decide) (by rw [g4]; rfl) rfl ?_
    refine V.iload 0 dT_kindAllows_48 rfl rfl ?_
    refine V.ifeq 72 dT_kindAllows_50 rfl rfl (fun g5 => ?_) (fun g5 => ?_)
    · replace hX := ip hX g5
      refine V.iconst (0 : Int32) dT_kindAllows_72 lc0 rfl ?_
      have hX := (Option.some.inj hX).symm; subst hX; exact V.zret .boolean dT_kindAllows_73 rfl (nz b01_0).1 rfl
    · replace hX := im hX g5
      refine V.aloadn 1 dT_kindAllows_53 rfl rfl ?_
      refine V.getr r0 (r0 + 1) dT_kindAllows_54 flT_21 (tk0 ht_r0) rfl rfl ?_
      refine V.iloadn 4 dT_kindAllows_57 rfl rfl ?_
      obtain ⟨h6, hX⟩ := ob hX
      refine V.iald (r0 + 1) dT_kindAllows_58 (tk1 ht_r0) h6 rfl ?_
      refine V.aloadn 1 dT_kindAllows_59 rfl rfl ?_
      refine V.getr r0 (r0 + 1) dT_kindAllows_60 flT_21 (tk0 ht_r0) rfl rfl ?_
      refine V.iloadn 3 dT_kindAllows_63 rfl rfl ?_
      obtain ⟨h7, hX⟩ := ob hX
      refine V.iald (r0 + 1) dT_kindAllows_64 (tk1 ht_r0) h7 rfl ?_
      have JJ : V E mT_kindAllows (FM E (some (.int z), σ)) 73 [(4, .int v2), (0, .ref r0), (1, .int i1), (2, .int i2), (3, .int i3)] [.int (if (gI σ (r0 + 1) (ix i3)) < (gI σ (r0 + 1) (ix i2)) then (0 : Int32) else (1 : Int32))] σ := by
        have hX := (Option.some.inj hX).symm; subst hX; exact V.zret .boolean dT_kindAllows_73 rfl (nz (b01_i b01_0 b01_1)).1 rfl
      refine V.icmplt 72 dT_kindAllows_65 rfl rfl (fun g8 => ?_) (fun g8 => ?_)
      · refine V.iconst (0 : Int32) dT_kindAllows_72 lc0 rfl ?_
        exact V.top (if_pos g8).symm JJ
      · refine V.iconst (1 : Int32) dT_kindAllows_68 lc1 rfl ?_
        refine V.goto 73 dT_kindAllows_69 rfl ?_
        exact V.top (if_neg g8).symm JJ
  · replace hX := im hX g4
    by_cases g9 : (gI σ (r0 + 4) (ix i1)) = (3 : Int32)
    · replace hX := ip hX g9
      refine V.tabIn (off := 56) 74 dT_kindAllows_18 (by rw [g9]; decide) (by rw [g9]; decide) (by rw [g9]; rfl) rfl ?_
      refine V.iload 0 dT_kindAllows_74 rfl rfl ?_
      refine V.ifeq 93 dT_kindAllows_76 rfl rfl (fun g10 => ?_) (fun g10 => ?_)
      · replace hX := ip hX g10
        refine V.iconst (0 : Int32) dT_kindAllows_93 lc0 rfl ?_
        have hX := (Option.some.inj hX).symm; subst hX; exact V.zret .boolean dT_kindAllows_94 rfl (nz b01_0).1 rfl
      · replace hX := im hX g10
        refine V.aloadn 1 dT_kindAllows_79 rfl rfl ?_
        refine V.getr r0 (r0 + 1) dT_kindAllows_80 flT_21 (tk0 ht_r0) rfl rfl ?_
        refine V.iloadn 4 dT_kindAllows_83 rfl rfl ?_
        obtain ⟨h11, hX⟩ := ob hX
        refine V.iald (r0 + 1) dT_kindAllows_84 (tk1 ht_r0) h11 rfl ?_
        refine V.iconst (5 : Int32) dT_kindAllows_85 lc5 rfl ?_
        have JJ : V E mT_kindAllows (FM E (some (.int z), σ)) 94 [(4, .int v2), (0, .ref r0), (1, .int i1), (2, .int i2), (3, .int i3)] [.int (if (5 : Int32) ≤ (gI σ (r0 + 1) (ix i3)) then (0 : Int32) else (1 : Int32))] σ := by
          have hX := (Option.some.inj hX).symm; subst hX; exact V.zret .boolean dT_kindAllows_94 rfl (nz (b01_i b01_0 b01_1)).1 rfl
        refine V.icmpge 93 dT_kindAllows_86 rfl rfl (fun g12 => ?_) (fun g12 => ?_)
        · refine V.iconst (0 : Int32) dT_kindAllows_93 lc0 rfl ?_
          exact V.top (if_pos g12).symm JJ
        · refine V.iconst (1 : Int32) dT_kindAllows_89 lc1 rfl ?_
          refine V.goto 94 dT_kindAllows_90 rfl ?_
          exact V.top (if_neg g12).symm JJ
    · replace hX := im hX g9
      by_cases g13 : (gI σ (r0 + 4) (ix i1)) = (4 : Int32)
      · replace hX := ip hX g13
        refine V.tabIn (off := 77) 95 dT_kindAllows_18 (by rw [g13]; decide) (by rw [g13]; decide) (by rw [g13]; rfl) rfl ?_
        refine V.iload 0 dT_kindAllows_95 rfl rfl ?_
        refine V.ifeq 128 dT_kindAllows_97 rfl rfl (fun g14 => ?_) (fun g14 => ?_)
        · replace hX := ip hX g14
          refine V.iconst (0 : Int32) dT_kindAllows_128 lc0 rfl ?_
          have hX := (Option.some.inj hX).symm; subst hX; exact V.zret .boolean dT_kindAllows_129 rfl (nz b01_0).1 rfl
        · replace hX := im hX g14
          refine V.aloadn 1 dT_kindAllows_100 rfl rfl ?_
          refine V.getr r0 (r0 + 1) dT_kindAllows_101 flT_21 (tk0 ht_r0) rfl rfl ?_
          refine V.iloadn 4 dT_kindAllows_104 rfl rfl ?_
          obtain ⟨h15, hX⟩ := ob hX
          refine V.iald (r0 + 1) dT_kindAllows_105 (tk1 ht_r0) h15 rfl ?_
          refine V.aloadn 1 dT_kindAllows_106 rfl rfl ?_
          refine V.getr r0 (r0 + 1) dT_kindAllows_107 flT_21 (tk0 ht_r0) rfl rfl ?_
          refine V.iloadn 3 dT_kindAllows_110 rfl rfl ?_
          obtain ⟨h16, hX⟩ := ob hX
          refine V.iald (r0 + 1) dT_kindAllows_111 (tk1 ht_r0) h16 rfl ?_
          refine V.icmpge 124 dT_kindAllows_112 rfl rfl (fun g17 => ?_) (fun g17 => ?_)
          · replace hX := ip hX g17
            refine V.iconst (1 : Int32) dT_kindAllows_124 lc1 rfl ?_
            refine V.goto 129 dT_kindAllows_125 rfl ?_
            have hX := (Option.some.inj hX).symm; subst hX; exact V.zret .boolean dT_kindAllows_129 rfl (nz b01_1).1 rfl
          · replace hX := im hX g17
            refine V.aloadn 1 dT_kindAllows_115 rfl rfl ?_
            refine V.getr r0 (r0 + 1) dT_kindAllows_116 flT_21 (tk0 ht_r0) rfl rfl ?_
            refine V.iloadn 4 dT_kindAllows_119 rfl rfl ?_
            obtain ⟨h18, hX⟩ := ob hX
            refine V.iald (r0 + 1) dT_kindAllows_120 (tk1 ht_r0) h18 rfl ?_
            have JJ : V E mT_kindAllows (FM E (some (.int z), σ)) 129 [(4, .int v2), (0, .ref r0), (1, .int i1), (2, .int i2), (3, .int i3)] [.int (if (gI σ (r0 + 1) (ix i3)) = 0 then (1 : Int32) else (0 : Int32))] σ := by
              have hX := (Option.some.inj hX).symm; subst hX; exact V.zret .boolean dT_kindAllows_129 rfl (nz (b01_i b01_1 b01_0)).1 rfl
            refine V.ifne 128 dT_kindAllows_121 rfl rfl (fun g19 => ?_) (fun g19 => ?_)
            · refine V.iconst (0 : Int32) dT_kindAllows_128 lc0 rfl ?_
              exact V.top (if_neg g19).symm JJ
            · refine V.iconst (1 : Int32) dT_kindAllows_124 lc1 rfl ?_
              refine V.goto 129 dT_kindAllows_125 rfl ?_
              exact V.top (if_pos g19).symm JJ
      · replace hX := im hX g13
        by_cases g20 : (gI σ (r0 + 4) (ix i1)) = (5 : Int32)
        · replace hX := ip hX g20
          refine V.tabIn (off := 112) 130 dT_kindAllows_18 (by rw [g20]; decide) (by rw [g20]; decide) (by rw [g20]; rfl) rfl ?_
          refine V.iconst (1 : Int32) dT_kindAllows_130 lc1 rfl ?_
          have hX := (Option.some.inj hX).symm; subst hX; exact V.zret .boolean dT_kindAllows_131 rfl (nz b01_1).1 rfl
        · replace hX := im hX g20
          refine V.tabOut 132 dT_kindAllows_18 (by have a0 := lv_neT g4 (a := 2) (by decide); have a1 := lv_neT g9 (a := 3) (by decide); have a2 := lv_neT g13 (a := 4) (by decide); have a3 := lv_neT g20 (a := 5) (by decide); omega) rfl ?_
          refine V.iload 0 dT_kindAllows_132 rfl rfl ?_
          obtain ⟨h21, hX⟩ := ob hX
          have hX := (Option.some.inj hX).symm; subst hX; exact V.zret .boolean dT_kindAllows_134 rfl (nz h21).1 rfl
theorem kT_kindAllows {E : Ev} {σ : St} {r0 : Nat} {i1 : Int32} {i2 : Int32} {i3 : Int32} {z : Int32} (ht_r0 : isTb r0 = true) (h : fT_kindAllows σ r0 i1 i2 i3 = some z) : Ct mT_kindAllows E [.ref r0, .int i1, .int i2, .int i3] σ (some (.int z), σ) := Ct.of (by decide) (Nat.le_of_ble_eq_true rfl) (wT_kindAllows σ r0 i1 i2 i3 ht_r0 h)
theorem dT_reach_0 : decode mT_reach.1 0 = .ok (.iconst 0, 1) := by decide +kernel
theorem dT_reach_1 : decode mT_reach.1 1 = .ok (.istore_n 3, 1) := by decide +kernel
theorem dT_reach_2 : decode mT_reach.1 2 = .ok (.iconst 0, 1) := by decide +kernel
theorem dT_reach_3 : decode mT_reach.1 3 = .ok (.istore 4, 2) := by decide +kernel
theorem dT_reach_5 : decode mT_reach.1 5 = .ok (.iload 4, 2) := by decide +kernel
theorem dT_reach_7 : decode mT_reach.1 7 = .ok (.aload_n 0, 1) := by decide +kernel
theorem dT_reach_8 : decode mT_reach.1 8 = .ok (.getfield 9, 3) := by decide +kernel
theorem dT_reach_11 : decode mT_reach.1 11 = .ok (.if_icmp .ge 31, 3) := by decide +kernel
theorem dT_reach_14 : decode mT_reach.1 14 = .ok (.iload_n 3, 1) := by decide +kernel
theorem dT_reach_15 : decode mT_reach.1 15 = .ok (.aload_n 0, 1) := by decide +kernel
theorem dT_reach_16 : decode mT_reach.1 16 = .ok (.iload_n 1, 1) := by decide +kernel
theorem dT_reach_17 : decode mT_reach.1 17 = .ok (.iload_n 2, 1) := by decide +kernel
theorem dT_reach_18 : decode mT_reach.1 18 = .ok (.iload 4, 2) := by decide +kernel
theorem dT_reach_20 : decode mT_reach.1 20 = .ok (.invokevirtual 71, 3) := by decide +kernel
theorem dT_reach_23 : decode mT_reach.1 23 = .ok (.ifCond .eq 10, 3) := by decide +kernel
theorem dT_reach_26 : decode mT_reach.1 26 = .ok (.iconst 1, 1) := by decide +kernel
theorem dT_reach_27 : decode mT_reach.1 27 = .ok (.iload 4, 2) := by decide +kernel
theorem dT_reach_29 : decode mT_reach.1 29 = .ok (.ishl, 1) := by decide +kernel
theorem dT_reach_30 : decode mT_reach.1 30 = .ok (.goto 4, 3) := by decide +kernel
theorem dT_reach_33 : decode mT_reach.1 33 = .ok (.iconst 0, 1) := by decide +kernel
theorem dT_reach_34 : decode mT_reach.1 34 = .ok (.ior, 1) := by decide +kernel
theorem dT_reach_35 : decode mT_reach.1 35 = .ok (.istore_n 3, 1) := by decide +kernel
theorem dT_reach_36 : decode mT_reach.1 36 = .ok (.iinc 4 1, 3) := by decide +kernel
theorem dT_reach_39 : decode mT_reach.1 39 = .ok (.goto (-34), 3) := by decide +kernel
theorem dT_reach_42 : decode mT_reach.1 42 = .ok (.iload_n 3, 1) := by decide +kernel
theorem dT_reach_43 : decode mT_reach.1 43 = .ok (.ireturn, 1) := by decide +kernel
set_option maxRecDepth 4000 in
theorem wT_reach_5 {E : Ev} {z : Int32} : ∀ (fu : Nat) (σ : St) (r0 : Nat) (i1 : Int32) (i2 : Int32) (i3 : Int32) (i4 : Int32) (ht_r0 : isTb r0 = true), fT_reach_5 fu σ r0 i1 i2 i3 i4 = some z → V E mT_reach (FM E (some (.int z), σ)) 5 [(0, .ref r0), (1, .int i1), (2, .int i2), (3, .int i3), (4, .int i4)] [] σ := by
  intro fu
  induction fu with
  | zero => intro σ r0 i1 i2 i3 i4 ht_r0 hX; cases hX
  | succ fu ih =>
    intro σ r0 i1 i2 i3 i4 ht_r0 hX
    rw [fT_reach_5] at hX
    refine V.iload 4 dT_reach_5 rfl rfl ?_
    refine V.aloadn 0 dT_reach_7 rfl rfl ?_
    refine V.geti r0 dT_reach_8 flT_9 (tk0 ht_r0) rfl ?_
    refine V.icmpge 42 dT_reach_11 rfl rfl (fun g1 => ?_) (fun g1 => ?_)
    · replace hX := ip hX g1
      refine V.iloadn 3 dT_reach_42 rfl rfl ?_
      have hX := (Option.some.inj hX).symm; subst hX; exact V.iret dT_reach_43 rfl rfl
    · replace hX := im hX g1
      refine V.iloadn 3 dT_reach_14 rfl rfl ?_
      refine V.aloadn 0 dT_reach_15 rfl rfl ?_
      refine V.iloadn 1 dT_reach_16 rfl rfl ?_
      refine V.iloadn 2 dT_reach_17 rfl rfl ?_
      refine V.iload 4 dT_reach_18 rfl rfl ?_
      obtain ⟨q2, c3, hX⟩ := bd hX; try dsimp only at hX
      refine V.callvi r0 [.int i1, .int i2, .int i4] dT_reach_20 (kT_kindAllows ht_r0 c3) mlT_71 myT_kindAllows mnT_kindAllows ⟨rfl, rfl, by decide, by decide⟩ (tk0 ht_r0) (by decide) rfl (Nat.le_of_ble_eq_true rfl) ⟨Nat.zero_le _, Nat.zero_le _⟩ rfl ?_
      have JJ : V E mT_reach (FM E (some (.int z), σ)) 34 [(0, .ref r0), (1, .int i1), (2, .int i2), (3, .int i3), (4, .int i4)] [.int (if q2 = 0 then (0 : Int32) else (1 : Int32) <<< (i4 &&& 31)), .int i3] σ := by
        refine V.ior dT_reach_34 rfl ?_
        refine V.istoren _ dT_reach_35 (by decide) rfl rfl ?_
        replace hX := nmx hX; generalize i3 ||| (if q2 = 0 then (0 : Int32) else (1 : Int32) <<< (i4 &&& 31)) = v4 at hX ⊢; try dsimp only at hX
        refine V.iinc 4 (1 : Int32) _ dT_reach_36 rfl lc1 (by decide) rfl rfl ?_
        replace hX := nmx hX; generalize i4 + (1 : Int32) = v5 at hX ⊢; try dsimp only at hX
        refine V.goto 5 dT_reach_39 rfl ?_
        refine V.sub [2, 3, 4, 1, 0] rfl ?_
        exact ih σ r0 i1 i2 v4 v5 ht_r0 hX
      refine V.ifeq 33 dT_reach_23 rfl rfl (fun g6 => ?_) (fun g6 => ?_)
      · refine V.iconst (0 : Int32) dT_reach_33 lc0 rfl ?_
        exact V.top (if_pos g6).symm JJ
      · refine V.iconst (1 : Int32) dT_reach_26 lc1 rfl ?_
        refine V.iload 4 dT_reach_27 rfl rfl ?_
        refine V.ishl dT_reach_29 rfl ?_
        refine V.goto 34 dT_reach_30 rfl ?_
        exact V.top (if_neg g6).symm JJ
set_option maxRecDepth 4000 in
theorem wT_reach {E : Ev} {z : Int32} (σ : St) (r0 : Nat) (i1 : Int32) (i2 : Int32) (ht_r0 : isTb r0 = true) (hX : fT_reach σ r0 i1 i2 = some z) : V E mT_reach (FM E (some (.int z), σ)) 0 [(0, .ref r0), (1, .int i1), (2, .int i2)] [] σ := by
  unfold fT_reach at hX
  refine V.iconst (0 : Int32) dT_reach_0 lc0 rfl ?_
  refine V.istoren _ dT_reach_1 (by decide) rfl rfl ?_
  refine V.iconst (0 : Int32) dT_reach_2 lc0 rfl ?_
  refine V.istore _ dT_reach_3 (by decide) rfl rfl ?_
  refine V.sub [2, 3, 4, 1, 0] rfl ?_
  exact wT_reach_5 300 σ r0 i1 i2 (0 : Int32) (0 : Int32) ht_r0 hX
theorem kT_reach {E : Ev} {σ : St} {r0 : Nat} {i1 : Int32} {i2 : Int32} {z : Int32} (ht_r0 : isTb r0 = true) (h : fT_reach σ r0 i1 i2 = some z) : Ct mT_reach E [.ref r0, .int i1, .int i2] σ (some (.int z), σ) := Ct.of (by decide) (Nat.le_of_ble_eq_true rfl) (wT_reach σ r0 i1 i2 ht_r0 h)
theorem dT_takers_0 : decode mT_takers.1 0 = .ok (.aload_n 0, 1) := by decide +kernel
theorem dT_takers_1 : decode mT_takers.1 1 = .ok (.iload_n 1, 1) := by decide +kernel
theorem dT_takers_2 : decode mT_takers.1 2 = .ok (.aload_n 0, 1) := by decide +kernel
theorem dT_takers_3 : decode mT_takers.1 3 = .ok (.getfield 37, 3) := by decide +kernel
theorem dT_takers_6 : decode mT_takers.1 6 = .ok (.iload_n 1, 1) := by decide +kernel
theorem dT_takers_7 : decode mT_takers.1 7 = .ok (.iaload, 1) := by decide +kernel
theorem dT_takers_8 : decode mT_takers.1 8 = .ok (.invokevirtual 75, 3) := by decide +kernel
theorem dT_takers_11 : decode mT_takers.1 11 = .ok (.aload_n 0, 1) := by decide +kernel
theorem dT_takers_12 : decode mT_takers.1 12 = .ok (.getfield 40, 3) := by decide +kernel
theorem dT_takers_15 : decode mT_takers.1 15 = .ok (.iload_n 1, 1) := by decide +kernel
theorem dT_takers_16 : decode mT_takers.1 16 = .ok (.iaload, 1) := by decide +kernel
theorem dT_takers_17 : decode mT_takers.1 17 = .ok (.iconst (-1), 1) := by decide +kernel
theorem dT_takers_18 : decode mT_takers.1 18 = .ok (.ixor, 1) := by decide +kernel
theorem dT_takers_19 : decode mT_takers.1 19 = .ok (.iand, 1) := by decide +kernel
theorem dT_takers_20 : decode mT_takers.1 20 = .ok (.ireturn, 1) := by decide +kernel
set_option maxRecDepth 4000 in
theorem wT_takers {E : Ev} {z : Int32} (σ : St) (r0 : Nat) (i1 : Int32) (ht_r0 : isTb r0 = true) (hX : fT_takers σ r0 i1 = some z) : V E mT_takers (FM E (some (.int z), σ)) 0 [(0, .ref r0), (1, .int i1)] [] σ := by
  unfold fT_takers at hX
  refine V.aloadn 0 dT_takers_0 rfl rfl ?_
  refine V.iloadn 1 dT_takers_1 rfl rfl ?_
  refine V.aloadn 0 dT_takers_2 rfl rfl ?_
  refine V.getr r0 (r0 + 6) dT_takers_3 flT_37 (tk0 ht_r0) rfl rfl ?_
  refine V.iloadn 1 dT_takers_6 rfl rfl ?_
  obtain ⟨h1, hX⟩ := ob hX
  refine V.iald (r0 + 6) dT_takers_7 (tk6 ht_r0) h1 rfl ?_
  obtain ⟨q2, c3, hX⟩ := bd hX; try dsimp only at hX
  refine V.callvi r0 [.int i1, .int (gI σ (r0 + 6) (ix i1))] dT_takers_8 (kT_reach ht_r0 c3) mlT_75 myT_reach mnT_reach ⟨rfl, rfl, by decide, by decide⟩ (tk0 ht_r0) (by decide) rfl (Nat.le_of_ble_eq_true rfl) ⟨Nat.zero_le _, Nat.zero_le _⟩ rfl ?_
  refine V.aloadn 0 dT_takers_11 rfl rfl ?_
  refine V.getr r0 (r0 + 7) dT_takers_12 flT_40 (tk0 ht_r0) rfl rfl ?_
  refine V.iloadn 1 dT_takers_15 rfl rfl ?_
  obtain ⟨h4, hX⟩ := ob hX
  refine V.iald (r0 + 7) dT_takers_16 (tk7 ht_r0) h4 rfl ?_
  refine V.iconst (-1 : Int32) dT_takers_17 lcm1 rfl ?_
  refine V.ixor dT_takers_18 rfl ?_
  refine V.iand dT_takers_19 rfl ?_
  have hX := (Option.some.inj hX).symm; subst hX; exact V.iret dT_takers_20 rfl rfl
theorem kT_takers {E : Ev} {σ : St} {r0 : Nat} {i1 : Int32} {z : Int32} (ht_r0 : isTb r0 = true) (h : fT_takers σ r0 i1 = some z) : Ct mT_takers E [.ref r0, .int i1] σ (some (.int z), σ) := Ct.of (by decide) (Nat.le_of_ble_eq_true rfl) (wT_takers σ r0 i1 ht_r0 h)
