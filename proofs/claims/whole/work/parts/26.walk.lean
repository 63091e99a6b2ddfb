theorem dA_start_0 : decode mA_start.1 0 = .ok (.aload_n 0, 1) := by decide +kernel
theorem dA_start_1 : decode mA_start.1 1 = .ok (.iload_n 1, 1) := by decide +kernel
theorem dA_start_2 : decode mA_start.1 2 = .ok (.putfield 19, 3) := by decide +kernel
theorem dA_start_5 : decode mA_start.1 5 = .ok (.aload_n 0, 1) := by decide +kernel
theorem dA_start_6 : decode mA_start.1 6 = .ok (.iload_n 2, 1) := by decide +kernel
theorem dA_start_7 : decode mA_start.1 7 = .ok (.putfield 22, 3) := by decide +kernel
theorem dA_start_10 : decode mA_start.1 10 = .ok (.aload_n 0, 1) := by decide +kernel
theorem dA_start_11 : decode mA_start.1 11 = .ok (.iload_n 3, 1) := by decide +kernel
theorem dA_start_12 : decode mA_start.1 12 = .ok (.putfield 25, 3) := by decide +kernel
theorem dA_start_15 : decode mA_start.1 15 = .ok (.aload_n 0, 1) := by decide +kernel
theorem dA_start_16 : decode mA_start.1 16 = .ok (.iconst 0, 1) := by decide +kernel
theorem dA_start_17 : decode mA_start.1 17 = .ok (.putfield 15, 3) := by decide +kernel
theorem dA_start_20 : decode mA_start.1 20 = .ok (.aload_n 0, 1) := by decide +kernel
theorem dA_start_21 : decode mA_start.1 21 = .ok (.iconst 0, 1) := by decide +kernel
theorem dA_start_22 : decode mA_start.1 22 = .ok (.putfield 28, 3) := by decide +kernel
theorem dA_start_25 : decode mA_start.1 25 = .ok (.aload_n 0, 1) := by decide +kernel
theorem dA_start_26 : decode mA_start.1 26 = .ok (.iload_n 1, 1) := by decide +kernel
theorem dA_start_27 : decode mA_start.1 27 = .ok (.iload 4, 2) := by decide +kernel
theorem dA_start_29 : decode mA_start.1 29 = .ok (.iload 5, 2) := by decide +kernel
theorem dA_start_31 : decode mA_start.1 31 = .ok (.iconst 0, 1) := by decide +kernel
theorem dA_start_32 : decode mA_start.1 32 = .ok (.invokevirtual 32, 3) := by decide +kernel
theorem dA_start_35 : decode mA_start.1 35 = .ok (.istore 6, 2) := by decide +kernel
theorem dA_start_37 : decode mA_start.1 37 = .ok (.aload_n 0, 1) := by decide +kernel
theorem dA_start_38 : decode mA_start.1 38 = .ok (.getfield 28, 3) := by decide +kernel
theorem dA_start_41 : decode mA_start.1 41 = .ok (.ifCond .eq 8, 3) := by decide +kernel
theorem dA_start_44 : decode mA_start.1 44 = .ok (.bipush (-15), 2) := by decide +kernel
theorem dA_start_46 : decode mA_start.1 46 = .ok (.goto 5, 3) := by decide +kernel
theorem dA_start_49 : decode mA_start.1 49 = .ok (.iload 6, 2) := by decide +kernel
theorem dA_start_51 : decode mA_start.1 51 = .ok (.ireturn, 1) := by decide +kernel
set_option maxRecDepth 4000 in
theorem wA_start {E : Ev} {z : Int32 × St} (σ : St) (i1 : Int32) (i2 : Int32) (i3 : Int32) (i4 : Int32) (i5 : Int32) (hX : fA_start σ i1 i2 i3 i4 i5 = some z) : V E mA_start (FM E (some (.int z.1), z.2)) 0 [(0, .ref 31), (1, .int i1), (2, .int i2), (3, .int i3), (4, .int i4), (5, .int i5)] [] σ := by
  unfold fA_start at hX
  refine V.aloadn 0 dA_start_0 rfl rfl ?_
  refine V.iloadn 1 dA_start_1 rfl rfl ?_
  refine V.puti 31 .int dA_start_2 flA_19 fw0_2 (rfl : kd 31 = (0, 0)) ⟨rfl, rfl⟩ rfl ?_
  replace hX := nmx hX; generalize sI σ 31 2 i1 = σ1 at hX ⊢; try dsimp only at hX
  refine V.aloadn 0 dA_start_5 rfl rfl ?_
  refine V.iloadn 2 dA_start_6 rfl rfl ?_
  refine V.puti 31 .int dA_start_7 flA_22 fw0_3 (rfl : kd 31 = (0, 0)) ⟨rfl, rfl⟩ rfl ?_
  replace hX := nmx hX; generalize sI σ1 31 3 i2 = σ2 at hX ⊢; try dsimp only at hX
  refine V.aloadn 0 dA_start_10 rfl rfl ?_
  refine V.iloadn 3 dA_start_11 rfl rfl ?_
  refine V.puti 31 .int dA_start_12 flA_25 fw0_4 (rfl : kd 31 = (0, 0)) ⟨rfl, rfl⟩ rfl ?_
  replace hX := nmx hX; generalize sI σ2 31 4 i3 = σ3 at hX ⊢; try dsimp only at hX
  refine V.aloadn 0 dA_start_15 rfl rfl ?_
  refine V.iconst (0 : Int32) dA_start_16 lc0 rfl ?_
  refine V.puti 31 .int dA_start_17 flA_15 fw0_1 (rfl : kd 31 = (0, 0)) ⟨rfl, rfl⟩ rfl ?_
  replace hX := nmx hX; generalize sI σ3 31 1 (0 : Int32) = σ4 at hX ⊢; try dsimp only at hX
  refine V.aloadn 0 dA_start_20 rfl rfl ?_
  refine V.iconst (0 : Int32) dA_start_21 lc0 rfl ?_
  refine V.puti 31 .boolean dA_start_22 flA_28 fw0_5 (rfl : kd 31 = (0, 0)) (nz b01_0) rfl ?_
  replace hX := nmx hX; generalize sI σ4 31 5 (0 : Int32) = σ5 at hX ⊢; try dsimp only at hX
  refine V.aloadn 0 dA_start_25 rfl rfl ?_
  refine V.iloadn 1 dA_start_26 rfl rfl ?_
  refine V.iload 4 dA_start_27 rfl rfl ?_
  refine V.iload 5 dA_start_29 rfl rfl ?_
  refine V.iconst (0 : Int32) dA_start_31 lc0 rfl ?_
  obtain ⟨q7, σ7, c6, hX⟩ := bi2 hX; try dsimp only at hX
  refine V.callvi 31 [.int i1, .int i4, .int i5, .int (0 : Int32)] dA_start_32 (kA_perform 30 _ _ _ _ _ _ _ c6) mlA_32 (myA_perform _) (mnA_perform _) (by refine ⟨rfl, rfl, ?_, ?_⟩ <;> (dsimp only [mA_start, mA_perform, rm]; omega)) (rfl : kd 31 = (0, 0)) (by decide) rfl (Nat.le_of_ble_eq_true rfl) ⟨Nat.zero_le _, Nat.zero_le _⟩ rfl ?_
  refine V.istore _ dA_start_35 (by decide) rfl rfl ?_
  refine V.aloadn 1 dA_start_37 rfl rfl ?_
  refine V.geti 31 dA_start_38 flA_28 (rfl : kd 31 = (0, 0)) rfl ?_
  have JJ : V E mA_start (FM E (some (.int z.1), z.2)) 51 [(6, .int q7), (0, .ref 31), (1, .int i1), (2, .int i2), (3, .int i3), (4, .int i4), (5, .int i5)] [.int (if (gI σ7 31 5) = 0 then q7 else (-15 : Int32))] σ7 := by
    have hX := (Option.some.inj hX).symm; subst hX; exact V.iret dA_start_51 rfl rfl
  refine V.ifeq 49 dA_start_41 rfl rfl (fun g8 => ?_) (fun g8 => ?_)
  · refine V.iload 0 dA_start_49 rfl rfl ?_
    exact V.top (if_pos g8).symm JJ
  · refine V.bipush (-15 : Int32) dA_start_44 lbm15 rfl ?_
    refine V.goto 51 dA_start_46 rfl ?_
    exact V.top (if_neg g8).symm JJ
theorem kA_start {E : Ev} {σ σ2 : St} {i1 : Int32} {i2 : Int32} {i3 : Int32} {i4 : Int32} {i5 : Int32} {z : Int32} (h : fA_start σ i1 i2 i3 i4 i5 = some (z, σ2)) : Ct mA_start E [.ref 31, .int i1, .int i2, .int i3, .int i4, .int i5] σ (some (.int z), σ2) := Ct.of (by decide) (Nat.le_of_ble_eq_true rfl) (wA_start σ i1 i2 i3 i4 i5 h)
theorem dE_act_0 : decode mE_act.1 0 = .ok (.aload_n 0, 1) := by decide +kernel
theorem dE_act_1 : decode mE_act.1 1 = .ok (.getfield 51, 3) := by decide +kernel
theorem dE_act_4 : decode mE_act.1 4 = .ok (.iconst 0, 1) := by decide +kernel
theorem dE_act_5 : decode mE_act.1 5 = .ok (.putfield 255, 3) := by decide +kernel
theorem dE_act_8 : decode mE_act.1 8 = .ok (.aload_n 0, 1) := by decide +kernel
theorem dE_act_9 : decode mE_act.1 9 = .ok (.getfield 58, 3) := by decide +kernel
theorem dE_act_12 : decode mE_act.1 12 = .ok (.iload_n 1, 1) := by decide +kernel
theorem dE_act_13 : decode mE_act.1 13 = .ok (.invokevirtual 231, 3) := by decide +kernel
theorem dE_act_16 : decode mE_act.1 16 = .ok (.ifCond .eq 12, 3) := by decide +kernel
theorem dE_act_19 : decode mE_act.1 19 = .ok (.iload_n 2, 1) := by decide +kernel
theorem dE_act_20 : decode mE_act.1 20 = .ok (.ifCond .lt 8, 3) := by decide +kernel
theorem dE_act_23 : decode mE_act.1 23 = .ok (.iload_n 2, 1) := by decide +kernel
theorem dE_act_24 : decode mE_act.1 24 = .ok (.iconst 3, 1) := by decide +kernel
theorem dE_act_25 : decode mE_act.1 25 = .ok (.if_icmp .le 5, 3) := by decide +kernel
theorem dE_act_28 : decode mE_act.1 28 = .ok (.iconst 0, 1) := by decide +kernel
theorem dE_act_29 : decode mE_act.1 29 = .ok (.ireturn, 1) := by decide +kernel
theorem dE_act_30 : decode mE_act.1 30 = .ok (.aload_n 0, 1) := by decide +kernel
theorem dE_act_31 : decode mE_act.1 31 = .ok (.iload_n 1, 1) := by decide +kernel
theorem dE_act_32 : decode mE_act.1 32 = .ok (.invokevirtual 249, 3) := by decide +kernel
theorem dE_act_35 : decode mE_act.1 35 = .ok (.istore 4, 2) := by decide +kernel
theorem dE_act_37 : decode mE_act.1 37 = .ok (.iload 4, 2) := by decide +kernel
theorem dE_act_39 : decode mE_act.1 39 = .ok (.ifCond .ge 5, 3) := by decide +kernel
theorem dE_act_42 : decode mE_act.1 42 = .ok (.iconst 0, 1) := by decide +kernel
theorem dE_act_43 : decode mE_act.1 43 = .ok (.ireturn, 1) := by decide +kernel
theorem dE_act_44 : decode mE_act.1 44 = .ok (.aload_n 0, 1) := by decide +kernel
theorem dE_act_45 : decode mE_act.1 45 = .ok (.getfield 51, 3) := by decide +kernel
theorem dE_act_48 : decode mE_act.1 48 = .ok (.aload_n 0, 1) := by decide +kernel
theorem dE_act_49 : decode mE_act.1 49 = .ok (.getfield 10, 3) := by decide +kernel
theorem dE_act_52 : decode mE_act.1 52 = .ok (.getfield 128, 3) := by decide +kernel
theorem dE_act_55 : decode mE_act.1 55 = .ok (.iload 4, 2) := by decide +kernel
theorem dE_act_57 : decode mE_act.1 57 = .ok (.iaload, 1) := by decide +kernel
theorem dE_act_58 : decode mE_act.1 58 = .ok (.iload 4, 2) := by decide +kernel
theorem dE_act_60 : decode mE_act.1 60 = .ok (.aload_n 0, 1) := by decide +kernel
theorem dE_act_61 : decode mE_act.1 61 = .ok (.getfield 10, 3) := by decide +kernel
theorem dE_act_64 : decode mE_act.1 64 = .ok (.getfield 131, 3) := by decide +kernel
theorem dE_act_67 : decode mE_act.1 67 = .ok (.iload 4, 2) := by decide +kernel
theorem dE_act_69 : decode mE_act.1 69 = .ok (.iaload, 1) := by decide +kernel
theorem dE_act_70 : decode mE_act.1 70 = .ok (.iload_n 2, 1) := by decide +kernel
theorem dE_act_71 : decode mE_act.1 71 = .ok (.iload_n 3, 1) := by decide +kernel
theorem dE_act_72 : decode mE_act.1 72 = .ok (.invokevirtual 258, 3) := by decide +kernel
theorem dE_act_75 : decode mE_act.1 75 = .ok (.ireturn, 1) := by decide +kernel
set_option maxRecDepth 4000 in
theorem wE_act {E : Ev} {z : Int32 × St} (σ : St) (i1 : Int32) (i2 : Int32) (i3 : Int32) (hX : fE_act σ i1 i2 i3 = some z) : V E mE_act (FM E (some (.int z.1), z.2)) 0 [(0, .ref 0), (1, .int i1), (2, .int i2), (3, .int i3)] [] σ := by
  unfold fE_act at hX
  refine V.aloadn 0 dE_act_0 rfl rfl ?_
  refine V.getr 0 31 dE_act_1 flE_51 (rfl : kd 0 = (5, 0)) rfl rfl ?_
  refine V.iconst (0 : Int32) dE_act_4 lc0 rfl ?_
  refine V.puti 31 .int dE_act_5 flE_255 fw0_1 (rfl : kd 31 = (0, 0)) ⟨rfl, rfl⟩ rfl ?_
  replace hX := nmx hX; generalize sI σ 31 1 (0 : Int32) = σ1 at hX ⊢; try dsimp only at hX
  refine V.aloadn 0 dE_act_8 rfl rfl ?_
  refine V.getr 0 33 dE_act_9 flE_58 (rfl : kd 0 = (5, 0)) rfl rfl ?_
  refine V.iloadn 1 dE_act_12 rfl rfl ?_
  refine V.callvi 33 [.int i1] dE_act_13 (kH_hasShelf (σ := σ1) i1) mlE_231 myH_hasShelf mnH_hasShelf ⟨rfl, rfl, by decide, by decide⟩ (rfl : kd 33 = (1, 0)) (by decide) rfl (Nat.le_of_ble_eq_true rfl) ⟨Nat.zero_le _, Nat.zero_le _⟩ rfl ?_
  refine V.ifeq 28 dE_act_16 rfl rfl (fun g2 => ?_) (fun g2 => ?_)
  · replace hX := ip hX g2
    refine V.iconst (0 : Int32) dE_act_28 lc0 rfl ?_
    have hX := (Option.some.inj hX).symm; subst hX; exact V.iret dE_act_29 rfl rfl
  · replace hX := im hX g2
    refine V.iloadn 2 dE_act_19 rfl rfl ?_
    refine V.iflt 28 dE_act_20 rfl rfl (fun g3 => ?_) (fun g3 => ?_)
    · replace hX := ip hX g3
      refine V.iconst (0 : Int32) dE_act_28 lc0 rfl ?_
      have hX := (Option.some.inj hX).symm; subst hX; exact V.iret dE_act_29 rfl rfl
    · replace hX := im hX g3
      refine V.iloadn 2 dE_act_23 rfl rfl ?_
      refine V.iconst (3 : Int32) dE_act_24 lc3 rfl ?_
      refine V.icmple 30 dE_act_25 rfl rfl (fun g4 => ?_) (fun g4 => ?_)
      · replace hX := ip hX g4
        refine V.aloadn 0 dE_act_30 rfl rfl ?_
        refine V.iloadn 1 dE_act_31 rfl rfl ?_
        obtain ⟨q5, c6, hX⟩ := bd hX; try dsimp only at hX
        refine V.callvi 0 [.int i1] dE_act_32 (kE_coinOnShelf c6) mlE_249 myE_coinOnShelf mnE_coinOnShelf ⟨rfl, rfl, by decide, by decide⟩ (rfl : kd 0 = (5, 0)) (by decide) rfl (Nat.le_of_ble_eq_true rfl) ⟨Nat.zero_le _, Nat.zero_le _⟩ rfl ?_
        refine V.istore _ dE_act_35 (by decide) rfl rfl ?_
        refine V.iload 0 dE_act_37 rfl rfl ?_
        refine V.ifge 44 dE_act_39 rfl rfl (fun g7 => ?_) (fun g7 => ?_)
        · replace hX := ip hX g7
          refine V.aloadn 1 dE_act_44 rfl rfl ?_
          refine V.getr 0 31 dE_act_45 flE_51 (rfl : kd 0 = (5, 0)) rfl rfl ?_
          refine V.aloadn 1 dE_act_48 rfl rfl ?_
          refine V.getd 0 dE_act_49 flE_10 (rfl : kd 0 = (5, 0)) rfl ?_
          obtain ⟨h8, hX⟩ := ob hX
          refine V.getr (gR σ1 0) ((gR σ1 0) + 4) dE_act_52 flE_128 (tk0 h8) rfl rfl ?_
          refine V.iload 0 dE_act_55 rfl rfl ?_
          obtain ⟨h9, hX⟩ := ob hX
          refine V.iald ((gR σ1 0) + 4) dE_act_57 (tk4 h8) h9 rfl ?_
          refine V.iload 0 dE_act_58 rfl rfl ?_
          refine V.aloadn 1 dE_act_60 rfl rfl ?_
          refine V.getd 0 dE_act_61 flE_10 (rfl : kd 0 = (5, 0)) rfl ?_
          obtain ⟨h10, hX⟩ := ob hX
          refine V.getr (gR σ1 0) ((gR σ1 0) + 5) dE_act_64 flE_131 (tk0 h10) rfl rfl ?_
          refine V.iload 0 dE_act_67 rfl rfl ?_
          obtain ⟨h11, hX⟩ := ob hX
          refine V.iald ((gR σ1 0) + 5) dE_act_69 (tk5 h10) h11 rfl ?_
          refine V.iloadn 3 dE_act_70 rfl rfl ?_
          refine V.iloadn 4 dE_act_71 rfl rfl ?_
          obtain ⟨q13, σ13, c12, hX⟩ := bi2 hX; try dsimp only at hX
          refine V.callvi 31 [.int (gI σ1 ((gR σ1 0) + 4) (ix q5)), .int q5, .int (gI σ1 ((gR σ1 0) + 5) (ix q5)), .int i2, .int i3] dE_act_72 (kA_start c12) mlE_258 myA_start mnA_start ⟨rfl, rfl, by decide, by decide⟩ (rfl : kd 31 = (0, 0)) (by decide) rfl (Nat.le_of_ble_eq_true rfl) ⟨Nat.zero_le _, Nat.zero_le _⟩ rfl ?_
          have hX := (Option.some.inj hX).symm; subst hX; exact V.iret dE_act_75 rfl rfl
        · replace hX := im hX g7
          refine V.iconst (0 : Int32) dE_act_42 lc0 rfl ?_
          have hX := (Option.some.inj hX).symm; subst hX; exact V.iret dE_act_43 rfl rfl
      · replace hX := im hX g4
        refine V.iconst (0 : Int32) dE_act_28 lc0 rfl ?_
        have hX := (Option.some.inj hX).symm; subst hX; exact V.iret dE_act_29 rfl rfl
theorem kE_act {E : Ev} {σ σ2 : St} {i1 : Int32} {i2 : Int32} {i3 : Int32} {z : Int32} (h : fE_act σ i1 i2 i3 = some (z, σ2)) : Ct mE_act E [.ref 0, .int i1, .int i2, .int i3] σ (some (.int z), σ2) := Ct.of (by decide) (Nat.le_of_ble_eq_true rfl) (wE_act σ i1 i2 i3 h)
theorem dE_trace_0 : decode mE_trace.1 0 = .ok (.iload_n 1, 1) := by decide +kernel
theorem dE_trace_1 : decode mE_trace.1 1 = .ok (.ifCond .lt 26, 3) := by decide +kernel
theorem dE_trace_4 : decode mE_trace.1 4 = .ok (.iload_n 1, 1) := by decide +kernel
theorem dE_trace_5 : decode mE_trace.1 5 = .ok (.aload_n 0, 1) := by decide +kernel
theorem dE_trace_6 : decode mE_trace.1 6 = .ok (.getfield 51, 3) := by decide +kernel
theorem dE_trace_9 : decode mE_trace.1 9 = .ok (.getfield 255, 3) := by decide +kernel
theorem dE_trace_12 : decode mE_trace.1 12 = .ok (.if_icmp .ge 15, 3) := by decide +kernel
theorem dE_trace_15 : decode mE_trace.1 15 = .ok (.aload_n 0, 1) := by decide +kernel
theorem dE_trace_16 : decode mE_trace.1 16 = .ok (.getfield 51, 3) := by decide +kernel
theorem dE_trace_19 : decode mE_trace.1 19 = .ok (.getfield 262, 3) := by decide +kernel
theorem dE_trace_22 : decode mE_trace.1 22 = .ok (.iload_n 1, 1) := by decide +kernel
theorem dE_trace_23 : decode mE_trace.1 23 = .ok (.iaload, 1) := by decide +kernel
theorem dE_trace_24 : decode mE_trace.1 24 = .ok (.goto 5, 3) := by decide +kernel
theorem dE_trace_27 : decode mE_trace.1 27 = .ok (.bipush (-3), 2) := by decide +kernel
theorem dE_trace_29 : decode mE_trace.1 29 = .ok (.ireturn, 1) := by decide +kernel
set_option maxRecDepth 4000 in
theorem wE_trace {E : Ev} {z : Int32} (σ : St) (i1 : Int32) (hX : fE_trace σ i1 = some z) : V E mE_trace (FM E (some (.int z), σ)) 0 [(0, .ref 0), (1, .int i1)] [] σ := by
  unfold fE_trace at hX
  refine V.iloadn 1 dE_trace_0 rfl rfl ?_
  refine V.iflt 27 dE_trace_1 rfl rfl (fun g1 => ?_) (fun g1 => ?_)
  · replace hX := ip hX g1
    refine V.bipush (-3 : Int32) dE_trace_27 lbm3 rfl ?_
    have hX := (Option.some.inj hX).symm; subst hX; exact V.iret dE_trace_29 rfl rfl
  · replace hX := im hX g1
    refine V.iloadn 1 dE_trace_4 rfl rfl ?_
    refine V.aloadn 0 dE_trace_5 rfl rfl ?_
    refine V.getr 0 31 dE_trace_6 flE_51 (rfl : kd 0 = (5, 0)) rfl rfl ?_
    refine V.geti 31 dE_trace_9 flE_255 (rfl : kd 31 = (0, 0)) rfl ?_
    refine V.icmpge 27 dE_trace_12 rfl rfl (fun g2 => ?_) (fun g2 => ?_)
    · replace hX := ip hX g2
      refine V.bipush (-3 : Int32) dE_trace_27 lbm3 rfl ?_
      have hX := (Option.some.inj hX).symm; subst hX; exact V.iret dE_trace_29 rfl rfl
    · replace hX := im hX g2
      refine V.aloadn 0 dE_trace_15 rfl rfl ?_
      refine V.getr 0 31 dE_trace_16 flE_51 (rfl : kd 0 = (5, 0)) rfl rfl ?_
      refine V.getr 31 32 dE_trace_19 flE_262 (rfl : kd 31 = (0, 0)) rfl rfl ?_
      refine V.iloadn 1 dE_trace_22 rfl rfl ?_
      obtain ⟨h3, hX⟩ := ob hX
      refine V.iald 32 dE_trace_23 (rfl : kd 32 = (7, 30)) h3 rfl ?_
      refine V.goto 29 dE_trace_24 rfl ?_
      have hX := (Option.some.inj hX).symm; subst hX; exact V.iret dE_trace_29 rfl rfl
theorem kE_trace {E : Ev} {σ : St} {i1 : Int32} {z : Int32} (h : fE_trace σ i1 = some z) : Ct mE_trace E [.ref 0, .int i1] σ (some (.int z), σ) := Ct.of (by decide) (Nat.le_of_ble_eq_true rfl) (wE_trace σ i1 h)
theorem dE_many_0 : decode mE_many.1 0 = .ok (.iload_n 1, 1) := by decide +kernel
theorem dE_many_1 : decode mE_many.1 1 = .ok (.tableswitch 72 0 4 #[35, 43, 51, 56, 64], 35) := by decide +kernel
theorem dE_many_36 : decode mE_many.1 36 = .ok (.aload_n 0, 1) := by decide +kernel
theorem dE_many_37 : decode mE_many.1 37 = .ok (.getfield 10, 3) := by decide +kernel
theorem dE_many_40 : decode mE_many.1 40 = .ok (.getfield 75, 3) := by decide +kernel
theorem dE_many_43 : decode mE_many.1 43 = .ok (.ireturn, 1) := by decide +kernel
theorem dE_many_44 : decode mE_many.1 44 = .ok (.aload_n 0, 1) := by decide +kernel
theorem dE_many_45 : decode mE_many.1 45 = .ok (.getfield 10, 3) := by decide +kernel
theorem dE_many_48 : decode mE_many.1 48 = .ok (.getfield 118, 3) := by decide +kernel
theorem dE_many_51 : decode mE_many.1 51 = .ok (.ireturn, 1) := by decide +kernel
theorem dE_many_52 : decode mE_many.1 52 = .ok (.aload_n 0, 1) := by decide +kernel
theorem dE_many_53 : decode mE_many.1 53 = .ok (.getfield 44, 3) := by decide +kernel
theorem dE_many_56 : decode mE_many.1 56 = .ok (.ireturn, 1) := by decide +kernel
theorem dE_many_57 : decode mE_many.1 57 = .ok (.aload_n 0, 1) := by decide +kernel
theorem dE_many_58 : decode mE_many.1 58 = .ok (.getfield 29, 3) := by decide +kernel
theorem dE_many_61 : decode mE_many.1 61 = .ok (.getfield 62, 3) := by decide +kernel
theorem dE_many_64 : decode mE_many.1 64 = .ok (.ireturn, 1) := by decide +kernel
theorem dE_many_65 : decode mE_many.1 65 = .ok (.aload_n 0, 1) := by decide +kernel
theorem dE_many_66 : decode mE_many.1 66 = .ok (.getfield 51, 3) := by decide +kernel
theorem dE_many_69 : decode mE_many.1 69 = .ok (.getfield 255, 3) := by decide +kernel
theorem dE_many_72 : decode mE_many.1 72 = .ok (.ireturn, 1) := by decide +kernel
theorem dE_many_73 : decode mE_many.1 73 = .ok (.iconst (-1), 1) := by decide +kernel
theorem dE_many_74 : decode mE_many.1 74 = .ok (.ireturn, 1) := by decide +kernel
set_option maxRecDepth 4000 in
theorem wE_many {E : Ev} {z : Int32} (σ : St) (i1 : Int32) (hX : fE_many σ i1 = some z) : V E mE_many (FM E (some (.int z), σ)) 0 [(0, .ref 0), (1, .int i1)] [] σ := by
  unfold fE_many at hX
  refine V.iloadn 1 dE_many_0 rfl rfl ?_
  by_cases g1 : i1 = (0 : Int32)
  · replace hX := ip hX g1
    refine V.tabIn (off := 35) 36 dE_many_1 (by rw [g1]; decide) (by rw [g1]; decide) (by rw [g1]; rfl) rfl ?_
    refine V.aloadn 0 dE_many_36 rfl rfl ?_
    refine V.getd 0 dE_many_37 flE_10 (rfl : kd 0 = (5, 0)) rfl ?_
    obtain ⟨h2, hX⟩ := ob hX
    refine V.geti (gR σ 0) dE_many_40 flE_75 (tk0 h2) rfl ?_
    have hX := (Option.some.inj hX).symm; subst hX; exact V.iret dE_many_43 rfl rfl
  · replace hX := im hX g1
    by_cases g3 : i1 = (1 : Int32)
    · replace hX := ip hX g3
      refine V.tabIn (off := 43) 44 dE_many_1 (by rw [g3]; decide) (by rw [g3]; decide) (by rw [g3]; rfl) rfl ?_
      refine V.aloadn 0 dE_many_44 rfl rfl ?_
      refine V.getd 0 dE_many_45 flE_10 (rfl : kd 0 = (5, 0)) rfl ?_
      obtain ⟨h4, hX⟩ := ob hX
      refine V.geti (gR σ 0) dE_many_48 flE_118 (tk0 h4) rfl ?_
      have hX := (Option.some.inj hX).symm; subst hX; exact V.iret dE_many_51 rfl rfl
    · replace hX := im hX g3
      by_cases g5 : i1 = (2 : Int32)
      · replace hX := ip hX g5
        refine V.tabIn (off := 51) 52 dE_many_1 (by rw [g5]; decide) (by rw [g5]; decide) (by rw [g5]; rfl) rfl ?_
        refine V.aloadn 0 dE_many_52 rfl rfl ?_
        refine V.geti 0 dE_many_53 flE_44 (rfl : kd 0 = (5, 0)) rfl ?_
        have hX := (Option.some.inj hX).symm; subst hX; exact V.iret dE_many_56 rfl rfl
      · replace hX := im hX g5
        by_cases g6 : i1 = (3 : Int32)
        · replace hX := ip hX g6
          refine V.tabIn (off := 56) 57 dE_many_1 (by rw [g6]; decide) (by rw [g6]; decide) (by rw [g6]; rfl) rfl ?_
          refine V.aloadn 0 dE_many_57 rfl rfl ?_
          refine V.getr 0 25 dE_many_58 flE_29 (rfl : kd 0 = (5, 0)) rfl rfl ?_
          refine V.geti 25 dE_many_61 flE_62 (rfl : kd 25 = (3, 0)) rfl ?_
          have hX := (Option.some.inj hX).symm; subst hX; exact V.iret dE_many_64 rfl rfl
        · replace hX := im hX g6
          by_cases g7 : i1 = (4 : Int32)
          · replace hX := ip hX g7
            refine V.tabIn (off := 64) 65 dE_many_1 (by rw [g7]; decide) (by rw [g7]; decide) (by rw [g7]; rfl) rfl ?_
            refine V.aloadn 0 dE_many_65 rfl rfl ?_
            refine V.getr 0 31 dE_many_66 flE_51 (rfl : kd 0 = (5, 0)) rfl rfl ?_
            refine V.geti 31 dE_many_69 flE_255 (rfl : kd 31 = (0, 0)) rfl ?_
            have hX := (Option.some.inj hX).symm; subst hX; exact V.iret dE_many_72 rfl rfl
          · replace hX := im hX g7
            refine V.tabOut 73 dE_many_1 (by have a0 := lv_neT g1 (a := 0) (by decide); have a1 := lv_neT g3 (a := 1) (by decide); have a2 := lv_neT g5 (a := 2) (by decide); have a3 := lv_neT g6 (a := 3) (by decide); have a4 := lv_neT g7 (a := 4) (by decide); omega) rfl ?_
            refine V.iconst (-1 : Int32) dE_many_73 lcm1 rfl ?_
            have hX := (Option.some.inj hX).symm; subst hX; exact V.iret dE_many_74 rfl rfl
theorem kE_many {E : Ev} {σ : St} {i1 : Int32} {z : Int32} (h : fE_many σ i1 = some z) : Ct mE_many E [.ref 0, .int i1] σ (some (.int z), σ) := Ct.of (by decide) (Nat.le_of_ble_eq_true rfl) (wE_many σ i1 h)
theorem dT_become_0 : decode mT_become.1 0 = .ok (.aload_n 0, 1) := by decide +kernel
theorem dT_become_1 : decode mT_become.1 1 = .ok (.aload_n 1, 1) := by decide +kernel
theorem dT_become_2 : decode mT_become.1 2 = .ok (.getfield 9, 3) := by decide +kernel
theorem dT_become_5 : decode mT_become.1 5 = .ok (.putfield 9, 3) := by decide +kernel
theorem dT_become_8 : decode mT_become.1 8 = .ok (.aload_n 0, 1) := by decide +kernel
theorem dT_become_9 : decode mT_become.1 9 = .ok (.aload_n 1, 1) := by decide +kernel
theorem dT_become_10 : decode mT_become.1 10 = .ok (.getfield 15, 3) := by decide +kernel
theorem dT_become_13 : decode mT_become.1 13 = .ok (.putfield 15, 3) := by decide +kernel
theorem dT_become_16 : decode mT_become.1 16 = .ok (.aload_n 0, 1) := by decide +kernel
theorem dT_become_17 : decode mT_become.1 17 = .ok (.aload_n 1, 1) := by decide +kernel
theorem dT_become_18 : decode mT_become.1 18 = .ok (.getfield 18, 3) := by decide +kernel
theorem dT_become_21 : decode mT_become.1 21 = .ok (.putfield 18, 3) := by decide +kernel
theorem dT_become_24 : decode mT_become.1 24 = .ok (.aload_n 1, 1) := by decide +kernel
theorem dT_become_25 : decode mT_become.1 25 = .ok (.getfield 21, 3) := by decide +kernel
theorem dT_become_28 : decode mT_become.1 28 = .ok (.iconst 0, 1) := by decide +kernel
theorem dT_become_29 : decode mT_become.1 29 = .ok (.aload_n 0, 1) := by decide +kernel
theorem dT_become_30 : decode mT_become.1 30 = .ok (.getfield 21, 3) := by decide +kernel
theorem dT_become_33 : decode mT_become.1 33 = .ok (.iconst 0, 1) := by decide +kernel
theorem dT_become_34 : decode mT_become.1 34 = .ok (.bipush 7, 2) := by decide +kernel
theorem dT_become_36 : decode mT_become.1 36 = .ok (.invokestatic 43, 3) := by decide +kernel
theorem dT_become_39 : decode mT_become.1 39 = .ok (.aload_n 1, 1) := by decide +kernel
theorem dT_become_40 : decode mT_become.1 40 = .ok (.getfield 25, 3) := by decide +kernel
theorem dT_become_43 : decode mT_become.1 43 = .ok (.iconst 0, 1) := by decide +kernel
theorem dT_become_44 : decode mT_become.1 44 = .ok (.aload_n 0, 1) := by decide +kernel
theorem dT_become_45 : decode mT_become.1 45 = .ok (.getfield 25, 3) := by decide +kernel
theorem dT_become_48 : decode mT_become.1 48 = .ok (.iconst 0, 1) := by decide +kernel
theorem dT_become_49 : decode mT_become.1 49 = .ok (.bipush 7, 2) := by decide +kernel
theorem dT_become_51 : decode mT_become.1 51 = .ok (.invokestatic 43, 3) := by decide +kernel
theorem dT_become_54 : decode mT_become.1 54 = .ok (.aload_n 1, 1) := by decide +kernel
theorem dT_become_55 : decode mT_become.1 55 = .ok (.getfield 28, 3) := by decide +kernel
theorem dT_become_58 : decode mT_become.1 58 = .ok (.iconst 0, 1) := by decide +kernel
theorem dT_become_59 : decode mT_become.1 59 = .ok (.aload_n 0, 1) := by decide +kernel
theorem dT_become_60 : decode mT_become.1 60 = .ok (.getfield 28, 3) := by decide +kernel
theorem dT_become_63 : decode mT_become.1 63 = .ok (.iconst 0, 1) := by decide +kernel
theorem dT_become_64 : decode mT_become.1 64 = .ok (.bipush 7, 2) := by decide +kernel
theorem dT_become_66 : decode mT_become.1 66 = .ok (.invokestatic 43, 3) := by decide +kernel
theorem dT_become_69 : decode mT_become.1 69 = .ok (.aload_n 1, 1) := by decide +kernel
theorem dT_become_70 : decode mT_become.1 70 = .ok (.getfield 31, 3) := by decide +kernel
theorem dT_become_73 : decode mT_become.1 73 = .ok (.iconst 0, 1) := by decide +kernel
theorem dT_become_74 : decode mT_become.1 74 = .ok (.aload_n 0, 1) := by decide +kernel
theorem dT_become_75 : decode mT_become.1 75 = .ok (.getfield 31, 3) := by decide +kernel
theorem dT_become_78 : decode mT_become.1 78 = .ok (.iconst 0, 1) := by decide +kernel
theorem dT_become_79 : decode mT_become.1 79 = .ok (.bipush 6, 2) := by decide +kernel
theorem dT_become_81 : decode mT_become.1 81 = .ok (.invokestatic 43, 3) := by decide +kernel
theorem dT_become_84 : decode mT_become.1 84 = .ok (.aload_n 1, 1) := by decide +kernel
theorem dT_become_85 : decode mT_become.1 85 = .ok (.getfield 34, 3) := by decide +kernel
theorem dT_become_88 : decode mT_become.1 88 = .ok (.iconst 0, 1) := by decide +kernel
theorem dT_become_89 : decode mT_become.1 89 = .ok (.aload_n 0, 1) := by decide +kernel
theorem dT_become_90 : decode mT_become.1 90 = .ok (.getfield 34, 3) := by decide +kernel
theorem dT_become_93 : decode mT_become.1 93 = .ok (.iconst 0, 1) := by decide +kernel
theorem dT_become_94 : decode mT_become.1 94 = .ok (.bipush 6, 2) := by decide +kernel
theorem dT_become_96 : decode mT_become.1 96 = .ok (.invokestatic 43, 3) := by decide +kernel
theorem dT_become_99 : decode mT_become.1 99 = .ok (.aload_n 1, 1) := by decide +kernel
theorem dT_become_100 : decode mT_become.1 100 = .ok (.getfield 37, 3) := by decide +kernel
theorem dT_become_103 : decode mT_become.1 103 = .ok (.iconst 0, 1) := by decide +kernel
theorem dT_become_104 : decode mT_become.1 104 = .ok (.aload_n 0, 1) := by decide +kernel
theorem dT_become_105 : decode mT_become.1 105 = .ok (.getfield 37, 3) := by decide +kernel
theorem dT_become_108 : decode mT_become.1 108 = .ok (.iconst 0, 1) := by decide +kernel
theorem dT_become_109 : decode mT_become.1 109 = .ok (.bipush 6, 2) := by decide +kernel
theorem dT_become_111 : decode mT_become.1 111 = .ok (.invokestatic 43, 3) := by decide +kernel
theorem dT_become_114 : decode mT_become.1 114 = .ok (.aload_n 1, 1) := by decide +kernel
theorem dT_become_115 : decode mT_become.1 115 = .ok (.getfield 40, 3) := by decide +kernel
theorem dT_become_118 : decode mT_become.1 118 = .ok (.iconst 0, 1) := by decide +kernel
theorem dT_become_119 : decode mT_become.1 119 = .ok (.aload_n 0, 1) := by decide +kernel
theorem dT_become_120 : decode mT_become.1 120 = .ok (.getfield 40, 3) := by decide +kernel
theorem dT_become_123 : decode mT_become.1 123 = .ok (.iconst 0, 1) := by decide +kernel
theorem dT_become_124 : decode mT_become.1 124 = .ok (.bipush 6, 2) := by decide +kernel
theorem dT_become_126 : decode mT_become.1 126 = .ok (.invokestatic 43, 3) := by decide +kernel
theorem dT_become_129 : decode mT_become.1 129 = .ok (.return_, 1) := by decide +kernel
set_option maxRecDepth 4000 in
theorem wT_become {E : Ev} {z : St} (σ : St) (r0 : Nat) (r1 : Nat) (ht_r0 : isTb r0 = true) (ht_r1 : isTb r1 = true) (hX : fT_become σ r0 r1 = some z) : V E mT_become (FM E (none, z)) 0 [(0, .ref r0), (1, .ref r1)] [] σ := by
  unfold fT_become at hX
  refine V.aloadn 0 dT_become_0 rfl rfl ?_
  refine V.aloadn 1 dT_become_1 rfl rfl ?_
  refine V.geti r1 dT_become_2 flT_9 (tk0 ht_r1) rfl ?_
  refine V.puti r0 .int dT_become_5 flT_9 fw2_0 (tk0 ht_r0) ⟨rfl, rfl⟩ rfl ?_
  replace hX := nmx hX; generalize sI σ r0 0 (gI σ r1 0) = σ1 at hX ⊢; try dsimp only at hX
  refine V.aloadn 0 dT_become_8 rfl rfl ?_
  refine V.aloadn 1 dT_become_9 rfl rfl ?_
  refine V.geti r1 dT_become_10 flT_15 (tk0 ht_r1) rfl ?_
  refine V.puti r0 .int dT_become_13 flT_15 fw2_1 (tk0 ht_r0) ⟨rfl, rfl⟩ rfl ?_
  replace hX := nmx hX; generalize sI σ1 r0 1 (gI σ1 r1 1) = σ2 at hX ⊢; try dsimp only at hX
  refine V.aloadn 0 dT_become_16 rfl rfl ?_
  refine V.aloadn 1 dT_become_17 rfl rfl ?_
  refine V.geti r1 dT_become_18 flT_18 (tk0 ht_r1) rfl ?_
  refine V.puti r0 .int dT_become_21 flT_18 fw2_2 (tk0 ht_r0) ⟨rfl, rfl⟩ rfl ?_
  replace hX := nmx hX; generalize sI σ2 r0 2 (gI σ2 r1 2) = σ3 at hX ⊢; try dsimp only at hX
  refine V.aloadn 1 dT_become_24 rfl rfl ?_
  refine V.getr r1 (r1 + 1) dT_become_25 flT_21 (tk0 ht_r1) rfl rfl ?_
  refine V.iconst (0 : Int32) dT_become_28 lc0 rfl ?_
  refine V.aloadn 0 dT_become_29 rfl rfl ?_
  refine V.getr r0 (r0 + 1) dT_become_30 flT_21 (tk0 ht_r0) rfl rfl ?_
  refine V.iconst (0 : Int32) dT_become_33 lc0 rfl ?_
  refine V.bipush (7 : Int32) dT_become_34 lb7 rfl ?_
  refine V.acopy (r1 + 1) (r0 + 1) dT_become_36 acw_T (tk1 ht_r1) (tk1 ht_r0) (by decide) (by decide) (by decide) (by decide) rfl ?_
  replace hX := nmx hX; generalize cpI σ3 (r1 + 1) (r0 + 1) ((7 : Int32)).toNatClampNeg = σ4 at hX ⊢; try dsimp only at hX
  refine V.aloadn 1 dT_become_39 rfl rfl ?_
  refine V.getr r1 (r1 + 2) dT_become_40 flT_25 (tk0 ht_r1) rfl rfl ?_
  refine V.iconst (0 : Int32) dT_become_43 lc0 rfl ?_
  refine V.aloadn 0 dT_become_44 rfl rfl ?_
  refine V.getr r0 (r0 + 2) dT_become_45 flT_25 (tk0 ht_r0) rfl rfl ?_
  refine V.iconst (0 : Int32) dT_become_48 lc0 rfl ?_
  refine V.bipush (7 : Int32) dT_become_49 lb7 rfl ?_
  refine V.acopy (r1 + 2) (r0 + 2) dT_become_51 acw_T (tk2 ht_r1) (tk2 ht_r0) (by decide) (by decide) (by decide) (by decide) rfl ?_
  replace hX := nmx hX; generalize cpI σ4 (r1 + 2) (r0 + 2) ((7 : Int32)).toNatClampNeg = σ5 at hX ⊢; try dsimp only at hX
  refine V.aloadn 1 dT_become_54 rfl rfl ?_
  refine V.getr r1 (r1 + 3) dT_become_55 flT_28 (tk0 ht_r1) rfl rfl ?_
  refine V.iconst (0 : Int32) dT_become_58 lc0 rfl ?_
  refine V.aloadn 0 dT_become_59 rfl rfl ?_
  refine V.getr r0 (r0 + 3) dT_become_60 flT_28 (tk0 ht_r0) rfl rfl ?_
  refine V.iconst (0 : Int32) dT_become_63 lc0 rfl ?_
  refine V.bipush (7 : Int32) dT_become_64 lb7 rfl ?_
  refine V.acopy (r1 + 3) (r0 + 3) dT_become_66 acw_T (tk3 ht_r1) (tk3 ht_r0) (by decide) (by decide) (by decide) (by decide) rfl ?_
  replace hX := nmx hX; generalize cpI σ5 (r1 + 3) (r0 + 3) ((7 : Int32)).toNatClampNeg = σ6 at hX ⊢; try dsimp only at hX
  refine V.aloadn 1 dT_become_69 rfl rfl ?_
  refine V.getr r1 (r1 + 4) dT_become_70 flT_31 (tk0 ht_r1) rfl rfl ?_
  refine V.iconst (0 : Int32) dT_become_73 lc0 rfl ?_
  refine V.aloadn 0 dT_become_74 rfl rfl ?_
  refine V.getr r0 (r0 + 4) dT_become_75 flT_31 (tk0 ht_r0) rfl rfl ?_
  refine V.iconst (0 : Int32) dT_become_78 lc0 rfl ?_
  refine V.bipush (6 : Int32) dT_become_79 lb6 rfl ?_
  refine V.acopy (r1 + 4) (r0 + 4) dT_become_81 acw_T (tk4 ht_r1) (tk4 ht_r0) (by decide) (by decide) (by decide) (by decide) rfl ?_
  replace hX := nmx hX; generalize cpI σ6 (r1 + 4) (r0 + 4) ((6 : Int32)).toNatClampNeg = σ7 at hX ⊢; try dsimp only at hX
  refine V.aloadn 1 dT_become_84 rfl rfl ?_
  refine V.getr r1 (r1 + 5) dT_become_85 flT_34 (tk0 ht_r1) rfl rfl ?_
  refine V.iconst (0 : Int32) dT_become_88 lc0 rfl ?_
  refine V.aloadn 0 dT_become_89 rfl rfl ?_
  refine V.getr r0 (r0 + 5) dT_become_90 flT_34 (tk0 ht_r0) rfl rfl ?_
  refine V.iconst (0 : Int32) dT_become_93 lc0 rfl ?_
  refine V.bipush (6 : Int32) dT_become_94 lb6 rfl ?_
  refine V.acopy (r1 + 5) (r0 + 5) dT_become_96 acw_T (tk5 ht_r1) (tk5 ht_r0) (by decide) (by decide) (by decide) (by decide) rfl ?_
  replace hX := nmx hX; generalize cpI σ7 (r1 + 5) (r0 + 5) ((6 : Int32)).toNatClampNeg = σ8 at hX ⊢; try dsimp only at hX
  refine V.aloadn 1 dT_become_99 rfl rfl ?_
  refine V.getr r1 (r1 + 6) dT_become_100 flT_37 (tk0 ht_r1) rfl rfl ?_
  refine V.iconst (0 : Int32) dT_become_103 lc0 rfl ?_
  refine V.aloadn 0 dT_become_104 rfl rfl ?_
  refine V.getr r0 (r0 + 6) dT_become_105 flT_37 (tk0 ht_r0) rfl rfl ?_
  refine V.iconst (0 : Int32) dT_become_108 lc0 rfl ?_
  refine V.bipush (6 : Int32) dT_become_109 lb6 rfl ?_
  refine V.acopy (r1 + 6) (r0 + 6) dT_become_111 acw_T (tk6 ht_r1) (tk6 ht_r0) (by decide) (by decide) (by decide) (by decide) rfl ?_
  replace hX := nmx hX; generalize cpI σ8 (r1 + 6) (r0 + 6) ((6 : Int32)).toNatClampNeg = σ9 at hX ⊢; try dsimp only at hX
  refine V.aloadn 1 dT_become_114 rfl rfl ?_
  refine V.getr r1 (r1 + 7) dT_become_115 flT_40 (tk0 ht_r1) rfl rfl ?_
  refine V.iconst (0 : Int32) dT_become_118 lc0 rfl ?_
  refine V.aloadn 0 dT_become_119 rfl rfl ?_
  refine V.getr r0 (r0 + 7) dT_become_120 flT_40 (tk0 ht_r0) rfl rfl ?_
  refine V.iconst (0 : Int32) dT_become_123 lc0 rfl ?_
  refine V.bipush (6 : Int32) dT_become_124 lb6 rfl ?_
  refine V.acopy (r1 + 7) (r0 + 7) dT_become_126 acw_T (tk7 ht_r1) (tk7 ht_r0) (by decide) (by decide) (by decide) (by decide) rfl ?_
  replace hX := nmx hX; generalize cpI σ9 (r1 + 7) (r0 + 7) ((6 : Int32)).toNatClampNeg = σ10 at hX ⊢; try dsimp only at hX
  have hX := (Option.some.inj hX).symm; subst hX; exact V.vret dT_become_129 rfl rfl
theorem kT_become {E : Ev} {σ z : St} {r0 : Nat} {r1 : Nat} (ht_r0 : isTb r0 = true) (ht_r1 : isTb r1 = true) (h : fT_become σ r0 r1 = some z) : Ct mT_become E [.ref r0, .ref r1] σ (none, z) := Ct.of (by decide) (Nat.le_of_ble_eq_true rfl) (wT_become σ r0 r1 ht_r0 ht_r1 h)
theorem dE_keep_0 : decode mE_keep.1 0 = .ok (.aload_n 0, 1) := by decide +kernel
theorem dE_keep_1 : decode mE_keep.1 1 = .ok (.getfield 19, 3) := by decide +kernel
theorem dE_keep_4 : decode mE_keep.1 4 = .ok (.aload_n 0, 1) := by decide +kernel
theorem dE_keep_5 : decode mE_keep.1 5 = .ok (.getfield 10, 3) := by decide +kernel
theorem dE_keep_8 : decode mE_keep.1 8 = .ok (.invokevirtual 265, 3) := by decide +kernel
theorem dE_keep_11 : decode mE_keep.1 11 = .ok (.aload_n 0, 1) := by decide +kernel
theorem dE_keep_12 : decode mE_keep.1 12 = .ok (.iconst 1, 1) := by decide +kernel
theorem dE_keep_13 : decode mE_keep.1 13 = .ok (.putfield 22, 3) := by decide +kernel
theorem dE_keep_16 : decode mE_keep.1 16 = .ok (.iconst 1, 1) := by decide +kernel
theorem dE_keep_17 : decode mE_keep.1 17 = .ok (.ireturn, 1) := by decide +kernel
set_option maxRecDepth 4000 in
theorem wE_keep {E : Ev} {z : Int32 × St} (σ : St) (hX : fE_keep σ = some z) : V E mE_keep (FM E (some (.int z.1), z.2)) 0 [(0, .ref 0)] [] σ := by
  unfold fE_keep at hX
  refine V.aloadn 0 dE_keep_0 rfl rfl ?_
  refine V.getr 0 17 dE_keep_1 flE_19 (rfl : kd 0 = (5, 0)) rfl rfl ?_
  refine V.aloadn 0 dE_keep_4 rfl rfl ?_
  refine V.getd 0 dE_keep_5 flE_10 (rfl : kd 0 = (5, 0)) rfl ?_
  obtain ⟨h1, hX⟩ := ob hX
  obtain ⟨σ3, c2, hX⟩ := bd hX; try dsimp only at hX
  refine V.callv0 17 [.ref (gR σ 0)] dE_keep_8 (kT_become (rfl : isTb 17 = true) h1 c2) mlE_265 myT_become mnT_become ⟨rfl, rfl, by decide, by decide⟩ (rfl : kd 17 = (2, 0)) (by decide) rfl (Nat.le_of_ble_eq_true rfl) ⟨Nat.zero_le _, Nat.zero_le _⟩ rfl ?_
  refine V.aloadn 0 dE_keep_11 rfl rfl ?_
  refine V.iconst (1 : Int32) dE_keep_12 lc1 rfl ?_
  refine V.puti 0 .boolean dE_keep_13 flE_22 fw5_3 (rfl : kd 0 = (5, 0)) (nz b01_1) rfl ?_
  replace hX := nmx hX; generalize sI σ3 0 3 (1 : Int32) = σ4 at hX ⊢; try dsimp only at hX
  refine V.iconst (1 : Int32) dE_keep_16 lc1 rfl ?_
  have hX := (Option.some.inj hX).symm; subst hX; exact V.iret dE_keep_17 rfl rfl
theorem kE_keep {E : Ev} {σ σ2 : St} {z : Int32} (h : fE_keep σ = some (z, σ2)) : Ct mE_keep E [.ref 0] σ (some (.int z), σ2) := Ct.of (by decide) (Nat.le_of_ble_eq_true rfl) (wE_keep σ h)
theorem dE_again_0 : decode mE_again.1 0 = .ok (.aload_n 0, 1) := by decide +kernel
theorem dE_again_1 : decode mE_again.1 1 = .ok (.getfield 22, 3) := by decide +kernel
theorem dE_again_4 : decode mE_again.1 4 = .ok (.ifCond .ne 6, 3) := by decide +kernel
theorem dE_again_7 : decode mE_again.1 7 = .ok (.bipush (-3), 2) := by decide +kernel
theorem dE_again_9 : decode mE_again.1 9 = .ok (.ireturn, 1) := by decide +kernel
theorem dE_again_10 : decode mE_again.1 10 = .ok (.aload_n 0, 1) := by decide +kernel
theorem dE_again_11 : decode mE_again.1 11 = .ok (.getfield 10, 3) := by decide +kernel
theorem dE_again_14 : decode mE_again.1 14 = .ok (.aload_n 0, 1) := by decide +kernel
theorem dE_again_15 : decode mE_again.1 15 = .ok (.getfield 19, 3) := by decide +kernel
theorem dE_again_18 : decode mE_again.1 18 = .ok (.invokevirtual 265, 3) := by decide +kernel
theorem dE_again_21 : decode mE_again.1 21 = .ok (.aload_n 0, 1) := by decide +kernel
theorem dE_again_22 : decode mE_again.1 22 = .ok (.getfield 10, 3) := by decide +kernel
theorem dE_again_25 : decode mE_again.1 25 = .ok (.getfield 75, 3) := by decide +kernel
theorem dE_again_28 : decode mE_again.1 28 = .ok (.ireturn, 1) := by decide +kernel
set_option maxRecDepth 4000 in
theorem wE_again {E : Ev} {z : Int32 × St} (σ : St) (hX : fE_again σ = some z) : V E mE_again (FM E (some (.int z.1), z.2)) 0 [(0, .ref 0)] [] σ := by
  unfold fE_again at hX
  refine V.aloadn 0 dE_again_0 rfl rfl ?_
  refine V.geti 0 dE_again_1 flE_22 (rfl : kd 0 = (5, 0)) rfl ?_
  refine V.ifne 10 dE_again_4 rfl rfl (fun g1 => ?_) (fun g1 => ?_)
  · replace hX := im hX g1
    refine V.aloadn 0 dE_again_10 rfl rfl ?_
    refine V.getd 0 dE_again_11 flE_10 (rfl : kd 0 = (5, 0)) rfl ?_
    refine V.aloadn 0 dE_again_14 rfl rfl ?_
    refine V.getr 0 17 dE_again_15 flE_19 (rfl : kd 0 = (5, 0)) rfl rfl ?_
    obtain ⟨h2, hX⟩ := ob hX
    obtain ⟨σ4, c3, hX⟩ := bd hX; try dsimp only at hX
    refine V.callv0 (gR σ 0) [.ref 17] dE_again_18 (kT_become h2 (rfl : isTb 17 = true) c3) mlE_265 myT_become mnT_become ⟨rfl, rfl, by decide, by decide⟩ (tk0 h2) (by decide) rfl (Nat.le_of_ble_eq_true rfl) ⟨Nat.zero_le _, Nat.zero_le _⟩ rfl ?_
    refine V.aloadn 0 dE_again_21 rfl rfl ?_
    refine V.getd 0 dE_again_22 flE_10 (rfl : kd 0 = (5, 0)) rfl ?_
    obtain ⟨h5, hX⟩ := ob hX
    refine V.geti (gR σ4 0) dE_again_25 flE_75 (tk0 h5) rfl ?_
    have hX := (Option.some.inj hX).symm; subst hX; exact V.iret dE_again_28 rfl rfl
  · replace hX := ip hX g1
    refine V.bipush (-3 : Int32) dE_again_7 lbm3 rfl ?_
    have hX := (Option.some.inj hX).symm; subst hX; exact V.iret dE_again_9 rfl rfl
theorem kE_again {E : Ev} {σ σ2 : St} {z : Int32} (h : fE_again σ = some (z, σ2)) : Ct mE_again E [.ref 0] σ (some (.int z), σ2) := Ct.of (by decide) (Nat.le_of_ble_eq_true rfl) (wE_again σ h)
theorem dM_in_0 : decode mM_in.1 0 = .ok (.iload_n 0, 1) := by decide +kernel
theorem dM_in_1 : decode mM_in.1 1 = .ok (.iload_n 1, 1) := by decide +kernel
theorem dM_in_2 : decode mM_in.1 2 = .ok (.if_icmp .lt 12, 3) := by decide +kernel
theorem dM_in_5 : decode mM_in.1 5 = .ok (.iload_n 0, 1) := by decide +kernel
theorem dM_in_6 : decode mM_in.1 6 = .ok (.iload_n 2, 1) := by decide +kernel
theorem dM_in_7 : decode mM_in.1 7 = .ok (.if_icmp .gt 7, 3) := by decide +kernel
theorem dM_in_10 : decode mM_in.1 10 = .ok (.iconst 1, 1) := by decide +kernel
theorem dM_in_11 : decode mM_in.1 11 = .ok (.goto 4, 3) := by decide +kernel
theorem dM_in_14 : decode mM_in.1 14 = .ok (.iconst 0, 1) := by decide +kernel
theorem dM_in_15 : decode mM_in.1 15 = .ok (.ireturn, 1) := by decide +kernel
set_option maxRecDepth 4000 in
theorem wM_in {E : Ev} {z : Int32} (σ : St) (i0 : Int32) (i1 : Int32) (i2 : Int32) (hX : fM_in i0 i1 i2 = z) : V E mM_in (FM E (some (.int z), σ)) 0 [(0, .int i0), (1, .int i1), (2, .int i2)] [] σ := by
  unfold fM_in at hX
  refine V.iloadn 0 dM_in_0 rfl rfl ?_
  refine V.iloadn 1 dM_in_1 rfl rfl ?_
  have JJ : V E mM_in (FM E (some (.int z), σ)) 15 [(0, .int i0), (1, .int i1), (2, .int i2)] [.int (if i0 < i1 then (0 : Int32) else (if i2 < i0 then (0 : Int32) else (1 : Int32)))] σ := by
    subst hX; exact V.zret .boolean dM_in_15 rfl (nz (b01_i b01_0 (b01_i b01_0 b01_1))).1 rfl
  refine V.icmplt 14 dM_in_2 rfl rfl (fun g1 => ?_) (fun g1 => ?_)
  · refine V.iconst (0 : Int32) dM_in_14 lc0 rfl ?_
    exact V.top (if_pos g1).symm JJ
  · refine V.iloadn 0 dM_in_5 rfl rfl ?_
    refine V.iloadn 2 dM_in_6 rfl rfl ?_
    refine V.icmpgt 14 dM_in_7 rfl rfl (fun g2 => ?_) (fun g2 => ?_)
    · refine V.iconst (0 : Int32) dM_in_14 lc0 rfl ?_
      exact V.top ((if_neg g1).trans (if_pos g2)).symm JJ
    · refine V.iconst (1 : Int32) dM_in_10 lc1 rfl ?_
      refine V.goto 15 dM_in_11 rfl ?_
      exact V.top ((if_neg g1).trans (if_neg g2)).symm JJ
theorem kM_in {E : Ev} {σ : St} (i0 : Int32) (i1 : Int32) (i2 : Int32) : Ct mM_in E [.int i0, .int i1, .int i2] σ (some (.int (fM_in i0 i1 i2)), σ) := Ct.of (by decide) (Nat.le_of_ble_eq_true rfl) (wM_in σ i0 i1 i2 rfl)
theorem bM_in (i0 : Int32) (i1 : Int32) (i2 : Int32) : b01 (fM_in i0 i1 i2) := by
  unfold fM_in
  exact (b01_i b01_0 (b01_i b01_0 b01_1))
theorem dM_feed_0 : decode mM_feed.1 0 = .ok (.iload_n 3, 1) := by decide +kernel
theorem dM_feed_1 : decode mM_feed.1 1 = .ok (.iconst 1, 1) := by decide +kernel
theorem dM_feed_2 : decode mM_feed.1 2 = .ok (.bipush 8, 2) := by decide +kernel
theorem dM_feed_4 : decode mM_feed.1 4 = .ok (.invokestatic 84, 3) := by decide +kernel
theorem dM_feed_7 : decode mM_feed.1 7 = .ok (.ifCond .ne 5, 3) := by decide +kernel
theorem dM_feed_10 : decode mM_feed.1 10 = .ok (.iconst (-1), 1) := by decide +kernel
theorem dM_feed_11 : decode mM_feed.1 11 = .ok (.ireturn, 1) := by decide +kernel
theorem dM_feed_12 : decode mM_feed.1 12 = .ok (.aload_n 0, 1) := by decide +kernel
theorem dM_feed_13 : decode mM_feed.1 13 = .ok (.getfield 91, 3) := by decide +kernel
theorem dM_feed_16 : decode mM_feed.1 16 = .ok (.iload_n 3, 1) := by decide +kernel
theorem dM_feed_17 : decode mM_feed.1 17 = .ok (.iadd, 1) := by decide +kernel
theorem dM_feed_18 : decode mM_feed.1 18 = .ok (.sipush 200, 3) := by decide +kernel
theorem dM_feed_21 : decode mM_feed.1 21 = .ok (.if_icmp .le 6, 3) := by decide +kernel
theorem dM_feed_24 : decode mM_feed.1 24 = .ok (.bipush (-2), 2) := by decide +kernel
theorem dM_feed_26 : decode mM_feed.1 26 = .ok (.ireturn, 1) := by decide +kernel
theorem dM_feed_27 : decode mM_feed.1 27 = .ok (.iconst 0, 1) := by decide +kernel
theorem dM_feed_28 : decode mM_feed.1 28 = .ok (.istore 4, 2) := by decide +kernel
theorem dM_feed_30 : decode mM_feed.1 30 = .ok (.iload 4, 2) := by decide +kernel
theorem dM_feed_32 : decode mM_feed.1 32 = .ok (.iload_n 3, 1) := by decide +kernel
theorem dM_feed_33 : decode mM_feed.1 33 = .ok (.if_icmp .ge 40, 3) := by decide +kernel
theorem dM_feed_36 : decode mM_feed.1 36 = .ok (.aload_n 0, 1) := by decide +kernel
theorem dM_feed_37 : decode mM_feed.1 37 = .ok (.getfield 26, 3) := by decide +kernel
theorem dM_feed_40 : decode mM_feed.1 40 = .ok (.aload_n 0, 1) := by decide +kernel
theorem dM_feed_41 : decode mM_feed.1 41 = .ok (.getfield 91, 3) := by decide +kernel
theorem dM_feed_44 : decode mM_feed.1 44 = .ok (.lload_n 1, 1) := by decide +kernel
theorem dM_feed_45 : decode mM_feed.1 45 = .ok (.bipush 8, 2) := by decide +kernel
theorem dM_feed_47 : decode mM_feed.1 47 = .ok (.iload 4, 2) := by decide +kernel
theorem dM_feed_49 : decode mM_feed.1 49 = .ok (.imul, 1) := by decide +kernel
theorem dM_feed_50 : decode mM_feed.1 50 = .ok (.lshr, 1) := by decide +kernel
theorem dM_feed_51 : decode mM_feed.1 51 = .ok (.ldc2_w 94, 3) := by decide +kernel
theorem dM_feed_54 : decode mM_feed.1 54 = .ok (.land, 1) := by decide +kernel
theorem dM_feed_55 : decode mM_feed.1 55 = .ok (.l2i, 1) := by decide +kernel
theorem dM_feed_56 : decode mM_feed.1 56 = .ok (.iastore, 1) := by decide +kernel
theorem dM_feed_57 : decode mM_feed.1 57 = .ok (.aload_n 0, 1) := by decide +kernel
theorem dM_feed_58 : decode mM_feed.1 58 = .ok (.dup, 1) := by decide +kernel
theorem dM_feed_59 : decode mM_feed.1 59 = .ok (.getfield 91, 3) := by decide +kernel
theorem dM_feed_62 : decode mM_feed.1 62 = .ok (.iconst 1, 1) := by decide +kernel
theorem dM_feed_63 : decode mM_feed.1 63 = .ok (.iadd, 1) := by decide +kernel
theorem dM_feed_64 : decode mM_feed.1 64 = .ok (.putfield 91, 3) := by decide +kernel
theorem dM_feed_67 : decode mM_feed.1 67 = .ok (.iinc 4 1, 3) := by decide +kernel
theorem dM_feed_70 : decode mM_feed.1 70 = .ok (.goto (-40), 3) := by decide +kernel
theorem dM_feed_73 : decode mM_feed.1 73 = .ok (.aload_n 0, 1) := by decide +kernel
theorem dM_feed_74 : decode mM_feed.1 74 = .ok (.getfield 91, 3) := by decide +kernel
theorem dM_feed_77 : decode mM_feed.1 77 = .ok (.ireturn, 1) := by decide +kernel
set_option maxRecDepth 4000 in
theorem wM_feed_30 {E : Ev} {z : Int32 × St} : ∀ (fu : Nat) (σ : St) (l1 : Int64) (i3 : Int32) (i4 : Int32), fM_feed_30 fu σ l1 i3 i4 = some z → V E mM_feed (FM E (some (.int z.1), z.2)) 30 [(0, .ref 44), (1, .long l1), (3, .int i3), (4, .int i4)] [] σ := by
  intro fu
  induction fu with
  | zero => intro σ l1 i3 i4 hX; cases hX
  | succ fu ih =>
    intro σ l1 i3 i4 hX
    rw [fM_feed_30] at hX
    refine V.iload 3 dM_feed_30 rfl rfl ?_
    refine V.iloadn 2 dM_feed_32 rfl rfl ?_
    refine V.icmpge 73 dM_feed_33 rfl rfl (fun g3 => ?_) (fun g3 => ?_)
    · replace hX := ip hX g3
      refine V.aloadn 0 dM_feed_73 rfl rfl ?_
      refine V.geti 44 dM_feed_74 flM_91 (rfl : kd 44 = (6, 0)) rfl ?_
      have hX := (Option.some.inj hX).symm; subst hX; exact V.iret dM_feed_77 rfl rfl
    · replace hX := im hX g3
      refine V.aloadn 0 dM_feed_36 rfl rfl ?_
      refine V.getr 44 49 dM_feed_37 flM_26 (rfl : kd 44 = (6, 0)) rfl rfl ?_
      refine V.aloadn 0 dM_feed_40 rfl rfl ?_
      refine V.geti 44 dM_feed_41 flM_91 (rfl : kd 44 = (6, 0)) rfl ?_
      refine V.lloadn 1 dM_feed_44 rfl rfl ?_
      refine V.bipush (8 : Int32) dM_feed_45 lb8 rfl ?_
      refine V.iload 3 dM_feed_47 rfl rfl ?_
      refine V.imul dM_feed_49 rfl ?_
      refine V.lshr dM_feed_50 rfl ?_
      refine V.ldc2 (255 : Int64) dM_feed_51 cM_94 rfl ?_
      refine V.land dM_feed_54 rfl ?_
      refine V.l2i dM_feed_55 rfl ?_
      obtain ⟨h4, hX⟩ := ob hX
      refine V.iast 49 dM_feed_56 (rfl : kd 49 = (7, 200)) h4 rfl ?_
      replace hX := nmx hX; generalize sI σ 49 (ix (gI σ 44 8)) (((l1 >>> (((8 : Int32) * i4).toInt64 &&& 63)) &&& (255 : Int64)).toInt32) = σ5 at hX ⊢; try dsimp only at hX
      refine V.aloadn 0 dM_feed_57 rfl rfl ?_
      refine V.dup dM_feed_58 rfl rfl ?_
      refine V.geti 44 dM_feed_59 flM_91 (rfl : kd 44 = (6, 0)) rfl ?_
      refine V.iconst (1 : Int32) dM_feed_62 lc1 rfl ?_
      refine V.iadd dM_feed_63 rfl ?_
      refine V.puti 44 .int dM_feed_64 flM_91 fw6_8 (rfl : kd 44 = (6, 0)) ⟨rfl, rfl⟩ rfl ?_
      replace hX := nmx hX; generalize sI σ5 44 8 ((gI σ5 44 8) + (1 : Int32)) = σ6 at hX ⊢; try dsimp only at hX
      refine V.iinc 3 (1 : Int32) _ dM_feed_67 rfl lc1 (by decide) rfl rfl ?_
      replace hX := nmx hX; generalize i4 + (1 : Int32) = v7 at hX ⊢; try dsimp only at hX
      refine V.goto 30 dM_feed_70 rfl ?_
      refine V.sub [1, 2, 3, 0] rfl ?_
      exact ih σ6 l1 i3 v7 hX
set_option maxRecDepth 4000 in
theorem wM_feed {E : Ev} {z : Int32 × St} (σ : St) (l1 : Int64) (i3 : Int32) (hX : fM_feed σ l1 i3 = some z) : V E mM_feed (FM E (some (.int z.1), z.2)) 0 [(0, .ref 44), (1, .long l1), (3, .int i3)] [] σ := by
  unfold fM_feed at hX
  refine V.iloadn 2 dM_feed_0 rfl rfl ?_
  refine V.iconst (1 : Int32) dM_feed_1 lc1 rfl ?_
  refine V.bipush (8 : Int32) dM_feed_2 lb8 rfl ?_
  refine V.callsi [.int i3, .int (1 : Int32), .int (8 : Int32)] dM_feed_4 (kM_in (σ := σ) i3 (1 : Int32) (8 : Int32)) mlM_84 myM_in mnM_in ⟨rfl, rfl, by decide, by decide⟩ rfl (Nat.le_of_ble_eq_true rfl) ⟨Nat.zero_le _, Nat.zero_le _⟩ rfl ?_
  refine V.ifne 12 dM_feed_7 rfl rfl (fun g1 => ?_) (fun g1 => ?_)
  · replace hX := im hX g1
    refine V.aloadn 0 dM_feed_12 rfl rfl ?_
    refine V.geti 44 dM_feed_13 flM_91 (rfl : kd 44 = (6, 0)) rfl ?_
    refine V.iloadn 2 dM_feed_16 rfl rfl ?_
    refine V.iadd dM_feed_17 rfl ?_
    refine V.sipush (200 : Int32) dM_feed_18 ls200 rfl ?_
    refine V.icmple 27 dM_feed_21 rfl rfl (fun g2 => ?_) (fun g2 => ?_)
    · replace hX := ip hX g2
      refine V.iconst (0 : Int32) dM_feed_27 lc0 rfl ?_
      refine V.istore _ dM_feed_28 (by decide) rfl rfl ?_
      refine V.sub [1, 2, 3, 0] rfl ?_
      exact wM_feed_30 300 σ l1 i3 (0 : Int32) hX
    · replace hX := im hX g2
      refine V.bipush (-2 : Int32) dM_feed_24 lbm2 rfl ?_
      have hX := (Option.some.inj hX).symm; subst hX; exact V.iret dM_feed_26 rfl rfl
  · replace hX := ip hX g1
    refine V.iconst (-1 : Int32) dM_feed_10 lcm1 rfl ?_
    have hX := (Option.some.inj hX).symm; subst hX; exact V.iret dM_feed_11 rfl rfl
theorem kM_feed {E : Ev} {σ σ2 : St} {l1 : Int64} {i3 : Int32} {z : Int32} (h : fM_feed σ l1 i3 = some (z, σ2)) : Ct mM_feed E [.ref 44, .long l1, .int i3] σ (some (.int z), σ2) := Ct.of (by decide) (Nat.le_of_ble_eq_true rfl) (wM_feed σ l1 i3 h)
theorem dM_byteAt_0 : decode mM_byteAt.1 0 = .ok (.iload_n 1, 1) := by decide +kernel
theorem dM_byteAt_1 : decode mM_byteAt.1 1 = .ok (.aload_n 0, 1) := by decide +kernel
theorem dM_byteAt_2 : decode mM_byteAt.1 2 = .ok (.getfield 91, 3) := by decide +kernel
theorem dM_byteAt_5 : decode mM_byteAt.1 5 = .ok (.if_icmp .ge 12, 3) := by decide +kernel
theorem dM_byteAt_8 : decode mM_byteAt.1 8 = .ok (.aload_n 0, 1) := by decide +kernel
theorem dM_byteAt_9 : decode mM_byteAt.1 9 = .ok (.getfield 26, 3) := by decide +kernel
theorem dM_byteAt_12 : decode mM_byteAt.1 12 = .ok (.iload_n 1, 1) := by decide +kernel
theorem dM_byteAt_13 : decode mM_byteAt.1 13 = .ok (.iaload, 1) := by decide +kernel
theorem dM_byteAt_14 : decode mM_byteAt.1 14 = .ok (.goto 4, 3) := by decide +kernel
theorem dM_byteAt_17 : decode mM_byteAt.1 17 = .ok (.iconst (-1), 1) := by decide +kernel
theorem dM_byteAt_18 : decode mM_byteAt.1 18 = .ok (.ireturn, 1) := by decide +kernel
set_option maxRecDepth 4000 in
theorem wM_byteAt {E : Ev} {z : Int32} (σ : St) (i1 : Int32) (hX : fM_byteAt σ i1 = some z) : V E mM_byteAt (FM E (some (.int z), σ)) 0 [(0, .ref 44), (1, .int i1)] [] σ := by
  unfold fM_byteAt at hX
  refine V.iloadn 1 dM_byteAt_0 rfl rfl ?_
  refine V.aloadn 0 dM_byteAt_1 rfl rfl ?_
  refine V.geti 44 dM_byteAt_2 flM_91 (rfl : kd 44 = (6, 0)) rfl ?_
  refine V.icmpge 17 dM_byteAt_5 rfl rfl (fun g1 => ?_) (fun g1 => ?_)
  · replace hX := ip hX g1
    refine V.iconst (-1 : Int32) dM_byteAt_17 lcm1 rfl ?_
    have hX := (Option.some.inj hX).symm; subst hX; exact V.iret dM_byteAt_18 rfl rfl
  · replace hX := im hX g1
    refine V.aloadn 0 dM_byteAt_8 rfl rfl ?_
    refine V.getr 44 49 dM_byteAt_9 flM_26 (rfl : kd 44 = (6, 0)) rfl rfl ?_
    refine V.iloadn 1 dM_byteAt_12 rfl rfl ?_
    obtain ⟨h2, hX⟩ := ob hX
    refine V.iald 49 dM_byteAt_13 (rfl : kd 49 = (7, 200)) h2 rfl ?_
    refine V.goto 18 dM_byteAt_14 rfl ?_
    have hX := (Option.some.inj hX).symm; subst hX; exact V.iret dM_byteAt_18 rfl rfl
theorem kM_byteAt {E : Ev} {σ : St} {i1 : Int32} {z : Int32} (h : fM_byteAt σ i1 = some z) : Ct mM_byteAt E [.ref 44, .int i1] σ (some (.int z), σ) := Ct.of (by decide) (Nat.le_of_ble_eq_true rfl) (wM_byteAt σ i1 h)
theorem dM_isLetter_0 : decode mM_isLetter.1 0 = .ok (.iload_n 0, 1) := by decide +kernel
theorem dM_isLetter_1 : decode mM_isLetter.1 1 = .ok (.bipush 97, 2) := by decide +kernel
theorem dM_isLetter_3 : decode mM_isLetter.1 3 = .ok (.bipush 122, 2) := by decide +kernel
theorem dM_isLetter_5 : decode mM_isLetter.1 5 = .ok (.invokestatic 84, 3) := by decide +kernel
theorem dM_isLetter_8 : decode mM_isLetter.1 8 = .ok (.ireturn, 1) := by decide +kernel
set_option maxRecDepth 4000 in
theorem wM_isLetter {E : Ev} {z : Int32} (σ : St) (i0 : Int32) (hX : fM_isLetter i0 = z) : V E mM_isLetter (FM E (some (.int z), σ)) 0 [(0, .int i0)] [] σ := by
  unfold fM_isLetter at hX
  refine V.iloadn 0 dM_isLetter_0 rfl rfl ?_
  refine V.bipush (97 : Int32) dM_isLetter_1 lb97 rfl ?_
  refine V.bipush (122 : Int32) dM_isLetter_3 lb122 rfl ?_
  refine V.callsi [.int i0, .int (97 : Int32), .int (122 : Int32)] dM_isLetter_5 (kM_in (σ := σ) i0 (97 : Int32) (122 : Int32)) mlM_84 myM_in mnM_in ⟨rfl, rfl, by decide, by decide⟩ rfl (Nat.le_of_ble_eq_true rfl) ⟨Nat.zero_le _, Nat.zero_le _⟩ rfl ?_
  subst hX; exact V.zret .boolean dM_isLetter_8 rfl (nz (bM_in i0 (97 : Int32) (122 : Int32))).1 rfl
theorem kM_isLetter {E : Ev} {σ : St} (i0 : Int32) : Ct mM_isLetter E [.int i0] σ (some (.int (fM_isLetter i0)), σ) := Ct.of (by decide) (Nat.le_of_ble_eq_true rfl) (wM_isLetter σ i0 rfl)
theorem bM_isLetter (i0 : Int32) : b01 (fM_isLetter i0) := by
  unfold fM_isLetter
  exact (bM_in i0 (97 : Int32) (122 : Int32))
theorem dM_isDigit_0 : decode mM_isDigit.1 0 = .ok (.iload_n 0, 1) := by decide +kernel
theorem dM_isDigit_1 : decode mM_isDigit.1 1 = .ok (.bipush 48, 2) := by decide +kernel
theorem dM_isDigit_3 : decode mM_isDigit.1 3 = .ok (.bipush 57, 2) := by decide +kernel
theorem dM_isDigit_5 : decode mM_isDigit.1 5 = .ok (.invokestatic 84, 3) := by decide +kernel
theorem dM_isDigit_8 : decode mM_isDigit.1 8 = .ok (.ireturn, 1) := by decide +kernel
set_option maxRecDepth 4000 in
theorem wM_isDigit {E : Ev} {z : Int32} (σ : St) (i0 : Int32) (hX : fM_isDigit i0 = z) : V E mM_isDigit (FM E (some (.int z), σ)) 0 [(0, .int i0)] [] σ := by
  unfold fM_isDigit at hX
  refine V.iloadn 0 dM_isDigit_0 rfl rfl ?_
  refine V.bipush (48 : Int32) dM_isDigit_1 lb48 rfl ?_
  refine V.bipush (57 : Int32) dM_isDigit_3 lb57 rfl ?_
  refine V.callsi [.int i0, .int (48 : Int32), .int (57 : Int32)] dM_isDigit_5 (kM_in (σ := σ) i0 (48 : Int32) (57 : Int32)) mlM_84 myM_in mnM_in ⟨rfl, rfl, by decide, by decide⟩ rfl (Nat.le_of_ble_eq_true rfl) ⟨Nat.zero_le _, Nat.zero_le _⟩ rfl ?_
  subst hX; exact V.zret .boolean dM_isDigit_8 rfl (nz (bM_in i0 (48 : Int32) (57 : Int32))).1 rfl
theorem kM_isDigit {E : Ev} {σ : St} (i0 : Int32) : Ct mM_isDigit E [.int i0] σ (some (.int (fM_isDigit i0)), σ) := Ct.of (by decide) (Nat.le_of_ble_eq_true rfl) (wM_isDigit σ i0 rfl)
theorem bM_isDigit (i0 : Int32) : b01 (fM_isDigit i0) := by
  unfold fM_isDigit
  exact (bM_in i0 (48 : Int32) (57 : Int32))
theorem dM_advance_0 : decode mM_advance.1 0 = .ok (.aload_n 0, 1) := by decide +kernel
theorem dM_advance_1 : decode mM_advance.1 1 = .ok (.aload_n 0, 1) := by decide +kernel
theorem dM_advance_2 : decode mM_advance.1 2 = .ok (.getfield 96, 3) := by decide +kernel
theorem dM_advance_5 : decode mM_advance.1 5 = .ok (.putfield 99, 3) := by decide +kernel
theorem dM_advance_8 : decode mM_advance.1 8 = .ok (.aload_n 0, 1) := by decide +kernel
theorem dM_advance_9 : decode mM_advance.1 9 = .ok (.aload_n 0, 1) := by decide +kernel
theorem dM_advance_10 : decode mM_advance.1 10 = .ok (.getfield 99, 3) := by decide +kernel
theorem dM_advance_13 : decode mM_advance.1 13 = .ok (.invokevirtual 102, 3) := by decide +kernel
theorem dM_advance_16 : decode mM_advance.1 16 = .ok (.bipush 32, 2) := by decide +kernel
theorem dM_advance_18 : decode mM_advance.1 18 = .ok (.if_icmp .ne 16, 3) := by decide +kernel
theorem dM_advance_21 : decode mM_advance.1 21 = .ok (.aload_n 0, 1) := by decide +kernel
theorem dM_advance_22 : decode mM_advance.1 22 = .ok (.dup, 1) := by decide +kernel
theorem dM_advance_23 : decode mM_advance.1 23 = .ok (.getfield 99, 3) := by decide +kernel
theorem dM_advance_26 : decode mM_advance.1 26 = .ok (.iconst 1, 1) := by decide +kernel
theorem dM_advance_27 : decode mM_advance.1 27 = .ok (.iadd, 1) := by decide +kernel
theorem dM_advance_28 : decode mM_advance.1 28 = .ok (.putfield 99, 3) := by decide +kernel
theorem dM_advance_31 : decode mM_advance.1 31 = .ok (.goto (-23), 3) := by decide +kernel
theorem dM_advance_34 : decode mM_advance.1 34 = .ok (.aload_n 0, 1) := by decide +kernel
theorem dM_advance_35 : decode mM_advance.1 35 = .ok (.aload_n 0, 1) := by decide +kernel
theorem dM_advance_36 : decode mM_advance.1 36 = .ok (.getfield 99, 3) := by decide +kernel
theorem dM_advance_39 : decode mM_advance.1 39 = .ok (.putfield 96, 3) := by decide +kernel
theorem dM_advance_42 : decode mM_advance.1 42 = .ok (.aload_n 0, 1) := by decide +kernel
theorem dM_advance_43 : decode mM_advance.1 43 = .ok (.aload_n 0, 1) := by decide +kernel
theorem dM_advance_44 : decode mM_advance.1 44 = .ok (.getfield 99, 3) := by decide +kernel
theorem dM_advance_47 : decode mM_advance.1 47 = .ok (.invokevirtual 102, 3) := by decide +kernel
theorem dM_advance_50 : decode mM_advance.1 50 = .ok (.istore_n 1, 1) := by decide +kernel
theorem dM_advance_51 : decode mM_advance.1 51 = .ok (.aload_n 0, 1) := by decide +kernel
theorem dM_advance_52 : decode mM_advance.1 52 = .ok (.iload_n 1, 1) := by decide +kernel
theorem dM_advance_53 : decode mM_advance.1 53 = .ok (.ifCond .ge 7, 3) := by decide +kernel
theorem dM_advance_56 : decode mM_advance.1 56 = .ok (.iconst 0, 1) := by decide +kernel
theorem dM_advance_57 : decode mM_advance.1 57 = .ok (.goto 26, 3) := by decide +kernel
theorem dM_advance_60 : decode mM_advance.1 60 = .ok (.iload_n 1, 1) := by decide +kernel
theorem dM_advance_61 : decode mM_advance.1 61 = .ok (.invokestatic 106, 3) := by decide +kernel
theorem dM_advance_64 : decode mM_advance.1 64 = .ok (.ifCond .eq 7, 3) := by decide +kernel
theorem dM_advance_67 : decode mM_advance.1 67 = .ok (.iconst 1, 1) := by decide +kernel
theorem dM_advance_68 : decode mM_advance.1 68 = .ok (.goto 15, 3) := by decide +kernel
theorem dM_advance_71 : decode mM_advance.1 71 = .ok (.iload_n 1, 1) := by decide +kernel
theorem dM_advance_72 : decode mM_advance.1 72 = .ok (.invokestatic 110, 3) := by decide +kernel
theorem dM_advance_75 : decode mM_advance.1 75 = .ok (.ifCond .eq 7, 3) := by decide +kernel
theorem dM_advance_78 : decode mM_advance.1 78 = .ok (.iconst 2, 1) := by decide +kernel
theorem dM_advance_79 : decode mM_advance.1 79 = .ok (.goto 4, 3) := by decide +kernel
theorem dM_advance_82 : decode mM_advance.1 82 = .ok (.iconst 3, 1) := by decide +kernel
theorem dM_advance_83 : decode mM_advance.1 83 = .ok (.putfield 113, 3) := by decide +kernel
theorem dM_advance_86 : decode mM_advance.1 86 = .ok (.aload_n 0, 1) := by decide +kernel
theorem dM_advance_87 : decode mM_advance.1 87 = .ok (.lconst 0, 1) := by decide +kernel
theorem dM_advance_88 : decode mM_advance.1 88 = .ok (.putfield 116, 3) := by decide +kernel
theorem dM_advance_91 : decode mM_advance.1 91 = .ok (.aload_n 0, 1) := by decide +kernel
theorem dM_advance_92 : decode mM_advance.1 92 = .ok (.aload_n 0, 1) := by decide +kernel
theorem dM_advance_93 : decode mM_advance.1 93 = .ok (.getfield 113, 3) := by decide +kernel
theorem dM_advance_96 : decode mM_advance.1 96 = .ok (.iconst 2, 1) := by decide +kernel
theorem dM_advance_97 : decode mM_advance.1 97 = .ok (.if_icmp .ne 7, 3) := by decide +kernel
theorem dM_advance_100 : decode mM_advance.1 100 = .ok (.iconst 0, 1) := by decide +kernel
theorem dM_advance_101 : decode mM_advance.1 101 = .ok (.goto 4, 3) := by decide +kernel
theorem dM_advance_104 : decode mM_advance.1 104 = .ok (.iload_n 1, 1) := by decide +kernel
theorem dM_advance_105 : decode mM_advance.1 105 = .ok (.putfield 120, 3) := by decide +kernel
theorem dM_advance_108 : decode mM_advance.1 108 = .ok (.aload_n 0, 1) := by decide +kernel
theorem dM_advance_109 : decode mM_advance.1 109 = .ok (.getfield 113, 3) := by decide +kernel
theorem dM_advance_112 : decode mM_advance.1 112 = .ok (.iconst 3, 1) := by decide +kernel
theorem dM_advance_113 : decode mM_advance.1 113 = .ok (.if_icmp .ne 13, 3) := by decide +kernel
theorem dM_advance_116 : decode mM_advance.1 116 = .ok (.aload_n 0, 1) := by decide +kernel
theorem dM_advance_117 : decode mM_advance.1 117 = .ok (.dup, 1) := by decide +kernel
theorem dM_advance_118 : decode mM_advance.1 118 = .ok (.getfield 96, 3) := by decide +kernel
theorem dM_advance_121 : decode mM_advance.1 121 = .ok (.iconst 1, 1) := by decide +kernel
theorem dM_advance_122 : decode mM_advance.1 122 = .ok (.iadd, 1) := by decide +kernel
theorem dM_advance_123 : decode mM_advance.1 123 = .ok (.putfield 96, 3) := by decide +kernel
theorem dM_advance_126 : decode mM_advance.1 126 = .ok (.aload_n 0, 1) := by decide +kernel
theorem dM_advance_127 : decode mM_advance.1 127 = .ok (.getfield 113, 3) := by decide +kernel
theorem dM_advance_130 : decode mM_advance.1 130 = .ok (.iconst 1, 1) := by decide +kernel
theorem dM_advance_131 : decode mM_advance.1 131 = .ok (.if_icmp .ne 76, 3) := by decide +kernel
theorem dM_advance_134 : decode mM_advance.1 134 = .ok (.aload_n 0, 1) := by decide +kernel
theorem dM_advance_135 : decode mM_advance.1 135 = .ok (.aload_n 0, 1) := by decide +kernel
theorem dM_advance_136 : decode mM_advance.1 136 = .ok (.getfield 96, 3) := by decide +kernel
theorem dM_advance_139 : decode mM_advance.1 139 = .ok (.invokevirtual 102, 3) := by decide +kernel
theorem dM_advance_142 : decode mM_advance.1 142 = .ok (.invokestatic 106, 3) := by decide +kernel
theorem dM_advance_145 : decode mM_advance.1 145 = .ok (.ifCond .eq 62, 3) := by decide +kernel
theorem dM_advance_148 : decode mM_advance.1 148 = .ok (.aload_n 0, 1) := by decide +kernel
theorem dM_advance_149 : decode mM_advance.1 149 = .ok (.aload_n 0, 1) := by decide +kernel
theorem dM_advance_150 : decode mM_advance.1 150 = .ok (.getfield 96, 3) := by decide +kernel
theorem dM_advance_153 : decode mM_advance.1 153 = .ok (.aload_n 0, 1) := by decide +kernel
theorem dM_advance_154 : decode mM_advance.1 154 = .ok (.getfield 99, 3) := by decide +kernel
theorem dM_advance_157 : decode mM_advance.1 157 = .ok (.isub, 1) := by decide +kernel
theorem dM_advance_158 : decode mM_advance.1 158 = .ok (.bipush 8, 2) := by decide +kernel
theorem dM_advance_160 : decode mM_advance.1 160 = .ok (.if_icmp .ge 28, 3) := by decide +kernel
theorem dM_advance_163 : decode mM_advance.1 163 = .ok (.ldc2_w 123, 3) := by decide +kernel
theorem dM_advance_166 : decode mM_advance.1 166 = .ok (.aload_n 0, 1) := by decide +kernel
theorem dM_advance_167 : decode mM_advance.1 167 = .ok (.getfield 116, 3) := by decide +kernel
theorem dM_advance_170 : decode mM_advance.1 170 = .ok (.lmul, 1) := by decide +kernel
theorem dM_advance_171 : decode mM_advance.1 171 = .ok (.aload_n 0, 1) := by decide +kernel
theorem dM_advance_172 : decode mM_advance.1 172 = .ok (.aload_n 0, 1) := by decide +kernel
theorem dM_advance_173 : decode mM_advance.1 173 = .ok (.getfield 96, 3) := by decide +kernel
theorem dM_advance_176 : decode mM_advance.1 176 = .ok (.invokevirtual 102, 3) := by decide +kernel
theorem dM_advance_179 : decode mM_advance.1 179 = .ok (.i2l, 1) := by decide +kernel
theorem dM_advance_180 : decode mM_advance.1 180 = .ok (.ladd, 1) := by decide +kernel
theorem dM_advance_181 : decode mM_advance.1 181 = .ok (.ldc2_w 125, 3) := by decide +kernel
theorem dM_advance_184 : decode mM_advance.1 184 = .ok (.lsub, 1) := by decide +kernel
theorem dM_advance_185 : decode mM_advance.1 185 = .ok (.goto 6, 3) := by decide +kernel
theorem dM_advance_188 : decode mM_advance.1 188 = .ok (.ldc2_w 127, 3) := by decide +kernel
theorem dM_advance_191 : decode mM_advance.1 191 = .ok (.putfield 116, 3) := by decide +kernel
theorem dM_advance_194 : decode mM_advance.1 194 = .ok (.aload_n 0, 1) := by decide +kernel
theorem dM_advance_195 : decode mM_advance.1 195 = .ok (.dup, 1) := by decide +kernel
theorem dM_advance_196 : decode mM_advance.1 196 = .ok (.getfield 96, 3) := by decide +kernel
theorem dM_advance_199 : decode mM_advance.1 199 = .ok (.iconst 1, 1) := by decide +kernel
theorem dM_advance_200 : decode mM_advance.1 200 = .ok (.iadd, 1) := by decide +kernel
theorem dM_advance_201 : decode mM_advance.1 201 = .ok (.putfield 96, 3) := by decide +kernel
theorem dM_advance_204 : decode mM_advance.1 204 = .ok (.goto (-78), 3) := by decide +kernel
theorem dM_advance_207 : decode mM_advance.1 207 = .ok (.aload_n 0, 1) := by decide +kernel
theorem dM_advance_208 : decode mM_advance.1 208 = .ok (.getfield 113, 3) := by decide +kernel
theorem dM_advance_211 : decode mM_advance.1 211 = .ok (.iconst 2, 1) := by decide +kernel
theorem dM_advance_212 : decode mM_advance.1 212 = .ok (.if_icmp .ne 70, 3) := by decide +kernel
theorem dM_advance_215 : decode mM_advance.1 215 = .ok (.aload_n 0, 1) := by decide +kernel
theorem dM_advance_216 : decode mM_advance.1 216 = .ok (.aload_n 0, 1) := by decide +kernel
theorem dM_advance_217 : decode mM_advance.1 217 = .ok (.getfield 96, 3) := by decide +kernel
theorem dM_advance_220 : decode mM_advance.1 220 = .ok (.invokevirtual 102, 3) := by decide +kernel
theorem dM_advance_223 : decode mM_advance.1 223 = .ok (.invokestatic 110, 3) := by decide +kernel
theorem dM_advance_226 : decode mM_advance.1 226 = .ok (.ifCond .eq 56, 3) := by decide +kernel
theorem dM_advance_229 : decode mM_advance.1 229 = .ok (.aload_n 0, 1) := by decide +kernel
theorem dM_advance_230 : decode mM_advance.1 230 = .ok (.aload_n 0, 1) := by decide +kernel
theorem dM_advance_231 : decode mM_advance.1 231 = .ok (.getfield 96, 3) := by decide +kernel
theorem dM_advance_234 : decode mM_advance.1 234 = .ok (.aload_n 0, 1) := by decide +kernel
theorem dM_advance_235 : decode mM_advance.1 235 = .ok (.getfield 99, 3) := by decide +kernel
theorem dM_advance_238 : decode mM_advance.1 238 = .ok (.isub, 1) := by decide +kernel
theorem dM_advance_239 : decode mM_advance.1 239 = .ok (.iconst 2, 1) := by decide +kernel
theorem dM_advance_240 : decode mM_advance.1 240 = .ok (.if_icmp .ge 25, 3) := by decide +kernel
theorem dM_advance_243 : decode mM_advance.1 243 = .ok (.bipush 10, 2) := by decide +kernel
theorem dM_advance_245 : decode mM_advance.1 245 = .ok (.aload_n 0, 1) := by decide +kernel
theorem dM_advance_246 : decode mM_advance.1 246 = .ok (.getfield 120, 3) := by decide +kernel
theorem dM_advance_249 : decode mM_advance.1 249 = .ok (.imul, 1) := by decide +kernel
theorem dM_advance_250 : decode mM_advance.1 250 = .ok (.aload_n 0, 1) := by decide +kernel
theorem dM_advance_251 : decode mM_advance.1 251 = .ok (.aload_n 0, 1) := by decide +kernel
theorem dM_advance_252 : decode mM_advance.1 252 = .ok (.getfield 96, 3) := by decide +kernel
theorem dM_advance_255 : decode mM_advance.1 255 = .ok (.invokevirtual 102, 3) := by decide +kernel
theorem dM_advance_258 : decode mM_advance.1 258 = .ok (.iadd, 1) := by decide +kernel
theorem dM_advance_259 : decode mM_advance.1 259 = .ok (.bipush 48, 2) := by decide +kernel
theorem dM_advance_261 : decode mM_advance.1 261 = .ok (.isub, 1) := by decide +kernel
theorem dM_advance_262 : decode mM_advance.1 262 = .ok (.goto 4, 3) := by decide +kernel
theorem dM_advance_265 : decode mM_advance.1 265 = .ok (.iconst (-1), 1) := by decide +kernel
theorem dM_advance_266 : decode mM_advance.1 266 = .ok (.putfield 120, 3) := by decide +kernel
theorem dM_advance_269 : decode mM_advance.1 269 = .ok (.aload_n 0, 1) := by decide +kernel
theorem dM_advance_270 : decode mM_advance.1 270 = .ok (.dup, 1) := by decide +kernel
theorem dM_advance_271 : decode mM_advance.1 271 = .ok (.getfield 96, 3) := by decide +kernel
theorem dM_advance_274 : decode mM_advance.1 274 = .ok (.iconst 1, 1) := by decide +kernel
theorem dM_advance_275 : decode mM_advance.1 275 = .ok (.iadd, 1) := by decide +kernel
theorem dM_advance_276 : decode mM_advance.1 276 = .ok (.putfield 96, 3) := by decide +kernel
theorem dM_advance_279 : decode mM_advance.1 279 = .ok (.goto (-72), 3) := by decide +kernel
theorem dM_advance_282 : decode mM_advance.1 282 = .ok (.return_, 1) := by decide +kernel
set_option maxRecDepth 4000 in
theorem wM_advance_207 {E : Ev} {z : St} : ∀ (fu : Nat) (σ : St), fM_advance_207 fu σ = some z → V E mM_advance (FM E (none, z)) 207 [(0, .ref 44)] [] σ := by
  intro fu
  induction fu with
  | zero => intro σ hX; cases hX
  | succ fu ih =>
    intro σ hX
    rw [fM_advance_207] at hX
    refine V.aloadn 0 dM_advance_207 rfl rfl ?_
    refine V.geti 44 dM_advance_208 flM_113 (rfl : kd 44 = (6, 0)) rfl ?_
    refine V.iconst (2 : Int32) dM_advance_211 lc2 rfl ?_
    refine V.icmpne 282 dM_advance_212 rfl rfl (fun g13 => ?_) (fun g13 => ?_)
    · replace hX := im hX g13
      have hX := (Option.some.inj hX).symm; subst hX; exact V.vret dM_advance_282 rfl rfl
    · replace hX := ip hX g13
      refine V.aloadn 0 dM_advance_215 rfl rfl ?_
      refine V.aloadn 0 dM_advance_216 rfl rfl ?_
      refine V.geti 44 dM_advance_217 flM_96 (rfl : kd 44 = (6, 0)) rfl ?_
      obtain ⟨q14, c15, hX⟩ := bd hX; try dsimp only at hX
      refine V.callvi 44 [.int (gI σ 44 11)] dM_advance_220 (kM_byteAt c15) mlM_102 myM_byteAt mnM_byteAt ⟨rfl, rfl, by decide, by decide⟩ (rfl : kd 44 = (6, 0)) (by decide) rfl (Nat.le_of_ble_eq_true rfl) ⟨Nat.zero_le _, Nat.zero_le _⟩ rfl ?_
      refine V.callsi [.int q14] dM_advance_223 (kM_isDigit (σ := σ) q14) mlM_110 myM_isDigit mnM_isDigit ⟨rfl, rfl, by decide, by decide⟩ rfl (Nat.le_of_ble_eq_true rfl) ⟨Nat.zero_le _, Nat.zero_le _⟩ rfl ?_
      refine V.ifeq 282 dM_advance_226 rfl rfl (fun g16 => ?_) (fun g16 => ?_)
      · replace hX := ip hX g16
        have hX := (Option.some.inj hX).symm; subst hX; exact V.vret dM_advance_282 rfl rfl
      · replace hX := im hX g16
        refine V.aloadn 0 dM_advance_229 rfl rfl ?_
        refine V.aloadn 0 dM_advance_230 rfl rfl ?_
        refine V.geti 44 dM_advance_231 flM_96 (rfl : kd 44 = (6, 0)) rfl ?_
        refine V.aloadn 0 dM_advance_234 rfl rfl ?_
        refine V.geti 44 dM_advance_235 flM_99 (rfl : kd 44 = (6, 0)) rfl ?_
        refine V.isub dM_advance_238 rfl ?_
        refine V.iconst (2 : Int32) dM_advance_239 lc2 rfl ?_
        refine V.icmpge 265 dM_advance_240 rfl rfl (fun g17 => ?_) (fun g17 => ?_)
        · replace hX := ip hX g17
          refine V.iconst (-1 : Int32) dM_advance_265 lcm1 rfl ?_
          refine V.puti 44 .int dM_advance_266 flM_120 fw6_13 (rfl : kd 44 = (6, 0)) ⟨rfl, rfl⟩ rfl ?_
          replace hX := nmx hX; generalize sI σ 44 13 (-1 : Int32) = σ18 at hX ⊢; try dsimp only at hX
          refine V.aloadn 0 dM_advance_269 rfl rfl ?_
          refine V.dup dM_advance_270 rfl rfl ?_
          refine V.geti 44 dM_advance_271 flM_96 (rfl : kd 44 = (6, 0)) rfl ?_
          refine V.iconst (1 : Int32) dM_advance_274 lc1 rfl ?_
          refine V.iadd dM_advance_275 rfl ?_
          refine V.puti 44 .int dM_advance_276 flM_96 fw6_11 (rfl : kd 44 = (6, 0)) ⟨rfl, rfl⟩ rfl ?_
          replace hX := nmx hX; generalize sI σ18 44 11 ((gI σ18 44 11) + (1 : Int32)) = σ19 at hX ⊢; try dsimp only at hX
          refine V.goto 207 dM_advance_279 rfl ?_
          refine V.sub [0] rfl ?_
          exact ih σ19 hX
        · replace hX := im hX g17
          refine V.bipush (10 : Int32) dM_advance_243 lb10 rfl ?_
          refine V.aloadn 0 dM_advance_245 rfl rfl ?_
          refine V.geti 44 dM_advance_246 flM_120 (rfl : kd 44 = (6, 0)) rfl ?_
          refine V.imul dM_advance_249 rfl ?_
          refine V.aloadn 0 dM_advance_250 rfl rfl ?_
          refine V.aloadn 0 dM_advance_251 rfl rfl ?_
          refine V.geti 44 dM_advance_252 flM_96 (rfl : kd 44 = (6, 0)) rfl ?_
          obtain ⟨q20, c21, hX⟩ := bd hX; try dsimp only at hX
          refine V.callvi 44 [.int (gI σ 44 11)] dM_advance_255 (kM_byteAt c21) mlM_102 myM_byteAt mnM_byteAt ⟨rfl, rfl, by decide, by decide⟩ (rfl : kd 44 = (6, 0)) (by decide) rfl (Nat.le_of_ble_eq_true rfl) ⟨Nat.zero_le _, Nat.zero_le _⟩ rfl ?_
          refine V.iadd dM_advance_258 rfl ?_
          refine V.bipush (48 : Int32) dM_advance_259 lb48 rfl ?_
          refine V.isub dM_advance_261 rfl ?_
          refine V.goto 266 dM_advance_262 rfl ?_
          refine V.puti 44 .int dM_advance_266 flM_120 fw6_13 (rfl : kd 44 = (6, 0)) ⟨rfl, rfl⟩ rfl ?_
          replace hX := nmx hX; generalize sI σ 44 13 ((((10 : Int32) * (gI σ 44 13)) + q20) - (48 : Int32)) = σ22 at hX ⊢; try dsimp only at hX
          refine V.aloadn 0 dM_advance_269 rfl rfl ?_
          refine V.dup dM_advance_270 rfl rfl ?_
          refine V.geti 44 dM_advance_271 flM_96 (rfl : kd 44 = (6, 0)) rfl ?_
          refine V.iconst (1 : Int32) dM_advance_274 lc1 rfl ?_
          refine V.iadd dM_advance_275 rfl ?_
          refine V.puti 44 .int dM_advance_276 flM_96 fw6_11 (rfl : kd 44 = (6, 0)) ⟨rfl, rfl⟩ rfl ?_
          replace hX := nmx hX; generalize sI σ22 44 11 ((gI σ22 44 11) + (1 : Int32)) = σ23 at hX ⊢; try dsimp only at hX
          refine V.goto 207 dM_advance_279 rfl ?_
          refine V.sub [0] rfl ?_
          exact ih σ23 hX
set_option maxRecDepth 4000 in
theorem wM_advance_126 {E : Ev} {z : St} : ∀ (fu : Nat) (σ : St), fM_advance_126 fu σ = some z → V E mM_advance (FM E (none, z)) 126 [(0, .ref 44)] [] σ := by
  intro fu
  induction fu with
  | zero => intro σ hX; cases hX
  | succ fu ih =>
    intro σ hX
    rw [fM_advance_126] at hX
    refine V.aloadn 0 dM_advance_126 rfl rfl ?_
    refine V.geti 44 dM_advance_127 flM_113 (rfl : kd 44 = (6, 0)) rfl ?_
    refine V.iconst (1 : Int32) dM_advance_130 lc1 rfl ?_
    refine V.icmpne 207 dM_advance_131 rfl rfl (fun g12 => ?_) (fun g12 => ?_)
    · replace hX := im hX g12
      refine V.sub [0] rfl ?_
      exact wM_advance_207 300 σ hX
    · replace hX := ip hX g12
      refine V.aloadn 0 dM_advance_134 rfl rfl ?_
      refine V.aloadn 0 dM_advance_135 rfl rfl ?_
      refine V.geti 44 dM_advance_136 flM_96 (rfl : kd 44 = (6, 0)) rfl ?_
      obtain ⟨q24, c25, hX⟩ := bd hX; try dsimp only at hX
      refine V.callvi 44 [.int (gI σ 44 11)] dM_advance_139 (kM_byteAt c25) mlM_102 myM_byteAt mnM_byteAt ⟨rfl, rfl, by decide, by decide⟩ (rfl : kd 44 = (6, 0)) (by decide) rfl (Nat.le_of_ble_eq_true rfl) ⟨Nat.zero_le _, Nat.zero_le _⟩ rfl ?_
      refine V.callsi [.int q24] dM_advance_142 (kM_isLetter (σ := σ) q24) mlM_106 myM_isLetter mnM_isLetter ⟨rfl, rfl, by decide, by decide⟩ rfl (Nat.le_of_ble_eq_true rfl) ⟨Nat.zero_le _, Nat.zero_le _⟩ rfl ?_
      refine V.ifeq 207 dM_advance_145 rfl rfl (fun g26 => ?_) (fun g26 => ?_)
      · replace hX := ip hX g26
        refine V.sub [0] rfl ?_
        exact wM_advance_207 300 σ hX
      · replace hX := im hX g26
        refine V.aloadn 0 dM_advance_148 rfl rfl ?_
        refine V.aloadn 0 dM_advance_149 rfl rfl ?_
        refine V.geti 44 dM_advance_150 flM_96 (rfl : kd 44 = (6, 0)) rfl ?_
        refine V.aloadn 0 dM_advance_153 rfl rfl ?_
        refine V.geti 44 dM_advance_154 flM_99 (rfl : kd 44 = (6, 0)) rfl ?_
        refine V.isub dM_advance_157 rfl ?_
        refine V.bipush (8 : Int32) dM_advance_158 lb8 rfl ?_
        refine V.icmpge 188 dM_advance_160 rfl rfl (fun g27 => ?_) (fun g27 => ?_)
        · replace hX := ip hX g27
          refine V.ldc2 (-1 : Int64) dM_advance_188 cM_127 rfl ?_
          refine V.putl 44 dM_advance_191 flM_116 fw6_12 (rfl : kd 44 = (6, 0)) rfl ?_
          replace hX := nmx hX; generalize sL σ 44 12 (-1 : Int64) = σ28 at hX ⊢; try dsimp only at hX
          refine V.aloadn 0 dM_advance_194 rfl rfl ?_
          refine V.dup dM_advance_195 rfl rfl ?_
          refine V.geti 44 dM_advance_196 flM_96 (rfl : kd 44 = (6, 0)) rfl ?_
          refine V.iconst (1 : Int32) dM_advance_199 lc1 rfl ?_
          refine V.iadd dM_advance_200 rfl ?_
          refine V.puti 44 .int dM_advance_201 flM_96 fw6_11 (rfl : kd 44 = (6, 0)) ⟨rfl, rfl⟩ rfl ?_
          replace hX := nmx hX; generalize sI σ28 44 11 ((gI σ28 44 11) + (1 : Int32)) = σ29 at hX ⊢; try dsimp only at hX
          refine V.goto 126 dM_advance_204 rfl ?_
          refine V.sub [0] rfl ?_
          exact ih σ29 hX
        · replace hX := im hX g27
          refine V.ldc2 (27 : Int64) dM_advance_163 cM_123 rfl ?_
          refine V.aloadn 0 dM_advance_166 rfl rfl ?_
          refine V.getl 44 dM_advance_167 flM_116 (rfl : kd 44 = (6, 0)) rfl ?_
          refine V.lmul dM_advance_170 rfl ?_
          refine V.aloadn 0 dM_advance_171 rfl rfl ?_
          refine V.aloadn 0 dM_advance_172 rfl rfl ?_
          refine V.geti 44 dM_advance_173 flM_96 (rfl : kd 44 = (6, 0)) rfl ?_
          obtain ⟨q30, c31, hX⟩ := bd hX; try dsimp only at hX
          refine V.callvi 44 [.int (gI σ 44 11)] dM_advance_176 (kM_byteAt c31) mlM_102 myM_byteAt mnM_byteAt ⟨rfl, rfl, by decide, by decide⟩ (rfl : kd 44 = (6, 0)) (by decide) rfl (Nat.le_of_ble_eq_true rfl) ⟨Nat.zero_le _, Nat.zero_le _⟩ rfl ?_
          refine V.i2l dM_advance_179 rfl ?_
          refine V.ladd dM_advance_180 rfl ?_
          refine V.ldc2 (96 : Int64) dM_advance_181 cM_125 rfl ?_
          refine V.lsub dM_advance_184 rfl ?_
          refine V.goto 191 dM_advance_185 rfl ?_
          refine V.putl 44 dM_advance_191 flM_116 fw6_12 (rfl : kd 44 = (6, 0)) rfl ?_
          replace hX := nmx hX; generalize sL σ 44 12 ((((27 : Int64) * (gL σ 44 12)) + q30.toInt64) - (96 : Int64)) = σ32 at hX ⊢; try dsimp only at hX
          refine V.aloadn 0 dM_advance_194 rfl rfl ?_
          refine V.dup dM_advance_195 rfl rfl ?_
          refine V.geti 44 dM_advance_196 flM_96 (rfl : kd 44 = (6, 0)) rfl ?_
          refine V.iconst (1 : Int32) dM_advance_199 lc1 rfl ?_
          refine V.iadd dM_advance_200 rfl ?_
          refine V.puti 44 .int dM_advance_201 flM_96 fw6_11 (rfl : kd 44 = (6, 0)) ⟨rfl, rfl⟩ rfl ?_
          replace hX := nmx hX; generalize sI σ32 44 11 ((gI σ32 44 11) + (1 : Int32)) = σ33 at hX ⊢; try dsimp only at hX
          refine V.goto 126 dM_advance_204 rfl ?_
          refine V.sub [0] rfl ?_
          exact ih σ33 hX
set_option maxRecDepth 4000 in
theorem wM_advance_34 {E : Ev} {z : St} (σ : St) (hX : fM_advance_34 σ = some z) : V E mM_advance (FM E (none, z)) 34 [(0, .ref 44)] [] σ := by
  unfold fM_advance_34 at hX
  refine V.aloadn 0 dM_advance_34 rfl rfl ?_
  refine V.aloadn 0 dM_advance_35 rfl rfl ?_
  refine V.geti 44 dM_advance_36 flM_99 (rfl : kd 44 = (6, 0)) rfl ?_
  refine V.puti 44 .int dM_advance_39 flM_96 fw6_11 (rfl : kd 44 = (6, 0)) ⟨rfl, rfl⟩ rfl ?_
  replace hX := nmx hX; generalize sI σ 44 11 (gI σ 44 10) = σ5 at hX ⊢; try dsimp only at hX
  refine V.aloadn 0 dM_advance_42 rfl rfl ?_
  refine V.aloadn 0 dM_advance_43 rfl rfl ?_
  refine V.geti 44 dM_advance_44 flM_99 (rfl : kd 44 = (6, 0)) rfl ?_
  obtain ⟨q6, c7, hX⟩ := bd hX; try dsimp only at hX
  refine V.callvi 44 [.int (gI σ5 44 10)] dM_advance_47 (kM_byteAt c7) mlM_102 myM_byteAt mnM_byteAt ⟨rfl, rfl, by decide, by decide⟩ (rfl : kd 44 = (6, 0)) (by decide) rfl (Nat.le_of_ble_eq_true rfl) ⟨Nat.zero_le _, Nat.zero_le _⟩ rfl ?_
  refine V.istoren _ dM_advance_50 (by decide) rfl rfl ?_
  refine V.aloadn 1 dM_advance_51 rfl rfl ?_
  refine V.iloadn 0 dM_advance_52 rfl rfl ?_
  have JJ : V E mM_advance (FM E (none, z)) 83 [(1, .int q6), (0, .ref 44)] [.int (if 0 ≤ q6 then (if (fM_isLetter q6) = 0 then (if (fM_isDigit q6) = 0 then (3 : Int32) else (2 : Int32)) else (1 : Int32)) else (0 : Int32)), .ref 44] σ5 := by
    refine V.puti 44 .int dM_advance_83 flM_113 fw6_9 (rfl : kd 44 = (6, 0)) ⟨rfl, rfl⟩ rfl ?_
    replace hX := nmx hX; generalize sI σ5 44 9 (if 0 ≤ q6 then (if (fM_isLetter q6) = 0 then (if (fM_isDigit q6) = 0 then (3 : Int32) else (2 : Int32)) else (1 : Int32)) else (0 : Int32)) = σ8 at hX ⊢; try dsimp only at hX
    refine V.aloadn 1 dM_advance_86 rfl rfl ?_
    refine V.lconst (0 : Int64) dM_advance_87 rfl rfl ?_
    refine V.putl 44 dM_advance_88 flM_116 fw6_12 (rfl : kd 44 = (6, 0)) rfl ?_
    replace hX := nmx hX; generalize sL σ8 44 12 (0 : Int64) = σ9 at hX ⊢; try dsimp only at hX
    refine V.aloadn 1 dM_advance_91 rfl rfl ?_
    refine V.aloadn 1 dM_advance_92 rfl rfl ?_
    refine V.geti 44 dM_advance_93 flM_113 (rfl : kd 44 = (6, 0)) rfl ?_
    refine V.iconst (2 : Int32) dM_advance_96 lc2 rfl ?_
    have JJ : V E mM_advance (FM E (none, z)) 105 [(1, .int q6), (0, .ref 44)] [.int (if (gI σ9 44 9) = (2 : Int32) then (0 : Int32) else q6), .ref 44] σ9 := by
      refine V.puti 44 .int dM_advance_105 flM_120 fw6_13 (rfl : kd 44 = (6, 0)) ⟨rfl, rfl⟩ rfl ?_
      replace hX := nmx hX; generalize sI σ9 44 13 (if (gI σ9 44 9) = (2 : Int32) then (0 : Int32) else q6) = σ10 at hX ⊢; try dsimp only at hX
      refine V.aloadn 1 dM_advance_108 rfl rfl ?_
      refine V.geti 44 dM_advance_109 flM_113 (rfl : kd 44 = (6, 0)) rfl ?_
      refine V.iconst (3 : Int32) dM_advance_112 lc3 rfl ?_
      refine V.icmpne 126 dM_advance_113 rfl rfl (fun g11 => ?_) (fun g11 => ?_)
      · replace hX := im hX g11
        refine V.sub [1] rfl ?_
        exact wM_advance_126 300 σ10 hX
      · replace hX := ip hX g11
        refine V.aloadn 1 dM_advance_116 rfl rfl ?_
        refine V.dup dM_advance_117 rfl rfl ?_
        refine V.geti 44 dM_advance_118 flM_96 (rfl : kd 44 = (6, 0)) rfl ?_
        refine V.iconst (1 : Int32) dM_advance_121 lc1 rfl ?_
        refine V.iadd dM_advance_122 rfl ?_
        refine V.puti 44 .int dM_advance_123 flM_96 fw6_11 (rfl : kd 44 = (6, 0)) ⟨rfl, rfl⟩ rfl ?_
        replace hX := nmx hX; generalize sI σ10 44 11 ((gI σ10 44 11) + (1 : Int32)) = σ34 at hX ⊢; try dsimp only at hX
        refine V.sub [1] rfl ?_
        exact wM_advance_126 300 σ34 hX
    refine V.icmpne 104 dM_advance_97 rfl rfl (fun g35 => ?_) (fun g35 => ?_)
    · refine V.iloadn 0 dM_advance_104 rfl rfl ?_
      exact V.top (if_neg g35).symm JJ
    · refine V.iconst (0 : Int32) dM_advance_100 lc0 rfl ?_
      refine V.goto 105 dM_advance_101 rfl ?_
      exact V.top (if_pos g35).symm JJ
  refine V.ifge 60 dM_advance_53 rfl rfl (fun g36 => ?_) (fun g36 => ?_)
  · refine V.iloadn 0 dM_advance_60 rfl rfl ?_
    refine V.callsi [.int q6] dM_advance_61 (kM_isLetter (σ := σ5) q6) mlM_106 myM_isLetter mnM_isLetter ⟨rfl, rfl, by decide, by decide⟩ rfl (Nat.le_of_ble_eq_true rfl) ⟨Nat.zero_le _, Nat.zero_le _⟩ rfl ?_
    refine V.ifeq 71 dM_advance_64 rfl rfl (fun g37 => ?_) (fun g37 => ?_)
    · refine V.iloadn 0 dM_advance_71 rfl rfl ?_
      refine V.callsi [.int q6] dM_advance_72 (kM_isDigit (σ := σ5) q6) mlM_110 myM_isDigit mnM_isDigit ⟨rfl, rfl, by decide, by decide⟩ rfl (Nat.le_of_ble_eq_true rfl) ⟨Nat.zero_le _, Nat.zero_le _⟩ rfl ?_
      refine V.ifeq 82 dM_advance_75 rfl rfl (fun g38 => ?_) (fun g38 => ?_)
      · refine V.iconst (3 : Int32) dM_advance_82 lc3 rfl ?_
        exact V.top (((if_pos g36).trans (if_pos g37)).trans (if_pos g38)).symm JJ
      · refine V.iconst (2 : Int32) dM_advance_78 lc2 rfl ?_
        refine V.goto 83 dM_advance_79 rfl ?_
        exact V.top (((if_pos g36).trans (if_pos g37)).trans (if_neg g38)).symm JJ
    · refine V.iconst (1 : Int32) dM_advance_67 lc1 rfl ?_
      refine V.goto 83 dM_advance_68 rfl ?_
      exact V.top ((if_pos g36).trans (if_neg g37)).symm JJ
  · refine V.iconst (0 : Int32) dM_advance_56 lc0 rfl ?_
    refine V.goto 83 dM_advance_57 rfl ?_
    exact V.top (if_neg g36).symm JJ
set_option maxRecDepth 4000 in
theorem wM_advance_8 {E : Ev} {z : St} : ∀ (fu : Nat) (σ : St), fM_advance_8 fu σ = some z → V E mM_advance (FM E (none, z)) 8 [(0, .ref 44)] [] σ := by
  intro fu
  induction fu with
  | zero => intro σ hX; cases hX
  | succ fu ih =>
    intro σ hX
    rw [fM_advance_8] at hX
    refine V.aloadn 0 dM_advance_8 rfl rfl ?_
    refine V.aloadn 0 dM_advance_9 rfl rfl ?_
    refine V.geti 44 dM_advance_10 flM_99 (rfl : kd 44 = (6, 0)) rfl ?_
    obtain ⟨q2, c3, hX⟩ := bd hX; try dsimp only at hX
    refine V.callvi 44 [.int (gI σ 44 10)] dM_advance_13 (kM_byteAt c3) mlM_102 myM_byteAt mnM_byteAt ⟨rfl, rfl, by decide, by decide⟩ (rfl : kd 44 = (6, 0)) (by decide) rfl (Nat.le_of_ble_eq_true rfl) ⟨Nat.zero_le _, Nat.zero_le _⟩ rfl ?_
    refine V.bipush (32 : Int32) dM_advance_16 lb32 rfl ?_
    refine V.icmpne 34 dM_advance_18 rfl rfl (fun g4 => ?_) (fun g4 => ?_)
    · replace hX := im hX g4
      refine V.sub [0] rfl ?_
      exact wM_advance_34 σ hX
    · replace hX := ip hX g4
      refine V.aloadn 0 dM_advance_21 rfl rfl ?_
      refine V.dup dM_advance_22 rfl rfl ?_
      refine V.geti 44 dM_advance_23 flM_99 (rfl : kd 44 = (6, 0)) rfl ?_
      refine V.iconst (1 : Int32) dM_advance_26 lc1 rfl ?_
      refine V.iadd dM_advance_27 rfl ?_
      refine V.puti 44 .int dM_advance_28 flM_99 fw6_10 (rfl : kd 44 = (6, 0)) ⟨rfl, rfl⟩ rfl ?_
      replace hX := nmx hX; generalize sI σ 44 10 ((gI σ 44 10) + (1 : Int32)) = σ39 at hX ⊢; try dsimp only at hX
      refine V.goto 8 dM_advance_31 rfl ?_
      refine V.sub [0] rfl ?_
      exact ih σ39 hX
set_option maxRecDepth 4000 in
theorem wM_advance {E : Ev} {z : St} (σ : St) (hX : fM_advance σ = some z) : V E mM_advance (FM E (none, z)) 0 [(0, .ref 44)] [] σ := by
  unfold fM_advance at hX
  refine V.aloadn 0 dM_advance_0 rfl rfl ?_
  refine V.aloadn 0 dM_advance_1 rfl rfl ?_
  refine V.geti 44 dM_advance_2 flM_96 (rfl : kd 44 = (6, 0)) rfl ?_
  refine V.puti 44 .int dM_advance_5 flM_99 fw6_10 (rfl : kd 44 = (6, 0)) ⟨rfl, rfl⟩ rfl ?_
  replace hX := nmx hX; generalize sI σ 44 10 (gI σ 44 11) = σ1 at hX ⊢; try dsimp only at hX
  refine V.sub [0] rfl ?_
  exact wM_advance_8 300 σ1 hX
theorem kM_advance {E : Ev} {σ z : St} (h : fM_advance σ = some z) : Ct mM_advance E [.ref 44] σ (none, z) := Ct.of (by decide) (Nat.le_of_ble_eq_true rfl) (wM_advance σ h)
theorem dM_isWord_0 : decode mM_isWord.1 0 = .ok (.aload_n 0, 1) := by decide +kernel
theorem dM_isWord_1 : decode mM_isWord.1 1 = .ok (.getfield 113, 3) := by decide +kernel
theorem dM_isWord_4 : decode mM_isWord.1 4 = .ok (.iconst 1, 1) := by decide +kernel
theorem dM_isWord_5 : decode mM_isWord.1 5 = .ok (.if_icmp .ne 16, 3) := by decide +kernel
theorem dM_isWord_8 : decode mM_isWord.1 8 = .ok (.aload_n 0, 1) := by decide +kernel
theorem dM_isWord_9 : decode mM_isWord.1 9 = .ok (.getfield 116, 3) := by decide +kernel
theorem dM_isWord_12 : decode mM_isWord.1 12 = .ok (.lload_n 1, 1) := by decide +kernel
theorem dM_isWord_13 : decode mM_isWord.1 13 = .ok (.lcmp, 1) := by decide +kernel
theorem dM_isWord_14 : decode mM_isWord.1 14 = .ok (.ifCond .ne 7, 3) := by decide +kernel
theorem dM_isWord_17 : decode mM_isWord.1 17 = .ok (.iconst 1, 1) := by decide +kernel
theorem dM_isWord_18 : decode mM_isWord.1 18 = .ok (.goto 4, 3) := by decide +kernel
theorem dM_isWord_21 : decode mM_isWord.1 21 = .ok (.iconst 0, 1) := by decide +kernel
theorem dM_isWord_22 : decode mM_isWord.1 22 = .ok (.ireturn, 1) := by decide +kernel
set_option maxRecDepth 4000 in
theorem wM_isWord {E : Ev} {z : Int32} (σ : St) (l1 : Int64) (hX : fM_isWord σ l1 = z) : V E mM_isWord (FM E (some (.int z), σ)) 0 [(0, .ref 44), (1, .long l1)] [] σ := by
  unfold fM_isWord at hX
  refine V.aloadn 0 dM_isWord_0 rfl rfl ?_
  refine V.geti 44 dM_isWord_1 flM_113 (rfl : kd 44 = (6, 0)) rfl ?_
  refine V.iconst (1 : Int32) dM_isWord_4 lc1 rfl ?_
  have JJ : V E mM_isWord (FM E (some (.int z), σ)) 22 [(0, .ref 44), (1, .long l1)] [.int (if (gI σ 44 9) = (1 : Int32) then (if (lg_cmp (gL σ 44 12) l1) = 0 then (1 : Int32) else (0 : Int32)) else (0 : Int32))] σ := by
    subst hX; exact V.zret .boolean dM_isWord_22 rfl (nz (b01_i (b01_i b01_1 b01_0) b01_0)).1 rfl
  refine V.icmpne 21 dM_isWord_5 rfl rfl (fun g1 => ?_) (fun g1 => ?_)
  · refine V.iconst (0 : Int32) dM_isWord_21 lc0 rfl ?_
    exact V.top (if_neg g1).symm JJ
  · refine V.aloadn 0 dM_isWord_8 rfl rfl ?_
    refine V.getl 44 dM_isWord_9 flM_116 (rfl : kd 44 = (6, 0)) rfl ?_
    refine V.lloadn 1 dM_isWord_12 rfl rfl ?_
    refine V.lcmp dM_isWord_13 rfl ?_
    refine V.ifne 21 dM_isWord_14 rfl rfl (fun g2 => ?_) (fun g2 => ?_)
    · refine V.iconst (0 : Int32) dM_isWord_21 lc0 rfl ?_
      exact V.top ((if_pos g1).trans (if_neg g2)).symm JJ
    · refine V.iconst (1 : Int32) dM_isWord_17 lc1 rfl ?_
      refine V.goto 22 dM_isWord_18 rfl ?_
      exact V.top ((if_pos g1).trans (if_pos g2)).symm JJ
theorem kM_isWord {E : Ev} {σ : St} (l1 : Int64) : Ct mM_isWord E [.ref 44, .long l1] σ (some (.int (fM_isWord σ l1)), σ) := Ct.of (by decide) (Nat.le_of_ble_eq_true rfl) (wM_isWord σ l1 rfl)
theorem bM_isWord (σ : St) (l1 : Int64) : b01 (fM_isWord σ l1) := by
  unfold fM_isWord
  exact (b01_i (b01_i b01_1 b01_0) b01_0)
theorem dM_wantNumber_0 : decode mM_wantNumber.1 0 = .ok (.aload_n 0, 1) := by decide +kernel
theorem dM_wantNumber_1 : decode mM_wantNumber.1 1 = .ok (.getfield 120, 3) := by decide +kernel
theorem dM_wantNumber_4 : decode mM_wantNumber.1 4 = .ok (.istore_n 3, 1) := by decide +kernel
theorem dM_wantNumber_5 : decode mM_wantNumber.1 5 = .ok (.aload_n 0, 1) := by decide +kernel
theorem dM_wantNumber_6 : decode mM_wantNumber.1 6 = .ok (.aload_n 0, 1) := by decide +kernel
theorem dM_wantNumber_7 : decode mM_wantNumber.1 7 = .ok (.getfield 145, 3) := by decide +kernel
theorem dM_wantNumber_10 : decode mM_wantNumber.1 10 = .ok (.ifCond .eq 24, 3) := by decide +kernel
theorem dM_wantNumber_13 : decode mM_wantNumber.1 13 = .ok (.aload_n 0, 1) := by decide +kernel
theorem dM_wantNumber_14 : decode mM_wantNumber.1 14 = .ok (.getfield 113, 3) := by decide +kernel
theorem dM_wantNumber_17 : decode mM_wantNumber.1 17 = .ok (.iconst 2, 1) := by decide +kernel
theorem dM_wantNumber_18 : decode mM_wantNumber.1 18 = .ok (.if_icmp .ne 16, 3) := by decide +kernel
theorem dM_wantNumber_21 : decode mM_wantNumber.1 21 = .ok (.iload_n 3, 1) := by decide +kernel
theorem dM_wantNumber_22 : decode mM_wantNumber.1 22 = .ok (.iload_n 1, 1) := by decide +kernel
theorem dM_wantNumber_23 : decode mM_wantNumber.1 23 = .ok (.iload_n 2, 1) := by decide +kernel
theorem dM_wantNumber_24 : decode mM_wantNumber.1 24 = .ok (.invokestatic 84, 3) := by decide +kernel
theorem dM_wantNumber_27 : decode mM_wantNumber.1 27 = .ok (.ifCond .eq 7, 3) := by decide +kernel
theorem dM_wantNumber_30 : decode mM_wantNumber.1 30 = .ok (.iconst 1, 1) := by decide +kernel
theorem dM_wantNumber_31 : decode mM_wantNumber.1 31 = .ok (.goto 4, 3) := by decide +kernel
theorem dM_wantNumber_34 : decode mM_wantNumber.1 34 = .ok (.iconst 0, 1) := by decide +kernel
theorem dM_wantNumber_35 : decode mM_wantNumber.1 35 = .ok (.putfield 145, 3) := by decide +kernel
theorem dM_wantNumber_38 : decode mM_wantNumber.1 38 = .ok (.aload_n 0, 1) := by decide +kernel
theorem dM_wantNumber_39 : decode mM_wantNumber.1 39 = .ok (.getfield 145, 3) := by decide +kernel
theorem dM_wantNumber_42 : decode mM_wantNumber.1 42 = .ok (.ifCond .eq 7, 3) := by decide +kernel
theorem dM_wantNumber_45 : decode mM_wantNumber.1 45 = .ok (.aload_n 0, 1) := by decide +kernel
theorem dM_wantNumber_46 : decode mM_wantNumber.1 46 = .ok (.invokevirtual 149, 3) := by decide +kernel
theorem dM_wantNumber_49 : decode mM_wantNumber.1 49 = .ok (.iload_n 3, 1) := by decide +kernel
theorem dM_wantNumber_50 : decode mM_wantNumber.1 50 = .ok (.ireturn, 1) := by decide +kernel
set_option maxRecDepth 4000 in
theorem wM_wantNumber {E : Ev} {z : Int32 × St} (σ : St) (i1 : Int32) (i2 : Int32) (hX : fM_wantNumber σ i1 i2 = some z) : V E mM_wantNumber (FM E (some (.int z.1), z.2)) 0 [(0, .ref 44), (1, .int i1), (2, .int i2)] [] σ := by
  unfold fM_wantNumber at hX
  refine V.aloadn 0 dM_wantNumber_0 rfl rfl ?_
  refine V.geti 44 dM_wantNumber_1 flM_120 (rfl : kd 44 = (6, 0)) rfl ?_
  refine V.istoren _ dM_wantNumber_4 (by decide) rfl rfl ?_
  replace hX := nmx hX; generalize gI σ 44 13 = v1 at hX ⊢; try dsimp only at hX
  refine V.aloadn 1 dM_wantNumber_5 rfl rfl ?_
  refine V.aloadn 1 dM_wantNumber_6 rfl rfl ?_
  refine V.geti 44 dM_wantNumber_7 flM_145 (rfl : kd 44 = (6, 0)) rfl ?_
  have JJ : V E mM_wantNumber (FM E (some (.int z.1), z.2)) 35 [(3, .int v1), (0, .ref 44), (1, .int i1), (2, .int i2)] [.int (if (gI σ 44 14) = 0 then (0 : Int32) else (if (gI σ 44 9) = (2 : Int32) then (if (fM_in v1 i1 i2) = 0 then (0 : Int32) else (1 : Int32)) else (0 : Int32))), .ref 44] σ := by
    refine V.puti 44 .boolean dM_wantNumber_35 flM_145 fw6_14 (rfl : kd 44 = (6, 0)) (nz (b01_i b01_0 (b01_i (b01_i b01_0 b01_1) b01_0))) rfl ?_
    replace hX := nmx hX; generalize sI σ 44 14 (if (gI σ 44 14) = 0 then (0 : Int32) else (if (gI σ 44 9) = (2 : Int32) then (if (fM_in v1 i1 i2) = 0 then (0 : Int32) else (1 : Int32)) else (0 : Int32))) = σ2 at hX ⊢; try dsimp only at hX
    refine V.aloadn 1 dM_wantNumber_38 rfl rfl ?_
    refine V.geti 44 dM_wantNumber_39 flM_145 (rfl : kd 44 = (6, 0)) rfl ?_
    refine V.ifeq 49 dM_wantNumber_42 rfl rfl (fun g3 => ?_) (fun g3 => ?_)
    · replace hX := ip hX g3
      refine V.iloadn 0 dM_wantNumber_49 rfl rfl ?_
      have hX := (Option.some.inj hX).symm; subst hX; exact V.iret dM_wantNumber_50 rfl rfl
    · replace hX := im hX g3
      refine V.aloadn 1 dM_wantNumber_45 rfl rfl ?_
      obtain ⟨σ5, c4, hX⟩ := bd hX; try dsimp only at hX
      refine V.callv0 44 [] dM_wantNumber_46 (kM_advance c4) mlM_149 myM_advance mnM_advance ⟨rfl, rfl, by decide, by decide⟩ (rfl : kd 44 = (6, 0)) (by decide) rfl (Nat.le_of_ble_eq_true rfl) ⟨Nat.zero_le _, Nat.zero_le _⟩ rfl ?_
      refine V.iloadn 0 dM_wantNumber_49 rfl rfl ?_
      have hX := (Option.some.inj hX).symm; subst hX; exact V.iret dM_wantNumber_50 rfl rfl
  refine V.ifeq 34 dM_wantNumber_10 rfl rfl (fun g6 => ?_) (fun g6 => ?_)
  · refine V.iconst (0 : Int32) dM_wantNumber_34 lc0 rfl ?_
    exact V.top (if_pos g6).symm JJ
  · refine V.aloadn 1 dM_wantNumber_13 rfl rfl ?_
    refine V.geti 44 dM_wantNumber_14 flM_113 (rfl : kd 44 = (6, 0)) rfl ?_
    refine V.iconst (2 : Int32) dM_wantNumber_17 lc2 rfl ?_
    refine V.icmpne 34 dM_wantNumber_18 rfl rfl (fun g7 => ?_) (fun g7 => ?_)
    · refine V.iconst (0 : Int32) dM_wantNumber_34 lc0 rfl ?_
      exact V.top ((if_neg g6).trans (if_neg g7)).symm JJ
    · refine V.iloadn 0 dM_wantNumber_21 rfl rfl ?_
      refine V.iloadn 2 dM_wantNumber_22 rfl rfl ?_
      refine V.iloadn 3 dM_wantNumber_23 rfl rfl ?_
      refine V.callsi [.int v1, .int i1, .int i2] dM_wantNumber_24 (kM_in (σ := σ) v1 i1 i2) mlM_84 myM_in mnM_in ⟨rfl, rfl, by decide, by decide⟩ rfl (Nat.le_of_ble_eq_true rfl) ⟨Nat.zero_le _, Nat.zero_le _⟩ rfl ?_
      refine V.ifeq 34 dM_wantNumber_27 rfl rfl (fun g8 => ?_) (fun g8 => ?_)
      · refine V.iconst (0 : Int32) dM_wantNumber_34 lc0 rfl ?_
        exact V.top (((if_neg g6).trans (if_pos g7)).trans (if_pos g8)).symm JJ
      · refine V.iconst (1 : Int32) dM_wantNumber_30 lc1 rfl ?_
        refine V.goto 35 dM_wantNumber_31 rfl ?_
        exact V.top (((if_neg g6).trans (if_pos g7)).trans (if_neg g8)).symm JJ
theorem kM_wantNumber {E : Ev} {σ σ2 : St} {i1 : Int32} {i2 : Int32} {z : Int32} (h : fM_wantNumber σ i1 i2 = some (z, σ2)) : Ct mM_wantNumber E [.ref 44, .int i1, .int i2] σ (some (.int z), σ2) := Ct.of (by decide) (Nat.le_of_ble_eq_true rfl) (wM_wantNumber σ i1 i2 h)
theorem dM_isMark_0 : decode mM_isMark.1 0 = .ok (.aload_n 0, 1) := by decide +kernel
theorem dM_isMark_1 : decode mM_isMark.1 1 = .ok (.getfield 113, 3) := by decide +kernel
theorem dM_isMark_4 : decode mM_isMark.1 4 = .ok (.iconst 3, 1) := by decide +kernel
theorem dM_isMark_5 : decode mM_isMark.1 5 = .ok (.if_icmp .ne 15, 3) := by decide +kernel
theorem dM_isMark_8 : decode mM_isMark.1 8 = .ok (.aload_n 0, 1) := by decide +kernel
theorem dM_isMark_9 : decode mM_isMark.1 9 = .ok (.getfield 120, 3) := by decide +kernel
theorem dM_isMark_12 : decode mM_isMark.1 12 = .ok (.iload_n 1, 1) := by decide +kernel
theorem dM_isMark_13 : decode mM_isMark.1 13 = .ok (.if_icmp .ne 7, 3) := by decide +kernel
theorem dM_isMark_16 : decode mM_isMark.1 16 = .ok (.iconst 1, 1) := by decide +kernel
theorem dM_isMark_17 : decode mM_isMark.1 17 = .ok (.goto 4, 3) := by decide +kernel
theorem dM_isMark_20 : decode mM_isMark.1 20 = .ok (.iconst 0, 1) := by decide +kernel
theorem dM_isMark_21 : decode mM_isMark.1 21 = .ok (.ireturn, 1) := by decide +kernel
set_option maxRecDepth 4000 in
theorem wM_isMark {E : Ev} {z : Int32} (σ : St) (i1 : Int32) (hX : fM_isMark σ i1 = z) : V E mM_isMark (FM E (some (.int z), σ)) 0 [(0, .ref 44), (1, .int i1)] [] σ := by
  unfold fM_isMark at hX
  refine V.aloadn 0 dM_isMark_0 rfl rfl ?_
  refine V.geti 44 dM_isMark_1 flM_113 (rfl : kd 44 = (6, 0)) rfl ?_
  refine V.iconst (3 : Int32) dM_isMark_4 lc3 rfl ?_
  have JJ : V E mM_isMark (FM E (some (.int z), σ)) 21 [(0, .ref 44), (1, .int i1)] [.int (if (gI σ 44 9) = (3 : Int32) then (if (gI σ 44 13) = i1 then (1 : Int32) else (0 : Int32)) else (0 : Int32))] σ := by
    subst hX; exact V.zret .boolean dM_isMark_21 rfl (nz (b01_i (b01_i b01_1 b01_0) b01_0)).1 rfl
  refine V.icmpne 20 dM_isMark_5 rfl rfl (fun g1 => ?_) (fun g1 => ?_)
  · refine V.iconst (0 : Int32) dM_isMark_20 lc0 rfl ?_
    exact V.top (if_neg g1).symm JJ
  · refine V.aloadn 0 dM_isMark_8 rfl rfl ?_
    refine V.geti 44 dM_isMark_9 flM_120 (rfl : kd 44 = (6, 0)) rfl ?_
    refine V.iloadn 1 dM_isMark_12 rfl rfl ?_
    refine V.icmpne 20 dM_isMark_13 rfl rfl (fun g2 => ?_) (fun g2 => ?_)
    · refine V.iconst (0 : Int32) dM_isMark_20 lc0 rfl ?_
      exact V.top ((if_pos g1).trans (if_neg g2)).symm JJ
    · refine V.iconst (1 : Int32) dM_isMark_16 lc1 rfl ?_
      refine V.goto 21 dM_isMark_17 rfl ?_
      exact V.top ((if_pos g1).trans (if_pos g2)).symm JJ
theorem kM_isMark {E : Ev} {σ : St} (i1 : Int32) : Ct mM_isMark E [.ref 44, .int i1] σ (some (.int (fM_isMark σ i1)), σ) := Ct.of (by decide) (Nat.le_of_ble_eq_true rfl) (wM_isMark σ i1 rfl)
theorem bM_isMark (σ : St) (i1 : Int32) : b01 (fM_isMark σ i1) := by
  unfold fM_isMark
  exact (b01_i (b01_i b01_1 b01_0) b01_0)
theorem dM_wantEnd_0 : decode mM_wantEnd.1 0 = .ok (.aload_n 0, 1) := by decide +kernel
theorem dM_wantEnd_1 : decode mM_wantEnd.1 1 = .ok (.aload_n 0, 1) := by decide +kernel
theorem dM_wantEnd_2 : decode mM_wantEnd.1 2 = .ok (.getfield 145, 3) := by decide +kernel
theorem dM_wantEnd_5 : decode mM_wantEnd.1 5 = .ok (.ifCond .eq 16, 3) := by decide +kernel
theorem dM_wantEnd_8 : decode mM_wantEnd.1 8 = .ok (.aload_n 0, 1) := by decide +kernel
theorem dM_wantEnd_9 : decode mM_wantEnd.1 9 = .ok (.bipush 59, 2) := by decide +kernel
theorem dM_wantEnd_11 : decode mM_wantEnd.1 11 = .ok (.invokevirtual 152, 3) := by decide +kernel
theorem dM_wantEnd_14 : decode mM_wantEnd.1 14 = .ok (.ifCond .eq 7, 3) := by decide +kernel
theorem dM_wantEnd_17 : decode mM_wantEnd.1 17 = .ok (.iconst 1, 1) := by decide +kernel
theorem dM_wantEnd_18 : decode mM_wantEnd.1 18 = .ok (.goto 4, 3) := by decide +kernel
theorem dM_wantEnd_21 : decode mM_wantEnd.1 21 = .ok (.iconst 0, 1) := by decide +kernel
theorem dM_wantEnd_22 : decode mM_wantEnd.1 22 = .ok (.putfield 145, 3) := by decide +kernel
theorem dM_wantEnd_25 : decode mM_wantEnd.1 25 = .ok (.aload_n 0, 1) := by decide +kernel
theorem dM_wantEnd_26 : decode mM_wantEnd.1 26 = .ok (.getfield 145, 3) := by decide +kernel
theorem dM_wantEnd_29 : decode mM_wantEnd.1 29 = .ok (.ifCond .eq 7, 3) := by decide +kernel
theorem dM_wantEnd_32 : decode mM_wantEnd.1 32 = .ok (.aload_n 0, 1) := by decide +kernel
theorem dM_wantEnd_33 : decode mM_wantEnd.1 33 = .ok (.invokevirtual 149, 3) := by decide +kernel
theorem dM_wantEnd_36 : decode mM_wantEnd.1 36 = .ok (.return_, 1) := by decide +kernel
set_option maxRecDepth 4000 in
theorem wM_wantEnd {E : Ev} {z : St} (σ : St) (hX : fM_wantEnd σ = some z) : V E mM_wantEnd (FM E (none, z)) 0 [(0, .ref 44)] [] σ := by
  unfold fM_wantEnd at hX
  refine V.aloadn 0 dM_wantEnd_0 rfl rfl ?_
  refine V.aloadn 0 dM_wantEnd_1 rfl rfl ?_
  refine V.geti 44 dM_wantEnd_2 flM_145 (rfl : kd 44 = (6, 0)) rfl ?_
  have JJ : V E mM_wantEnd (FM E (none, z)) 22 [(0, .ref 44)] [.int (if (gI σ 44 14) = 0 then (0 : Int32) else (if (fM_isMark σ (59 : Int32)) = 0 then (0 : Int32) else (1 : Int32))), .ref 44] σ := by
    refine V.puti 44 .boolean dM_wantEnd_22 flM_145 fw6_14 (rfl : kd 44 = (6, 0)) (nz (b01_i b01_0 (b01_i b01_0 b01_1))) rfl ?_
    replace hX := nmx hX; generalize sI σ 44 14 (if (gI σ 44 14) = 0 then (0 : Int32) else (if (fM_isMark σ (59 : Int32)) = 0 then (0 : Int32) else (1 : Int32))) = σ1 at hX ⊢; try dsimp only at hX
    refine V.aloadn 0 dM_wantEnd_25 rfl rfl ?_
    refine V.geti 44 dM_wantEnd_26 flM_145 (rfl : kd 44 = (6, 0)) rfl ?_
    refine V.ifeq 36 dM_wantEnd_29 rfl rfl (fun g2 => ?_) (fun g2 => ?_)
    · replace hX := ip hX g2
      have hX := (Option.some.inj hX).symm; subst hX; exact V.vret dM_wantEnd_36 rfl rfl
    · replace hX := im hX g2
      refine V.aloadn 0 dM_wantEnd_32 rfl rfl ?_
      obtain ⟨σ4, c3, hX⟩ := bd hX; try dsimp only at hX
      refine V.callv0 44 [] dM_wantEnd_33 (kM_advance c3) mlM_149 myM_advance mnM_advance ⟨rfl, rfl, by decide, by decide⟩ (rfl : kd 44 = (6, 0)) (by decide) rfl (Nat.le_of_ble_eq_true rfl) ⟨Nat.zero_le _, Nat.zero_le _⟩ rfl ?_
      have hX := (Option.some.inj hX).symm; subst hX; exact V.vret dM_wantEnd_36 rfl rfl
  refine V.ifeq 21 dM_wantEnd_5 rfl rfl (fun g5 => ?_) (fun g5 => ?_)
  · refine V.iconst (0 : Int32) dM_wantEnd_21 lc0 rfl ?_
    exact V.top (if_pos g5).symm JJ
  · refine V.aloadn 0 dM_wantEnd_8 rfl rfl ?_
    refine V.bipush (59 : Int32) dM_wantEnd_9 lb59 rfl ?_
    refine V.callvi 44 [.int (59 : Int32)] dM_wantEnd_11 (kM_isMark (σ := σ) (59 : Int32)) mlM_152 myM_isMark mnM_isMark ⟨rfl, rfl, by decide, by decide⟩ (rfl : kd 44 = (6, 0)) (by decide) rfl (Nat.le_of_ble_eq_true rfl) ⟨Nat.zero_le _, Nat.zero_le _⟩ rfl ?_
    refine V.ifeq 21 dM_wantEnd_14 rfl rfl (fun g6 => ?_) (fun g6 => ?_)
    · refine V.iconst (0 : Int32) dM_wantEnd_21 lc0 rfl ?_
      exact V.top ((if_neg g5).trans (if_pos g6)).symm JJ
    · refine V.iconst (1 : Int32) dM_wantEnd_17 lc1 rfl ?_
      refine V.goto 22 dM_wantEnd_18 rfl ?_
      exact V.top ((if_neg g5).trans (if_neg g6)).symm JJ
theorem kM_wantEnd {E : Ev} {σ z : St} (h : fM_wantEnd σ = some z) : Ct mM_wantEnd E [.ref 44] σ (none, z) := Ct.of (by decide) (Nat.le_of_ble_eq_true rfl) (wM_wantEnd σ h)
theorem dM_wantPerson_0 : decode mM_wantPerson.1 0 = .ok (.aload_n 0, 1) := by decide +kernel
theorem dM_wantPerson_1 : decode mM_wantPerson.1 1 = .ok (.aload_n 0, 1) := by decide +kernel
theorem dM_wantPerson_2 : decode mM_wantPerson.1 2 = .ok (.getfield 155, 3) := by decide +kernel
theorem dM_wantPerson_5 : decode mM_wantPerson.1 5 = .ok (.bipush 7, 2) := by decide +kernel
theorem dM_wantPerson_7 : decode mM_wantPerson.1 7 = .ok (.if_icmp .ge 7, 3) := by decide +kernel
theorem dM_wantPerson_10 : decode mM_wantPerson.1 10 = .ok (.iconst 1, 1) := by decide +kernel
theorem dM_wantPerson_11 : decode mM_wantPerson.1 11 = .ok (.goto 4, 3) := by decide +kernel
theorem dM_wantPerson_14 : decode mM_wantPerson.1 14 = .ok (.iconst 0, 1) := by decide +kernel
theorem dM_wantPerson_15 : decode mM_wantPerson.1 15 = .ok (.putfield 145, 3) := by decide +kernel
theorem dM_wantPerson_18 : decode mM_wantPerson.1 18 = .ok (.aload_n 0, 1) := by decide +kernel
theorem dM_wantPerson_19 : decode mM_wantPerson.1 19 = .ok (.getfield 145, 3) := by decide +kernel
theorem dM_wantPerson_22 : decode mM_wantPerson.1 22 = .ok (.ifCond .eq 7, 3) := by decide +kernel
theorem dM_wantPerson_25 : decode mM_wantPerson.1 25 = .ok (.aload_n 0, 1) := by decide +kernel
theorem dM_wantPerson_26 : decode mM_wantPerson.1 26 = .ok (.invokevirtual 149, 3) := by decide +kernel
theorem dM_wantPerson_29 : decode mM_wantPerson.1 29 = .ok (.aload_n 0, 1) := by decide +kernel
theorem dM_wantPerson_30 : decode mM_wantPerson.1 30 = .ok (.iconst 0, 1) := by decide +kernel
theorem dM_wantPerson_31 : decode mM_wantPerson.1 31 = .ok (.bipush 9, 2) := by decide +kernel
theorem dM_wantPerson_33 : decode mM_wantPerson.1 33 = .ok (.invokevirtual 158, 3) := by decide +kernel
theorem dM_wantPerson_36 : decode mM_wantPerson.1 36 = .ok (.istore_n 1, 1) := by decide +kernel
theorem dM_wantPerson_37 : decode mM_wantPerson.1 37 = .ok (.aload_n 0, 1) := by decide +kernel
theorem dM_wantPerson_38 : decode mM_wantPerson.1 38 = .ok (.invokevirtual 162, 3) := by decide +kernel
theorem dM_wantPerson_41 : decode mM_wantPerson.1 41 = .ok (.aload_n 0, 1) := by decide +kernel
theorem dM_wantPerson_42 : decode mM_wantPerson.1 42 = .ok (.getfield 145, 3) := by decide +kernel
theorem dM_wantPerson_45 : decode mM_wantPerson.1 45 = .ok (.ifCond .eq 33, 3) := by decide +kernel
theorem dM_wantPerson_48 : decode mM_wantPerson.1 48 = .ok (.aload_n 0, 1) := by decide +kernel
theorem dM_wantPerson_49 : decode mM_wantPerson.1 49 = .ok (.getfield 29, 3) := by decide +kernel
theorem dM_wantPerson_52 : decode mM_wantPerson.1 52 = .ok (.aload_n 0, 1) := by decide +kernel
theorem dM_wantPerson_53 : decode mM_wantPerson.1 53 = .ok (.getfield 155, 3) := by decide +kernel
theorem dM_wantPerson_56 : decode mM_wantPerson.1 56 = .ok (.iload_n 1, 1) := by decide +kernel
theorem dM_wantPerson_57 : decode mM_wantPerson.1 57 = .ok (.iastore, 1) := by decide +kernel
theorem dM_wantPerson_58 : decode mM_wantPerson.1 58 = .ok (.aload_n 0, 1) := by decide +kernel
theorem dM_wantPerson_59 : decode mM_wantPerson.1 59 = .ok (.getfield 32, 3) := by decide +kernel
theorem dM_wantPerson_62 : decode mM_wantPerson.1 62 = .ok (.aload_n 0, 1) := by decide +kernel
theorem dM_wantPerson_63 : decode mM_wantPerson.1 63 = .ok (.getfield 155, 3) := by decide +kernel
theorem dM_wantPerson_66 : decode mM_wantPerson.1 66 = .ok (.iconst 0, 1) := by decide +kernel
theorem dM_wantPerson_67 : decode mM_wantPerson.1 67 = .ok (.iastore, 1) := by decide +kernel
theorem dM_wantPerson_68 : decode mM_wantPerson.1 68 = .ok (.aload_n 0, 1) := by decide +kernel
theorem dM_wantPerson_69 : decode mM_wantPerson.1 69 = .ok (.dup, 1) := by decide +kernel
theorem dM_wantPerson_70 : decode mM_wantPerson.1 70 = .ok (.getfield 155, 3) := by decide +kernel
theorem dM_wantPerson_73 : decode mM_wantPerson.1 73 = .ok (.iconst 1, 1) := by decide +kernel
theorem dM_wantPerson_74 : decode mM_wantPerson.1 74 = .ok (.iadd, 1) := by decide +kernel
theorem dM_wantPerson_75 : decode mM_wantPerson.1 75 = .ok (.putfield 155, 3) := by decide +kernel
theorem dM_wantPerson_78 : decode mM_wantPerson.1 78 = .ok (.return_, 1) := by decide +kernel
set_option maxRecDepth 4000 in
theorem wM_wantPerson_29 {E : Ev} {z : St} (σ : St) (hX : fM_wantPerson_29 σ = some z) : V E mM_wantPerson (FM E (none, z)) 29 [(0, .ref 44)] [] σ := by
  unfold fM_wantPerson_29 at hX
  refine V.aloadn 0 dM_wantPerson_29 rfl rfl ?_
  refine V.iconst (0 : Int32) dM_wantPerson_30 lc0 rfl ?_
  refine V.bipush (9 : Int32) dM_wantPerson_31 lb9 rfl ?_
  obtain ⟨q4, σ4, c3, hX⟩ := bi2 hX; try dsimp only at hX
  refine V.callvi 44 [.int (0 : Int32), .int (9 : Int32)] dM_wantPerson_33 (kM_wantNumber c3) mlM_158 myM_wantNumber mnM_wantNumber ⟨rfl, rfl, by decide, by decide⟩ (rfl : kd 44 = (6, 0)) (by decide) rfl (Nat.le_of_ble_eq_true rfl) ⟨Nat.zero_le _, Nat.zero_le _⟩ rfl ?_
  refine V.istoren _ dM_wantPerson_36 (by decide) rfl rfl ?_
  refine V.aloadn 1 dM_wantPerson_37 rfl rfl ?_
  obtain ⟨σ6, c5, hX⟩ := bd hX; try dsimp only at hX
  refine V.callv0 44 [] dM_wantPerson_38 (kM_wantEnd c5) mlM_162 myM_wantEnd mnM_wantEnd ⟨rfl, rfl, by decide, by decide⟩ (rfl : kd 44 = (6, 0)) (by decide) rfl (Nat.le_of_ble_eq_true rfl) ⟨Nat.zero_le _, Nat.zero_le _⟩ rfl ?_
  refine V.aloadn 1 dM_wantPerson_41 rfl rfl ?_
  refine V.geti 44 dM_wantPerson_42 flM_145 (rfl : kd 44 = (6, 0)) rfl ?_
  refine V.ifeq 78 dM_wantPerson_45 rfl rfl (fun g7 => ?_) (fun g7 => ?_)
  · replace hX := ip hX g7
    have hX := (Option.some.inj hX).symm; subst hX; exact V.vret dM_wantPerson_78 rfl rfl
  · replace hX := im hX g7
    refine V.aloadn 1 dM_wantPerson_48 rfl rfl ?_
    refine V.getr 44 50 dM_wantPerson_49 flM_29 (rfl : kd 44 = (6, 0)) rfl rfl ?_
    refine V.aloadn 1 dM_wantPerson_52 rfl rfl ?_
    refine V.geti 44 dM_wantPerson_53 flM_155 (rfl : kd 44 = (6, 0)) rfl ?_
    refine V.iloadn 0 dM_wantPerson_56 rfl rfl ?_
    obtain ⟨h8, hX⟩ := ob hX
    refine V.iast 50 dM_wantPerson_57 (rfl : kd 50 = (7, 7)) h8 rfl ?_
    replace hX := nmx hX; generalize sI σ6 50 (ix (gI σ6 44 15)) q4 = σ9 at hX ⊢; try dsimp only at hX
    refine V.aloadn 1 dM_wantPerson_58 rfl rfl ?_
    refine V.getr 44 51 dM_wantPerson_59 flM_32 (rfl : kd 44 = (6, 0)) rfl rfl ?_
    refine V.aloadn 1 dM_wantPerson_62 rfl rfl ?_
    refine V.geti 44 dM_wantPerson_63 flM_155 (rfl : kd 44 = (6, 0)) rfl ?_
    refine V.iconst (0 : Int32) dM_wantPerson_66 lc0 rfl ?_
    obtain ⟨h10, hX⟩ := ob hX
    refine V.iast 51 dM_wantPerson_67 (rfl : kd 51 = (7, 7)) h10 rfl ?_
    replace hX := nmx hX; generalize sI σ9 51 (ix (gI σ9 44 15)) (0 : Int32) = σ11 at hX ⊢; try dsimp only at hX
    refine V.aloadn 1 dM_wantPerson_68 rfl rfl ?_
    refine V.dup dM_wantPerson_69 rfl rfl ?_
    refine V.geti 44 dM_wantPerson_70 flM_155 (rfl : kd 44 = (6, 0)) rfl ?_
    refine V.iconst (1 : Int32) dM_wantPerson_73 lc1 rfl ?_
    refine V.iadd dM_wantPerson_74 rfl ?_
    refine V.puti 44 .int dM_wantPerson_75 flM_155 fw6_15 (rfl : kd 44 = (6, 0)) ⟨rfl, rfl⟩ rfl ?_
    replace hX := nmx hX; generalize sI σ11 44 15 ((gI σ11 44 15) + (1 : Int32)) = σ12 at hX ⊢; try dsimp only at hX
    have hX := (Option.some.inj hX).symm; subst hX; exact V.vret dM_wantPerson_78 rfl rfl
set_option maxRecDepth 4000 in
theorem wM_wantPerson {E : Ev} {z : St} (σ : St) (hX : fM_wantPerson σ = some z) : V E mM_wantPerson (FM E (none, z)) 0 [(0, .ref 44)] [] σ := by
  unfold fM_wantPerson at hX
  refine V.aloadn 0 dM_wantPerson_0 rfl rfl ?_
  refine V.aloadn 0 dM_wantPerson_1 rfl rfl ?_
  refine V.geti 44 dM_wantPerson_2 flM_155 (rfl : kd 44 = (6, 0)) rfl ?_
  refine V.bipush (7 : Int32) dM_wantPerson_5 lb7 rfl ?_
  have JJ : V E mM_wantPerson (FM E (none, z)) 15 [(0, .ref 44)] [.int (if (7 : Int32) ≤ (gI σ 44 15) then (0 : Int32) else (1 : Int32)), .ref 44] σ := by
    refine V.puti 44 .boolean dM_wantPerson_15 flM_145 fw6_14 (rfl : kd 44 = (6, 0)) (nz (b01_i b01_0 b01_1)) rfl ?_
    replace hX := nmx hX; generalize sI σ 44 14 (if (7 : Int32) ≤ (gI σ 44 15) then (0 : Int32) else (1 : Int32)) = σ1 at hX ⊢; try dsimp only at hX
    refine V.aloadn 0 dM_wantPerson_18 rfl rfl ?_
    refine V.geti 44 dM_wantPerson_19 flM_145 (rfl : kd 44 = (6, 0)) rfl ?_
    refine V.ifeq 29 dM_wantPerson_22 rfl rfl (fun g2 => ?_) (fun g2 => ?_)
    · replace hX := ip hX g2
      refine V.sub [0] rfl ?_
      exact wM_wantPerson_29 σ1 hX
    · replace hX := im hX g2
      refine V.aloadn 0 dM_wantPerson_25 rfl rfl ?_
      obtain ⟨σ14, c13, hX⟩ := bd hX; try dsimp only at hX
      refine V.callv0 44 [] dM_wantPerson_26 (kM_advance c13) mlM_149 myM_advance mnM_advance ⟨rfl, rfl, by decide, by decide⟩ (rfl : kd 44 = (6, 0)) (by decide) rfl (Nat.le_of_ble_eq_true rfl) ⟨Nat.zero_le _, Nat.zero_le _⟩ rfl ?_
      refine V.sub [0] rfl ?_
      exact wM_wantPerson_29 σ14 hX
  refine V.icmpge 14 dM_wantPerson_7 rfl rfl (fun g15 => ?_) (fun g15 => ?_)
  · refine V.iconst (0 : Int32) dM_wantPerson_14 lc0 rfl ?_
    exact V.top (if_pos g15).symm JJ
  · refine V.iconst (1 : Int32) dM_wantPerson_10 lc1 rfl ?_
    refine V.goto 15 dM_wantPerson_11 rfl ?_
    exact V.top (if_neg g15).symm JJ
theorem kM_wantPerson {E : Ev} {σ z : St} (h : fM_wantPerson σ = some z) : Ct mM_wantPerson E [.ref 44] σ (none, z) := Ct.of (by decide) (Nat.le_of_ble_eq_true rfl) (wM_wantPerson σ h)
theorem dM_wantKnow_0 : decode mM_wantKnow.1 0 = .ok (.aload_n 0, 1) := by decide +kernel
theorem dM_wantKnow_1 : decode mM_wantKnow.1 1 = .ok (.invokevirtual 149, 3) := by decide +kernel
theorem dM_wantKnow_4 : decode mM_wantKnow.1 4 = .ok (.aload_n 0, 1) := by decide +kernel
theorem dM_wantKnow_5 : decode mM_wantKnow.1 5 = .ok (.iconst 0, 1) := by decide +kernel
theorem dM_wantKnow_6 : decode mM_wantKnow.1 6 = .ok (.aload_n 0, 1) := by decide +kernel
theorem dM_wantKnow_7 : decode mM_wantKnow.1 7 = .ok (.getfield 155, 3) := by decide +kernel
theorem dM_wantKnow_10 : decode mM_wantKnow.1 10 = .ok (.iconst 1, 1) := by decide +kernel
theorem dM_wantKnow_11 : decode mM_wantKnow.1 11 = .ok (.isub, 1) := by decide +kernel
theorem dM_wantKnow_12 : decode mM_wantKnow.1 12 = .ok (.invokevirtual 158, 3) := by decide +kernel
theorem dM_wantKnow_15 : decode mM_wantKnow.1 15 = .ok (.istore_n 1, 1) := by decide +kernel
theorem dM_wantKnow_16 : decode mM_wantKnow.1 16 = .ok (.aload_n 0, 1) := by decide +kernel
theorem dM_wantKnow_17 : decode mM_wantKnow.1 17 = .ok (.aload_n 0, 1) := by decide +kernel
theorem dM_wantKnow_18 : decode mM_wantKnow.1 18 = .ok (.getfield 145, 3) := by decide +kernel
theorem dM_wantKnow_21 : decode mM_wantKnow.1 21 = .ok (.ifCond .eq 23, 3) := by decide +kernel
theorem dM_wantKnow_24 : decode mM_wantKnow.1 24 = .ok (.aload_n 0, 1) := by decide +kernel
theorem dM_wantKnow_25 : decode mM_wantKnow.1 25 = .ok (.getfield 113, 3) := by decide +kernel
theorem dM_wantKnow_28 : decode mM_wantKnow.1 28 = .ok (.iconst 2, 1) := by decide +kernel
theorem dM_wantKnow_29 : decode mM_wantKnow.1 29 = .ok (.if_icmp .ne 11, 3) := by decide +kernel
theorem dM_wantKnow_32 : decode mM_wantKnow.1 32 = .ok (.aload_n 0, 1) := by decide +kernel
theorem dM_wantKnow_33 : decode mM_wantKnow.1 33 = .ok (.getfield 120, 3) := by decide +kernel
theorem dM_wantKnow_36 : decode mM_wantKnow.1 36 = .ok (.iload_n 1, 1) := by decide +kernel
theorem dM_wantKnow_37 : decode mM_wantKnow.1 37 = .ok (.if_icmp .eq 7, 3) := by decide +kernel
theorem dM_wantKnow_40 : decode mM_wantKnow.1 40 = .ok (.iconst 1, 1) := by decide +kernel
theorem dM_wantKnow_41 : decode mM_wantKnow.1 41 = .ok (.goto 4, 3) := by decide +kernel
theorem dM_wantKnow_44 : decode mM_wantKnow.1 44 = .ok (.iconst 0, 1) := by decide +kernel
theorem dM_wantKnow_45 : decode mM_wantKnow.1 45 = .ok (.putfield 145, 3) := by decide +kernel
theorem dM_wantKnow_48 : decode mM_wantKnow.1 48 = .ok (.aload_n 0, 1) := by decide +kernel
theorem dM_wantKnow_49 : decode mM_wantKnow.1 49 = .ok (.iconst 0, 1) := by decide +kernel
theorem dM_wantKnow_50 : decode mM_wantKnow.1 50 = .ok (.aload_n 0, 1) := by decide +kernel
theorem dM_wantKnow_51 : decode mM_wantKnow.1 51 = .ok (.getfield 155, 3) := by decide +kernel
theorem dM_wantKnow_54 : decode mM_wantKnow.1 54 = .ok (.iconst 1, 1) := by decide +kernel
theorem dM_wantKnow_55 : decode mM_wantKnow.1 55 = .ok (.isub, 1) := by decide +kernel
theorem dM_wantKnow_56 : decode mM_wantKnow.1 56 = .ok (.invokevirtual 158, 3) := by decide +kernel
theorem dM_wantKnow_59 : decode mM_wantKnow.1 59 = .ok (.istore_n 2, 1) := by decide +kernel
theorem dM_wantKnow_60 : decode mM_wantKnow.1 60 = .ok (.aload_n 0, 1) := by decide +kernel
theorem dM_wantKnow_61 : decode mM_wantKnow.1 61 = .ok (.invokevirtual 162, 3) := by decide +kernel
theorem dM_wantKnow_64 : decode mM_wantKnow.1 64 = .ok (.aload_n 0, 1) := by decide +kernel
theorem dM_wantKnow_65 : decode mM_wantKnow.1 65 = .ok (.getfield 145, 3) := by decide +kernel
theorem dM_wantKnow_68 : decode mM_wantKnow.1 68 = .ok (.ifCond .eq 27, 3) := by decide +kernel
theorem dM_wantKnow_71 : decode mM_wantKnow.1 71 = .ok (.aload_n 0, 1) := by decide +kernel
theorem dM_wantKnow_72 : decode mM_wantKnow.1 72 = .ok (.getfield 32, 3) := by decide +kernel
theorem dM_wantKnow_75 : decode mM_wantKnow.1 75 = .ok (.iload_n 1, 1) := by decide +kernel
theorem dM_wantKnow_76 : decode mM_wantKnow.1 76 = .ok (.dup2, 1) := by decide +kernel
theorem dM_wantKnow_77 : decode mM_wantKnow.1 77 = .ok (.iaload, 1) := by decide +kernel
theorem dM_wantKnow_78 : decode mM_wantKnow.1 78 = .ok (.iconst 1, 1) := by decide +kernel
theorem dM_wantKnow_79 : decode mM_wantKnow.1 79 = .ok (.iload_n 2, 1) := by decide +kernel
theorem dM_wantKnow_80 : decode mM_wantKnow.1 80 = .ok (.ishl, 1) := by decide +kernel
theorem dM_wantKnow_81 : decode mM_wantKnow.1 81 = .ok (.ior, 1) := by decide +kernel
theorem dM_wantKnow_82 : decode mM_wantKnow.1 82 = .ok (.iastore, 1) := by decide +kernel
theorem dM_wantKnow_83 : decode mM_wantKnow.1 83 = .ok (.aload_n 0, 1) := by decide +kernel
theorem dM_wantKnow_84 : decode mM_wantKnow.1 84 = .ok (.getfield 32, 3) := by decide +kernel
theorem dM_wantKnow_87 : decode mM_wantKnow.1 87 = .ok (.iload_n 2, 1) := by decide +kernel
theorem dM_wantKnow_88 : decode mM_wantKnow.1 88 = .ok (.dup2, 1) := by decide +kernel
theorem dM_wantKnow_89 : decode mM_wantKnow.1 89 = .ok (.iaload, 1) := by decide +kernel
theorem dM_wantKnow_90 : decode mM_wantKnow.1 90 = .ok (.iconst 1, 1) := by decide +kernel
theorem dM_wantKnow_91 : decode mM_wantKnow.1 91 = .ok (.iload_n 1, 1) := by decide +kernel
theorem dM_wantKnow_92 : decode mM_wantKnow.1 92 = .ok (.ishl, 1) := by decide +kernel
theorem dM_wantKnow_93 : decode mM_wantKnow.1 93 = .ok (.ior, 1) := by decide +kernel
theorem dM_wantKnow_94 : decode mM_wantKnow.1 94 = .ok (.iastore, 1) := by decide +kernel
theorem dM_wantKnow_95 : decode mM_wantKnow.1 95 = .ok (.return_, 1) := by decide +kernel
set_option maxRecDepth 4000 in
theorem wM_wantKnow {E : Ev} {z : St} (σ : St) (hX : fM_wantKnow σ = some z) : V E mM_wantKnow (FM E (none, z)) 0 [(0, .ref 44)] [] σ := by
  unfold fM_wantKnow at hX
  refine V.aloadn 0 dM_wantKnow_0 rfl rfl ?_
  obtain ⟨σ2, c1, hX⟩ := bd hX; try dsimp only at hX
  refine V.callv0 44 [] dM_wantKnow_1 (kM_advance c1) mlM_149 myM_advance mnM_advance ⟨rfl, rfl, by decide, by decide⟩ (rfl : kd 44 = (6, 0)) (by decide) rfl (Nat.le_of_ble_eq_true rfl) ⟨Nat.zero_le _, Nat.zero_le _⟩ rfl ?_
  refine V.aloadn 0 dM_wantKnow_4 rfl rfl ?_
  refine V.iconst (0 : Int32) dM_wantKnow_5 lc0 rfl ?_
  refine V.aloadn 0 dM_wantKnow_6 rfl rfl ?_
  refine V.geti 44 dM_wantKnow_7 flM_155 (rfl : kd 44 = (6, 0)) rfl ?_
  refine V.iconst (1 : Int32) dM_wantKnow_10 lc1 rfl ?_
  refine V.isub dM_wantKnow_11 rfl ?_
  obtain ⟨q4, σ4, c3, hX⟩ := bi2 hX; try dsimp only at hX
  refine V.callvi 44 [.int (0 : Int32), .int ((gI σ2 44 15) - (1 : Int32))] dM_wantKnow_12 (kM_wantNumber c3) mlM_158 myM_wantNumber mnM_wantNumber ⟨rfl, rfl, by decide, by decide⟩ (rfl : kd 44 = (6, 0)) (by decide) rfl (Nat.le_of_ble_eq_true rfl) ⟨Nat.zero_le _, Nat.zero_le _⟩ rfl ?_
  refine V.istoren _ dM_wantKnow_15 (by decide) rfl rfl ?_
  refine V.aloadn 1 dM_wantKnow_16 rfl rfl ?_
  refine V.aloadn 1 dM_wantKnow_17 rfl rfl ?_
  refine V.geti 44 dM_wantKnow_18 flM_145 (rfl : kd 44 = (6, 0)) rfl ?_
  have JJ : V E mM_wantKnow (FM E (none, z)) 45 [(1, .int q4), (0, .ref 44)] [.int (if (gI σ4 44 14) = 0 then (0 : Int32) else (if (gI σ4 44 9) = (2 : Int32) then (if (gI σ4 44 13) = q4 then (0 : Int32) else (1 : Int32)) else (1 : Int32))), .ref 44] σ4 := by
    refine V.puti 44 .boolean dM_wantKnow_45 flM_145 fw6_14 (rfl : kd 44 = (6, 0)) (nz (b01_i b01_0 (b01_i (b01_i b01_0 b01_1) b01_1))) rfl ?_
    replace hX := nmx hX; generalize sI σ4 44 14 (if (gI σ4 44 14) = 0 then (0 : Int32) else (if (gI σ4 44 9) = (2 : Int32) then (if (gI σ4 44 13) = q4 then (0 : Int32) else (1 : Int32)) else (1 : Int32))) = σ5 at hX ⊢; try dsimp only at hX
    refine V.aloadn 1 dM_wantKnow_48 rfl rfl ?_
    refine V.iconst (0 : Int32) dM_wantKnow_49 lc0 rfl ?_
    refine V.aloadn 1 dM_wantKnow_50 rfl rfl ?_
    refine V.geti 44 dM_wantKnow_51 flM_155 (rfl : kd 44 = (6, 0)) rfl ?_
    refine V.iconst (1 : Int32) dM_wantKnow_54 lc1 rfl ?_
    refine V.isub dM_wantKnow_55 rfl ?_
    obtain ⟨q7, σ7, c6, hX⟩ := bi2 hX; try dsimp only at hX
    refine V.callvi 44 [.int (0 : Int32), .int ((gI σ5 44 15) - (1 : Int32))] dM_wantKnow_56 (kM_wantNumber c6) mlM_158 myM_wantNumber mnM_wantNumber ⟨rfl, rfl, by decide, by decide⟩ (rfl : kd 44 = (6, 0)) (by decide) rfl (Nat.le_of_ble_eq_true rfl) ⟨Nat.zero_le _, Nat.zero_le _⟩ rfl ?_
    refine V.istoren _ dM_wantKnow_59 (by decide) rfl rfl ?_
    refine V.aloadn 2 dM_wantKnow_60 rfl rfl ?_
    obtain ⟨σ9, c8, hX⟩ := bd hX; try dsimp only at hX
    refine V.callv0 44 [] dM_wantKnow_61 (kM_wantEnd c8) mlM_162 myM_wantEnd mnM_wantEnd ⟨rfl, rfl, by decide, by decide⟩ (rfl : kd 44 = (6, 0)) (by decide) rfl (Nat.le_of_ble_eq_true rfl) ⟨Nat.zero_le _, Nat.zero_le _⟩ rfl ?_
    refine V.aloadn 2 dM_wantKnow_64 rfl rfl ?_
    refine V.geti 44 dM_wantKnow_65 flM_145 (rfl : kd 44 = (6, 0)) rfl ?_
    refine V.ifeq 95 dM_wantKnow_68 rfl rfl (fun g10 => ?_) (fun g10 => ?_)
    · replace hX := ip hX g10
      have hX := (Option.some.inj hX).symm; subst hX; exact V.vret dM_wantKnow_95 rfl rfl
    · replace hX := im hX g10
      refine V.aloadn 2 dM_wantKnow_71 rfl rfl ?_
      refine V.getr 44 51 dM_wantKnow_72 flM_32 (rfl : kd 44 = (6, 0)) rfl rfl ?_
      refine V.iloadn 1 dM_wantKnow_75 rfl rfl ?_
      refine V.dup2 dM_wantKnow_76 rfl rfl rfl ?_
      obtain ⟨h11, hX⟩ := ob hX
      refine V.iald 51 dM_wantKnow_77 (rfl : kd 51 = (7, 7)) h11 rfl ?_
      refine V.iconst (1 : Int32) dM_wantKnow_78 lc1 rfl ?_
      refine V.iloadn 0 dM_wantKnow_79 rfl rfl ?_
      refine V.ishl dM_wantKnow_80 rfl ?_
      refine V.ior dM_wantKnow_81 rfl ?_
      obtain ⟨h12, hX⟩ := ob hX
      refine V.iast 51 dM_wantKnow_82 (rfl : kd 51 = (7, 7)) h12 rfl ?_
      replace hX := nmx hX; generalize sI σ9 51 (ix q4) ((gI σ9 51 (ix q4)) ||| ((1 : Int32) <<< (q7 &&& 31))) = σ13 at hX ⊢; try dsimp only at hX
      refine V.aloadn 2 dM_wantKnow_83 rfl rfl ?_
      refine V.getr 44 51 dM_wantKnow_84 flM_32 (rfl : kd 44 = (6, 0)) rfl rfl ?_
      refine V.iloadn 0 dM_wantKnow_87 rfl rfl ?_
      refine V.dup2 dM_wantKnow_88 rfl rfl rfl ?_
      obtain ⟨h14, hX⟩ := ob hX
      refine V.iald 51 dM_wantKnow_89 (rfl : kd 51 = (7, 7)) h14 rfl ?_
      refine V.iconst (1 : Int32) dM_wantKnow_90 lc1 rfl ?_
      refine V.iloadn 1 dM_wantKnow_91 rfl rfl ?_
      refine V.ishl dM_wantKnow_92 rfl ?_
      refine V.ior dM_wantKnow_93 rfl ?_
      obtain ⟨h15, hX⟩ := ob hX
      refine V.iast 51 dM_wantKnow_94 (rfl : kd 51 = (7, 7)) h15 rfl ?_
      replace hX := nmx hX; generalize sI σ13 51 (ix q7) ((gI σ13 51 (ix q7)) ||| ((1 : Int32) <<< (q4 &&& 31))) = σ16 at hX ⊢; try dsimp only at hX
      have hX := (Option.some.inj hX).symm; subst hX; exact V.vret dM_wantKnow_95 rfl rfl
  refine V.ifeq 44 dM_wantKnow_21 rfl rfl (fun g17 => ?_) (fun g17 => ?_)
  · refine V.iconst (0 : Int32) dM_wantKnow_44 lc0 rfl ?_
    exact V.top (if_pos g17).symm JJ
  · refine V.aloadn 1 dM_wantKnow_24 rfl rfl ?_
    refine V.geti 44 dM_wantKnow_25 flM_113 (rfl : kd 44 = (6, 0)) rfl ?_
    refine V.iconst (2 : Int32) dM_wantKnow_28 lc2 rfl ?_
    refine V.icmpne 40 dM_wantKnow_29 rfl rfl (fun g18 => ?_) (fun g18 => ?_)
    · refine V.iconst (1 : Int32) dM_wantKnow_40 lc1 rfl ?_
      refine V.goto 45 dM_wantKnow_41 rfl ?_
      exact V.top ((if_neg g17).trans (if_neg g18)).symm JJ
    · refine V.aloadn 1 dM_wantKnow_32 rfl rfl ?_
      refine V.geti 44 dM_wantKnow_33 flM_120 (rfl : kd 44 = (6, 0)) rfl ?_
      refine V.iloadn 0 dM_wantKnow_36 rfl rfl ?_
      refine V.icmpeq 44 dM_wantKnow_37 rfl rfl (fun g19 => ?_) (fun g19 => ?_)
      · refine V.iconst (0 : Int32) dM_wantKnow_44 lc0 rfl ?_
        exact V.top (((if_neg g17).trans (if_pos g18)).trans (if_pos g19)).symm JJ
      · refine V.iconst (1 : Int32) dM_wantKnow_40 lc1 rfl ?_
        refine V.goto 45 dM_wantKnow_41 rfl ?_
        exact V.top (((if_neg g17).trans (if_pos g18)).trans (if_neg g19)).symm JJ
theorem kM_wantKnow {E : Ev} {σ z : St} (h : fM_wantKnow σ = some z) : Ct mM_wantKnow E [.ref 44] σ (none, z) := Ct.of (by decide) (Nat.le_of_ble_eq_true rfl) (wM_wantKnow σ h)
