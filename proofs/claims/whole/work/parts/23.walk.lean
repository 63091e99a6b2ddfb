theorem dW_survey_0 : decode mW_survey.1 0 = .ok (.aload_n 0, 1) := by decide +kernel
theorem dW_survey_1 : decode mW_survey.1 1 = .ok (.aload_n 1, 1) := by decide +kernel
theorem dW_survey_2 : decode mW_survey.1 2 = .ok (.getfield 22, 3) := by decide +kernel
theorem dW_survey_5 : decode mW_survey.1 5 = .ok (.putfield 18, 3) := by decide +kernel
theorem dW_survey_8 : decode mW_survey.1 8 = .ok (.iconst 0, 1) := by decide +kernel
theorem dW_survey_9 : decode mW_survey.1 9 = .ok (.istore 4, 2) := by decide +kernel
theorem dW_survey_11 : decode mW_survey.1 11 = .ok (.iload 4, 2) := by decide +kernel
theorem dW_survey_13 : decode mW_survey.1 13 = .ok (.aload_n 0, 1) := by decide +kernel
theorem dW_survey_14 : decode mW_survey.1 14 = .ok (.getfield 18, 3) := by decide +kernel
theorem dW_survey_17 : decode mW_survey.1 17 = .ok (.if_icmp .ge 23, 3) := by decide +kernel
theorem dW_survey_20 : decode mW_survey.1 20 = .ok (.aload_n 0, 1) := by decide +kernel
theorem dW_survey_21 : decode mW_survey.1 21 = .ok (.getfield 9, 3) := by decide +kernel
theorem dW_survey_24 : decode mW_survey.1 24 = .ok (.iload 4, 2) := by decide +kernel
theorem dW_survey_26 : decode mW_survey.1 26 = .ok (.aload_n 1, 1) := by decide +kernel
theorem dW_survey_27 : decode mW_survey.1 27 = .ok (.iload_n 2, 1) := by decide +kernel
theorem dW_survey_28 : decode mW_survey.1 28 = .ok (.iload 4, 2) := by decide +kernel
theorem dW_survey_30 : decode mW_survey.1 30 = .ok (.invokevirtual 25, 3) := by decide +kernel
theorem dW_survey_33 : decode mW_survey.1 33 = .ok (.iastore, 1) := by decide +kernel
theorem dW_survey_34 : decode mW_survey.1 34 = .ok (.iinc 4 1, 3) := by decide +kernel
theorem dW_survey_37 : decode mW_survey.1 37 = .ok (.goto (-26), 3) := by decide +kernel
theorem dW_survey_40 : decode mW_survey.1 40 = .ok (.aload_n 1, 1) := by decide +kernel
theorem dW_survey_41 : decode mW_survey.1 41 = .ok (.getfield 28, 3) := by decide +kernel
theorem dW_survey_44 : decode mW_survey.1 44 = .ok (.iload_n 2, 1) := by decide +kernel
theorem dW_survey_45 : decode mW_survey.1 45 = .ok (.iaload, 1) := by decide +kernel
theorem dW_survey_46 : decode mW_survey.1 46 = .ok (.istore 4, 2) := by decide +kernel
theorem dW_survey_48 : decode mW_survey.1 48 = .ok (.iconst 1, 1) := by decide +kernel
theorem dW_survey_49 : decode mW_survey.1 49 = .ok (.aload_n 0, 1) := by decide +kernel
theorem dW_survey_50 : decode mW_survey.1 50 = .ok (.getfield 18, 3) := by decide +kernel
theorem dW_survey_53 : decode mW_survey.1 53 = .ok (.ishl, 1) := by decide +kernel
theorem dW_survey_54 : decode mW_survey.1 54 = .ok (.iconst 1, 1) := by decide +kernel
theorem dW_survey_55 : decode mW_survey.1 55 = .ok (.isub, 1) := by decide +kernel
theorem dW_survey_56 : decode mW_survey.1 56 = .ok (.istore 5, 2) := by decide +kernel
theorem dW_survey_58 : decode mW_survey.1 58 = .ok (.iload 5, 2) := by decide +kernel
theorem dW_survey_60 : decode mW_survey.1 60 = .ok (.iload 4, 2) := by decide +kernel
theorem dW_survey_62 : decode mW_survey.1 62 = .ok (.if_icmp .lt 26, 3) := by decide +kernel
theorem dW_survey_65 : decode mW_survey.1 65 = .ok (.iload 5, 2) := by decide +kernel
theorem dW_survey_67 : decode mW_survey.1 67 = .ok (.iload 4, 2) := by decide +kernel
theorem dW_survey_69 : decode mW_survey.1 69 = .ok (.iand, 1) := by decide +kernel
theorem dW_survey_70 : decode mW_survey.1 70 = .ok (.iload 4, 2) := by decide +kernel
theorem dW_survey_72 : decode mW_survey.1 72 = .ok (.if_icmp .ne 10, 3) := by decide +kernel
theorem dW_survey_75 : decode mW_survey.1 75 = .ok (.aload_n 0, 1) := by decide +kernel
theorem dW_survey_76 : decode mW_survey.1 76 = .ok (.iload 5, 2) := by decide +kernel
theorem dW_survey_78 : decode mW_survey.1 78 = .ok (.iload_n 3, 1) := by decide +kernel
theorem dW_survey_79 : decode mW_survey.1 79 = .ok (.invokevirtual 31, 3) := by decide +kernel
theorem dW_survey_82 : decode mW_survey.1 82 = .ok (.iinc 5 (-1), 3) := by decide +kernel
theorem dW_survey_85 : decode mW_survey.1 85 = .ok (.goto (-27), 3) := by decide +kernel
theorem dW_survey_88 : decode mW_survey.1 88 = .ok (.return_, 1) := by decide +kernel
set_option maxRecDepth 4000 in
theorem wW_survey_58 {E : Ev} {z : St} : ∀ (fu : Nat) (σ : St) (i3 : Int32) (i4 : Int32) (i5 : Int32), fW_survey_58 fu σ i3 i4 i5 = some z → V E mW_survey (FM E (none, z)) 58 [(0, .ref 27), (3, .int i3), (4, .int i4), (5, .int i5)] [] σ := by
  intro fu
  induction fu with
  | zero => intro σ i3 i4 i5 hX; cases hX
  | succ fu ih =>
    intro σ i3 i4 i5 hX
    rw [fW_survey_58] at hX
    refine V.iload 3 dW_survey_58 rfl rfl ?_
    refine V.iload 2 dW_survey_60 rfl rfl ?_
    refine V.icmplt 88 dW_survey_62 rfl rfl (fun g6 => ?_) (fun g6 => ?_)
    · replace hX := ip hX g6
      have hX := (Option.some.inj hX).symm; subst hX; exact V.vret dW_survey_88 rfl rfl
    · replace hX := im hX g6
      refine V.iload 3 dW_survey_65 rfl rfl ?_
      refine V.iload 2 dW_survey_67 rfl rfl ?_
      refine V.iand dW_survey_69 rfl ?_
      refine V.iload 2 dW_survey_70 rfl rfl ?_
      refine V.icmpne 82 dW_survey_72 rfl rfl (fun g7 => ?_) (fun g7 => ?_)
      · replace hX := im hX g7
        refine V.iinc 3 (-1 : Int32) _ dW_survey_82 rfl lcm1 (by decide) rfl rfl ?_
        replace hX := nmx hX; generalize i5 + (-1 : Int32) = v8 at hX ⊢; try dsimp only at hX
        refine V.goto 58 dW_survey_85 rfl ?_
        refine V.sub [1, 2, 3, 0] rfl ?_
        exact ih σ i3 i4 v8 hX
      · replace hX := ip hX g7
        refine V.aloadn 0 dW_survey_75 rfl rfl ?_
        refine V.iload 3 dW_survey_76 rfl rfl ?_
        refine V.iloadn 1 dW_survey_78 rfl rfl ?_
        obtain ⟨σ10, c9, hX⟩ := bd hX; try dsimp only at hX
        refine V.callv0 27 [.int i5, .int i3] dW_survey_79 (kW_fill c9) mlW_31 myW_fill mnW_fill ⟨rfl, rfl, by decide, by decide⟩ (rfl : kd 27 = (4, 0)) (by decide) rfl (Nat.le_of_ble_eq_true rfl) ⟨Nat.zero_le _, Nat.zero_le _⟩ rfl ?_
        refine V.iinc 3 (-1 : Int32) _ dW_survey_82 rfl lcm1 (by decide) rfl rfl ?_
        replace hX := nmx hX; generalize i5 + (-1 : Int32) = v11 at hX ⊢; try dsimp only at hX
        refine V.goto 58 dW_survey_85 rfl ?_
        refine V.sub [1, 2, 3, 0] rfl ?_
        exact ih σ10 i3 i4 v11 hX
set_option maxRecDepth 4000 in
theorem wW_survey_40 {E : Ev} {z : St} (σ : St) (r1 : Nat) (i2 : Int32) (i3 : Int32) (ht_r1 : isTb r1 = true) (hX : fW_survey_40 σ r1 i2 i3 = some z) : V E mW_survey (FM E (none, z)) 40 [(0, .ref 27), (1, .ref r1), (2, .int i2), (3, .int i3)] [] σ := by
  unfold fW_survey_40 at hX
  refine V.aloadn 1 dW_survey_40 rfl rfl ?_
  refine V.getr r1 (r1 + 7) dW_survey_41 flW_28 (tk0 ht_r1) rfl rfl ?_
  refine V.iloadn 2 dW_survey_44 rfl rfl ?_
  obtain ⟨h3, hX⟩ := ob hX
  refine V.iald (r1 + 7) dW_survey_45 (tk7 ht_r1) h3 rfl ?_
  refine V.istore _ dW_survey_46 (by decide) rfl rfl ?_
  replace hX := nmx hX; generalize gI σ (r1 + 7) (ix i2) = v4 at hX ⊢; try dsimp only at hX
  refine V.iconst (1 : Int32) dW_survey_48 lc1 rfl ?_
  refine V.aloadn 1 dW_survey_49 rfl rfl ?_
  refine V.geti 27 dW_survey_50 flW_18 (rfl : kd 27 = (4, 0)) rfl ?_
  refine V.ishl dW_survey_53 rfl ?_
  refine V.iconst (1 : Int32) dW_survey_54 lc1 rfl ?_
  refine V.isub dW_survey_55 rfl ?_
  refine V.istore _ dW_survey_56 (by decide) rfl rfl ?_
  replace hX := nmx hX; generalize ((1 : Int32) <<< ((gI σ 27 2) &&& 31)) - (1 : Int32) = v5 at hX ⊢; try dsimp only at hX
  refine V.sub [2, 5, 1, 0] rfl ?_
  exact wW_survey_58 300 σ i3 v4 v5 hX
set_option maxRecDepth 4000 in
theorem wW_survey_11 {E : Ev} {z : St} : ∀ (fu : Nat) (σ : St) (r1 : Nat) (i2 : Int32) (i3 : Int32) (i4 : Int32) (ht_r1 : isTb r1 = true), fW_survey_11 fu σ r1 i2 i3 i4 = some z → V E mW_survey (FM E (none, z)) 11 [(0, .ref 27), (1, .ref r1), (2, .int i2), (3, .int i3), (4, .int i4)] [] σ := by
  intro fu
  induction fu with
  | zero => intro σ r1 i2 i3 i4 ht_r1 hX; cases hX
  | succ fu ih =>
    intro σ r1 i2 i3 i4 ht_r1 hX
    rw [fW_survey_11] at hX
    refine V.iload 4 dW_survey_11 rfl rfl ?_
    refine V.aloadn 0 dW_survey_13 rfl rfl ?_
    refine V.geti 27 dW_survey_14 flW_18 (rfl : kd 27 = (4, 0)) rfl ?_
    refine V.icmpge 40 dW_survey_17 rfl rfl (fun g2 => ?_) (fun g2 => ?_)
    · replace hX := ip hX g2
      refine V.sub [0, 1, 2, 3] rfl ?_
      exact wW_survey_40 σ r1 i2 i3 ht_r1 hX
    · replace hX := im hX g2
      refine V.aloadn 0 dW_survey_20 rfl rfl ?_
      refine V.getr 27 28 dW_survey_21 flW_9 (rfl : kd 27 = (4, 0)) rfl rfl ?_
      refine V.iload 4 dW_survey_24 rfl rfl ?_
      refine V.aloadn 1 dW_survey_26 rfl rfl ?_
      refine V.iloadn 2 dW_survey_27 rfl rfl ?_
      refine V.iload 4 dW_survey_28 rfl rfl ?_
      obtain ⟨q12, c13, hX⟩ := bd hX; try dsimp only at hX
      refine V.callvi r1 [.int i2, .int i4] dW_survey_30 (kT_reach ht_r1 c13) mlW_25 myT_reach mnT_reach ⟨rfl, rfl, by decide, by decide⟩ (tk0 ht_r1) (by decide) rfl (Nat.le_of_ble_eq_true rfl) ⟨Nat.zero_le _, Nat.zero_le _⟩ rfl ?_
      obtain ⟨h14, hX⟩ := ob hX
      refine V.iast 28 dW_survey_33 (rfl : kd 28 = (7, 7)) h14 rfl ?_
      replace hX := nmx hX; generalize sI σ 28 (ix i4) q12 = σ15 at hX ⊢; try dsimp only at hX
      refine V.iinc 4 (1 : Int32) _ dW_survey_34 rfl lc1 (by decide) rfl rfl ?_
      replace hX := nmx hX; generalize i4 + (1 : Int32) = v16 at hX ⊢; try dsimp only at hX
      refine V.goto 11 dW_survey_37 rfl ?_
      refine V.sub [1, 2, 3, 4, 0] rfl ?_
      exact ih σ15 r1 i2 i3 v16 ht_r1 hX
set_option maxRecDepth 4000 in
theorem wW_survey {E : Ev} {z : St} (σ : St) (r1 : Nat) (i2 : Int32) (i3 : Int32) (ht_r1 : isTb r1 = true) (hX : fW_survey σ r1 i2 i3 = some z) : V E mW_survey (FM E (none, z)) 0 [(0, .ref 27), (1, .ref r1), (2, .int i2), (3, .int i3)] [] σ := by
  unfold fW_survey at hX
  refine V.aloadn 0 dW_survey_0 rfl rfl ?_
  refine V.aloadn 1 dW_survey_1 rfl rfl ?_
  refine V.geti r1 dW_survey_2 flW_22 (tk0 ht_r1) rfl ?_
  refine V.puti 27 .int dW_survey_5 flW_18 fw4_2 (rfl : kd 27 = (4, 0)) ⟨rfl, rfl⟩ rfl ?_
  replace hX := nmx hX; generalize sI σ 27 2 (gI σ r1 0) = σ1 at hX ⊢; try dsimp only at hX
  refine V.iconst (0 : Int32) dW_survey_8 lc0 rfl ?_
  refine V.istore _ dW_survey_9 (by decide) rfl rfl ?_
  refine V.sub [1, 2, 3, 4, 0] rfl ?_
  exact wW_survey_11 300 σ1 r1 i2 i3 (0 : Int32) ht_r1 hX
theorem kW_survey {E : Ev} {σ z : St} {r1 : Nat} {i2 : Int32} {i3 : Int32} (ht_r1 : isTb r1 = true) (h : fW_survey σ r1 i2 i3 = some z) : Ct mW_survey E [.ref 27, .ref r1, .int i2, .int i3] σ (none, z) := Ct.of (by decide) (Nat.le_of_ble_eq_true rfl) (wW_survey σ r1 i2 i3 ht_r1 h)
theorem dE_look_0 : decode mE_look.1 0 = .ok (.aload_n 0, 1) := by decide +kernel
theorem dE_look_1 : decode mE_look.1 1 = .ok (.getfield 36, 3) := by decide +kernel
theorem dE_look_4 : decode mE_look.1 4 = .ok (.aload_n 0, 1) := by decide +kernel
theorem dE_look_5 : decode mE_look.1 5 = .ok (.getfield 10, 3) := by decide +kernel
theorem dE_look_8 : decode mE_look.1 8 = .ok (.iload_n 1, 1) := by decide +kernel
theorem dE_look_9 : decode mE_look.1 9 = .ok (.iload_n 2, 1) := by decide +kernel
theorem dE_look_10 : decode mE_look.1 10 = .ok (.invokevirtual 272, 3) := by decide +kernel
theorem dE_look_13 : decode mE_look.1 13 = .ok (.aload_n 0, 1) := by decide +kernel
theorem dE_look_14 : decode mE_look.1 14 = .ok (.getfield 36, 3) := by decide +kernel
theorem dE_look_17 : decode mE_look.1 17 = .ok (.aload_n 0, 1) := by decide +kernel
theorem dE_look_18 : decode mE_look.1 18 = .ok (.getfield 10, 3) := by decide +kernel
theorem dE_look_21 : decode mE_look.1 21 = .ok (.getfield 140, 3) := by decide +kernel
theorem dE_look_24 : decode mE_look.1 24 = .ok (.iload_n 1, 1) := by decide +kernel
theorem dE_look_25 : decode mE_look.1 25 = .ok (.iaload, 1) := by decide +kernel
theorem dE_look_26 : decode mE_look.1 26 = .ok (.aload_n 0, 1) := by decide +kernel
theorem dE_look_27 : decode mE_look.1 27 = .ok (.getfield 10, 3) := by decide +kernel
theorem dE_look_30 : decode mE_look.1 30 = .ok (.getfield 137, 3) := by decide +kernel
theorem dE_look_33 : decode mE_look.1 33 = .ok (.iload_n 1, 1) := by decide +kernel
theorem dE_look_34 : decode mE_look.1 34 = .ok (.iaload, 1) := by decide +kernel
theorem dE_look_35 : decode mE_look.1 35 = .ok (.invokevirtual 193, 3) := by decide +kernel
theorem dE_look_38 : decode mE_look.1 38 = .ok (.ireturn, 1) := by decide +kernel
set_option maxRecDepth 4000 in
theorem wE_look {E : Ev} {z : Int32 × St} (σ : St) (i1 : Int32) (i2 : Int32) (hX : fE_look σ i1 i2 = some z) : V E mE_look (FM E (some (.int z.1), z.2)) 0 [(0, .ref 0), (1, .int i1), (2, .int i2)] [] σ := by
  unfold fE_look at hX
  refine V.aloadn 0 dE_look_0 rfl rfl ?_
  refine V.getr 0 27 dE_look_1 flE_36 (rfl : kd 0 = (5, 0)) rfl rfl ?_
  refine V.aloadn 0 dE_look_4 rfl rfl ?_
  refine V.getd 0 dE_look_5 flE_10 (rfl : kd 0 = (5, 0)) rfl ?_
  refine V.iloadn 1 dE_look_8 rfl rfl ?_
  refine V.iloadn 2 dE_look_9 rfl rfl ?_
  obtain ⟨h1, hX⟩ := ob hX
  obtain ⟨σ3, c2, hX⟩ := bd hX; try dsimp only at hX
  refine V.callv0 27 [.ref (gR σ 0), .int i1, .int i2] dE_look_10 (kW_survey h1 c2) mlE_272 myW_survey mnW_survey ⟨rfl, rfl, by decide, by decide⟩ (rfl : kd 27 = (4, 0)) (by decide) rfl (Nat.le_of_ble_eq_true rfl) ⟨Nat.zero_le _, Nat.zero_le _⟩ rfl ?_
  refine V.aloadn 0 dE_look_13 rfl rfl ?_
  refine V.getr 0 27 dE_look_14 flE_36 (rfl : kd 0 = (5, 0)) rfl rfl ?_
  refine V.aloadn 0 dE_look_17 rfl rfl ?_
  refine V.getd 0 dE_look_18 flE_10 (rfl : kd 0 = (5, 0)) rfl ?_
  obtain ⟨h4, hX⟩ := ob hX
  refine V.getr (gR σ3 0) ((gR σ3 0) + 7) dE_look_21 flE_140 (tk0 h4) rfl rfl ?_
  refine V.iloadn 1 dE_look_24 rfl rfl ?_
  obtain ⟨h5, hX⟩ := ob hX
  refine V.iald ((gR σ3 0) + 7) dE_look_25 (tk7 h4) h5 rfl ?_
  refine V.aloadn 0 dE_look_26 rfl rfl ?_
  refine V.getd 0 dE_look_27 flE_10 (rfl : kd 0 = (5, 0)) rfl ?_
  obtain ⟨h6, hX⟩ := ob hX
  refine V.getr (gR σ3 0) ((gR σ3 0) + 6) dE_look_30 flE_137 (tk0 h6) rfl rfl ?_
  refine V.iloadn 1 dE_look_33 rfl rfl ?_
  obtain ⟨h7, hX⟩ := ob hX
  refine V.iald ((gR σ3 0) + 6) dE_look_34 (tk6 h6) h7 rfl ?_
  obtain ⟨q8, c9, hX⟩ := bd hX; try dsimp only at hX
  refine V.callvi 27 [.int (gI σ3 ((gR σ3 0) + 7) (ix i1)), .int (gI σ3 ((gR σ3 0) + 6) (ix i1))] dE_look_35 (kW_at c9) mlE_193 myW_at mnW_at ⟨rfl, rfl, by decide, by decide⟩ (rfl : kd 27 = (4, 0)) (by decide) rfl (Nat.le_of_ble_eq_true rfl) ⟨Nat.zero_le _, Nat.zero_le _⟩ rfl ?_
  have hX := (Option.some.inj hX).symm; subst hX; exact V.iret dE_look_38 rfl rfl
theorem kE_look {E : Ev} {σ σ2 : St} {i1 : Int32} {i2 : Int32} {z : Int32} (h : fE_look σ i1 i2 = some (z, σ2)) : Ct mE_look E [.ref 0, .int i1, .int i2] σ (some (.int z), σ2) := Ct.of (by decide) (Nat.le_of_ble_eq_true rfl) (wE_look σ i1 i2 h)
theorem dE_left_0 : decode mE_left.1 0 = .ok (.aload_n 0, 1) := by decide +kernel
theorem dE_left_1 : decode mE_left.1 1 = .ok (.getfield 10, 3) := by decide +kernel
theorem dE_left_4 : decode mE_left.1 4 = .ok (.iload_n 1, 1) := by decide +kernel
theorem dE_left_5 : decode mE_left.1 5 = .ok (.invokevirtual 125, 3) := by decide +kernel
theorem dE_left_8 : decode mE_left.1 8 = .ok (.ifCond .eq 12, 3) := by decide +kernel
theorem dE_left_11 : decode mE_left.1 11 = .ok (.aload_n 0, 1) := by decide +kernel
theorem dE_left_12 : decode mE_left.1 12 = .ok (.iload_n 1, 1) := by decide +kernel
theorem dE_left_13 : decode mE_left.1 13 = .ok (.iconst 0, 1) := by decide +kernel
theorem dE_left_14 : decode mE_left.1 14 = .ok (.invokevirtual 168, 3) := by decide +kernel
theorem dE_left_17 : decode mE_left.1 17 = .ok (.goto 4, 3) := by decide +kernel
theorem dE_left_20 : decode mE_left.1 20 = .ok (.iconst (-1), 1) := by decide +kernel
theorem dE_left_21 : decode mE_left.1 21 = .ok (.ireturn, 1) := by decide +kernel
set_option maxRecDepth 4000 in
theorem wE_left {E : Ev} {z : Int32 × St} (σ : St) (i1 : Int32) (hX : fE_left σ i1 = some z) : V E mE_left (FM E (some (.int z.1), z.2)) 0 [(0, .ref 0), (1, .int i1)] [] σ := by
  unfold fE_left at hX
  refine V.aloadn 0 dE_left_0 rfl rfl ?_
  refine V.getd 0 dE_left_1 flE_10 (rfl : kd 0 = (5, 0)) rfl ?_
  refine V.iloadn 1 dE_left_4 rfl rfl ?_
  obtain ⟨h1, hX⟩ := ob hX
  refine V.callvi (gR σ 0) [.int i1] dE_left_5 (kT_hasCoin (σ := σ) (gR σ 0) i1 h1) mlE_125 myT_hasCoin mnT_hasCoin ⟨rfl, rfl, by decide, by decide⟩ (tk0 h1) (by decide) rfl (Nat.le_of_ble_eq_true rfl) ⟨Nat.zero_le _, Nat.zero_le _⟩ rfl ?_
  refine V.ifeq 20 dE_left_8 rfl rfl (fun g2 => ?_) (fun g2 => ?_)
  · replace hX := ip hX g2
    refine V.iconst (-1 : Int32) dE_left_20 lcm1 rfl ?_
    have hX := (Option.some.inj hX).symm; subst hX; exact V.iret dE_left_21 rfl rfl
  · replace hX := im hX g2
    refine V.aloadn 0 dE_left_11 rfl rfl ?_
    refine V.iloadn 1 dE_left_12 rfl rfl ?_
    refine V.iconst (0 : Int32) dE_left_13 lc0 rfl ?_
    obtain ⟨q4, σ4, c3, hX⟩ := bi2 hX; try dsimp only at hX
    refine V.callvi 0 [.int i1, .int (0 : Int32)] dE_left_14 (kE_look c3) mlE_168 myE_look mnE_look ⟨rfl, rfl, by decide, by decide⟩ (rfl : kd 0 = (5, 0)) (by decide) rfl (Nat.le_of_ble_eq_true rfl) ⟨Nat.zero_le _, Nat.zero_le _⟩ rfl ?_
    refine V.goto 21 dE_left_17 rfl ?_
    have hX := (Option.some.inj hX).symm; subst hX; exact V.iret dE_left_21 rfl rfl
theorem kE_left {E : Ev} {σ σ2 : St} {i1 : Int32} {z : Int32} (h : fE_left σ i1 = some (z, σ2)) : Ct mE_left E [.ref 0, .int i1] σ (some (.int z), σ2) := Ct.of (by decide) (Nat.le_of_ble_eq_true rfl) (wE_left σ i1 h)
theorem dW_firstTaker_0 : decode mW_firstTaker.1 0 = .ok (.aload_n 0, 1) := by decide +kernel
theorem dW_firstTaker_1 : decode mW_firstTaker.1 1 = .ok (.iload_n 1, 1) := by decide +kernel
theorem dW_firstTaker_2 : decode mW_firstTaker.1 2 = .ok (.iload_n 2, 1) := by decide +kernel
theorem dW_firstTaker_3 : decode mW_firstTaker.1 3 = .ok (.invokevirtual 43, 3) := by decide +kernel
theorem dW_firstTaker_6 : decode mW_firstTaker.1 6 = .ok (.istore_n 3, 1) := by decide +kernel
theorem dW_firstTaker_7 : decode mW_firstTaker.1 7 = .ok (.aload_n 0, 1) := by decide +kernel
theorem dW_firstTaker_8 : decode mW_firstTaker.1 8 = .ok (.iload_n 1, 1) := by decide +kernel
theorem dW_firstTaker_9 : decode mW_firstTaker.1 9 = .ok (.iload_n 2, 1) := by decide +kernel
theorem dW_firstTaker_10 : decode mW_firstTaker.1 10 = .ok (.invokevirtual 46, 3) := by decide +kernel
theorem dW_firstTaker_13 : decode mW_firstTaker.1 13 = .ok (.iconst 1, 1) := by decide +kernel
theorem dW_firstTaker_14 : decode mW_firstTaker.1 14 = .ok (.isub, 1) := by decide +kernel
theorem dW_firstTaker_15 : decode mW_firstTaker.1 15 = .ok (.istore 4, 2) := by decide +kernel
theorem dW_firstTaker_17 : decode mW_firstTaker.1 17 = .ok (.iconst 0, 1) := by decide +kernel
theorem dW_firstTaker_18 : decode mW_firstTaker.1 18 = .ok (.istore 5, 2) := by decide +kernel
theorem dW_firstTaker_20 : decode mW_firstTaker.1 20 = .ok (.iload 5, 2) := by decide +kernel
theorem dW_firstTaker_22 : decode mW_firstTaker.1 22 = .ok (.aload_n 0, 1) := by decide +kernel
theorem dW_firstTaker_23 : decode mW_firstTaker.1 23 = .ok (.getfield 18, 3) := by decide +kernel
theorem dW_firstTaker_26 : decode mW_firstTaker.1 26 = .ok (.if_icmp .ge 38, 3) := by decide +kernel
theorem dW_firstTaker_29 : decode mW_firstTaker.1 29 = .ok (.iload_n 3, 1) := by decide +kernel
theorem dW_firstTaker_30 : decode mW_firstTaker.1 30 = .ok (.iload 5, 2) := by decide +kernel
theorem dW_firstTaker_32 : decode mW_firstTaker.1 32 = .ok (.invokestatic 35, 3) := by decide +kernel
theorem dW_firstTaker_35 : decode mW_firstTaker.1 35 = .ok (.ifCond .eq 23, 3) := by decide +kernel
theorem dW_firstTaker_38 : decode mW_firstTaker.1 38 = .ok (.aload_n 0, 1) := by decide +kernel
theorem dW_firstTaker_39 : decode mW_firstTaker.1 39 = .ok (.iload_n 1, 1) := by decide +kernel
theorem dW_firstTaker_40 : decode mW_firstTaker.1 40 = .ok (.iconst 1, 1) := by decide +kernel
theorem dW_firstTaker_41 : decode mW_firstTaker.1 41 = .ok (.iload 5, 2) := by decide +kernel
theorem dW_firstTaker_43 : decode mW_firstTaker.1 43 = .ok (.ishl, 1) := by decide +kernel
theorem dW_firstTaker_44 : decode mW_firstTaker.1 44 = .ok (.ior, 1) := by decide +kernel
theorem dW_firstTaker_45 : decode mW_firstTaker.1 45 = .ok (.iload 5, 2) := by decide +kernel
theorem dW_firstTaker_47 : decode mW_firstTaker.1 47 = .ok (.invokevirtual 46, 3) := by decide +kernel
theorem dW_firstTaker_50 : decode mW_firstTaker.1 50 = .ok (.iload 4, 2) := by decide +kernel
theorem dW_firstTaker_52 : decode mW_firstTaker.1 52 = .ok (.if_icmp .ne 6, 3) := by decide +kernel
theorem dW_firstTaker_55 : decode mW_firstTaker.1 55 = .ok (.iload 5, 2) := by decide +kernel
theorem dW_firstTaker_57 : decode mW_firstTaker.1 57 = .ok (.ireturn, 1) := by decide +kernel
theorem dW_firstTaker_58 : decode mW_firstTaker.1 58 = .ok (.iinc 5 1, 3) := by decide +kernel
theorem dW_firstTaker_61 : decode mW_firstTaker.1 61 = .ok (.goto (-41), 3) := by decide +kernel
theorem dW_firstTaker_64 : decode mW_firstTaker.1 64 = .ok (.bipush (-3), 2) := by decide +kernel
theorem dW_firstTaker_66 : decode mW_firstTaker.1 66 = .ok (.ireturn, 1) := by decide +kernel
set_option maxRecDepth 4000 in
theorem wW_firstTaker_20 {E : Ev} {z : Int32} : ∀ (fu : Nat) (σ : St) (i1 : Int32) (i3 : Int32) (i4 : Int32) (i5 : Int32), fW_firstTaker_20 fu σ i1 i3 i4 i5 = some z → V E mW_firstTaker (FM E (some (.int z), σ)) 20 [(0, .ref 27), (1, .int i1), (3, .int i3), (4, .int i4), (5, .int i5)] [] σ := by
  intro fu
  induction fu with
  | zero => intro σ i1 i3 i4 i5 hX; cases hX
  | succ fu ih =>
    intro σ i1 i3 i4 i5 hX
    rw [fW_firstTaker_20] at hX
    refine V.iload 4 dW_firstTaker_20 rfl rfl ?_
    refine V.aloadn 0 dW_firstTaker_22 rfl rfl ?_
    refine V.geti 27 dW_firstTaker_23 flW_18 (rfl : kd 27 = (4, 0)) rfl ?_
    refine V.icmpge 64 dW_firstTaker_26 rfl rfl (fun g6 => ?_) (fun g6 => ?_)
    · replace hX := ip hX g6
      refine V.bipush (-3 : Int32) dW_firstTaker_64 lbm3 rfl ?_
      have hX := (Option.some.inj hX).symm; subst hX; exact V.iret dW_firstTaker_66 rfl rfl
    · replace hX := im hX g6
      refine V.iloadn 2 dW_firstTaker_29 rfl rfl ?_
      refine V.iload 4 dW_firstTaker_30 rfl rfl ?_
      refine V.callNi [.int i3, .int i5] dW_firstTaker_32 (kE_holds (σ := σ) i3 i5) (fun U h => h.2.2.2.2.2.2.2.2.2.1) myE_holds mnE_holds ⟨rfl, rfl, by decide, by decide⟩ rfl (Nat.le_of_ble_eq_true rfl) ⟨Nat.zero_le _, Nat.zero_le _⟩ rfl ?_
      refine V.ifeq 58 dW_firstTaker_35 rfl rfl (fun g7 => ?_) (fun g7 => ?_)
      · replace hX := ip hX g7
        refine V.iinc 4 (1 : Int32) _ dW_firstTaker_58 rfl lc1 (by decide) rfl rfl ?_
        replace hX := nmx hX; generalize i5 + (1 : Int32) = v8 at hX ⊢; try dsimp only at hX
        refine V.goto 20 dW_firstTaker_61 rfl ?_
        refine V.sub [1, 2, 3, 4, 0] rfl ?_
        exact ih σ i1 i3 i4 v8 hX
      · replace hX := im hX g7
        refine V.aloadn 0 dW_firstTaker_38 rfl rfl ?_
        refine V.iloadn 1 dW_firstTaker_39 rfl rfl ?_
        refine V.iconst (1 : Int32) dW_firstTaker_40 lc1 rfl ?_
        refine V.iload 4 dW_firstTaker_41 rfl rfl ?_
        refine V.ishl dW_firstTaker_43 rfl ?_
        refine V.ior dW_firstTaker_44 rfl ?_
        refine V.iload 4 dW_firstTaker_45 rfl rfl ?_
        obtain ⟨q9, c10, hX⟩ := bd hX; try dsimp only at hX
        refine V.callvi 27 [.int (i1 ||| ((1 : Int32) <<< (i5 &&& 31))), .int i5] dW_firstTaker_47 (kW_at c10) mlW_46 myW_at mnW_at ⟨rfl, rfl, by decide, by decide⟩ (rfl : kd 27 = (4, 0)) (by decide) rfl (Nat.le_of_ble_eq_true rfl) ⟨Nat.zero_le _, Nat.zero_le _⟩ rfl ?_
        refine V.iload 3 dW_firstTaker_50 rfl rfl ?_
        refine V.icmpne 58 dW_firstTaker_52 rfl rfl (fun g11 => ?_) (fun g11 => ?_)
        · replace hX := im hX g11
          refine V.iinc 4 (1 : Int32) _ dW_firstTaker_58 rfl lc1 (by decide) rfl rfl ?_
          replace hX := nmx hX; generalize i5 + (1 : Int32) = v12 at hX ⊢; try dsimp only at hX
          refine V.goto 20 dW_firstTaker_61 rfl ?_
          refine V.sub [1, 2, 3, 4, 0] rfl ?_
          exact ih σ i1 i3 i4 v12 hX
        · replace hX := ip hX g11
          refine V.iload 4 dW_firstTaker_55 rfl rfl ?_
          have hX := (Option.some.inj hX).symm; subst hX; exact V.iret dW_firstTaker_57 rfl rfl
set_option maxRecDepth 4000 in
theorem wW_firstTaker {E : Ev} {z : Int32} (σ : St) (i1 : Int32) (i2 : Int32) (hX : fW_firstTaker σ i1 i2 = some z) : V E mW_firstTaker (FM E (some (.int z), σ)) 0 [(0, .ref 27), (1, .int i1), (2, .int i2)] [] σ := by
  unfold fW_firstTaker at hX
  refine V.aloadn 0 dW_firstTaker_0 rfl rfl ?_
  refine V.iloadn 1 dW_firstTaker_1 rfl rfl ?_
  refine V.iloadn 2 dW_firstTaker_2 rfl rfl ?_
  obtain ⟨q1, c2, hX⟩ := bd hX; try dsimp only at hX
  refine V.callvi 27 [.int i1, .int i2] dW_firstTaker_3 (kW_takers c2) mlW_43 myW_takers mnW_takers ⟨rfl, rfl, by decide, by decide⟩ (rfl : kd 27 = (4, 0)) (by decide) rfl (Nat.le_of_ble_eq_true rfl) ⟨Nat.zero_le _, Nat.zero_le _⟩ rfl ?_
  refine V.istoren _ dW_firstTaker_6 (by decide) rfl rfl ?_
  refine V.aloadn 1 dW_firstTaker_7 rfl rfl ?_
  refine V.iloadn 2 dW_firstTaker_8 rfl rfl ?_
  refine V.iloadn 3 dW_firstTaker_9 rfl rfl ?_
  obtain ⟨q3, c4, hX⟩ := bd hX; try dsimp only at hX
  refine V.callvi 27 [.int i1, .int i2] dW_firstTaker_10 (kW_at c4) mlW_46 myW_at mnW_at ⟨rfl, rfl, by decide, by decide⟩ (rfl : kd 27 = (4, 0)) (by decide) rfl (Nat.le_of_ble_eq_true rfl) ⟨Nat.zero_le _, Nat.zero_le _⟩ rfl ?_
  refine V.iconst (1 : Int32) dW_firstTaker_13 lc1 rfl ?_
  refine V.isub dW_firstTaker_14 rfl ?_
  refine V.istore _ dW_firstTaker_15 (by decide) rfl rfl ?_
  replace hX := nmx hX; generalize q3 - (1 : Int32) = v5 at hX ⊢; try dsimp only at hX
  refine V.iconst (0 : Int32) dW_firstTaker_17 lc0 rfl ?_
  refine V.istore _ dW_firstTaker_18 (by decide) rfl rfl ?_
  refine V.sub [3, 4, 2, 1, 0] rfl ?_
  exact wW_firstTaker_20 300 σ i1 q1 v5 (0 : Int32) hX
theorem kW_firstTaker {E : Ev} {σ : St} {i1 : Int32} {i2 : Int32} {z : Int32} (h : fW_firstTaker σ i1 i2 = some z) : Ct mW_firstTaker E [.ref 27, .int i1, .int i2] σ (some (.int z), σ) := Ct.of (by decide) (Nat.le_of_ble_eq_true rfl) (wW_firstTaker σ i1 i2 h)
theorem dE_row_0 : decode mE_row.1 0 = .ok (.aload_n 0, 1) := by decide +kernel
theorem dE_row_1 : decode mE_row.1 1 = .ok (.getfield 10, 3) := by decide +kernel
theorem dE_row_4 : decode mE_row.1 4 = .ok (.iload_n 1, 1) := by decide +kernel
theorem dE_row_5 : decode mE_row.1 5 = .ok (.invokevirtual 125, 3) := by decide +kernel
theorem dE_row_8 : decode mE_row.1 8 = .ok (.ifCond .eq 7, 3) := by decide +kernel
theorem dE_row_11 : decode mE_row.1 11 = .ok (.iload_n 2, 1) := by decide +kernel
theorem dE_row_12 : decode mE_row.1 12 = .ok (.ifCond .ge 5, 3) := by decide +kernel
theorem dE_row_15 : decode mE_row.1 15 = .ok (.iconst (-1), 1) := by decide +kernel
theorem dE_row_16 : decode mE_row.1 16 = .ok (.ireturn, 1) := by decide +kernel
theorem dE_row_17 : decode mE_row.1 17 = .ok (.iload_n 2, 1) := by decide +kernel
theorem dE_row_18 : decode mE_row.1 18 = .ok (.aload_n 0, 1) := by decide +kernel
theorem dE_row_19 : decode mE_row.1 19 = .ok (.iload_n 1, 1) := by decide +kernel
theorem dE_row_20 : decode mE_row.1 20 = .ok (.iconst 0, 1) := by decide +kernel
theorem dE_row_21 : decode mE_row.1 21 = .ok (.invokevirtual 168, 3) := by decide +kernel
theorem dE_row_24 : decode mE_row.1 24 = .ok (.if_icmp .lt 6, 3) := by decide +kernel
theorem dE_row_27 : decode mE_row.1 27 = .ok (.bipush (-3), 2) := by decide +kernel
theorem dE_row_29 : decode mE_row.1 29 = .ok (.ireturn, 1) := by decide +kernel
theorem dE_row_30 : decode mE_row.1 30 = .ok (.aload_n 0, 1) := by decide +kernel
theorem dE_row_31 : decode mE_row.1 31 = .ok (.getfield 10, 3) := by decide +kernel
theorem dE_row_34 : decode mE_row.1 34 = .ok (.getfield 140, 3) := by decide +kernel
theorem dE_row_37 : decode mE_row.1 37 = .ok (.iload_n 1, 1) := by decide +kernel
theorem dE_row_38 : decode mE_row.1 38 = .ok (.iaload, 1) := by decide +kernel
theorem dE_row_39 : decode mE_row.1 39 = .ok (.istore_n 3, 1) := by decide +kernel
theorem dE_row_40 : decode mE_row.1 40 = .ok (.aload_n 0, 1) := by decide +kernel
theorem dE_row_41 : decode mE_row.1 41 = .ok (.getfield 10, 3) := by decide +kernel
theorem dE_row_44 : decode mE_row.1 44 = .ok (.getfield 137, 3) := by decide +kernel
theorem dE_row_47 : decode mE_row.1 47 = .ok (.iload_n 1, 1) := by decide +kernel
theorem dE_row_48 : decode mE_row.1 48 = .ok (.iaload, 1) := by decide +kernel
theorem dE_row_49 : decode mE_row.1 49 = .ok (.istore 4, 2) := by decide +kernel
theorem dE_row_51 : decode mE_row.1 51 = .ok (.iconst 0, 1) := by decide +kernel
theorem dE_row_52 : decode mE_row.1 52 = .ok (.istore 5, 2) := by decide +kernel
theorem dE_row_54 : decode mE_row.1 54 = .ok (.iload 5, 2) := by decide +kernel
theorem dE_row_56 : decode mE_row.1 56 = .ok (.iload_n 2, 1) := by decide +kernel
theorem dE_row_57 : decode mE_row.1 57 = .ok (.if_icmp .gt 36, 3) := by decide +kernel
theorem dE_row_60 : decode mE_row.1 60 = .ok (.aload_n 0, 1) := by decide +kernel
theorem dE_row_61 : decode mE_row.1 61 = .ok (.getfield 36, 3) := by decide +kernel
theorem dE_row_64 : decode mE_row.1 64 = .ok (.iload_n 3, 1) := by decide +kernel
theorem dE_row_65 : decode mE_row.1 65 = .ok (.iload 4, 2) := by decide +kernel
theorem dE_row_67 : decode mE_row.1 67 = .ok (.invokevirtual 172, 3) := by decide +kernel
theorem dE_row_70 : decode mE_row.1 70 = .ok (.istore 4, 2) := by decide +kernel
theorem dE_row_72 : decode mE_row.1 72 = .ok (.iload 4, 2) := by decide +kernel
theorem dE_row_74 : decode mE_row.1 74 = .ok (.ifCond .ge 6, 3) := by decide +kernel
theorem dE_row_77 : decode mE_row.1 77 = .ok (.bipush (-3), 2) := by decide +kernel
theorem dE_row_79 : decode mE_row.1 79 = .ok (.ireturn, 1) := by decide +kernel
theorem dE_row_80 : decode mE_row.1 80 = .ok (.iload_n 3, 1) := by decide +kernel
theorem dE_row_81 : decode mE_row.1 81 = .ok (.iconst 1, 1) := by decide +kernel
theorem dE_row_82 : decode mE_row.1 82 = .ok (.iload 4, 2) := by decide +kernel
theorem dE_row_84 : decode mE_row.1 84 = .ok (.ishl, 1) := by decide +kernel
theorem dE_row_85 : decode mE_row.1 85 = .ok (.ior, 1) := by decide +kernel
theorem dE_row_86 : decode mE_row.1 86 = .ok (.istore_n 3, 1) := by decide +kernel
theorem dE_row_87 : decode mE_row.1 87 = .ok (.iinc 5 1, 3) := by decide +kernel
theorem dE_row_90 : decode mE_row.1 90 = .ok (.goto (-36), 3) := by decide +kernel
theorem dE_row_93 : decode mE_row.1 93 = .ok (.iload 4, 2) := by decide +kernel
theorem dE_row_95 : decode mE_row.1 95 = .ok (.ireturn, 1) := by decide +kernel
set_option maxRecDepth 4000 in
theorem wE_row_54 {E : Ev} {z : Int32 × St} : ∀ (fu : Nat) (σ : St) (i2 : Int32) (i3 : Int32) (i4 : Int32) (i5 : Int32), fE_row_54 fu σ i2 i3 i4 i5 = some z → V E mE_row (FM E (some (.int z.1), z.2)) 54 [(0, .ref 0), (2, .int i2), (3, .int i3), (4, .int i4), (5, .int i5)] [] σ := by
  intro fu
  induction fu with
  | zero => intro σ i2 i3 i4 i5 hX; cases hX
  | succ fu ih =>
    intro σ i2 i3 i4 i5 hX
    rw [fE_row_54] at hX
    refine V.iload 4 dE_row_54 rfl rfl ?_
    refine V.iloadn 1 dE_row_56 rfl rfl ?_
    refine V.icmpgt 93 dE_row_57 rfl rfl (fun g13 => ?_) (fun g13 => ?_)
    · replace hX := ip hX g13
      refine V.iload 3 dE_row_93 rfl rfl ?_
      have hX := (Option.some.inj hX).symm; subst hX; exact V.iret dE_row_95 rfl rfl
    · replace hX := im hX g13
      refine V.aloadn 0 dE_row_60 rfl rfl ?_
      refine V.getr 0 27 dE_row_61 flE_36 (rfl : kd 0 = (5, 0)) rfl rfl ?_
      refine V.iloadn 2 dE_row_64 rfl rfl ?_
      refine V.iload 3 dE_row_65 rfl rfl ?_
      obtain ⟨q14, c15, hX⟩ := bd hX; try dsimp only at hX
      refine V.callvi 27 [.int i3, .int i4] dE_row_67 (kW_firstTaker c15) mlE_172 myW_firstTaker mnW_firstTaker ⟨rfl, rfl, by decide, by decide⟩ (rfl : kd 27 = (4, 0)) (by decide) rfl (Nat.le_of_ble_eq_true rfl) ⟨Nat.zero_le _, Nat.zero_le _⟩ rfl ?_
      refine V.istore _ dE_row_70 (by decide) rfl rfl ?_
      refine V.iload 0 dE_row_72 rfl rfl ?_
      refine V.ifge 80 dE_row_74 rfl rfl (fun g16 => ?_) (fun g16 => ?_)
      · replace hX := ip hX g16
        refine V.iloadn 3 dE_row_80 rfl rfl ?_
        refine V.iconst (1 : Int32) dE_row_81 lc1 rfl ?_
        refine V.iload 0 dE_row_82 rfl rfl ?_
        refine V.ishl dE_row_84 rfl ?_
        refine V.ior dE_row_85 rfl ?_
        refine V.istoren _ dE_row_86 (by decide) rfl rfl ?_
        replace hX := nmx hX; generalize i3 ||| ((1 : Int32) <<< (q14 &&& 31)) = v17 at hX ⊢; try dsimp only at hX
        refine V.iinc 4 (1 : Int32) _ dE_row_87 rfl lc1 (by decide) rfl rfl ?_
        replace hX := nmx hX; generalize i5 + (1 : Int32) = v18 at hX ⊢; try dsimp only at hX
        refine V.goto 54 dE_row_90 rfl ?_
        refine V.sub [3, 4, 1, 2, 0] rfl ?_
        exact ih σ i2 v17 q14 v18 hX
      · replace hX := im hX g16
        refine V.bipush (-3 : Int32) dE_row_77 lbm3 rfl ?_
        have hX := (Option.some.inj hX).symm; subst hX; exact V.iret dE_row_79 rfl rfl
set_option maxRecDepth 4000 in
theorem wE_row {E : Ev} {z : Int32 × St} (σ : St) (i1 : Int32) (i2 : Int32) (hX : fE_row σ i1 i2 = some z) : V E mE_row (FM E (some (.int z.1), z.2)) 0 [(0, .ref 0), (1, .int i1), (2, .int i2)] [] σ := by
  unfold fE_row at hX
  refine V.aloadn 0 dE_row_0 rfl rfl ?_
  refine V.getd 0 dE_row_1 flE_10 (rfl : kd 0 = (5, 0)) rfl ?_
  refine V.iloadn 1 dE_row_4 rfl rfl ?_
  obtain ⟨h1, hX⟩ := ob hX
  refine V.callvi (gR σ 0) [.int i1] dE_row_5 (kT_hasCoin (σ := σ) (gR σ 0) i1 h1) mlE_125 myT_hasCoin mnT_hasCoin ⟨rfl, rfl, by decide, by decide⟩ (tk0 h1) (by decide) rfl (Nat.le_of_ble_eq_true rfl) ⟨Nat.zero_le _, Nat.zero_le _⟩ rfl ?_
  refine V.ifeq 15 dE_row_8 rfl rfl (fun g2 => ?_) (fun g2 => ?_)
  · replace hX := ip hX g2
    refine V.iconst (-1 : Int32) dE_row_15 lcm1 rfl ?_
    have hX := (Option.some.inj hX).symm; subst hX; exact V.iret dE_row_16 rfl rfl
  · replace hX := im hX g2
    refine V.iloadn 2 dE_row_11 rfl rfl ?_
    refine V.ifge 17 dE_row_12 rfl rfl (fun g3 => ?_) (fun g3 => ?_)
    · replace hX := ip hX g3
      refine V.iloadn 2 dE_row_17 rfl rfl ?_
      refine V.aloadn 0 dE_row_18 rfl rfl ?_
      refine V.iloadn 1 dE_row_19 rfl rfl ?_
      refine V.iconst (0 : Int32) dE_row_20 lc0 rfl ?_
      obtain ⟨q5, σ5, c4, hX⟩ := bi2 hX; try dsimp only at hX
      refine V.callvi 0 [.int i1, .int (0 : Int32)] dE_row_21 (kE_look c4) mlE_168 myE_look mnE_look ⟨rfl, rfl, by decide, by decide⟩ (rfl : kd 0 = (5, 0)) (by decide) rfl (Nat.le_of_ble_eq_true rfl) ⟨Nat.zero_le _, Nat.zero_le _⟩ rfl ?_
      refine V.icmplt 30 dE_row_24 rfl rfl (fun g6 => ?_) (fun g6 => ?_)
      · replace hX := ip hX g6
        refine V.aloadn 0 dE_row_30 rfl rfl ?_
        refine V.getd 0 dE_row_31 flE_10 (rfl : kd 0 = (5, 0)) rfl ?_
        obtain ⟨h7, hX⟩ := ob hX
        refine V.getr (gR σ5 0) ((gR σ5 0) + 7) dE_row_34 flE_140 (tk0 h7) rfl rfl ?_
        refine V.iloadn 1 dE_row_37 rfl rfl ?_
        obtain ⟨h8, hX⟩ := ob hX
        refine V.iald ((gR σ5 0) + 7) dE_row_38 (tk7 h7) h8 rfl ?_
        refine V.istoren _ dE_row_39 (by decide) rfl rfl ?_
        replace hX := nmx hX; generalize gI σ5 ((gR σ5 0) + 7) (ix i1) = v9 at hX ⊢; try dsimp only at hX
        refine V.aloadn 1 dE_row_40 rfl rfl ?_
        refine V.getd 0 dE_row_41 flE_10 (rfl : kd 0 = (5, 0)) rfl ?_
        obtain ⟨h10, hX⟩ := ob hX
        refine V.getr (gR σ5 0) ((gR σ5 0) + 6) dE_row_44 flE_137 (tk0 h10) rfl rfl ?_
        refine V.iloadn 2 dE_row_47 rfl rfl ?_
        obtain ⟨h11, hX⟩ := ob hX
        refine V.iald ((gR σ5 0) + 6) dE_row_48 (tk6 h10) h11 rfl ?_
        refine V.istore _ dE_row_49 (by decide) rfl rfl ?_
        replace hX := nmx hX; generalize gI σ5 ((gR σ5 0) + 6) (ix i1) = v12 at hX ⊢; try dsimp only at hX
        refine V.iconst (0 : Int32) dE_row_51 lc0 rfl ?_
        refine V.istore _ dE_row_52 (by decide) rfl rfl ?_
        refine V.sub [3, 5, 2, 1, 0] rfl ?_
        exact wE_row_54 300 σ5 i2 v9 v12 (0 : Int32) hX
      · replace hX := im hX g6
        refine V.bipush (-3 : Int32) dE_row_27 lbm3 rfl ?_
        have hX := (Option.some.inj hX).symm; subst hX; exact V.iret dE_row_29 rfl rfl
    · replace hX := im hX g3
      refine V.iconst (-1 : Int32) dE_row_15 lcm1 rfl ?_
      have hX := (Option.some.inj hX).symm; subst hX; exact V.iret dE_row_16 rfl rfl
theorem kE_row {E : Ev} {σ σ2 : St} {i1 : Int32} {i2 : Int32} {z : Int32} (h : fE_row σ i1 i2 = some (z, σ2)) : Ct mE_row E [.ref 0, .int i1, .int i2] σ (some (.int z), σ2) := Ct.of (by decide) (Nat.le_of_ble_eq_true rfl) (wE_row σ i1 i2 h)
theorem dE_through_0 : decode mE_through.1 0 = .ok (.aload_n 0, 1) := by decide +kernel
theorem dE_through_1 : decode mE_through.1 1 = .ok (.getfield 10, 3) := by decide +kernel
theorem dE_through_4 : decode mE_through.1 4 = .ok (.iload_n 1, 1) := by decide +kernel
theorem dE_through_5 : decode mE_through.1 5 = .ok (.invokevirtual 125, 3) := by decide +kernel
theorem dE_through_8 : decode mE_through.1 8 = .ok (.ifCond .ne 5, 3) := by decide +kernel
theorem dE_through_11 : decode mE_through.1 11 = .ok (.iconst (-1), 1) := by decide +kernel
theorem dE_through_12 : decode mE_through.1 12 = .ok (.ireturn, 1) := by decide +kernel
theorem dE_through_13 : decode mE_through.1 13 = .ok (.aload_n 0, 1) := by decide +kernel
theorem dE_through_14 : decode mE_through.1 14 = .ok (.iload_n 1, 1) := by decide +kernel
theorem dE_through_15 : decode mE_through.1 15 = .ok (.iconst 1, 1) := by decide +kernel
theorem dE_through_16 : decode mE_through.1 16 = .ok (.invokevirtual 168, 3) := by decide +kernel
theorem dE_through_19 : decode mE_through.1 19 = .ok (.ifCond .le 7, 3) := by decide +kernel
theorem dE_through_22 : decode mE_through.1 22 = .ok (.iconst 1, 1) := by decide +kernel
theorem dE_through_23 : decode mE_through.1 23 = .ok (.goto 4, 3) := by decide +kernel
theorem dE_through_26 : decode mE_through.1 26 = .ok (.iconst 0, 1) := by decide +kernel
theorem dE_through_27 : decode mE_through.1 27 = .ok (.ireturn, 1) := by decide +kernel
set_option maxRecDepth 4000 in
theorem wE_through {E : Ev} {z : Int32 × St} (σ : St) (i1 : Int32) (hX : fE_through σ i1 = some z) : V E mE_through (FM E (some (.int z.1), z.2)) 0 [(0, .ref 0), (1, .int i1)] [] σ := by
  unfold fE_through at hX
  refine V.aloadn 0 dE_through_0 rfl rfl ?_
  refine V.getd 0 dE_through_1 flE_10 (rfl : kd 0 = (5, 0)) rfl ?_
  refine V.iloadn 1 dE_through_4 rfl rfl ?_
  obtain ⟨h1, hX⟩ := ob hX
  refine V.callvi (gR σ 0) [.int i1] dE_through_5 (kT_hasCoin (σ := σ) (gR σ 0) i1 h1) mlE_125 myT_hasCoin mnT_hasCoin ⟨rfl, rfl, by decide, by decide⟩ (tk0 h1) (by decide) rfl (Nat.le_of_ble_eq_true rfl) ⟨Nat.zero_le _, Nat.zero_le _⟩ rfl ?_
  refine V.ifne 13 dE_through_8 rfl rfl (fun g2 => ?_) (fun g2 => ?_)
  · replace hX := im hX g2
    refine V.aloadn 0 dE_through_13 rfl rfl ?_
    refine V.iloadn 1 dE_through_14 rfl rfl ?_
    refine V.iconst (1 : Int32) dE_through_15 lc1 rfl ?_
    obtain ⟨q4, σ4, c3, hX⟩ := bi2 hX; try dsimp only at hX
    refine V.callvi 0 [.int i1, .int (1 : Int32)] dE_through_16 (kE_look c3) mlE_168 myE_look mnE_look ⟨rfl, rfl, by decide, by decide⟩ (rfl : kd 0 = (5, 0)) (by decide) rfl (Nat.le_of_ble_eq_true rfl) ⟨Nat.zero_le _, Nat.zero_le _⟩ rfl ?_
    have JJ : V E mE_through (FM E (some (.int z.1), z.2)) 27 [(0, .ref 0), (1, .int i1)] [.int (if q4 ≤ 0 then (0 : Int32) else (1 : Int32))] σ4 := by
      have hX := (Option.some.inj hX).symm; subst hX; exact V.iret dE_through_27 rfl rfl
    refine V.ifle 26 dE_through_19 rfl rfl (fun g5 => ?_) (fun g5 => ?_)
    · refine V.iconst (0 : Int32) dE_through_26 lc0 rfl ?_
      exact V.top (if_pos g5).symm JJ
    · refine V.iconst (1 : Int32) dE_through_22 lc1 rfl ?_
      refine V.goto 27 dE_through_23 rfl ?_
      exact V.top (if_neg g5).symm JJ
  · replace hX := ip hX g2
    refine V.iconst (-1 : Int32) dE_through_11 lcm1 rfl ?_
    have hX := (Option.some.inj hX).symm; subst hX; exact V.iret dE_through_12 rfl rfl
theorem kE_through {E : Ev} {σ σ2 : St} {i1 : Int32} {z : Int32} (h : fE_through σ i1 = some (z, σ2)) : Ct mE_through E [.ref 0, .int i1] σ (some (.int z), σ2) := Ct.of (by decide) (Nat.le_of_ble_eq_true rfl) (wE_through σ i1 h)
theorem dE_ways_0 : decode mE_ways.1 0 = .ok (.aload_n 0, 1) := by decide +kernel
theorem dE_ways_1 : decode mE_ways.1 1 = .ok (.getfield 10, 3) := by decide +kernel
theorem dE_ways_4 : decode mE_ways.1 4 = .ok (.iload_n 1, 1) := by decide +kernel
theorem dE_ways_5 : decode mE_ways.1 5 = .ok (.invokevirtual 125, 3) := by decide +kernel
theorem dE_ways_8 : decode mE_ways.1 8 = .ok (.ifCond .eq 12, 3) := by decide +kernel
theorem dE_ways_11 : decode mE_ways.1 11 = .ok (.aload_n 0, 1) := by decide +kernel
theorem dE_ways_12 : decode mE_ways.1 12 = .ok (.iload_n 1, 1) := by decide +kernel
theorem dE_ways_13 : decode mE_ways.1 13 = .ok (.iconst 1, 1) := by decide +kernel
theorem dE_ways_14 : decode mE_ways.1 14 = .ok (.invokevirtual 168, 3) := by decide +kernel
theorem dE_ways_17 : decode mE_ways.1 17 = .ok (.goto 4, 3) := by decide +kernel
theorem dE_ways_20 : decode mE_ways.1 20 = .ok (.iconst (-1), 1) := by decide +kernel
theorem dE_ways_21 : decode mE_ways.1 21 = .ok (.ireturn, 1) := by decide +kernel
set_option maxRecDepth 4000 in
theorem wE_ways {E : Ev} {z : Int32 × St} (σ : St) (i1 : Int32) (hX : fE_ways σ i1 = some z) : V E mE_ways (FM E (some (.int z.1), z.2)) 0 [(0, .ref 0), (1, .int i1)] [] σ := by
  unfold fE_ways at hX
  refine V.aloadn 0 dE_ways_0 rfl rfl ?_
  refine V.getd 0 dE_ways_1 flE_10 (rfl : kd 0 = (5, 0)) rfl ?_
  refine V.iloadn 1 dE_ways_4 rfl rfl ?_
  obtain ⟨h1, hX⟩ := ob hX
  refine V.callvi (gR σ 0) [.int i1] dE_ways_5 (kT_hasCoin (σ := σ) (gR σ 0) i1 h1) mlE_125 myT_hasCoin mnT_hasCoin ⟨rfl, rfl, by decide, by decide⟩ (tk0 h1) (by decide) rfl (Nat.le_of_ble_eq_true rfl) ⟨Nat.zero_le _, Nat.zero_le _⟩ rfl ?_
  refine V.ifeq 20 dE_ways_8 rfl rfl (fun g2 => ?_) (fun g2 => ?_)
  · replace hX := ip hX g2
    refine V.iconst (-1 : Int32) dE_ways_20 lcm1 rfl ?_
    have hX := (Option.some.inj hX).symm; subst hX; exact V.iret dE_ways_21 rfl rfl
  · replace hX := im hX g2
    refine V.aloadn 0 dE_ways_11 rfl rfl ?_
    refine V.iloadn 1 dE_ways_12 rfl rfl ?_
    refine V.iconst (1 : Int32) dE_ways_13 lc1 rfl ?_
    obtain ⟨q4, σ4, c3, hX⟩ := bi2 hX; try dsimp only at hX
    refine V.callvi 0 [.int i1, .int (1 : Int32)] dE_ways_14 (kE_look c3) mlE_168 myE_look mnE_look ⟨rfl, rfl, by decide, by decide⟩ (rfl : kd 0 = (5, 0)) (by decide) rfl (Nat.le_of_ble_eq_true rfl) ⟨Nat.zero_le _, Nat.zero_le _⟩ rfl ?_
    refine V.goto 21 dE_ways_17 rfl ?_
    have hX := (Option.some.inj hX).symm; subst hX; exact V.iret dE_ways_21 rfl rfl
theorem kE_ways {E : Ev} {σ σ2 : St} {i1 : Int32} {z : Int32} (h : fE_ways σ i1 = some (z, σ2)) : Ct mE_ways E [.ref 0, .int i1] σ (some (.int z), σ2) := Ct.of (by decide) (Nat.le_of_ble_eq_true rfl) (wE_ways σ i1 h)
theorem dE_last_0 : decode mE_last.1 0 = .ok (.aload_n 0, 1) := by decide +kernel
theorem dE_last_1 : decode mE_last.1 1 = .ok (.getfield 10, 3) := by decide +kernel
theorem dE_last_4 : decode mE_last.1 4 = .ok (.iload_n 1, 1) := by decide +kernel
theorem dE_last_5 : decode mE_last.1 5 = .ok (.invokevirtual 125, 3) := by decide +kernel
theorem dE_last_8 : decode mE_last.1 8 = .ok (.ifCond .eq 12, 3) := by decide +kernel
theorem dE_last_11 : decode mE_last.1 11 = .ok (.aload_n 0, 1) := by decide +kernel
theorem dE_last_12 : decode mE_last.1 12 = .ok (.iload_n 1, 1) := by decide +kernel
theorem dE_last_13 : decode mE_last.1 13 = .ok (.iconst 2, 1) := by decide +kernel
theorem dE_last_14 : decode mE_last.1 14 = .ok (.invokevirtual 168, 3) := by decide +kernel
theorem dE_last_17 : decode mE_last.1 17 = .ok (.goto 4, 3) := by decide +kernel
theorem dE_last_20 : decode mE_last.1 20 = .ok (.iconst (-1), 1) := by decide +kernel
theorem dE_last_21 : decode mE_last.1 21 = .ok (.ireturn, 1) := by decide +kernel
set_option maxRecDepth 4000 in
theorem wE_last {E : Ev} {z : Int32 × St} (σ : St) (i1 : Int32) (hX : fE_last σ i1 = some z) : V E mE_last (FM E (some (.int z.1), z.2)) 0 [(0, .ref 0), (1, .int i1)] [] σ := by
  unfold fE_last at hX
  refine V.aloadn 0 dE_last_0 rfl rfl ?_
  refine V.getd 0 dE_last_1 flE_10 (rfl : kd 0 = (5, 0)) rfl ?_
  refine V.iloadn 1 dE_last_4 rfl rfl ?_
  obtain ⟨h1, hX⟩ := ob hX
  refine V.callvi (gR σ 0) [.int i1] dE_last_5 (kT_hasCoin (σ := σ) (gR σ 0) i1 h1) mlE_125 myT_hasCoin mnT_hasCoin ⟨rfl, rfl, by decide, by decide⟩ (tk0 h1) (by decide) rfl (Nat.le_of_ble_eq_true rfl) ⟨Nat.zero_le _, Nat.zero_le _⟩ rfl ?_
  refine V.ifeq 20 dE_last_8 rfl rfl (fun g2 => ?_) (fun g2 => ?_)
  · replace hX := ip hX g2
    refine V.iconst (-1 : Int32) dE_last_20 lcm1 rfl ?_
    have hX := (Option.some.inj hX).symm; subst hX; exact V.iret dE_last_21 rfl rfl
  · replace hX := im hX g2
    refine V.aloadn 0 dE_last_11 rfl rfl ?_
    refine V.iloadn 1 dE_last_12 rfl rfl ?_
    refine V.iconst (2 : Int32) dE_last_13 lc2 rfl ?_
    obtain ⟨q4, σ4, c3, hX⟩ := bi2 hX; try dsimp only at hX
    refine V.callvi 0 [.int i1, .int (2 : Int32)] dE_last_14 (kE_look c3) mlE_168 myE_look mnE_look ⟨rfl, rfl, by decide, by decide⟩ (rfl : kd 0 = (5, 0)) (by decide) rfl (Nat.le_of_ble_eq_true rfl) ⟨Nat.zero_le _, Nat.zero_le _⟩ rfl ?_
    refine V.goto 21 dE_last_17 rfl ?_
    have hX := (Option.some.inj hX).symm; subst hX; exact V.iret dE_last_21 rfl rfl
theorem kE_last {E : Ev} {σ σ2 : St} {i1 : Int32} {z : Int32} (h : fE_last σ i1 = some (z, σ2)) : Ct mE_last E [.ref 0, .int i1] σ (some (.int z), σ2) := Ct.of (by decide) (Nat.le_of_ble_eq_true rfl) (wE_last σ i1 h)
theorem dE_stuck_0 : decode mE_stuck.1 0 = .ok (.iconst 0, 1) := by decide +kernel
theorem dE_stuck_1 : decode mE_stuck.1 1 = .ok (.istore_n 1, 1) := by decide +kernel
theorem dE_stuck_2 : decode mE_stuck.1 2 = .ok (.iconst 0, 1) := by decide +kernel
theorem dE_stuck_3 : decode mE_stuck.1 3 = .ok (.istore_n 2, 1) := by decide +kernel
theorem dE_stuck_4 : decode mE_stuck.1 4 = .ok (.iload_n 2, 1) := by decide +kernel
theorem dE_stuck_5 : decode mE_stuck.1 5 = .ok (.aload_n 0, 1) := by decide +kernel
theorem dE_stuck_6 : decode mE_stuck.1 6 = .ok (.getfield 10, 3) := by decide +kernel
theorem dE_stuck_9 : decode mE_stuck.1 9 = .ok (.getfield 118, 3) := by decide +kernel
theorem dE_stuck_12 : decode mE_stuck.1 12 = .ok (.if_icmp .ge 26, 3) := by decide +kernel
theorem dE_stuck_15 : decode mE_stuck.1 15 = .ok (.aload_n 0, 1) := by decide +kernel
theorem dE_stuck_16 : decode mE_stuck.1 16 = .ok (.getfield 10, 3) := by decide +kernel
theorem dE_stuck_19 : decode mE_stuck.1 19 = .ok (.iload_n 2, 1) := by decide +kernel
theorem dE_stuck_20 : decode mE_stuck.1 20 = .ok (.invokevirtual 143, 3) := by decide +kernel
theorem dE_stuck_23 : decode mE_stuck.1 23 = .ok (.ifCond .ne 9, 3) := by decide +kernel
theorem dE_stuck_26 : decode mE_stuck.1 26 = .ok (.iload_n 1, 1) := by decide +kernel
theorem dE_stuck_27 : decode mE_stuck.1 27 = .ok (.iconst 1, 1) := by decide +kernel
theorem dE_stuck_28 : decode mE_stuck.1 28 = .ok (.iload_n 2, 1) := by decide +kernel
theorem dE_stuck_29 : decode mE_stuck.1 29 = .ok (.ishl, 1) := by decide +kernel
theorem dE_stuck_30 : decode mE_stuck.1 30 = .ok (.ior, 1) := by decide +kernel
theorem dE_stuck_31 : decode mE_stuck.1 31 = .ok (.istore_n 1, 1) := by decide +kernel
theorem dE_stuck_32 : decode mE_stuck.1 32 = .ok (.iinc 2 1, 3) := by decide +kernel
theorem dE_stuck_35 : decode mE_stuck.1 35 = .ok (.goto (-31), 3) := by decide +kernel
theorem dE_stuck_38 : decode mE_stuck.1 38 = .ok (.iload_n 1, 1) := by decide +kernel
theorem dE_stuck_39 : decode mE_stuck.1 39 = .ok (.ireturn, 1) := by decide +kernel
set_option maxRecDepth 4000 in
theorem wE_stuck_4 {E : Ev} {z : Int32} : ∀ (fu : Nat) (σ : St) (i1 : Int32) (i2 : Int32), fE_stuck_4 fu σ i1 i2 = some z → V E mE_stuck (FM E (some (.int z), σ)) 4 [(0, .ref 0), (1, .int i1), (2, .int i2)] [] σ := by
  intro fu
  induction fu with
  | zero => intro σ i1 i2 hX; cases hX
  | succ fu ih =>
    intro σ i1 i2 hX
    rw [fE_stuck_4] at hX
    refine V.iloadn 2 dE_stuck_4 rfl rfl ?_
    refine V.aloadn 0 dE_stuck_5 rfl rfl ?_
    refine V.getd 0 dE_stuck_6 flE_10 (rfl : kd 0 = (5, 0)) rfl ?_
    obtain ⟨h1, hX⟩ := ob hX
    refine V.geti (gR σ 0) dE_stuck_9 flE_118 (tk0 h1) rfl ?_
    refine V.icmpge 38 dE_stuck_12 rfl rfl (fun g2 => ?_) (fun g2 => ?_)
    · replace hX := ip hX g2
      refine V.iloadn 1 dE_stuck_38 rfl rfl ?_
      have hX := (Option.some.inj hX).symm; subst hX; exact V.iret dE_stuck_39 rfl rfl
    · replace hX := im hX g2
      refine V.aloadn 0 dE_stuck_15 rfl rfl ?_
      refine V.getd 0 dE_stuck_16 flE_10 (rfl : kd 0 = (5, 0)) rfl ?_
      refine V.iloadn 2 dE_stuck_19 rfl rfl ?_
      obtain ⟨h3, hX⟩ := ob hX
      obtain ⟨q4, c5, hX⟩ := bd hX; try dsimp only at hX
      refine V.callvi (gR σ 0) [.int i2] dE_stuck_20 (kT_takers h3 c5) mlE_143 myT_takers mnT_takers ⟨rfl, rfl, by decide, by decide⟩ (tk0 h3) (by decide) rfl (Nat.le_of_ble_eq_true rfl) ⟨Nat.zero_le _, Nat.zero_le _⟩ rfl ?_
      refine V.ifne 32 dE_stuck_23 rfl rfl (fun g6 => ?_) (fun g6 => ?_)
      · replace hX := im hX g6
        refine V.iinc 2 (1 : Int32) _ dE_stuck_32 rfl lc1 (by decide) rfl rfl ?_
        replace hX := nmx hX; generalize i2 + (1 : Int32) = v7 at hX ⊢; try dsimp only at hX
        refine V.goto 4 dE_stuck_35 rfl ?_
        refine V.sub [1, 2, 0] rfl ?_
        exact ih σ i1 v7 hX
      · replace hX := ip hX g6
        refine V.iloadn 1 dE_stuck_26 rfl rfl ?_
        refine V.iconst (1 : Int32) dE_stuck_27 lc1 rfl ?_
        refine V.iloadn 2 dE_stuck_28 rfl rfl ?_
        refine V.ishl dE_stuck_29 rfl ?_
        refine V.ior dE_stuck_30 rfl ?_
        refine V.istoren _ dE_stuck_31 (by decide) rfl rfl ?_
        replace hX := nmx hX; generalize i1 ||| ((1 : Int32) <<< (i2 &&& 31)) = v8 at hX ⊢; try dsimp only at hX
        refine V.iinc 2 (1 : Int32) _ dE_stuck_32 rfl lc1 (by decide) rfl rfl ?_
        replace hX := nmx hX; generalize i2 + (1 : Int32) = v9 at hX ⊢; try dsimp only at hX
        refine V.goto 4 dE_stuck_35 rfl ?_
        refine V.sub [2, 1, 0] rfl ?_
        exact ih σ v8 v9 hX
set_option maxRecDepth 4000 in
theorem wE_stuck {E : Ev} {z : Int32} (σ : St) (hX : fE_stuck σ = some z) : V E mE_stuck (FM E (some (.int z), σ)) 0 [(0, .ref 0)] [] σ := by
  unfold fE_stuck at hX
  refine V.iconst (0 : Int32) dE_stuck_0 lc0 rfl ?_
  refine V.istoren _ dE_stuck_1 (by decide) rfl rfl ?_
  refine V.iconst (0 : Int32) dE_stuck_2 lc0 rfl ?_
  refine V.istoren _ dE_stuck_3 (by decide) rfl rfl ?_
  refine V.sub [2, 1, 0] rfl ?_
  exact wE_stuck_4 300 σ (0 : Int32) (0 : Int32) hX
theorem kE_stuck {E : Ev} {σ : St} {z : Int32} (h : fE_stuck σ = some z) : Ct mE_stuck E [.ref 0] σ (some (.int z), σ) := Ct.of (by decide) (Nat.le_of_ble_eq_true rfl) (wE_stuck σ h)
theorem dE_best_0 : decode mE_best.1 0 = .ok (.aload_n 0, 1) := by decide +kernel
theorem dE_best_1 : decode mE_best.1 1 = .ok (.getfield 10, 3) := by decide +kernel
theorem dE_best_4 : decode mE_best.1 4 = .ok (.iload_n 1, 1) := by decide +kernel
theorem dE_best_5 : decode mE_best.1 5 = .ok (.invokevirtual 86, 3) := by decide +kernel
theorem dE_best_8 : decode mE_best.1 8 = .ok (.ifCond .eq 12, 3) := by decide +kernel
theorem dE_best_11 : decode mE_best.1 11 = .ok (.iload_n 2, 1) := by decide +kernel
theorem dE_best_12 : decode mE_best.1 12 = .ok (.ifCond .lt 8, 3) := by decide +kernel
theorem dE_best_15 : decode mE_best.1 15 = .ok (.iload_n 2, 1) := by decide +kernel
theorem dE_best_16 : decode mE_best.1 16 = .ok (.iconst 2, 1) := by decide +kernel
theorem dE_best_17 : decode mE_best.1 17 = .ok (.if_icmp .le 5, 3) := by decide +kernel
theorem dE_best_20 : decode mE_best.1 20 = .ok (.iconst (-1), 1) := by decide +kernel
theorem dE_best_21 : decode mE_best.1 21 = .ok (.ireturn, 1) := by decide +kernel
theorem dE_best_22 : decode mE_best.1 22 = .ok (.bipush (-3), 2) := by decide +kernel
theorem dE_best_24 : decode mE_best.1 24 = .ok (.istore_n 3, 1) := by decide +kernel
theorem dE_best_25 : decode mE_best.1 25 = .ok (.bipush (-3), 2) := by decide +kernel
theorem dE_best_27 : decode mE_best.1 27 = .ok (.istore 4, 2) := by decide +kernel
theorem dE_best_29 : decode mE_best.1 29 = .ok (.bipush (-3), 2) := by decide +kernel
theorem dE_best_31 : decode mE_best.1 31 = .ok (.istore 5, 2) := by decide +kernel
theorem dE_best_33 : decode mE_best.1 33 = .ok (.iconst 0, 1) := by decide +kernel
theorem dE_best_34 : decode mE_best.1 34 = .ok (.istore 6, 2) := by decide +kernel
theorem dE_best_36 : decode mE_best.1 36 = .ok (.iload 6, 2) := by decide +kernel
theorem dE_best_38 : decode mE_best.1 38 = .ok (.aload_n 0, 1) := by decide +kernel
theorem dE_best_39 : decode mE_best.1 39 = .ok (.getfield 10, 3) := by decide +kernel
theorem dE_best_42 : decode mE_best.1 42 = .ok (.getfield 118, 3) := by decide +kernel
theorem dE_best_45 : decode mE_best.1 45 = .ok (.if_icmp .ge 78, 3) := by decide +kernel
theorem dE_best_48 : decode mE_best.1 48 = .ok (.aload_n 0, 1) := by decide +kernel
theorem dE_best_49 : decode mE_best.1 49 = .ok (.getfield 10, 3) := by decide +kernel
theorem dE_best_52 : decode mE_best.1 52 = .ok (.getfield 137, 3) := by decide +kernel
theorem dE_best_55 : decode mE_best.1 55 = .ok (.iload 6, 2) := by decide +kernel
theorem dE_best_57 : decode mE_best.1 57 = .ok (.iaload, 1) := by decide +kernel
theorem dE_best_58 : decode mE_best.1 58 = .ok (.iload_n 1, 1) := by decide +kernel
theorem dE_best_59 : decode mE_best.1 59 = .ok (.if_icmp .ne 15, 3) := by decide +kernel
theorem dE_best_62 : decode mE_best.1 62 = .ok (.aload_n 0, 1) := by decide +kernel
theorem dE_best_63 : decode mE_best.1 63 = .ok (.iload 6, 2) := by decide +kernel
theorem dE_best_65 : decode mE_best.1 65 = .ok (.iconst 0, 1) := by decide +kernel
theorem dE_best_66 : decode mE_best.1 66 = .ok (.invokevirtual 168, 3) := by decide +kernel
theorem dE_best_69 : decode mE_best.1 69 = .ok (.iconst 1, 1) := by decide +kernel
theorem dE_best_70 : decode mE_best.1 70 = .ok (.isub, 1) := by decide +kernel
theorem dE_best_71 : decode mE_best.1 71 = .ok (.goto 5, 3) := by decide +kernel
theorem dE_best_74 : decode mE_best.1 74 = .ok (.bipush (-3), 2) := by decide +kernel
theorem dE_best_76 : decode mE_best.1 76 = .ok (.istore 7, 2) := by decide +kernel
theorem dE_best_78 : decode mE_best.1 78 = .ok (.iload 7, 2) := by decide +kernel
theorem dE_best_80 : decode mE_best.1 80 = .ok (.ifCond .lt 37, 3) := by decide +kernel
theorem dE_best_83 : decode mE_best.1 83 = .ok (.iload 7, 2) := by decide +kernel
theorem dE_best_85 : decode mE_best.1 85 = .ok (.iload 5, 2) := by decide +kernel
theorem dE_best_87 : decode mE_best.1 87 = .ok (.if_icmp .le 30, 3) := by decide +kernel
theorem dE_best_90 : decode mE_best.1 90 = .ok (.iload 6, 2) := by decide +kernel
theorem dE_best_92 : decode mE_best.1 92 = .ok (.istore_n 3, 1) := by decide +kernel
theorem dE_best_93 : decode mE_best.1 93 = .ok (.aload_n 0, 1) := by decide +kernel
theorem dE_best_94 : decode mE_best.1 94 = .ok (.getfield 36, 3) := by decide +kernel
theorem dE_best_97 : decode mE_best.1 97 = .ok (.aload_n 0, 1) := by decide +kernel
theorem dE_best_98 : decode mE_best.1 98 = .ok (.getfield 10, 3) := by decide +kernel
theorem dE_best_101 : decode mE_best.1 101 = .ok (.getfield 140, 3) := by decide +kernel
theorem dE_best_104 : decode mE_best.1 104 = .ok (.iload 6, 2) := by decide +kernel
theorem dE_best_106 : decode mE_best.1 106 = .ok (.iaload, 1) := by decide +kernel
theorem dE_best_107 : decode mE_best.1 107 = .ok (.iload_n 1, 1) := by decide +kernel
theorem dE_best_108 : decode mE_best.1 108 = .ok (.invokevirtual 172, 3) := by decide +kernel
theorem dE_best_111 : decode mE_best.1 111 = .ok (.istore 4, 2) := by decide +kernel
theorem dE_best_113 : decode mE_best.1 113 = .ok (.iload 7, 2) := by decide +kernel
theorem dE_best_115 : decode mE_best.1 115 = .ok (.istore 5, 2) := by decide +kernel
theorem dE_best_117 : decode mE_best.1 117 = .ok (.iinc 6 1, 3) := by decide +kernel
theorem dE_best_120 : decode mE_best.1 120 = .ok (.goto (-84), 3) := by decide +kernel
theorem dE_best_123 : decode mE_best.1 123 = .ok (.iload_n 2, 1) := by decide +kernel
theorem dE_best_124 : decode mE_best.1 124 = .ok (.ifCond .ne 7, 3) := by decide +kernel
theorem dE_best_127 : decode mE_best.1 127 = .ok (.iload_n 3, 1) := by decide +kernel
theorem dE_best_128 : decode mE_best.1 128 = .ok (.goto 15, 3) := by decide +kernel
theorem dE_best_131 : decode mE_best.1 131 = .ok (.iload_n 2, 1) := by decide +kernel
theorem dE_best_132 : decode mE_best.1 132 = .ok (.iconst 1, 1) := by decide +kernel
theorem dE_best_133 : decode mE_best.1 133 = .ok (.if_icmp .ne 8, 3) := by decide +kernel
theorem dE_best_136 : decode mE_best.1 136 = .ok (.iload 4, 2) := by decide +kernel
theorem dE_best_138 : decode mE_best.1 138 = .ok (.goto 5, 3) := by decide +kernel
theorem dE_best_141 : decode mE_best.1 141 = .ok (.iload 5, 2) := by decide +kernel
theorem dE_best_143 : decode mE_best.1 143 = .ok (.ireturn, 1) := by decide +kernel
set_option maxRecDepth 4000 in
theorem wE_best_123 {E : Ev} {z : Int32 × St} (σ : St) (i2 : Int32) (i3 : Int32) (i4 : Int32) (i5 : Int32) (hX : fE_best_123 σ i2 i3 i4 i5 = some z) : V E mE_best (FM E (some (.int z.1), z.2)) 123 [(2, .int i2), (3, .int i3), (4, .int i4), (5, .int i5)] [] σ := by
  unfold fE_best_123 at hX
  refine V.iloadn 0 dE_best_123 rfl rfl ?_
  have JJ : V E mE_best (FM E (some (.int z.1), z.2)) 143 [(2, .int i2), (3, .int i3), (4, .int i4), (5, .int i5)] [.int (if i2 = 0 then i3 else (if i2 = (1 : Int32) then i4 else i5))] σ := by
    have hX := (Option.some.inj hX).symm; subst hX; exact V.iret dE_best_143 rfl rfl
  refine V.ifne 131 dE_best_124 rfl rfl (fun g7 => ?_) (fun g7 => ?_)
  · refine V.iloadn 0 dE_best_131 rfl rfl ?_
    refine V.iconst (1 : Int32) dE_best_132 lc1 rfl ?_
    refine V.icmpne 141 dE_best_133 rfl rfl (fun g8 => ?_) (fun g8 => ?_)
    · refine V.iload 3 dE_best_141 rfl rfl ?_
      exact V.top ((if_neg g7).trans (if_neg g8)).symm JJ
    · refine V.iload 2 dE_best_136 rfl rfl ?_
      refine V.goto 143 dE_best_138 rfl ?_
      exact V.top ((if_neg g7).trans (if_pos g8)).symm JJ
  · refine V.iloadn 1 dE_best_127 rfl rfl ?_
    refine V.goto 143 dE_best_128 rfl ?_
    exact V.top (if_pos g7).symm JJ
set_option maxRecDepth 4000 in
theorem wE_best_36 {E : Ev} {z : Int32 × St} : ∀ (fu : Nat) (σ : St) (i1 : Int32) (i2 : Int32) (i3 : Int32) (i4 : Int32) (i5 : Int32) (i6 : Int32), fE_best_36 fu σ i1 i2 i3 i4 i5 i6 = some z → V E mE_best (FM E (some (.int z.1), z.2)) 36 [(0, .ref 0), (1, .int i1), (2, .int i2), (3, .int i3), (4, .int i4), (5, .int i5), (6, .int i6)] [] σ := by
  intro fu
  induction fu with
  | zero => intro σ i1 i2 i3 i4 i5 i6 hX; cases hX
  | succ fu ih =>
    intro σ i1 i2 i3 i4 i5 i6 hX
    rw [fE_best_36] at hX
    refine V.iload 6 dE_best_36 rfl rfl ?_
    refine V.aloadn 0 dE_best_38 rfl rfl ?_
    refine V.getd 0 dE_best_39 flE_10 (rfl : kd 0 = (5, 0)) rfl ?_
    obtain ⟨h5, hX⟩ := ob hX
    refine V.geti (gR σ 0) dE_best_42 flE_118 (tk0 h5) rfl ?_
    refine V.icmpge 123 dE_best_45 rfl rfl (fun g6 => ?_) (fun g6 => ?_)
    · replace hX := ip hX g6
      refine V.sub [2, 3, 4, 5] rfl ?_
      exact wE_best_123 σ i2 i3 i4 i5 hX
    · replace hX := im hX g6
      refine V.aloadn 0 dE_best_48 rfl rfl ?_
      refine V.getd 0 dE_best_49 flE_10 (rfl : kd 0 = (5, 0)) rfl ?_
      obtain ⟨h9, hX⟩ := ob hX
      refine V.getr (gR σ 0) ((gR σ 0) + 6) dE_best_52 flE_137 (tk0 h9) rfl rfl ?_
      refine V.iload 6 dE_best_55 rfl rfl ?_
      obtain ⟨h10, hX⟩ := ob hX
      refine V.iald ((gR σ 0) + 6) dE_best_57 (tk6 h9) h10 rfl ?_
      refine V.iloadn 1 dE_best_58 rfl rfl ?_
      refine jn (Pj := fun J => ∀ (σ11 : St) (ji1 : Int32) (ji2 : Int32) (ji3 : Int32) (ji4 : Int32) (ji5 : Int32) (ji6 : Int32) (jis0 : Int32), J σ11 ji1 ji2 ji3 ji4 ji5 ji6 jis0 = some z → V E mE_best (FM E (some (.int z.1), z.2)) 76 [(0, .ref 0), (1, .int ji1), (2, .int ji2), (3, .int ji3), (4, .int ji4), (5, .int ji5), (6, .int ji6)] [.int jis0] σ11) hX (fun σ11 ji1 ji2 ji3 ji4 ji5 ji6 jis0 hX => ?_) (fun J76 hJ76 hX => ?_)
      · try dsimp only at hX
        refine V.istore _ dE_best_76 (by decide) rfl rfl ?_
        refine V.iload 0 dE_best_78 rfl rfl ?_
        refine V.iflt 117 dE_best_80 rfl rfl (fun g12 => ?_) (fun g12 => ?_)
        · replace hX := ip hX g12
          refine V.iinc 7 (1 : Int32) _ dE_best_117 rfl lc1 (by decide) rfl rfl ?_
          replace hX := nmx hX; generalize ji6 + (1 : Int32) = v13 at hX ⊢; try dsimp only at hX
          refine V.goto 36 dE_best_120 rfl ?_
          refine V.sub [2, 3, 4, 5, 6, 7, 0] rfl ?_
          exact ih σ11 ji1 ji2 ji3 ji4 ji5 v13 hX
        · replace hX := im hX g12
          refine V.iload 0 dE_best_83 rfl rfl ?_
          refine V.iload 6 dE_best_85 rfl rfl ?_
          refine V.icmple 117 dE_best_87 rfl rfl (fun g14 => ?_) (fun g14 => ?_)
          · replace hX := ip hX g14
            refine V.iinc 7 (1 : Int32) _ dE_best_117 rfl lc1 (by decide) rfl rfl ?_
            replace hX := nmx hX; generalize ji6 + (1 : Int32) = v15 at hX ⊢; try dsimp only at hX
            refine V.goto 36 dE_best_120 rfl ?_
            refine V.sub [2, 3, 4, 5, 6, 7, 0] rfl ?_
            exact ih σ11 ji1 ji2 ji3 ji4 ji5 v15 hX
          · replace hX := im hX g14
            refine V.iload 7 dE_best_90 rfl rfl ?_
            refine V.istoren _ dE_best_92 (by decide) rfl rfl ?_
            refine V.aloadn 2 dE_best_93 rfl rfl ?_
            refine V.getr 0 27 dE_best_94 flE_36 (rfl : kd 0 = (5, 0)) rfl rfl ?_
            refine V.aloadn 2 dE_best_97 rfl rfl ?_
            refine V.getd 0 dE_best_98 flE_10 (rfl : kd 0 = (5, 0)) rfl ?_
            obtain ⟨h16, hX⟩ := ob hX
            refine V.getr (gR σ11 0) ((gR σ11 0) + 7) dE_best_101 flE_140 (tk0 h16) rfl rfl ?_
            refine V.iload 7 dE_best_104 rfl rfl ?_
            obtain ⟨h17, hX⟩ := ob hX
            refine V.iald ((gR σ11 0) + 7) dE_best_106 (tk7 h16) h17 rfl ?_
            refine V.iloadn 3 dE_best_107 rfl rfl ?_
            obtain ⟨q18, c19, hX⟩ := bd hX; try dsimp only at hX
            refine V.callvi 27 [.int (gI σ11 ((gR σ11 0) + 7) (ix ji6)), .int ji1] dE_best_108 (kW_firstTaker c19) mlE_172 myW_firstTaker mnW_firstTaker ⟨rfl, rfl, by decide, by decide⟩ (rfl : kd 27 = (4, 0)) (by decide) rfl (Nat.le_of_ble_eq_true rfl) ⟨Nat.zero_le _, Nat.zero_le _⟩ rfl ?_
            refine V.istore _ dE_best_111 (by decide) rfl rfl ?_
            refine V.iload 2 dE_best_113 rfl rfl ?_
            refine V.istore _ dE_best_115 (by decide) rfl rfl ?_
            refine V.iinc 7 (1 : Int32) _ dE_best_117 rfl lc1 (by decide) rfl rfl ?_
            replace hX := nmx hX; generalize ji6 + (1 : Int32) = v20 at hX ⊢; try dsimp only at hX
            refine V.goto 36 dE_best_120 rfl ?_
            refine V.sub [5, 6, 7, 3, 2, 1, 0] rfl ?_
            exact ih σ11 ji1 ji2 ji6 q18 jis0 v20 hX
      · try dsimp only at hX
        refine V.icmpne 74 dE_best_59 rfl rfl (fun g21 => ?_) (fun g21 => ?_)
        · replace hX := im hX g21
          refine V.bipush (-3 : Int32) dE_best_74 lbm3 rfl ?_
          refine V.sub [0, 1, 2, 3, 4, 5, 6] rfl ?_
          exact hJ76 σ i1 i2 i3 i4 i5 i6 (-3 : Int32) hX
        · replace hX := ip hX g21
          refine V.aloadn 0 dE_best_62 rfl rfl ?_
          refine V.iload 6 dE_best_63 rfl rfl ?_
          refine V.iconst (0 : Int32) dE_best_65 lc0 rfl ?_
          obtain ⟨q23, σ23, c22, hX⟩ := bi2 hX; try dsimp only at hX
          refine V.callvi 0 [.int i6, .int (0 : Int32)] dE_best_66 (kE_look c22) mlE_168 myE_look mnE_look ⟨rfl, rfl, by decide, by decide⟩ (rfl : kd 0 = (5, 0)) (by decide) rfl (Nat.le_of_ble_eq_true rfl) ⟨Nat.zero_le _, Nat.zero_le _⟩ rfl ?_
          refine V.iconst (1 : Int32) dE_best_69 lc1 rfl ?_
          refine V.isub dE_best_70 rfl ?_
          refine V.goto 76 dE_best_71 rfl ?_
          refine V.sub [0, 1, 2, 3, 4, 5, 6] rfl ?_
          exact hJ76 σ23 i1 i2 i3 i4 i5 i6 (q23 - (1 : Int32)) hX
set_option maxRecDepth 4000 in
theorem wE_best {E : Ev} {z : Int32 × St} (σ : St) (i1 : Int32) (i2 : Int32) (hX : fE_best σ i1 i2 = some z) : V E mE_best (FM E (some (.int z.1), z.2)) 0 [(0, .ref 0), (1, .int i1), (2, .int i2)] [] σ := by
  unfold fE_best at hX
  refine V.aloadn 0 dE_best_0 rfl rfl ?_
  refine V.getd 0 dE_best_1 flE_10 (rfl : kd 0 = (5, 0)) rfl ?_
  refine V.iloadn 1 dE_best_4 rfl rfl ?_
  obtain ⟨h1, hX⟩ := ob hX
  refine V.callvi (gR σ 0) [.int i1] dE_best_5 (kT_hasPerson (σ := σ) (gR σ 0) i1 h1) mlE_86 myT_hasPerson mnT_hasPerson ⟨rfl, rfl, by decide, by decide⟩ (tk0 h1) (by decide) rfl (Nat.le_of_ble_eq_true rfl) ⟨Nat.zero_le _, Nat.zero_le _⟩ rfl ?_
  refine V.ifeq 20 dE_best_8 rfl rfl (fun g2 => ?_) (fun g2 => ?_)
  · replace hX := ip hX g2
    refine V.iconst (-1 : Int32) dE_best_20 lcm1 rfl ?_
    have hX := (Option.some.inj hX).symm; subst hX; exact V.iret dE_best_21 rfl rfl
  · replace hX := im hX g2
    refine V.iloadn 2 dE_best_11 rfl rfl ?_
    refine V.iflt 20 dE_best_12 rfl rfl (fun g3 => ?_) (fun g3 => ?_)
    · replace hX := ip hX g3
      refine V.iconst (-1 : Int32) dE_best_20 lcm1 rfl ?_
      have hX := (Option.some.inj hX).symm; subst hX; exact V.iret dE_best_21 rfl rfl
    · replace hX := im hX g3
      refine V.iloadn 2 dE_best_15 rfl rfl ?_
      refine V.iconst (2 : Int32) dE_best_16 lc2 rfl ?_
      refine V.icmple 22 dE_best_17 rfl rfl (fun g4 => ?_) (fun g4 => ?_)
      · replace hX := ip hX g4
        refine V.bipush (-3 : Int32) dE_best_22 lbm3 rfl ?_
        refine V.istoren _ dE_best_24 (by decide) rfl rfl ?_
        refine V.bipush (-3 : Int32) dE_best_25 lbm3 rfl ?_
        refine V.istore _ dE_best_27 (by decide) rfl rfl ?_
        refine V.bipush (-3 : Int32) dE_best_29 lbm3 rfl ?_
        refine V.istore _ dE_best_31 (by decide) rfl rfl ?_
        refine V.iconst (0 : Int32) dE_best_33 lc0 rfl ?_
        refine V.istore _ dE_best_34 (by decide) rfl rfl ?_
        refine V.sub [4, 5, 6, 3, 2, 1, 0] rfl ?_
        exact wE_best_36 300 σ i1 i2 (-3 : Int32) (-3 : Int32) (-3 : Int32) (0 : Int32) hX
      · replace hX := im hX g4
        refine V.iconst (-1 : Int32) dE_best_20 lcm1 rfl ?_
        have hX := (Option.some.inj hX).symm; subst hX; exact V.iret dE_best_21 rfl rfl
theorem kE_best {E : Ev} {σ σ2 : St} {i1 : Int32} {i2 : Int32} {z : Int32} (h : fE_best σ i1 i2 = some (z, σ2)) : Ct mE_best E [.ref 0, .int i1, .int i2] σ (some (.int z), σ2) := Ct.of (by decide) (Nat.le_of_ble_eq_true rfl) (wE_best σ i1 i2 h)
theorem dT_purseFor_0 : decode mT_purseFor.1 0 = .ok (.iconst 0, 1) := by decide +kernel
theorem dT_purseFor_1 : decode mT_purseFor.1 1 = .ok (.istore_n 3, 1) := by decide +kernel
theorem dT_purseFor_2 : decode mT_purseFor.1 2 = .ok (.iconst 0, 1) := by decide +kernel
theorem dT_purseFor_3 : decode mT_purseFor.1 3 = .ok (.istore 4, 2) := by decide +kernel
theorem dT_purseFor_5 : decode mT_purseFor.1 5 = .ok (.iload 4, 2) := by decide +kernel
theorem dT_purseFor_7 : decode mT_purseFor.1 7 = .ok (.aload_n 0, 1) := by decide +kernel
theorem dT_purseFor_8 : decode mT_purseFor.1 8 = .ok (.getfield 15, 3) := by decide +kernel
theorem dT_purseFor_11 : decode mT_purseFor.1 11 = .ok (.if_icmp .ge 44, 3) := by decide +kernel
theorem dT_purseFor_14 : decode mT_purseFor.1 14 = .ok (.iload_n 3, 1) := by decide +kernel
theorem dT_purseFor_15 : decode mT_purseFor.1 15 = .ok (.aload_n 0, 1) := by decide +kernel
theorem dT_purseFor_16 : decode mT_purseFor.1 16 = .ok (.getfield 37, 3) := by decide +kernel
theorem dT_purseFor_19 : decode mT_purseFor.1 19 = .ok (.iload 4, 2) := by decide +kernel
theorem dT_purseFor_21 : decode mT_purseFor.1 21 = .ok (.iaload, 1) := by decide +kernel
theorem dT_purseFor_22 : decode mT_purseFor.1 22 = .ok (.iload_n 1, 1) := by decide +kernel
theorem dT_purseFor_23 : decode mT_purseFor.1 23 = .ok (.if_icmp .ne 23, 3) := by decide +kernel
theorem dT_purseFor_26 : decode mT_purseFor.1 26 = .ok (.aload_n 0, 1) := by decide +kernel
theorem dT_purseFor_27 : decode mT_purseFor.1 27 = .ok (.iload 4, 2) := by decide +kernel
theorem dT_purseFor_29 : decode mT_purseFor.1 29 = .ok (.invokevirtual 62, 3) := by decide +kernel
theorem dT_purseFor_32 : decode mT_purseFor.1 32 = .ok (.iload_n 2, 1) := by decide +kernel
theorem dT_purseFor_33 : decode mT_purseFor.1 33 = .ok (.invokestatic 49, 3) := by decide +kernel
theorem dT_purseFor_36 : decode mT_purseFor.1 36 = .ok (.ifCond .eq 10, 3) := by decide +kernel
theorem dT_purseFor_39 : decode mT_purseFor.1 39 = .ok (.iconst 1, 1) := by decide +kernel
theorem dT_purseFor_40 : decode mT_purseFor.1 40 = .ok (.iload 4, 2) := by decide +kernel
theorem dT_purseFor_42 : decode mT_purseFor.1 42 = .ok (.ishl, 1) := by decide +kernel
theorem dT_purseFor_43 : decode mT_purseFor.1 43 = .ok (.goto 4, 3) := by decide +kernel
theorem dT_purseFor_46 : decode mT_purseFor.1 46 = .ok (.iconst 0, 1) := by decide +kernel
theorem dT_purseFor_47 : decode mT_purseFor.1 47 = .ok (.ior, 1) := by decide +kernel
theorem dT_purseFor_48 : decode mT_purseFor.1 48 = .ok (.istore_n 3, 1) := by decide +kernel
theorem dT_purseFor_49 : decode mT_purseFor.1 49 = .ok (.iinc 4 1, 3) := by decide +kernel
theorem dT_purseFor_52 : decode mT_purseFor.1 52 = .ok (.goto (-47), 3) := by decide +kernel
theorem dT_purseFor_55 : decode mT_purseFor.1 55 = .ok (.iload_n 3, 1) := by decide +kernel
theorem dT_purseFor_56 : decode mT_purseFor.1 56 = .ok (.ireturn, 1) := by decide +kernel
set_option maxRecDepth 4000 in
theorem wT_purseFor_5 {E : Ev} {z : Int32} : ∀ (fu : Nat) (σ : St) (r0 : Nat) (i1 : Int32) (i2 : Int32) (i3 : Int32) (i4 : Int32) (ht_r0 : isTb r0 = true), fT_purseFor_5 fu σ r0 i1 i2 i3 i4 = some z → V E mT_purseFor (FM E (some (.int z), σ)) 5 [(0, .ref r0), (1, .int i1), (2, .int i2), (3, .int i3), (4, .int i4)] [] σ := by
  intro fu
  induction fu with
  | zero => intro σ r0 i1 i2 i3 i4 ht_r0 hX; cases hX
  | succ fu ih =>
    intro σ r0 i1 i2 i3 i4 ht_r0 hX
    rw [fT_purseFor_5] at hX
    refine V.iload 4 dT_purseFor_5 rfl rfl ?_
    refine V.aloadn 0 dT_purseFor_7 rfl rfl ?_
    refine V.geti r0 dT_purseFor_8 flT_15 (tk0 ht_r0) rfl ?_
    refine V.icmpge 55 dT_purseFor_11 rfl rfl (fun g1 => ?_) (fun g1 => ?_)
    · replace hX := ip hX g1
      refine V.iloadn 3 dT_purseFor_55 rfl rfl ?_
      have hX := (Option.some.inj hX).symm; subst hX; exact V.iret dT_purseFor_56 rfl rfl
    · replace hX := im hX g1
      refine V.iloadn 3 dT_purseFor_14 rfl rfl ?_
      refine V.aloadn 0 dT_purseFor_15 rfl rfl ?_
      refine V.getr r0 (r0 + 6) dT_purseFor_16 flT_37 (tk0 ht_r0) rfl rfl ?_
      refine V.iload 4 dT_purseFor_19 rfl rfl ?_
      obtain ⟨h2, hX⟩ := ob hX
      refine V.iald (r0 + 6) dT_purseFor_21 (tk6 ht_r0) h2 rfl ?_
      refine V.iloadn 1 dT_purseFor_22 rfl rfl ?_
      refine V.icmpne 46 dT_purseFor_23 rfl rfl (fun g3 => ?_) (fun g3 => ?_)
      · replace hX := im hX g3
        refine V.iconst (0 : Int32) dT_purseFor_46 lc0 rfl ?_
        refine V.ior dT_purseFor_47 rfl ?_
        refine V.istoren _ dT_purseFor_48 (by decide) rfl rfl ?_
        replace hX := nmx hX; generalize i3 ||| (0 : Int32) = v4 at hX ⊢; try dsimp only at hX
        refine V.iinc 4 (1 : Int32) _ dT_purseFor_49 rfl lc1 (by decide) rfl rfl ?_
        replace hX := nmx hX; generalize i4 + (1 : Int32) = v5 at hX ⊢; try dsimp only at hX
        refine V.goto 5 dT_purseFor_52 rfl ?_
        refine V.sub [2, 3, 4, 1, 0] rfl ?_
        exact ih σ r0 i1 i2 v4 v5 ht_r0 hX
      · replace hX := ip hX g3
        refine V.aloadn 0 dT_purseFor_26 rfl rfl ?_
        refine V.iload 4 dT_purseFor_27 rfl rfl ?_
        obtain ⟨q6, c7, hX⟩ := bd hX; try dsimp only at hX
        refine V.callvi r0 [.int i4] dT_purseFor_29 (kT_takers ht_r0 c7) mlT_62 myT_takers mnT_takers ⟨rfl, rfl, by decide, by decide⟩ (tk0 ht_r0) (by decide) rfl (Nat.le_of_ble_eq_true rfl) ⟨Nat.zero_le _, Nat.zero_le _⟩ rfl ?_
        refine V.iloadn 2 dT_purseFor_32 rfl rfl ?_
        refine V.callNi [.int q6, .int i2] dT_purseFor_33 (kE_holds (σ := σ) q6 i2) (fun U h => h.2.2.2.2.2.2.2.2.1) myE_holds mnE_holds ⟨rfl, rfl, by decide, by decide⟩ rfl (Nat.le_of_ble_eq_true rfl) ⟨Nat.zero_le _, Nat.zero_le _⟩ rfl ?_
        have JJ : V E mT_purseFor (FM E (some (.int z), σ)) 47 [(0, .ref r0), (1, .int i1), (2, .int i2), (3, .int i3), (4, .int i4)] [.int (if (fE_holds q6 i2) = 0 then (0 : Int32) else (1 : Int32) <<< (i4 &&& 31)), .int i3] σ := by
          refine V.ior dT_purseFor_47 rfl ?_
          refine V.istoren _ dT_purseFor_48 (by decide) rfl rfl ?_
          replace hX := nmx hX; generalize i3 ||| (if (fE_holds q6 i2) = 0 then (0 : Int32) else (1 : Int32) <<< (i4 &&& 31)) = v8 at hX ⊢; try dsimp only at hX
          refine V.iinc 4 (1 : Int32) _ dT_purseFor_49 rfl lc1 (by decide) rfl rfl ?_
          replace hX := nmx hX; generalize i4 + (1 : Int32) = v9 at hX ⊢; try dsimp only at hX
          refine V.goto 5 dT_purseFor_52 rfl ?_
          refine V.sub [2, 3, 4, 1, 0] rfl ?_
          exact ih σ r0 i1 i2 v8 v9 ht_r0 hX
        refine V.ifeq 46 dT_purseFor_36 rfl rfl (fun g10 => ?_) (fun g10 => ?_)
        · refine V.iconst (0 : Int32) dT_purseFor_46 lc0 rfl ?_
          exact V.top (if_pos g10).symm JJ
        · refine V.iconst (1 : Int32) dT_purseFor_39 lc1 rfl ?_
          refine V.iload 4 dT_purseFor_40 rfl rfl ?_
          refine V.ishl dT_purseFor_42 rfl ?_
          refine V.goto 47 dT_purseFor_43 rfl ?_
          exact V.top (if_neg g10).symm JJ
set_option maxRecDepth 4000 in
theorem wT_purseFor {E : Ev} {z : Int32} (σ : St) (r0 : Nat) (i1 : Int32) (i2 : Int32) (ht_r0 : isTb r0 = true) (hX : fT_purseFor σ r0 i1 i2 = some z) : V E mT_purseFor (FM E (some (.int z), σ)) 0 [(0, .ref r0), (1, .int i1), (2, .int i2)] [] σ := by
  unfold fT_purseFor at hX
  refine V.iconst (0 : Int32) dT_purseFor_0 lc0 rfl ?_
  refine V.istoren _ dT_purseFor_1 (by decide) rfl rfl ?_
  refine V.iconst (0 : Int32) dT_purseFor_2 lc0 rfl ?_
  refine V.istore _ dT_purseFor_3 (by decide) rfl rfl ?_
  refine V.sub [2, 3, 4, 1, 0] rfl ?_
  exact wT_purseFor_5 300 σ r0 i1 i2 (0 : Int32) (0 : Int32) ht_r0 hX
theorem kT_purseFor {E : Ev} {σ : St} {r0 : Nat} {i1 : Int32} {i2 : Int32} {z : Int32} (ht_r0 : isTb r0 = true) (h : fT_purseFor σ r0 i1 i2 = some z) : Ct mT_purseFor E [.ref r0, .int i1, .int i2] σ (some (.int z), σ) := Ct.of (by decide) (Nat.le_of_ble_eq_true rfl) (wT_purseFor σ r0 i1 i2 ht_r0 h)
theorem dE_paid_0 : decode mE_paid.1 0 = .ok (.aload_n 0, 1) := by decide +kernel
theorem dE_paid_1 : decode mE_paid.1 1 = .ok (.getfield 10, 3) := by decide +kernel
theorem dE_paid_4 : decode mE_paid.1 4 = .ok (.iload_n 1, 1) := by decide +kernel
theorem dE_paid_5 : decode mE_paid.1 5 = .ok (.invokevirtual 86, 3) := by decide +kernel
theorem dE_paid_8 : decode mE_paid.1 8 = .ok (.ifCond .eq 30, 3) := by decide +kernel
theorem dE_paid_11 : decode mE_paid.1 11 = .ok (.aload_n 0, 1) := by decide +kernel
theorem dE_paid_12 : decode mE_paid.1 12 = .ok (.getfield 10, 3) := by decide +kernel
theorem dE_paid_15 : decode mE_paid.1 15 = .ok (.iload_n 2, 1) := by decide +kernel
theorem dE_paid_16 : decode mE_paid.1 16 = .ok (.invokevirtual 86, 3) := by decide +kernel
theorem dE_paid_19 : decode mE_paid.1 19 = .ok (.ifCond .eq 19, 3) := by decide +kernel
theorem dE_paid_22 : decode mE_paid.1 22 = .ok (.iload_n 1, 1) := by decide +kernel
theorem dE_paid_23 : decode mE_paid.1 23 = .ok (.iload_n 2, 1) := by decide +kernel
theorem dE_paid_24 : decode mE_paid.1 24 = .ok (.if_icmp .eq 14, 3) := by decide +kernel
theorem dE_paid_27 : decode mE_paid.1 27 = .ok (.iload_n 3, 1) := by decide +kernel
theorem dE_paid_28 : decode mE_paid.1 28 = .ok (.ifCond .lt 10, 3) := by decide +kernel
theorem dE_paid_31 : decode mE_paid.1 31 = .ok (.iload_n 3, 1) := by decide +kernel
theorem dE_paid_32 : decode mE_paid.1 32 = .ok (.sipush 999, 3) := by decide +kernel
theorem dE_paid_35 : decode mE_paid.1 35 = .ok (.if_icmp .le 5, 3) := by decide +kernel
theorem dE_paid_38 : decode mE_paid.1 38 = .ok (.iconst (-1), 1) := by decide +kernel
theorem dE_paid_39 : decode mE_paid.1 39 = .ok (.ireturn, 1) := by decide +kernel
theorem dE_paid_40 : decode mE_paid.1 40 = .ok (.aload_n 0, 1) := by decide +kernel
theorem dE_paid_41 : decode mE_paid.1 41 = .ok (.getfield 10, 3) := by decide +kernel
theorem dE_paid_44 : decode mE_paid.1 44 = .ok (.iload_n 1, 1) := by decide +kernel
theorem dE_paid_45 : decode mE_paid.1 45 = .ok (.iload_n 2, 1) := by decide +kernel
theorem dE_paid_46 : decode mE_paid.1 46 = .ok (.invokevirtual 175, 3) := by decide +kernel
theorem dE_paid_49 : decode mE_paid.1 49 = .ok (.istore 4, 2) := by decide +kernel
theorem dE_paid_51 : decode mE_paid.1 51 = .ok (.bipush (-3), 2) := by decide +kernel
theorem dE_paid_53 : decode mE_paid.1 53 = .ok (.istore 5, 2) := by decide +kernel
theorem dE_paid_55 : decode mE_paid.1 55 = .ok (.bipush 7, 2) := by decide +kernel
theorem dE_paid_57 : decode mE_paid.1 57 = .ok (.istore 6, 2) := by decide +kernel
theorem dE_paid_59 : decode mE_paid.1 59 = .ok (.iconst 0, 1) := by decide +kernel
theorem dE_paid_60 : decode mE_paid.1 60 = .ok (.istore 7, 2) := by decide +kernel
theorem dE_paid_62 : decode mE_paid.1 62 = .ok (.iload 7, 2) := by decide +kernel
theorem dE_paid_64 : decode mE_paid.1 64 = .ok (.iconst 1, 1) := by decide +kernel
theorem dE_paid_65 : decode mE_paid.1 65 = .ok (.aload_n 0, 1) := by decide +kernel
theorem dE_paid_66 : decode mE_paid.1 66 = .ok (.getfield 10, 3) := by decide +kernel
theorem dE_paid_69 : decode mE_paid.1 69 = .ok (.getfield 118, 3) := by decide +kernel
theorem dE_paid_72 : decode mE_paid.1 72 = .ok (.ishl, 1) := by decide +kernel
theorem dE_paid_73 : decode mE_paid.1 73 = .ok (.if_icmp .ge 53, 3) := by decide +kernel
theorem dE_paid_76 : decode mE_paid.1 76 = .ok (.iload 7, 2) := by decide +kernel
theorem dE_paid_78 : decode mE_paid.1 78 = .ok (.iload 4, 2) := by decide +kernel
theorem dE_paid_80 : decode mE_paid.1 80 = .ok (.iconst (-1), 1) := by decide +kernel
theorem dE_paid_81 : decode mE_paid.1 81 = .ok (.ixor, 1) := by decide +kernel
theorem dE_paid_82 : decode mE_paid.1 82 = .ok (.iand, 1) := by decide +kernel
theorem dE_paid_83 : decode mE_paid.1 83 = .ok (.ifCond .ne 37, 3) := by decide +kernel
theorem dE_paid_86 : decode mE_paid.1 86 = .ok (.iload 7, 2) := by decide +kernel
theorem dE_paid_88 : decode mE_paid.1 88 = .ok (.invokestatic 146, 3) := by decide +kernel
theorem dE_paid_91 : decode mE_paid.1 91 = .ok (.iload 6, 2) := by decide +kernel
theorem dE_paid_93 : decode mE_paid.1 93 = .ok (.if_icmp .ge 27, 3) := by decide +kernel
theorem dE_paid_96 : decode mE_paid.1 96 = .ok (.aload_n 0, 1) := by decide +kernel
theorem dE_paid_97 : decode mE_paid.1 97 = .ok (.getfield 10, 3) := by decide +kernel
theorem dE_paid_100 : decode mE_paid.1 100 = .ok (.iload 7, 2) := by decide +kernel
theorem dE_paid_102 : decode mE_paid.1 102 = .ok (.invokevirtual 178, 3) := by decide +kernel
theorem dE_paid_105 : decode mE_paid.1 105 = .ok (.iload_n 3, 1) := by decide +kernel
theorem dE_paid_106 : decode mE_paid.1 106 = .ok (.if_icmp .ne 14, 3) := by decide +kernel
theorem dE_paid_109 : decode mE_paid.1 109 = .ok (.iload 7, 2) := by decide +kernel
theorem dE_paid_111 : decode mE_paid.1 111 = .ok (.istore 5, 2) := by decide +kernel
theorem dE_paid_113 : decode mE_paid.1 113 = .ok (.iload 7, 2) := by decide +kernel
theorem dE_paid_115 : decode mE_paid.1 115 = .ok (.invokestatic 146, 3) := by decide +kernel
theorem dE_paid_118 : decode mE_paid.1 118 = .ok (.istore 6, 2) := by decide +kernel
theorem dE_paid_120 : decode mE_paid.1 120 = .ok (.iinc 7 1, 3) := by decide +kernel
theorem dE_paid_123 : decode mE_paid.1 123 = .ok (.goto (-61), 3) := by decide +kernel
theorem dE_paid_126 : decode mE_paid.1 126 = .ok (.iload 5, 2) := by decide +kernel
theorem dE_paid_128 : decode mE_paid.1 128 = .ok (.ireturn, 1) := by decide +kernel
set_option maxRecDepth 4000 in
theorem wE_paid_62 {E : Ev} {z : Int32} : ∀ (fu : Nat) (σ : St) (i3 : Int32) (i4 : Int32) (i5 : Int32) (i6 : Int32) (i7 : Int32), fE_paid_62 fu σ i3 i4 i5 i6 i7 = some z → V E mE_paid (FM E (some (.int z), σ)) 62 [(0, .ref 0), (3, .int i3), (4, .int i4), (5, .int i5), (6, .int i6), (7, .int i7)] [] σ := by
  intro fu
  induction fu with
  | zero => intro σ i3 i4 i5 i6 i7 hX; cases hX
  | succ fu ih =>
    intro σ i3 i4 i5 i6 i7 hX
    rw [fE_paid_62] at hX
    refine V.iload 5 dE_paid_62 rfl rfl ?_
    refine V.iconst (1 : Int32) dE_paid_64 lc1 rfl ?_
    refine V.aloadn 0 dE_paid_65 rfl rfl ?_
    refine V.getd 0 dE_paid_66 flE_10 (rfl : kd 0 = (5, 0)) rfl ?_
    obtain ⟨h11, hX⟩ := ob hX
    refine V.geti (gR σ 0) dE_paid_69 flE_118 (tk0 h11) rfl ?_
    refine V.ishl dE_paid_72 rfl ?_
    refine V.icmpge 126 dE_paid_73 rfl rfl (fun g12 => ?_) (fun g12 => ?_)
    · replace hX := ip hX g12
      refine V.iload 3 dE_paid_126 rfl rfl ?_
      have hX := (Option.some.inj hX).symm; subst hX; exact V.iret dE_paid_128 rfl rfl
    · replace hX := im hX g12
      refine V.iload 5 dE_paid_76 rfl rfl ?_
      refine V.iload 2 dE_paid_78 rfl rfl ?_
      refine V.iconst (-1 : Int32) dE_paid_80 lcm1 rfl ?_
      refine V.ixor dE_paid_81 rfl ?_
      refine V.iand dE_paid_82 rfl ?_
      refine V.ifne 120 dE_paid_83 rfl rfl (fun g13 => ?_) (fun g13 => ?_)
      · replace hX := im hX g13
        refine V.iinc 5 (1 : Int32) _ dE_paid_120 rfl lc1 (by decide) rfl rfl ?_
        replace hX := nmx hX; generalize i7 + (1 : Int32) = v14 at hX ⊢; try dsimp only at hX
        refine V.goto 62 dE_paid_123 rfl ?_
        refine V.sub [1, 2, 3, 4, 5, 0] rfl ?_
        exact ih σ i3 i4 i5 i6 v14 hX
      · replace hX := ip hX g13
        refine V.iload 5 dE_paid_86 rfl rfl ?_
        refine V.callsi [.int i7] dE_paid_88 (kJI_bitCount (σ := σ) i7) mlE_146 myJI_bitCount mnJI_bitCount ⟨rfl, rfl, by decide, by decide⟩ rfl (Nat.le_of_ble_eq_true rfl) ⟨Nat.zero_le _, Nat.zero_le _⟩ rfl ?_
        refine V.iload 4 dE_paid_91 rfl rfl ?_
        refine V.icmpge 120 dE_paid_93 rfl rfl (fun g15 => ?_) (fun g15 => ?_)
        · replace hX := ip hX g15
          refine V.iinc 5 (1 : Int32) _ dE_paid_120 rfl lc1 (by decide) rfl rfl ?_
          replace hX := nmx hX; generalize i7 + (1 : Int32) = v16 at hX ⊢; try dsimp only at hX
          refine V.goto 62 dE_paid_123 rfl ?_
          refine V.sub [1, 2, 3, 4, 5, 0] rfl ?_
          exact ih σ i3 i4 i5 i6 v16 hX
        · replace hX := im hX g15
          refine V.aloadn 0 dE_paid_96 rfl rfl ?_
          refine V.getd 0 dE_paid_97 flE_10 (rfl : kd 0 = (5, 0)) rfl ?_
          refine V.iload 5 dE_paid_100 rfl rfl ?_
          obtain ⟨h17, hX⟩ := ob hX
          obtain ⟨q18, c19, hX⟩ := bd hX; try dsimp only at hX
          refine V.callvi (gR σ 0) [.int i7] dE_paid_102 (kT_worthOfAll h17 c19) mlE_178 myT_worthOfAll mnT_worthOfAll ⟨rfl, rfl, by decide, by decide⟩ (tk0 h17) (by decide) rfl (Nat.le_of_ble_eq_true rfl) ⟨Nat.zero_le _, Nat.zero_le _⟩ rfl ?_
          refine V.iloadn 1 dE_paid_105 rfl rfl ?_
          refine V.icmpne 120 dE_paid_106 rfl rfl (fun g20 => ?_) (fun g20 => ?_)
          · replace hX := im hX g20
            refine V.iinc 5 (1 : Int32) _ dE_paid_120 rfl lc1 (by decide) rfl rfl ?_
            replace hX := nmx hX; generalize i7 + (1 : Int32) = v21 at hX ⊢; try dsimp only at hX
            refine V.goto 62 dE_paid_123 rfl ?_
            refine V.sub [1, 2, 3, 4, 5, 0] rfl ?_
            exact ih σ i3 i4 i5 i6 v21 hX
          · replace hX := ip hX g20
            refine V.iload 5 dE_paid_109 rfl rfl ?_
            refine V.istore _ dE_paid_111 (by decide) rfl rfl ?_
            refine V.iload 5 dE_paid_113 rfl rfl ?_
            refine V.callsi [.int i7] dE_paid_115 (kJI_bitCount (σ := σ) i7) mlE_146 myJI_bitCount mnJI_bitCount ⟨rfl, rfl, by decide, by decide⟩ rfl (Nat.le_of_ble_eq_true rfl) ⟨Nat.zero_le _, Nat.zero_le _⟩ rfl ?_
            refine V.istore _ dE_paid_118 (by decide) rfl rfl ?_
            replace hX := nmx hX; generalize fJI_bitCount i7 = v22 at hX ⊢; try dsimp only at hX
            refine V.iinc 5 (1 : Int32) _ dE_paid_120 rfl lc1 (by decide) rfl rfl ?_
            replace hX := nmx hX; generalize i7 + (1 : Int32) = v23 at hX ⊢; try dsimp only at hX
            refine V.goto 62 dE_paid_123 rfl ?_
            refine V.sub [3, 4, 5, 2, 1, 0] rfl ?_
            exact ih σ i3 i4 i7 v22 v23 hX
set_option maxRecDepth 4000 in
theorem wE_paid {E : Ev} {z : Int32} (σ : St) (i1 : Int32) (i2 : Int32) (i3 : Int32) (hX : fE_paid σ i1 i2 i3 = some z) : V E mE_paid (FM E (some (.int z), σ)) 0 [(0, .ref 0), (1, .int i1), (2, .int i2), (3, .int i3)] [] σ := by
  unfold fE_paid at hX
  refine V.aloadn 0 dE_paid_0 rfl rfl ?_
  refine V.getd 0 dE_paid_1 flE_10 (rfl : kd 0 = (5, 0)) rfl ?_
  refine V.iloadn 1 dE_paid_4 rfl rfl ?_
  obtain ⟨h1, hX⟩ := ob hX
  refine V.callvi (gR σ 0) [.int i1] dE_paid_5 (kT_hasPerson (σ := σ) (gR σ 0) i1 h1) mlE_86 myT_hasPerson mnT_hasPerson ⟨rfl, rfl, by decide, by decide⟩ (tk0 h1) (by decide) rfl (Nat.le_of_ble_eq_true rfl) ⟨Nat.zero_le _, Nat.zero_le _⟩ rfl ?_
  refine V.ifeq 38 dE_paid_8 rfl rfl (fun g2 => ?_) (fun g2 => ?_)
  · replace hX := ip hX g2
    refine V.iconst (-1 : Int32) dE_paid_38 lcm1 rfl ?_
    have hX := (Option.some.inj hX).symm; subst hX; exact V.iret dE_paid_39 rfl rfl
  · replace hX := im hX g2
    refine V.aloadn 0 dE_paid_11 rfl rfl ?_
    refine V.getd 0 dE_paid_12 flE_10 (rfl : kd 0 = (5, 0)) rfl ?_
    refine V.iloadn 2 dE_paid_15 rfl rfl ?_
    obtain ⟨h3, hX⟩ := ob hX
    refine V.callvi (gR σ 0) [.int i2] dE_paid_16 (kT_hasPerson (σ := σ) (gR σ 0) i2 h3) mlE_86 myT_hasPerson mnT_hasPerson ⟨rfl, rfl, by decide, by decide⟩ (tk0 h3) (by decide) rfl (Nat.le_of_ble_eq_true rfl) ⟨Nat.zero_le _, Nat.zero_le _⟩ rfl ?_
    refine V.ifeq 38 dE_paid_19 rfl rfl (fun g4 => ?_) (fun g4 => ?_)
    · replace hX := ip hX g4
      refine V.iconst (-1 : Int32) dE_paid_38 lcm1 rfl ?_
      have hX := (Option.some.inj hX).symm; subst hX; exact V.iret dE_paid_39 rfl rfl
    · replace hX := im hX g4
      refine V.iloadn 1 dE_paid_22 rfl rfl ?_
      refine V.iloadn 2 dE_paid_23 rfl rfl ?_
      refine V.icmpeq 38 dE_paid_24 rfl rfl (fun g5 => ?_) (fun g5 => ?_)
      · replace hX := ip hX g5
        refine V.iconst (-1 : Int32) dE_paid_38 lcm1 rfl ?_
        have hX := (Option.some.inj hX).symm; subst hX; exact V.iret dE_paid_39 rfl rfl
      · replace hX := im hX g5
        refine V.iloadn 3 dE_paid_27 rfl rfl ?_
        refine V.iflt 38 dE_paid_28 rfl rfl (fun g6 => ?_) (fun g6 => ?_)
        · replace hX := ip hX g6
          refine V.iconst (-1 : Int32) dE_paid_38 lcm1 rfl ?_
          have hX := (Option.some.inj hX).symm; subst hX; exact V.iret dE_paid_39 rfl rfl
        · replace hX := im hX g6
          refine V.iloadn 3 dE_paid_31 rfl rfl ?_
          refine V.sipush (999 : Int32) dE_paid_32 ls999 rfl ?_
          refine V.icmple 40 dE_paid_35 rfl rfl (fun g7 => ?_) (fun g7 => ?_)
          · replace hX := ip hX g7
            refine V.aloadn 0 dE_paid_40 rfl rfl ?_
            refine V.getd 0 dE_paid_41 flE_10 (rfl : kd 0 = (5, 0)) rfl ?_
            refine V.iloadn 1 dE_paid_44 rfl rfl ?_
            refine V.iloadn 2 dE_paid_45 rfl rfl ?_
            obtain ⟨h8, hX⟩ := ob hX
            obtain ⟨q9, c10, hX⟩ := bd hX; try dsimp only at hX
            refine V.callvi (gR σ 0) [.int i1, .int i2] dE_paid_46 (kT_purseFor h8 c10) mlE_175 myT_purseFor mnT_purseFor ⟨rfl, rfl, by decide, by decide⟩ (tk0 h8) (by decide) rfl (Nat.le_of_ble_eq_true rfl) ⟨Nat.zero_le _, Nat.zero_le _⟩ rfl ?_
            refine V.istore _ dE_paid_49 (by decide) rfl rfl ?_
            refine V.bipush (-3 : Int32) dE_paid_51 lbm3 rfl ?_
            refine V.istore _ dE_paid_53 (by decide) rfl rfl ?_
            refine V.bipush (7 : Int32) dE_paid_55 lb7 rfl ?_
            refine V.istore _ dE_paid_57 (by decide) rfl rfl ?_
            refine V.iconst (0 : Int32) dE_paid_59 lc0 rfl ?_
            refine V.istore _ dE_paid_60 (by decide) rfl rfl ?_
            refine V.sub [4, 7, 3, 2, 1, 0] rfl ?_
            exact wE_paid_62 300 σ i3 q9 (-3 : Int32) (7 : Int32) (0 : Int32) hX
          · replace hX := im hX g7
            refine V.iconst (-1 : Int32) dE_paid_38 lcm1 rfl ?_
            have hX := (Option.some.inj hX).symm; subst hX; exact V.iret dE_paid_39 rfl rfl
theorem kE_paid {E : Ev} {σ : St} {i1 : Int32} {i2 : Int32} {i3 : Int32} {z : Int32} (h : fE_paid σ i1 i2 i3 = some z) : Ct mE_paid E [.ref 0, .int i1, .int i2, .int i3] σ (some (.int z), σ) := Ct.of (by decide) (Nat.le_of_ble_eq_true rfl) (wE_paid σ i1 i2 i3 h)
theorem dE_leftIfAcquainted_0 : decode mE_leftIfAcquainted.1 0 = .ok (.aload_n 0, 1) := by decide +kernel
theorem dE_leftIfAcquainted_1 : decode mE_leftIfAcquainted.1 1 = .ok (.getfield 10, 3) := by decide +kernel
theorem dE_leftIfAcquainted_4 : decode mE_leftIfAcquainted.1 4 = .ok (.iload_n 2, 1) := by decide +kernel
theorem dE_leftIfAcquainted_5 : decode mE_leftIfAcquainted.1 5 = .ok (.iload_n 3, 1) := by decide +kernel
theorem dE_leftIfAcquainted_6 : decode mE_leftIfAcquainted.1 6 = .ok (.invokevirtual 104, 3) := by decide +kernel
theorem dE_leftIfAcquainted_9 : decode mE_leftIfAcquainted.1 9 = .ok (.ifCond .eq 5, 3) := by decide +kernel
theorem dE_leftIfAcquainted_12 : decode mE_leftIfAcquainted.1 12 = .ok (.iconst 0, 1) := by decide +kernel
theorem dE_leftIfAcquainted_13 : decode mE_leftIfAcquainted.1 13 = .ok (.ireturn, 1) := by decide +kernel
theorem dE_leftIfAcquainted_14 : decode mE_leftIfAcquainted.1 14 = .ok (.aload_n 0, 1) := by decide +kernel
theorem dE_leftIfAcquainted_15 : decode mE_leftIfAcquainted.1 15 = .ok (.getfield 10, 3) := by decide +kernel
theorem dE_leftIfAcquainted_18 : decode mE_leftIfAcquainted.1 18 = .ok (.iload_n 2, 1) := by decide +kernel
theorem dE_leftIfAcquainted_19 : decode mE_leftIfAcquainted.1 19 = .ok (.iload_n 3, 1) := by decide +kernel
theorem dE_leftIfAcquainted_20 : decode mE_leftIfAcquainted.1 20 = .ok (.iconst 1, 1) := by decide +kernel
theorem dE_leftIfAcquainted_21 : decode mE_leftIfAcquainted.1 21 = .ok (.invokevirtual 108, 3) := by decide +kernel
theorem dE_leftIfAcquainted_24 : decode mE_leftIfAcquainted.1 24 = .ok (.aload_n 0, 1) := by decide +kernel
theorem dE_leftIfAcquainted_25 : decode mE_leftIfAcquainted.1 25 = .ok (.iload_n 1, 1) := by decide +kernel
theorem dE_leftIfAcquainted_26 : decode mE_leftIfAcquainted.1 26 = .ok (.iconst 0, 1) := by decide +kernel
theorem dE_leftIfAcquainted_27 : decode mE_leftIfAcquainted.1 27 = .ok (.invokevirtual 168, 3) := by decide +kernel
theorem dE_leftIfAcquainted_30 : decode mE_leftIfAcquainted.1 30 = .ok (.istore 4, 2) := by decide +kernel
theorem dE_leftIfAcquainted_32 : decode mE_leftIfAcquainted.1 32 = .ok (.aload_n 0, 1) := by decide +kernel
theorem dE_leftIfAcquainted_33 : decode mE_leftIfAcquainted.1 33 = .ok (.getfield 10, 3) := by decide +kernel
theorem dE_leftIfAcquainted_36 : decode mE_leftIfAcquainted.1 36 = .ok (.iload_n 2, 1) := by decide +kernel
theorem dE_leftIfAcquainted_37 : decode mE_leftIfAcquainted.1 37 = .ok (.iload_n 3, 1) := by decide +kernel
theorem dE_leftIfAcquainted_38 : decode mE_leftIfAcquainted.1 38 = .ok (.iconst 0, 1) := by decide +kernel
theorem dE_leftIfAcquainted_39 : decode mE_leftIfAcquainted.1 39 = .ok (.invokevirtual 108, 3) := by decide +kernel
theorem dE_leftIfAcquainted_42 : decode mE_leftIfAcquainted.1 42 = .ok (.iload 4, 2) := by decide +kernel
theorem dE_leftIfAcquainted_44 : decode mE_leftIfAcquainted.1 44 = .ok (.ireturn, 1) := by decide +kernel
set_option maxRecDepth 4000 in
theorem wE_leftIfAcquainted {E : Ev} {z : Int32 × St} (σ : St) (i1 : Int32) (i2 : Int32) (i3 : Int32) (hX : fE_leftIfAcquainted σ i1 i2 i3 = some z) : V E mE_leftIfAcquainted (FM E (some (.int z.1), z.2)) 0 [(0, .ref 0), (1, .int i1), (2, .int i2), (3, .int i3)] [] σ := by
  unfold fE_leftIfAcquainted at hX
  refine V.aloadn 0 dE_leftIfAcquainted_0 rfl rfl ?_
  refine V.getd 0 dE_leftIfAcquainted_1 flE_10 (rfl : kd 0 = (5, 0)) rfl ?_
  refine V.iloadn 2 dE_leftIfAcquainted_4 rfl rfl ?_
  refine V.iloadn 3 dE_leftIfAcquainted_5 rfl rfl ?_
  obtain ⟨h1, hX⟩ := ob hX
  obtain ⟨q2, c3, hX⟩ := bd hX; try dsimp only at hX
  refine V.callvi (gR σ 0) [.int i2, .int i3] dE_leftIfAcquainted_6 (kT_areAcquainted h1 c3) mlE_104 myT_areAcquainted mnT_areAcquainted ⟨rfl, rfl, by decide, by decide⟩ (tk0 h1) (by decide) rfl (Nat.le_of_ble_eq_true rfl) ⟨Nat.zero_le _, Nat.zero_le _⟩ rfl ?_
  refine V.ifeq 14 dE_leftIfAcquainted_9 rfl rfl (fun g4 => ?_) (fun g4 => ?_)
  · replace hX := ip hX g4
    refine V.aloadn 0 dE_leftIfAcquainted_14 rfl rfl ?_
    refine V.getd 0 dE_leftIfAcquainted_15 flE_10 (rfl : kd 0 = (5, 0)) rfl ?_
    refine V.iloadn 2 dE_leftIfAcquainted_18 rfl rfl ?_
    refine V.iloadn 3 dE_leftIfAcquainted_19 rfl rfl ?_
    refine V.iconst (1 : Int32) dE_leftIfAcquainted_20 lc1 rfl ?_
    obtain ⟨h5, hX⟩ := ob hX
    obtain ⟨σ7, c6, hX⟩ := bd hX; try dsimp only at hX
    refine V.callv0 (gR σ 0) [.int i2, .int i3, .int (1 : Int32)] dE_leftIfAcquainted_21 (kT_acquaint h5 c6) mlE_108 myT_acquaint mnT_acquaint ⟨rfl, rfl, by decide, by decide⟩ (tk0 h5) (by decide) rfl (Nat.le_of_ble_eq_true rfl) ⟨Nat.zero_le _, Nat.zero_le _⟩ rfl ?_
    refine V.aloadn 0 dE_leftIfAcquainted_24 rfl rfl ?_
    refine V.iloadn 1 dE_leftIfAcquainted_25 rfl rfl ?_
    refine V.iconst (0 : Int32) dE_leftIfAcquainted_26 lc0 rfl ?_
    obtain ⟨q9, σ9, c8, hX⟩ := bi2 hX; try dsimp only at hX
    refine V.callvi 0 [.int i1, .int (0 : Int32)] dE_leftIfAcquainted_27 (kE_look c8) mlE_168 myE_look mnE_look ⟨rfl, rfl, by decide, by decide⟩ (rfl : kd 0 = (5, 0)) (by decide) rfl (Nat.le_of_ble_eq_true rfl) ⟨Nat.zero_le _, Nat.zero_le _⟩ rfl ?_
    refine V.istore _ dE_leftIfAcquainted_30 (by decide) rfl rfl ?_
    refine V.aloadn 1 dE_leftIfAcquainted_32 rfl rfl ?_
    refine V.getd 0 dE_leftIfAcquainted_33 flE_10 (rfl : kd 0 = (5, 0)) rfl ?_
    refine V.iloadn 3 dE_leftIfAcquainted_36 rfl rfl ?_
    refine V.iloadn 4 dE_leftIfAcquainted_37 rfl rfl ?_
    refine V.iconst (0 : Int32) dE_leftIfAcquainted_38 lc0 rfl ?_
    obtain ⟨h10, hX⟩ := ob hX
    obtain ⟨σ12, c11, hX⟩ := bd hX; try dsimp only at hX
    refine V.callv0 (gR σ9 0) [.int i2, .int i3, .int (0 : Int32)] dE_leftIfAcquainted_39 (kT_acquaint h10 c11) mlE_108 myT_acquaint mnT_acquaint ⟨rfl, rfl, by decide, by decide⟩ (tk0 h10) (by decide) rfl (Nat.le_of_ble_eq_true rfl) ⟨Nat.zero_le _, Nat.zero_le _⟩ rfl ?_
    refine V.iload 0 dE_leftIfAcquainted_42 rfl rfl ?_
    have hX := (Option.some.inj hX).symm; subst hX; exact V.iret dE_leftIfAcquainted_44 rfl rfl
  · replace hX := im hX g4
    refine V.iconst (0 : Int32) dE_leftIfAcquainted_12 lc0 rfl ?_
    have hX := (Option.some.inj hX).symm; subst hX; exact V.iret dE_leftIfAcquainted_13 rfl rfl
theorem kE_leftIfAcquainted {E : Ev} {σ σ2 : St} {i1 : Int32} {i2 : Int32} {i3 : Int32} {z : Int32} (h : fE_leftIfAcquainted σ i1 i2 i3 = some (z, σ2)) : Ct mE_leftIfAcquainted E [.ref 0, .int i1, .int i2, .int i3] σ (some (.int z), σ2) := Ct.of (by decide) (Nat.le_of_ble_eq_true rfl) (wE_leftIfAcquainted σ i1 i2 i3 h)
theorem dE_friend_0 : decode mE_friend.1 0 = .ok (.aload_n 0, 1) := by decide +kernel
theorem dE_friend_1 : decode mE_friend.1 1 = .ok (.getfield 10, 3) := by decide +kernel
theorem dE_friend_4 : decode mE_friend.1 4 = .ok (.iload_n 1, 1) := by decide +kernel
theorem dE_friend_5 : decode mE_friend.1 5 = .ok (.invokevirtual 125, 3) := by decide +kernel
theorem dE_friend_8 : decode mE_friend.1 8 = .ok (.ifCond .ne 5, 3) := by decide +kernel
theorem dE_friend_11 : decode mE_friend.1 11 = .ok (.iconst (-1), 1) := by decide +kernel
theorem dE_friend_12 : decode mE_friend.1 12 = .ok (.ireturn, 1) := by decide +kernel
theorem dE_friend_13 : decode mE_friend.1 13 = .ok (.bipush (-3), 2) := by decide +kernel
theorem dE_friend_15 : decode mE_friend.1 15 = .ok (.istore_n 2, 1) := by decide +kernel
theorem dE_friend_16 : decode mE_friend.1 16 = .ok (.aload_n 0, 1) := by decide +kernel
theorem dE_friend_17 : decode mE_friend.1 17 = .ok (.iload_n 1, 1) := by decide +kernel
theorem dE_friend_18 : decode mE_friend.1 18 = .ok (.iconst 0, 1) := by decide +kernel
theorem dE_friend_19 : decode mE_friend.1 19 = .ok (.invokevirtual 168, 3) := by decide +kernel
theorem dE_friend_22 : decode mE_friend.1 22 = .ok (.istore_n 3, 1) := by decide +kernel
theorem dE_friend_23 : decode mE_friend.1 23 = .ok (.iconst 0, 1) := by decide +kernel
theorem dE_friend_24 : decode mE_friend.1 24 = .ok (.istore 4, 2) := by decide +kernel
theorem dE_friend_26 : decode mE_friend.1 26 = .ok (.iload 4, 2) := by decide +kernel
theorem dE_friend_28 : decode mE_friend.1 28 = .ok (.aload_n 0, 1) := by decide +kernel
theorem dE_friend_29 : decode mE_friend.1 29 = .ok (.getfield 10, 3) := by decide +kernel
theorem dE_friend_32 : decode mE_friend.1 32 = .ok (.getfield 75, 3) := by decide +kernel
theorem dE_friend_35 : decode mE_friend.1 35 = .ok (.if_icmp .ge 62, 3) := by decide +kernel
theorem dE_friend_38 : decode mE_friend.1 38 = .ok (.iload 4, 2) := by decide +kernel
theorem dE_friend_40 : decode mE_friend.1 40 = .ok (.iconst 1, 1) := by decide +kernel
theorem dE_friend_41 : decode mE_friend.1 41 = .ok (.iadd, 1) := by decide +kernel
theorem dE_friend_42 : decode mE_friend.1 42 = .ok (.istore 5, 2) := by decide +kernel
theorem dE_friend_44 : decode mE_friend.1 44 = .ok (.iload 5, 2) := by decide +kernel
theorem dE_friend_46 : decode mE_friend.1 46 = .ok (.aload_n 0, 1) := by decide +kernel
theorem dE_friend_47 : decode mE_friend.1 47 = .ok (.getfield 10, 3) := by decide +kernel
theorem dE_friend_50 : decode mE_friend.1 50 = .ok (.getfield 75, 3) := by decide +kernel
theorem dE_friend_53 : decode mE_friend.1 53 = .ok (.if_icmp .ge 38, 3) := by decide +kernel
theorem dE_friend_56 : decode mE_friend.1 56 = .ok (.aload_n 0, 1) := by decide +kernel
theorem dE_friend_57 : decode mE_friend.1 57 = .ok (.iload_n 1, 1) := by decide +kernel
theorem dE_friend_58 : decode mE_friend.1 58 = .ok (.iload 4, 2) := by decide +kernel
theorem dE_friend_60 : decode mE_friend.1 60 = .ok (.iload 5, 2) := by decide +kernel
theorem dE_friend_62 : decode mE_friend.1 62 = .ok (.invokevirtual 181, 3) := by decide +kernel
theorem dE_friend_65 : decode mE_friend.1 65 = .ok (.istore 6, 2) := by decide +kernel
theorem dE_friend_67 : decode mE_friend.1 67 = .ok (.iload 6, 2) := by decide +kernel
theorem dE_friend_69 : decode mE_friend.1 69 = .ok (.iload_n 3, 1) := by decide +kernel
theorem dE_friend_70 : decode mE_friend.1 70 = .ok (.if_icmp .le 15, 3) := by decide +kernel
theorem dE_friend_73 : decode mE_friend.1 73 = .ok (.bipush 10, 2) := by decide +kernel
theorem dE_friend_75 : decode mE_friend.1 75 = .ok (.iload 4, 2) := by decide +kernel
theorem dE_friend_77 : decode mE_friend.1 77 = .ok (.imul, 1) := by decide +kernel
theorem dE_friend_78 : decode mE_friend.1 78 = .ok (.iload 5, 2) := by decide +kernel
theorem dE_friend_80 : decode mE_friend.1 80 = .ok (.iadd, 1) := by decide +kernel
theorem dE_friend_81 : decode mE_friend.1 81 = .ok (.istore_n 2, 1) := by decide +kernel
theorem dE_friend_82 : decode mE_friend.1 82 = .ok (.iload 6, 2) := by decide +kernel
theorem dE_friend_84 : decode mE_friend.1 84 = .ok (.istore_n 3, 1) := by decide +kernel
theorem dE_friend_85 : decode mE_friend.1 85 = .ok (.iinc 5 1, 3) := by decide +kernel
theorem dE_friend_88 : decode mE_friend.1 88 = .ok (.goto (-44), 3) := by decide +kernel
theorem dE_friend_91 : decode mE_friend.1 91 = .ok (.iinc 4 1, 3) := by decide +kernel
theorem dE_friend_94 : decode mE_friend.1 94 = .ok (.goto (-68), 3) := by decide +kernel
theorem dE_friend_97 : decode mE_friend.1 97 = .ok (.iload_n 2, 1) := by decide +kernel
theorem dE_friend_98 : decode mE_friend.1 98 = .ok (.ireturn, 1) := by decide +kernel
set_option maxRecDepth 4000 in
theorem wE_friend_44 {E : Ev} {z : Int32 × St} : ∀ (fu : Nat) (σ : St) (i1 : Int32) (i2 : Int32) (i3 : Int32) (i4 : Int32) (i5 : Int32) (K0 : St → Int32 → Int32 → Int32 → Int32 → Option (Int32 × St)) (hK0 : ∀ (σ : St) (i1 : Int32) (i2 : Int32) (i3 : Int32) (i4 : Int32), K0 σ i1 i2 i3 i4 = some z → V E mE_friend (FM E (some (.int z.1), z.2)) 91 [(0, .ref 0), (1, .int i1), (2, .int i2), (3, .int i3), (4, .int i4)] [] σ), fE_friend_44 fu σ i1 i2 i3 i4 i5 K0 = some z → V E mE_friend (FM E (some (.int z.1), z.2)) 44 [(0, .ref 0), (1, .int i1), (2, .int i2), (3, .int i3), (4, .int i4), (5, .int i5)] [] σ := by
  intro fu
  induction fu with
  | zero => intro σ i1 i2 i3 i4 i5 K0 hK0 hX; cases hX
  | succ fu ih =>
    intro σ i1 i2 i3 i4 i5 K0 hK0 hX
    rw [fE_friend_44] at hX
    refine V.iload 5 dE_friend_44 rfl rfl ?_
    refine V.aloadn 0 dE_friend_46 rfl rfl ?_
    refine V.getd 0 dE_friend_47 flE_10 (rfl : kd 0 = (5, 0)) rfl ?_
    obtain ⟨h8, hX⟩ := ob hX
    refine V.geti (gR σ 0) dE_friend_50 flE_75 (tk0 h8) rfl ?_
    refine V.icmpge 91 dE_friend_53 rfl rfl (fun g9 => ?_) (fun g9 => ?_)
    · replace hX := ip hX g9
      refine V.sub [0, 1, 2, 3, 4] rfl ?_
      exact hK0 σ i1 i2 i3 i4 hX
    · replace hX := im hX g9
      refine V.aloadn 0 dE_friend_56 rfl rfl ?_
      refine V.iloadn 1 dE_friend_57 rfl rfl ?_
      refine V.iload 4 dE_friend_58 rfl rfl ?_
      refine V.iload 5 dE_friend_60 rfl rfl ?_
      obtain ⟨q11, σ11, c10, hX⟩ := bi2 hX; try dsimp only at hX
      refine V.callvi 0 [.int i1, .int i4, .int i5] dE_friend_62 (kE_leftIfAcquainted c10) mlE_181 myE_leftIfAcquainted mnE_leftIfAcquainted ⟨rfl, rfl, by decide, by decide⟩ (rfl : kd 0 = (5, 0)) (by decide) rfl (Nat.le_of_ble_eq_true rfl) ⟨Nat.zero_le _, Nat.zero_le _⟩ rfl ?_
      refine V.istore _ dE_friend_65 (by decide) rfl rfl ?_
      refine V.iload 0 dE_friend_67 rfl rfl ?_
      refine V.iloadn 4 dE_friend_69 rfl rfl ?_
      refine V.icmple 85 dE_friend_70 rfl rfl (fun g12 => ?_) (fun g12 => ?_)
      · replace hX := ip hX g12
        refine V.iinc 6 (1 : Int32) _ dE_friend_85 rfl lc1 (by decide) rfl rfl ?_
        replace hX := nmx hX; generalize i5 + (1 : Int32) = v13 at hX ⊢; try dsimp only at hX
        refine V.goto 44 dE_friend_88 rfl ?_
        refine V.sub [2, 3, 4, 5, 6, 0] rfl ?_
        exact ih σ11 i1 i2 i3 i4 v13 K0 hK0 hX
      · replace hX := im hX g12
        refine V.bipush (10 : Int32) dE_friend_73 lb10 rfl ?_
        refine V.iload 5 dE_friend_75 rfl rfl ?_
        refine V.imul dE_friend_77 rfl ?_
        refine V.iload 6 dE_friend_78 rfl rfl ?_
        refine V.iadd dE_friend_80 rfl ?_
        refine V.istoren _ dE_friend_81 (by decide) rfl rfl ?_
        replace hX := nmx hX; generalize ((10 : Int32) * i4) + i5 = v14 at hX ⊢; try dsimp only at hX
        refine V.iload 1 dE_friend_82 rfl rfl ?_
        refine V.istoren _ dE_friend_84 (by decide) rfl rfl ?_
        refine V.iinc 6 (1 : Int32) _ dE_friend_85 rfl lc1 (by decide) rfl rfl ?_
        replace hX := nmx hX; generalize i5 + (1 : Int32) = v15 at hX ⊢; try dsimp only at hX
        refine V.goto 44 dE_friend_88 rfl ?_
        refine V.sub [4, 5, 2, 1, 6, 0] rfl ?_
        exact ih σ11 i1 v14 q11 i4 v15 K0 hK0 hX
set_option maxRecDepth 4000 in
theorem wE_friend_26 {E : Ev} {z : Int32 × St} : ∀ (fu : Nat) (σ : St) (i1 : Int32) (i2 : Int32) (i3 : Int32) (i4 : Int32), fE_friend_26 fu σ i1 i2 i3 i4 = some z → V E mE_friend (FM E (some (.int z.1), z.2)) 26 [(0, .ref 0), (1, .int i1), (2, .int i2), (3, .int i3), (4, .int i4)] [] σ := by
  intro fu
  induction fu with
  | zero => intro σ i1 i2 i3 i4 hX; cases hX
  | succ fu ih =>
    intro σ i1 i2 i3 i4 hX
    rw [fE_friend_26] at hX
    refine V.iload 4 dE_friend_26 rfl rfl ?_
    refine V.aloadn 0 dE_friend_28 rfl rfl ?_
    refine V.getd 0 dE_friend_29 flE_10 (rfl : kd 0 = (5, 0)) rfl ?_
    obtain ⟨h5, hX⟩ := ob hX
    refine V.geti (gR σ 0) dE_friend_32 flE_75 (tk0 h5) rfl ?_
    refine V.icmpge 97 dE_friend_35 rfl rfl (fun g6 => ?_) (fun g6 => ?_)
    · replace hX := ip hX g6
      refine V.iloadn 2 dE_friend_97 rfl rfl ?_
      have hX := (Option.some.inj hX).symm; subst hX; exact V.iret dE_friend_98 rfl rfl
    · replace hX := im hX g6
      refine V.iload 4 dE_friend_38 rfl rfl ?_
      refine V.iconst (1 : Int32) dE_friend_40 lc1 rfl ?_
      refine V.iadd dE_friend_41 rfl ?_
      refine V.istore _ dE_friend_42 (by decide) rfl rfl ?_
      replace hX := nmx hX; generalize i4 + (1 : Int32) = v7 at hX ⊢; try dsimp only at hX
      refine V.sub [1, 2, 3, 4, 5, 0] rfl ?_
      refine wE_friend_44 300 σ i1 i2 i3 i4 v7 _ ?_ hX
      · intro σ16 y17 y18 y19 y20 hX; try dsimp only at hX
        refine V.iinc 4 (1 : Int32) _ dE_friend_91 rfl lc1 (by decide) rfl rfl ?_
        replace hX := nmx hX; generalize y20 + (1 : Int32) = v21 at hX ⊢; try dsimp only at hX
        refine V.goto 26 dE_friend_94 rfl ?_
        refine V.sub [1, 2, 3, 4, 0] rfl ?_
        exact ih σ16 y17 y18 y19 v21 hX
set_option maxRecDepth 4000 in
theorem wE_friend {E : Ev} {z : Int32 × St} (σ : St) (i1 : Int32) (hX : fE_friend σ i1 = some z) : V E mE_friend (FM E (some (.int z.1), z.2)) 0 [(0, .ref 0), (1, .int i1)] [] σ := by
  unfold fE_friend at hX
  refine V.aloadn 0 dE_friend_0 rfl rfl ?_
  refine V.getd 0 dE_friend_1 flE_10 (rfl : kd 0 = (5, 0)) rfl ?_
  refine V.iloadn 1 dE_friend_4 rfl rfl ?_
  obtain ⟨h1, hX⟩ := ob hX
  refine V.callvi (gR σ 0) [.int i1] dE_friend_5 (kT_hasCoin (σ := σ) (gR σ 0) i1 h1) mlE_125 myT_hasCoin mnT_hasCoin ⟨rfl, rfl, by decide, by decide⟩ (tk0 h1) (by decide) rfl (Nat.le_of_ble_eq_true rfl) ⟨Nat.zero_le _, Nat.zero_le _⟩ rfl ?_
  refine V.ifne 13 dE_friend_8 rfl rfl (fun g2 => ?_) (fun g2 => ?_)
  · replace hX := im hX g2
    refine V.bipush (-3 : Int32) dE_friend_13 lbm3 rfl ?_
    refine V.istoren _ dE_friend_15 (by decide) rfl rfl ?_
    refine V.aloadn 1 dE_friend_16 rfl rfl ?_
    refine V.iloadn 2 dE_friend_17 rfl rfl ?_
    refine V.iconst (0 : Int32) dE_friend_18 lc0 rfl ?_
    obtain ⟨q4, σ4, c3, hX⟩ := bi2 hX; try dsimp only at hX
    refine V.callvi 0 [.int i1, .int (0 : Int32)] dE_friend_19 (kE_look c3) mlE_168 myE_look mnE_look ⟨rfl, rfl, by decide, by decide⟩ (rfl : kd 0 = (5, 0)) (by decide) rfl (Nat.le_of_ble_eq_true rfl) ⟨Nat.zero_le _, Nat.zero_le _⟩ rfl ?_
    refine V.istoren _ dE_friend_22 (by decide) rfl rfl ?_
    refine V.iconst (0 : Int32) dE_friend_23 lc0 rfl ?_
    refine V.istore _ dE_friend_24 (by decide) rfl rfl ?_
    refine V.sub [3, 4, 2, 1, 0] rfl ?_
    exact wE_friend_26 300 σ4 i1 (-3 : Int32) q4 (0 : Int32) hX
  · replace hX := ip hX g2
    refine V.iconst (-1 : Int32) dE_friend_11 lcm1 rfl ?_
    have hX := (Option.some.inj hX).symm; subst hX; exact V.iret dE_friend_12 rfl rfl
theorem kE_friend {E : Ev} {σ σ2 : St} {i1 : Int32} {z : Int32} (h : fE_friend σ i1 = some (z, σ2)) : Ct mE_friend E [.ref 0, .int i1] σ (some (.int z), σ2) := Ct.of (by decide) (Nat.le_of_ble_eq_true rfl) (wE_friend σ i1 h)
theorem dE_heir_0 : decode mE_heir.1 0 = .ok (.aload_n 0, 1) := by decide +kernel
theorem dE_heir_1 : decode mE_heir.1 1 = .ok (.getfield 10, 3) := by decide +kernel
theorem dE_heir_4 : decode mE_heir.1 4 = .ok (.iload_n 1, 1) := by decide +kernel
theorem dE_heir_5 : decode mE_heir.1 5 = .ok (.invokevirtual 86, 3) := by decide +kernel
theorem dE_heir_8 : decode mE_heir.1 8 = .ok (.ifCond .eq 12, 3) := by decide +kernel
theorem dE_heir_11 : decode mE_heir.1 11 = .ok (.iload_n 2, 1) := by decide +kernel
theorem dE_heir_12 : decode mE_heir.1 12 = .ok (.ifCond .lt 8, 3) := by decide +kernel
theorem dE_heir_15 : decode mE_heir.1 15 = .ok (.iload_n 2, 1) := by decide +kernel
theorem dE_heir_16 : decode mE_heir.1 16 = .ok (.iconst 1, 1) := by decide +kernel
theorem dE_heir_17 : decode mE_heir.1 17 = .ok (.if_icmp .le 5, 3) := by decide +kernel
theorem dE_heir_20 : decode mE_heir.1 20 = .ok (.iconst (-1), 1) := by decide +kernel
theorem dE_heir_21 : decode mE_heir.1 21 = .ok (.ireturn, 1) := by decide +kernel
theorem dE_heir_22 : decode mE_heir.1 22 = .ok (.bipush (-3), 2) := by decide +kernel
theorem dE_heir_24 : decode mE_heir.1 24 = .ok (.istore_n 3, 1) := by decide +kernel
theorem dE_heir_25 : decode mE_heir.1 25 = .ok (.bipush (-3), 2) := by decide +kernel
theorem dE_heir_27 : decode mE_heir.1 27 = .ok (.istore 4, 2) := by decide +kernel
theorem dE_heir_29 : decode mE_heir.1 29 = .ok (.iconst 0, 1) := by decide +kernel
theorem dE_heir_30 : decode mE_heir.1 30 = .ok (.istore 5, 2) := by decide +kernel
theorem dE_heir_32 : decode mE_heir.1 32 = .ok (.iload 5, 2) := by decide +kernel
theorem dE_heir_34 : decode mE_heir.1 34 = .ok (.aload_n 0, 1) := by decide +kernel
theorem dE_heir_35 : decode mE_heir.1 35 = .ok (.getfield 10, 3) := by decide +kernel
theorem dE_heir_38 : decode mE_heir.1 38 = .ok (.getfield 75, 3) := by decide +kernel
theorem dE_heir_41 : decode mE_heir.1 41 = .ok (.if_icmp .ge 54, 3) := by decide +kernel
theorem dE_heir_44 : decode mE_heir.1 44 = .ok (.aload_n 0, 1) := by decide +kernel
theorem dE_heir_45 : decode mE_heir.1 45 = .ok (.getfield 10, 3) := by decide +kernel
theorem dE_heir_48 : decode mE_heir.1 48 = .ok (.iload_n 1, 1) := by decide +kernel
theorem dE_heir_49 : decode mE_heir.1 49 = .ok (.iload 5, 2) := by decide +kernel
theorem dE_heir_51 : decode mE_heir.1 51 = .ok (.invokevirtual 175, 3) := by decide +kernel
theorem dE_heir_54 : decode mE_heir.1 54 = .ok (.istore 6, 2) := by decide +kernel
theorem dE_heir_56 : decode mE_heir.1 56 = .ok (.iload 6, 2) := by decide +kernel
theorem dE_heir_58 : decode mE_heir.1 58 = .ok (.ifCond .eq 31, 3) := by decide +kernel
theorem dE_heir_61 : decode mE_heir.1 61 = .ok (.aload_n 0, 1) := by decide +kernel
theorem dE_heir_62 : decode mE_heir.1 62 = .ok (.getfield 10, 3) := by decide +kernel
theorem dE_heir_65 : decode mE_heir.1 65 = .ok (.iload 6, 2) := by decide +kernel
theorem dE_heir_67 : decode mE_heir.1 67 = .ok (.invokevirtual 178, 3) := by decide +kernel
theorem dE_heir_70 : decode mE_heir.1 70 = .ok (.iload 4, 2) := by decide +kernel
theorem dE_heir_72 : decode mE_heir.1 72 = .ok (.if_icmp .le 17, 3) := by decide +kernel
theorem dE_heir_75 : decode mE_heir.1 75 = .ok (.iload 5, 2) := by decide +kernel
theorem dE_heir_77 : decode mE_heir.1 77 = .ok (.istore_n 3, 1) := by decide +kernel
theorem dE_heir_78 : decode mE_heir.1 78 = .ok (.aload_n 0, 1) := by decide +kernel
theorem dE_heir_79 : decode mE_heir.1 79 = .ok (.getfield 10, 3) := by decide +kernel
theorem dE_heir_82 : decode mE_heir.1 82 = .ok (.iload 6, 2) := by decide +kernel
theorem dE_heir_84 : decode mE_heir.1 84 = .ok (.invokevirtual 178, 3) := by decide +kernel
theorem dE_heir_87 : decode mE_heir.1 87 = .ok (.istore 4, 2) := by decide +kernel
theorem dE_heir_89 : decode mE_heir.1 89 = .ok (.iinc 5 1, 3) := by decide +kernel
theorem dE_heir_92 : decode mE_heir.1 92 = .ok (.goto (-60), 3) := by decide +kernel
theorem dE_heir_95 : decode mE_heir.1 95 = .ok (.iload_n 2, 1) := by decide +kernel
theorem dE_heir_96 : decode mE_heir.1 96 = .ok (.ifCond .ne 7, 3) := by decide +kernel
theorem dE_heir_99 : decode mE_heir.1 99 = .ok (.iload_n 3, 1) := by decide +kernel
theorem dE_heir_100 : decode mE_heir.1 100 = .ok (.goto 5, 3) := by decide +kernel
theorem dE_heir_103 : decode mE_heir.1 103 = .ok (.iload 4, 2) := by decide +kernel
theorem dE_heir_105 : decode mE_heir.1 105 = .ok (.ireturn, 1) := by decide +kernel
set_option maxRecDepth 4000 in
theorem wE_heir_95 {E : Ev} {z : Int32} (σ : St) (i2 : Int32) (i3 : Int32) (i4 : Int32) (hX : fE_heir_95 σ i2 i3 i4 = some z) : V E mE_heir (FM E (some (.int z), σ)) 95 [(2, .int i2), (3, .int i3), (4, .int i4)] [] σ := by
  unfold fE_heir_95 at hX
  refine V.iloadn 0 dE_heir_95 rfl rfl ?_
  have JJ : V E mE_heir (FM E (some (.int z), σ)) 105 [(2, .int i2), (3, .int i3), (4, .int i4)] [.int (if i2 = 0 then i3 else i4)] σ := by
    have hX := (Option.some.inj hX).symm; subst hX; exact V.iret dE_heir_105 rfl rfl
  refine V.ifne 103 dE_heir_96 rfl rfl (fun g7 => ?_) (fun g7 => ?_)
  · refine V.iload 2 dE_heir_103 rfl rfl ?_
    exact V.top (if_neg g7).symm JJ
  · refine V.iloadn 1 dE_heir_99 rfl rfl ?_
    refine V.goto 105 dE_heir_100 rfl ?_
    exact V.top (if_pos g7).symm JJ
set_option maxRecDepth 4000 in
theorem wE_heir_32 {E : Ev} {z : Int32} : ∀ (fu : Nat) (σ : St) (i1 : Int32) (i2 : Int32) (i3 : Int32) (i4 : Int32) (i5 : Int32), fE_heir_32 fu σ i1 i2 i3 i4 i5 = some z → V E mE_heir (FM E (some (.int z), σ)) 32 [(0, .ref 0), (1, .int i1), (2, .int i2), (3, .int i3), (4, .int i4), (5, .int i5)] [] σ := by
  intro fu
  induction fu with
  | zero => intro σ i1 i2 i3 i4 i5 hX; cases hX
  | succ fu ih =>
    intro σ i1 i2 i3 i4 i5 hX
    rw [fE_heir_32] at hX
    refine V.iload 5 dE_heir_32 rfl rfl ?_
    refine V.aloadn 0 dE_heir_34 rfl rfl ?_
    refine V.getd 0 dE_heir_35 flE_10 (rfl : kd 0 = (5, 0)) rfl ?_
    obtain ⟨h5, hX⟩ := ob hX
    refine V.geti (gR σ 0) dE_heir_38 flE_75 (tk0 h5) rfl ?_
    refine V.icmpge 95 dE_heir_41 rfl rfl (fun g6 => ?_) (fun g6 => ?_)
    · replace hX := ip hX g6
      refine V.sub [2, 3, 4] rfl ?_
      exact wE_heir_95 σ i2 i3 i4 hX
    · replace hX := im hX g6
      refine V.aloadn 0 dE_heir_44 rfl rfl ?_
      refine V.getd 0 dE_heir_45 flE_10 (rfl : kd 0 = (5, 0)) rfl ?_
      refine V.iloadn 1 dE_heir_48 rfl rfl ?_
      refine V.iload 5 dE_heir_49 rfl rfl ?_
      obtain ⟨h8, hX⟩ := ob hX
      obtain ⟨q9, c10, hX⟩ := bd hX; try dsimp only at hX
      refine V.callvi (gR σ 0) [.int i1, .int i5] dE_heir_51 (kT_purseFor h8 c10) mlE_175 myT_purseFor mnT_purseFor ⟨rfl, rfl, by decide, by decide⟩ (tk0 h8) (by decide) rfl (Nat.le_of_ble_eq_true rfl) ⟨Nat.zero_le _, Nat.zero_le _⟩ rfl ?_
      refine V.istore _ dE_heir_54 (by decide) rfl rfl ?_
      refine V.iload 0 dE_heir_56 rfl rfl ?_
      refine V.ifeq 89 dE_heir_58 rfl rfl (fun g11 => ?_) (fun g11 => ?_)
      · replace hX := ip hX g11
        refine V.iinc 6 (1 : Int32) _ dE_heir_89 rfl lc1 (by decide) rfl rfl ?_
        replace hX := nmx hX; generalize i5 + (1 : Int32) = v12 at hX ⊢; try dsimp only at hX
        refine V.goto 32 dE_heir_92 rfl ?_
        refine V.sub [2, 3, 4, 5, 6, 0] rfl ?_
        exact ih σ i1 i2 i3 i4 v12 hX
      · replace hX := im hX g11
        refine V.aloadn 1 dE_heir_61 rfl rfl ?_
        refine V.getd 0 dE_heir_62 flE_10 (rfl : kd 0 = (5, 0)) rfl ?_
        refine V.iload 0 dE_heir_65 rfl rfl ?_
        obtain ⟨h13, hX⟩ := ob hX
        obtain ⟨q14, c15, hX⟩ := bd hX; try dsimp only at hX
        refine V.callvi (gR σ 0) [.int q9] dE_heir_67 (kT_worthOfAll h13 c15) mlE_178 myT_worthOfAll mnT_worthOfAll ⟨rfl, rfl, by decide, by decide⟩ (tk0 h13) (by decide) rfl (Nat.le_of_ble_eq_true rfl) ⟨Nat.zero_le _, Nat.zero_le _⟩ rfl ?_
        refine V.iload 5 dE_heir_70 rfl rfl ?_
        refine V.icmple 89 dE_heir_72 rfl rfl (fun g16 => ?_) (fun g16 => ?_)
        · replace hX := ip hX g16
          refine V.iinc 6 (1 : Int32) _ dE_heir_89 rfl lc1 (by decide) rfl rfl ?_
          replace hX := nmx hX; generalize i5 + (1 : Int32) = v17 at hX ⊢; try dsimp only at hX
          refine V.goto 32 dE_heir_92 rfl ?_
          refine V.sub [2, 3, 4, 5, 6, 0] rfl ?_
          exact ih σ i1 i2 i3 i4 v17 hX
        · replace hX := im hX g16
          refine V.iload 6 dE_heir_75 rfl rfl ?_
          refine V.istoren _ dE_heir_77 (by decide) rfl rfl ?_
          refine V.aloadn 2 dE_heir_78 rfl rfl ?_
          refine V.getd 0 dE_heir_79 flE_10 (rfl : kd 0 = (5, 0)) rfl ?_
          refine V.iload 1 dE_heir_82 rfl rfl ?_
          obtain ⟨h18, hX⟩ := ob hX
          obtain ⟨q19, c20, hX⟩ := bd hX; try dsimp only at hX
          refine V.callvi (gR σ 0) [.int q9] dE_heir_84 (kT_worthOfAll h18 c20) mlE_178 myT_worthOfAll mnT_worthOfAll ⟨rfl, rfl, by decide, by decide⟩ (tk0 h18) (by decide) rfl (Nat.le_of_ble_eq_true rfl) ⟨Nat.zero_le _, Nat.zero_le _⟩ rfl ?_
          refine V.istore _ dE_heir_87 (by decide) rfl rfl ?_
          refine V.iinc 6 (1 : Int32) _ dE_heir_89 rfl lc1 (by decide) rfl rfl ?_
          replace hX := nmx hX; generalize i5 + (1 : Int32) = v21 at hX ⊢; try dsimp only at hX
          refine V.goto 32 dE_heir_92 rfl ?_
          refine V.sub [4, 5, 6, 2, 1, 0] rfl ?_
          exact ih σ i1 i2 i5 q19 v21 hX
set_option maxRecDepth 4000 in
theorem wE_heir {E : Ev} {z : Int32} (σ : St) (i1 : Int32) (i2 : Int32) (hX : fE_heir σ i1 i2 = some z) : V E mE_heir (FM E (some (.int z), σ)) 0 [(0, .ref 0), (1, .int i1), (2, .int i2)] [] σ := by
  unfold fE_heir at hX
  refine V.aloadn 0 dE_heir_0 rfl rfl ?_
  refine V.getd 0 dE_heir_1 flE_10 (rfl : kd 0 = (5, 0)) rfl ?_
  refine V.iloadn 1 dE_heir_4 rfl rfl ?_
  obtain ⟨h1, hX⟩ := ob hX
  refine V.callvi (gR σ 0) [.int i1] dE_heir_5 (kT_hasPerson (σ := σ) (gR σ 0) i1 h1) mlE_86 myT_hasPerson mnT_hasPerson ⟨rfl, rfl, by decide, by decide⟩ (tk0 h1) (by decide) rfl (Nat.le_of_ble_eq_true rfl) ⟨Nat.zero_le _, Nat.zero_le _⟩ rfl ?_
  refine V.ifeq 20 dE_heir_8 rfl rfl (fun g2 => ?_) (fun g2 => ?_)
  · replace hX := ip hX g2
    refine V.iconst (-1 : Int32) dE_heir_20 lcm1 rfl ?_
    have hX := (Option.some.inj hX).symm; subst hX; exact V.iret dE_heir_21 rfl rfl
  · replace hX := im hX g2
    refine V.iloadn 2 dE_heir_11 rfl rfl ?_
    refine V.iflt 20 dE_heir_12 rfl rfl (fun g3 => ?_) (fun g3 => ?_)
    · replace hX := ip hX g3
      refine V.iconst (-1 : Int32) dE_heir_20 lcm1 rfl ?_
      have hX := (Option.some.inj hX).symm; subst hX; exact V.iret dE_heir_21 rfl rfl
    · replace hX := im hX g3
      refine V.iloadn 2 dE_heir_15 rfl rfl ?_
      refine V.iconst (1 : Int32) dE_heir_16 lc1 rfl ?_
      refine V.icmple 22 dE_heir_17 rfl rfl (fun g4 => ?_) (fun g4 => ?_)
      · replace hX := ip hX g4
        refine V.bipush (-3 : Int32) dE_heir_22 lbm3 rfl ?_
        refine V.istoren _ dE_heir_24 (by decide) rfl rfl ?_
        refine V.bipush (-3 : Int32) dE_heir_25 lbm3 rfl ?_
        refine V.istore _ dE_heir_27 (by decide) rfl rfl ?_
        refine V.iconst (0 : Int32) dE_heir_29 lc0 rfl ?_
        refine V.istore _ dE_heir_30 (by decide) rfl rfl ?_
        refine V.sub [3, 4, 5, 2, 1, 0] rfl ?_
        exact wE_heir_32 300 σ i1 i2 (-3 : Int32) (-3 : Int32) (0 : Int32) hX
      · replace hX := im hX g4
        refine V.iconst (-1 : Int32) dE_heir_20 lcm1 rfl ?_
        have hX := (Option.some.inj hX).symm; subst hX; exact V.iret dE_heir_21 rfl rfl
theorem kE_heir {E : Ev} {σ : St} {i1 : Int32} {i2 : Int32} {z : Int32} (h : fE_heir σ i1 i2 = some z) : Ct mE_heir E [.ref 0, .int i1, .int i2] σ (some (.int z), σ) := Ct.of (by decide) (Nat.le_of_ble_eq_true rfl) (wE_heir σ i1 i2 h)
