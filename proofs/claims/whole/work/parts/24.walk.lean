theorem dE_least_0 : decode mE_least.1 0 = .ok (.bipush (-3), 2) := by decide +kernel
theorem dE_least_2 : decode mE_least.1 2 = .ok (.istore_n 1, 1) := by decide +kernel
theorem dE_least_3 : decode mE_least.1 3 = .ok (.bipush 7, 2) := by decide +kernel
theorem dE_least_5 : decode mE_least.1 5 = .ok (.istore_n 2, 1) := by decide +kernel
theorem dE_least_6 : decode mE_least.1 6 = .ok (.iconst 0, 1) := by decide +kernel
theorem dE_least_7 : decode mE_least.1 7 = .ok (.istore_n 3, 1) := by decide +kernel
theorem dE_least_8 : decode mE_least.1 8 = .ok (.iload_n 3, 1) := by decide +kernel
theorem dE_least_9 : decode mE_least.1 9 = .ok (.aload_n 0, 1) := by decide +kernel
theorem dE_least_10 : decode mE_least.1 10 = .ok (.getfield 10, 3) := by decide +kernel
theorem dE_least_13 : decode mE_least.1 13 = .ok (.getfield 118, 3) := by decide +kernel
theorem dE_least_16 : decode mE_least.1 16 = .ok (.if_icmp .ge 28, 3) := by decide +kernel
theorem dE_least_19 : decode mE_least.1 19 = .ok (.aload_n 0, 1) := by decide +kernel
theorem dE_least_20 : decode mE_least.1 20 = .ok (.iload_n 3, 1) := by decide +kernel
theorem dE_least_21 : decode mE_least.1 21 = .ok (.iconst 0, 1) := by decide +kernel
theorem dE_least_22 : decode mE_least.1 22 = .ok (.invokevirtual 168, 3) := by decide +kernel
theorem dE_least_25 : decode mE_least.1 25 = .ok (.istore 4, 2) := by decide +kernel
theorem dE_least_27 : decode mE_least.1 27 = .ok (.iload 4, 2) := by decide +kernel
theorem dE_least_29 : decode mE_least.1 29 = .ok (.iload_n 2, 1) := by decide +kernel
theorem dE_least_30 : decode mE_least.1 30 = .ok (.if_icmp .ge 8, 3) := by decide +kernel
theorem dE_least_33 : decode mE_least.1 33 = .ok (.iload_n 3, 1) := by decide +kernel
theorem dE_least_34 : decode mE_least.1 34 = .ok (.istore_n 1, 1) := by decide +kernel
theorem dE_least_35 : decode mE_least.1 35 = .ok (.iload 4, 2) := by decide +kernel
theorem dE_least_37 : decode mE_least.1 37 = .ok (.istore_n 2, 1) := by decide +kernel
theorem dE_least_38 : decode mE_least.1 38 = .ok (.iinc 3 1, 3) := by decide +kernel
theorem dE_least_41 : decode mE_least.1 41 = .ok (.goto (-33), 3) := by decide +kernel
theorem dE_least_44 : decode mE_least.1 44 = .ok (.iload_n 1, 1) := by decide +kernel
theorem dE_least_45 : decode mE_least.1 45 = .ok (.ireturn, 1) := by decide +kernel
set_option maxRecDepth 4000 in
theorem wE_least_8 {E : Ev} {z : Int32 × St} : ∀ (fu : Nat) (σ : St) (i1 : Int32) (i2 : Int32) (i3 : Int32), fE_least_8 fu σ i1 i2 i3 = some z → V E mE_least (FM E (some (.int z.1), z.2)) 8 [(0, .ref 0), (1, .int i1), (2, .int i2), (3, .int i3)] [] σ := by
  intro fu
  induction fu with
  | zero => intro σ i1 i2 i3 hX; cases hX
  | succ fu ih =>
    intro σ i1 i2 i3 hX
    rw [fE_least_8] at hX
    refine V.iloadn 3 dE_least_8 rfl rfl ?_
    refine V.aloadn 0 dE_least_9 rfl rfl ?_
    refine V.getd 0 dE_least_10 flE_10 (rfl : kd 0 = (5, 0)) rfl ?_
    obtain ⟨h1, hX⟩ := ob hX
    refine V.geti (gR σ 0) dE_least_13 flE_118 (tk0 h1) rfl ?_
    refine V.icmpge 44 dE_least_16 rfl rfl (fun g2 => ?_) (fun g2 => ?_)
    · replace hX := ip hX g2
      refine V.iloadn 1 dE_least_44 rfl rfl ?_
      have hX := (Option.some.inj hX).symm; subst hX; exact V.iret dE_least_45 rfl rfl
    · replace hX := im hX g2
      refine V.aloadn 0 dE_least_19 rfl rfl ?_
      refine V.iloadn 3 dE_least_20 rfl rfl ?_
      refine V.iconst (0 : Int32) dE_least_21 lc0 rfl ?_
      obtain ⟨q4, σ4, c3, hX⟩ := bi2 hX; try dsimp only at hX
      refine V.callvi 0 [.int i3, .int (0 : Int32)] dE_least_22 (kE_look c3) mlE_168 myE_look mnE_look ⟨rfl, rfl, by decide, by decide⟩ (rfl : kd 0 = (5, 0)) (by decide) rfl (Nat.le_of_ble_eq_true rfl) ⟨Nat.zero_le _, Nat.zero_le _⟩ rfl ?_
      refine V.istore _ dE_least_25 (by decide) rfl rfl ?_
      refine V.iload 0 dE_least_27 rfl rfl ?_
      refine V.iloadn 3 dE_least_29 rfl rfl ?_
      refine V.icmpge 38 dE_least_30 rfl rfl (fun g5 => ?_) (fun g5 => ?_)
      · replace hX := ip hX g5
        refine V.iinc 4 (1 : Int32) _ dE_least_38 rfl lc1 (by decide) rfl rfl ?_
        replace hX := nmx hX; generalize i3 + (1 : Int32) = v6 at hX ⊢; try dsimp only at hX
        refine V.goto 8 dE_least_41 rfl ?_
        refine V.sub [2, 3, 4, 0] rfl ?_
        exact ih σ4 i1 i2 v6 hX
      · replace hX := im hX g5
        refine V.iloadn 4 dE_least_33 rfl rfl ?_
        refine V.istoren _ dE_least_34 (by decide) rfl rfl ?_
        refine V.iload 1 dE_least_35 rfl rfl ?_
        refine V.istoren _ dE_least_37 (by decide) rfl rfl ?_
        refine V.iinc 4 (1 : Int32) _ dE_least_38 rfl lc1 (by decide) rfl rfl ?_
        replace hX := nmx hX; generalize i3 + (1 : Int32) = v7 at hX ⊢; try dsimp only at hX
        refine V.goto 8 dE_least_41 rfl ?_
        refine V.sub [4, 2, 1, 0] rfl ?_
        exact ih σ4 i3 q4 v7 hX
set_option maxRecDepth 4000 in
theorem wE_least {E : Ev} {z : Int32 × St} (σ : St) (hX : fE_least σ = some z) : V E mE_least (FM E (some (.int z.1), z.2)) 0 [(0, .ref 0)] [] σ := by
  unfold fE_least at hX
  refine V.bipush (-3 : Int32) dE_least_0 lbm3 rfl ?_
  refine V.istoren _ dE_least_2 (by decide) rfl rfl ?_
  refine V.bipush (7 : Int32) dE_least_3 lb7 rfl ?_
  refine V.istoren _ dE_least_5 (by decide) rfl rfl ?_
  refine V.iconst (0 : Int32) dE_least_6 lc0 rfl ?_
  refine V.istoren _ dE_least_7 (by decide) rfl rfl ?_
  refine V.sub [3, 2, 1, 0] rfl ?_
  exact wE_least_8 300 σ (-3 : Int32) (7 : Int32) (0 : Int32) hX
theorem kE_least {E : Ev} {σ σ2 : St} {z : Int32} (h : fE_least σ = some (z, σ2)) : Ct mE_least E [.ref 0] σ (some (.int z), σ2) := Ct.of (by decide) (Nat.le_of_ble_eq_true rfl) (wE_least σ h)
theorem dT_allSilver_0 : decode mT_allSilver.1 0 = .ok (.iconst 0, 1) := by decide +kernel
theorem dT_allSilver_1 : decode mT_allSilver.1 1 = .ok (.istore_n 1, 1) := by decide +kernel
theorem dT_allSilver_2 : decode mT_allSilver.1 2 = .ok (.iconst 0, 1) := by decide +kernel
theorem dT_allSilver_3 : decode mT_allSilver.1 3 = .ok (.istore_n 2, 1) := by decide +kernel
theorem dT_allSilver_4 : decode mT_allSilver.1 4 = .ok (.iload_n 2, 1) := by decide +kernel
theorem dT_allSilver_5 : decode mT_allSilver.1 5 = .ok (.aload_n 0, 1) := by decide +kernel
theorem dT_allSilver_6 : decode mT_allSilver.1 6 = .ok (.getfield 9, 3) := by decide +kernel
theorem dT_allSilver_9 : decode mT_allSilver.1 9 = .ok (.if_icmp .ge 18, 3) := by decide +kernel
theorem dT_allSilver_12 : decode mT_allSilver.1 12 = .ok (.iload_n 1, 1) := by decide +kernel
theorem dT_allSilver_13 : decode mT_allSilver.1 13 = .ok (.aload_n 0, 1) := by decide +kernel
theorem dT_allSilver_14 : decode mT_allSilver.1 14 = .ok (.getfield 25, 3) := by decide +kernel
theorem dT_allSilver_17 : decode mT_allSilver.1 17 = .ok (.iload_n 2, 1) := by decide +kernel
theorem dT_allSilver_18 : decode mT_allSilver.1 18 = .ok (.iaload, 1) := by decide +kernel
theorem dT_allSilver_19 : decode mT_allSilver.1 19 = .ok (.iadd, 1) := by decide +kernel
theorem dT_allSilver_20 : decode mT_allSilver.1 20 = .ok (.istore_n 1, 1) := by decide +kernel
theorem dT_allSilver_21 : decode mT_allSilver.1 21 = .ok (.iinc 2 1, 3) := by decide +kernel
theorem dT_allSilver_24 : decode mT_allSilver.1 24 = .ok (.goto (-20), 3) := by decide +kernel
theorem dT_allSilver_27 : decode mT_allSilver.1 27 = .ok (.iload_n 1, 1) := by decide +kernel
theorem dT_allSilver_28 : decode mT_allSilver.1 28 = .ok (.ireturn, 1) := by decide +kernel
set_option maxRecDepth 4000 in
theorem wT_allSilver_4 {E : Ev} {z : Int32} : ∀ (fu : Nat) (σ : St) (r0 : Nat) (i1 : Int32) (i2 : Int32) (ht_r0 : isTb r0 = true), fT_allSilver_4 fu σ r0 i1 i2 = some z → V E mT_allSilver (FM E (some (.int z), σ)) 4 [(0, .ref r0), (1, .int i1), (2, .int i2)] [] σ := by
  intro fu
  induction fu with
  | zero => intro σ r0 i1 i2 ht_r0 hX; cases hX
  | succ fu ih =>
    intro σ r0 i1 i2 ht_r0 hX
    rw [fT_allSilver_4] at hX
    refine V.iloadn 2 dT_allSilver_4 rfl rfl ?_
    refine V.aloadn 0 dT_allSilver_5 rfl rfl ?_
    refine V.geti r0 dT_allSilver_6 flT_9 (tk0 ht_r0) rfl ?_
    refine V.icmpge 27 dT_allSilver_9 rfl rfl (fun g1 => ?_) (fun g1 => ?_)
    · replace hX := ip hX g1
      refine V.iloadn 1 dT_allSilver_27 rfl rfl ?_
      have hX := (Option.some.inj hX).symm; subst hX; exact V.iret dT_allSilver_28 rfl rfl
    · replace hX := im hX g1
      refine V.iloadn 1 dT_allSilver_12 rfl rfl ?_
      refine V.aloadn 0 dT_allSilver_13 rfl rfl ?_
      refine V.getr r0 (r0 + 2) dT_allSilver_14 flT_25 (tk0 ht_r0) rfl rfl ?_
      refine V.iloadn 2 dT_allSilver_17 rfl rfl ?_
      obtain ⟨h2, hX⟩ := ob hX
      refine V.iald (r0 + 2) dT_allSilver_18 (tk2 ht_r0) h2 rfl ?_
      refine V.iadd dT_allSilver_19 rfl ?_
      refine V.istoren _ dT_allSilver_20 (by decide) rfl rfl ?_
      replace hX := nmx hX; generalize i1 + (gI σ (r0 + 2) (ix i2)) = v3 at hX ⊢; try dsimp only at hX
      refine V.iinc 2 (1 : Int32) _ dT_allSilver_21 rfl lc1 (by decide) rfl rfl ?_
      replace hX := nmx hX; generalize i2 + (1 : Int32) = v4 at hX ⊢; try dsimp only at hX
      refine V.goto 4 dT_allSilver_24 rfl ?_
      refine V.sub [2, 1, 0] rfl ?_
      exact ih σ r0 v3 v4 ht_r0 hX
set_option maxRecDepth 4000 in
theorem wT_allSilver {E : Ev} {z : Int32} (σ : St) (r0 : Nat) (ht_r0 : isTb r0 = true) (hX : fT_allSilver σ r0 = some z) : V E mT_allSilver (FM E (some (.int z), σ)) 0 [(0, .ref r0)] [] σ := by
  unfold fT_allSilver at hX
  refine V.iconst (0 : Int32) dT_allSilver_0 lc0 rfl ?_
  refine V.istoren _ dT_allSilver_1 (by decide) rfl rfl ?_
  refine V.iconst (0 : Int32) dT_allSilver_2 lc0 rfl ?_
  refine V.istoren _ dT_allSilver_3 (by decide) rfl rfl ?_
  refine V.sub [2, 1, 0] rfl ?_
  exact wT_allSilver_4 300 σ r0 (0 : Int32) (0 : Int32) ht_r0 hX
theorem kT_allSilver {E : Ev} {σ : St} {r0 : Nat} {z : Int32} (ht_r0 : isTb r0 = true) (h : fT_allSilver σ r0 = some z) : Ct mT_allSilver E [.ref r0] σ (some (.int z), σ) := Ct.of (by decide) (Nat.le_of_ble_eq_true rfl) (wT_allSilver σ r0 ht_r0 h)
theorem dT_acquaintances_0 : decode mT_acquaintances.1 0 = .ok (.iconst 0, 1) := by decide +kernel
theorem dT_acquaintances_1 : decode mT_acquaintances.1 1 = .ok (.istore_n 1, 1) := by decide +kernel
theorem dT_acquaintances_2 : decode mT_acquaintances.1 2 = .ok (.iconst 0, 1) := by decide +kernel
theorem dT_acquaintances_3 : decode mT_acquaintances.1 3 = .ok (.istore_n 2, 1) := by decide +kernel
theorem dT_acquaintances_4 : decode mT_acquaintances.1 4 = .ok (.iload_n 2, 1) := by decide +kernel
theorem dT_acquaintances_5 : decode mT_acquaintances.1 5 = .ok (.aload_n 0, 1) := by decide +kernel
theorem dT_acquaintances_6 : decode mT_acquaintances.1 6 = .ok (.getfield 9, 3) := by decide +kernel
theorem dT_acquaintances_9 : decode mT_acquaintances.1 9 = .ok (.if_icmp .ge 21, 3) := by decide +kernel
theorem dT_acquaintances_12 : decode mT_acquaintances.1 12 = .ok (.iload_n 1, 1) := by decide +kernel
theorem dT_acquaintances_13 : decode mT_acquaintances.1 13 = .ok (.aload_n 0, 1) := by decide +kernel
theorem dT_acquaintances_14 : decode mT_acquaintances.1 14 = .ok (.getfield 28, 3) := by decide +kernel
theorem dT_acquaintances_17 : decode mT_acquaintances.1 17 = .ok (.iload_n 2, 1) := by decide +kernel
theorem dT_acquaintances_18 : decode mT_acquaintances.1 18 = .ok (.iaload, 1) := by decide +kernel
theorem dT_acquaintances_19 : decode mT_acquaintances.1 19 = .ok (.invokestatic 53, 3) := by decide +kernel
theorem dT_acquaintances_22 : decode mT_acquaintances.1 22 = .ok (.iadd, 1) := by decide +kernel
theorem dT_acquaintances_23 : decode mT_acquaintances.1 23 = .ok (.istore_n 1, 1) := by decide +kernel
theorem dT_acquaintances_24 : decode mT_acquaintances.1 24 = .ok (.iinc 2 1, 3) := by decide +kernel
theorem dT_acquaintances_27 : decode mT_acquaintances.1 27 = .ok (.goto (-23), 3) := by decide +kernel
theorem dT_acquaintances_30 : decode mT_acquaintances.1 30 = .ok (.iload_n 1, 1) := by decide +kernel
theorem dT_acquaintances_31 : decode mT_acquaintances.1 31 = .ok (.iconst 2, 1) := by decide +kernel
theorem dT_acquaintances_32 : decode mT_acquaintances.1 32 = .ok (.idiv, 1) := by decide +kernel
theorem dT_acquaintances_33 : decode mT_acquaintances.1 33 = .ok (.ireturn, 1) := by decide +kernel
set_option maxRecDepth 4000 in
theorem wT_acquaintances_4 {E : Ev} {z : Int32} : ∀ (fu : Nat) (σ : St) (r0 : Nat) (i1 : Int32) (i2 : Int32) (ht_r0 : isTb r0 = true), fT_acquaintances_4 fu σ r0 i1 i2 = some z → V E mT_acquaintances (FM E (some (.int z), σ)) 4 [(0, .ref r0), (1, .int i1), (2, .int i2)] [] σ := by
  intro fu
  induction fu with
  | zero => intro σ r0 i1 i2 ht_r0 hX; cases hX
  | succ fu ih =>
    intro σ r0 i1 i2 ht_r0 hX
    rw [fT_acquaintances_4] at hX
    refine V.iloadn 2 dT_acquaintances_4 rfl rfl ?_
    refine V.aloadn 0 dT_acquaintances_5 rfl rfl ?_
    refine V.geti r0 dT_acquaintances_6 flT_9 (tk0 ht_r0) rfl ?_
    refine V.icmpge 30 dT_acquaintances_9 rfl rfl (fun g1 => ?_) (fun g1 => ?_)
    · replace hX := ip hX g1
      refine V.iloadn 1 dT_acquaintances_30 rfl rfl ?_
      refine V.iconst (2 : Int32) dT_acquaintances_31 lc2 rfl ?_
      refine V.idiv dT_acquaintances_32 (by decide) rfl ?_
      have hX := (Option.some.inj hX).symm; subst hX; exact V.iret dT_acquaintances_33 rfl rfl
    · replace hX := im hX g1
      refine V.iloadn 1 dT_acquaintances_12 rfl rfl ?_
      refine V.aloadn 0 dT_acquaintances_13 rfl rfl ?_
      refine V.getr r0 (r0 + 3) dT_acquaintances_14 flT_28 (tk0 ht_r0) rfl rfl ?_
      refine V.iloadn 2 dT_acquaintances_17 rfl rfl ?_
      obtain ⟨h2, hX⟩ := ob hX
      refine V.iald (r0 + 3) dT_acquaintances_18 (tk3 ht_r0) h2 rfl ?_
      refine V.callsi [.int (gI σ (r0 + 3) (ix i2))] dT_acquaintances_19 (kJI_bitCount (σ := σ) (gI σ (r0 + 3) (ix i2))) mlT_53 myJI_bitCount mnJI_bitCount ⟨rfl, rfl, by decide, by decide⟩ rfl (Nat.le_of_ble_eq_true rfl) ⟨Nat.zero_le _, Nat.zero_le _⟩ rfl ?_
      refine V.iadd dT_acquaintances_22 rfl ?_
      refine V.istoren _ dT_acquaintances_23 (by decide) rfl rfl ?_
      replace hX := nmx hX; generalize i1 + (fJI_bitCount (gI σ (r0 + 3) (ix i2))) = v3 at hX ⊢; try dsimp only at hX
      refine V.iinc 2 (1 : Int32) _ dT_acquaintances_24 rfl lc1 (by decide) rfl rfl ?_
      replace hX := nmx hX; generalize i2 + (1 : Int32) = v4 at hX ⊢; try dsimp only at hX
      refine V.goto 4 dT_acquaintances_27 rfl ?_
      refine V.sub [2, 1, 0] rfl ?_
      exact ih σ r0 v3 v4 ht_r0 hX
set_option maxRecDepth 4000 in
theorem wT_acquaintances {E : Ev} {z : Int32} (σ : St) (r0 : Nat) (ht_r0 : isTb r0 = true) (hX : fT_acquaintances σ r0 = some z) : V E mT_acquaintances (FM E (some (.int z), σ)) 0 [(0, .ref r0)] [] σ := by
  unfold fT_acquaintances at hX
  refine V.iconst (0 : Int32) dT_acquaintances_0 lc0 rfl ?_
  refine V.istoren _ dT_acquaintances_1 (by decide) rfl rfl ?_
  refine V.iconst (0 : Int32) dT_acquaintances_2 lc0 rfl ?_
  refine V.istoren _ dT_acquaintances_3 (by decide) rfl rfl ?_
  refine V.sub [2, 1, 0] rfl ?_
  exact wT_acquaintances_4 300 σ r0 (0 : Int32) (0 : Int32) ht_r0 hX
theorem kT_acquaintances {E : Ev} {σ : St} {r0 : Nat} {z : Int32} (ht_r0 : isTb r0 = true) (h : fT_acquaintances σ r0 = some z) : Ct mT_acquaintances E [.ref r0] σ (some (.int z), σ) := Ct.of (by decide) (Nat.le_of_ble_eq_true rfl) (wT_acquaintances σ r0 ht_r0 h)
theorem dE_leftOfAll_0 : decode mE_leftOfAll.1 0 = .ok (.iconst 0, 1) := by decide +kernel
theorem dE_leftOfAll_1 : decode mE_leftOfAll.1 1 = .ok (.istore_n 1, 1) := by decide +kernel
theorem dE_leftOfAll_2 : decode mE_leftOfAll.1 2 = .ok (.iconst 0, 1) := by decide +kernel
theorem dE_leftOfAll_3 : decode mE_leftOfAll.1 3 = .ok (.istore_n 2, 1) := by decide +kernel
theorem dE_leftOfAll_4 : decode mE_leftOfAll.1 4 = .ok (.iload_n 2, 1) := by decide +kernel
theorem dE_leftOfAll_5 : decode mE_leftOfAll.1 5 = .ok (.aload_n 0, 1) := by decide +kernel
theorem dE_leftOfAll_6 : decode mE_leftOfAll.1 6 = .ok (.getfield 10, 3) := by decide +kernel
theorem dE_leftOfAll_9 : decode mE_leftOfAll.1 9 = .ok (.getfield 118, 3) := by decide +kernel
theorem dE_leftOfAll_12 : decode mE_leftOfAll.1 12 = .ok (.if_icmp .ge 18, 3) := by decide +kernel
theorem dE_leftOfAll_15 : decode mE_leftOfAll.1 15 = .ok (.iload_n 1, 1) := by decide +kernel
theorem dE_leftOfAll_16 : decode mE_leftOfAll.1 16 = .ok (.aload_n 0, 1) := by decide +kernel
theorem dE_leftOfAll_17 : decode mE_leftOfAll.1 17 = .ok (.iload_n 2, 1) := by decide +kernel
theorem dE_leftOfAll_18 : decode mE_leftOfAll.1 18 = .ok (.iconst 0, 1) := by decide +kernel
theorem dE_leftOfAll_19 : decode mE_leftOfAll.1 19 = .ok (.invokevirtual 168, 3) := by decide +kernel
theorem dE_leftOfAll_22 : decode mE_leftOfAll.1 22 = .ok (.iadd, 1) := by decide +kernel
theorem dE_leftOfAll_23 : decode mE_leftOfAll.1 23 = .ok (.istore_n 1, 1) := by decide +kernel
theorem dE_leftOfAll_24 : decode mE_leftOfAll.1 24 = .ok (.iinc 2 1, 3) := by decide +kernel
theorem dE_leftOfAll_27 : decode mE_leftOfAll.1 27 = .ok (.goto (-23), 3) := by decide +kernel
theorem dE_leftOfAll_30 : decode mE_leftOfAll.1 30 = .ok (.iload_n 1, 1) := by decide +kernel
theorem dE_leftOfAll_31 : decode mE_leftOfAll.1 31 = .ok (.ireturn, 1) := by decide +kernel
set_option maxRecDepth 4000 in
theorem wE_leftOfAll_4 {E : Ev} {z : Int32 × St} : ∀ (fu : Nat) (σ : St) (i1 : Int32) (i2 : Int32), fE_leftOfAll_4 fu σ i1 i2 = some z → V E mE_leftOfAll (FM E (some (.int z.1), z.2)) 4 [(0, .ref 0), (1, .int i1), (2, .int i2)] [] σ := by
  intro fu
  induction fu with
  | zero => intro σ i1 i2 hX; cases hX
  | succ fu ih =>
    intro σ i1 i2 hX
    rw [fE_leftOfAll_4] at hX
    refine V.iloadn 2 dE_leftOfAll_4 rfl rfl ?_
    refine V.aloadn 0 dE_leftOfAll_5 rfl rfl ?_
    refine V.getd 0 dE_leftOfAll_6 flE_10 (rfl : kd 0 = (5, 0)) rfl ?_
    obtain ⟨h1, hX⟩ := ob hX
    refine V.geti (gR σ 0) dE_leftOfAll_9 flE_118 (tk0 h1) rfl ?_
    refine V.icmpge 30 dE_leftOfAll_12 rfl rfl (fun g2 => ?_) (fun g2 => ?_)
    · replace hX := ip hX g2
      refine V.iloadn 1 dE_leftOfAll_30 rfl rfl ?_
      have hX := (Option.some.inj hX).symm; subst hX; exact V.iret dE_leftOfAll_31 rfl rfl
    · replace hX := im hX g2
      refine V.iloadn 1 dE_leftOfAll_15 rfl rfl ?_
      refine V.aloadn 0 dE_leftOfAll_16 rfl rfl ?_
      refine V.iloadn 2 dE_leftOfAll_17 rfl rfl ?_
      refine V.iconst (0 : Int32) dE_leftOfAll_18 lc0 rfl ?_
      obtain ⟨q4, σ4, c3, hX⟩ := bi2 hX; try dsimp only at hX
      refine V.callvi 0 [.int i2, .int (0 : Int32)] dE_leftOfAll_19 (kE_look c3) mlE_168 myE_look mnE_look ⟨rfl, rfl, by decide, by decide⟩ (rfl : kd 0 = (5, 0)) (by decide) rfl (Nat.le_of_ble_eq_true rfl) ⟨Nat.zero_le _, Nat.zero_le _⟩ rfl ?_
      refine V.iadd dE_leftOfAll_22 rfl ?_
      refine V.istoren _ dE_leftOfAll_23 (by decide) rfl rfl ?_
      replace hX := nmx hX; generalize i1 + q4 = v5 at hX ⊢; try dsimp only at hX
      refine V.iinc 2 (1 : Int32) _ dE_leftOfAll_24 rfl lc1 (by decide) rfl rfl ?_
      replace hX := nmx hX; generalize i2 + (1 : Int32) = v6 at hX ⊢; try dsimp only at hX
      refine V.goto 4 dE_leftOfAll_27 rfl ?_
      refine V.sub [2, 1, 0] rfl ?_
      exact ih σ4 v5 v6 hX
set_option maxRecDepth 4000 in
theorem wE_leftOfAll {E : Ev} {z : Int32 × St} (σ : St) (hX : fE_leftOfAll σ = some z) : V E mE_leftOfAll (FM E (some (.int z.1), z.2)) 0 [(0, .ref 0)] [] σ := by
  unfold fE_leftOfAll at hX
  refine V.iconst (0 : Int32) dE_leftOfAll_0 lc0 rfl ?_
  refine V.istoren _ dE_leftOfAll_1 (by decide) rfl rfl ?_
  refine V.iconst (0 : Int32) dE_leftOfAll_2 lc0 rfl ?_
  refine V.istoren _ dE_leftOfAll_3 (by decide) rfl rfl ?_
  refine V.sub [2, 1, 0] rfl ?_
  exact wE_leftOfAll_4 300 σ (0 : Int32) (0 : Int32) hX
theorem kE_leftOfAll {E : Ev} {σ σ2 : St} {z : Int32} (h : fE_leftOfAll σ = some (z, σ2)) : Ct mE_leftOfAll E [.ref 0] σ (some (.int z), σ2) := Ct.of (by decide) (Nat.le_of_ble_eq_true rfl) (wE_leftOfAll σ h)
theorem dE_all_0 : decode mE_all.1 0 = .ok (.iload_n 1, 1) := by decide +kernel
theorem dE_all_1 : decode mE_all.1 1 = .ok (.tableswitch 71 0 3 #[31, 50, 58, 66], 31) := by decide +kernel
theorem dE_all_32 : decode mE_all.1 32 = .ok (.aload_n 0, 1) := by decide +kernel
theorem dE_all_33 : decode mE_all.1 33 = .ok (.getfield 10, 3) := by decide +kernel
theorem dE_all_36 : decode mE_all.1 36 = .ok (.iconst 1, 1) := by decide +kernel
theorem dE_all_37 : decode mE_all.1 37 = .ok (.aload_n 0, 1) := by decide +kernel
theorem dE_all_38 : decode mE_all.1 38 = .ok (.getfield 10, 3) := by decide +kernel
theorem dE_all_41 : decode mE_all.1 41 = .ok (.getfield 118, 3) := by decide +kernel
theorem dE_all_44 : decode mE_all.1 44 = .ok (.ishl, 1) := by decide +kernel
theorem dE_all_45 : decode mE_all.1 45 = .ok (.iconst 1, 1) := by decide +kernel
theorem dE_all_46 : decode mE_all.1 46 = .ok (.isub, 1) := by decide +kernel
theorem dE_all_47 : decode mE_all.1 47 = .ok (.invokevirtual 178, 3) := by decide +kernel
theorem dE_all_50 : decode mE_all.1 50 = .ok (.ireturn, 1) := by decide +kernel
theorem dE_all_51 : decode mE_all.1 51 = .ok (.aload_n 0, 1) := by decide +kernel
theorem dE_all_52 : decode mE_all.1 52 = .ok (.getfield 10, 3) := by decide +kernel
theorem dE_all_55 : decode mE_all.1 55 = .ok (.invokevirtual 184, 3) := by decide +kernel
theorem dE_all_58 : decode mE_all.1 58 = .ok (.ireturn, 1) := by decide +kernel
theorem dE_all_59 : decode mE_all.1 59 = .ok (.aload_n 0, 1) := by decide +kernel
theorem dE_all_60 : decode mE_all.1 60 = .ok (.getfield 10, 3) := by decide +kernel
theorem dE_all_63 : decode mE_all.1 63 = .ok (.invokevirtual 187, 3) := by decide +kernel
theorem dE_all_66 : decode mE_all.1 66 = .ok (.ireturn, 1) := by decide +kernel
theorem dE_all_67 : decode mE_all.1 67 = .ok (.aload_n 0, 1) := by decide +kernel
theorem dE_all_68 : decode mE_all.1 68 = .ok (.invokevirtual 190, 3) := by decide +kernel
theorem dE_all_71 : decode mE_all.1 71 = .ok (.ireturn, 1) := by decide +kernel
theorem dE_all_72 : decode mE_all.1 72 = .ok (.iconst (-1), 1) := by decide +kernel
theorem dE_all_73 : decode mE_all.1 73 = .ok (.ireturn, 1) := by decide +kernel
set_option maxRecDepth 4000 in
theorem wE_all {E : Ev} {z : Int32 × St} (σ : St) (i1 : Int32) (hX : fE_all σ i1 = some z) : V E mE_all (FM E (some (.int z.1), z.2)) 0 [(0, .ref 0), (1, .int i1)] [] σ := by
  unfold fE_all at hX
  refine V.iloadn 1 dE_all_0 rfl rfl ?_
  by_cases g1 : i1 = (0 : Int32)
  · replace hX := ip hX g1
    refine V.tabIn (off := 31) 32 dE_all_1 (by rw [g1]; decide) (by rw [g1]; decide) (by rw [g1]; rfl) rfl ?_
    refine V.aloadn 0 dE_all_32 rfl rfl ?_
    refine V.getd 0 dE_all_33 flE_10 (rfl : kd 0 = (5, 0)) rfl ?_
    refine V.iconst (1 : Int32) dE_all_36 lc1 rfl ?_
    refine V.aloadn 0 dE_all_37 rfl rfl ?_
    refine V.getd 0 dE_all_38 flE_10 (rfl : kd 0 = (5, 0)) rfl ?_
    obtain ⟨h2, hX⟩ := ob hX
    refine V.geti (gR σ 0) dE_all_41 flE_118 (tk0 h2) rfl ?_
    refine V.ishl dE_all_44 rfl ?_
    refine V.iconst (1 : Int32) dE_all_45 lc1 rfl ?_
    refine V.isub dE_all_46 rfl ?_
    obtain ⟨h3, hX⟩ := ob hX
    obtain ⟨q4, c5, hX⟩ := bd hX; try dsimp only at hX
    refine V.callvi (gR σ 0) [.int (((1 : Int32) <<< ((gI σ (gR σ 0) 1) &&& 31)) - (1 : Int32))] dE_all_47 (kT_worthOfAll h3 c5) mlE_178 myT_worthOfAll mnT_worthOfAll ⟨rfl, rfl, by decide, by decide⟩ (tk0 h3) (by decide) rfl (Nat.le_of_ble_eq_true rfl) ⟨Nat.zero_le _, Nat.zero_le _⟩ rfl ?_
    have hX := (Option.some.inj hX).symm; subst hX; exact V.iret dE_all_50 rfl rfl
  · replace hX := im hX g1
    by_cases g6 : i1 = (1 : Int32)
    · replace hX := ip hX g6
      refine V.tabIn (off := 50) 51 dE_all_1 (by rw [g6]; decide) (by rw [g6]; decide) (by rw [g6]; rfl) rfl ?_
      refine V.aloadn 0 dE_all_51 rfl rfl ?_
      refine V.getd 0 dE_all_52 flE_10 (rfl : kd 0 = (5, 0)) rfl ?_
      obtain ⟨h7, hX⟩ := ob hX
      obtain ⟨q8, c9, hX⟩ := bd hX; try dsimp only at hX
      refine V.callvi (gR σ 0) [] dE_all_55 (kT_allSilver h7 c9) mlE_184 myT_allSilver mnT_allSilver ⟨rfl, rfl, by decide, by decide⟩ (tk0 h7) (by decide) rfl (Nat.le_of_ble_eq_true rfl) ⟨Nat.zero_le _, Nat.zero_le _⟩ rfl ?_
      have hX := (Option.some.inj hX).symm; subst hX; exact V.iret dE_all_58 rfl rfl
    · replace hX := im hX g6
      by_cases g10 : i1 = (2 : Int32)
      · replace hX := ip hX g10
        refine V.tabIn (off := 58) 59 dE_all_1 (by rw [g10]; decide) (by rw [g10]; decide) (by rw [g10]; rfl) rfl ?_
        refine V.aloadn 0 dE_all_59 rfl rfl ?_
        refine V.getd 0 dE_all_60 flE_10 (rfl : kd 0 = (5, 0)) rfl ?_
        obtain ⟨h11, hX⟩ := ob hX
        obtain ⟨q12, c13, hX⟩ := bd hX; try dsimp only at hX
        refine V.callvi (gR σ 0) [] dE_all_63 (kT_acquaintances h11 c13) mlE_187 myT_acquaintances mnT_acquaintances ⟨rfl, rfl, by decide, by decide⟩ (tk0 h11) (by decide) rfl (Nat.le_of_ble_eq_true rfl) ⟨Nat.zero_le _, Nat.zero_le _⟩ rfl ?_
        have hX := (Option.some.inj hX).symm; subst hX; exact V.iret dE_all_66 rfl rfl
      · replace hX := im hX g10
        by_cases g14 : i1 = (3 : Int32)
        · replace hX := ip hX g14
          refine V.tabIn (off := 66) 67 dE_all_1 (by rw [g14]; decide) (by rw [g14]; decide) (by rw [g14]; rfl) rfl ?_
          refine V.aloadn 0 dE_all_67 rfl rfl ?_
          obtain ⟨q16, σ16, c15, hX⟩ := bi2 hX; try dsimp only at hX
          refine V.callvi 0 [] dE_all_68 (kE_leftOfAll c15) mlE_190 myE_leftOfAll mnE_leftOfAll ⟨rfl, rfl, by decide, by decide⟩ (rfl : kd 0 = (5, 0)) (by decide) rfl (Nat.le_of_ble_eq_true rfl) ⟨Nat.zero_le _, Nat.zero_le _⟩ rfl ?_
          have hX := (Option.some.inj hX).symm; subst hX; exact V.iret dE_all_71 rfl rfl
        · replace hX := im hX g14
          refine V.tabOut 72 dE_all_1 (by have a0 := lv_neT g1 (a := 0) (by decide); have a1 := lv_neT g6 (a := 1) (by decide); have a2 := lv_neT g10 (a := 2) (by decide); have a3 := lv_neT g14 (a := 3) (by decide); omega) rfl ?_
          refine V.iconst (-1 : Int32) dE_all_72 lcm1 rfl ?_
          have hX := (Option.some.inj hX).symm; subst hX; exact V.iret dE_all_73 rfl rfl
theorem kE_all {E : Ev} {σ σ2 : St} {i1 : Int32} {z : Int32} (h : fE_all σ i1 = some (z, σ2)) : Ct mE_all E [.ref 0, .int i1] σ (some (.int z), σ2) := Ct.of (by decide) (Nat.le_of_ble_eq_true rfl) (wE_all σ i1 h)
theorem dE_seed_0 : decode mE_seed.1 0 = .ok (.aload_n 0, 1) := by decide +kernel
theorem dE_seed_1 : decode mE_seed.1 1 = .ok (.getfield 10, 3) := by decide +kernel
theorem dE_seed_4 : decode mE_seed.1 4 = .ok (.getfield 68, 3) := by decide +kernel
theorem dE_seed_7 : decode mE_seed.1 7 = .ok (.istore_n 2, 1) := by decide +kernel
theorem dE_seed_8 : decode mE_seed.1 8 = .ok (.aload_n 0, 1) := by decide +kernel
theorem dE_seed_9 : decode mE_seed.1 9 = .ok (.getfield 10, 3) := by decide +kernel
theorem dE_seed_12 : decode mE_seed.1 12 = .ok (.iload_n 1, 1) := by decide +kernel
theorem dE_seed_13 : decode mE_seed.1 13 = .ok (.putfield 68, 3) := by decide +kernel
theorem dE_seed_16 : decode mE_seed.1 16 = .ok (.iload_n 2, 1) := by decide +kernel
theorem dE_seed_17 : decode mE_seed.1 17 = .ok (.ireturn, 1) := by decide +kernel
set_option maxRecDepth 4000 in
theorem wE_seed {E : Ev} {z : Int32 × St} (σ : St) (i1 : Int32) (hX : fE_seed σ i1 = some z) : V E mE_seed (FM E (some (.int z.1), z.2)) 0 [(0, .ref 0), (1, .int i1)] [] σ := by
  unfold fE_seed at hX
  refine V.aloadn 0 dE_seed_0 rfl rfl ?_
  refine V.getd 0 dE_seed_1 flE_10 (rfl : kd 0 = (5, 0)) rfl ?_
  obtain ⟨h1, hX⟩ := ob hX
  refine V.geti (gR σ 0) dE_seed_4 flE_68 (tk0 h1) rfl ?_
  refine V.istoren _ dE_seed_7 (by decide) rfl rfl ?_
  replace hX := nmx hX; generalize gI σ (gR σ 0) 2 = v2 at hX ⊢; try dsimp only at hX
  refine V.aloadn 1 dE_seed_8 rfl rfl ?_
  refine V.getd 0 dE_seed_9 flE_10 (rfl : kd 0 = (5, 0)) rfl ?_
  refine V.iloadn 2 dE_seed_12 rfl rfl ?_
  obtain ⟨h3, hX⟩ := ob hX
  refine V.puti (gR σ 0) .int dE_seed_13 flE_68 fw2_2 (tk0 h3) ⟨rfl, rfl⟩ rfl ?_
  replace hX := nmx hX; generalize sI σ (gR σ 0) 2 i1 = σ4 at hX ⊢; try dsimp only at hX
  refine V.iloadn 0 dE_seed_16 rfl rfl ?_
  have hX := (Option.some.inj hX).symm; subst hX; exact V.iret dE_seed_17 rfl rfl
theorem kE_seed {E : Ev} {σ σ2 : St} {i1 : Int32} {z : Int32} (h : fE_seed σ i1 = some (z, σ2)) : Ct mE_seed E [.ref 0, .int i1] σ (some (.int z), σ2) := Ct.of (by decide) (Nat.le_of_ble_eq_true rfl) (wE_seed σ i1 h)
theorem dE_prove_0 : decode mE_prove.1 0 = .ok (.aload_n 0, 1) := by decide +kernel
theorem dE_prove_1 : decode mE_prove.1 1 = .ok (.getfield 10, 3) := by decide +kernel
theorem dE_prove_4 : decode mE_prove.1 4 = .ok (.iload_n 1, 1) := by decide +kernel
theorem dE_prove_5 : decode mE_prove.1 5 = .ok (.invokevirtual 125, 3) := by decide +kernel
theorem dE_prove_8 : decode mE_prove.1 8 = .ok (.ifCond .ne 5, 3) := by decide +kernel
theorem dE_prove_11 : decode mE_prove.1 11 = .ok (.iconst (-1), 1) := by decide +kernel
theorem dE_prove_12 : decode mE_prove.1 12 = .ok (.ireturn, 1) := by decide +kernel
theorem dE_prove_13 : decode mE_prove.1 13 = .ok (.aload_n 0, 1) := by decide +kernel
theorem dE_prove_14 : decode mE_prove.1 14 = .ok (.iload_n 1, 1) := by decide +kernel
theorem dE_prove_15 : decode mE_prove.1 15 = .ok (.iconst 0, 1) := by decide +kernel
theorem dE_prove_16 : decode mE_prove.1 16 = .ok (.invokevirtual 168, 3) := by decide +kernel
theorem dE_prove_19 : decode mE_prove.1 19 = .ok (.pop, 1) := by decide +kernel
theorem dE_prove_20 : decode mE_prove.1 20 = .ok (.aload_n 0, 1) := by decide +kernel
theorem dE_prove_21 : decode mE_prove.1 21 = .ok (.getfield 10, 3) := by decide +kernel
theorem dE_prove_24 : decode mE_prove.1 24 = .ok (.getfield 140, 3) := by decide +kernel
theorem dE_prove_27 : decode mE_prove.1 27 = .ok (.iload_n 1, 1) := by decide +kernel
theorem dE_prove_28 : decode mE_prove.1 28 = .ok (.iaload, 1) := by decide +kernel
theorem dE_prove_29 : decode mE_prove.1 29 = .ok (.istore_n 2, 1) := by decide +kernel
theorem dE_prove_30 : decode mE_prove.1 30 = .ok (.aload_n 0, 1) := by decide +kernel
theorem dE_prove_31 : decode mE_prove.1 31 = .ok (.getfield 10, 3) := by decide +kernel
theorem dE_prove_34 : decode mE_prove.1 34 = .ok (.getfield 137, 3) := by decide +kernel
theorem dE_prove_37 : decode mE_prove.1 37 = .ok (.iload_n 1, 1) := by decide +kernel
theorem dE_prove_38 : decode mE_prove.1 38 = .ok (.iaload, 1) := by decide +kernel
theorem dE_prove_39 : decode mE_prove.1 39 = .ok (.istore_n 3, 1) := by decide +kernel
theorem dE_prove_40 : decode mE_prove.1 40 = .ok (.aload_n 0, 1) := by decide +kernel
theorem dE_prove_41 : decode mE_prove.1 41 = .ok (.iconst 0, 1) := by decide +kernel
theorem dE_prove_42 : decode mE_prove.1 42 = .ok (.putfield 44, 3) := by decide +kernel
theorem dE_prove_45 : decode mE_prove.1 45 = .ok (.iconst 0, 1) := by decide +kernel
theorem dE_prove_46 : decode mE_prove.1 46 = .ok (.istore 4, 2) := by decide +kernel
theorem dE_prove_48 : decode mE_prove.1 48 = .ok (.iload 4, 2) := by decide +kernel
theorem dE_prove_50 : decode mE_prove.1 50 = .ok (.bipush 7, 2) := by decide +kernel
theorem dE_prove_52 : decode mE_prove.1 52 = .ok (.if_icmp .ge 92, 3) := by decide +kernel
theorem dE_prove_55 : decode mE_prove.1 55 = .ok (.aload_n 0, 1) := by decide +kernel
theorem dE_prove_56 : decode mE_prove.1 56 = .ok (.getfield 36, 3) := by decide +kernel
theorem dE_prove_59 : decode mE_prove.1 59 = .ok (.iload_n 2, 1) := by decide +kernel
theorem dE_prove_60 : decode mE_prove.1 60 = .ok (.iload_n 3, 1) := by decide +kernel
theorem dE_prove_61 : decode mE_prove.1 61 = .ok (.invokevirtual 172, 3) := by decide +kernel
theorem dE_prove_64 : decode mE_prove.1 64 = .ok (.istore 5, 2) := by decide +kernel
theorem dE_prove_66 : decode mE_prove.1 66 = .ok (.iload 5, 2) := by decide +kernel
theorem dE_prove_68 : decode mE_prove.1 68 = .ok (.ifCond .ge 6, 3) := by decide +kernel
theorem dE_prove_71 : decode mE_prove.1 71 = .ok (.goto 73, 3) := by decide +kernel
theorem dE_prove_74 : decode mE_prove.1 74 = .ok (.iload_n 2, 1) := by decide +kernel
theorem dE_prove_75 : decode mE_prove.1 75 = .ok (.iconst 1, 1) := by decide +kernel
theorem dE_prove_76 : decode mE_prove.1 76 = .ok (.iload 5, 2) := by decide +kernel
theorem dE_prove_78 : decode mE_prove.1 78 = .ok (.ishl, 1) := by decide +kernel
theorem dE_prove_79 : decode mE_prove.1 79 = .ok (.ior, 1) := by decide +kernel
theorem dE_prove_80 : decode mE_prove.1 80 = .ok (.istore_n 2, 1) := by decide +kernel
theorem dE_prove_81 : decode mE_prove.1 81 = .ok (.aload_n 0, 1) := by decide +kernel
theorem dE_prove_82 : decode mE_prove.1 82 = .ok (.getfield 40, 3) := by decide +kernel
theorem dE_prove_85 : decode mE_prove.1 85 = .ok (.iconst 3, 1) := by decide +kernel
theorem dE_prove_86 : decode mE_prove.1 86 = .ok (.iload 4, 2) := by decide +kernel
theorem dE_prove_88 : decode mE_prove.1 88 = .ok (.imul, 1) := by decide +kernel
theorem dE_prove_89 : decode mE_prove.1 89 = .ok (.iload_n 3, 1) := by decide +kernel
theorem dE_prove_90 : decode mE_prove.1 90 = .ok (.iastore, 1) := by decide +kernel
theorem dE_prove_91 : decode mE_prove.1 91 = .ok (.aload_n 0, 1) := by decide +kernel
theorem dE_prove_92 : decode mE_prove.1 92 = .ok (.getfield 40, 3) := by decide +kernel
theorem dE_prove_95 : decode mE_prove.1 95 = .ok (.iconst 3, 1) := by decide +kernel
theorem dE_prove_96 : decode mE_prove.1 96 = .ok (.iload 4, 2) := by decide +kernel
theorem dE_prove_98 : decode mE_prove.1 98 = .ok (.imul, 1) := by decide +kernel
theorem dE_prove_99 : decode mE_prove.1 99 = .ok (.iconst 1, 1) := by decide +kernel
theorem dE_prove_100 : decode mE_prove.1 100 = .ok (.iadd, 1) := by decide +kernel
theorem dE_prove_101 : decode mE_prove.1 101 = .ok (.iload 5, 2) := by decide +kernel
theorem dE_prove_103 : decode mE_prove.1 103 = .ok (.iastore, 1) := by decide +kernel
theorem dE_prove_104 : decode mE_prove.1 104 = .ok (.aload_n 0, 1) := by decide +kernel
theorem dE_prove_105 : decode mE_prove.1 105 = .ok (.getfield 40, 3) := by decide +kernel
theorem dE_prove_108 : decode mE_prove.1 108 = .ok (.iconst 3, 1) := by decide +kernel
theorem dE_prove_109 : decode mE_prove.1 109 = .ok (.iload 4, 2) := by decide +kernel
theorem dE_prove_111 : decode mE_prove.1 111 = .ok (.imul, 1) := by decide +kernel
theorem dE_prove_112 : decode mE_prove.1 112 = .ok (.iconst 2, 1) := by decide +kernel
theorem dE_prove_113 : decode mE_prove.1 113 = .ok (.iadd, 1) := by decide +kernel
theorem dE_prove_114 : decode mE_prove.1 114 = .ok (.aload_n 0, 1) := by decide +kernel
theorem dE_prove_115 : decode mE_prove.1 115 = .ok (.getfield 36, 3) := by decide +kernel
theorem dE_prove_118 : decode mE_prove.1 118 = .ok (.iload_n 2, 1) := by decide +kernel
theorem dE_prove_119 : decode mE_prove.1 119 = .ok (.iload 5, 2) := by decide +kernel
theorem dE_prove_121 : decode mE_prove.1 121 = .ok (.invokevirtual 193, 3) := by decide +kernel
theorem dE_prove_124 : decode mE_prove.1 124 = .ok (.iastore, 1) := by decide +kernel
theorem dE_prove_125 : decode mE_prove.1 125 = .ok (.aload_n 0, 1) := by decide +kernel
theorem dE_prove_126 : decode mE_prove.1 126 = .ok (.dup, 1) := by decide +kernel
theorem dE_prove_127 : decode mE_prove.1 127 = .ok (.getfield 44, 3) := by decide +kernel
theorem dE_prove_130 : decode mE_prove.1 130 = .ok (.iconst 1, 1) := by decide +kernel
theorem dE_prove_131 : decode mE_prove.1 131 = .ok (.iadd, 1) := by decide +kernel
theorem dE_prove_132 : decode mE_prove.1 132 = .ok (.putfield 44, 3) := by decide +kernel
theorem dE_prove_135 : decode mE_prove.1 135 = .ok (.iload 5, 2) := by decide +kernel
theorem dE_prove_137 : decode mE_prove.1 137 = .ok (.istore_n 3, 1) := by decide +kernel
theorem dE_prove_138 : decode mE_prove.1 138 = .ok (.iinc 4 1, 3) := by decide +kernel
theorem dE_prove_141 : decode mE_prove.1 141 = .ok (.goto (-93), 3) := by decide +kernel
theorem dE_prove_144 : decode mE_prove.1 144 = .ok (.aload_n 0, 1) := by decide +kernel
theorem dE_prove_145 : decode mE_prove.1 145 = .ok (.getfield 44, 3) := by decide +kernel
theorem dE_prove_148 : decode mE_prove.1 148 = .ok (.ireturn, 1) := by decide +kernel
set_option maxRecDepth 4000 in
theorem wE_prove_48 {E : Ev} {z : Int32 × St} : ∀ (fu : Nat) (σ : St) (i2 : Int32) (i3 : Int32) (i4 : Int32), fE_prove_48 fu σ i2 i3 i4 = some z → V E mE_prove (FM E (some (.int z.1), z.2)) 48 [(0, .ref 0), (2, .int i2), (3, .int i3), (4, .int i4)] [] σ := by
  intro fu
  induction fu with
  | zero => intro σ i2 i3 i4 hX; cases hX
  | succ fu ih =>
    intro σ i2 i3 i4 hX
    rw [fE_prove_48] at hX
    refine V.iload 3 dE_prove_48 rfl rfl ?_
    refine V.bipush (7 : Int32) dE_prove_50 lb7 rfl ?_
    refine V.icmpge 144 dE_prove_52 rfl rfl (fun g12 => ?_) (fun g12 => ?_)
    · replace hX := ip hX g12
      refine V.aloadn 0 dE_prove_144 rfl rfl ?_
      refine V.geti 0 dE_prove_145 flE_44 (rfl : kd 0 = (5, 0)) rfl ?_
      have hX := (Option.some.inj hX).symm; subst hX; exact V.iret dE_prove_148 rfl rfl
    · replace hX := im hX g12
      refine V.aloadn 0 dE_prove_55 rfl rfl ?_
      refine V.getr 0 27 dE_prove_56 flE_36 (rfl : kd 0 = (5, 0)) rfl rfl ?_
      refine V.iloadn 1 dE_prove_59 rfl rfl ?_
      refine V.iloadn 2 dE_prove_60 rfl rfl ?_
      obtain ⟨q13, c14, hX⟩ := bd hX; try dsimp only at hX
      refine V.callvi 27 [.int i2, .int i3] dE_prove_61 (kW_firstTaker c14) mlE_172 myW_firstTaker mnW_firstTaker ⟨rfl, rfl, by decide, by decide⟩ (rfl : kd 27 = (4, 0)) (by decide) rfl (Nat.le_of_ble_eq_true rfl) ⟨Nat.zero_le _, Nat.zero_le _⟩ rfl ?_
      refine V.istore _ dE_prove_64 (by decide) rfl rfl ?_
      refine V.iload 0 dE_prove_66 rfl rfl ?_
      refine V.ifge 74 dE_prove_68 rfl rfl (fun g15 => ?_) (fun g15 => ?_)
      · replace hX := ip hX g15
        refine V.iloadn 2 dE_prove_74 rfl rfl ?_
        refine V.iconst (1 : Int32) dE_prove_75 lc1 rfl ?_
        refine V.iload 0 dE_prove_76 rfl rfl ?_
        refine V.ishl dE_prove_78 rfl ?_
        refine V.ior dE_prove_79 rfl ?_
        refine V.istoren _ dE_prove_80 (by decide) rfl rfl ?_
        replace hX := nmx hX; generalize i2 ||| ((1 : Int32) <<< (q13 &&& 31)) = v16 at hX ⊢; try dsimp only at hX
        refine V.aloadn 2 dE_prove_81 rfl rfl ?_
        refine V.getr 0 30 dE_prove_82 flE_40 (rfl : kd 0 = (5, 0)) rfl rfl ?_
        refine V.iconst (3 : Int32) dE_prove_85 lc3 rfl ?_
        refine V.iload 4 dE_prove_86 rfl rfl ?_
        refine V.imul dE_prove_88 rfl ?_
        refine V.iloadn 3 dE_prove_89 rfl rfl ?_
        obtain ⟨h17, hX⟩ := ob hX
        refine V.iast 30 dE_prove_90 (rfl : kd 30 = (7, 21)) h17 rfl ?_
        replace hX := nmx hX; generalize sI σ 30 (ix ((3 : Int32) * i4)) i3 = σ18 at hX ⊢; try dsimp only at hX
        refine V.aloadn 2 dE_prove_91 rfl rfl ?_
        refine V.getr 0 30 dE_prove_92 flE_40 (rfl : kd 0 = (5, 0)) rfl rfl ?_
        refine V.iconst (3 : Int32) dE_prove_95 lc3 rfl ?_
        refine V.iload 4 dE_prove_96 rfl rfl ?_
        refine V.imul dE_prove_98 rfl ?_
        refine V.iconst (1 : Int32) dE_prove_99 lc1 rfl ?_
        refine V.iadd dE_prove_100 rfl ?_
        refine V.iload 1 dE_prove_101 rfl rfl ?_
        obtain ⟨h19, hX⟩ := ob hX
        refine V.iast 30 dE_prove_103 (rfl : kd 30 = (7, 21)) h19 rfl ?_
        replace hX := nmx hX; generalize sI σ18 30 (ix (((3 : Int32) * i4) + (1 : Int32))) q13 = σ20 at hX ⊢; try dsimp only at hX
        refine V.aloadn 2 dE_prove_104 rfl rfl ?_
        refine V.getr 0 30 dE_prove_105 flE_40 (rfl : kd 0 = (5, 0)) rfl rfl ?_
        refine V.iconst (3 : Int32) dE_prove_108 lc3 rfl ?_
        refine V.iload 4 dE_prove_109 rfl rfl ?_
        refine V.imul dE_prove_111 rfl ?_
        refine V.iconst (2 : Int32) dE_prove_112 lc2 rfl ?_
        refine V.iadd dE_prove_113 rfl ?_
        refine V.aloadn 2 dE_prove_114 rfl rfl ?_
        refine V.getr 0 27 dE_prove_115 flE_36 (rfl : kd 0 = (5, 0)) rfl rfl ?_
        refine V.iloadn 0 dE_prove_118 rfl rfl ?_
        refine V.iload 1 dE_prove_119 rfl rfl ?_
        obtain ⟨q21, c22, hX⟩ := bd hX; try dsimp only at hX
        refine V.callvi 27 [.int v16, .int q13] dE_prove_121 (kW_at c22) mlE_193 myW_at mnW_at ⟨rfl, rfl, by decide, by decide⟩ (rfl : kd 27 = (4, 0)) (by decide) rfl (Nat.le_of_ble_eq_true rfl) ⟨Nat.zero_le _, Nat.zero_le _⟩ rfl ?_
        obtain ⟨h23, hX⟩ := ob hX
        refine V.iast 30 dE_prove_124 (rfl : kd 30 = (7, 21)) h23 rfl ?_
        replace hX := nmx hX; generalize sI σ20 30 (ix (((3 : Int32) * i4) + (2 : Int32))) q21 = σ24 at hX ⊢; try dsimp only at hX
        refine V.aloadn 2 dE_prove_125 rfl rfl ?_
        refine V.dup dE_prove_126 rfl rfl ?_
        refine V.geti 0 dE_prove_127 flE_44 (rfl : kd 0 = (5, 0)) rfl ?_
        refine V.iconst (1 : Int32) dE_prove_130 lc1 rfl ?_
        refine V.iadd dE_prove_131 rfl ?_
        refine V.puti 0 .int dE_prove_132 flE_44 fw5_7 (rfl : kd 0 = (5, 0)) ⟨rfl, rfl⟩ rfl ?_
        replace hX := nmx hX; generalize sI σ24 0 7 ((gI σ24 0 7) + (1 : Int32)) = σ25 at hX ⊢; try dsimp only at hX
        refine V.iload 1 dE_prove_135 rfl rfl ?_
        refine V.istoren _ dE_prove_137 (by decide) rfl rfl ?_
        refine V.iinc 4 (1 : Int32) _ dE_prove_138 rfl lc1 (by decide) rfl rfl ?_
        replace hX := nmx hX; generalize i4 + (1 : Int32) = v26 at hX ⊢; try dsimp only at hX
        refine V.goto 48 dE_prove_141 rfl ?_
        refine V.sub [4, 2, 1, 0] rfl ?_
        exact ih σ25 v16 q13 v26 hX
      · replace hX := im hX g15
        refine V.goto 144 dE_prove_71 rfl ?_
        refine V.aloadn 1 dE_prove_144 rfl rfl ?_
        refine V.geti 0 dE_prove_145 flE_44 (rfl : kd 0 = (5, 0)) rfl ?_
        have hX := (Option.some.inj hX).symm; subst hX; exact V.iret dE_prove_148 rfl rfl
set_option maxRecDepth 4000 in
theorem wE_prove {E : Ev} {z : Int32 × St} (σ : St) (i1 : Int32) (hX : fE_prove σ i1 = some z) : V E mE_prove (FM E (some (.int z.1), z.2)) 0 [(0, .ref 0), (1, .int i1)] [] σ := by
  unfold fE_prove at hX
  refine V.aloadn 0 dE_prove_0 rfl rfl ?_
  refine V.getd 0 dE_prove_1 flE_10 (rfl : kd 0 = (5, 0)) rfl ?_
  refine V.iloadn 1 dE_prove_4 rfl rfl ?_
  obtain ⟨h1, hX⟩ := ob hX
  refine V.callvi (gR σ 0) [.int i1] dE_prove_5 (kT_hasCoin (σ := σ) (gR σ 0) i1 h1) mlE_125 myT_hasCoin mnT_hasCoin ⟨rfl, rfl, by decide, by decide⟩ (tk0 h1) (by decide) rfl (Nat.le_of_ble_eq_true rfl) ⟨Nat.zero_le _, Nat.zero_le _⟩ rfl ?_
  refine V.ifne 13 dE_prove_8 rfl rfl (fun g2 => ?_) (fun g2 => ?_)
  · replace hX := im hX g2
    refine V.aloadn 0 dE_prove_13 rfl rfl ?_
    refine V.iloadn 1 dE_prove_14 rfl rfl ?_
    refine V.iconst (0 : Int32) dE_prove_15 lc0 rfl ?_
    obtain ⟨q4, σ4, c3, hX⟩ := bi2 hX; try dsimp only at hX
    refine V.callvi 0 [.int i1, .int (0 : Int32)] dE_prove_16 (kE_look c3) mlE_168 myE_look mnE_look ⟨rfl, rfl, by decide, by decide⟩ (rfl : kd 0 = (5, 0)) (by decide) rfl (Nat.le_of_ble_eq_true rfl) ⟨Nat.zero_le _, Nat.zero_le _⟩ rfl ?_
    refine V.pop dE_prove_19 rfl rfl ?_
    refine V.aloadn 0 dE_prove_20 rfl rfl ?_
    refine V.getd 0 dE_prove_21 flE_10 (rfl : kd 0 = (5, 0)) rfl ?_
    obtain ⟨h5, hX⟩ := ob hX
    refine V.getr (gR σ4 0) ((gR σ4 0) + 7) dE_prove_24 flE_140 (tk0 h5) rfl rfl ?_
    refine V.iloadn 1 dE_prove_27 rfl rfl ?_
    obtain ⟨h6, hX⟩ := ob hX
    refine V.iald ((gR σ4 0) + 7) dE_prove_28 (tk7 h5) h6 rfl ?_
    refine V.istoren _ dE_prove_29 (by decide) rfl rfl ?_
    replace hX := nmx hX; generalize gI σ4 ((gR σ4 0) + 7) (ix i1) = v7 at hX ⊢; try dsimp only at hX
    refine V.aloadn 1 dE_prove_30 rfl rfl ?_
    refine V.getd 0 dE_prove_31 flE_10 (rfl : kd 0 = (5, 0)) rfl ?_
    obtain ⟨h8, hX⟩ := ob hX
    refine V.getr (gR σ4 0) ((gR σ4 0) + 6) dE_prove_34 flE_137 (tk0 h8) rfl rfl ?_
    refine V.iloadn 2 dE_prove_37 rfl rfl ?_
    obtain ⟨h9, hX⟩ := ob hX
    refine V.iald ((gR σ4 0) + 6) dE_prove_38 (tk6 h8) h9 rfl ?_
    refine V.istoren _ dE_prove_39 (by decide) rfl rfl ?_
    replace hX := nmx hX; generalize gI σ4 ((gR σ4 0) + 6) (ix i1) = v10 at hX ⊢; try dsimp only at hX
    refine V.aloadn 2 dE_prove_40 rfl rfl ?_
    refine V.iconst (0 : Int32) dE_prove_41 lc0 rfl ?_
    refine V.puti 0 .int dE_prove_42 flE_44 fw5_7 (rfl : kd 0 = (5, 0)) ⟨rfl, rfl⟩ rfl ?_
    replace hX := nmx hX; generalize sI σ4 0 7 (0 : Int32) = σ11 at hX ⊢; try dsimp only at hX
    refine V.iconst (0 : Int32) dE_prove_45 lc0 rfl ?_
    refine V.istore _ dE_prove_46 (by decide) rfl rfl ?_
    refine V.sub [3, 2, 1, 0] rfl ?_
    exact wE_prove_48 300 σ11 v7 v10 (0 : Int32) hX
  · replace hX := ip hX g2
    refine V.iconst (-1 : Int32) dE_prove_11 lcm1 rfl ?_
    have hX := (Option.some.inj hX).symm; subst hX; exact V.iret dE_prove_12 rfl rfl
theorem kE_prove {E : Ev} {σ σ2 : St} {i1 : Int32} {z : Int32} (h : fE_prove σ i1 = some (z, σ2)) : Ct mE_prove E [.ref 0, .int i1] σ (some (.int z), σ2) := Ct.of (by decide) (Nat.le_of_ble_eq_true rfl) (wE_prove σ i1 h)
theorem dE_isRowPart_0 : decode mE_isRowPart.1 0 = .ok (.iload_n 1, 1) := by decide +kernel
theorem dE_isRowPart_1 : decode mE_isRowPart.1 1 = .ok (.ifCond .lt 24, 3) := by decide +kernel
theorem dE_isRowPart_4 : decode mE_isRowPart.1 4 = .ok (.iload_n 1, 1) := by decide +kernel
theorem dE_isRowPart_5 : decode mE_isRowPart.1 5 = .ok (.aload_n 0, 1) := by decide +kernel
theorem dE_isRowPart_6 : decode mE_isRowPart.1 6 = .ok (.getfield 44, 3) := by decide +kernel
theorem dE_isRowPart_9 : decode mE_isRowPart.1 9 = .ok (.if_icmp .ge 16, 3) := by decide +kernel
theorem dE_isRowPart_12 : decode mE_isRowPart.1 12 = .ok (.iload_n 2, 1) := by decide +kernel
theorem dE_isRowPart_13 : decode mE_isRowPart.1 13 = .ok (.ifCond .lt 12, 3) := by decide +kernel
theorem dE_isRowPart_16 : decode mE_isRowPart.1 16 = .ok (.iload_n 2, 1) := by decide +kernel
theorem dE_isRowPart_17 : decode mE_isRowPart.1 17 = .ok (.iconst 3, 1) := by decide +kernel
theorem dE_isRowPart_18 : decode mE_isRowPart.1 18 = .ok (.if_icmp .ge 7, 3) := by decide +kernel
theorem dE_isRowPart_21 : decode mE_isRowPart.1 21 = .ok (.iconst 1, 1) := by decide +kernel
theorem dE_isRowPart_22 : decode mE_isRowPart.1 22 = .ok (.goto 4, 3) := by decide +kernel
theorem dE_isRowPart_25 : decode mE_isRowPart.1 25 = .ok (.iconst 0, 1) := by decide +kernel
theorem dE_isRowPart_26 : decode mE_isRowPart.1 26 = .ok (.ireturn, 1) := by decide +kernel
set_option maxRecDepth 4000 in
theorem wE_isRowPart {E : Ev} {z : Int32} (σ : St) (i1 : Int32) (i2 : Int32) (hX : fE_isRowPart σ i1 i2 = z) : V E mE_isRowPart (FM E (some (.int z), σ)) 0 [(0, .ref 0), (1, .int i1), (2, .int i2)] [] σ := by
  unfold fE_isRowPart at hX
  refine V.iloadn 1 dE_isRowPart_0 rfl rfl ?_
  have JJ : V E mE_isRowPart (FM E (some (.int z), σ)) 26 [(0, .ref 0), (1, .int i1), (2, .int i2)] [.int (if i1 < 0 then (0 : Int32) else (if (gI σ 0 7) ≤ i1 then (0 : Int32) else (if i2 < 0 then (0 : Int32) else (if (3 : Int32) ≤ i2 then (0 : Int32) else (1 : Int32)))))] σ := by
    subst hX; exact V.zret .boolean dE_isRowPart_26 rfl (nz (b01_i b01_0 (b01_i b01_0 (b01_i b01_0 (b01_i b01_0 b01_1))))).1 rfl
  refine V.iflt 25 dE_isRowPart_1 rfl rfl (fun g1 => ?_) (fun g1 => ?_)
  · refine V.iconst (0 : Int32) dE_isRowPart_25 lc0 rfl ?_
    exact V.top (if_pos g1).symm JJ
  · refine V.iloadn 1 dE_isRowPart_4 rfl rfl ?_
    refine V.aloadn 0 dE_isRowPart_5 rfl rfl ?_
    refine V.geti 0 dE_isRowPart_6 flE_44 (rfl : kd 0 = (5, 0)) rfl ?_
    refine V.icmpge 25 dE_isRowPart_9 rfl rfl (fun g2 => ?_) (fun g2 => ?_)
    · refine V.iconst (0 : Int32) dE_isRowPart_25 lc0 rfl ?_
      exact V.top ((if_neg g1).trans (if_pos g2)).symm JJ
    · refine V.iloadn 2 dE_isRowPart_12 rfl rfl ?_
      refine V.iflt 25 dE_isRowPart_13 rfl rfl (fun g3 => ?_) (fun g3 => ?_)
      · refine V.iconst (0 : Int32) dE_isRowPart_25 lc0 rfl ?_
        exact V.top (((if_neg g1).trans (if_neg g2)).trans (if_pos g3)).symm JJ
      · refine V.iloadn 2 dE_isRowPart_16 rfl rfl ?_
        refine V.iconst (3 : Int32) dE_isRowPart_17 lc3 rfl ?_
        refine V.icmpge 25 dE_isRowPart_18 rfl rfl (fun g4 => ?_) (fun g4 => ?_)
        · refine V.iconst (0 : Int32) dE_isRowPart_25 lc0 rfl ?_
          exact V.top ((((if_neg g1).trans (if_neg g2)).trans (if_neg g3)).trans (if_pos g4)).symm JJ
        · refine V.iconst (1 : Int32) dE_isRowPart_21 lc1 rfl ?_
          refine V.goto 26 dE_isRowPart_22 rfl ?_
          exact V.top ((((if_neg g1).trans (if_neg g2)).trans (if_neg g3)).trans (if_neg g4)).symm JJ
theorem kE_isRowPart {E : Ev} {σ : St} (i1 : Int32) (i2 : Int32) : Ct mE_isRowPart E [.ref 0, .int i1, .int i2] σ (some (.int (fE_isRowPart σ i1 i2)), σ) := Ct.of (by decide) (Nat.le_of_ble_eq_true rfl) (wE_isRowPart σ i1 i2 rfl)
theorem bE_isRowPart (σ : St) (i1 : Int32) (i2 : Int32) : b01 (fE_isRowPart σ i1 i2) := by
  unfold fE_isRowPart
  exact (b01_i b01_0 (b01_i b01_0 (b01_i b01_0 (b01_i b01_0 b01_1))))
theorem dE_rowOf_0 : decode mE_rowOf.1 0 = .ok (.aload_n 0, 1) := by decide +kernel
theorem dE_rowOf_1 : decode mE_rowOf.1 1 = .ok (.iload_n 1, 1) := by decide +kernel
theorem dE_rowOf_2 : decode mE_rowOf.1 2 = .ok (.iload_n 2, 1) := by decide +kernel
theorem dE_rowOf_3 : decode mE_rowOf.1 3 = .ok (.invokevirtual 196, 3) := by decide +kernel
theorem dE_rowOf_6 : decode mE_rowOf.1 6 = .ok (.ifCond .eq 16, 3) := by decide +kernel
theorem dE_rowOf_9 : decode mE_rowOf.1 9 = .ok (.aload_n 0, 1) := by decide +kernel
theorem dE_rowOf_10 : decode mE_rowOf.1 10 = .ok (.getfield 40, 3) := by decide +kernel
theorem dE_rowOf_13 : decode mE_rowOf.1 13 = .ok (.iconst 3, 1) := by decide +kernel
theorem dE_rowOf_14 : decode mE_rowOf.1 14 = .ok (.iload_n 1, 1) := by decide +kernel
theorem dE_rowOf_15 : decode mE_rowOf.1 15 = .ok (.imul, 1) := by decide +kernel
theorem dE_rowOf_16 : decode mE_rowOf.1 16 = .ok (.iload_n 2, 1) := by decide +kernel
theorem dE_rowOf_17 : decode mE_rowOf.1 17 = .ok (.iadd, 1) := by decide +kernel
theorem dE_rowOf_18 : decode mE_rowOf.1 18 = .ok (.iaload, 1) := by decide +kernel
theorem dE_rowOf_19 : decode mE_rowOf.1 19 = .ok (.goto 5, 3) := by decide +kernel
theorem dE_rowOf_22 : decode mE_rowOf.1 22 = .ok (.bipush (-9), 2) := by decide +kernel
theorem dE_rowOf_24 : decode mE_rowOf.1 24 = .ok (.ireturn, 1) := by decide +kernel
set_option maxRecDepth 4000 in
theorem wE_rowOf {E : Ev} {z : Int32} (σ : St) (i1 : Int32) (i2 : Int32) (hX : fE_rowOf σ i1 i2 = some z) : V E mE_rowOf (FM E (some (.int z), σ)) 0 [(0, .ref 0), (1, .int i1), (2, .int i2)] [] σ := by
  unfold fE_rowOf at hX
  refine V.aloadn 0 dE_rowOf_0 rfl rfl ?_
  refine V.iloadn 1 dE_rowOf_1 rfl rfl ?_
  refine V.iloadn 2 dE_rowOf_2 rfl rfl ?_
  refine V.callvi 0 [.int i1, .int i2] dE_rowOf_3 (kE_isRowPart (σ := σ) i1 i2) mlE_196 myE_isRowPart mnE_isRowPart ⟨rfl, rfl, by decide, by decide⟩ (rfl : kd 0 = (5, 0)) (by decide) rfl (Nat.le_of_ble_eq_true rfl) ⟨Nat.zero_le _, Nat.zero_le _⟩ rfl ?_
  refine V.ifeq 22 dE_rowOf_6 rfl rfl (fun g1 => ?_) (fun g1 => ?_)
  · replace hX := ip hX g1
    refine V.bipush (-9 : Int32) dE_rowOf_22 lbm9 rfl ?_
    have hX := (Option.some.inj hX).symm; subst hX; exact V.iret dE_rowOf_24 rfl rfl
  · replace hX := im hX g1
    refine V.aloadn 0 dE_rowOf_9 rfl rfl ?_
    refine V.getr 0 30 dE_rowOf_10 flE_40 (rfl : kd 0 = (5, 0)) rfl rfl ?_
    refine V.iconst (3 : Int32) dE_rowOf_13 lc3 rfl ?_
    refine V.iloadn 1 dE_rowOf_14 rfl rfl ?_
    refine V.imul dE_rowOf_15 rfl ?_
    refine V.iloadn 2 dE_rowOf_16 rfl rfl ?_
    refine V.iadd dE_rowOf_17 rfl ?_
    obtain ⟨h2, hX⟩ := ob hX
    refine V.iald 30 dE_rowOf_18 (rfl : kd 30 = (7, 21)) h2 rfl ?_
    refine V.goto 24 dE_rowOf_19 rfl ?_
    have hX := (Option.some.inj hX).symm; subst hX; exact V.iret dE_rowOf_24 rfl rfl
theorem kE_rowOf {E : Ev} {σ : St} {i1 : Int32} {i2 : Int32} {z : Int32} (h : fE_rowOf σ i1 i2 = some z) : Ct mE_rowOf E [.ref 0, .int i1, .int i2] σ (some (.int z), σ) := Ct.of (by decide) (Nat.le_of_ble_eq_true rfl) (wE_rowOf σ i1 i2 h)
theorem dE_alterRow_0 : decode mE_alterRow.1 0 = .ok (.aload_n 0, 1) := by decide +kernel
theorem dE_alterRow_1 : decode mE_alterRow.1 1 = .ok (.iload_n 1, 1) := by decide +kernel
theorem dE_alterRow_2 : decode mE_alterRow.1 2 = .ok (.iload_n 2, 1) := by decide +kernel
theorem dE_alterRow_3 : decode mE_alterRow.1 3 = .ok (.invokevirtual 196, 3) := by decide +kernel
theorem dE_alterRow_6 : decode mE_alterRow.1 6 = .ok (.ifCond .ne 6, 3) := by decide +kernel
theorem dE_alterRow_9 : decode mE_alterRow.1 9 = .ok (.bipush (-9), 2) := by decide +kernel
theorem dE_alterRow_11 : decode mE_alterRow.1 11 = .ok (.ireturn, 1) := by decide +kernel
theorem dE_alterRow_12 : decode mE_alterRow.1 12 = .ok (.aload_n 0, 1) := by decide +kernel
theorem dE_alterRow_13 : decode mE_alterRow.1 13 = .ok (.getfield 40, 3) := by decide +kernel
theorem dE_alterRow_16 : decode mE_alterRow.1 16 = .ok (.iconst 3, 1) := by decide +kernel
theorem dE_alterRow_17 : decode mE_alterRow.1 17 = .ok (.iload_n 1, 1) := by decide +kernel
theorem dE_alterRow_18 : decode mE_alterRow.1 18 = .ok (.imul, 1) := by decide +kernel
theorem dE_alterRow_19 : decode mE_alterRow.1 19 = .ok (.iload_n 2, 1) := by decide +kernel
theorem dE_alterRow_20 : decode mE_alterRow.1 20 = .ok (.iadd, 1) := by decide +kernel
theorem dE_alterRow_21 : decode mE_alterRow.1 21 = .ok (.iaload, 1) := by decide +kernel
theorem dE_alterRow_22 : decode mE_alterRow.1 22 = .ok (.istore 4, 2) := by decide +kernel
theorem dE_alterRow_24 : decode mE_alterRow.1 24 = .ok (.aload_n 0, 1) := by decide +kernel
theorem dE_alterRow_25 : decode mE_alterRow.1 25 = .ok (.getfield 40, 3) := by decide +kernel
theorem dE_alterRow_28 : decode mE_alterRow.1 28 = .ok (.iconst 3, 1) := by decide +kernel
theorem dE_alterRow_29 : decode mE_alterRow.1 29 = .ok (.iload_n 1, 1) := by decide +kernel
theorem dE_alterRow_30 : decode mE_alterRow.1 30 = .ok (.imul, 1) := by decide +kernel
theorem dE_alterRow_31 : decode mE_alterRow.1 31 = .ok (.iload_n 2, 1) := by decide +kernel
theorem dE_alterRow_32 : decode mE_alterRow.1 32 = .ok (.iadd, 1) := by decide +kernel
theorem dE_alterRow_33 : decode mE_alterRow.1 33 = .ok (.iload_n 3, 1) := by decide +kernel
theorem dE_alterRow_34 : decode mE_alterRow.1 34 = .ok (.iastore, 1) := by decide +kernel
theorem dE_alterRow_35 : decode mE_alterRow.1 35 = .ok (.iload 4, 2) := by decide +kernel
theorem dE_alterRow_37 : decode mE_alterRow.1 37 = .ok (.ireturn, 1) := by decide +kernel
set_option maxRecDepth 4000 in
theorem wE_alterRow {E : Ev} {z : Int32 × St} (σ : St) (i1 : Int32) (i2 : Int32) (i3 : Int32) (hX : fE_alterRow σ i1 i2 i3 = some z) : V E mE_alterRow (FM E (some (.int z.1), z.2)) 0 [(0, .ref 0), (1, .int i1), (2, .int i2), (3, .int i3)] [] σ := by
  unfold fE_alterRow at hX
  refine V.aloadn 0 dE_alterRow_0 rfl rfl ?_
  refine V.iloadn 1 dE_alterRow_1 rfl rfl ?_
  refine V.iloadn 2 dE_alterRow_2 rfl rfl ?_
  refine V.callvi 0 [.int i1, .int i2] dE_alterRow_3 (kE_isRowPart (σ := σ) i1 i2) mlE_196 myE_isRowPart mnE_isRowPart ⟨rfl, rfl, by decide, by decide⟩ (rfl : kd 0 = (5, 0)) (by decide) rfl (Nat.le_of_ble_eq_true rfl) ⟨Nat.zero_le _, Nat.zero_le _⟩ rfl ?_
  refine V.ifne 12 dE_alterRow_6 rfl rfl (fun g1 => ?_) (fun g1 => ?_)
  · replace hX := im hX g1
    refine V.aloadn 0 dE_alterRow_12 rfl rfl ?_
    refine V.getr 0 30 dE_alterRow_13 flE_40 (rfl : kd 0 = (5, 0)) rfl rfl ?_
    refine V.iconst (3 : Int32) dE_alterRow_16 lc3 rfl ?_
    refine V.iloadn 1 dE_alterRow_17 rfl rfl ?_
    refine V.imul dE_alterRow_18 rfl ?_
    refine V.iloadn 2 dE_alterRow_19 rfl rfl ?_
    refine V.iadd dE_alterRow_20 rfl ?_
    obtain ⟨h2, hX⟩ := ob hX
    refine V.iald 30 dE_alterRow_21 (rfl : kd 30 = (7, 21)) h2 rfl ?_
    refine V.istore _ dE_alterRow_22 (by decide) rfl rfl ?_
    replace hX := nmx hX; generalize gI σ 30 (ix (((3 : Int32) * i1) + i2)) = v3 at hX ⊢; try dsimp only at hX
    refine V.aloadn 1 dE_alterRow_24 rfl rfl ?_
    refine V.getr 0 30 dE_alterRow_25 flE_40 (rfl : kd 0 = (5, 0)) rfl rfl ?_
    refine V.iconst (3 : Int32) dE_alterRow_28 lc3 rfl ?_
    refine V.iloadn 2 dE_alterRow_29 rfl rfl ?_
    refine V.imul dE_alterRow_30 rfl ?_
    refine V.iloadn 3 dE_alterRow_31 rfl rfl ?_
    refine V.iadd dE_alterRow_32 rfl ?_
    refine V.iloadn 4 dE_alterRow_33 rfl rfl ?_
    obtain ⟨h4, hX⟩ := ob hX
    refine V.iast 30 dE_alterRow_34 (rfl : kd 30 = (7, 21)) h4 rfl ?_
    replace hX := nmx hX; generalize sI σ 30 (ix (((3 : Int32) * i1) + i2)) i3 = σ5 at hX ⊢; try dsimp only at hX
    refine V.iload 0 dE_alterRow_35 rfl rfl ?_
    have hX := (Option.some.inj hX).symm; subst hX; exact V.iret dE_alterRow_37 rfl rfl
  · replace hX := ip hX g1
    refine V.bipush (-9 : Int32) dE_alterRow_9 lbm9 rfl ?_
    have hX := (Option.some.inj hX).symm; subst hX; exact V.iret dE_alterRow_11 rfl rfl
theorem kE_alterRow {E : Ev} {σ σ2 : St} {i1 : Int32} {i2 : Int32} {i3 : Int32} {z : Int32} (h : fE_alterRow σ i1 i2 i3 = some (z, σ2)) : Ct mE_alterRow E [.ref 0, .int i1, .int i2, .int i3] σ (some (.int z), σ2) := Ct.of (by decide) (Nat.le_of_ble_eq_true rfl) (wE_alterRow σ i1 i2 i3 h)
theorem dE_judge_0 : decode mE_judge.1 0 = .ok (.aload_n 0, 1) := by decide +kernel
theorem dE_judge_1 : decode mE_judge.1 1 = .ok (.getfield 10, 3) := by decide +kernel
theorem dE_judge_4 : decode mE_judge.1 4 = .ok (.iload_n 1, 1) := by decide +kernel
theorem dE_judge_5 : decode mE_judge.1 5 = .ok (.invokevirtual 125, 3) := by decide +kernel
theorem dE_judge_8 : decode mE_judge.1 8 = .ok (.ifCond .ne 5, 3) := by decide +kernel
theorem dE_judge_11 : decode mE_judge.1 11 = .ok (.iconst (-1), 1) := by decide +kernel
theorem dE_judge_12 : decode mE_judge.1 12 = .ok (.ireturn, 1) := by decide +kernel
theorem dE_judge_13 : decode mE_judge.1 13 = .ok (.aload_n 0, 1) := by decide +kernel
theorem dE_judge_14 : decode mE_judge.1 14 = .ok (.iload_n 1, 1) := by decide +kernel
theorem dE_judge_15 : decode mE_judge.1 15 = .ok (.iconst 0, 1) := by decide +kernel
theorem dE_judge_16 : decode mE_judge.1 16 = .ok (.invokevirtual 168, 3) := by decide +kernel
theorem dE_judge_19 : decode mE_judge.1 19 = .ok (.pop, 1) := by decide +kernel
theorem dE_judge_20 : decode mE_judge.1 20 = .ok (.aload_n 0, 1) := by decide +kernel
theorem dE_judge_21 : decode mE_judge.1 21 = .ok (.getfield 10, 3) := by decide +kernel
theorem dE_judge_24 : decode mE_judge.1 24 = .ok (.getfield 140, 3) := by decide +kernel
theorem dE_judge_27 : decode mE_judge.1 27 = .ok (.iload_n 1, 1) := by decide +kernel
theorem dE_judge_28 : decode mE_judge.1 28 = .ok (.iaload, 1) := by decide +kernel
theorem dE_judge_29 : decode mE_judge.1 29 = .ok (.istore_n 2, 1) := by decide +kernel
theorem dE_judge_30 : decode mE_judge.1 30 = .ok (.aload_n 0, 1) := by decide +kernel
theorem dE_judge_31 : decode mE_judge.1 31 = .ok (.getfield 10, 3) := by decide +kernel
theorem dE_judge_34 : decode mE_judge.1 34 = .ok (.getfield 137, 3) := by decide +kernel
theorem dE_judge_37 : decode mE_judge.1 37 = .ok (.iload_n 1, 1) := by decide +kernel
theorem dE_judge_38 : decode mE_judge.1 38 = .ok (.iaload, 1) := by decide +kernel
theorem dE_judge_39 : decode mE_judge.1 39 = .ok (.istore_n 3, 1) := by decide +kernel
theorem dE_judge_40 : decode mE_judge.1 40 = .ok (.iconst 0, 1) := by decide +kernel
theorem dE_judge_41 : decode mE_judge.1 41 = .ok (.istore 4, 2) := by decide +kernel
theorem dE_judge_43 : decode mE_judge.1 43 = .ok (.iload 4, 2) := by decide +kernel
theorem dE_judge_45 : decode mE_judge.1 45 = .ok (.aload_n 0, 1) := by decide +kernel
theorem dE_judge_46 : decode mE_judge.1 46 = .ok (.getfield 44, 3) := by decide +kernel
theorem dE_judge_49 : decode mE_judge.1 49 = .ok (.if_icmp .ge 107, 3) := by decide +kernel
theorem dE_judge_52 : decode mE_judge.1 52 = .ok (.aload_n 0, 1) := by decide +kernel
theorem dE_judge_53 : decode mE_judge.1 53 = .ok (.getfield 40, 3) := by decide +kernel
theorem dE_judge_56 : decode mE_judge.1 56 = .ok (.iconst 3, 1) := by decide +kernel
theorem dE_judge_57 : decode mE_judge.1 57 = .ok (.iload 4, 2) := by decide +kernel
theorem dE_judge_59 : decode mE_judge.1 59 = .ok (.imul, 1) := by decide +kernel
theorem dE_judge_60 : decode mE_judge.1 60 = .ok (.iconst 1, 1) := by decide +kernel
theorem dE_judge_61 : decode mE_judge.1 61 = .ok (.iadd, 1) := by decide +kernel
theorem dE_judge_62 : decode mE_judge.1 62 = .ok (.iaload, 1) := by decide +kernel
theorem dE_judge_63 : decode mE_judge.1 63 = .ok (.istore 5, 2) := by decide +kernel
theorem dE_judge_65 : decode mE_judge.1 65 = .ok (.aload_n 0, 1) := by decide +kernel
theorem dE_judge_66 : decode mE_judge.1 66 = .ok (.getfield 40, 3) := by decide +kernel
theorem dE_judge_69 : decode mE_judge.1 69 = .ok (.iconst 3, 1) := by decide +kernel
theorem dE_judge_70 : decode mE_judge.1 70 = .ok (.iload 4, 2) := by decide +kernel
theorem dE_judge_72 : decode mE_judge.1 72 = .ok (.imul, 1) := by decide +kernel
theorem dE_judge_73 : decode mE_judge.1 73 = .ok (.iaload, 1) := by decide +kernel
theorem dE_judge_74 : decode mE_judge.1 74 = .ok (.iload_n 3, 1) := by decide +kernel
theorem dE_judge_75 : decode mE_judge.1 75 = .ok (.if_icmp .ne 32, 3) := by decide +kernel
theorem dE_judge_78 : decode mE_judge.1 78 = .ok (.aload_n 0, 1) := by decide +kernel
theorem dE_judge_79 : decode mE_judge.1 79 = .ok (.getfield 10, 3) := by decide +kernel
theorem dE_judge_82 : decode mE_judge.1 82 = .ok (.iload 5, 2) := by decide +kernel
theorem dE_judge_84 : decode mE_judge.1 84 = .ok (.invokevirtual 86, 3) := by decide +kernel
theorem dE_judge_87 : decode mE_judge.1 87 = .ok (.ifCond .eq 20, 3) := by decide +kernel
theorem dE_judge_90 : decode mE_judge.1 90 = .ok (.aload_n 0, 1) := by decide +kernel
theorem dE_judge_91 : decode mE_judge.1 91 = .ok (.getfield 36, 3) := by decide +kernel
theorem dE_judge_94 : decode mE_judge.1 94 = .ok (.iload_n 2, 1) := by decide +kernel
theorem dE_judge_95 : decode mE_judge.1 95 = .ok (.iload_n 3, 1) := by decide +kernel
theorem dE_judge_96 : decode mE_judge.1 96 = .ok (.invokevirtual 199, 3) := by decide +kernel
theorem dE_judge_99 : decode mE_judge.1 99 = .ok (.iload 5, 2) := by decide +kernel
theorem dE_judge_101 : decode mE_judge.1 101 = .ok (.invokestatic 151, 3) := by decide +kernel
theorem dE_judge_104 : decode mE_judge.1 104 = .ok (.ifCond .ne 8, 3) := by decide +kernel
theorem dE_judge_107 : decode mE_judge.1 107 = .ok (.iload 4, 2) := by decide +kernel
theorem dE_judge_109 : decode mE_judge.1 109 = .ok (.iconst 1, 1) := by decide +kernel
theorem dE_judge_110 : decode mE_judge.1 110 = .ok (.iadd, 1) := by decide +kernel
theorem dE_judge_111 : decode mE_judge.1 111 = .ok (.ireturn, 1) := by decide +kernel
theorem dE_judge_112 : decode mE_judge.1 112 = .ok (.iload_n 2, 1) := by decide +kernel
theorem dE_judge_113 : decode mE_judge.1 113 = .ok (.iconst 1, 1) := by decide +kernel
theorem dE_judge_114 : decode mE_judge.1 114 = .ok (.iload 5, 2) := by decide +kernel
theorem dE_judge_116 : decode mE_judge.1 116 = .ok (.ishl, 1) := by decide +kernel
theorem dE_judge_117 : decode mE_judge.1 117 = .ok (.ior, 1) := by decide +kernel
theorem dE_judge_118 : decode mE_judge.1 118 = .ok (.istore_n 2, 1) := by decide +kernel
theorem dE_judge_119 : decode mE_judge.1 119 = .ok (.iload 5, 2) := by decide +kernel
theorem dE_judge_121 : decode mE_judge.1 121 = .ok (.istore_n 3, 1) := by decide +kernel
theorem dE_judge_122 : decode mE_judge.1 122 = .ok (.aload_n 0, 1) := by decide +kernel
theorem dE_judge_123 : decode mE_judge.1 123 = .ok (.getfield 40, 3) := by decide +kernel
theorem dE_judge_126 : decode mE_judge.1 126 = .ok (.iconst 3, 1) := by decide +kernel
theorem dE_judge_127 : decode mE_judge.1 127 = .ok (.iload 4, 2) := by decide +kernel
theorem dE_judge_129 : decode mE_judge.1 129 = .ok (.imul, 1) := by decide +kernel
theorem dE_judge_130 : decode mE_judge.1 130 = .ok (.iconst 2, 1) := by decide +kernel
theorem dE_judge_131 : decode mE_judge.1 131 = .ok (.iadd, 1) := by decide +kernel
theorem dE_judge_132 : decode mE_judge.1 132 = .ok (.iaload, 1) := by decide +kernel
theorem dE_judge_133 : decode mE_judge.1 133 = .ok (.aload_n 0, 1) := by decide +kernel
theorem dE_judge_134 : decode mE_judge.1 134 = .ok (.getfield 36, 3) := by decide +kernel
theorem dE_judge_137 : decode mE_judge.1 137 = .ok (.iload_n 2, 1) := by decide +kernel
theorem dE_judge_138 : decode mE_judge.1 138 = .ok (.iload_n 3, 1) := by decide +kernel
theorem dE_judge_139 : decode mE_judge.1 139 = .ok (.invokevirtual 193, 3) := by decide +kernel
theorem dE_judge_142 : decode mE_judge.1 142 = .ok (.if_icmp .eq 8, 3) := by decide +kernel
theorem dE_judge_145 : decode mE_judge.1 145 = .ok (.iload 4, 2) := by decide +kernel
theorem dE_judge_147 : decode mE_judge.1 147 = .ok (.iconst 1, 1) := by decide +kernel
theorem dE_judge_148 : decode mE_judge.1 148 = .ok (.iadd, 1) := by decide +kernel
theorem dE_judge_149 : decode mE_judge.1 149 = .ok (.ireturn, 1) := by decide +kernel
theorem dE_judge_150 : decode mE_judge.1 150 = .ok (.iinc 4 1, 3) := by decide +kernel
theorem dE_judge_153 : decode mE_judge.1 153 = .ok (.goto (-110), 3) := by decide +kernel
theorem dE_judge_156 : decode mE_judge.1 156 = .ok (.aload_n 0, 1) := by decide +kernel
theorem dE_judge_157 : decode mE_judge.1 157 = .ok (.getfield 36, 3) := by decide +kernel
theorem dE_judge_160 : decode mE_judge.1 160 = .ok (.iload_n 2, 1) := by decide +kernel
theorem dE_judge_161 : decode mE_judge.1 161 = .ok (.iload_n 3, 1) := by decide +kernel
theorem dE_judge_162 : decode mE_judge.1 162 = .ok (.invokevirtual 199, 3) := by decide +kernel
theorem dE_judge_165 : decode mE_judge.1 165 = .ok (.ifCond .eq 9, 3) := by decide +kernel
theorem dE_judge_168 : decode mE_judge.1 168 = .ok (.sipush 222, 3) := by decide +kernel
theorem dE_judge_171 : decode mE_judge.1 171 = .ok (.goto 4, 3) := by decide +kernel
theorem dE_judge_174 : decode mE_judge.1 174 = .ok (.iconst 0, 1) := by decide +kernel
theorem dE_judge_175 : decode mE_judge.1 175 = .ok (.ireturn, 1) := by decide +kernel
set_option maxRecDepth 4000 in
theorem wE_judge_156 {E : Ev} {z : Int32 × St} (σ : St) (i2 : Int32) (i3 : Int32) (hX : fE_judge_156 σ i2 i3 = some z) : V E mE_judge (FM E (some (.int z.1), z.2)) 156 [(0, .ref 0), (2, .int i2), (3, .int i3)] [] σ := by
  unfold fE_judge_156 at hX
  refine V.aloadn 0 dE_judge_156 rfl rfl ?_
  refine V.getr 0 27 dE_judge_157 flE_36 (rfl : kd 0 = (5, 0)) rfl rfl ?_
  refine V.iloadn 1 dE_judge_160 rfl rfl ?_
  refine V.iloadn 2 dE_judge_161 rfl rfl ?_
  obtain ⟨q12, c13, hX⟩ := bd hX; try dsimp only at hX
  refine V.callvi 27 [.int i2, .int i3] dE_judge_162 (kW_takers c13) mlE_199 myW_takers mnW_takers ⟨rfl, rfl, by decide, by decide⟩ (rfl : kd 27 = (4, 0)) (by decide) rfl (Nat.le_of_ble_eq_true rfl) ⟨Nat.zero_le _, Nat.zero_le _⟩ rfl ?_
  have JJ : V E mE_judge (FM E (some (.int z.1), z.2)) 175 [(0, .ref 0), (2, .int i2), (3, .int i3)] [.int (if q12 = 0 then (0 : Int32) else (222 : Int32))] σ := by
    have hX := (Option.some.inj hX).symm; subst hX; exact V.iret dE_judge_175 rfl rfl
  refine V.ifeq 174 dE_judge_165 rfl rfl (fun g14 => ?_) (fun g14 => ?_)
  · refine V.iconst (0 : Int32) dE_judge_174 lc0 rfl ?_
    exact V.top (if_pos g14).symm JJ
  · refine V.sipush (222 : Int32) dE_judge_168 ls222 rfl ?_
    refine V.goto 175 dE_judge_171 rfl ?_
    exact V.top (if_neg g14).symm JJ
set_option maxRecDepth 4000 in
theorem wE_judge_43 {E : Ev} {z : Int32 × St} : ∀ (fu : Nat) (σ : St) (i2 : Int32) (i3 : Int32) (i4 : Int32), fE_judge_43 fu σ i2 i3 i4 = some z → V E mE_judge (FM E (some (.int z.1), z.2)) 43 [(0, .ref 0), (2, .int i2), (3, .int i3), (4, .int i4)] [] σ := by
  intro fu
  induction fu with
  | zero => intro σ i2 i3 i4 hX; cases hX
  | succ fu ih =>
    intro σ i2 i3 i4 hX
    rw [fE_judge_43] at hX
    refine V.iload 3 dE_judge_43 rfl rfl ?_
    refine V.aloadn 0 dE_judge_45 rfl rfl ?_
    refine V.geti 0 dE_judge_46 flE_44 (rfl : kd 0 = (5, 0)) rfl ?_
    refine V.icmpge 156 dE_judge_49 rfl rfl (fun g11 => ?_) (fun g11 => ?_)
    · replace hX := ip hX g11
      refine V.sub [0, 1, 2] rfl ?_
      exact wE_judge_156 σ i2 i3 hX
    · replace hX := im hX g11
      refine V.aloadn 0 dE_judge_52 rfl rfl ?_
      refine V.getr 0 30 dE_judge_53 flE_40 (rfl : kd 0 = (5, 0)) rfl rfl ?_
      refine V.iconst (3 : Int32) dE_judge_56 lc3 rfl ?_
      refine V.iload 3 dE_judge_57 rfl rfl ?_
      refine V.imul dE_judge_59 rfl ?_
      refine V.iconst (1 : Int32) dE_judge_60 lc1 rfl ?_
      refine V.iadd dE_judge_61 rfl ?_
      obtain ⟨h15, hX⟩ := ob hX
      refine V.iald 30 dE_judge_62 (rfl : kd 30 = (7, 21)) h15 rfl ?_
      refine V.istore _ dE_judge_63 (by decide) rfl rfl ?_
      replace hX := nmx hX; generalize gI σ 30 (ix (((3 : Int32) * i4) + (1 : Int32))) = v16 at hX ⊢; try dsimp only at hX
      refine V.aloadn 1 dE_judge_65 rfl rfl ?_
      refine V.getr 0 30 dE_judge_66 flE_40 (rfl : kd 0 = (5, 0)) rfl rfl ?_
      refine V.iconst (3 : Int32) dE_judge_69 lc3 rfl ?_
      refine V.iload 4 dE_judge_70 rfl rfl ?_
      refine V.imul dE_judge_72 rfl ?_
      obtain ⟨h17, hX⟩ := ob hX
      refine V.iald 30 dE_judge_73 (rfl : kd 30 = (7, 21)) h17 rfl ?_
      refine V.iloadn 3 dE_judge_74 rfl rfl ?_
      refine V.icmpne 107 dE_judge_75 rfl rfl (fun g18 => ?_) (fun g18 => ?_)
      · replace hX := im hX g18
        refine V.iload 4 dE_judge_107 rfl rfl ?_
        refine V.iconst (1 : Int32) dE_judge_109 lc1 rfl ?_
        refine V.iadd dE_judge_110 rfl ?_
        have hX := (Option.some.inj hX).symm; subst hX; exact V.iret dE_judge_111 rfl rfl
      · replace hX := ip hX g18
        refine V.aloadn 1 dE_judge_78 rfl rfl ?_
        refine V.getd 0 dE_judge_79 flE_10 (rfl : kd 0 = (5, 0)) rfl ?_
        refine V.iload 0 dE_judge_82 rfl rfl ?_
        obtain ⟨h19, hX⟩ := ob hX
        refine V.callvi (gR σ 0) [.int v16] dE_judge_84 (kT_hasPerson (σ := σ) (gR σ 0) v16 h19) mlE_86 myT_hasPerson mnT_hasPerson ⟨rfl, rfl, by decide, by decide⟩ (tk0 h19) (by decide) rfl (Nat.le_of_ble_eq_true rfl) ⟨Nat.zero_le _, Nat.zero_le _⟩ rfl ?_
        refine V.ifeq 107 dE_judge_87 rfl rfl (fun g20 => ?_) (fun g20 => ?_)
        · replace hX := ip hX g20
          refine V.iload 4 dE_judge_107 rfl rfl ?_
          refine V.iconst (1 : Int32) dE_judge_109 lc1 rfl ?_
          refine V.iadd dE_judge_110 rfl ?_
          have hX := (Option.some.inj hX).symm; subst hX; exact V.iret dE_judge_111 rfl rfl
        · replace hX := im hX g20
          refine V.aloadn 1 dE_judge_90 rfl rfl ?_
          refine V.getr 0 27 dE_judge_91 flE_36 (rfl : kd 0 = (5, 0)) rfl rfl ?_
          refine V.iloadn 2 dE_judge_94 rfl rfl ?_
          refine V.iloadn 3 dE_judge_95 rfl rfl ?_
          obtain ⟨q21, c22, hX⟩ := bd hX; try dsimp only at hX
          refine V.callvi 27 [.int i2, .int i3] dE_judge_96 (kW_takers c22) mlE_199 myW_takers mnW_takers ⟨rfl, rfl, by decide, by decide⟩ (rfl : kd 27 = (4, 0)) (by decide) rfl (Nat.le_of_ble_eq_true rfl) ⟨Nat.zero_le _, Nat.zero_le _⟩ rfl ?_
          refine V.iload 0 dE_judge_99 rfl rfl ?_
          refine V.callsi [.int q21, .int v16] dE_judge_101 (kE_holds (σ := σ) q21 v16) mlE_151 myE_holds mnE_holds ⟨rfl, rfl, by decide, by decide⟩ rfl (Nat.le_of_ble_eq_true rfl) ⟨Nat.zero_le _, Nat.zero_le _⟩ rfl ?_
          refine V.ifne 112 dE_judge_104 rfl rfl (fun g23 => ?_) (fun g23 => ?_)
          · replace hX := im hX g23
            refine V.iloadn 2 dE_judge_112 rfl rfl ?_
            refine V.iconst (1 : Int32) dE_judge_113 lc1 rfl ?_
            refine V.iload 0 dE_judge_114 rfl rfl ?_
            refine V.ishl dE_judge_116 rfl ?_
            refine V.ior dE_judge_117 rfl ?_
            refine V.istoren _ dE_judge_118 (by decide) rfl rfl ?_
            replace hX := nmx hX; generalize i2 ||| ((1 : Int32) <<< (v16 &&& 31)) = v24 at hX ⊢; try dsimp only at hX
            refine V.iload 1 dE_judge_119 rfl rfl ?_
            refine V.istoren _ dE_judge_121 (by decide) rfl rfl ?_
            refine V.aloadn 3 dE_judge_122 rfl rfl ?_
            refine V.getr 0 30 dE_judge_123 flE_40 (rfl : kd 0 = (5, 0)) rfl rfl ?_
            refine V.iconst (3 : Int32) dE_judge_126 lc3 rfl ?_
            refine V.iload 4 dE_judge_127 rfl rfl ?_
            refine V.imul dE_judge_129 rfl ?_
            refine V.iconst (2 : Int32) dE_judge_130 lc2 rfl ?_
            refine V.iadd dE_judge_131 rfl ?_
            obtain ⟨h25, hX⟩ := ob hX
            refine V.iald 30 dE_judge_132 (rfl : kd 30 = (7, 21)) h25 rfl ?_
            refine V.aloadn 3 dE_judge_133 rfl rfl ?_
            refine V.getr 0 27 dE_judge_134 flE_36 (rfl : kd 0 = (5, 0)) rfl rfl ?_
            refine V.iloadn 1 dE_judge_137 rfl rfl ?_
            refine V.iloadn 0 dE_judge_138 rfl rfl ?_
            obtain ⟨q26, c27, hX⟩ := bd hX; try dsimp only at hX
            refine V.callvi 27 [.int v24, .int v16] dE_judge_139 (kW_at c27) mlE_193 myW_at mnW_at ⟨rfl, rfl, by decide, by decide⟩ (rfl : kd 27 = (4, 0)) (by decide) rfl (Nat.le_of_ble_eq_true rfl) ⟨Nat.zero_le _, Nat.zero_le _⟩ rfl ?_
            refine V.icmpeq 150 dE_judge_142 rfl rfl (fun g28 => ?_) (fun g28 => ?_)
            · replace hX := ip hX g28
              refine V.iinc 4 (1 : Int32) _ dE_judge_150 rfl lc1 (by decide) rfl rfl ?_
              replace hX := nmx hX; generalize i4 + (1 : Int32) = v29 at hX ⊢; try dsimp only at hX
              refine V.goto 43 dE_judge_153 rfl ?_
              refine V.sub [4, 2, 1, 0] rfl ?_
              exact ih σ v24 v16 v29 hX
            · replace hX := im hX g28
              refine V.iload 4 dE_judge_145 rfl rfl ?_
              refine V.iconst (1 : Int32) dE_judge_147 lc1 rfl ?_
              refine V.iadd dE_judge_148 rfl ?_
              have hX := (Option.some.inj hX).symm; subst hX; exact V.iret dE_judge_149 rfl rfl
          · replace hX := ip hX g23
            refine V.iload 4 dE_judge_107 rfl rfl ?_
            refine V.iconst (1 : Int32) dE_judge_109 lc1 rfl ?_
            refine V.iadd dE_judge_110 rfl ?_
            have hX := (Option.some.inj hX).symm; subst hX; exact V.iret dE_judge_111 rfl rfl
set_option maxRecDepth 4000 in
theorem wE_judge {E : Ev} {z : Int32 × St} (σ : St) (i1 : Int32) (hX : fE_judge σ i1 = some z) : V E mE_judge (FM E (some (.int z.1), z.2)) 0 [(0, .ref 0), (1, .int i1)] [] σ := by
  unfold fE_judge at hX
  refine V.aloadn 0 dE_judge_0 rfl rfl ?_
  refine V.getd 0 dE_judge_1 flE_10 (rfl : kd 0 = (5, 0)) rfl ?_
  refine V.iloadn 1 dE_judge_4 rfl rfl ?_
  obtain ⟨h1, hX⟩ := ob hX
  refine V.callvi (gR σ 0) [.int i1] dE_judge_5 (kT_hasCoin (σ := σ) (gR σ 0) i1 h1) mlE_125 myT_hasCoin mnT_hasCoin ⟨rfl, rfl, by decide, by decide⟩ (tk0 h1) (by decide) rfl (Nat.le_of_ble_eq_true rfl) ⟨Nat.zero_le _, Nat.zero_le _⟩ rfl ?_
  refine V.ifne 13 dE_judge_8 rfl rfl (fun g2 => ?_) (fun g2 => ?_)
  · replace hX := im hX g2
    refine V.aloadn 0 dE_judge_13 rfl rfl ?_
    refine V.iloadn 1 dE_judge_14 rfl rfl ?_
    refine V.iconst (0 : Int32) dE_judge_15 lc0 rfl ?_
    obtain ⟨q4, σ4, c3, hX⟩ := bi2 hX; try dsimp only at hX
    refine V.callvi 0 [.int i1, .int (0 : Int32)] dE_judge_16 (kE_look c3) mlE_168 myE_look mnE_look ⟨rfl, rfl, by decide, by decide⟩ (rfl : kd 0 = (5, 0)) (by decide) rfl (Nat.le_of_ble_eq_true rfl) ⟨Nat.zero_le _, Nat.zero_le _⟩ rfl ?_
    refine V.pop dE_judge_19 rfl rfl ?_
    refine V.aloadn 0 dE_judge_20 rfl rfl ?_
    refine V.getd 0 dE_judge_21 flE_10 (rfl : kd 0 = (5, 0)) rfl ?_
    obtain ⟨h5, hX⟩ := ob hX
    refine V.getr (gR σ4 0) ((gR σ4 0) + 7) dE_judge_24 flE_140 (tk0 h5) rfl rfl ?_
    refine V.iloadn 1 dE_judge_27 rfl rfl ?_
    obtain ⟨h6, hX⟩ := ob hX
    refine V.iald ((gR σ4 0) + 7) dE_judge_28 (tk7 h5) h6 rfl ?_
    refine V.istoren _ dE_judge_29 (by decide) rfl rfl ?_
    replace hX := nmx hX; generalize gI σ4 ((gR σ4 0) + 7) (ix i1) = v7 at hX ⊢; try dsimp only at hX
    refine V.aloadn 1 dE_judge_30 rfl rfl ?_
    refine V.getd 0 dE_judge_31 flE_10 (rfl : kd 0 = (5, 0)) rfl ?_
    obtain ⟨h8, hX⟩ := ob hX
    refine V.getr (gR σ4 0) ((gR σ4 0) + 6) dE_judge_34 flE_137 (tk0 h8) rfl rfl ?_
    refine V.iloadn 2 dE_judge_37 rfl rfl ?_
    obtain ⟨h9, hX⟩ := ob hX
    refine V.iald ((gR σ4 0) + 6) dE_judge_38 (tk6 h8) h9 rfl ?_
    refine V.istoren _ dE_judge_39 (by decide) rfl rfl ?_
    replace hX := nmx hX; generalize gI σ4 ((gR σ4 0) + 6) (ix i1) = v10 at hX ⊢; try dsimp only at hX
    refine V.iconst (0 : Int32) dE_judge_40 lc0 rfl ?_
    refine V.istore _ dE_judge_41 (by decide) rfl rfl ?_
    refine V.sub [3, 2, 1, 0] rfl ?_
    exact wE_judge_43 300 σ4 v7 v10 (0 : Int32) hX
  · replace hX := ip hX g2
    refine V.iconst (-1 : Int32) dE_judge_11 lcm1 rfl ?_
    have hX := (Option.some.inj hX).symm; subst hX; exact V.iret dE_judge_12 rfl rfl
theorem kE_judge {E : Ev} {σ σ2 : St} {i1 : Int32} {z : Int32} (h : fE_judge σ i1 = some (z, σ2)) : Ct mE_judge E [.ref 0, .int i1] σ (some (.int z), σ2) := Ct.of (by decide) (Nat.le_of_ble_eq_true rfl) (wE_judge σ i1 h)
theorem dH_hasSheet_0 : decode mH_hasSheet.1 0 = .ok (.iload_n 1, 1) := by decide +kernel
theorem dH_hasSheet_1 : decode mH_hasSheet.1 1 = .ok (.ifCond .lt 12, 3) := by decide +kernel
theorem dH_hasSheet_4 : decode mH_hasSheet.1 4 = .ok (.iload_n 1, 1) := by decide +kernel
theorem dH_hasSheet_5 : decode mH_hasSheet.1 5 = .ok (.iconst 4, 1) := by decide +kernel
theorem dH_hasSheet_6 : decode mH_hasSheet.1 6 = .ok (.if_icmp .ge 7, 3) := by decide +kernel
theorem dH_hasSheet_9 : decode mH_hasSheet.1 9 = .ok (.iconst 1, 1) := by decide +kernel
theorem dH_hasSheet_10 : decode mH_hasSheet.1 10 = .ok (.goto 4, 3) := by decide +kernel
theorem dH_hasSheet_13 : decode mH_hasSheet.1 13 = .ok (.iconst 0, 1) := by decide +kernel
theorem dH_hasSheet_14 : decode mH_hasSheet.1 14 = .ok (.ireturn, 1) := by decide +kernel
set_option maxRecDepth 4000 in
theorem wH_hasSheet {E : Ev} {z : Int32} (σ : St) (i1 : Int32) (hX : fH_hasSheet i1 = z) : V E mH_hasSheet (FM E (some (.int z), σ)) 0 [(0, .ref 33), (1, .int i1)] [] σ := by
  unfold fH_hasSheet at hX
  refine V.iloadn 1 dH_hasSheet_0 rfl rfl ?_
  have JJ : V E mH_hasSheet (FM E (some (.int z), σ)) 14 [(0, .ref 33), (1, .int i1)] [.int (if i1 < 0 then (0 : Int32) else (if (4 : Int32) ≤ i1 then (0 : Int32) else (1 : Int32)))] σ := by
    subst hX; exact V.zret .boolean dH_hasSheet_14 rfl (nz (b01_i b01_0 (b01_i b01_0 b01_1))).1 rfl
  refine V.iflt 13 dH_hasSheet_1 rfl rfl (fun g1 => ?_) (fun g1 => ?_)
  · refine V.iconst (0 : Int32) dH_hasSheet_13 lc0 rfl ?_
    exact V.top (if_pos g1).symm JJ
  · refine V.iloadn 1 dH_hasSheet_4 rfl rfl ?_
    refine V.iconst (4 : Int32) dH_hasSheet_5 lc4 rfl ?_
    refine V.icmpge 13 dH_hasSheet_6 rfl rfl (fun g2 => ?_) (fun g2 => ?_)
    · refine V.iconst (0 : Int32) dH_hasSheet_13 lc0 rfl ?_
      exact V.top ((if_neg g1).trans (if_pos g2)).symm JJ
    · refine V.iconst (1 : Int32) dH_hasSheet_9 lc1 rfl ?_
      refine V.goto 14 dH_hasSheet_10 rfl ?_
      exact V.top ((if_neg g1).trans (if_neg g2)).symm JJ
theorem kH_hasSheet {E : Ev} {σ : St} (i1 : Int32) : Ct mH_hasSheet E [.ref 33, .int i1] σ (some (.int (fH_hasSheet i1)), σ) := Ct.of (by decide) (Nat.le_of_ble_eq_true rfl) (wH_hasSheet σ i1 rfl)
theorem bH_hasSheet (i1 : Int32) : b01 (fH_hasSheet i1) := by
  unfold fH_hasSheet
  exact (b01_i b01_0 (b01_i b01_0 b01_1))
theorem dH_refusalAs_0 : decode mH_refusalAs.1 0 = .ok (.aload_n 0, 1) := by decide +kernel
theorem dH_refusalAs_1 : decode mH_refusalAs.1 1 = .ok (.getfield 9, 3) := by decide +kernel
theorem dH_refusalAs_4 : decode mH_refusalAs.1 4 = .ok (.iload_n 1, 1) := by decide +kernel
theorem dH_refusalAs_5 : decode mH_refusalAs.1 5 = .ok (.iaload, 1) := by decide +kernel
theorem dH_refusalAs_6 : decode mH_refusalAs.1 6 = .ok (.iconst (-1), 1) := by decide +kernel
theorem dH_refusalAs_7 : decode mH_refusalAs.1 7 = .ok (.if_icmp .ne 6, 3) := by decide +kernel
theorem dH_refusalAs_10 : decode mH_refusalAs.1 10 = .ok (.bipush (-11), 2) := by decide +kernel
theorem dH_refusalAs_12 : decode mH_refusalAs.1 12 = .ok (.ireturn, 1) := by decide +kernel
theorem dH_refusalAs_13 : decode mH_refusalAs.1 13 = .ok (.aload_n 0, 1) := by decide +kernel
theorem dH_refusalAs_14 : decode mH_refusalAs.1 14 = .ok (.getfield 9, 3) := by decide +kernel
theorem dH_refusalAs_17 : decode mH_refusalAs.1 17 = .ok (.iload_n 1, 1) := by decide +kernel
theorem dH_refusalAs_18 : decode mH_refusalAs.1 18 = .ok (.iaload, 1) := by decide +kernel
theorem dH_refusalAs_19 : decode mH_refusalAs.1 19 = .ok (.iload_n 2, 1) := by decide +kernel
theorem dH_refusalAs_20 : decode mH_refusalAs.1 20 = .ok (.if_icmp .ne 7, 3) := by decide +kernel
theorem dH_refusalAs_23 : decode mH_refusalAs.1 23 = .ok (.iconst 0, 1) := by decide +kernel
theorem dH_refusalAs_24 : decode mH_refusalAs.1 24 = .ok (.goto 5, 3) := by decide +kernel
theorem dH_refusalAs_27 : decode mH_refusalAs.1 27 = .ok (.bipush (-13), 2) := by decide +kernel
theorem dH_refusalAs_29 : decode mH_refusalAs.1 29 = .ok (.ireturn, 1) := by decide +kernel
set_option maxRecDepth 4000 in
theorem wH_refusalAs {E : Ev} {z : Int32} (σ : St) (i1 : Int32) (i2 : Int32) (hX : fH_refusalAs σ i1 i2 = some z) : V E mH_refusalAs (FM E (some (.int z), σ)) 0 [(0, .ref 33), (1, .int i1), (2, .int i2)] [] σ := by
  unfold fH_refusalAs at hX
  refine V.aloadn 0 dH_refusalAs_0 rfl rfl ?_
  refine V.getr 33 34 dH_refusalAs_1 flH_9 (rfl : kd 33 = (1, 0)) rfl rfl ?_
  refine V.iloadn 1 dH_refusalAs_4 rfl rfl ?_
  obtain ⟨h1, hX⟩ := ob hX
  refine V.iald 34 dH_refusalAs_5 (rfl : kd 34 = (7, 4)) h1 rfl ?_
  refine V.iconst (-1 : Int32) dH_refusalAs_6 lcm1 rfl ?_
  refine V.icmpne 13 dH_refusalAs_7 rfl rfl (fun g2 => ?_) (fun g2 => ?_)
  · replace hX := im hX g2
    refine V.aloadn 0 dH_refusalAs_13 rfl rfl ?_
    refine V.getr 33 34 dH_refusalAs_14 flH_9 (rfl : kd 33 = (1, 0)) rfl rfl ?_
    refine V.iloadn 1 dH_refusalAs_17 rfl rfl ?_
    obtain ⟨h3, hX⟩ := ob hX
    refine V.iald 34 dH_refusalAs_18 (rfl : kd 34 = (7, 4)) h3 rfl ?_
    refine V.iloadn 2 dH_refusalAs_19 rfl rfl ?_
    have JJ : V E mH_refusalAs (FM E (some (.int z), σ)) 29 [(0, .ref 33), (1, .int i1), (2, .int i2)] [.int (if (gI σ 34 (ix i1)) = i2 then (0 : Int32) else (-13 : Int32))] σ := by
      have hX := (Option.some.inj hX).symm; subst hX; exact V.iret dH_refusalAs_29 rfl rfl
    refine V.icmpne 27 dH_refusalAs_20 rfl rfl (fun g4 => ?_) (fun g4 => ?_)
    · refine V.bipush (-13 : Int32) dH_refusalAs_27 lbm13 rfl ?_
      exact V.top (if_neg g4).symm JJ
    · refine V.iconst (0 : Int32) dH_refusalAs_23 lc0 rfl ?_
      refine V.goto 29 dH_refusalAs_24 rfl ?_
      exact V.top (if_pos g4).symm JJ
  · replace hX := ip hX g2
    refine V.bipush (-11 : Int32) dH_refusalAs_10 lbm11 rfl ?_
    have hX := (Option.some.inj hX).symm; subst hX; exact V.iret dH_refusalAs_12 rfl rfl
theorem kH_refusalAs {E : Ev} {σ : St} {i1 : Int32} {i2 : Int32} {z : Int32} (h : fH_refusalAs σ i1 i2 = some z) : Ct mH_refusalAs E [.ref 33, .int i1, .int i2] σ (some (.int z), σ) := Ct.of (by decide) (Nat.le_of_ble_eq_true rfl) (wH_refusalAs σ i1 i2 h)
theorem dE_ranks_0 : decode mE_ranks.1 0 = .ok (.aload_n 0, 1) := by decide +kernel
theorem dE_ranks_1 : decode mE_ranks.1 1 = .ok (.getfield 58, 3) := by decide +kernel
theorem dE_ranks_4 : decode mE_ranks.1 4 = .ok (.iload_n 1, 1) := by decide +kernel
theorem dE_ranks_5 : decode mE_ranks.1 5 = .ok (.invokevirtual 201, 3) := by decide +kernel
theorem dE_ranks_8 : decode mE_ranks.1 8 = .ok (.ifCond .eq 40, 3) := by decide +kernel
theorem dE_ranks_11 : decode mE_ranks.1 11 = .ok (.aload_n 0, 1) := by decide +kernel
theorem dE_ranks_12 : decode mE_ranks.1 12 = .ok (.getfield 10, 3) := by decide +kernel
theorem dE_ranks_15 : decode mE_ranks.1 15 = .ok (.iload_n 3, 1) := by decide +kernel
theorem dE_ranks_16 : decode mE_ranks.1 16 = .ok (.invokevirtual 86, 3) := by decide +kernel
theorem dE_ranks_19 : decode mE_ranks.1 19 = .ok (.ifCond .eq 29, 3) := by decide +kernel
theorem dE_ranks_22 : decode mE_ranks.1 22 = .ok (.iload 4, 2) := by decide +kernel
theorem dE_ranks_24 : decode mE_ranks.1 24 = .ok (.ifCond .lt 24, 3) := by decide +kernel
theorem dE_ranks_27 : decode mE_ranks.1 27 = .ok (.iload 4, 2) := by decide +kernel
theorem dE_ranks_29 : decode mE_ranks.1 29 = .ok (.bipush 7, 2) := by decide +kernel
theorem dE_ranks_31 : decode mE_ranks.1 31 = .ok (.if_icmp .gt 17, 3) := by decide +kernel
theorem dE_ranks_34 : decode mE_ranks.1 34 = .ok (.iload_n 3, 1) := by decide +kernel
theorem dE_ranks_35 : decode mE_ranks.1 35 = .ok (.iload 4, 2) := by decide +kernel
theorem dE_ranks_37 : decode mE_ranks.1 37 = .ok (.iadd, 1) := by decide +kernel
theorem dE_ranks_38 : decode mE_ranks.1 38 = .ok (.aload_n 0, 1) := by decide +kernel
theorem dE_ranks_39 : decode mE_ranks.1 39 = .ok (.getfield 10, 3) := by decide +kernel
theorem dE_ranks_42 : decode mE_ranks.1 42 = .ok (.getfield 75, 3) := by decide +kernel
theorem dE_ranks_45 : decode mE_ranks.1 45 = .ok (.if_icmp .le 5, 3) := by decide +kernel
theorem dE_ranks_48 : decode mE_ranks.1 48 = .ok (.iconst (-1), 1) := by decide +kernel
theorem dE_ranks_49 : decode mE_ranks.1 49 = .ok (.ireturn, 1) := by decide +kernel
theorem dE_ranks_50 : decode mE_ranks.1 50 = .ok (.aload_n 0, 1) := by decide +kernel
theorem dE_ranks_51 : decode mE_ranks.1 51 = .ok (.getfield 58, 3) := by decide +kernel
theorem dE_ranks_54 : decode mE_ranks.1 54 = .ok (.iload_n 1, 1) := by decide +kernel
theorem dE_ranks_55 : decode mE_ranks.1 55 = .ok (.iconst 2, 1) := by decide +kernel
theorem dE_ranks_56 : decode mE_ranks.1 56 = .ok (.invokevirtual 204, 3) := by decide +kernel
theorem dE_ranks_59 : decode mE_ranks.1 59 = .ok (.istore 5, 2) := by decide +kernel
theorem dE_ranks_61 : decode mE_ranks.1 61 = .ok (.iload 5, 2) := by decide +kernel
theorem dE_ranks_63 : decode mE_ranks.1 63 = .ok (.ifCond .eq 6, 3) := by decide +kernel
theorem dE_ranks_66 : decode mE_ranks.1 66 = .ok (.iload 5, 2) := by decide +kernel
theorem dE_ranks_68 : decode mE_ranks.1 68 = .ok (.ireturn, 1) := by decide +kernel
theorem dE_ranks_69 : decode mE_ranks.1 69 = .ok (.iload_n 2, 1) := by decide +kernel
theorem dE_ranks_70 : decode mE_ranks.1 70 = .ok (.ifCond .lt 19, 3) := by decide +kernel
theorem dE_ranks_73 : decode mE_ranks.1 73 = .ok (.iload_n 2, 1) := by decide +kernel
theorem dE_ranks_74 : decode mE_ranks.1 74 = .ok (.aload_n 0, 1) := by decide +kernel
theorem dE_ranks_75 : decode mE_ranks.1 75 = .ok (.getfield 58, 3) := by decide +kernel
theorem dE_ranks_78 : decode mE_ranks.1 78 = .ok (.getfield 207, 3) := by decide +kernel
theorem dE_ranks_81 : decode mE_ranks.1 81 = .ok (.iload_n 1, 1) := by decide +kernel
theorem dE_ranks_82 : decode mE_ranks.1 82 = .ok (.iaload, 1) := by decide +kernel
theorem dE_ranks_83 : decode mE_ranks.1 83 = .ok (.iload 4, 2) := by decide +kernel
theorem dE_ranks_85 : decode mE_ranks.1 85 = .ok (.isub, 1) := by decide +kernel
theorem dE_ranks_86 : decode mE_ranks.1 86 = .ok (.if_icmp .le 6, 3) := by decide +kernel
theorem dE_ranks_89 : decode mE_ranks.1 89 = .ok (.bipush (-12), 2) := by decide +kernel
theorem dE_ranks_91 : decode mE_ranks.1 91 = .ok (.ireturn, 1) := by decide +kernel
theorem dE_ranks_92 : decode mE_ranks.1 92 = .ok (.iconst 0, 1) := by decide +kernel
theorem dE_ranks_93 : decode mE_ranks.1 93 = .ok (.istore 6, 2) := by decide +kernel
theorem dE_ranks_95 : decode mE_ranks.1 95 = .ok (.iload 6, 2) := by decide +kernel
theorem dE_ranks_97 : decode mE_ranks.1 97 = .ok (.iload 4, 2) := by decide +kernel
theorem dE_ranks_99 : decode mE_ranks.1 99 = .ok (.if_icmp .ge 44, 3) := by decide +kernel
theorem dE_ranks_102 : decode mE_ranks.1 102 = .ok (.aload_n 0, 1) := by decide +kernel
theorem dE_ranks_103 : decode mE_ranks.1 103 = .ok (.getfield 10, 3) := by decide +kernel
theorem dE_ranks_106 : decode mE_ranks.1 106 = .ok (.getfield 89, 3) := by decide +kernel
theorem dE_ranks_109 : decode mE_ranks.1 109 = .ok (.iload_n 3, 1) := by decide +kernel
theorem dE_ranks_110 : decode mE_ranks.1 110 = .ok (.iload 6, 2) := by decide +kernel
theorem dE_ranks_112 : decode mE_ranks.1 112 = .ok (.iadd, 1) := by decide +kernel
theorem dE_ranks_113 : decode mE_ranks.1 113 = .ok (.iconst 0, 1) := by decide +kernel
theorem dE_ranks_114 : decode mE_ranks.1 114 = .ok (.bipush 9, 2) := by decide +kernel
theorem dE_ranks_116 : decode mE_ranks.1 116 = .ok (.aload_n 0, 1) := by decide +kernel
theorem dE_ranks_117 : decode mE_ranks.1 117 = .ok (.getfield 58, 3) := by decide +kernel
theorem dE_ranks_120 : decode mE_ranks.1 120 = .ok (.getfield 209, 3) := by decide +kernel
theorem dE_ranks_123 : decode mE_ranks.1 123 = .ok (.iload_n 1, 1) := by decide +kernel
theorem dE_ranks_124 : decode mE_ranks.1 124 = .ok (.aaload, 1) := by decide +kernel
theorem dE_ranks_125 : decode mE_ranks.1 125 = .ok (.iload_n 2, 1) := by decide +kernel
theorem dE_ranks_126 : decode mE_ranks.1 126 = .ok (.iload 6, 2) := by decide +kernel
theorem dE_ranks_128 : decode mE_ranks.1 128 = .ok (.iadd, 1) := by decide +kernel
theorem dE_ranks_129 : decode mE_ranks.1 129 = .ok (.iaload, 1) := by decide +kernel
theorem dE_ranks_130 : decode mE_ranks.1 130 = .ok (.invokestatic 213, 3) := by decide +kernel
theorem dE_ranks_133 : decode mE_ranks.1 133 = .ok (.invokestatic 218, 3) := by decide +kernel
theorem dE_ranks_136 : decode mE_ranks.1 136 = .ok (.iastore, 1) := by decide +kernel
theorem dE_ranks_137 : decode mE_ranks.1 137 = .ok (.iinc 6 1, 3) := by decide +kernel
theorem dE_ranks_140 : decode mE_ranks.1 140 = .ok (.goto (-45), 3) := by decide +kernel
theorem dE_ranks_143 : decode mE_ranks.1 143 = .ok (.iload 4, 2) := by decide +kernel
theorem dE_ranks_145 : decode mE_ranks.1 145 = .ok (.ireturn, 1) := by decide +kernel
set_option maxRecDepth 4000 in
theorem wE_ranks_95 {E : Ev} {z : Int32 × St} : ∀ (fu : Nat) (σ : St) (i1 : Int32) (i2 : Int32) (i3 : Int32) (i4 : Int32) (i6 : Int32), fE_ranks_95 fu σ i1 i2 i3 i4 i6 = some z → V E mE_ranks (FM E (some (.int z.1), z.2)) 95 [(0, .ref 0), (1, .int i1), (2, .int i2), (3, .int i3), (4, .int i4), (6, .int i6)] [] σ := by
  intro fu
  induction fu with
  | zero => intro σ i1 i2 i3 i4 i6 hX; cases hX
  | succ fu ih =>
    intro σ i1 i2 i3 i4 i6 hX
    rw [fE_ranks_95] at hX
    refine V.iload 5 dE_ranks_95 rfl rfl ?_
    refine V.iload 4 dE_ranks_97 rfl rfl ?_
    refine V.icmpge 143 dE_ranks_99 rfl rfl (fun g14 => ?_) (fun g14 => ?_)
    · replace hX := ip hX g14
      refine V.iload 4 dE_ranks_143 rfl rfl ?_
      have hX := (Option.some.inj hX).symm; subst hX; exact V.iret dE_ranks_145 rfl rfl
    · replace hX := im hX g14
      refine V.aloadn 0 dE_ranks_102 rfl rfl ?_
      refine V.getd 0 dE_ranks_103 flE_10 (rfl : kd 0 = (5, 0)) rfl ?_
      obtain ⟨h15, hX⟩ := ob hX
      refine V.getr (gR σ 0) ((gR σ 0) + 1) dE_ranks_106 flE_89 (tk0 h15) rfl rfl ?_
      refine V.iloadn 3 dE_ranks_109 rfl rfl ?_
      refine V.iload 5 dE_ranks_110 rfl rfl ?_
      refine V.iadd dE_ranks_112 rfl ?_
      refine V.iconst (0 : Int32) dE_ranks_113 lc0 rfl ?_
      refine V.bipush (9 : Int32) dE_ranks_114 lb9 rfl ?_
      refine V.aloadn 0 dE_ranks_116 rfl rfl ?_
      refine V.getr 0 33 dE_ranks_117 flE_58 (rfl : kd 0 = (5, 0)) rfl rfl ?_
      refine V.getr 33 36 dE_ranks_120 flE_209 (rfl : kd 33 = (1, 0)) rfl rfl ?_
      refine V.iloadn 1 dE_ranks_123 rfl rfl ?_
      obtain ⟨h16, hX⟩ := ob hX
      refine V.aald 36 dE_ranks_124 (rfl : kd 36 = (9, 4)) h16 rfl ?_
      refine V.iloadn 2 dE_ranks_125 rfl rfl ?_
      refine V.iload 5 dE_ranks_126 rfl rfl ?_
      refine V.iadd dE_ranks_128 rfl ?_
      obtain ⟨h17, hX⟩ := ob hX
      refine V.iald (36 + 1 + ix i1) dE_ranks_129 (kdit h16) h17 rfl ?_
      refine V.mmin dE_ranks_130 mwE_213 ⟨by decide, (Nat.le_of_ble_eq_true rfl)⟩ ⟨Nat.zero_le _, Nat.zero_le _⟩ rfl ?_
      refine V.mmax dE_ranks_133 mwE_218 ⟨by decide, (Nat.le_of_ble_eq_true rfl)⟩ ⟨Nat.zero_le _, Nat.zero_le _⟩ rfl ?_
      obtain ⟨h18, hX⟩ := ob hX
      refine V.iast ((gR σ 0) + 1) dE_ranks_136 (tk1 h15) h18 rfl ?_
      replace hX := nmx hX; generalize sI σ ((gR σ 0) + 1) (ix (i3 + i6)) (mmax (0 : Int32) (mmin (9 : Int32) (gI σ (36 + 1 + ix i1) (ix (i2 + i6))))) = σ19 at hX ⊢; try dsimp only at hX
      refine V.iinc 5 (1 : Int32) _ dE_ranks_137 rfl lc1 (by decide) rfl rfl ?_
      replace hX := nmx hX; generalize i6 + (1 : Int32) = v20 at hX ⊢; try dsimp only at hX
      refine V.goto 95 dE_ranks_140 rfl ?_
      refine V.sub [1, 2, 3, 4, 5, 0] rfl ?_
      exact ih σ19 i1 i2 i3 i4 v20 hX
set_option maxRecDepth 4000 in
theorem wE_ranks {E : Ev} {z : Int32 × St} (σ : St) (i1 : Int32) (i2 : Int32) (i3 : Int32) (i4 : Int32) (hX : fE_ranks σ i1 i2 i3 i4 = some z) : V E mE_ranks (FM E (some (.int z.1), z.2)) 0 [(0, .ref 0), (1, .int i1), (2, .int i2), (3, .int i3), (4, .int i4)] [] σ := by
  unfold fE_ranks at hX
  refine V.aloadn 0 dE_ranks_0 rfl rfl ?_
  refine V.getr 0 33 dE_ranks_1 flE_58 (rfl : kd 0 = (5, 0)) rfl rfl ?_
  refine V.iloadn 1 dE_ranks_4 rfl rfl ?_
  refine V.callvi 33 [.int i1] dE_ranks_5 (kH_hasSheet (σ := σ) i1) mlE_201 myH_hasSheet mnH_hasSheet ⟨rfl, rfl, by decide, by decide⟩ (rfl : kd 33 = (1, 0)) (by decide) rfl (Nat.le_of_ble_eq_true rfl) ⟨Nat.zero_le _, Nat.zero_le _⟩ rfl ?_
  refine V.ifeq 48 dE_ranks_8 rfl rfl (fun g1 => ?_) (fun g1 => ?_)
  · replace hX := ip hX g1
    refine V.iconst (-1 : Int32) dE_ranks_48 lcm1 rfl ?_
    have hX := (Option.some.inj hX).symm; subst hX; exact V.iret dE_ranks_49 rfl rfl
  · replace hX := im hX g1
    refine V.aloadn 0 dE_ranks_11 rfl rfl ?_
    refine V.getd 0 dE_ranks_12 flE_10 (rfl : kd 0 = (5, 0)) rfl ?_
    refine V.iloadn 3 dE_ranks_15 rfl rfl ?_
    obtain ⟨h2, hX⟩ := ob hX
    refine V.callvi (gR σ 0) [.int i3] dE_ranks_16 (kT_hasPerson (σ := σ) (gR σ 0) i3 h2) mlE_86 myT_hasPerson mnT_hasPerson ⟨rfl, rfl, by decide, by decide⟩ (tk0 h2) (by decide) rfl (Nat.le_of_ble_eq_true rfl) ⟨Nat.zero_le _, Nat.zero_le _⟩ rfl ?_
    refine V.ifeq 48 dE_ranks_19 rfl rfl (fun g3 => ?_) (fun g3 => ?_)
    · replace hX := ip hX g3
      refine V.iconst (-1 : Int32) dE_ranks_48 lcm1 rfl ?_
      have hX := (Option.some.inj hX).symm; subst hX; exact V.iret dE_ranks_49 rfl rfl
    · replace hX := im hX g3
      refine V.iload 4 dE_ranks_22 rfl rfl ?_
      refine V.iflt 48 dE_ranks_24 rfl rfl (fun g4 => ?_) (fun g4 => ?_)
      · replace hX := ip hX g4
        refine V.iconst (-1 : Int32) dE_ranks_48 lcm1 rfl ?_
        have hX := (Option.some.inj hX).symm; subst hX; exact V.iret dE_ranks_49 rfl rfl
      · replace hX := im hX g4
        refine V.iload 4 dE_ranks_27 rfl rfl ?_
        refine V.bipush (7 : Int32) dE_ranks_29 lb7 rfl ?_
        refine V.icmpgt 48 dE_ranks_31 rfl rfl (fun g5 => ?_) (fun g5 => ?_)
        · replace hX := ip hX g5
          refine V.iconst (-1 : Int32) dE_ranks_48 lcm1 rfl ?_
          have hX := (Option.some.inj hX).symm; subst hX; exact V.iret dE_ranks_49 rfl rfl
        · replace hX := im hX g5
          refine V.iloadn 3 dE_ranks_34 rfl rfl ?_
          refine V.iload 4 dE_ranks_35 rfl rfl ?_
          refine V.iadd dE_ranks_37 rfl ?_
          refine V.aloadn 0 dE_ranks_38 rfl rfl ?_
          refine V.getd 0 dE_ranks_39 flE_10 (rfl : kd 0 = (5, 0)) rfl ?_
          obtain ⟨h6, hX⟩ := ob hX
          refine V.geti (gR σ 0) dE_ranks_42 flE_75 (tk0 h6) rfl ?_
          refine V.icmple 50 dE_ranks_45 rfl rfl (fun g7 => ?_) (fun g7 => ?_)
          · replace hX := ip hX g7
            refine V.aloadn 0 dE_ranks_50 rfl rfl ?_
            refine V.getr 0 33 dE_ranks_51 flE_58 (rfl : kd 0 = (5, 0)) rfl rfl ?_
            refine V.iloadn 1 dE_ranks_54 rfl rfl ?_
            refine V.iconst (2 : Int32) dE_ranks_55 lc2 rfl ?_
            obtain ⟨q8, c9, hX⟩ := bd hX; try dsimp only at hX
            refine V.callvi 33 [.int i1, .int (2 : Int32)] dE_ranks_56 (kH_refusalAs c9) mlE_204 myH_refusalAs mnH_refusalAs ⟨rfl, rfl, by decide, by decide⟩ (rfl : kd 33 = (1, 0)) (by decide) rfl (Nat.le_of_ble_eq_true rfl) ⟨Nat.zero_le _, Nat.zero_le _⟩ rfl ?_
            refine V.istore _ dE_ranks_59 (by decide) rfl rfl ?_
            refine V.iload 0 dE_ranks_61 rfl rfl ?_
            refine V.ifeq 69 dE_ranks_63 rfl rfl (fun g10 => ?_) (fun g10 => ?_)
            · replace hX := ip hX g10
              refine V.iloadn 3 dE_ranks_69 rfl rfl ?_
              refine V.iflt 89 dE_ranks_70 rfl rfl (fun g11 => ?_) (fun g11 => ?_)
              · replace hX := ip hX g11
                refine V.bipush (-12 : Int32) dE_ranks_89 lbm12 rfl ?_
                have hX := (Option.some.inj hX).symm; subst hX; exact V.iret dE_ranks_91 rfl rfl
              · replace hX := im hX g11
                refine V.iloadn 3 dE_ranks_73 rfl rfl ?_
                refine V.aloadn 1 dE_ranks_74 rfl rfl ?_
                refine V.getr 0 33 dE_ranks_75 flE_58 (rfl : kd 0 = (5, 0)) rfl rfl ?_
                refine V.getr 33 35 dE_ranks_78 flE_207 (rfl : kd 33 = (1, 0)) rfl rfl ?_
                refine V.iloadn 2 dE_ranks_81 rfl rfl ?_
                obtain ⟨h12, hX⟩ := ob hX
                refine V.iald 35 dE_ranks_82 (rfl : kd 35 = (7, 4)) h12 rfl ?_
                refine V.iload 5 dE_ranks_83 rfl rfl ?_
                refine V.isub dE_ranks_85 rfl ?_
                refine V.icmple 92 dE_ranks_86 rfl rfl (fun g13 => ?_) (fun g13 => ?_)
                · replace hX := ip hX g13
                  refine V.iconst (0 : Int32) dE_ranks_92 lc0 rfl ?_
                  refine V.istore _ dE_ranks_93 (by decide) rfl rfl ?_
                  refine V.sub [2, 3, 4, 5, 6, 0] rfl ?_
                  exact wE_ranks_95 300 σ i1 i2 i3 i4 (0 : Int32) hX
                · replace hX := im hX g13
                  refine V.bipush (-12 : Int32) dE_ranks_89 lbm12 rfl ?_
                  have hX := (Option.some.inj hX).symm; subst hX; exact V.iret dE_ranks_91 rfl rfl
            · replace hX := im hX g10
              refine V.iload 0 dE_ranks_66 rfl rfl ?_
              have hX := (Option.some.inj hX).symm; subst hX; exact V.iret dE_ranks_68 rfl rfl
          · replace hX := im hX g7
            refine V.iconst (-1 : Int32) dE_ranks_48 lcm1 rfl ?_
            have hX := (Option.some.inj hX).symm; subst hX; exact V.iret dE_ranks_49 rfl rfl
theorem kE_ranks {E : Ev} {σ σ2 : St} {i1 : Int32} {i2 : Int32} {i3 : Int32} {i4 : Int32} {z : Int32} (h : fE_ranks σ i1 i2 i3 i4 = some (z, σ2)) : Ct mE_ranks E [.ref 0, .int i1, .int i2, .int i3, .int i4] σ (some (.int z), σ2) := Ct.of (by decide) (Nat.le_of_ble_eq_true rfl) (wE_ranks σ i1 i2 i3 i4 h)
theorem dH_lay_0 : decode mH_lay.1 0 = .ok (.aload_n 0, 1) := by decide +kernel
theorem dH_lay_1 : decode mH_lay.1 1 = .ok (.getfield 9, 3) := by decide +kernel
theorem dH_lay_4 : decode mH_lay.1 4 = .ok (.iload_n 1, 1) := by decide +kernel
theorem dH_lay_5 : decode mH_lay.1 5 = .ok (.iload_n 2, 1) := by decide +kernel
theorem dH_lay_6 : decode mH_lay.1 6 = .ok (.iastore, 1) := by decide +kernel
theorem dH_lay_7 : decode mH_lay.1 7 = .ok (.aload_n 0, 1) := by decide +kernel
theorem dH_lay_8 : decode mH_lay.1 8 = .ok (.getfield 15, 3) := by decide +kernel
theorem dH_lay_11 : decode mH_lay.1 11 = .ok (.iload_n 1, 1) := by decide +kernel
theorem dH_lay_12 : decode mH_lay.1 12 = .ok (.iload_n 3, 1) := by decide +kernel
theorem dH_lay_13 : decode mH_lay.1 13 = .ok (.iastore, 1) := by decide +kernel
theorem dH_lay_14 : decode mH_lay.1 14 = .ok (.iconst 0, 1) := by decide +kernel
theorem dH_lay_15 : decode mH_lay.1 15 = .ok (.istore 4, 2) := by decide +kernel
theorem dH_lay_17 : decode mH_lay.1 17 = .ok (.iload 4, 2) := by decide +kernel
theorem dH_lay_19 : decode mH_lay.1 19 = .ok (.iload_n 3, 1) := by decide +kernel
theorem dH_lay_20 : decode mH_lay.1 20 = .ok (.if_icmp .ge 19, 3) := by decide +kernel
theorem dH_lay_23 : decode mH_lay.1 23 = .ok (.aload_n 0, 1) := by decide +kernel
theorem dH_lay_24 : decode mH_lay.1 24 = .ok (.getfield 20, 3) := by decide +kernel
theorem dH_lay_27 : decode mH_lay.1 27 = .ok (.iload_n 1, 1) := by decide +kernel
theorem dH_lay_28 : decode mH_lay.1 28 = .ok (.aaload, 1) := by decide +kernel
theorem dH_lay_29 : decode mH_lay.1 29 = .ok (.iload 4, 2) := by decide +kernel
theorem dH_lay_31 : decode mH_lay.1 31 = .ok (.iconst 0, 1) := by decide +kernel
theorem dH_lay_32 : decode mH_lay.1 32 = .ok (.iastore, 1) := by decide +kernel
theorem dH_lay_33 : decode mH_lay.1 33 = .ok (.iinc 4 1, 3) := by decide +kernel
theorem dH_lay_36 : decode mH_lay.1 36 = .ok (.goto (-19), 3) := by decide +kernel
theorem dH_lay_39 : decode mH_lay.1 39 = .ok (.return_, 1) := by decide +kernel
set_option maxRecDepth 4000 in
theorem wH_lay_17 {E : Ev} {z : St} : ∀ (fu : Nat) (σ : St) (i1 : Int32) (i3 : Int32) (i4 : Int32), fH_lay_17 fu σ i1 i3 i4 = some z → V E mH_lay (FM E (none, z)) 17 [(0, .ref 33), (1, .int i1), (3, .int i3), (4, .int i4)] [] σ := by
  intro fu
  induction fu with
  | zero => intro σ i1 i3 i4 hX; cases hX
  | succ fu ih =>
    intro σ i1 i3 i4 hX
    rw [fH_lay_17] at hX
    refine V.iload 3 dH_lay_17 rfl rfl ?_
    refine V.iloadn 2 dH_lay_19 rfl rfl ?_
    refine V.icmpge 39 dH_lay_20 rfl rfl (fun g5 => ?_) (fun g5 => ?_)
    · replace hX := ip hX g5
      have hX := (Option.some.inj hX).symm; subst hX; exact V.vret dH_lay_39 rfl rfl
    · replace hX := im hX g5
      refine V.aloadn 0 dH_lay_23 rfl rfl ?_
      refine V.getr 33 36 dH_lay_24 flH_20 (rfl : kd 33 = (1, 0)) rfl rfl ?_
      refine V.iloadn 1 dH_lay_27 rfl rfl ?_
      obtain ⟨h6, hX⟩ := ob hX
      refine V.aald 36 dH_lay_28 (rfl : kd 36 = (9, 4)) h6 rfl ?_
      refine V.iload 3 dH_lay_29 rfl rfl ?_
      refine V.iconst (0 : Int32) dH_lay_31 lc0 rfl ?_
      obtain ⟨h7, hX⟩ := ob hX
      refine V.iast (36 + 1 + ix i1) dH_lay_32 (kdit h6) h7 rfl ?_
      replace hX := nmx hX; generalize sI σ (36 + 1 + ix i1) (ix i4) (0 : Int32) = σ8 at hX ⊢; try dsimp only at hX
      refine V.iinc 3 (1 : Int32) _ dH_lay_33 rfl lc1 (by decide) rfl rfl ?_
      replace hX := nmx hX; generalize i4 + (1 : Int32) = v9 at hX ⊢; try dsimp only at hX
      refine V.goto 17 dH_lay_36 rfl ?_
      refine V.sub [1, 2, 3, 0] rfl ?_
      exact ih σ8 i1 i3 v9 hX
set_option maxRecDepth 4000 in
theorem wH_lay {E : Ev} {z : St} (σ : St) (i1 : Int32) (i2 : Int32) (i3 : Int32) (hX : fH_lay σ i1 i2 i3 = some z) : V E mH_lay (FM E (none, z)) 0 [(0, .ref 33), (1, .int i1), (2, .int i2), (3, .int i3)] [] σ := by
  unfold fH_lay at hX
  refine V.aloadn 0 dH_lay_0 rfl rfl ?_
  refine V.getr 33 34 dH_lay_1 flH_9 (rfl : kd 33 = (1, 0)) rfl rfl ?_
  refine V.iloadn 1 dH_lay_4 rfl rfl ?_
  refine V.iloadn 2 dH_lay_5 rfl rfl ?_
  obtain ⟨h1, hX⟩ := ob hX
  refine V.iast 34 dH_lay_6 (rfl : kd 34 = (7, 4)) h1 rfl ?_
  replace hX := nmx hX; generalize sI σ 34 (ix i1) i2 = σ2 at hX ⊢; try dsimp only at hX
  refine V.aloadn 0 dH_lay_7 rfl rfl ?_
  refine V.getr 33 35 dH_lay_8 flH_15 (rfl : kd 33 = (1, 0)) rfl rfl ?_
  refine V.iloadn 1 dH_lay_11 rfl rfl ?_
  refine V.iloadn 3 dH_lay_12 rfl rfl ?_
  obtain ⟨h3, hX⟩ := ob hX
  refine V.iast 35 dH_lay_13 (rfl : kd 35 = (7, 4)) h3 rfl ?_
  replace hX := nmx hX; generalize sI σ2 35 (ix i1) i3 = σ4 at hX ⊢; try dsimp only at hX
  refine V.iconst (0 : Int32) dH_lay_14 lc0 rfl ?_
  refine V.istore _ dH_lay_15 (by decide) rfl rfl ?_
  refine V.sub [1, 2, 4, 0] rfl ?_
  exact wH_lay_17 300 σ4 i1 i3 (0 : Int32) hX
theorem kH_lay {E : Ev} {σ z : St} {i1 : Int32} {i2 : Int32} {i3 : Int32} (h : fH_lay σ i1 i2 i3 = some z) : Ct mH_lay E [.ref 33, .int i1, .int i2, .int i3] σ (none, z) := Ct.of (by decide) (Nat.le_of_ble_eq_true rfl) (wH_lay σ i1 i2 i3 h)
theorem dE_sheet_0 : decode mE_sheet.1 0 = .ok (.aload_n 0, 1) := by decide +kernel
theorem dE_sheet_1 : decode mE_sheet.1 1 = .ok (.getfield 58, 3) := by decide +kernel
theorem dE_sheet_4 : decode mE_sheet.1 4 = .ok (.iload_n 1, 1) := by decide +kernel
theorem dE_sheet_5 : decode mE_sheet.1 5 = .ok (.invokevirtual 201, 3) := by decide +kernel
theorem dE_sheet_8 : decode mE_sheet.1 8 = .ok (.ifCond .eq 13, 3) := by decide +kernel
theorem dE_sheet_11 : decode mE_sheet.1 11 = .ok (.iload_n 2, 1) := by decide +kernel
theorem dE_sheet_12 : decode mE_sheet.1 12 = .ok (.iconst (-1), 1) := by decide +kernel
theorem dE_sheet_13 : decode mE_sheet.1 13 = .ok (.if_icmp .lt 8, 3) := by decide +kernel
theorem dE_sheet_16 : decode mE_sheet.1 16 = .ok (.iload_n 2, 1) := by decide +kernel
theorem dE_sheet_17 : decode mE_sheet.1 17 = .ok (.iconst 3, 1) := by decide +kernel
theorem dE_sheet_18 : decode mE_sheet.1 18 = .ok (.if_icmp .le 5, 3) := by decide +kernel
theorem dE_sheet_21 : decode mE_sheet.1 21 = .ok (.iconst (-1), 1) := by decide +kernel
theorem dE_sheet_22 : decode mE_sheet.1 22 = .ok (.ireturn, 1) := by decide +kernel
theorem dE_sheet_23 : decode mE_sheet.1 23 = .ok (.iload_n 2, 1) := by decide +kernel
theorem dE_sheet_24 : decode mE_sheet.1 24 = .ok (.iconst (-1), 1) := by decide +kernel
theorem dE_sheet_25 : decode mE_sheet.1 25 = .ok (.if_icmp .eq 11, 3) := by decide +kernel
theorem dE_sheet_28 : decode mE_sheet.1 28 = .ok (.iload_n 3, 1) := by decide +kernel
theorem dE_sheet_29 : decode mE_sheet.1 29 = .ok (.bipush 40, 2) := by decide +kernel
theorem dE_sheet_31 : decode mE_sheet.1 31 = .ok (.if_icmp .le 5, 3) := by decide +kernel
theorem dE_sheet_34 : decode mE_sheet.1 34 = .ok (.iconst (-1), 1) := by decide +kernel
theorem dE_sheet_35 : decode mE_sheet.1 35 = .ok (.ireturn, 1) := by decide +kernel
theorem dE_sheet_36 : decode mE_sheet.1 36 = .ok (.iload_n 2, 1) := by decide +kernel
theorem dE_sheet_37 : decode mE_sheet.1 37 = .ok (.iconst (-1), 1) := by decide +kernel
theorem dE_sheet_38 : decode mE_sheet.1 38 = .ok (.if_icmp .eq 10, 3) := by decide +kernel
theorem dE_sheet_41 : decode mE_sheet.1 41 = .ok (.iload_n 3, 1) := by decide +kernel
theorem dE_sheet_42 : decode mE_sheet.1 42 = .ok (.ifCond .ge 6, 3) := by decide +kernel
theorem dE_sheet_45 : decode mE_sheet.1 45 = .ok (.bipush (-14), 2) := by decide +kernel
theorem dE_sheet_47 : decode mE_sheet.1 47 = .ok (.ireturn, 1) := by decide +kernel
theorem dE_sheet_48 : decode mE_sheet.1 48 = .ok (.aload_n 0, 1) := by decide +kernel
theorem dE_sheet_49 : decode mE_sheet.1 49 = .ok (.getfield 58, 3) := by decide +kernel
theorem dE_sheet_52 : decode mE_sheet.1 52 = .ok (.iload_n 1, 1) := by decide +kernel
theorem dE_sheet_53 : decode mE_sheet.1 53 = .ok (.iload_n 2, 1) := by decide +kernel
theorem dE_sheet_54 : decode mE_sheet.1 54 = .ok (.iload_n 2, 1) := by decide +kernel
theorem dE_sheet_55 : decode mE_sheet.1 55 = .ok (.iconst (-1), 1) := by decide +kernel
theorem dE_sheet_56 : decode mE_sheet.1 56 = .ok (.if_icmp .ne 7, 3) := by decide +kernel
theorem dE_sheet_59 : decode mE_sheet.1 59 = .ok (.iconst 0, 1) := by decide +kernel
theorem dE_sheet_60 : decode mE_sheet.1 60 = .ok (.goto 4, 3) := by decide +kernel
theorem dE_sheet_63 : decode mE_sheet.1 63 = .ok (.iload_n 3, 1) := by decide +kernel
theorem dE_sheet_64 : decode mE_sheet.1 64 = .ok (.invokevirtual 221, 3) := by decide +kernel
theorem dE_sheet_67 : decode mE_sheet.1 67 = .ok (.iconst 1, 1) := by decide +kernel
theorem dE_sheet_68 : decode mE_sheet.1 68 = .ok (.ireturn, 1) := by decide +kernel
set_option maxRecDepth 4000 in
theorem wE_sheet_48 {E : Ev} {z : Int32 × St} (σ : St) (i1 : Int32) (i2 : Int32) (i3 : Int32) (hX : fE_sheet_48 σ i1 i2 i3 = some z) : V E mE_sheet (FM E (some (.int z.1), z.2)) 48 [(0, .ref 0), (1, .int i1), (2, .int i2), (3, .int i3)] [] σ := by
  unfold fE_sheet_48 at hX
  refine V.aloadn 0 dE_sheet_48 rfl rfl ?_
  refine V.getr 0 33 dE_sheet_49 flE_58 (rfl : kd 0 = (5, 0)) rfl rfl ?_
  refine V.iloadn 1 dE_sheet_52 rfl rfl ?_
  refine V.iloadn 2 dE_sheet_53 rfl rfl ?_
  refine V.iloadn 2 dE_sheet_54 rfl rfl ?_
  refine V.iconst (-1 : Int32) dE_sheet_55 lcm1 rfl ?_
  have JJ : V E mE_sheet (FM E (some (.int z.1), z.2)) 64 [(0, .ref 0), (1, .int i1), (2, .int i2), (3, .int i3)] [.int (if i2 = (-1 : Int32) then (0 : Int32) else i3), .int i2, .int i1, .ref 33] σ := by
    obtain ⟨σ7, c6, hX⟩ := bd hX; try dsimp only at hX
    refine V.callv0 33 [.int i1, .int i2, .int (if i2 = (-1 : Int32) then (0 : Int32) else i3)] dE_sheet_64 (kH_lay c6) mlE_221 myH_lay mnH_lay ⟨rfl, rfl, by decide, by decide⟩ (rfl : kd 33 = (1, 0)) (by decide) rfl (Nat.le_of_ble_eq_true rfl) ⟨Nat.zero_le _, Nat.zero_le _⟩ rfl ?_
    refine V.iconst (1 : Int32) dE_sheet_67 lc1 rfl ?_
    have hX := (Option.some.inj hX).symm; subst hX; exact V.iret dE_sheet_68 rfl rfl
  refine V.icmpne 63 dE_sheet_56 rfl rfl (fun g8 => ?_) (fun g8 => ?_)
  · refine V.iloadn 3 dE_sheet_63 rfl rfl ?_
    exact V.top (if_neg g8).symm JJ
  · refine V.iconst (0 : Int32) dE_sheet_59 lc0 rfl ?_
    refine V.goto 64 dE_sheet_60 rfl ?_
    exact V.top (if_pos g8).symm JJ
set_option maxRecDepth 4000 in
theorem wE_sheet_36 {E : Ev} {z : Int32 × St} (σ : St) (i1 : Int32) (i2 : Int32) (i3 : Int32) (hX : fE_sheet_36 σ i1 i2 i3 = some z) : V E mE_sheet (FM E (some (.int z.1), z.2)) 36 [(0, .ref 0), (1, .int i1), (2, .int i2), (3, .int i3)] [] σ := by
  unfold fE_sheet_36 at hX
  refine V.iloadn 2 dE_sheet_36 rfl rfl ?_
  refine V.iconst (-1 : Int32) dE_sheet_37 lcm1 rfl ?_
  refine V.icmpeq 48 dE_sheet_38 rfl rfl (fun g5 => ?_) (fun g5 => ?_)
  · replace hX := ip hX g5
    refine V.sub [0, 1, 2, 3] rfl ?_
    exact wE_sheet_48 σ i1 i2 i3 hX
  · replace hX := im hX g5
    refine V.iloadn 3 dE_sheet_41 rfl rfl ?_
    refine V.ifge 48 dE_sheet_42 rfl rfl (fun g9 => ?_) (fun g9 => ?_)
    · replace hX := ip hX g9
      refine V.sub [0, 1, 2, 3] rfl ?_
      exact wE_sheet_48 σ i1 i2 i3 hX
    · replace hX := im hX g9
      refine V.bipush (-14 : Int32) dE_sheet_45 lbm14 rfl ?_
      have hX := (Option.some.inj hX).symm; subst hX; exact V.iret dE_sheet_47 rfl rfl
set_option maxRecDepth 4000 in
theorem wE_sheet {E : Ev} {z : Int32 × St} (σ : St) (i1 : Int32) (i2 : Int32) (i3 : Int32) (hX : fE_sheet σ i1 i2 i3 = some z) : V E mE_sheet (FM E (some (.int z.1), z.2)) 0 [(0, .ref 0), (1, .int i1), (2, .int i2), (3, .int i3)] [] σ := by
  unfold fE_sheet at hX
  refine V.aloadn 0 dE_sheet_0 rfl rfl ?_
  refine V.getr 0 33 dE_sheet_1 flE_58 (rfl : kd 0 = (5, 0)) rfl rfl ?_
  refine V.iloadn 1 dE_sheet_4 rfl rfl ?_
  refine V.callvi 33 [.int i1] dE_sheet_5 (kH_hasSheet (σ := σ) i1) mlE_201 myH_hasSheet mnH_hasSheet ⟨rfl, rfl, by decide, by decide⟩ (rfl : kd 33 = (1, 0)) (by decide) rfl (Nat.le_of_ble_eq_true rfl) ⟨Nat.zero_le _, Nat.zero_le _⟩ rfl ?_
  refine V.ifeq 21 dE_sheet_8 rfl rfl (fun g1 => ?_) (fun g1 => ?_)
  · replace hX := ip hX g1
    refine V.iconst (-1 : Int32) dE_sheet_21 lcm1 rfl ?_
    have hX := (Option.some.inj hX).symm; subst hX; exact V.iret dE_sheet_22 rfl rfl
  · replace hX := im hX g1
    refine V.iloadn 2 dE_sheet_11 rfl rfl ?_
    refine V.iconst (-1 : Int32) dE_sheet_12 lcm1 rfl ?_
    refine V.icmplt 21 dE_sheet_13 rfl rfl (fun g2 => ?_) (fun g2 => ?_)
    · replace hX := ip hX g2
      refine V.iconst (-1 : Int32) dE_sheet_21 lcm1 rfl ?_
      have hX := (Option.some.inj hX).symm; subst hX; exact V.iret dE_sheet_22 rfl rfl
    · replace hX := im hX g2
      refine V.iloadn 2 dE_sheet_16 rfl rfl ?_
      refine V.iconst (3 : Int32) dE_sheet_17 lc3 rfl ?_
      refine V.icmple 23 dE_sheet_18 rfl rfl (fun g3 => ?_) (fun g3 => ?_)
      · replace hX := ip hX g3
        refine V.iloadn 2 dE_sheet_23 rfl rfl ?_
        refine V.iconst (-1 : Int32) dE_sheet_24 lcm1 rfl ?_
        refine V.icmpeq 36 dE_sheet_25 rfl rfl (fun g4 => ?_) (fun g4 => ?_)
        · replace hX := ip hX g4
          refine V.sub [0, 1, 2, 3] rfl ?_
          exact wE_sheet_36 σ i1 i2 i3 hX
        · replace hX := im hX g4
          refine V.iloadn 3 dE_sheet_28 rfl rfl ?_
          refine V.bipush (40 : Int32) dE_sheet_29 lb40 rfl ?_
          refine V.icmple 36 dE_sheet_31 rfl rfl (fun g10 => ?_) (fun g10 => ?_)
          · replace hX := ip hX g10
            refine V.sub [0, 1, 2, 3] rfl ?_
            exact wE_sheet_36 σ i1 i2 i3 hX
          · replace hX := im hX g10
            refine V.iconst (-1 : Int32) dE_sheet_34 lcm1 rfl ?_
            have hX := (Option.some.inj hX).symm; subst hX; exact V.iret dE_sheet_35 rfl rfl
      · replace hX := im hX g3
        refine V.iconst (-1 : Int32) dE_sheet_21 lcm1 rfl ?_
        have hX := (Option.some.inj hX).symm; subst hX; exact V.iret dE_sheet_22 rfl rfl
theorem kE_sheet {E : Ev} {σ σ2 : St} {i1 : Int32} {i2 : Int32} {i3 : Int32} {z : Int32} (h : fE_sheet σ i1 i2 i3 = some (z, σ2)) : Ct mE_sheet E [.ref 0, .int i1, .int i2, .int i3] σ (some (.int z), σ2) := Ct.of (by decide) (Nat.le_of_ble_eq_true rfl) (wE_sheet σ i1 i2 i3 h)
theorem dH_narrowed_0 : decode mH_narrowed.1 0 = .ok (.iload_n 2, 1) := by decide +kernel
theorem dH_narrowed_1 : decode mH_narrowed.1 1 = .ok (.ifCond .ne 8, 3) := by decide +kernel
theorem dH_narrowed_4 : decode mH_narrowed.1 4 = .ok (.iload_n 1, 1) := by decide +kernel
theorem dH_narrowed_5 : decode mH_narrowed.1 5 = .ok (.i2b, 1) := by decide +kernel
theorem dH_narrowed_6 : decode mH_narrowed.1 6 = .ok (.goto 14, 3) := by decide +kernel
theorem dH_narrowed_9 : decode mH_narrowed.1 9 = .ok (.iload_n 2, 1) := by decide +kernel
theorem dH_narrowed_10 : decode mH_narrowed.1 10 = .ok (.iconst 1, 1) := by decide +kernel
theorem dH_narrowed_11 : decode mH_narrowed.1 11 = .ok (.if_icmp .ne 8, 3) := by decide +kernel
theorem dH_narrowed_14 : decode mH_narrowed.1 14 = .ok (.iload_n 1, 1) := by decide +kernel
theorem dH_narrowed_15 : decode mH_narrowed.1 15 = .ok (.i2s, 1) := by decide +kernel
theorem dH_narrowed_16 : decode mH_narrowed.1 16 = .ok (.goto 4, 3) := by decide +kernel
theorem dH_narrowed_19 : decode mH_narrowed.1 19 = .ok (.iload_n 1, 1) := by decide +kernel
theorem dH_narrowed_20 : decode mH_narrowed.1 20 = .ok (.ireturn, 1) := by decide +kernel
set_option maxRecDepth 4000 in
theorem wH_narrowed {E : Ev} {z : Int32} (σ : St) (i1 : Int32) (i2 : Int32) (hX : fH_narrowed i1 i2 = z) : V E mH_narrowed (FM E (some (.int z), σ)) 0 [(0, .ref 33), (1, .int i1), (2, .int i2)] [] σ := by
  unfold fH_narrowed at hX
  refine V.iloadn 2 dH_narrowed_0 rfl rfl ?_
  have JJ : V E mH_narrowed (FM E (some (.int z), σ)) 20 [(0, .ref 33), (1, .int i1), (2, .int i2)] [.int (if i2 = 0 then i1.toInt8.toInt32 else (if i2 = (1 : Int32) then i1.toInt16.toInt32 else i1))] σ := by
    subst hX; exact V.iret dH_narrowed_20 rfl rfl
  refine V.ifne 9 dH_narrowed_1 rfl rfl (fun g1 => ?_) (fun g1 => ?_)
  · refine V.iloadn 2 dH_narrowed_9 rfl rfl ?_
    refine V.iconst (1 : Int32) dH_narrowed_10 lc1 rfl ?_
    refine V.icmpne 19 dH_narrowed_11 rfl rfl (fun g2 => ?_) (fun g2 => ?_)
    · refine V.iloadn 1 dH_narrowed_19 rfl rfl ?_
      exact V.top ((if_neg g1).trans (if_neg g2)).symm JJ
    · refine V.iloadn 1 dH_narrowed_14 rfl rfl ?_
      refine V.i2s dH_narrowed_15 rfl ?_
      refine V.goto 20 dH_narrowed_16 rfl ?_
      exact V.top ((if_neg g1).trans (if_pos g2)).symm JJ
  · refine V.iloadn 1 dH_narrowed_4 rfl rfl ?_
    refine V.i2b dH_narrowed_5 rfl ?_
    refine V.goto 20 dH_narrowed_6 rfl ?_
    exact V.top (if_pos g1).symm JJ
theorem kH_narrowed {E : Ev} {σ : St} (i1 : Int32) (i2 : Int32) : Ct mH_narrowed E [.ref 33, .int i1, .int i2] σ (some (.int (fH_narrowed i1 i2)), σ) := Ct.of (by decide) (Nat.le_of_ble_eq_true rfl) (wH_narrowed σ i1 i2 rfl)
