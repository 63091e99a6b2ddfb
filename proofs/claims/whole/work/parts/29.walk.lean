theorem dM_lots_0 : decode mM_lots.1 0 = .ok (.iload_n 1, 1) := by decide +kernel
theorem dM_lots_1 : decode mM_lots.1 1 = .ok (.iconst 0, 1) := by decide +kernel
theorem dM_lots_2 : decode mM_lots.1 2 = .ok (.bipush 20, 2) := by decide +kernel
theorem dM_lots_4 : decode mM_lots.1 4 = .ok (.invokestatic 84, 3) := by decide +kernel
theorem dM_lots_7 : decode mM_lots.1 7 = .ok (.ifCond .ne 5, 3) := by decide +kernel
theorem dM_lots_10 : decode mM_lots.1 10 = .ok (.iconst (-1), 1) := by decide +kernel
theorem dM_lots_11 : decode mM_lots.1 11 = .ok (.ireturn, 1) := by decide +kernel
theorem dM_lots_12 : decode mM_lots.1 12 = .ok (.iconst 0, 1) := by decide +kernel
theorem dM_lots_13 : decode mM_lots.1 13 = .ok (.istore_n 2, 1) := by decide +kernel
theorem dM_lots_14 : decode mM_lots.1 14 = .ok (.iload_n 1, 1) := by decide +kernel
theorem dM_lots_15 : decode mM_lots.1 15 = .ok (.ifCond .le 10, 3) := by decide +kernel
theorem dM_lots_18 : decode mM_lots.1 18 = .ok (.aload_n 0, 1) := by decide +kernel
theorem dM_lots_19 : decode mM_lots.1 19 = .ok (.invokevirtual 242, 3) := by decide +kernel
theorem dM_lots_22 : decode mM_lots.1 22 = .ok (.goto 4, 3) := by decide +kernel
theorem dM_lots_25 : decode mM_lots.1 25 = .ok (.iconst (-1), 1) := by decide +kernel
theorem dM_lots_26 : decode mM_lots.1 26 = .ok (.istore_n 3, 1) := by decide +kernel
theorem dM_lots_27 : decode mM_lots.1 27 = .ok (.iload_n 3, 1) := by decide +kernel
theorem dM_lots_28 : decode mM_lots.1 28 = .ok (.ifCond .lt 30, 3) := by decide +kernel
theorem dM_lots_31 : decode mM_lots.1 31 = .ok (.aload_n 0, 1) := by decide +kernel
theorem dM_lots_32 : decode mM_lots.1 32 = .ok (.iload_n 3, 1) := by decide +kernel
theorem dM_lots_33 : decode mM_lots.1 33 = .ok (.invokevirtual 245, 3) := by decide +kernel
theorem dM_lots_36 : decode mM_lots.1 36 = .ok (.istore 4, 2) := by decide +kernel
theorem dM_lots_38 : decode mM_lots.1 38 = .ok (.iinc 2 1, 3) := by decide +kernel
theorem dM_lots_41 : decode mM_lots.1 41 = .ok (.iload_n 2, 1) := by decide +kernel
theorem dM_lots_42 : decode mM_lots.1 42 = .ok (.iload_n 1, 1) := by decide +kernel
theorem dM_lots_43 : decode mM_lots.1 43 = .ok (.if_icmp .ge 10, 3) := by decide +kernel
theorem dM_lots_46 : decode mM_lots.1 46 = .ok (.aload_n 0, 1) := by decide +kernel
theorem dM_lots_47 : decode mM_lots.1 47 = .ok (.invokevirtual 242, 3) := by decide +kernel
theorem dM_lots_50 : decode mM_lots.1 50 = .ok (.goto 4, 3) := by decide +kernel
theorem dM_lots_53 : decode mM_lots.1 53 = .ok (.iconst (-1), 1) := by decide +kernel
theorem dM_lots_54 : decode mM_lots.1 54 = .ok (.istore_n 3, 1) := by decide +kernel
theorem dM_lots_55 : decode mM_lots.1 55 = .ok (.goto (-28), 3) := by decide +kernel
theorem dM_lots_58 : decode mM_lots.1 58 = .ok (.iload_n 2, 1) := by decide +kernel
theorem dM_lots_59 : decode mM_lots.1 59 = .ok (.ireturn, 1) := by decide +kernel
set_option maxRecDepth 4000 in
theorem wM_lots_27 {E : Ev} {z : Int32 × St} : ∀ (fu : Nat) (σ : St) (i1 : Int32) (i2 : Int32) (i3 : Int32), fM_lots_27 fu σ i1 i2 i3 = some z → V E mM_lots (FM E (some (.int z.1), z.2)) 27 [(0, .ref 44), (1, .int i1), (2, .int i2), (3, .int i3)] [] σ := by
  intro fu
  induction fu with
  | zero => intro σ i1 i2 i3 hX; cases hX
  | succ fu ih =>
    intro σ i1 i2 i3 hX
    rw [fM_lots_27] at hX
    refine V.iloadn 3 dM_lots_27 rfl rfl ?_
    refine V.iflt 58 dM_lots_28 rfl rfl (fun g3 => ?_) (fun g3 => ?_)
    · replace hX := ip hX g3
      refine V.iloadn 2 dM_lots_58 rfl rfl ?_
      have hX := (Option.some.inj hX).symm; subst hX; exact V.iret dM_lots_59 rfl rfl
    · replace hX := im hX g3
      refine V.aloadn 0 dM_lots_31 rfl rfl ?_
      refine V.iloadn 3 dM_lots_32 rfl rfl ?_
      obtain ⟨q5, σ5, c4, hX⟩ := bi2 hX; try dsimp only at hX
      refine V.callvi 44 [.int i3] dM_lots_33 (kM_lot c4) mlM_245 myM_lot mnM_lot ⟨rfl, rfl, by decide, by decide⟩ (rfl : kd 44 = (6, 0)) (by decide) rfl (Nat.le_of_ble_eq_true rfl) ⟨Nat.zero_le _, Nat.zero_le _⟩ rfl ?_
      refine V.istore _ dM_lots_36 (by decide) rfl rfl ?_
      refine V.iinc 3 (1 : Int32) _ dM_lots_38 rfl lc1 (by decide) rfl rfl ?_
      replace hX := nmx hX; generalize i2 + (1 : Int32) = v6 at hX ⊢; try dsimp only at hX
      refine V.iloadn 0 dM_lots_41 rfl rfl ?_
      refine V.iloadn 3 dM_lots_42 rfl rfl ?_
      refine V.icmpge 53 dM_lots_43 rfl rfl (fun g7 => ?_) (fun g7 => ?_)
      · replace hX := ip hX g7
        refine V.iconst (-1 : Int32) dM_lots_53 lcm1 rfl ?_
        refine V.istoren _ dM_lots_54 (by decide) rfl rfl ?_
        refine V.goto 27 dM_lots_55 rfl ?_
        refine V.sub [3, 4, 1, 0] rfl ?_
        exact ih σ5 i1 v6 (-1 : Int32) hX
      · replace hX := im hX g7
        refine V.aloadn 2 dM_lots_46 rfl rfl ?_
        obtain ⟨q8, c9, hX⟩ := bd hX; try dsimp only at hX
        refine V.callvi 44 [] dM_lots_47 (kM_firstFree c9) mlM_242 myM_firstFree mnM_firstFree ⟨rfl, rfl, by decide, by decide⟩ (rfl : kd 44 = (6, 0)) (by decide) rfl (Nat.le_of_ble_eq_true rfl) ⟨Nat.zero_le _, Nat.zero_le _⟩ rfl ?_
        refine V.goto 54 dM_lots_50 rfl ?_
        refine V.istoren _ dM_lots_54 (by decide) rfl rfl ?_
        refine V.goto 27 dM_lots_55 rfl ?_
        refine V.sub [3, 4, 1, 0] rfl ?_
        exact ih σ5 i1 v6 q8 hX
set_option maxRecDepth 4000 in
theorem wM_lots_26 {E : Ev} {z : Int32 × St} (σ : St) (i1 : Int32) (i2 : Int32) (is0 : Int32) (hX : fM_lots_26 σ i1 i2 is0 = some z) : V E mM_lots (FM E (some (.int z.1), z.2)) 26 [(0, .ref 44), (1, .int i1), (2, .int i2)] [.int is0] σ := by
  unfold fM_lots_26 at hX
  refine V.istoren _ dM_lots_26 (by decide) rfl rfl ?_
  refine V.sub [1, 2, 3, 0] rfl ?_
  exact wM_lots_27 300 σ i1 i2 is0 hX
set_option maxRecDepth 4000 in
theorem wM_lots {E : Ev} {z : Int32 × St} (σ : St) (i1 : Int32) (hX : fM_lots σ i1 = some z) : V E mM_lots (FM E (some (.int z.1), z.2)) 0 [(0, .ref 44), (1, .int i1)] [] σ := by
  unfold fM_lots at hX
  refine V.iloadn 1 dM_lots_0 rfl rfl ?_
  refine V.iconst (0 : Int32) dM_lots_1 lc0 rfl ?_
  refine V.bipush (20 : Int32) dM_lots_2 lb20 rfl ?_
  refine V.callsi [.int i1, .int (0 : Int32), .int (20 : Int32)] dM_lots_4 (kM_in (σ := σ) i1 (0 : Int32) (20 : Int32)) mlM_84 myM_in mnM_in ⟨rfl, rfl, by decide, by decide⟩ rfl (Nat.le_of_ble_eq_true rfl) ⟨Nat.zero_le _, Nat.zero_le _⟩ rfl ?_
  refine V.ifne 12 dM_lots_7 rfl rfl (fun g1 => ?_) (fun g1 => ?_)
  · replace hX := im hX g1
    refine V.iconst (0 : Int32) dM_lots_12 lc0 rfl ?_
    refine V.istoren _ dM_lots_13 (by decide) rfl rfl ?_
    refine V.iloadn 2 dM_lots_14 rfl rfl ?_
    refine V.ifle 25 dM_lots_15 rfl rfl (fun g2 => ?_) (fun g2 => ?_)
    · replace hX := ip hX g2
      refine V.iconst (-1 : Int32) dM_lots_25 lcm1 rfl ?_
      refine V.sub [1, 2, 0] rfl ?_
      exact wM_lots_26 σ i1 (0 : Int32) (-1 : Int32) hX
    · replace hX := im hX g2
      refine V.aloadn 1 dM_lots_18 rfl rfl ?_
      obtain ⟨q10, c11, hX⟩ := bd hX; try dsimp only at hX
      refine V.callvi 44 [] dM_lots_19 (kM_firstFree c11) mlM_242 myM_firstFree mnM_firstFree ⟨rfl, rfl, by decide, by decide⟩ (rfl : kd 44 = (6, 0)) (by decide) rfl (Nat.le_of_ble_eq_true rfl) ⟨Nat.zero_le _, Nat.zero_le _⟩ rfl ?_
      refine V.goto 26 dM_lots_22 rfl ?_
      refine V.sub [1, 2, 0] rfl ?_
      exact wM_lots_26 σ i1 (0 : Int32) q10 hX
  · replace hX := ip hX g1
    refine V.iconst (-1 : Int32) dM_lots_10 lcm1 rfl ?_
    have hX := (Option.some.inj hX).symm; subst hX; exact V.iret dM_lots_11 rfl rfl
theorem kM_lots {E : Ev} {σ σ2 : St} {i1 : Int32} {z : Int32} (h : fM_lots σ i1 = some (z, σ2)) : Ct mM_lots E [.ref 44, .int i1] σ (some (.int z), σ2) := Ct.of (by decide) (Nat.le_of_ble_eq_true rfl) (wM_lots σ i1 h)
theorem dM_melt_0 : decode mM_melt.1 0 = .ok (.aload_n 0, 1) := by decide +kernel
theorem dM_melt_1 : decode mM_melt.1 1 = .ok (.iload_n 1, 1) := by decide +kernel
theorem dM_melt_2 : decode mM_melt.1 2 = .ok (.invokevirtual 223, 3) := by decide +kernel
theorem dM_melt_5 : decode mM_melt.1 5 = .ok (.ifCond .ne 5, 3) := by decide +kernel
theorem dM_melt_8 : decode mM_melt.1 8 = .ok (.iconst (-1), 1) := by decide +kernel
theorem dM_melt_9 : decode mM_melt.1 9 = .ok (.ireturn, 1) := by decide +kernel
theorem dM_melt_10 : decode mM_melt.1 10 = .ok (.aload_n 0, 1) := by decide +kernel
theorem dM_melt_11 : decode mM_melt.1 11 = .ok (.iload_n 1, 1) := by decide +kernel
theorem dM_melt_12 : decode mM_melt.1 12 = .ok (.iconst 2, 1) := by decide +kernel
theorem dM_melt_13 : decode mM_melt.1 13 = .ok (.invokevirtual 193, 3) := by decide +kernel
theorem dM_melt_16 : decode mM_melt.1 16 = .ok (.istore_n 2, 1) := by decide +kernel
theorem dM_melt_17 : decode mM_melt.1 17 = .ok (.aload_n 0, 1) := by decide +kernel
theorem dM_melt_18 : decode mM_melt.1 18 = .ok (.getfield 13, 3) := by decide +kernel
theorem dM_melt_21 : decode mM_melt.1 21 = .ok (.iload_n 2, 1) := by decide +kernel
theorem dM_melt_22 : decode mM_melt.1 22 = .ok (.dup2, 1) := by decide +kernel
theorem dM_melt_23 : decode mM_melt.1 23 = .ok (.iaload, 1) := by decide +kernel
theorem dM_melt_24 : decode mM_melt.1 24 = .ok (.aload_n 0, 1) := by decide +kernel
theorem dM_melt_25 : decode mM_melt.1 25 = .ok (.iload_n 1, 1) := by decide +kernel
theorem dM_melt_26 : decode mM_melt.1 26 = .ok (.invokevirtual 200, 3) := by decide +kernel
theorem dM_melt_29 : decode mM_melt.1 29 = .ok (.iconst 2, 1) := by decide +kernel
theorem dM_melt_30 : decode mM_melt.1 30 = .ok (.idiv, 1) := by decide +kernel
theorem dM_melt_31 : decode mM_melt.1 31 = .ok (.iadd, 1) := by decide +kernel
theorem dM_melt_32 : decode mM_melt.1 32 = .ok (.iastore, 1) := by decide +kernel
theorem dM_melt_33 : decode mM_melt.1 33 = .ok (.aload_n 0, 1) := by decide +kernel
theorem dM_melt_34 : decode mM_melt.1 34 = .ok (.iload_n 1, 1) := by decide +kernel
theorem dM_melt_35 : decode mM_melt.1 35 = .ok (.invokevirtual 235, 3) := by decide +kernel
theorem dM_melt_38 : decode mM_melt.1 38 = .ok (.aload_n 0, 1) := by decide +kernel
theorem dM_melt_39 : decode mM_melt.1 39 = .ok (.getfield 13, 3) := by decide +kernel
theorem dM_melt_42 : decode mM_melt.1 42 = .ok (.iload_n 2, 1) := by decide +kernel
theorem dM_melt_43 : decode mM_melt.1 43 = .ok (.iaload, 1) := by decide +kernel
theorem dM_melt_44 : decode mM_melt.1 44 = .ok (.ireturn, 1) := by decide +kernel
set_option maxRecDepth 4000 in
theorem wM_melt {E : Ev} {z : Int32 × St} (σ : St) (i1 : Int32) (hX : fM_melt σ i1 = some z) : V E mM_melt (FM E (some (.int z.1), z.2)) 0 [(0, .ref 44), (1, .int i1)] [] σ := by
  unfold fM_melt at hX
  refine V.aloadn 0 dM_melt_0 rfl rfl ?_
  refine V.iloadn 1 dM_melt_1 rfl rfl ?_
  refine V.callvi 44 [.int i1] dM_melt_2 (kM_isCoin (σ := σ) i1) mlM_223 myM_isCoin mnM_isCoin ⟨rfl, rfl, by decide, by decide⟩ (rfl : kd 44 = (6, 0)) (by decide) rfl (Nat.le_of_ble_eq_true rfl) ⟨Nat.zero_le _, Nat.zero_le _⟩ rfl ?_
  refine V.ifne 10 dM_melt_5 rfl rfl (fun g1 => ?_) (fun g1 => ?_)
  · replace hX := im hX g1
    refine V.aloadn 0 dM_melt_10 rfl rfl ?_
    refine V.iloadn 1 dM_melt_11 rfl rfl ?_
    refine V.iconst (2 : Int32) dM_melt_12 lc2 rfl ?_
    obtain ⟨q2, c3, hX⟩ := bd hX; try dsimp only at hX
    refine V.callvi 44 [.int i1, .int (2 : Int32)] dM_melt_13 (kM_its c3) mlM_193 myM_its mnM_its ⟨rfl, rfl, by decide, by decide⟩ (rfl : kd 44 = (6, 0)) (by decide) rfl (Nat.le_of_ble_eq_true rfl) ⟨Nat.zero_le _, Nat.zero_le _⟩ rfl ?_
    refine V.istoren _ dM_melt_16 (by decide) rfl rfl ?_
    refine V.aloadn 1 dM_melt_17 rfl rfl ?_
    refine V.getr 44 46 dM_melt_18 flM_13 (rfl : kd 44 = (6, 0)) rfl rfl ?_
    refine V.iloadn 0 dM_melt_21 rfl rfl ?_
    refine V.dup2 dM_melt_22 rfl rfl rfl ?_
    obtain ⟨h4, hX⟩ := ob hX
    refine V.iald 46 dM_melt_23 (rfl : kd 46 = (7, 7)) h4 rfl ?_
    refine V.aloadn 1 dM_melt_24 rfl rfl ?_
    refine V.iloadn 2 dM_melt_25 rfl rfl ?_
    obtain ⟨q5, c6, hX⟩ := bd hX; try dsimp only at hX
    refine V.callvi 44 [.int i1] dM_melt_26 (kM_worth c6) mlM_200 myM_worth mnM_worth ⟨rfl, rfl, by decide, by decide⟩ (rfl : kd 44 = (6, 0)) (by decide) rfl (Nat.le_of_ble_eq_true rfl) ⟨Nat.zero_le _, Nat.zero_le _⟩ rfl ?_
    refine V.iconst (2 : Int32) dM_melt_29 lc2 rfl ?_
    refine V.idiv dM_melt_30 (by decide) rfl ?_
    refine V.iadd dM_melt_31 rfl ?_
    obtain ⟨h7, hX⟩ := ob hX
    refine V.iast 46 dM_melt_32 (rfl : kd 46 = (7, 7)) h7 rfl ?_
    replace hX := nmx hX; generalize sI σ 46 (ix q2) ((gI σ 46 (ix q2)) + (q5 / (2 : Int32))) = σ8 at hX ⊢; try dsimp only at hX
    refine V.aloadn 1 dM_melt_33 rfl rfl ?_
    refine V.iloadn 2 dM_melt_34 rfl rfl ?_
    obtain ⟨σ10, c9, hX⟩ := bd hX; try dsimp only at hX
    refine V.callv0 44 [.int i1] dM_melt_35 (kM_goes c9) mlM_235 myM_goes mnM_goes ⟨rfl, rfl, by decide, by decide⟩ (rfl : kd 44 = (6, 0)) (by decide) rfl (Nat.le_of_ble_eq_true rfl) ⟨Nat.zero_le _, Nat.zero_le _⟩ rfl ?_
    refine V.aloadn 1 dM_melt_38 rfl rfl ?_
    refine V.getr 44 46 dM_melt_39 flM_13 (rfl : kd 44 = (6, 0)) rfl rfl ?_
    refine V.iloadn 0 dM_melt_42 rfl rfl ?_
    obtain ⟨h11, hX⟩ := ob hX
    refine V.iald 46 dM_melt_43 (rfl : kd 46 = (7, 7)) h11 rfl ?_
    have hX := (Option.some.inj hX).symm; subst hX; exact V.iret dM_melt_44 rfl rfl
  · replace hX := ip hX g1
    refine V.iconst (-1 : Int32) dM_melt_8 lcm1 rfl ?_
    have hX := (Option.some.inj hX).symm; subst hX; exact V.iret dM_melt_9 rfl rfl
theorem kM_melt {E : Ev} {σ σ2 : St} {i1 : Int32} {z : Int32} (h : fM_melt σ i1 = some (z, σ2)) : Ct mM_melt E [.ref 44, .int i1] σ (some (.int z), σ2) := Ct.of (by decide) (Nat.le_of_ble_eq_true rfl) (wM_melt σ i1 h)
theorem dM_findOne_0 : decode mM_findOne.1 0 = .ok (.sipush 128, 3) := by decide +kernel
theorem dM_findOne_3 : decode mM_findOne.1 3 = .ok (.iload_n 2, 1) := by decide +kernel
theorem dM_findOne_4 : decode mM_findOne.1 4 = .ok (.imul, 1) := by decide +kernel
theorem dM_findOne_5 : decode mM_findOne.1 5 = .ok (.iload_n 3, 1) := by decide +kernel
theorem dM_findOne_6 : decode mM_findOne.1 6 = .ok (.iadd, 1) := by decide +kernel
theorem dM_findOne_7 : decode mM_findOne.1 7 = .ok (.istore 4, 2) := by decide +kernel
theorem dM_findOne_9 : decode mM_findOne.1 9 = .ok (.iload_n 3, 1) := by decide +kernel
theorem dM_findOne_10 : decode mM_findOne.1 10 = .ok (.aload_n 0, 1) := by decide +kernel
theorem dM_findOne_11 : decode mM_findOne.1 11 = .ok (.invokevirtual 232, 3) := by decide +kernel
theorem dM_findOne_14 : decode mM_findOne.1 14 = .ok (.if_icmp .ne 7, 3) := by decide +kernel
theorem dM_findOne_17 : decode mM_findOne.1 17 = .ok (.iconst 1, 1) := by decide +kernel
theorem dM_findOne_18 : decode mM_findOne.1 18 = .ok (.goto 4, 3) := by decide +kernel
theorem dM_findOne_21 : decode mM_findOne.1 21 = .ok (.iconst 0, 1) := by decide +kernel
theorem dM_findOne_22 : decode mM_findOne.1 22 = .ok (.istore 5, 2) := by decide +kernel
theorem dM_findOne_24 : decode mM_findOne.1 24 = .ok (.aload_n 0, 1) := by decide +kernel
theorem dM_findOne_25 : decode mM_findOne.1 25 = .ok (.getfield 38, 3) := by decide +kernel
theorem dM_findOne_28 : decode mM_findOne.1 28 = .ok (.iload 4, 2) := by decide +kernel
theorem dM_findOne_30 : decode mM_findOne.1 30 = .ok (.iconst 0, 1) := by decide +kernel
theorem dM_findOne_31 : decode mM_findOne.1 31 = .ok (.iastore, 1) := by decide +kernel
theorem dM_findOne_32 : decode mM_findOne.1 32 = .ok (.aload_n 0, 1) := by decide +kernel
theorem dM_findOne_33 : decode mM_findOne.1 33 = .ok (.getfield 41, 3) := by decide +kernel
theorem dM_findOne_36 : decode mM_findOne.1 36 = .ok (.iload 4, 2) := by decide +kernel
theorem dM_findOne_38 : decode mM_findOne.1 38 = .ok (.iload 5, 2) := by decide +kernel
theorem dM_findOne_40 : decode mM_findOne.1 40 = .ok (.ifCond .eq 7, 3) := by decide +kernel
theorem dM_findOne_43 : decode mM_findOne.1 43 = .ok (.iconst 1, 1) := by decide +kernel
theorem dM_findOne_44 : decode mM_findOne.1 44 = .ok (.goto 4, 3) := by decide +kernel
theorem dM_findOne_47 : decode mM_findOne.1 47 = .ok (.iconst 0, 1) := by decide +kernel
theorem dM_findOne_48 : decode mM_findOne.1 48 = .ok (.iastore, 1) := by decide +kernel
theorem dM_findOne_49 : decode mM_findOne.1 49 = .ok (.aload_n 0, 1) := by decide +kernel
theorem dM_findOne_50 : decode mM_findOne.1 50 = .ok (.getfield 44, 3) := by decide +kernel
theorem dM_findOne_53 : decode mM_findOne.1 53 = .ok (.iload 4, 2) := by decide +kernel
theorem dM_findOne_55 : decode mM_findOne.1 55 = .ok (.iload 5, 2) := by decide +kernel
theorem dM_findOne_57 : decode mM_findOne.1 57 = .ok (.ifCond .eq 9, 3) := by decide +kernel
theorem dM_findOne_60 : decode mM_findOne.1 60 = .ok (.iconst 1, 1) := by decide +kernel
theorem dM_findOne_61 : decode mM_findOne.1 61 = .ok (.iload_n 2, 1) := by decide +kernel
theorem dM_findOne_62 : decode mM_findOne.1 62 = .ok (.ishl, 1) := by decide +kernel
theorem dM_findOne_63 : decode mM_findOne.1 63 = .ok (.goto 4, 3) := by decide +kernel
theorem dM_findOne_66 : decode mM_findOne.1 66 = .ok (.iconst 0, 1) := by decide +kernel
theorem dM_findOne_67 : decode mM_findOne.1 67 = .ok (.iastore, 1) := by decide +kernel
theorem dM_findOne_68 : decode mM_findOne.1 68 = .ok (.iconst 0, 1) := by decide +kernel
theorem dM_findOne_69 : decode mM_findOne.1 69 = .ok (.istore 6, 2) := by decide +kernel
theorem dM_findOne_71 : decode mM_findOne.1 71 = .ok (.iload 6, 2) := by decide +kernel
theorem dM_findOne_73 : decode mM_findOne.1 73 = .ok (.aload_n 0, 1) := by decide +kernel
theorem dM_findOne_74 : decode mM_findOne.1 74 = .ok (.getfield 81, 3) := by decide +kernel
theorem dM_findOne_77 : decode mM_findOne.1 77 = .ok (.if_icmp .ge 115, 3) := by decide +kernel
theorem dM_findOne_80 : decode mM_findOne.1 80 = .ok (.aload_n 0, 1) := by decide +kernel
theorem dM_findOne_81 : decode mM_findOne.1 81 = .ok (.iload_n 1, 1) := by decide +kernel
theorem dM_findOne_82 : decode mM_findOne.1 82 = .ok (.iload_n 2, 1) := by decide +kernel
theorem dM_findOne_83 : decode mM_findOne.1 83 = .ok (.iload_n 3, 1) := by decide +kernel
theorem dM_findOne_84 : decode mM_findOne.1 84 = .ok (.iload 6, 2) := by decide +kernel
theorem dM_findOne_86 : decode mM_findOne.1 86 = .ok (.invokevirtual 216, 3) := by decide +kernel
theorem dM_findOne_89 : decode mM_findOne.1 89 = .ok (.ifCond .eq 97, 3) := by decide +kernel
theorem dM_findOne_92 : decode mM_findOne.1 92 = .ok (.sipush 128, 3) := by decide +kernel
theorem dM_findOne_95 : decode mM_findOne.1 95 = .ok (.iload 6, 2) := by decide +kernel
theorem dM_findOne_97 : decode mM_findOne.1 97 = .ok (.imul, 1) := by decide +kernel
theorem dM_findOne_98 : decode mM_findOne.1 98 = .ok (.iload_n 3, 1) := by decide +kernel
theorem dM_findOne_99 : decode mM_findOne.1 99 = .ok (.iconst 1, 1) := by decide +kernel
theorem dM_findOne_100 : decode mM_findOne.1 100 = .ok (.iload 6, 2) := by decide +kernel
theorem dM_findOne_102 : decode mM_findOne.1 102 = .ok (.ishl, 1) := by decide +kernel
theorem dM_findOne_103 : decode mM_findOne.1 103 = .ok (.ior, 1) := by decide +kernel
theorem dM_findOne_104 : decode mM_findOne.1 104 = .ok (.iadd, 1) := by decide +kernel
theorem dM_findOne_105 : decode mM_findOne.1 105 = .ok (.istore 7, 2) := by decide +kernel
theorem dM_findOne_107 : decode mM_findOne.1 107 = .ok (.aload_n 0, 1) := by decide +kernel
theorem dM_findOne_108 : decode mM_findOne.1 108 = .ok (.getfield 38, 3) := by decide +kernel
theorem dM_findOne_111 : decode mM_findOne.1 111 = .ok (.iload 4, 2) := by decide +kernel
theorem dM_findOne_113 : decode mM_findOne.1 113 = .ok (.aload_n 0, 1) := by decide +kernel
theorem dM_findOne_114 : decode mM_findOne.1 114 = .ok (.getfield 38, 3) := by decide +kernel
theorem dM_findOne_117 : decode mM_findOne.1 117 = .ok (.iload 7, 2) := by decide +kernel
theorem dM_findOne_119 : decode mM_findOne.1 119 = .ok (.iaload, 1) := by decide +kernel
theorem dM_findOne_120 : decode mM_findOne.1 120 = .ok (.iconst 1, 1) := by decide +kernel
theorem dM_findOne_121 : decode mM_findOne.1 121 = .ok (.iadd, 1) := by decide +kernel
theorem dM_findOne_122 : decode mM_findOne.1 122 = .ok (.aload_n 0, 1) := by decide +kernel
theorem dM_findOne_123 : decode mM_findOne.1 123 = .ok (.getfield 38, 3) := by decide +kernel
theorem dM_findOne_126 : decode mM_findOne.1 126 = .ok (.iload 4, 2) := by decide +kernel
theorem dM_findOne_128 : decode mM_findOne.1 128 = .ok (.iaload, 1) := by decide +kernel
theorem dM_findOne_129 : decode mM_findOne.1 129 = .ok (.if_icmp .le 15, 3) := by decide +kernel
theorem dM_findOne_132 : decode mM_findOne.1 132 = .ok (.aload_n 0, 1) := by decide +kernel
theorem dM_findOne_133 : decode mM_findOne.1 133 = .ok (.getfield 38, 3) := by decide +kernel
theorem dM_findOne_136 : decode mM_findOne.1 136 = .ok (.iload 7, 2) := by decide +kernel
theorem dM_findOne_138 : decode mM_findOne.1 138 = .ok (.iaload, 1) := by decide +kernel
theorem dM_findOne_139 : decode mM_findOne.1 139 = .ok (.iconst 1, 1) := by decide +kernel
theorem dM_findOne_140 : decode mM_findOne.1 140 = .ok (.iadd, 1) := by decide +kernel
theorem dM_findOne_141 : decode mM_findOne.1 141 = .ok (.goto 10, 3) := by decide +kernel
theorem dM_findOne_144 : decode mM_findOne.1 144 = .ok (.aload_n 0, 1) := by decide +kernel
theorem dM_findOne_145 : decode mM_findOne.1 145 = .ok (.getfield 38, 3) := by decide +kernel
theorem dM_findOne_148 : decode mM_findOne.1 148 = .ok (.iload 4, 2) := by decide +kernel
theorem dM_findOne_150 : decode mM_findOne.1 150 = .ok (.iaload, 1) := by decide +kernel
theorem dM_findOne_151 : decode mM_findOne.1 151 = .ok (.iastore, 1) := by decide +kernel
theorem dM_findOne_152 : decode mM_findOne.1 152 = .ok (.aload_n 0, 1) := by decide +kernel
theorem dM_findOne_153 : decode mM_findOne.1 153 = .ok (.getfield 41, 3) := by decide +kernel
theorem dM_findOne_156 : decode mM_findOne.1 156 = .ok (.iload 4, 2) := by decide +kernel
theorem dM_findOne_158 : decode mM_findOne.1 158 = .ok (.dup2, 1) := by decide +kernel
theorem dM_findOne_159 : decode mM_findOne.1 159 = .ok (.iaload, 1) := by decide +kernel
theorem dM_findOne_160 : decode mM_findOne.1 160 = .ok (.aload_n 0, 1) := by decide +kernel
theorem dM_findOne_161 : decode mM_findOne.1 161 = .ok (.getfield 41, 3) := by decide +kernel
theorem dM_findOne_164 : decode mM_findOne.1 164 = .ok (.iload 7, 2) := by decide +kernel
theorem dM_findOne_166 : decode mM_findOne.1 166 = .ok (.iaload, 1) := by decide +kernel
theorem dM_findOne_167 : decode mM_findOne.1 167 = .ok (.iadd, 1) := by decide +kernel
theorem dM_findOne_168 : decode mM_findOne.1 168 = .ok (.iastore, 1) := by decide +kernel
theorem dM_findOne_169 : decode mM_findOne.1 169 = .ok (.aload_n 0, 1) := by decide +kernel
theorem dM_findOne_170 : decode mM_findOne.1 170 = .ok (.getfield 44, 3) := by decide +kernel
theorem dM_findOne_173 : decode mM_findOne.1 173 = .ok (.iload 4, 2) := by decide +kernel
theorem dM_findOne_175 : decode mM_findOne.1 175 = .ok (.dup2, 1) := by decide +kernel
theorem dM_findOne_176 : decode mM_findOne.1 176 = .ok (.iaload, 1) := by decide +kernel
theorem dM_findOne_177 : decode mM_findOne.1 177 = .ok (.aload_n 0, 1) := by decide +kernel
theorem dM_findOne_178 : decode mM_findOne.1 178 = .ok (.getfield 44, 3) := by decide +kernel
theorem dM_findOne_181 : decode mM_findOne.1 181 = .ok (.iload 7, 2) := by decide +kernel
theorem dM_findOne_183 : decode mM_findOne.1 183 = .ok (.iaload, 1) := by decide +kernel
theorem dM_findOne_184 : decode mM_findOne.1 184 = .ok (.ior, 1) := by decide +kernel
theorem dM_findOne_185 : decode mM_findOne.1 185 = .ok (.iastore, 1) := by decide +kernel
theorem dM_findOne_186 : decode mM_findOne.1 186 = .ok (.iinc 6 1, 3) := by decide +kernel
theorem dM_findOne_189 : decode mM_findOne.1 189 = .ok (.goto (-118), 3) := by decide +kernel
theorem dM_findOne_192 : decode mM_findOne.1 192 = .ok (.return_, 1) := by decide +kernel
set_option maxRecDepth 4000 in
theorem wM_findOne_71 {E : Ev} {z : St} : ∀ (fu : Nat) (σ : St) (i1 : Int32) (i2 : Int32) (i3 : Int32) (i4 : Int32) (i6 : Int32), fM_findOne_71 fu σ i1 i2 i3 i4 i6 = some z → V E mM_findOne (FM E (none, z)) 71 [(0, .ref 44), (1, .int i1), (2, .int i2), (3, .int i3), (4, .int i4), (6, .int i6)] [] σ := by
  intro fu
  induction fu with
  | zero => intro σ i1 i2 i3 i4 i6 hX; cases hX
  | succ fu ih =>
    intro σ i1 i2 i3 i4 i6 hX
    rw [fM_findOne_71] at hX
    refine V.iload 5 dM_findOne_71 rfl rfl ?_
    refine V.aloadn 0 dM_findOne_73 rfl rfl ?_
    refine V.geti 44 dM_findOne_74 flM_81 (rfl : kd 44 = (6, 0)) rfl ?_
    refine V.icmpge 192 dM_findOne_77 rfl rfl (fun g9 => ?_) (fun g9 => ?_)
    · replace hX := ip hX g9
      have hX := (Option.some.inj hX).symm; subst hX; exact V.vret dM_findOne_192 rfl rfl
    · replace hX := im hX g9
      refine V.aloadn 0 dM_findOne_80 rfl rfl ?_
      refine V.iloadn 1 dM_findOne_81 rfl rfl ?_
      refine V.iloadn 2 dM_findOne_82 rfl rfl ?_
      refine V.iloadn 3 dM_findOne_83 rfl rfl ?_
      refine V.iload 5 dM_findOne_84 rfl rfl ?_
      obtain ⟨q10, c11, hX⟩ := bd hX; try dsimp only at hX
      refine V.callvi 44 [.int i1, .int i2, .int i3, .int i6] dM_findOne_86 (kM_mayBe c11) mlM_216 myM_mayBe mnM_mayBe ⟨rfl, rfl, by decide, by decide⟩ (rfl : kd 44 = (6, 0)) (by decide) rfl (Nat.le_of_ble_eq_true rfl) ⟨Nat.zero_le _, Nat.zero_le _⟩ rfl ?_
      refine V.ifeq 186 dM_findOne_89 rfl rfl (fun g12 => ?_) (fun g12 => ?_)
      · replace hX := ip hX g12
        refine V.iinc 5 (1 : Int32) _ dM_findOne_186 rfl lc1 (by decide) rfl rfl ?_
        replace hX := nmx hX; generalize i6 + (1 : Int32) = v13 at hX ⊢; try dsimp only at hX
        refine V.goto 71 dM_findOne_189 rfl ?_
        refine V.sub [1, 2, 3, 4, 5, 0] rfl ?_
        exact ih σ i1 i2 i3 i4 v13 hX
      · replace hX := im hX g12
        refine V.sipush (128 : Int32) dM_findOne_92 ls128 rfl ?_
        refine V.iload 5 dM_findOne_95 rfl rfl ?_
        refine V.imul dM_findOne_97 rfl ?_
        refine V.iloadn 3 dM_findOne_98 rfl rfl ?_
        refine V.iconst (1 : Int32) dM_findOne_99 lc1 rfl ?_
        refine V.iload 5 dM_findOne_100 rfl rfl ?_
        refine V.ishl dM_findOne_102 rfl ?_
        refine V.ior dM_findOne_103 rfl ?_
        refine V.iadd dM_findOne_104 rfl ?_
        refine V.istore _ dM_findOne_105 (by decide) rfl rfl ?_
        replace hX := nmx hX; generalize ((128 : Int32) * i6) + (i3 ||| ((1 : Int32) <<< (i6 &&& 31))) = v14 at hX ⊢; try dsimp only at hX
        refine V.aloadn 1 dM_findOne_107 rfl rfl ?_
        refine V.getr 44 53 dM_findOne_108 flM_38 (rfl : kd 44 = (6, 0)) rfl rfl ?_
        refine V.iload 5 dM_findOne_111 rfl rfl ?_
        refine V.aloadn 1 dM_findOne_113 rfl rfl ?_
        refine V.getr 44 53 dM_findOne_114 flM_38 (rfl : kd 44 = (6, 0)) rfl rfl ?_
        refine V.iload 0 dM_findOne_117 rfl rfl ?_
        obtain ⟨h15, hX⟩ := ob hX
        refine V.iald 53 dM_findOne_119 (rfl : kd 53 = (7, 896)) h15 rfl ?_
        refine V.iconst (1 : Int32) dM_findOne_120 lc1 rfl ?_
        refine V.iadd dM_findOne_121 rfl ?_
        refine V.aloadn 1 dM_findOne_122 rfl rfl ?_
        refine V.getr 44 53 dM_findOne_123 flM_38 (rfl : kd 44 = (6, 0)) rfl rfl ?_
        refine V.iload 5 dM_findOne_126 rfl rfl ?_
        obtain ⟨h16, hX⟩ := ob hX
        refine V.iald 53 dM_findOne_128 (rfl : kd 53 = (7, 896)) h16 rfl ?_
        refine jn (Pj := fun J => ∀ (σ17 : St) (ji1 : Int32) (ji2 : Int32) (ji3 : Int32) (ji4 : Int32) (ji6 : Int32) (ji7 : Int32) (jis0 : Int32) (jis1 : Int32), J σ17 ji1 ji2 ji3 ji4 ji6 ji7 jis0 jis1 = some z → V E mM_findOne (FM E (none, z)) 151 [(0, .ref 44), (1, .int ji1), (2, .int ji2), (3, .int ji3), (4, .int ji4), (6, .int ji6), (7, .int ji7)] [.int jis0, .int jis1, .ref 53] σ17) hX (fun σ17 ji1 ji2 ji3 ji4 ji6 ji7 jis0 jis1 hX => ?_) (fun J151 hJ151 hX => ?_)
        · try dsimp only at hX
          obtain ⟨h18, hX⟩ := ob hX
          refine V.iast 53 dM_findOne_151 (rfl : kd 53 = (7, 896)) h18 rfl ?_
          replace hX := nmx hX; generalize sI σ17 53 (ix jis1) jis0 = σ19 at hX ⊢; try dsimp only at hX
          refine V.aloadn 0 dM_findOne_152 rfl rfl ?_
          refine V.getr 44 54 dM_findOne_153 flM_41 (rfl : kd 44 = (6, 0)) rfl rfl ?_
          refine V.iload 4 dM_findOne_156 rfl rfl ?_
          refine V.dup2 dM_findOne_158 rfl rfl rfl ?_
          obtain ⟨h20, hX⟩ := ob hX
          refine V.iald 54 dM_findOne_159 (rfl : kd 54 = (7, 896)) h20 rfl ?_
          refine V.aloadn 0 dM_findOne_160 rfl rfl ?_
          refine V.getr 44 54 dM_findOne_161 flM_41 (rfl : kd 44 = (6, 0)) rfl rfl ?_
          refine V.iload 6 dM_findOne_164 rfl rfl ?_
          obtain ⟨h21, hX⟩ := ob hX
          refine V.iald 54 dM_findOne_166 (rfl : kd 54 = (7, 896)) h21 rfl ?_
          refine V.iadd dM_findOne_167 rfl ?_
          obtain ⟨h22, hX⟩ := ob hX
          refine V.iast 54 dM_findOne_168 (rfl : kd 54 = (7, 896)) h22 rfl ?_
          replace hX := nmx hX; generalize sI σ19 54 (ix ji4) ((gI σ19 54 (ix ji4)) + (gI σ19 54 (ix ji7))) = σ23 at hX ⊢; try dsimp only at hX
          refine V.aloadn 0 dM_findOne_169 rfl rfl ?_
          refine V.getr 44 55 dM_findOne_170 flM_44 (rfl : kd 44 = (6, 0)) rfl rfl ?_
          refine V.iload 4 dM_findOne_173 rfl rfl ?_
          refine V.dup2 dM_findOne_175 rfl rfl rfl ?_
          obtain ⟨h24, hX⟩ := ob hX
          refine V.iald 55 dM_findOne_176 (rfl : kd 55 = (7, 896)) h24 rfl ?_
          refine V.aloadn 0 dM_findOne_177 rfl rfl ?_
          refine V.getr 44 55 dM_findOne_178 flM_44 (rfl : kd 44 = (6, 0)) rfl rfl ?_
          refine V.iload 6 dM_findOne_181 rfl rfl ?_
          obtain ⟨h25, hX⟩ := ob hX
          refine V.iald 55 dM_findOne_183 (rfl : kd 55 = (7, 896)) h25 rfl ?_
          refine V.ior dM_findOne_184 rfl ?_
          obtain ⟨h26, hX⟩ := ob hX
          refine V.iast 55 dM_findOne_185 (rfl : kd 55 = (7, 896)) h26 rfl ?_
          replace hX := nmx hX; generalize sI σ23 55 (ix ji4) ((gI σ23 55 (ix ji4)) ||| (gI σ23 55 (ix ji7))) = σ27 at hX ⊢; try dsimp only at hX
          refine V.iinc 5 (1 : Int32) _ dM_findOne_186 rfl lc1 (by decide) rfl rfl ?_
          replace hX := nmx hX; generalize ji6 + (1 : Int32) = v28 at hX ⊢; try dsimp only at hX
          refine V.goto 71 dM_findOne_189 rfl ?_
          refine V.sub [1, 2, 3, 4, 5, 0] rfl ?_
          exact ih σ27 ji1 ji2 ji3 ji4 v28 hX
        · try dsimp only at hX
          refine V.icmple 144 dM_findOne_129 rfl rfl (fun g29 => ?_) (fun g29 => ?_)
          · replace hX := ip hX g29
            refine V.aloadn 1 dM_findOne_144 rfl rfl ?_
            refine V.getr 44 53 dM_findOne_145 flM_38 (rfl : kd 44 = (6, 0)) rfl rfl ?_
            refine V.iload 5 dM_findOne_148 rfl rfl ?_
            obtain ⟨h30, hX⟩ := ob hX
            refine V.iald 53 dM_findOne_150 (rfl : kd 53 = (7, 896)) h30 rfl ?_
            refine V.sub [1, 2, 3, 4, 5, 6, 0] rfl ?_
            exact hJ151 σ i1 i2 i3 i4 i6 v14 (gI σ 53 (ix i4)) i4 hX
          · replace hX := im hX g29
            refine V.aloadn 1 dM_findOne_132 rfl rfl ?_
            refine V.getr 44 53 dM_findOne_133 flM_38 (rfl : kd 44 = (6, 0)) rfl rfl ?_
            refine V.iload 0 dM_findOne_136 rfl rfl ?_
            obtain ⟨h31, hX⟩ := ob hX
            refine V.iald 53 dM_findOne_138 (rfl : kd 53 = (7, 896)) h31 rfl ?_
            refine V.iconst (1 : Int32) dM_findOne_139 lc1 rfl ?_
            refine V.iadd dM_findOne_140 rfl ?_
            refine V.goto 151 dM_findOne_141 rfl ?_
            refine V.sub [1, 2, 3, 4, 5, 6, 0] rfl ?_
            exact hJ151 σ i1 i2 i3 i4 i6 v14 ((gI σ 53 (ix v14)) + (1 : Int32)) i4 hX
set_option maxRecDepth 4000 in
theorem wM_findOne {E : Ev} {z : St} (σ : St) (i1 : Int32) (i2 : Int32) (i3 : Int32) (hX : fM_findOne σ i1 i2 i3 = some z) : V E mM_findOne (FM E (none, z)) 0 [(0, .ref 44), (1, .int i1), (2, .int i2), (3, .int i3)] [] σ := by
  unfold fM_findOne at hX
  refine V.sipush (128 : Int32) dM_findOne_0 ls128 rfl ?_
  refine V.iloadn 2 dM_findOne_3 rfl rfl ?_
  refine V.imul dM_findOne_4 rfl ?_
  refine V.iloadn 3 dM_findOne_5 rfl rfl ?_
  refine V.iadd dM_findOne_6 rfl ?_
  refine V.istore _ dM_findOne_7 (by decide) rfl rfl ?_
  replace hX := nmx hX; generalize ((128 : Int32) * i2) + i3 = v1 at hX ⊢; try dsimp only at hX
  refine V.iloadn 4 dM_findOne_9 rfl rfl ?_
  refine V.aloadn 1 dM_findOne_10 rfl rfl ?_
  refine V.callvi 44 [] dM_findOne_11 (kM_everybody (σ := σ)) mlM_232 myM_everybody mnM_everybody ⟨rfl, rfl, by decide, by decide⟩ (rfl : kd 44 = (6, 0)) (by decide) rfl (Nat.le_of_ble_eq_true rfl) ⟨Nat.zero_le _, Nat.zero_le _⟩ rfl ?_
  have JJ : V E mM_findOne (FM E (none, z)) 22 [(4, .int v1), (0, .ref 44), (1, .int i1), (2, .int i2), (3, .int i3)] [.int (if i3 = (fM_everybody σ) then (1 : Int32) else (0 : Int32))] σ := by
    refine V.istore _ dM_findOne_22 (by decide) rfl rfl ?_
    replace hX := nmx hX; generalize (if i3 = (fM_everybody σ) then (1 : Int32) else (0 : Int32)) = v2 at hX ⊢; try dsimp only at hX
    refine V.aloadn 2 dM_findOne_24 rfl rfl ?_
    refine V.getr 44 53 dM_findOne_25 flM_38 (rfl : kd 44 = (6, 0)) rfl rfl ?_
    refine V.iload 1 dM_findOne_28 rfl rfl ?_
    refine V.iconst (0 : Int32) dM_findOne_30 lc0 rfl ?_
    obtain ⟨h3, hX⟩ := ob hX
    refine V.iast 53 dM_findOne_31 (rfl : kd 53 = (7, 896)) h3 rfl ?_
    replace hX := nmx hX; generalize sI σ 53 (ix v1) (0 : Int32) = σ4 at hX ⊢; try dsimp only at hX
    refine V.aloadn 2 dM_findOne_32 rfl rfl ?_
    refine V.getr 44 54 dM_findOne_33 flM_41 (rfl : kd 44 = (6, 0)) rfl rfl ?_
    refine V.iload 1 dM_findOne_36 rfl rfl ?_
    refine V.iload 0 dM_findOne_38 rfl rfl ?_
    have JJ : V E mM_findOne (FM E (none, z)) 48 [(5, .int v2), (4, .int v1), (0, .ref 44), (1, .int i1), (2, .int i2), (3, .int i3)] [.int (if v2 = 0 then (0 : Int32) else (1 : Int32)), .int v1, .ref 54] σ4 := by
      obtain ⟨h5, hX⟩ := ob hX
      refine V.iast 54 dM_findOne_48 (rfl : kd 54 = (7, 896)) h5 rfl ?_
      replace hX := nmx hX; generalize sI σ4 54 (ix v1) (if v2 = 0 then (0 : Int32) else (1 : Int32)) = σ6 at hX ⊢; try dsimp only at hX
      refine V.aloadn 2 dM_findOne_49 rfl rfl ?_
      refine V.getr 44 55 dM_findOne_50 flM_44 (rfl : kd 44 = (6, 0)) rfl rfl ?_
      refine V.iload 1 dM_findOne_53 rfl rfl ?_
      refine V.iload 0 dM_findOne_55 rfl rfl ?_
      have JJ : V E mM_findOne (FM E (none, z)) 67 [(5, .int v2), (4, .int v1), (0, .ref 44), (1, .int i1), (2, .int i2), (3, .int i3)] [.int (if v2 = 0 then (0 : Int32) else (1 : Int32) <<< (i2 &&& 31)), .int v1, .ref 55] σ6 := by
        obtain ⟨h7, hX⟩ := ob hX
        refine V.iast 55 dM_findOne_67 (rfl : kd 55 = (7, 896)) h7 rfl ?_
        replace hX := nmx hX; generalize sI σ6 55 (ix v1) (if v2 = 0 then (0 : Int32) else (1 : Int32) <<< (i2 &&& 31)) = σ8 at hX ⊢; try dsimp only at hX
        refine V.iconst (0 : Int32) dM_findOne_68 lc0 rfl ?_
        refine V.istore _ dM_findOne_69 (by decide) rfl rfl ?_
        refine V.sub [3, 4, 5, 6, 2, 0] rfl ?_
        exact wM_findOne_71 300 σ8 i1 i2 i3 v1 (0 : Int32) hX
      refine V.ifeq 66 dM_findOne_57 rfl rfl (fun g32 => ?_) (fun g32 => ?_)
      · refine V.iconst (0 : Int32) dM_findOne_66 lc0 rfl ?_
        exact V.top (if_pos g32).symm JJ
      · refine V.iconst (1 : Int32) dM_findOne_60 lc1 rfl ?_
        refine V.iloadn 4 dM_findOne_61 rfl rfl ?_
        refine V.ishl dM_findOne_62 rfl ?_
        refine V.goto 67 dM_findOne_63 rfl ?_
        exact V.top (if_neg g32).symm JJ
    refine V.ifeq 47 dM_findOne_40 rfl rfl (fun g33 => ?_) (fun g33 => ?_)
    · refine V.iconst (0 : Int32) dM_findOne_47 lc0 rfl ?_
      exact V.top (if_pos g33).symm JJ
    · refine V.iconst (1 : Int32) dM_findOne_43 lc1 rfl ?_
      refine V.goto 48 dM_findOne_44 rfl ?_
      exact V.top (if_neg g33).symm JJ
  refine V.icmpne 21 dM_findOne_14 rfl rfl (fun g34 => ?_) (fun g34 => ?_)
  · refine V.iconst (0 : Int32) dM_findOne_21 lc0 rfl ?_
    exact V.top (if_neg g34).symm JJ
  · refine V.iconst (1 : Int32) dM_findOne_17 lc1 rfl ?_
    refine V.goto 22 dM_findOne_18 rfl ?_
    exact V.top (if_pos g34).symm JJ
theorem kM_findOne {E : Ev} {σ z : St} {i1 : Int32} {i2 : Int32} {i3 : Int32} (h : fM_findOne σ i1 i2 i3 = some z) : Ct mM_findOne E [.ref 44, .int i1, .int i2, .int i3] σ (none, z) := Ct.of (by decide) (Nat.le_of_ble_eq_true rfl) (wM_findOne σ i1 i2 i3 h)
theorem dM_findAll_0 : decode mM_findAll.1 0 = .ok (.aload_n 0, 1) := by decide +kernel
theorem dM_findAll_1 : decode mM_findAll.1 1 = .ok (.invokevirtual 232, 3) := by decide +kernel
theorem dM_findAll_4 : decode mM_findAll.1 4 = .ok (.istore_n 2, 1) := by decide +kernel
theorem dM_findAll_5 : decode mM_findAll.1 5 = .ok (.iload_n 2, 1) := by decide +kernel
theorem dM_findAll_6 : decode mM_findAll.1 6 = .ok (.ifCond .le 40, 3) := by decide +kernel
theorem dM_findAll_9 : decode mM_findAll.1 9 = .ok (.iconst 0, 1) := by decide +kernel
theorem dM_findAll_10 : decode mM_findAll.1 10 = .ok (.istore_n 3, 1) := by decide +kernel
theorem dM_findAll_11 : decode mM_findAll.1 11 = .ok (.iload_n 3, 1) := by decide +kernel
theorem dM_findAll_12 : decode mM_findAll.1 12 = .ok (.aload_n 0, 1) := by decide +kernel
theorem dM_findAll_13 : decode mM_findAll.1 13 = .ok (.getfield 81, 3) := by decide +kernel
theorem dM_findAll_16 : decode mM_findAll.1 16 = .ok (.if_icmp .ge 24, 3) := by decide +kernel
theorem dM_findAll_19 : decode mM_findAll.1 19 = .ok (.iload_n 2, 1) := by decide +kernel
theorem dM_findAll_20 : decode mM_findAll.1 20 = .ok (.iload_n 3, 1) := by decide +kernel
theorem dM_findAll_21 : decode mM_findAll.1 21 = .ok (.invokestatic 196, 3) := by decide +kernel
theorem dM_findAll_24 : decode mM_findAll.1 24 = .ok (.ifCond .eq 10, 3) := by decide +kernel
theorem dM_findAll_27 : decode mM_findAll.1 27 = .ok (.aload_n 0, 1) := by decide +kernel
theorem dM_findAll_28 : decode mM_findAll.1 28 = .ok (.iload_n 1, 1) := by decide +kernel
theorem dM_findAll_29 : decode mM_findAll.1 29 = .ok (.iload_n 3, 1) := by decide +kernel
theorem dM_findAll_30 : decode mM_findAll.1 30 = .ok (.iload_n 2, 1) := by decide +kernel
theorem dM_findAll_31 : decode mM_findAll.1 31 = .ok (.invokevirtual 248, 3) := by decide +kernel
theorem dM_findAll_34 : decode mM_findAll.1 34 = .ok (.iinc 3 1, 3) := by decide +kernel
theorem dM_findAll_37 : decode mM_findAll.1 37 = .ok (.goto (-26), 3) := by decide +kernel
theorem dM_findAll_40 : decode mM_findAll.1 40 = .ok (.iinc 2 (-1), 3) := by decide +kernel
theorem dM_findAll_43 : decode mM_findAll.1 43 = .ok (.goto (-38), 3) := by decide +kernel
theorem dM_findAll_46 : decode mM_findAll.1 46 = .ok (.return_, 1) := by decide +kernel
set_option maxRecDepth 4000 in
theorem wM_findAll_11 {E : Ev} {z : St} : ∀ (fu : Nat) (σ : St) (i1 : Int32) (i2 : Int32) (i3 : Int32) (K0 : St → Int32 → Int32 → Option St) (hK0 : ∀ (σ : St) (i1 : Int32) (i2 : Int32), K0 σ i1 i2 = some z → V E mM_findAll (FM E (none, z)) 40 [(0, .ref 44), (1, .int i1), (2, .int i2)] [] σ), fM_findAll_11 fu σ i1 i2 i3 K0 = some z → V E mM_findAll (FM E (none, z)) 11 [(0, .ref 44), (1, .int i1), (2, .int i2), (3, .int i3)] [] σ := by
  intro fu
  induction fu with
  | zero => intro σ i1 i2 i3 K0 hK0 hX; cases hX
  | succ fu ih =>
    intro σ i1 i2 i3 K0 hK0 hX
    rw [fM_findAll_11] at hX
    refine V.iloadn 3 dM_findAll_11 rfl rfl ?_
    refine V.aloadn 0 dM_findAll_12 rfl rfl ?_
    refine V.geti 44 dM_findAll_13 flM_81 (rfl : kd 44 = (6, 0)) rfl ?_
    refine V.icmpge 40 dM_findAll_16 rfl rfl (fun g3 => ?_) (fun g3 => ?_)
    · replace hX := ip hX g3
      refine V.sub [0, 1, 2] rfl ?_
      exact hK0 σ i1 i2 hX
    · replace hX := im hX g3
      refine V.iloadn 2 dM_findAll_19 rfl rfl ?_
      refine V.iloadn 3 dM_findAll_20 rfl rfl ?_
      refine V.callsi [.int i2, .int i3] dM_findAll_21 (kM_has (σ := σ) i2 i3) mlM_196 myM_has mnM_has ⟨rfl, rfl, by decide, by decide⟩ rfl (Nat.le_of_ble_eq_true rfl) ⟨Nat.zero_le _, Nat.zero_le _⟩ rfl ?_
      refine V.ifeq 34 dM_findAll_24 rfl rfl (fun g4 => ?_) (fun g4 => ?_)
      · replace hX := ip hX g4
        refine V.iinc 3 (1 : Int32) _ dM_findAll_34 rfl lc1 (by decide) rfl rfl ?_
        replace hX := nmx hX; generalize i3 + (1 : Int32) = v5 at hX ⊢; try dsimp only at hX
        refine V.goto 11 dM_findAll_37 rfl ?_
        refine V.sub [1, 2, 3, 0] rfl ?_
        exact ih σ i1 i2 v5 K0 hK0 hX
      · replace hX := im hX g4
        refine V.aloadn 0 dM_findAll_27 rfl rfl ?_
        refine V.iloadn 1 dM_findAll_28 rfl rfl ?_
        refine V.iloadn 3 dM_findAll_29 rfl rfl ?_
        refine V.iloadn 2 dM_findAll_30 rfl rfl ?_
        obtain ⟨σ7, c6, hX⟩ := bd hX; try dsimp only at hX
        refine V.callv0 44 [.int i1, .int i3, .int i2] dM_findAll_31 (kM_findOne c6) mlM_248 myM_findOne mnM_findOne ⟨rfl, rfl, by decide, by decide⟩ (rfl : kd 44 = (6, 0)) (by decide) rfl (Nat.le_of_ble_eq_true rfl) ⟨Nat.zero_le _, Nat.zero_le _⟩ rfl ?_
        refine V.iinc 3 (1 : Int32) _ dM_findAll_34 rfl lc1 (by decide) rfl rfl ?_
        replace hX := nmx hX; generalize i3 + (1 : Int32) = v8 at hX ⊢; try dsimp only at hX
        refine V.goto 11 dM_findAll_37 rfl ?_
        refine V.sub [1, 2, 3, 0] rfl ?_
        exact ih σ7 i1 i2 v8 K0 hK0 hX
set_option maxRecDepth 4000 in
theorem wM_findAll_5 {E : Ev} {z : St} : ∀ (fu : Nat) (σ : St) (i1 : Int32) (i2 : Int32), fM_findAll_5 fu σ i1 i2 = some z → V E mM_findAll (FM E (none, z)) 5 [(0, .ref 44), (1, .int i1), (2, .int i2)] [] σ := by
  intro fu
  induction fu with
  | zero => intro σ i1 i2 hX; cases hX
  | succ fu ih =>
    intro σ i1 i2 hX
    rw [fM_findAll_5] at hX
    refine V.iloadn 2 dM_findAll_5 rfl rfl ?_
    refine V.ifle 46 dM_findAll_6 rfl rfl (fun g2 => ?_) (fun g2 => ?_)
    · replace hX := ip hX g2
      have hX := (Option.some.inj hX).symm; subst hX; exact V.vret dM_findAll_46 rfl rfl
    · replace hX := im hX g2
      refine V.iconst (0 : Int32) dM_findAll_9 lc0 rfl ?_
      refine V.istoren _ dM_findAll_10 (by decide) rfl rfl ?_
      refine V.sub [1, 2, 3, 0] rfl ?_
      refine wM_findAll_11 300 σ i1 i2 (0 : Int32) _ ?_ hX
      · intro σ9 y10 y11 hX; try dsimp only at hX
        refine V.iinc 2 (-1 : Int32) _ dM_findAll_40 rfl lcm1 (by decide) rfl rfl ?_
        replace hX := nmx hX; generalize y11 + (-1 : Int32) = v12 at hX ⊢; try dsimp only at hX
        refine V.goto 5 dM_findAll_43 rfl ?_
        refine V.sub [1, 2, 0] rfl ?_
        exact ih σ9 y10 v12 hX
set_option maxRecDepth 4000 in
theorem wM_findAll {E : Ev} {z : St} (σ : St) (i1 : Int32) (hX : fM_findAll σ i1 = some z) : V E mM_findAll (FM E (none, z)) 0 [(0, .ref 44), (1, .int i1)] [] σ := by
  unfold fM_findAll at hX
  refine V.aloadn 0 dM_findAll_0 rfl rfl ?_
  refine V.callvi 44 [] dM_findAll_1 (kM_everybody (σ := σ)) mlM_232 myM_everybody mnM_everybody ⟨rfl, rfl, by decide, by decide⟩ (rfl : kd 44 = (6, 0)) (by decide) rfl (Nat.le_of_ble_eq_true rfl) ⟨Nat.zero_le _, Nat.zero_le _⟩ rfl ?_
  refine V.istoren _ dM_findAll_4 (by decide) rfl rfl ?_
  replace hX := nmx hX; generalize fM_everybody σ = v1 at hX ⊢; try dsimp only at hX
  refine V.sub [1, 2, 0] rfl ?_
  exact wM_findAll_5 300 σ i1 v1 hX
theorem kM_findAll {E : Ev} {σ z : St} {i1 : Int32} (h : fM_findAll σ i1 = some z) : Ct mM_findAll E [.ref 44, .int i1] σ (none, z) := Ct.of (by decide) (Nat.le_of_ble_eq_true rfl) (wM_findAll σ i1 h)
theorem dM_placeOf_0 : decode mM_placeOf.1 0 = .ok (.sipush 128, 3) := by decide +kernel
theorem dM_placeOf_3 : decode mM_placeOf.1 3 = .ok (.aload_n 0, 1) := by decide +kernel
theorem dM_placeOf_4 : decode mM_placeOf.1 4 = .ok (.iload_n 1, 1) := by decide +kernel
theorem dM_placeOf_5 : decode mM_placeOf.1 5 = .ok (.iconst 2, 1) := by decide +kernel
theorem dM_placeOf_6 : decode mM_placeOf.1 6 = .ok (.invokevirtual 193, 3) := by decide +kernel
theorem dM_placeOf_9 : decode mM_placeOf.1 9 = .ok (.imul, 1) := by decide +kernel
theorem dM_placeOf_10 : decode mM_placeOf.1 10 = .ok (.aload_n 0, 1) := by decide +kernel
theorem dM_placeOf_11 : decode mM_placeOf.1 11 = .ok (.iload_n 1, 1) := by decide +kernel
theorem dM_placeOf_12 : decode mM_placeOf.1 12 = .ok (.iconst 3, 1) := by decide +kernel
theorem dM_placeOf_13 : decode mM_placeOf.1 13 = .ok (.invokevirtual 193, 3) := by decide +kernel
theorem dM_placeOf_16 : decode mM_placeOf.1 16 = .ok (.iadd, 1) := by decide +kernel
theorem dM_placeOf_17 : decode mM_placeOf.1 17 = .ok (.ireturn, 1) := by decide +kernel
set_option maxRecDepth 4000 in
theorem wM_placeOf {E : Ev} {z : Int32} (σ : St) (i1 : Int32) (hX : fM_placeOf σ i1 = some z) : V E mM_placeOf (FM E (some (.int z), σ)) 0 [(0, .ref 44), (1, .int i1)] [] σ := by
  unfold fM_placeOf at hX
  refine V.sipush (128 : Int32) dM_placeOf_0 ls128 rfl ?_
  refine V.aloadn 0 dM_placeOf_3 rfl rfl ?_
  refine V.iloadn 1 dM_placeOf_4 rfl rfl ?_
  refine V.iconst (2 : Int32) dM_placeOf_5 lc2 rfl ?_
  obtain ⟨q1, c2, hX⟩ := bd hX; try dsimp only at hX
  refine V.callvi 44 [.int i1, .int (2 : Int32)] dM_placeOf_6 (kM_its c2) mlM_193 myM_its mnM_its ⟨rfl, rfl, by decide, by decide⟩ (rfl : kd 44 = (6, 0)) (by decide) rfl (Nat.le_of_ble_eq_true rfl) ⟨Nat.zero_le _, Nat.zero_le _⟩ rfl ?_
  refine V.imul dM_placeOf_9 rfl ?_
  refine V.aloadn 0 dM_placeOf_10 rfl rfl ?_
  refine V.iloadn 1 dM_placeOf_11 rfl rfl ?_
  refine V.iconst (3 : Int32) dM_placeOf_12 lc3 rfl ?_
  obtain ⟨q3, c4, hX⟩ := bd hX; try dsimp only at hX
  refine V.callvi 44 [.int i1, .int (3 : Int32)] dM_placeOf_13 (kM_its c4) mlM_193 myM_its mnM_its ⟨rfl, rfl, by decide, by decide⟩ (rfl : kd 44 = (6, 0)) (by decide) rfl (Nat.le_of_ble_eq_true rfl) ⟨Nat.zero_le _, Nat.zero_le _⟩ rfl ?_
  refine V.iadd dM_placeOf_16 rfl ?_
  have hX := (Option.some.inj hX).symm; subst hX; exact V.iret dM_placeOf_17 rfl rfl
theorem kM_placeOf {E : Ev} {σ : St} {i1 : Int32} {z : Int32} (h : fM_placeOf σ i1 = some z) : Ct mM_placeOf E [.ref 44, .int i1] σ (some (.int z), σ) := Ct.of (by decide) (Nat.le_of_ble_eq_true rfl) (wM_placeOf σ i1 h)
theorem dM_leftOf_0 : decode mM_leftOf.1 0 = .ok (.aload_n 0, 1) := by decide +kernel
theorem dM_leftOf_1 : decode mM_leftOf.1 1 = .ok (.aload_n 0, 1) := by decide +kernel
theorem dM_leftOf_2 : decode mM_leftOf.1 2 = .ok (.iload_n 1, 1) := by decide +kernel
theorem dM_leftOf_3 : decode mM_leftOf.1 3 = .ok (.iconst 0, 1) := by decide +kernel
theorem dM_leftOf_4 : decode mM_leftOf.1 4 = .ok (.invokevirtual 193, 3) := by decide +kernel
theorem dM_leftOf_7 : decode mM_leftOf.1 7 = .ok (.invokevirtual 252, 3) := by decide +kernel
theorem dM_leftOf_10 : decode mM_leftOf.1 10 = .ok (.aload_n 0, 1) := by decide +kernel
theorem dM_leftOf_11 : decode mM_leftOf.1 11 = .ok (.getfield 38, 3) := by decide +kernel
theorem dM_leftOf_14 : decode mM_leftOf.1 14 = .ok (.aload_n 0, 1) := by decide +kernel
theorem dM_leftOf_15 : decode mM_leftOf.1 15 = .ok (.iload_n 1, 1) := by decide +kernel
theorem dM_leftOf_16 : decode mM_leftOf.1 16 = .ok (.invokevirtual 255, 3) := by decide +kernel
theorem dM_leftOf_19 : decode mM_leftOf.1 19 = .ok (.iaload, 1) := by decide +kernel
theorem dM_leftOf_20 : decode mM_leftOf.1 20 = .ok (.ireturn, 1) := by decide +kernel
set_option maxRecDepth 4000 in
theorem wM_leftOf {E : Ev} {z : Int32 × St} (σ : St) (i1 : Int32) (hX : fM_leftOf σ i1 = some z) : V E mM_leftOf (FM E (some (.int z.1), z.2)) 0 [(0, .ref 44), (1, .int i1)] [] σ := by
  unfold fM_leftOf at hX
  refine V.aloadn 0 dM_leftOf_0 rfl rfl ?_
  refine V.aloadn 0 dM_leftOf_1 rfl rfl ?_
  refine V.iloadn 1 dM_leftOf_2 rfl rfl ?_
  refine V.iconst (0 : Int32) dM_leftOf_3 lc0 rfl ?_
  obtain ⟨q1, c2, hX⟩ := bd hX; try dsimp only at hX
  refine V.callvi 44 [.int i1, .int (0 : Int32)] dM_leftOf_4 (kM_its c2) mlM_193 myM_its mnM_its ⟨rfl, rfl, by decide, by decide⟩ (rfl : kd 44 = (6, 0)) (by decide) rfl (Nat.le_of_ble_eq_true rfl) ⟨Nat.zero_le _, Nat.zero_le _⟩ rfl ?_
  obtain ⟨σ4, c3, hX⟩ := bd hX; try dsimp only at hX
  refine V.callv0 44 [.int q1] dM_leftOf_7 (kM_findAll c3) mlM_252 myM_findAll mnM_findAll ⟨rfl, rfl, by decide, by decide⟩ (rfl : kd 44 = (6, 0)) (by decide) rfl (Nat.le_of_ble_eq_true rfl) ⟨Nat.zero_le _, Nat.zero_le _⟩ rfl ?_
  refine V.aloadn 0 dM_leftOf_10 rfl rfl ?_
  refine V.getr 44 53 dM_leftOf_11 flM_38 (rfl : kd 44 = (6, 0)) rfl rfl ?_
  refine V.aloadn 0 dM_leftOf_14 rfl rfl ?_
  refine V.iloadn 1 dM_leftOf_15 rfl rfl ?_
  obtain ⟨q5, c6, hX⟩ := bd hX; try dsimp only at hX
  refine V.callvi 44 [.int i1] dM_leftOf_16 (kM_placeOf c6) mlM_255 myM_placeOf mnM_placeOf ⟨rfl, rfl, by decide, by decide⟩ (rfl : kd 44 = (6, 0)) (by decide) rfl (Nat.le_of_ble_eq_true rfl) ⟨Nat.zero_le _, Nat.zero_le _⟩ rfl ?_
  obtain ⟨h7, hX⟩ := ob hX
  refine V.iald 53 dM_leftOf_19 (rfl : kd 53 = (7, 896)) h7 rfl ?_
  have hX := (Option.some.inj hX).symm; subst hX; exact V.iret dM_leftOf_20 rfl rfl
theorem kM_leftOf {E : Ev} {σ σ2 : St} {i1 : Int32} {z : Int32} (h : fM_leftOf σ i1 = some (z, σ2)) : Ct mM_leftOf E [.ref 44, .int i1] σ (some (.int z), σ2) := Ct.of (by decide) (Nat.le_of_ble_eq_true rfl) (wM_leftOf σ i1 h)
theorem dM_left_0 : decode mM_left.1 0 = .ok (.aload_n 0, 1) := by decide +kernel
theorem dM_left_1 : decode mM_left.1 1 = .ok (.iload_n 1, 1) := by decide +kernel
theorem dM_left_2 : decode mM_left.1 2 = .ok (.invokevirtual 223, 3) := by decide +kernel
theorem dM_left_5 : decode mM_left.1 5 = .ok (.ifCond .eq 11, 3) := by decide +kernel
theorem dM_left_8 : decode mM_left.1 8 = .ok (.aload_n 0, 1) := by decide +kernel
theorem dM_left_9 : decode mM_left.1 9 = .ok (.iload_n 1, 1) := by decide +kernel
theorem dM_left_10 : decode mM_left.1 10 = .ok (.invokevirtual 258, 3) := by decide +kernel
theorem dM_left_13 : decode mM_left.1 13 = .ok (.goto 4, 3) := by decide +kernel
theorem dM_left_16 : decode mM_left.1 16 = .ok (.iconst (-1), 1) := by decide +kernel
theorem dM_left_17 : decode mM_left.1 17 = .ok (.ireturn, 1) := by decide +kernel
set_option maxRecDepth 4000 in
theorem wM_left {E : Ev} {z : Int32 × St} (σ : St) (i1 : Int32) (hX : fM_left σ i1 = some z) : V E mM_left (FM E (some (.int z.1), z.2)) 0 [(0, .ref 44), (1, .int i1)] [] σ := by
  unfold fM_left at hX
  refine V.aloadn 0 dM_left_0 rfl rfl ?_
  refine V.iloadn 1 dM_left_1 rfl rfl ?_
  refine V.callvi 44 [.int i1] dM_left_2 (kM_isCoin (σ := σ) i1) mlM_223 myM_isCoin mnM_isCoin ⟨rfl, rfl, by decide, by decide⟩ (rfl : kd 44 = (6, 0)) (by decide) rfl (Nat.le_of_ble_eq_true rfl) ⟨Nat.zero_le _, Nat.zero_le _⟩ rfl ?_
  refine V.ifeq 16 dM_left_5 rfl rfl (fun g1 => ?_) (fun g1 => ?_)
  · replace hX := ip hX g1
    refine V.iconst (-1 : Int32) dM_left_16 lcm1 rfl ?_
    have hX := (Option.some.inj hX).symm; subst hX; exact V.iret dM_left_17 rfl rfl
  · replace hX := im hX g1
    refine V.aloadn 0 dM_left_8 rfl rfl ?_
    refine V.iloadn 1 dM_left_9 rfl rfl ?_
    obtain ⟨q3, σ3, c2, hX⟩ := bi2 hX; try dsimp only at hX
    refine V.callvi 44 [.int i1] dM_left_10 (kM_leftOf c2) mlM_258 myM_leftOf mnM_leftOf ⟨rfl, rfl, by decide, by decide⟩ (rfl : kd 44 = (6, 0)) (by decide) rfl (Nat.le_of_ble_eq_true rfl) ⟨Nat.zero_le _, Nat.zero_le _⟩ rfl ?_
    refine V.goto 17 dM_left_13 rfl ?_
    have hX := (Option.some.inj hX).symm; subst hX; exact V.iret dM_left_17 rfl rfl
theorem kM_left {E : Ev} {σ σ2 : St} {i1 : Int32} {z : Int32} (h : fM_left σ i1 = some (z, σ2)) : Ct mM_left E [.ref 44, .int i1] σ (some (.int z), σ2) := Ct.of (by decide) (Nat.le_of_ble_eq_true rfl) (wM_left σ i1 h)
theorem dM_through_0 : decode mM_through.1 0 = .ok (.aload_n 0, 1) := by decide +kernel
theorem dM_through_1 : decode mM_through.1 1 = .ok (.iload_n 1, 1) := by decide +kernel
theorem dM_through_2 : decode mM_through.1 2 = .ok (.invokevirtual 223, 3) := by decide +kernel
theorem dM_through_5 : decode mM_through.1 5 = .ok (.ifCond .ne 5, 3) := by decide +kernel
theorem dM_through_8 : decode mM_through.1 8 = .ok (.iconst (-1), 1) := by decide +kernel
theorem dM_through_9 : decode mM_through.1 9 = .ok (.ireturn, 1) := by decide +kernel
theorem dM_through_10 : decode mM_through.1 10 = .ok (.aload_n 0, 1) := by decide +kernel
theorem dM_through_11 : decode mM_through.1 11 = .ok (.aload_n 0, 1) := by decide +kernel
theorem dM_through_12 : decode mM_through.1 12 = .ok (.iload_n 1, 1) := by decide +kernel
theorem dM_through_13 : decode mM_through.1 13 = .ok (.iconst 0, 1) := by decide +kernel
theorem dM_through_14 : decode mM_through.1 14 = .ok (.invokevirtual 193, 3) := by decide +kernel
theorem dM_through_17 : decode mM_through.1 17 = .ok (.invokevirtual 252, 3) := by decide +kernel
theorem dM_through_20 : decode mM_through.1 20 = .ok (.aload_n 0, 1) := by decide +kernel
theorem dM_through_21 : decode mM_through.1 21 = .ok (.getfield 41, 3) := by decide +kernel
theorem dM_through_24 : decode mM_through.1 24 = .ok (.aload_n 0, 1) := by decide +kernel
theorem dM_through_25 : decode mM_through.1 25 = .ok (.iload_n 1, 1) := by decide +kernel
theorem dM_through_26 : decode mM_through.1 26 = .ok (.invokevirtual 255, 3) := by decide +kernel
theorem dM_through_29 : decode mM_through.1 29 = .ok (.iaload, 1) := by decide +kernel
theorem dM_through_30 : decode mM_through.1 30 = .ok (.ifCond .le 7, 3) := by decide +kernel
theorem dM_through_33 : decode mM_through.1 33 = .ok (.iconst 1, 1) := by decide +kernel
theorem dM_through_34 : decode mM_through.1 34 = .ok (.goto 4, 3) := by decide +kernel
theorem dM_through_37 : decode mM_through.1 37 = .ok (.iconst 0, 1) := by decide +kernel
theorem dM_through_38 : decode mM_through.1 38 = .ok (.ireturn, 1) := by decide +kernel
set_option maxRecDepth 4000 in
theorem wM_through {E : Ev} {z : Int32 × St} (σ : St) (i1 : Int32) (hX : fM_through σ i1 = some z) : V E mM_through (FM E (some (.int z.1), z.2)) 0 [(0, .ref 44), (1, .int i1)] [] σ := by
  unfold fM_through at hX
  refine V.aloadn 0 dM_through_0 rfl rfl ?_
  refine V.iloadn 1 dM_through_1 rfl rfl ?_
  refine V.callvi 44 [.int i1] dM_through_2 (kM_isCoin (σ := σ) i1) mlM_223 myM_isCoin mnM_isCoin ⟨rfl, rfl, by decide, by decide⟩ (rfl : kd 44 = (6, 0)) (by decide) rfl (Nat.le_of_ble_eq_true rfl) ⟨Nat.zero_le _, Nat.zero_le _⟩ rfl ?_
  refine V.ifne 10 dM_through_5 rfl rfl (fun g1 => ?_) (fun g1 => ?_)
  · replace hX := im hX g1
    refine V.aloadn 0 dM_through_10 rfl rfl ?_
    refine V.aloadn 0 dM_through_11 rfl rfl ?_
    refine V.iloadn 1 dM_through_12 rfl rfl ?_
    refine V.iconst (0 : Int32) dM_through_13 lc0 rfl ?_
    obtain ⟨q2, c3, hX⟩ := bd hX; try dsimp only at hX
    refine V.callvi 44 [.int i1, .int (0 : Int32)] dM_through_14 (kM_its c3) mlM_193 myM_its mnM_its ⟨rfl, rfl, by decide, by decide⟩ (rfl : kd 44 = (6, 0)) (by decide) rfl (Nat.le_of_ble_eq_true rfl) ⟨Nat.zero_le _, Nat.zero_le _⟩ rfl ?_
    obtain ⟨σ5, c4, hX⟩ := bd hX; try dsimp only at hX
    refine V.callv0 44 [.int q2] dM_through_17 (kM_findAll c4) mlM_252 myM_findAll mnM_findAll ⟨rfl, rfl, by decide, by decide⟩ (rfl : kd 44 = (6, 0)) (by decide) rfl (Nat.le_of_ble_eq_true rfl) ⟨Nat.zero_le _, Nat.zero_le _⟩ rfl ?_
    refine V.aloadn 0 dM_through_20 rfl rfl ?_
    refine V.getr 44 54 dM_through_21 flM_41 (rfl : kd 44 = (6, 0)) rfl rfl ?_
    refine V.aloadn 0 dM_through_24 rfl rfl ?_
    refine V.iloadn 1 dM_through_25 rfl rfl ?_
    obtain ⟨q6, c7, hX⟩ := bd hX; try dsimp only at hX
    refine V.callvi 44 [.int i1] dM_through_26 (kM_placeOf c7) mlM_255 myM_placeOf mnM_placeOf ⟨rfl, rfl, by decide, by decide⟩ (rfl : kd 44 = (6, 0)) (by decide) rfl (Nat.le_of_ble_eq_true rfl) ⟨Nat.zero_le _, Nat.zero_le _⟩ rfl ?_
    obtain ⟨h8, hX⟩ := ob hX
    refine V.iald 54 dM_through_29 (rfl : kd 54 = (7, 896)) h8 rfl ?_
    have JJ : V E mM_through (FM E (some (.int z.1), z.2)) 38 [(0, .ref 44), (1, .int i1)] [.int (if (gI σ5 54 (ix q6)) ≤ 0 then (0 : Int32) else (1 : Int32))] σ5 := by
      have hX := (Option.some.inj hX).symm; subst hX; exact V.iret dM_through_38 rfl rfl
    refine V.ifle 37 dM_through_30 rfl rfl (fun g9 => ?_) (fun g9 => ?_)
    · refine V.iconst (0 : Int32) dM_through_37 lc0 rfl ?_
      exact V.top (if_pos g9).symm JJ
    · refine V.iconst (1 : Int32) dM_through_33 lc1 rfl ?_
      refine V.goto 38 dM_through_34 rfl ?_
      exact V.top (if_neg g9).symm JJ
  · replace hX := ip hX g1
    refine V.iconst (-1 : Int32) dM_through_8 lcm1 rfl ?_
    have hX := (Option.some.inj hX).symm; subst hX; exact V.iret dM_through_9 rfl rfl
theorem kM_through {E : Ev} {σ σ2 : St} {i1 : Int32} {z : Int32} (h : fM_through σ i1 = some (z, σ2)) : Ct mM_through E [.ref 44, .int i1] σ (some (.int z), σ2) := Ct.of (by decide) (Nat.le_of_ble_eq_true rfl) (wM_through σ i1 h)
theorem dM_ways_0 : decode mM_ways.1 0 = .ok (.aload_n 0, 1) := by decide +kernel
theorem dM_ways_1 : decode mM_ways.1 1 = .ok (.iload_n 1, 1) := by decide +kernel
theorem dM_ways_2 : decode mM_ways.1 2 = .ok (.invokevirtual 223, 3) := by decide +kernel
theorem dM_ways_5 : decode mM_ways.1 5 = .ok (.ifCond .ne 5, 3) := by decide +kernel
theorem dM_ways_8 : decode mM_ways.1 8 = .ok (.iconst (-1), 1) := by decide +kernel
theorem dM_ways_9 : decode mM_ways.1 9 = .ok (.ireturn, 1) := by decide +kernel
theorem dM_ways_10 : decode mM_ways.1 10 = .ok (.aload_n 0, 1) := by decide +kernel
theorem dM_ways_11 : decode mM_ways.1 11 = .ok (.aload_n 0, 1) := by decide +kernel
theorem dM_ways_12 : decode mM_ways.1 12 = .ok (.iload_n 1, 1) := by decide +kernel
theorem dM_ways_13 : decode mM_ways.1 13 = .ok (.iconst 0, 1) := by decide +kernel
theorem dM_ways_14 : decode mM_ways.1 14 = .ok (.invokevirtual 193, 3) := by decide +kernel
theorem dM_ways_17 : decode mM_ways.1 17 = .ok (.invokevirtual 252, 3) := by decide +kernel
theorem dM_ways_20 : decode mM_ways.1 20 = .ok (.aload_n 0, 1) := by decide +kernel
theorem dM_ways_21 : decode mM_ways.1 21 = .ok (.getfield 41, 3) := by decide +kernel
theorem dM_ways_24 : decode mM_ways.1 24 = .ok (.aload_n 0, 1) := by decide +kernel
theorem dM_ways_25 : decode mM_ways.1 25 = .ok (.iload_n 1, 1) := by decide +kernel
theorem dM_ways_26 : decode mM_ways.1 26 = .ok (.invokevirtual 255, 3) := by decide +kernel
theorem dM_ways_29 : decode mM_ways.1 29 = .ok (.iaload, 1) := by decide +kernel
theorem dM_ways_30 : decode mM_ways.1 30 = .ok (.ireturn, 1) := by decide +kernel
set_option maxRecDepth 4000 in
theorem wM_ways {E : Ev} {z : Int32 × St} (σ : St) (i1 : Int32) (hX : fM_ways σ i1 = some z) : V E mM_ways (FM E (some (.int z.1), z.2)) 0 [(0, .ref 44), (1, .int i1)] [] σ := by
  unfold fM_ways at hX
  refine V.aloadn 0 dM_ways_0 rfl rfl ?_
  refine V.iloadn 1 dM_ways_1 rfl rfl ?_
  refine V.callvi 44 [.int i1] dM_ways_2 (kM_isCoin (σ := σ) i1) mlM_223 myM_isCoin mnM_isCoin ⟨rfl, rfl, by decide, by decide⟩ (rfl : kd 44 = (6, 0)) (by decide) rfl (Nat.le_of_ble_eq_true rfl) ⟨Nat.zero_le _, Nat.zero_le _⟩ rfl ?_
  refine V.ifne 10 dM_ways_5 rfl rfl (fun g1 => ?_) (fun g1 => ?_)
  · replace hX := im hX g1
    refine V.aloadn 0 dM_ways_10 rfl rfl ?_
    refine V.aloadn 0 dM_ways_11 rfl rfl ?_
    refine V.iloadn 1 dM_ways_12 rfl rfl ?_
    refine V.iconst (0 : Int32) dM_ways_13 lc0 rfl ?_
    obtain ⟨q2, c3, hX⟩ := bd hX; try dsimp only at hX
    refine V.callvi 44 [.int i1, .int (0 : Int32)] dM_ways_14 (kM_its c3) mlM_193 myM_its mnM_its ⟨rfl, rfl, by decide, by decide⟩ (rfl : kd 44 = (6, 0)) (by decide) rfl (Nat.le_of_ble_eq_true rfl) ⟨Nat.zero_le _, Nat.zero_le _⟩ rfl ?_
    obtain ⟨σ5, c4, hX⟩ := bd hX; try dsimp only at hX
    refine V.callv0 44 [.int q2] dM_ways_17 (kM_findAll c4) mlM_252 myM_findAll mnM_findAll ⟨rfl, rfl, by decide, by decide⟩ (rfl : kd 44 = (6, 0)) (by decide) rfl (Nat.le_of_ble_eq_true rfl) ⟨Nat.zero_le _, Nat.zero_le _⟩ rfl ?_
    refine V.aloadn 0 dM_ways_20 rfl rfl ?_
    refine V.getr 44 54 dM_ways_21 flM_41 (rfl : kd 44 = (6, 0)) rfl rfl ?_
    refine V.aloadn 0 dM_ways_24 rfl rfl ?_
    refine V.iloadn 1 dM_ways_25 rfl rfl ?_
    obtain ⟨q6, c7, hX⟩ := bd hX; try dsimp only at hX
    refine V.callvi 44 [.int i1] dM_ways_26 (kM_placeOf c7) mlM_255 myM_placeOf mnM_placeOf ⟨rfl, rfl, by decide, by decide⟩ (rfl : kd 44 = (6, 0)) (by decide) rfl (Nat.le_of_ble_eq_true rfl) ⟨Nat.zero_le _, Nat.zero_le _⟩ rfl ?_
    obtain ⟨h8, hX⟩ := ob hX
    refine V.iald 54 dM_ways_29 (rfl : kd 54 = (7, 896)) h8 rfl ?_
    have hX := (Option.some.inj hX).symm; subst hX; exact V.iret dM_ways_30 rfl rfl
  · replace hX := ip hX g1
    refine V.iconst (-1 : Int32) dM_ways_8 lcm1 rfl ?_
    have hX := (Option.some.inj hX).symm; subst hX; exact V.iret dM_ways_9 rfl rfl
theorem kM_ways {E : Ev} {σ σ2 : St} {i1 : Int32} {z : Int32} (h : fM_ways σ i1 = some (z, σ2)) : Ct mM_ways E [.ref 44, .int i1] σ (some (.int z), σ2) := Ct.of (by decide) (Nat.le_of_ble_eq_true rfl) (wM_ways σ i1 h)
theorem dM_last_0 : decode mM_last.1 0 = .ok (.aload_n 0, 1) := by decide +kernel
theorem dM_last_1 : decode mM_last.1 1 = .ok (.iload_n 1, 1) := by decide +kernel
theorem dM_last_2 : decode mM_last.1 2 = .ok (.invokevirtual 223, 3) := by decide +kernel
theorem dM_last_5 : decode mM_last.1 5 = .ok (.ifCond .ne 5, 3) := by decide +kernel
theorem dM_last_8 : decode mM_last.1 8 = .ok (.iconst (-1), 1) := by decide +kernel
theorem dM_last_9 : decode mM_last.1 9 = .ok (.ireturn, 1) := by decide +kernel
theorem dM_last_10 : decode mM_last.1 10 = .ok (.aload_n 0, 1) := by decide +kernel
theorem dM_last_11 : decode mM_last.1 11 = .ok (.aload_n 0, 1) := by decide +kernel
theorem dM_last_12 : decode mM_last.1 12 = .ok (.iload_n 1, 1) := by decide +kernel
theorem dM_last_13 : decode mM_last.1 13 = .ok (.iconst 0, 1) := by decide +kernel
theorem dM_last_14 : decode mM_last.1 14 = .ok (.invokevirtual 193, 3) := by decide +kernel
theorem dM_last_17 : decode mM_last.1 17 = .ok (.invokevirtual 252, 3) := by decide +kernel
theorem dM_last_20 : decode mM_last.1 20 = .ok (.aload_n 0, 1) := by decide +kernel
theorem dM_last_21 : decode mM_last.1 21 = .ok (.getfield 44, 3) := by decide +kernel
theorem dM_last_24 : decode mM_last.1 24 = .ok (.aload_n 0, 1) := by decide +kernel
theorem dM_last_25 : decode mM_last.1 25 = .ok (.iload_n 1, 1) := by decide +kernel
theorem dM_last_26 : decode mM_last.1 26 = .ok (.invokevirtual 255, 3) := by decide +kernel
theorem dM_last_29 : decode mM_last.1 29 = .ok (.iaload, 1) := by decide +kernel
theorem dM_last_30 : decode mM_last.1 30 = .ok (.ireturn, 1) := by decide +kernel
set_option maxRecDepth 4000 in
theorem wM_last {E : Ev} {z : Int32 × St} (σ : St) (i1 : Int32) (hX : fM_last σ i1 = some z) : V E mM_last (FM E (some (.int z.1), z.2)) 0 [(0, .ref 44), (1, .int i1)] [] σ := by
  unfold fM_last at hX
  refine V.aloadn 0 dM_last_0 rfl rfl ?_
  refine V.iloadn 1 dM_last_1 rfl rfl ?_
  refine V.callvi 44 [.int i1] dM_last_2 (kM_isCoin (σ := σ) i1) mlM_223 myM_isCoin mnM_isCoin ⟨rfl, rfl, by decide, by decide⟩ (rfl : kd 44 = (6, 0)) (by decide) rfl (Nat.le_of_ble_eq_true rfl) ⟨Nat.zero_le _, Nat.zero_le _⟩ rfl ?_
  refine V.ifne 10 dM_last_5 rfl rfl (fun g1 => ?_) (fun g1 => ?_)
  · replace hX := im hX g1
    refine V.aloadn 0 dM_last_10 rfl rfl ?_
    refine V.aloadn 0 dM_last_11 rfl rfl ?_
    refine V.iloadn 1 dM_last_12 rfl rfl ?_
    refine V.iconst (0 : Int32) dM_last_13 lc0 rfl ?_
    obtain ⟨q2, c3, hX⟩ := bd hX; try dsimp only at hX
    refine V.callvi 44 [.int i1, .int (0 : Int32)] dM_last_14 (kM_its c3) mlM_193 myM_its mnM_its ⟨rfl, rfl, by decide, by decide⟩ (rfl : kd 44 = (6, 0)) (by decide) rfl (Nat.le_of_ble_eq_true rfl) ⟨Nat.zero_le _, Nat.zero_le _⟩ rfl ?_
    obtain ⟨σ5, c4, hX⟩ := bd hX; try dsimp only at hX
    refine V.callv0 44 [.int q2] dM_last_17 (kM_findAll c4) mlM_252 myM_findAll mnM_findAll ⟨rfl, rfl, by decide, by decide⟩ (rfl : kd 44 = (6, 0)) (by decide) rfl (Nat.le_of_ble_eq_true rfl) ⟨Nat.zero_le _, Nat.zero_le _⟩ rfl ?_
    refine V.aloadn 0 dM_last_20 rfl rfl ?_
    refine V.getr 44 55 dM_last_21 flM_44 (rfl : kd 44 = (6, 0)) rfl rfl ?_
    refine V.aloadn 0 dM_last_24 rfl rfl ?_
    refine V.iloadn 1 dM_last_25 rfl rfl ?_
    obtain ⟨q6, c7, hX⟩ := bd hX; try dsimp only at hX
    refine V.callvi 44 [.int i1] dM_last_26 (kM_placeOf c7) mlM_255 myM_placeOf mnM_placeOf ⟨rfl, rfl, by decide, by decide⟩ (rfl : kd 44 = (6, 0)) (by decide) rfl (Nat.le_of_ble_eq_true rfl) ⟨Nat.zero_le _, Nat.zero_le _⟩ rfl ?_
    obtain ⟨h8, hX⟩ := ob hX
    refine V.iald 55 dM_last_29 (rfl : kd 55 = (7, 896)) h8 rfl ?_
    have hX := (Option.some.inj hX).symm; subst hX; exact V.iret dM_last_30 rfl rfl
  · replace hX := ip hX g1
    refine V.iconst (-1 : Int32) dM_last_8 lcm1 rfl ?_
    have hX := (Option.some.inj hX).symm; subst hX; exact V.iret dM_last_9 rfl rfl
theorem kM_last {E : Ev} {σ σ2 : St} {i1 : Int32} {z : Int32} (h : fM_last σ i1 = some (z, σ2)) : Ct mM_last E [.ref 44, .int i1] σ (some (.int z), σ2) := Ct.of (by decide) (Nat.le_of_ble_eq_true rfl) (wM_last σ i1 h)
theorem dM_findRow_0 : decode mM_findRow.1 0 = .ok (.aload_n 0, 1) := by decide +kernel
theorem dM_findRow_1 : decode mM_findRow.1 1 = .ok (.iload_n 1, 1) := by decide +kernel
theorem dM_findRow_2 : decode mM_findRow.1 2 = .ok (.invokevirtual 258, 3) := by decide +kernel
theorem dM_findRow_5 : decode mM_findRow.1 5 = .ok (.istore_n 2, 1) := by decide +kernel
theorem dM_findRow_6 : decode mM_findRow.1 6 = .ok (.aload_n 0, 1) := by decide +kernel
theorem dM_findRow_7 : decode mM_findRow.1 7 = .ok (.iload_n 1, 1) := by decide +kernel
theorem dM_findRow_8 : decode mM_findRow.1 8 = .ok (.iconst 2, 1) := by decide +kernel
theorem dM_findRow_9 : decode mM_findRow.1 9 = .ok (.invokevirtual 193, 3) := by decide +kernel
theorem dM_findRow_12 : decode mM_findRow.1 12 = .ok (.istore_n 3, 1) := by decide +kernel
theorem dM_findRow_13 : decode mM_findRow.1 13 = .ok (.aload_n 0, 1) := by decide +kernel
theorem dM_findRow_14 : decode mM_findRow.1 14 = .ok (.iload_n 1, 1) := by decide +kernel
theorem dM_findRow_15 : decode mM_findRow.1 15 = .ok (.iconst 3, 1) := by decide +kernel
theorem dM_findRow_16 : decode mM_findRow.1 16 = .ok (.invokevirtual 193, 3) := by decide +kernel
theorem dM_findRow_19 : decode mM_findRow.1 19 = .ok (.istore 4, 2) := by decide +kernel
theorem dM_findRow_21 : decode mM_findRow.1 21 = .ok (.aload_n 0, 1) := by decide +kernel
theorem dM_findRow_22 : decode mM_findRow.1 22 = .ok (.iconst 0, 1) := by decide +kernel
theorem dM_findRow_23 : decode mM_findRow.1 23 = .ok (.putfield 261, 3) := by decide +kernel
theorem dM_findRow_26 : decode mM_findRow.1 26 = .ok (.iload_n 2, 1) := by decide +kernel
theorem dM_findRow_27 : decode mM_findRow.1 27 = .ok (.ifCond .le 122, 3) := by decide +kernel
theorem dM_findRow_30 : decode mM_findRow.1 30 = .ok (.iinc 2 (-1), 3) := by decide +kernel
theorem dM_findRow_33 : decode mM_findRow.1 33 = .ok (.iconst 0, 1) := by decide +kernel
theorem dM_findRow_34 : decode mM_findRow.1 34 = .ok (.istore 5, 2) := by decide +kernel
theorem dM_findRow_36 : decode mM_findRow.1 36 = .ok (.aload_n 0, 1) := by decide +kernel
theorem dM_findRow_37 : decode mM_findRow.1 37 = .ok (.aload_n 0, 1) := by decide +kernel
theorem dM_findRow_38 : decode mM_findRow.1 38 = .ok (.iload_n 1, 1) := by decide +kernel
theorem dM_findRow_39 : decode mM_findRow.1 39 = .ok (.iconst 0, 1) := by decide +kernel
theorem dM_findRow_40 : decode mM_findRow.1 40 = .ok (.invokevirtual 193, 3) := by decide +kernel
theorem dM_findRow_43 : decode mM_findRow.1 43 = .ok (.iload_n 3, 1) := by decide +kernel
theorem dM_findRow_44 : decode mM_findRow.1 44 = .ok (.iload 4, 2) := by decide +kernel
theorem dM_findRow_46 : decode mM_findRow.1 46 = .ok (.iload 5, 2) := by decide +kernel
theorem dM_findRow_48 : decode mM_findRow.1 48 = .ok (.invokevirtual 216, 3) := by decide +kernel
theorem dM_findRow_51 : decode mM_findRow.1 51 = .ok (.ifCond .eq 26, 3) := by decide +kernel
theorem dM_findRow_54 : decode mM_findRow.1 54 = .ok (.aload_n 0, 1) := by decide +kernel
theorem dM_findRow_55 : decode mM_findRow.1 55 = .ok (.getfield 38, 3) := by decide +kernel
theorem dM_findRow_58 : decode mM_findRow.1 58 = .ok (.sipush 128, 3) := by decide +kernel
theorem dM_findRow_61 : decode mM_findRow.1 61 = .ok (.iload 5, 2) := by decide +kernel
theorem dM_findRow_63 : decode mM_findRow.1 63 = .ok (.imul, 1) := by decide +kernel
theorem dM_findRow_64 : decode mM_findRow.1 64 = .ok (.iload 4, 2) := by decide +kernel
theorem dM_findRow_66 : decode mM_findRow.1 66 = .ok (.iconst 1, 1) := by decide +kernel
theorem dM_findRow_67 : decode mM_findRow.1 67 = .ok (.iload 5, 2) := by decide +kernel
theorem dM_findRow_69 : decode mM_findRow.1 69 = .ok (.ishl, 1) := by decide +kernel
theorem dM_findRow_70 : decode mM_findRow.1 70 = .ok (.ior, 1) := by decide +kernel
theorem dM_findRow_71 : decode mM_findRow.1 71 = .ok (.iadd, 1) := by decide +kernel
theorem dM_findRow_72 : decode mM_findRow.1 72 = .ok (.iaload, 1) := by decide +kernel
theorem dM_findRow_73 : decode mM_findRow.1 73 = .ok (.iload_n 2, 1) := by decide +kernel
theorem dM_findRow_74 : decode mM_findRow.1 74 = .ok (.if_icmp .eq 9, 3) := by decide +kernel
theorem dM_findRow_77 : decode mM_findRow.1 77 = .ok (.iinc 5 1, 3) := by decide +kernel
theorem dM_findRow_80 : decode mM_findRow.1 80 = .ok (.goto (-44), 3) := by decide +kernel
theorem dM_findRow_83 : decode mM_findRow.1 83 = .ok (.aload_n 0, 1) := by decide +kernel
theorem dM_findRow_84 : decode mM_findRow.1 84 = .ok (.getfield 47, 3) := by decide +kernel
theorem dM_findRow_87 : decode mM_findRow.1 87 = .ok (.iconst 3, 1) := by decide +kernel
theorem dM_findRow_88 : decode mM_findRow.1 88 = .ok (.aload_n 0, 1) := by decide +kernel
theorem dM_findRow_89 : decode mM_findRow.1 89 = .ok (.getfield 261, 3) := by decide +kernel
theorem dM_findRow_92 : decode mM_findRow.1 92 = .ok (.imul, 1) := by decide +kernel
theorem dM_findRow_93 : decode mM_findRow.1 93 = .ok (.iload_n 3, 1) := by decide +kernel
theorem dM_findRow_94 : decode mM_findRow.1 94 = .ok (.iastore, 1) := by decide +kernel
theorem dM_findRow_95 : decode mM_findRow.1 95 = .ok (.aload_n 0, 1) := by decide +kernel
theorem dM_findRow_96 : decode mM_findRow.1 96 = .ok (.getfield 47, 3) := by decide +kernel
theorem dM_findRow_99 : decode mM_findRow.1 99 = .ok (.iconst 3, 1) := by decide +kernel
theorem dM_findRow_100 : decode mM_findRow.1 100 = .ok (.aload_n 0, 1) := by decide +kernel
theorem dM_findRow_101 : decode mM_findRow.1 101 = .ok (.getfield 261, 3) := by decide +kernel
theorem dM_findRow_104 : decode mM_findRow.1 104 = .ok (.imul, 1) := by decide +kernel
theorem dM_findRow_105 : decode mM_findRow.1 105 = .ok (.iconst 1, 1) := by decide +kernel
theorem dM_findRow_106 : decode mM_findRow.1 106 = .ok (.iadd, 1) := by decide +kernel
theorem dM_findRow_107 : decode mM_findRow.1 107 = .ok (.iload 5, 2) := by decide +kernel
theorem dM_findRow_109 : decode mM_findRow.1 109 = .ok (.iastore, 1) := by decide +kernel
theorem dM_findRow_110 : decode mM_findRow.1 110 = .ok (.aload_n 0, 1) := by decide +kernel
theorem dM_findRow_111 : decode mM_findRow.1 111 = .ok (.getfield 47, 3) := by decide +kernel
theorem dM_findRow_114 : decode mM_findRow.1 114 = .ok (.iconst 3, 1) := by decide +kernel
theorem dM_findRow_115 : decode mM_findRow.1 115 = .ok (.aload_n 0, 1) := by decide +kernel
theorem dM_findRow_116 : decode mM_findRow.1 116 = .ok (.getfield 261, 3) := by decide +kernel
theorem dM_findRow_119 : decode mM_findRow.1 119 = .ok (.imul, 1) := by decide +kernel
theorem dM_findRow_120 : decode mM_findRow.1 120 = .ok (.iconst 2, 1) := by decide +kernel
theorem dM_findRow_121 : decode mM_findRow.1 121 = .ok (.iadd, 1) := by decide +kernel
theorem dM_findRow_122 : decode mM_findRow.1 122 = .ok (.iload_n 2, 1) := by decide +kernel
theorem dM_findRow_123 : decode mM_findRow.1 123 = .ok (.iastore, 1) := by decide +kernel
theorem dM_findRow_124 : decode mM_findRow.1 124 = .ok (.aload_n 0, 1) := by decide +kernel
theorem dM_findRow_125 : decode mM_findRow.1 125 = .ok (.dup, 1) := by decide +kernel
theorem dM_findRow_126 : decode mM_findRow.1 126 = .ok (.getfield 261, 3) := by decide +kernel
theorem dM_findRow_129 : decode mM_findRow.1 129 = .ok (.iconst 1, 1) := by decide +kernel
theorem dM_findRow_130 : decode mM_findRow.1 130 = .ok (.iadd, 1) := by decide +kernel
theorem dM_findRow_131 : decode mM_findRow.1 131 = .ok (.putfield 261, 3) := by decide +kernel
theorem dM_findRow_134 : decode mM_findRow.1 134 = .ok (.iload 5, 2) := by decide +kernel
theorem dM_findRow_136 : decode mM_findRow.1 136 = .ok (.istore_n 3, 1) := by decide +kernel
theorem dM_findRow_137 : decode mM_findRow.1 137 = .ok (.iload 4, 2) := by decide +kernel
theorem dM_findRow_139 : decode mM_findRow.1 139 = .ok (.iconst 1, 1) := by decide +kernel
theorem dM_findRow_140 : decode mM_findRow.1 140 = .ok (.iload 5, 2) := by decide +kernel
theorem dM_findRow_142 : decode mM_findRow.1 142 = .ok (.ishl, 1) := by decide +kernel
theorem dM_findRow_143 : decode mM_findRow.1 143 = .ok (.ior, 1) := by decide +kernel
theorem dM_findRow_144 : decode mM_findRow.1 144 = .ok (.istore 4, 2) := by decide +kernel
theorem dM_findRow_146 : decode mM_findRow.1 146 = .ok (.goto (-120), 3) := by decide +kernel
theorem dM_findRow_149 : decode mM_findRow.1 149 = .ok (.return_, 1) := by decide +kernel
set_option maxRecDepth 4000 in
theorem wM_findRow_36 {E : Ev} {z : St} : ∀ (fu : Nat) (σ : St) (i1 : Int32) (i2 : Int32) (i3 : Int32) (i4 : Int32) (i5 : Int32) (K0 : St → Int32 → Int32 → Int32 → Int32 → Int32 → Option St) (hK0 : ∀ (σ : St) (i1 : Int32) (i2 : Int32) (i3 : Int32) (i4 : Int32) (i5 : Int32), K0 σ i1 i2 i3 i4 i5 = some z → V E mM_findRow (FM E (none, z)) 83 [(0, .ref 44), (1, .int i1), (2, .int i2), (3, .int i3), (4, .int i4), (5, .int i5)] [] σ), fM_findRow_36 fu σ i1 i2 i3 i4 i5 K0 = some z → V E mM_findRow (FM E (none, z)) 36 [(0, .ref 44), (1, .int i1), (2, .int i2), (3, .int i3), (4, .int i4), (5, .int i5)] [] σ := by
  intro fu
  induction fu with
  | zero => intro σ i1 i2 i3 i4 i5 K0 hK0 hX; cases hX
  | succ fu ih =>
    intro σ i1 i2 i3 i4 i5 K0 hK0 hX
    rw [fM_findRow_36] at hX
    refine V.aloadn 0 dM_findRow_36 rfl rfl ?_
    refine V.aloadn 0 dM_findRow_37 rfl rfl ?_
    refine V.iloadn 1 dM_findRow_38 rfl rfl ?_
    refine V.iconst (0 : Int32) dM_findRow_39 lc0 rfl ?_
    obtain ⟨q10, c11, hX⟩ := bd hX; try dsimp only at hX
    refine V.callvi 44 [.int i1, .int (0 : Int32)] dM_findRow_40 (kM_its c11) mlM_193 myM_its mnM_its ⟨rfl, rfl, by decide, by decide⟩ (rfl : kd 44 = (6, 0)) (by decide) rfl (Nat.le_of_ble_eq_true rfl) ⟨Nat.zero_le _, Nat.zero_le _⟩ rfl ?_
    refine V.iloadn 3 dM_findRow_43 rfl rfl ?_
    refine V.iload 4 dM_findRow_44 rfl rfl ?_
    refine V.iload 5 dM_findRow_46 rfl rfl ?_
    obtain ⟨q12, c13, hX⟩ := bd hX; try dsimp only at hX
    refine V.callvi 44 [.int q10, .int i3, .int i4, .int i5] dM_findRow_48 (kM_mayBe c13) mlM_216 myM_mayBe mnM_mayBe ⟨rfl, rfl, by decide, by decide⟩ (rfl : kd 44 = (6, 0)) (by decide) rfl (Nat.le_of_ble_eq_true rfl) ⟨Nat.zero_le _, Nat.zero_le _⟩ rfl ?_
    refine V.ifeq 77 dM_findRow_51 rfl rfl (fun g14 => ?_) (fun g14 => ?_)
    · replace hX := ip hX g14
      refine V.iinc 5 (1 : Int32) _ dM_findRow_77 rfl lc1 (by decide) rfl rfl ?_
      replace hX := nmx hX; generalize i5 + (1 : Int32) = v15 at hX ⊢; try dsimp only at hX
      refine V.goto 36 dM_findRow_80 rfl ?_
      refine V.sub [1, 2, 3, 4, 5, 0] rfl ?_
      exact ih σ i1 i2 i3 i4 v15 K0 hK0 hX
    · replace hX := im hX g14
      refine V.aloadn 0 dM_findRow_54 rfl rfl ?_
      refine V.getr 44 53 dM_findRow_55 flM_38 (rfl : kd 44 = (6, 0)) rfl rfl ?_
      refine V.sipush (128 : Int32) dM_findRow_58 ls128 rfl ?_
      refine V.iload 5 dM_findRow_61 rfl rfl ?_
      refine V.imul dM_findRow_63 rfl ?_
      refine V.iload 4 dM_findRow_64 rfl rfl ?_
      refine V.iconst (1 : Int32) dM_findRow_66 lc1 rfl ?_
      refine V.iload 5 dM_findRow_67 rfl rfl ?_
      refine V.ishl dM_findRow_69 rfl ?_
      refine V.ior dM_findRow_70 rfl ?_
      refine V.iadd dM_findRow_71 rfl ?_
      obtain ⟨h16, hX⟩ := ob hX
      refine V.iald 53 dM_findRow_72 (rfl : kd 53 = (7, 896)) h16 rfl ?_
      refine V.iloadn 2 dM_findRow_73 rfl rfl ?_
      refine V.icmpeq 83 dM_findRow_74 rfl rfl (fun g17 => ?_) (fun g17 => ?_)
      · replace hX := ip hX g17
        refine V.sub [0, 1, 2, 3, 4, 5] rfl ?_
        exact hK0 σ i1 i2 i3 i4 i5 hX
      · replace hX := im hX g17
        refine V.iinc 5 (1 : Int32) _ dM_findRow_77 rfl lc1 (by decide) rfl rfl ?_
        replace hX := nmx hX; generalize i5 + (1 : Int32) = v18 at hX ⊢; try dsimp only at hX
        refine V.goto 36 dM_findRow_80 rfl ?_
        refine V.sub [1, 2, 3, 4, 5, 0] rfl ?_
        exact ih σ i1 i2 i3 i4 v18 K0 hK0 hX
set_option maxRecDepth 4000 in
theorem wM_findRow_26 {E : Ev} {z : St} : ∀ (fu : Nat) (σ : St) (i1 : Int32) (i2 : Int32) (i3 : Int32) (i4 : Int32), fM_findRow_26 fu σ i1 i2 i3 i4 = some z → V E mM_findRow (FM E (none, z)) 26 [(0, .ref 44), (1, .int i1), (2, .int i2), (3, .int i3), (4, .int i4)] [] σ := by
  intro fu
  induction fu with
  | zero => intro σ i1 i2 i3 i4 hX; cases hX
  | succ fu ih =>
    intro σ i1 i2 i3 i4 hX
    rw [fM_findRow_26] at hX
    refine V.iloadn 2 dM_findRow_26 rfl rfl ?_
    refine V.ifle 149 dM_findRow_27 rfl rfl (fun g8 => ?_) (fun g8 => ?_)
    · replace hX := ip hX g8
      have hX := (Option.some.inj hX).symm; subst hX; exact V.vret dM_findRow_149 rfl rfl
    · replace hX := im hX g8
      refine V.iinc 2 (-1 : Int32) _ dM_findRow_30 rfl lcm1 (by decide) rfl rfl ?_
      replace hX := nmx hX; generalize i2 + (-1 : Int32) = v9 at hX ⊢; try dsimp only at hX
      refine V.iconst (0 : Int32) dM_findRow_33 lc0 rfl ?_
      refine V.istore _ dM_findRow_34 (by decide) rfl rfl ?_
      refine V.sub [2, 3, 1, 4, 5, 0] rfl ?_
      refine wM_findRow_36 300 σ i1 v9 i3 i4 (0 : Int32) _ ?_ hX
      · intro σ19 y20 y21 y22 y23 y24 hX; try dsimp only at hX
        refine V.aloadn 0 dM_findRow_83 rfl rfl ?_
        refine V.getr 44 56 dM_findRow_84 flM_47 (rfl : kd 44 = (6, 0)) rfl rfl ?_
        refine V.iconst (3 : Int32) dM_findRow_87 lc3 rfl ?_
        refine V.aloadn 0 dM_findRow_88 rfl rfl ?_
        refine V.geti 44 dM_findRow_89 flM_261 (rfl : kd 44 = (6, 0)) rfl ?_
        refine V.imul dM_findRow_92 rfl ?_
        refine V.iloadn 3 dM_findRow_93 rfl rfl ?_
        obtain ⟨h25, hX⟩ := ob hX
        refine V.iast 56 dM_findRow_94 (rfl : kd 56 = (7, 21)) h25 rfl ?_
        replace hX := nmx hX; generalize sI σ19 56 (ix ((3 : Int32) * (gI σ19 44 24))) y22 = σ26 at hX ⊢; try dsimp only at hX
        refine V.aloadn 0 dM_findRow_95 rfl rfl ?_
        refine V.getr 44 56 dM_findRow_96 flM_47 (rfl : kd 44 = (6, 0)) rfl rfl ?_
        refine V.iconst (3 : Int32) dM_findRow_99 lc3 rfl ?_
        refine V.aloadn 0 dM_findRow_100 rfl rfl ?_
        refine V.geti 44 dM_findRow_101 flM_261 (rfl : kd 44 = (6, 0)) rfl ?_
        refine V.imul dM_findRow_104 rfl ?_
        refine V.iconst (1 : Int32) dM_findRow_105 lc1 rfl ?_
        refine V.iadd dM_findRow_106 rfl ?_
        refine V.iload 5 dM_findRow_107 rfl rfl ?_
        obtain ⟨h27, hX⟩ := ob hX
        refine V.iast 56 dM_findRow_109 (rfl : kd 56 = (7, 21)) h27 rfl ?_
        replace hX := nmx hX; generalize sI σ26 56 (ix (((3 : Int32) * (gI σ26 44 24)) + (1 : Int32))) y24 = σ28 at hX ⊢; try dsimp only at hX
        refine V.aloadn 0 dM_findRow_110 rfl rfl ?_
        refine V.getr 44 56 dM_findRow_111 flM_47 (rfl : kd 44 = (6, 0)) rfl rfl ?_
        refine V.iconst (3 : Int32) dM_findRow_114 lc3 rfl ?_
        refine V.aloadn 0 dM_findRow_115 rfl rfl ?_
        refine V.geti 44 dM_findRow_116 flM_261 (rfl : kd 44 = (6, 0)) rfl ?_
        refine V.imul dM_findRow_119 rfl ?_
        refine V.iconst (2 : Int32) dM_findRow_120 lc2 rfl ?_
        refine V.iadd dM_findRow_121 rfl ?_
        refine V.iloadn 2 dM_findRow_122 rfl rfl ?_
        obtain ⟨h29, hX⟩ := ob hX
        refine V.iast 56 dM_findRow_123 (rfl : kd 56 = (7, 21)) h29 rfl ?_
        replace hX := nmx hX; generalize sI σ28 56 (ix (((3 : Int32) * (gI σ28 44 24)) + (2 : Int32))) y21 = σ30 at hX ⊢; try dsimp only at hX
        refine V.aloadn 0 dM_findRow_124 rfl rfl ?_
        refine V.dup dM_findRow_125 rfl rfl ?_
        refine V.geti 44 dM_findRow_126 flM_261 (rfl : kd 44 = (6, 0)) rfl ?_
        refine V.iconst (1 : Int32) dM_findRow_129 lc1 rfl ?_
        refine V.iadd dM_findRow_130 rfl ?_
        refine V.puti 44 .int dM_findRow_131 flM_261 fw6_24 (rfl : kd 44 = (6, 0)) ⟨rfl, rfl⟩ rfl ?_
        replace hX := nmx hX; generalize sI σ30 44 24 ((gI σ30 44 24) + (1 : Int32)) = σ31 at hX ⊢; try dsimp only at hX
        refine V.iload 5 dM_findRow_134 rfl rfl ?_
        refine V.istoren _ dM_findRow_136 (by decide) rfl rfl ?_
        refine V.iload 4 dM_findRow_137 rfl rfl ?_
        refine V.iconst (1 : Int32) dM_findRow_139 lc1 rfl ?_
        refine V.iload 5 dM_findRow_140 rfl rfl ?_
        refine V.ishl dM_findRow_142 rfl ?_
        refine V.ior dM_findRow_143 rfl ?_
        refine V.istore _ dM_findRow_144 (by decide) rfl rfl ?_
        replace hX := nmx hX; generalize y23 ||| ((1 : Int32) <<< (y24 &&& 31)) = v32 at hX ⊢; try dsimp only at hX
        refine V.goto 26 dM_findRow_146 rfl ?_
        refine V.sub [2, 3, 4, 1, 0] rfl ?_
        exact ih σ31 y20 y21 y24 v32 hX
set_option maxRecDepth 4000 in
theorem wM_findRow {E : Ev} {z : St} (σ : St) (i1 : Int32) (hX : fM_findRow σ i1 = some z) : V E mM_findRow (FM E (none, z)) 0 [(0, .ref 44), (1, .int i1)] [] σ := by
  unfold fM_findRow at hX
  refine V.aloadn 0 dM_findRow_0 rfl rfl ?_
  refine V.iloadn 1 dM_findRow_1 rfl rfl ?_
  obtain ⟨q2, σ2, c1, hX⟩ := bi2 hX; try dsimp only at hX
  refine V.callvi 44 [.int i1] dM_findRow_2 (kM_leftOf c1) mlM_258 myM_leftOf mnM_leftOf ⟨rfl, rfl, by decide, by decide⟩ (rfl : kd 44 = (6, 0)) (by decide) rfl (Nat.le_of_ble_eq_true rfl) ⟨Nat.zero_le _, Nat.zero_le _⟩ rfl ?_
  refine V.istoren _ dM_findRow_5 (by decide) rfl rfl ?_
  refine V.aloadn 1 dM_findRow_6 rfl rfl ?_
  refine V.iloadn 2 dM_findRow_7 rfl rfl ?_
  refine V.iconst (2 : Int32) dM_findRow_8 lc2 rfl ?_
  obtain ⟨q3, c4, hX⟩ := bd hX; try dsimp only at hX
  refine V.callvi 44 [.int i1, .int (2 : Int32)] dM_findRow_9 (kM_its c4) mlM_193 myM_its mnM_its ⟨rfl, rfl, by decide, by decide⟩ (rfl : kd 44 = (6, 0)) (by decide) rfl (Nat.le_of_ble_eq_true rfl) ⟨Nat.zero_le _, Nat.zero_le _⟩ rfl ?_
  refine V.istoren _ dM_findRow_12 (by decide) rfl rfl ?_
  refine V.aloadn 2 dM_findRow_13 rfl rfl ?_
  refine V.iloadn 3 dM_findRow_14 rfl rfl ?_
  refine V.iconst (3 : Int32) dM_findRow_15 lc3 rfl ?_
  obtain ⟨q5, c6, hX⟩ := bd hX; try dsimp only at hX
  refine V.callvi 44 [.int i1, .int (3 : Int32)] dM_findRow_16 (kM_its c6) mlM_193 myM_its mnM_its ⟨rfl, rfl, by decide, by decide⟩ (rfl : kd 44 = (6, 0)) (by decide) rfl (Nat.le_of_ble_eq_true rfl) ⟨Nat.zero_le _, Nat.zero_le _⟩ rfl ?_
  refine V.istore _ dM_findRow_19 (by decide) rfl rfl ?_
  refine V.aloadn 3 dM_findRow_21 rfl rfl ?_
  refine V.iconst (0 : Int32) dM_findRow_22 lc0 rfl ?_
  refine V.puti 44 .int dM_findRow_23 flM_261 fw6_24 (rfl : kd 44 = (6, 0)) ⟨rfl, rfl⟩ rfl ?_
  replace hX := nmx hX; generalize sI σ2 44 24 (0 : Int32) = σ7 at hX ⊢; try dsimp only at hX
  refine V.sub [3, 4, 2, 1, 0] rfl ?_
  exact wM_findRow_26 300 σ7 i1 q2 q3 q5 hX
theorem kM_findRow {E : Ev} {σ z : St} {i1 : Int32} (h : fM_findRow σ i1 = some z) : Ct mM_findRow E [.ref 44, .int i1] σ (none, z) := Ct.of (by decide) (Nat.le_of_ble_eq_true rfl) (wM_findRow σ i1 h)
theorem dM_row_0 : decode mM_row.1 0 = .ok (.aload_n 0, 1) := by decide +kernel
theorem dM_row_1 : decode mM_row.1 1 = .ok (.iload_n 1, 1) := by decide +kernel
theorem dM_row_2 : decode mM_row.1 2 = .ok (.invokevirtual 223, 3) := by decide +kernel
theorem dM_row_5 : decode mM_row.1 5 = .ok (.ifCond .eq 7, 3) := by decide +kernel
theorem dM_row_8 : decode mM_row.1 8 = .ok (.iload_n 2, 1) := by decide +kernel
theorem dM_row_9 : decode mM_row.1 9 = .ok (.ifCond .ge 5, 3) := by decide +kernel
theorem dM_row_12 : decode mM_row.1 12 = .ok (.iconst (-1), 1) := by decide +kernel
theorem dM_row_13 : decode mM_row.1 13 = .ok (.ireturn, 1) := by decide +kernel
theorem dM_row_14 : decode mM_row.1 14 = .ok (.aload_n 0, 1) := by decide +kernel
theorem dM_row_15 : decode mM_row.1 15 = .ok (.iload_n 1, 1) := by decide +kernel
theorem dM_row_16 : decode mM_row.1 16 = .ok (.invokevirtual 264, 3) := by decide +kernel
theorem dM_row_19 : decode mM_row.1 19 = .ok (.iload_n 2, 1) := by decide +kernel
theorem dM_row_20 : decode mM_row.1 20 = .ok (.aload_n 0, 1) := by decide +kernel
theorem dM_row_21 : decode mM_row.1 21 = .ok (.getfield 261, 3) := by decide +kernel
theorem dM_row_24 : decode mM_row.1 24 = .ok (.if_icmp .ge 16, 3) := by decide +kernel
theorem dM_row_27 : decode mM_row.1 27 = .ok (.aload_n 0, 1) := by decide +kernel
theorem dM_row_28 : decode mM_row.1 28 = .ok (.getfield 47, 3) := by decide +kernel
theorem dM_row_31 : decode mM_row.1 31 = .ok (.iconst 3, 1) := by decide +kernel
theorem dM_row_32 : decode mM_row.1 32 = .ok (.iload_n 2, 1) := by decide +kernel
theorem dM_row_33 : decode mM_row.1 33 = .ok (.imul, 1) := by decide +kernel
theorem dM_row_34 : decode mM_row.1 34 = .ok (.iconst 1, 1) := by decide +kernel
theorem dM_row_35 : decode mM_row.1 35 = .ok (.iadd, 1) := by decide +kernel
theorem dM_row_36 : decode mM_row.1 36 = .ok (.iaload, 1) := by decide +kernel
theorem dM_row_37 : decode mM_row.1 37 = .ok (.goto 5, 3) := by decide +kernel
theorem dM_row_40 : decode mM_row.1 40 = .ok (.bipush (-3), 2) := by decide +kernel
theorem dM_row_42 : decode mM_row.1 42 = .ok (.ireturn, 1) := by decide +kernel
set_option maxRecDepth 4000 in
theorem wM_row {E : Ev} {z : Int32 × St} (σ : St) (i1 : Int32) (i2 : Int32) (hX : fM_row σ i1 i2 = some z) : V E mM_row (FM E (some (.int z.1), z.2)) 0 [(0, .ref 44), (1, .int i1), (2, .int i2)] [] σ := by
  unfold fM_row at hX
  refine V.aloadn 0 dM_row_0 rfl rfl ?_
  refine V.iloadn 1 dM_row_1 rfl rfl ?_
  refine V.callvi 44 [.int i1] dM_row_2 (kM_isCoin (σ := σ) i1) mlM_223 myM_isCoin mnM_isCoin ⟨rfl, rfl, by decide, by decide⟩ (rfl : kd 44 = (6, 0)) (by decide) rfl (Nat.le_of_ble_eq_true rfl) ⟨Nat.zero_le _, Nat.zero_le _⟩ rfl ?_
  refine V.ifeq 12 dM_row_5 rfl rfl (fun g1 => ?_) (fun g1 => ?_)
  · replace hX := ip hX g1
    refine V.iconst (-1 : Int32) dM_row_12 lcm1 rfl ?_
    have hX := (Option.some.inj hX).symm; subst hX; exact V.iret dM_row_13 rfl rfl
  · replace hX := im hX g1
    refine V.iloadn 2 dM_row_8 rfl rfl ?_
    refine V.ifge 14 dM_row_9 rfl rfl (fun g2 => ?_) (fun g2 => ?_)
    · replace hX := ip hX g2
      refine V.aloadn 0 dM_row_14 rfl rfl ?_
      refine V.iloadn 1 dM_row_15 rfl rfl ?_
      obtain ⟨σ4, c3, hX⟩ := bd hX; try dsimp only at hX
      refine V.callv0 44 [.int i1] dM_row_16 (kM_findRow c3) mlM_264 myM_findRow mnM_findRow ⟨rfl, rfl, by decide, by decide⟩ (rfl : kd 44 = (6, 0)) (by decide) rfl (Nat.le_of_ble_eq_true rfl) ⟨Nat.zero_le _, Nat.zero_le _⟩ rfl ?_
      refine V.iloadn 2 dM_row_19 rfl rfl ?_
      refine V.aloadn 0 dM_row_20 rfl rfl ?_
      refine V.geti 44 dM_row_21 flM_261 (rfl : kd 44 = (6, 0)) rfl ?_
      refine V.icmpge 40 dM_row_24 rfl rfl (fun g5 => ?_) (fun g5 => ?_)
      · replace hX := ip hX g5
        refine V.bipush (-3 : Int32) dM_row_40 lbm3 rfl ?_
        have hX := (Option.some.inj hX).symm; subst hX; exact V.iret dM_row_42 rfl rfl
      · replace hX := im hX g5
        refine V.aloadn 0 dM_row_27 rfl rfl ?_
        refine V.getr 44 56 dM_row_28 flM_47 (rfl : kd 44 = (6, 0)) rfl rfl ?_
        refine V.iconst (3 : Int32) dM_row_31 lc3 rfl ?_
        refine V.iloadn 2 dM_row_32 rfl rfl ?_
        refine V.imul dM_row_33 rfl ?_
        refine V.iconst (1 : Int32) dM_row_34 lc1 rfl ?_
        refine V.iadd dM_row_35 rfl ?_
        obtain ⟨h6, hX⟩ := ob hX
        refine V.iald 56 dM_row_36 (rfl : kd 56 = (7, 21)) h6 rfl ?_
        refine V.goto 42 dM_row_37 rfl ?_
        have hX := (Option.some.inj hX).symm; subst hX; exact V.iret dM_row_42 rfl rfl
    · replace hX := im hX g2
      refine V.iconst (-1 : Int32) dM_row_12 lcm1 rfl ?_
      have hX := (Option.some.inj hX).symm; subst hX; exact V.iret dM_row_13 rfl rfl
theorem kM_row {E : Ev} {σ σ2 : St} {i1 : Int32} {i2 : Int32} {z : Int32} (h : fM_row σ i1 i2 = some (z, σ2)) : Ct mM_row E [.ref 44, .int i1, .int i2] σ (some (.int z), σ2) := Ct.of (by decide) (Nat.le_of_ble_eq_true rfl) (wM_row σ i1 i2 h)
theorem dM_stuck_0 : decode mM_stuck.1 0 = .ok (.iconst 0, 1) := by decide +kernel
theorem dM_stuck_1 : decode mM_stuck.1 1 = .ok (.istore_n 1, 1) := by decide +kernel
theorem dM_stuck_2 : decode mM_stuck.1 2 = .ok (.iconst 0, 1) := by decide +kernel
theorem dM_stuck_3 : decode mM_stuck.1 3 = .ok (.istore_n 2, 1) := by decide +kernel
theorem dM_stuck_4 : decode mM_stuck.1 4 = .ok (.iload_n 2, 1) := by decide +kernel
theorem dM_stuck_5 : decode mM_stuck.1 5 = .ok (.aload_n 0, 1) := by decide +kernel
theorem dM_stuck_6 : decode mM_stuck.1 6 = .ok (.getfield 88, 3) := by decide +kernel
theorem dM_stuck_9 : decode mM_stuck.1 9 = .ok (.if_icmp .ge 27, 3) := by decide +kernel
theorem dM_stuck_12 : decode mM_stuck.1 12 = .ok (.iload_n 1, 1) := by decide +kernel
theorem dM_stuck_13 : decode mM_stuck.1 13 = .ok (.aload_n 0, 1) := by decide +kernel
theorem dM_stuck_14 : decode mM_stuck.1 14 = .ok (.iload_n 2, 1) := by decide +kernel
theorem dM_stuck_15 : decode mM_stuck.1 15 = .ok (.invokevirtual 226, 3) := by decide +kernel
theorem dM_stuck_18 : decode mM_stuck.1 18 = .ok (.ifCond .ne 9, 3) := by decide +kernel
theorem dM_stuck_21 : decode mM_stuck.1 21 = .ok (.iconst 1, 1) := by decide +kernel
theorem dM_stuck_22 : decode mM_stuck.1 22 = .ok (.iload_n 2, 1) := by decide +kernel
theorem dM_stuck_23 : decode mM_stuck.1 23 = .ok (.ishl, 1) := by decide +kernel
theorem dM_stuck_24 : decode mM_stuck.1 24 = .ok (.goto 4, 3) := by decide +kernel
theorem dM_stuck_27 : decode mM_stuck.1 27 = .ok (.iconst 0, 1) := by decide +kernel
theorem dM_stuck_28 : decode mM_stuck.1 28 = .ok (.ior, 1) := by decide +kernel
theorem dM_stuck_29 : decode mM_stuck.1 29 = .ok (.istore_n 1, 1) := by decide +kernel
theorem dM_stuck_30 : decode mM_stuck.1 30 = .ok (.iinc 2 1, 3) := by decide +kernel
theorem dM_stuck_33 : decode mM_stuck.1 33 = .ok (.goto (-29), 3) := by decide +kernel
theorem dM_stuck_36 : decode mM_stuck.1 36 = .ok (.iload_n 1, 1) := by decide +kernel
theorem dM_stuck_37 : decode mM_stuck.1 37 = .ok (.ireturn, 1) := by decide +kernel
set_option maxRecDepth 4000 in
theorem wM_stuck_4 {E : Ev} {z : Int32} : ∀ (fu : Nat) (σ : St) (i1 : Int32) (i2 : Int32), fM_stuck_4 fu σ i1 i2 = some z → V E mM_stuck (FM E (some (.int z), σ)) 4 [(0, .ref 44), (1, .int i1), (2, .int i2)] [] σ := by
  intro fu
  induction fu with
  | zero => intro σ i1 i2 hX; cases hX
  | succ fu ih =>
    intro σ i1 i2 hX
    rw [fM_stuck_4] at hX
    refine V.iloadn 2 dM_stuck_4 rfl rfl ?_
    refine V.aloadn 0 dM_stuck_5 rfl rfl ?_
    refine V.geti 44 dM_stuck_6 flM_88 (rfl : kd 44 = (6, 0)) rfl ?_
    refine V.icmpge 36 dM_stuck_9 rfl rfl (fun g1 => ?_) (fun g1 => ?_)
    · replace hX := ip hX g1
      refine V.iloadn 1 dM_stuck_36 rfl rfl ?_
      have hX := (Option.some.inj hX).symm; subst hX; exact V.iret dM_stuck_37 rfl rfl
    · replace hX := im hX g1
      refine V.iloadn 1 dM_stuck_12 rfl rfl ?_
      refine V.aloadn 0 dM_stuck_13 rfl rfl ?_
      refine V.iloadn 2 dM_stuck_14 rfl rfl ?_
      obtain ⟨q2, c3, hX⟩ := bd hX; try dsimp only at hX
      refine V.callvi 44 [.int i2] dM_stuck_15 (kM_mayAll c3) mlM_226 myM_mayAll mnM_mayAll ⟨rfl, rfl, by decide, by decide⟩ (rfl : kd 44 = (6, 0)) (by decide) rfl (Nat.le_of_ble_eq_true rfl) ⟨Nat.zero_le _, Nat.zero_le _⟩ rfl ?_
      have JJ : V E mM_stuck (FM E (some (.int z), σ)) 28 [(0, .ref 44), (1, .int i1), (2, .int i2)] [.int (if q2 = 0 then (1 : Int32) <<< (i2 &&& 31) else (0 : Int32)), .int i1] σ := by
        refine V.ior dM_stuck_28 rfl ?_
        refine V.istoren _ dM_stuck_29 (by decide) rfl rfl ?_
        replace hX := nmx hX; generalize i1 ||| (if q2 = 0 then (1 : Int32) <<< (i2 &&& 31) else (0 : Int32)) = v4 at hX ⊢; try dsimp only at hX
        refine V.iinc 2 (1 : Int32) _ dM_stuck_30 rfl lc1 (by decide) rfl rfl ?_
        replace hX := nmx hX; generalize i2 + (1 : Int32) = v5 at hX ⊢; try dsimp only at hX
        refine V.goto 4 dM_stuck_33 rfl ?_
        refine V.sub [2, 1, 0] rfl ?_
        exact ih σ v4 v5 hX
      refine V.ifne 27 dM_stuck_18 rfl rfl (fun g6 => ?_) (fun g6 => ?_)
      · refine V.iconst (0 : Int32) dM_stuck_27 lc0 rfl ?_
        exact V.top (if_neg g6).symm JJ
      · refine V.iconst (1 : Int32) dM_stuck_21 lc1 rfl ?_
        refine V.iloadn 2 dM_stuck_22 rfl rfl ?_
        refine V.ishl dM_stuck_23 rfl ?_
        refine V.goto 28 dM_stuck_24 rfl ?_
        exact V.top (if_pos g6).symm JJ
set_option maxRecDepth 4000 in
theorem wM_stuck {E : Ev} {z : Int32} (σ : St) (hX : fM_stuck σ = some z) : V E mM_stuck (FM E (some (.int z), σ)) 0 [(0, .ref 44)] [] σ := by
  unfold fM_stuck at hX
  refine V.iconst (0 : Int32) dM_stuck_0 lc0 rfl ?_
  refine V.istoren _ dM_stuck_1 (by decide) rfl rfl ?_
  refine V.iconst (0 : Int32) dM_stuck_2 lc0 rfl ?_
  refine V.istoren _ dM_stuck_3 (by decide) rfl rfl ?_
  refine V.sub [2, 1, 0] rfl ?_
  exact wM_stuck_4 300 σ (0 : Int32) (0 : Int32) hX
theorem kM_stuck {E : Ev} {σ : St} {z : Int32} (h : fM_stuck σ = some z) : Ct mM_stuck E [.ref 44] σ (some (.int z), σ) := Ct.of (by decide) (Nat.le_of_ble_eq_true rfl) (wM_stuck σ h)
theorem dM_best_0 : decode mM_best.1 0 = .ok (.aload_n 0, 1) := by decide +kernel
theorem dM_best_1 : decode mM_best.1 1 = .ok (.iload_n 1, 1) := by decide +kernel
theorem dM_best_2 : decode mM_best.1 2 = .ok (.invokevirtual 203, 3) := by decide +kernel
theorem dM_best_5 : decode mM_best.1 5 = .ok (.ifCond .eq 12, 3) := by decide +kernel
theorem dM_best_8 : decode mM_best.1 8 = .ok (.iload_n 2, 1) := by decide +kernel
theorem dM_best_9 : decode mM_best.1 9 = .ok (.iconst 0, 1) := by decide +kernel
theorem dM_best_10 : decode mM_best.1 10 = .ok (.iconst 2, 1) := by decide +kernel
theorem dM_best_11 : decode mM_best.1 11 = .ok (.invokestatic 84, 3) := by decide +kernel
theorem dM_best_14 : decode mM_best.1 14 = .ok (.ifCond .ne 5, 3) := by decide +kernel
theorem dM_best_17 : decode mM_best.1 17 = .ok (.iconst (-1), 1) := by decide +kernel
theorem dM_best_18 : decode mM_best.1 18 = .ok (.ireturn, 1) := by decide +kernel
theorem dM_best_19 : decode mM_best.1 19 = .ok (.bipush (-3), 2) := by decide +kernel
theorem dM_best_21 : decode mM_best.1 21 = .ok (.istore_n 3, 1) := by decide +kernel
theorem dM_best_22 : decode mM_best.1 22 = .ok (.iconst (-1), 1) := by decide +kernel
theorem dM_best_23 : decode mM_best.1 23 = .ok (.istore 4, 2) := by decide +kernel
theorem dM_best_25 : decode mM_best.1 25 = .ok (.iconst 0, 1) := by decide +kernel
theorem dM_best_26 : decode mM_best.1 26 = .ok (.istore 5, 2) := by decide +kernel
theorem dM_best_28 : decode mM_best.1 28 = .ok (.iload 5, 2) := by decide +kernel
theorem dM_best_30 : decode mM_best.1 30 = .ok (.aload_n 0, 1) := by decide +kernel
theorem dM_best_31 : decode mM_best.1 31 = .ok (.getfield 88, 3) := by decide +kernel
theorem dM_best_34 : decode mM_best.1 34 = .ok (.if_icmp .ge 123, 3) := by decide +kernel
theorem dM_best_37 : decode mM_best.1 37 = .ok (.aload_n 0, 1) := by decide +kernel
theorem dM_best_38 : decode mM_best.1 38 = .ok (.iload 5, 2) := by decide +kernel
theorem dM_best_40 : decode mM_best.1 40 = .ok (.iconst 2, 1) := by decide +kernel
theorem dM_best_41 : decode mM_best.1 41 = .ok (.invokevirtual 193, 3) := by decide +kernel
theorem dM_best_44 : decode mM_best.1 44 = .ok (.iload_n 1, 1) := by decide +kernel
theorem dM_best_45 : decode mM_best.1 45 = .ok (.if_icmp .ne 106, 3) := by decide +kernel
theorem dM_best_48 : decode mM_best.1 48 = .ok (.aload_n 0, 1) := by decide +kernel
theorem dM_best_49 : decode mM_best.1 49 = .ok (.aload_n 0, 1) := by decide +kernel
theorem dM_best_50 : decode mM_best.1 50 = .ok (.iload 5, 2) := by decide +kernel
theorem dM_best_52 : decode mM_best.1 52 = .ok (.iconst 0, 1) := by decide +kernel
theorem dM_best_53 : decode mM_best.1 53 = .ok (.invokevirtual 193, 3) := by decide +kernel
theorem dM_best_56 : decode mM_best.1 56 = .ok (.invokevirtual 252, 3) := by decide +kernel
theorem dM_best_59 : decode mM_best.1 59 = .ok (.iconst 0, 1) := by decide +kernel
theorem dM_best_60 : decode mM_best.1 60 = .ok (.istore 6, 2) := by decide +kernel
theorem dM_best_62 : decode mM_best.1 62 = .ok (.iload 6, 2) := by decide +kernel
theorem dM_best_64 : decode mM_best.1 64 = .ok (.aload_n 0, 1) := by decide +kernel
theorem dM_best_65 : decode mM_best.1 65 = .ok (.getfield 81, 3) := by decide +kernel
theorem dM_best_68 : decode mM_best.1 68 = .ok (.if_icmp .ge 83, 3) := by decide +kernel
theorem dM_best_71 : decode mM_best.1 71 = .ok (.aload_n 0, 1) := by decide +kernel
theorem dM_best_72 : decode mM_best.1 72 = .ok (.iload 5, 2) := by decide +kernel
theorem dM_best_74 : decode mM_best.1 74 = .ok (.iload 6, 2) := by decide +kernel
theorem dM_best_76 : decode mM_best.1 76 = .ok (.invokevirtual 220, 3) := by decide +kernel
theorem dM_best_79 : decode mM_best.1 79 = .ok (.ifCond .eq 30, 3) := by decide +kernel
theorem dM_best_82 : decode mM_best.1 82 = .ok (.aload_n 0, 1) := by decide +kernel
theorem dM_best_83 : decode mM_best.1 83 = .ok (.getfield 38, 3) := by decide +kernel
theorem dM_best_86 : decode mM_best.1 86 = .ok (.sipush 128, 3) := by decide +kernel
theorem dM_best_89 : decode mM_best.1 89 = .ok (.iload 6, 2) := by decide +kernel
theorem dM_best_91 : decode mM_best.1 91 = .ok (.imul, 1) := by decide +kernel
theorem dM_best_92 : decode mM_best.1 92 = .ok (.aload_n 0, 1) := by decide +kernel
theorem dM_best_93 : decode mM_best.1 93 = .ok (.iload 5, 2) := by decide +kernel
theorem dM_best_95 : decode mM_best.1 95 = .ok (.iconst 3, 1) := by decide +kernel
theorem dM_best_96 : decode mM_best.1 96 = .ok (.invokevirtual 193, 3) := by decide +kernel
theorem dM_best_99 : decode mM_best.1 99 = .ok (.iconst 1, 1) := by decide +kernel
theorem dM_best_100 : decode mM_best.1 100 = .ok (.iload 6, 2) := by decide +kernel
theorem dM_best_102 : decode mM_best.1 102 = .ok (.ishl, 1) := by decide +kernel
theorem dM_best_103 : decode mM_best.1 103 = .ok (.ior, 1) := by decide +kernel
theorem dM_best_104 : decode mM_best.1 104 = .ok (.iadd, 1) := by decide +kernel
theorem dM_best_105 : decode mM_best.1 105 = .ok (.iaload, 1) := by decide +kernel
theorem dM_best_106 : decode mM_best.1 106 = .ok (.goto 4, 3) := by decide +kernel
theorem dM_best_109 : decode mM_best.1 109 = .ok (.iconst (-1), 1) := by decide +kernel
theorem dM_best_110 : decode mM_best.1 110 = .ok (.istore 7, 2) := by decide +kernel
theorem dM_best_112 : decode mM_best.1 112 = .ok (.iload 7, 2) := by decide +kernel
theorem dM_best_114 : decode mM_best.1 114 = .ok (.iload 4, 2) := by decide +kernel
theorem dM_best_116 : decode mM_best.1 116 = .ok (.if_icmp .le 29, 3) := by decide +kernel
theorem dM_best_119 : decode mM_best.1 119 = .ok (.iload 7, 2) := by decide +kernel
theorem dM_best_121 : decode mM_best.1 121 = .ok (.istore 4, 2) := by decide +kernel
theorem dM_best_123 : decode mM_best.1 123 = .ok (.iload_n 2, 1) := by decide +kernel
theorem dM_best_124 : decode mM_best.1 124 = .ok (.ifCond .ne 8, 3) := by decide +kernel
theorem dM_best_127 : decode mM_best.1 127 = .ok (.iload 5, 2) := by decide +kernel
theorem dM_best_129 : decode mM_best.1 129 = .ok (.goto 15, 3) := by decide +kernel
theorem dM_best_132 : decode mM_best.1 132 = .ok (.iload_n 2, 1) := by decide +kernel
theorem dM_best_133 : decode mM_best.1 133 = .ok (.iconst 1, 1) := by decide +kernel
theorem dM_best_134 : decode mM_best.1 134 = .ok (.if_icmp .ne 8, 3) := by decide +kernel
theorem dM_best_137 : decode mM_best.1 137 = .ok (.iload 6, 2) := by decide +kernel
theorem dM_best_139 : decode mM_best.1 139 = .ok (.goto 5, 3) := by decide +kernel
theorem dM_best_142 : decode mM_best.1 142 = .ok (.iload 7, 2) := by decide +kernel
theorem dM_best_144 : decode mM_best.1 144 = .ok (.istore_n 3, 1) := by decide +kernel
theorem dM_best_145 : decode mM_best.1 145 = .ok (.iinc 6 1, 3) := by decide +kernel
theorem dM_best_148 : decode mM_best.1 148 = .ok (.goto (-86), 3) := by decide +kernel
theorem dM_best_151 : decode mM_best.1 151 = .ok (.iinc 5 1, 3) := by decide +kernel
theorem dM_best_154 : decode mM_best.1 154 = .ok (.goto (-126), 3) := by decide +kernel
theorem dM_best_157 : decode mM_best.1 157 = .ok (.iload_n 3, 1) := by decide +kernel
theorem dM_best_158 : decode mM_best.1 158 = .ok (.ireturn, 1) := by decide +kernel
set_option maxRecDepth 4000 in
theorem wM_best_62 {E : Ev} {z : Int32 × St} : ∀ (fu : Nat) (σ : St) (i1 : Int32) (i2 : Int32) (i3 : Int32) (i4 : Int32) (i5 : Int32) (i6 : Int32) (K0 : St → Int32 → Int32 → Int32 → Int32 → Int32 → Option (Int32 × St)) (hK0 : ∀ (σ : St) (i1 : Int32) (i2 : Int32) (i3 : Int32) (i4 : Int32) (i5 : Int32), K0 σ i1 i2 i3 i4 i5 = some z → V E mM_best (FM E (some (.int z.1), z.2)) 151 [(0, .ref 44), (1, .int i1), (2, .int i2), (3, .int i3), (4, .int i4), (5, .int i5)] [] σ), fM_best_62 fu σ i1 i2 i3 i4 i5 i6 K0 = some z → V E mM_best (FM E (some (.int z.1), z.2)) 62 [(0, .ref 44), (1, .int i1), (2, .int i2), (3, .int i3), (4, .int i4), (5, .int i5), (6, .int i6)] [] σ := by
  intro fu
  induction fu with
  | zero => intro σ i1 i2 i3 i4 i5 i6 K0 hK0 hX; cases hX
  | succ fu ih =>
    intro σ i1 i2 i3 i4 i5 i6 K0 hK0 hX
    rw [fM_best_62] at hX
    refine V.iload 6 dM_best_62 rfl rfl ?_
    refine V.aloadn 0 dM_best_64 rfl rfl ?_
    refine V.geti 44 dM_best_65 flM_81 (rfl : kd 44 = (6, 0)) rfl ?_
    refine V.icmpge 151 dM_best_68 rfl rfl (fun g12 => ?_) (fun g12 => ?_)
    · replace hX := ip hX g12
      refine V.sub [0, 1, 2, 3, 4, 5] rfl ?_
      exact hK0 σ i1 i2 i3 i4 i5 hX
    · replace hX := im hX g12
      refine V.aloadn 0 dM_best_71 rfl rfl ?_
      refine V.iload 5 dM_best_72 rfl rfl ?_
      refine V.iload 6 dM_best_74 rfl rfl ?_
      obtain ⟨q13, c14, hX⟩ := bd hX; try dsimp only at hX
      refine V.callvi 44 [.int i5, .int i6] dM_best_76 (kM_mayNow c14) mlM_220 myM_mayNow mnM_mayNow ⟨rfl, rfl, by decide, by decide⟩ (rfl : kd 44 = (6, 0)) (by decide) rfl (Nat.le_of_ble_eq_true rfl) ⟨Nat.zero_le _, Nat.zero_le _⟩ rfl ?_
      refine jn (Pj := fun J => ∀ (σ15 : St) (ji1 : Int32) (ji2 : Int32) (ji3 : Int32) (ji4 : Int32) (ji5 : Int32) (ji6 : Int32) (jis0 : Int32), J σ15 ji1 ji2 ji3 ji4 ji5 ji6 jis0 = some z → V E mM_best (FM E (some (.int z.1), z.2)) 110 [(0, .ref 44), (1, .int ji1), (2, .int ji2), (3, .int ji3), (4, .int ji4), (5, .int ji5), (6, .int ji6)] [.int jis0] σ15) hX (fun σ15 ji1 ji2 ji3 ji4 ji5 ji6 jis0 hX => ?_) (fun J110 hJ110 hX => ?_)
      · try dsimp only at hX
        refine V.istore _ dM_best_110 (by decide) rfl rfl ?_
        refine V.iload 0 dM_best_112 rfl rfl ?_
        refine V.iload 5 dM_best_114 rfl rfl ?_
        refine V.icmple 145 dM_best_116 rfl rfl (fun g16 => ?_) (fun g16 => ?_)
        · replace hX := ip hX g16
          refine V.iinc 7 (1 : Int32) _ dM_best_145 rfl lc1 (by decide) rfl rfl ?_
          replace hX := nmx hX; generalize ji6 + (1 : Int32) = v17 at hX ⊢; try dsimp only at hX
          refine V.goto 62 dM_best_148 rfl ?_
          refine V.sub [2, 3, 4, 5, 6, 7, 0] rfl ?_
          exact ih σ15 ji1 ji2 ji3 ji4 ji5 v17 K0 hK0 hX
        · replace hX := im hX g16
          refine V.iload 0 dM_best_119 rfl rfl ?_
          refine V.istore _ dM_best_121 (by decide) rfl rfl ?_
          refine V.iloadn 4 dM_best_123 rfl rfl ?_
          have JJ : V E mM_best (FM E (some (.int z.1), z.2)) 144 [(4, .int jis0), (7, .int jis0), (0, .ref 44), (1, .int ji1), (2, .int ji2), (3, .int ji3), (5, .int ji5), (6, .int ji6)] [.int (if ji2 = 0 then ji5 else (if ji2 = (1 : Int32) then ji6 else jis0))] σ15 := by
            refine V.istoren _ dM_best_144 (by decide) rfl rfl ?_
            replace hX := nmx hX; generalize (if ji2 = 0 then ji5 else (if ji2 = (1 : Int32) then ji6 else jis0)) = v18 at hX ⊢; try dsimp only at hX
            refine V.iinc 7 (1 : Int32) _ dM_best_145 rfl lc1 (by decide) rfl rfl ?_
            replace hX := nmx hX; generalize ji6 + (1 : Int32) = v19 at hX ⊢; try dsimp only at hX
            refine V.goto 62 dM_best_148 rfl ?_
            refine V.sub [4, 5, 6, 1, 2, 7, 0] rfl ?_
            exact ih σ15 ji1 ji2 v18 jis0 ji5 v19 K0 hK0 hX
          refine V.ifne 132 dM_best_124 rfl rfl (fun g20 => ?_) (fun g20 => ?_)
          · refine V.iloadn 4 dM_best_132 rfl rfl ?_
            refine V.iconst (1 : Int32) dM_best_133 lc1 rfl ?_
            refine V.icmpne 142 dM_best_134 rfl rfl (fun g21 => ?_) (fun g21 => ?_)
            · refine V.iload 1 dM_best_142 rfl rfl ?_
              exact V.top ((if_neg g20).trans (if_neg g21)).symm JJ
            · refine V.iload 7 dM_best_137 rfl rfl ?_
              refine V.goto 144 dM_best_139 rfl ?_
              exact V.top ((if_neg g20).trans (if_pos g21)).symm JJ
          · refine V.iload 6 dM_best_127 rfl rfl ?_
            refine V.goto 144 dM_best_129 rfl ?_
            exact V.top (if_pos g20).symm JJ
      · try dsimp only at hX
        refine V.ifeq 109 dM_best_79 rfl rfl (fun g22 => ?_) (fun g22 => ?_)
        · replace hX := ip hX g22
          refine V.iconst (-1 : Int32) dM_best_109 lcm1 rfl ?_
          refine V.sub [0, 1, 2, 3, 4, 5, 6] rfl ?_
          exact hJ110 σ i1 i2 i3 i4 i5 i6 (-1 : Int32) hX
        · replace hX := im hX g22
          refine V.aloadn 0 dM_best_82 rfl rfl ?_
          refine V.getr 44 53 dM_best_83 flM_38 (rfl : kd 44 = (6, 0)) rfl rfl ?_
          refine V.sipush (128 : Int32) dM_best_86 ls128 rfl ?_
          refine V.iload 6 dM_best_89 rfl rfl ?_
          refine V.imul dM_best_91 rfl ?_
          refine V.aloadn 0 dM_best_92 rfl rfl ?_
          refine V.iload 5 dM_best_93 rfl rfl ?_
          refine V.iconst (3 : Int32) dM_best_95 lc3 rfl ?_
          obtain ⟨q23, c24, hX⟩ := bd hX; try dsimp only at hX
          refine V.callvi 44 [.int i5, .int (3 : Int32)] dM_best_96 (kM_its c24) mlM_193 myM_its mnM_its ⟨rfl, rfl, by decide, by decide⟩ (rfl : kd 44 = (6, 0)) (by decide) rfl (Nat.le_of_ble_eq_true rfl) ⟨Nat.zero_le _, Nat.zero_le _⟩ rfl ?_
          refine V.iconst (1 : Int32) dM_best_99 lc1 rfl ?_
          refine V.iload 6 dM_best_100 rfl rfl ?_
          refine V.ishl dM_best_102 rfl ?_
          refine V.ior dM_best_103 rfl ?_
          refine V.iadd dM_best_104 rfl ?_
          obtain ⟨h25, hX⟩ := ob hX
          refine V.iald 53 dM_best_105 (rfl : kd 53 = (7, 896)) h25 rfl ?_
          refine V.goto 110 dM_best_106 rfl ?_
          refine V.sub [0, 1, 2, 3, 4, 5, 6] rfl ?_
          exact hJ110 σ i1 i2 i3 i4 i5 i6 (gI σ 53 (ix (((128 : Int32) * i6) + (q23 ||| ((1 : Int32) <<< (i6 &&& 31)))))) hX
set_option maxRecDepth 4000 in
theorem wM_best_28 {E : Ev} {z : Int32 × St} : ∀ (fu : Nat) (σ : St) (i1 : Int32) (i2 : Int32) (i3 : Int32) (i4 : Int32) (i5 : Int32), fM_best_28 fu σ i1 i2 i3 i4 i5 = some z → V E mM_best (FM E (some (.int z.1), z.2)) 28 [(0, .ref 44), (1, .int i1), (2, .int i2), (3, .int i3), (4, .int i4), (5, .int i5)] [] σ := by
  intro fu
  induction fu with
  | zero => intro σ i1 i2 i3 i4 i5 hX; cases hX
  | succ fu ih =>
    intro σ i1 i2 i3 i4 i5 hX
    rw [fM_best_28] at hX
    refine V.iload 5 dM_best_28 rfl rfl ?_
    refine V.aloadn 0 dM_best_30 rfl rfl ?_
    refine V.geti 44 dM_best_31 flM_88 (rfl : kd 44 = (6, 0)) rfl ?_
    refine V.icmpge 157 dM_best_34 rfl rfl (fun g3 => ?_) (fun g3 => ?_)
    · replace hX := ip hX g3
      refine V.iloadn 3 dM_best_157 rfl rfl ?_
      have hX := (Option.some.inj hX).symm; subst hX; exact V.iret dM_best_158 rfl rfl
    · replace hX := im hX g3
      refine V.aloadn 0 dM_best_37 rfl rfl ?_
      refine V.iload 5 dM_best_38 rfl rfl ?_
      refine V.iconst (2 : Int32) dM_best_40 lc2 rfl ?_
      obtain ⟨q4, c5, hX⟩ := bd hX; try dsimp only at hX
      refine V.callvi 44 [.int i5, .int (2 : Int32)] dM_best_41 (kM_its c5) mlM_193 myM_its mnM_its ⟨rfl, rfl, by decide, by decide⟩ (rfl : kd 44 = (6, 0)) (by decide) rfl (Nat.le_of_ble_eq_true rfl) ⟨Nat.zero_le _, Nat.zero_le _⟩ rfl ?_
      refine V.iloadn 1 dM_best_44 rfl rfl ?_
      refine V.icmpne 151 dM_best_45 rfl rfl (fun g6 => ?_) (fun g6 => ?_)
      · replace hX := im hX g6
        refine V.iinc 5 (1 : Int32) _ dM_best_151 rfl lc1 (by decide) rfl rfl ?_
        replace hX := nmx hX; generalize i5 + (1 : Int32) = v7 at hX ⊢; try dsimp only at hX
        refine V.goto 28 dM_best_154 rfl ?_
        refine V.sub [1, 2, 3, 4, 5, 0] rfl ?_
        exact ih σ i1 i2 i3 i4 v7 hX
      · replace hX := ip hX g6
        refine V.aloadn 0 dM_best_48 rfl rfl ?_
        refine V.aloadn 0 dM_best_49 rfl rfl ?_
        refine V.iload 5 dM_best_50 rfl rfl ?_
        refine V.iconst (0 : Int32) dM_best_52 lc0 rfl ?_
        obtain ⟨q8, c9, hX⟩ := bd hX; try dsimp only at hX
        refine V.callvi 44 [.int i5, .int (0 : Int32)] dM_best_53 (kM_its c9) mlM_193 myM_its mnM_its ⟨rfl, rfl, by decide, by decide⟩ (rfl : kd 44 = (6, 0)) (by decide) rfl (Nat.le_of_ble_eq_true rfl) ⟨Nat.zero_le _, Nat.zero_le _⟩ rfl ?_
        obtain ⟨σ11, c10, hX⟩ := bd hX; try dsimp only at hX
        refine V.callv0 44 [.int q8] dM_best_56 (kM_findAll c10) mlM_252 myM_findAll mnM_findAll ⟨rfl, rfl, by decide, by decide⟩ (rfl : kd 44 = (6, 0)) (by decide) rfl (Nat.le_of_ble_eq_true rfl) ⟨Nat.zero_le _, Nat.zero_le _⟩ rfl ?_
        refine V.iconst (0 : Int32) dM_best_59 lc0 rfl ?_
        refine V.istore _ dM_best_60 (by decide) rfl rfl ?_
        refine V.sub [1, 2, 3, 4, 5, 6, 0] rfl ?_
        refine wM_best_62 300 σ11 i1 i2 i3 i4 i5 (0 : Int32) _ ?_ hX
        · intro σ26 y27 y28 y29 y30 y31 hX; try dsimp only at hX
          refine V.iinc 5 (1 : Int32) _ dM_best_151 rfl lc1 (by decide) rfl rfl ?_
          replace hX := nmx hX; generalize y31 + (1 : Int32) = v32 at hX ⊢; try dsimp only at hX
          refine V.goto 28 dM_best_154 rfl ?_
          refine V.sub [1, 2, 3, 4, 5, 0] rfl ?_
          exact ih σ26 y27 y28 y29 y30 v32 hX
set_option maxRecDepth 4000 in
theorem wM_best {E : Ev} {z : Int32 × St} (σ : St) (i1 : Int32) (i2 : Int32) (hX : fM_best σ i1 i2 = some z) : V E mM_best (FM E (some (.int z.1), z.2)) 0 [(0, .ref 44), (1, .int i1), (2, .int i2)] [] σ := by
  unfold fM_best at hX
  refine V.aloadn 0 dM_best_0 rfl rfl ?_
  refine V.iloadn 1 dM_best_1 rfl rfl ?_
  refine V.callvi 44 [.int i1] dM_best_2 (kM_isPerson (σ := σ) i1) mlM_203 myM_isPerson mnM_isPerson ⟨rfl, rfl, by decide, by decide⟩ (rfl : kd 44 = (6, 0)) (by decide) rfl (Nat.le_of_ble_eq_true rfl) ⟨Nat.zero_le _, Nat.zero_le _⟩ rfl ?_
  refine V.ifeq 17 dM_best_5 rfl rfl (fun g1 => ?_) (fun g1 => ?_)
  · replace hX := ip hX g1
    refine V.iconst (-1 : Int32) dM_best_17 lcm1 rfl ?_
    have hX := (Option.some.inj hX).symm; subst hX; exact V.iret dM_best_18 rfl rfl
  · replace hX := im hX g1
    refine V.iloadn 2 dM_best_8 rfl rfl ?_
    refine V.iconst (0 : Int32) dM_best_9 lc0 rfl ?_
    refine V.iconst (2 : Int32) dM_best_10 lc2 rfl ?_
    refine V.callsi [.int i2, .int (0 : Int32), .int (2 : Int32)] dM_best_11 (kM_in (σ := σ) i2 (0 : Int32) (2 : Int32)) mlM_84 myM_in mnM_in ⟨rfl, rfl, by decide, by decide⟩ rfl (Nat.le_of_ble_eq_true rfl) ⟨Nat.zero_le _, Nat.zero_le _⟩ rfl ?_
    refine V.ifne 19 dM_best_14 rfl rfl (fun g2 => ?_) (fun g2 => ?_)
    · replace hX := im hX g2
      refine V.bipush (-3 : Int32) dM_best_19 lbm3 rfl ?_
      refine V.istoren _ dM_best_21 (by decide) rfl rfl ?_
      refine V.iconst (-1 : Int32) dM_best_22 lcm1 rfl ?_
      refine V.istore _ dM_best_23 (by decide) rfl rfl ?_
      refine V.iconst (0 : Int32) dM_best_25 lc0 rfl ?_
      refine V.istore _ dM_best_26 (by decide) rfl rfl ?_
      refine V.sub [3, 4, 5, 2, 1, 0] rfl ?_
      exact wM_best_28 300 σ i1 i2 (-3 : Int32) (-1 : Int32) (0 : Int32) hX
    · replace hX := ip hX g2
      refine V.iconst (-1 : Int32) dM_best_17 lcm1 rfl ?_
      have hX := (Option.some.inj hX).symm; subst hX; exact V.iret dM_best_18 rfl rfl
theorem kM_best {E : Ev} {σ σ2 : St} {i1 : Int32} {i2 : Int32} {z : Int32} (h : fM_best σ i1 i2 = some (z, σ2)) : Ct mM_best E [.ref 44, .int i1, .int i2] σ (some (.int z), σ2) := Ct.of (by decide) (Nat.le_of_ble_eq_true rfl) (wM_best σ i1 i2 h)
theorem dM_given_0 : decode mM_given.1 0 = .ok (.iconst 0, 1) := by decide +kernel
theorem dM_given_1 : decode mM_given.1 1 = .ok (.istore_n 3, 1) := by decide +kernel
theorem dM_given_2 : decode mM_given.1 2 = .ok (.iconst 0, 1) := by decide +kernel
theorem dM_given_3 : decode mM_given.1 3 = .ok (.istore 4, 2) := by decide +kernel
theorem dM_given_5 : decode mM_given.1 5 = .ok (.iload 4, 2) := by decide +kernel
theorem dM_given_7 : decode mM_given.1 7 = .ok (.aload_n 0, 1) := by decide +kernel
theorem dM_given_8 : decode mM_given.1 8 = .ok (.getfield 88, 3) := by decide +kernel
theorem dM_given_11 : decode mM_given.1 11 = .ok (.if_icmp .ge 41, 3) := by decide +kernel
theorem dM_given_14 : decode mM_given.1 14 = .ok (.iload_n 3, 1) := by decide +kernel
theorem dM_given_15 : decode mM_given.1 15 = .ok (.aload_n 0, 1) := by decide +kernel
theorem dM_given_16 : decode mM_given.1 16 = .ok (.iload 4, 2) := by decide +kernel
theorem dM_given_18 : decode mM_given.1 18 = .ok (.iconst 2, 1) := by decide +kernel
theorem dM_given_19 : decode mM_given.1 19 = .ok (.invokevirtual 193, 3) := by decide +kernel
theorem dM_given_22 : decode mM_given.1 22 = .ok (.iload_n 1, 1) := by decide +kernel
theorem dM_given_23 : decode mM_given.1 23 = .ok (.if_icmp .ne 20, 3) := by decide +kernel
theorem dM_given_26 : decode mM_given.1 26 = .ok (.aload_n 0, 1) := by decide +kernel
theorem dM_given_27 : decode mM_given.1 27 = .ok (.iload 4, 2) := by decide +kernel
theorem dM_given_29 : decode mM_given.1 29 = .ok (.iload_n 2, 1) := by decide +kernel
theorem dM_given_30 : decode mM_given.1 30 = .ok (.invokevirtual 220, 3) := by decide +kernel
theorem dM_given_33 : decode mM_given.1 33 = .ok (.ifCond .eq 10, 3) := by decide +kernel
theorem dM_given_36 : decode mM_given.1 36 = .ok (.iconst 1, 1) := by decide +kernel
theorem dM_given_37 : decode mM_given.1 37 = .ok (.iload 4, 2) := by decide +kernel
theorem dM_given_39 : decode mM_given.1 39 = .ok (.ishl, 1) := by decide +kernel
theorem dM_given_40 : decode mM_given.1 40 = .ok (.goto 4, 3) := by decide +kernel
theorem dM_given_43 : decode mM_given.1 43 = .ok (.iconst 0, 1) := by decide +kernel
theorem dM_given_44 : decode mM_given.1 44 = .ok (.ior, 1) := by decide +kernel
theorem dM_given_45 : decode mM_given.1 45 = .ok (.istore_n 3, 1) := by decide +kernel
theorem dM_given_46 : decode mM_given.1 46 = .ok (.iinc 4 1, 3) := by decide +kernel
theorem dM_given_49 : decode mM_given.1 49 = .ok (.goto (-44), 3) := by decide +kernel
theorem dM_given_52 : decode mM_given.1 52 = .ok (.iload_n 3, 1) := by decide +kernel
theorem dM_given_53 : decode mM_given.1 53 = .ok (.ireturn, 1) := by decide +kernel
set_option maxRecDepth 4000 in
theorem wM_given_5 {E : Ev} {z : Int32} : ∀ (fu : Nat) (σ : St) (i1 : Int32) (i2 : Int32) (i3 : Int32) (i4 : Int32), fM_given_5 fu σ i1 i2 i3 i4 = some z → V E mM_given (FM E (some (.int z), σ)) 5 [(0, .ref 44), (1, .int i1), (2, .int i2), (3, .int i3), (4, .int i4)] [] σ := by
  intro fu
  induction fu with
  | zero => intro σ i1 i2 i3 i4 hX; cases hX
  | succ fu ih =>
    intro σ i1 i2 i3 i4 hX
    rw [fM_given_5] at hX
    refine V.iload 4 dM_given_5 rfl rfl ?_
    refine V.aloadn 0 dM_given_7 rfl rfl ?_
    refine V.geti 44 dM_given_8 flM_88 (rfl : kd 44 = (6, 0)) rfl ?_
    refine V.icmpge 52 dM_given_11 rfl rfl (fun g1 => ?_) (fun g1 => ?_)
    · replace hX := ip hX g1
      refine V.iloadn 3 dM_given_52 rfl rfl ?_
      have hX := (Option.some.inj hX).symm; subst hX; exact V.iret dM_given_53 rfl rfl
    · replace hX := im hX g1
      refine V.iloadn 3 dM_given_14 rfl rfl ?_
      refine V.aloadn 0 dM_given_15 rfl rfl ?_
      refine V.iload 4 dM_given_16 rfl rfl ?_
      refine V.iconst (2 : Int32) dM_given_18 lc2 rfl ?_
      obtain ⟨q2, c3, hX⟩ := bd hX; try dsimp only at hX
      refine V.callvi 44 [.int i4, .int (2 : Int32)] dM_given_19 (kM_its c3) mlM_193 myM_its mnM_its ⟨rfl, rfl, by decide, by decide⟩ (rfl : kd 44 = (6, 0)) (by decide) rfl (Nat.le_of_ble_eq_true rfl) ⟨Nat.zero_le _, Nat.zero_le _⟩ rfl ?_
      refine V.iloadn 1 dM_given_22 rfl rfl ?_
      refine V.icmpne 43 dM_given_23 rfl rfl (fun g4 => ?_) (fun g4 => ?_)
      · replace hX := im hX g4
        refine V.iconst (0 : Int32) dM_given_43 lc0 rfl ?_
        refine V.ior dM_given_44 rfl ?_
        refine V.istoren _ dM_given_45 (by decide) rfl rfl ?_
        replace hX := nmx hX; generalize i3 ||| (0 : Int32) = v5 at hX ⊢; try dsimp only at hX
        refine V.iinc 4 (1 : Int32) _ dM_given_46 rfl lc1 (by decide) rfl rfl ?_
        replace hX := nmx hX; generalize i4 + (1 : Int32) = v6 at hX ⊢; try dsimp only at hX
        refine V.goto 5 dM_given_49 rfl ?_
        refine V.sub [2, 3, 4, 1, 0] rfl ?_
        exact ih σ i1 i2 v5 v6 hX
      · replace hX := ip hX g4
        refine V.aloadn 0 dM_given_26 rfl rfl ?_
        refine V.iload 4 dM_given_27 rfl rfl ?_
        refine V.iloadn 2 dM_given_29 rfl rfl ?_
        obtain ⟨q7, c8, hX⟩ := bd hX; try dsimp only at hX
        refine V.callvi 44 [.int i4, .int i2] dM_given_30 (kM_mayNow c8) mlM_220 myM_mayNow mnM_mayNow ⟨rfl, rfl, by decide, by decide⟩ (rfl : kd 44 = (6, 0)) (by decide) rfl (Nat.le_of_ble_eq_true rfl) ⟨Nat.zero_le _, Nat.zero_le _⟩ rfl ?_
        have JJ : V E mM_given (FM E (some (.int z), σ)) 44 [(0, .ref 44), (1, .int i1), (2, .int i2), (3, .int i3), (4, .int i4)] [.int (if q7 = 0 then (0 : Int32) else (1 : Int32) <<< (i4 &&& 31)), .int i3] σ := by
          refine V.ior dM_given_44 rfl ?_
          refine V.istoren _ dM_given_45 (by decide) rfl rfl ?_
          replace hX := nmx hX; generalize i3 ||| (if q7 = 0 then (0 : Int32) else (1 : Int32) <<< (i4 &&& 31)) = v9 at hX ⊢; try dsimp only at hX
          refine V.iinc 4 (1 : Int32) _ dM_given_46 rfl lc1 (by decide) rfl rfl ?_
          replace hX := nmx hX; generalize i4 + (1 : Int32) = v10 at hX ⊢; try dsimp only at hX
          refine V.goto 5 dM_given_49 rfl ?_
          refine V.sub [2, 3, 4, 1, 0] rfl ?_
          exact ih σ i1 i2 v9 v10 hX
        refine V.ifeq 43 dM_given_33 rfl rfl (fun g11 => ?_) (fun g11 => ?_)
        · refine V.iconst (0 : Int32) dM_given_43 lc0 rfl ?_
          exact V.top (if_pos g11).symm JJ
        · refine V.iconst (1 : Int32) dM_given_36 lc1 rfl ?_
          refine V.iload 4 dM_given_37 rfl rfl ?_
          refine V.ishl dM_given_39 rfl ?_
          refine V.goto 44 dM_given_40 rfl ?_
          exact V.top (if_neg g11).symm JJ
set_option maxRecDepth 4000 in
theorem wM_given {E : Ev} {z : Int32} (σ : St) (i1 : Int32) (i2 : Int32) (hX : fM_given σ i1 i2 = some z) : V E mM_given (FM E (some (.int z), σ)) 0 [(0, .ref 44), (1, .int i1), (2, .int i2)] [] σ := by
  unfold fM_given at hX
  refine V.iconst (0 : Int32) dM_given_0 lc0 rfl ?_
  refine V.istoren _ dM_given_1 (by decide) rfl rfl ?_
  refine V.iconst (0 : Int32) dM_given_2 lc0 rfl ?_
  refine V.istore _ dM_given_3 (by decide) rfl rfl ?_
  refine V.sub [2, 3, 4, 1, 0] rfl ?_
  exact wM_given_5 300 σ i1 i2 (0 : Int32) (0 : Int32) hX
theorem kM_given {E : Ev} {σ : St} {i1 : Int32} {i2 : Int32} {z : Int32} (h : fM_given σ i1 i2 = some z) : Ct mM_given E [.ref 44, .int i1, .int i2] σ (some (.int z), σ) := Ct.of (by decide) (Nat.le_of_ble_eq_true rfl) (wM_given σ i1 i2 h)
