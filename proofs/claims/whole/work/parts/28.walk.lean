theorem dM_coin_0 : decode mM_coin.1 0 = .ok (.iload_n 1, 1) := by decide +kernel
theorem dM_coin_1 : decode mM_coin.1 1 = .ok (.iconst 0, 1) := by decide +kernel
theorem dM_coin_2 : decode mM_coin.1 2 = .ok (.iconst 5, 1) := by decide +kernel
theorem dM_coin_3 : decode mM_coin.1 3 = .ok (.invokestatic 84, 3) := by decide +kernel
theorem dM_coin_6 : decode mM_coin.1 6 = .ok (.ifCond .eq 21, 3) := by decide +kernel
theorem dM_coin_9 : decode mM_coin.1 9 = .ok (.iload_n 2, 1) := by decide +kernel
theorem dM_coin_10 : decode mM_coin.1 10 = .ok (.iconst 1, 1) := by decide +kernel
theorem dM_coin_11 : decode mM_coin.1 11 = .ok (.bipush 99, 2) := by decide +kernel
theorem dM_coin_13 : decode mM_coin.1 13 = .ok (.invokestatic 84, 3) := by decide +kernel
theorem dM_coin_16 : decode mM_coin.1 16 = .ok (.ifCond .eq 11, 3) := by decide +kernel
theorem dM_coin_19 : decode mM_coin.1 19 = .ok (.aload_n 0, 1) := by decide +kernel
theorem dM_coin_20 : decode mM_coin.1 20 = .ok (.iload_n 3, 1) := by decide +kernel
theorem dM_coin_21 : decode mM_coin.1 21 = .ok (.invokevirtual 203, 3) := by decide +kernel
theorem dM_coin_24 : decode mM_coin.1 24 = .ok (.ifCond .ne 5, 3) := by decide +kernel
theorem dM_coin_27 : decode mM_coin.1 27 = .ok (.iconst (-1), 1) := by decide +kernel
theorem dM_coin_28 : decode mM_coin.1 28 = .ok (.ireturn, 1) := by decide +kernel
theorem dM_coin_29 : decode mM_coin.1 29 = .ok (.aload_n 0, 1) := by decide +kernel
theorem dM_coin_30 : decode mM_coin.1 30 = .ok (.getfield 88, 3) := by decide +kernel
theorem dM_coin_33 : decode mM_coin.1 33 = .ok (.bipush 6, 2) := by decide +kernel
theorem dM_coin_35 : decode mM_coin.1 35 = .ok (.if_icmp .ne 6, 3) := by decide +kernel
theorem dM_coin_38 : decode mM_coin.1 38 = .ok (.bipush (-2), 2) := by decide +kernel
theorem dM_coin_40 : decode mM_coin.1 40 = .ok (.ireturn, 1) := by decide +kernel
theorem dM_coin_41 : decode mM_coin.1 41 = .ok (.aload_n 0, 1) := by decide +kernel
theorem dM_coin_42 : decode mM_coin.1 42 = .ok (.getfield 19, 3) := by decide +kernel
theorem dM_coin_45 : decode mM_coin.1 45 = .ok (.iconst 4, 1) := by decide +kernel
theorem dM_coin_46 : decode mM_coin.1 46 = .ok (.aload_n 0, 1) := by decide +kernel
theorem dM_coin_47 : decode mM_coin.1 47 = .ok (.getfield 88, 3) := by decide +kernel
theorem dM_coin_50 : decode mM_coin.1 50 = .ok (.imul, 1) := by decide +kernel
theorem dM_coin_51 : decode mM_coin.1 51 = .ok (.iload_n 1, 1) := by decide +kernel
theorem dM_coin_52 : decode mM_coin.1 52 = .ok (.iastore, 1) := by decide +kernel
theorem dM_coin_53 : decode mM_coin.1 53 = .ok (.aload_n 0, 1) := by decide +kernel
theorem dM_coin_54 : decode mM_coin.1 54 = .ok (.getfield 19, 3) := by decide +kernel
theorem dM_coin_57 : decode mM_coin.1 57 = .ok (.iconst 4, 1) := by decide +kernel
theorem dM_coin_58 : decode mM_coin.1 58 = .ok (.aload_n 0, 1) := by decide +kernel
theorem dM_coin_59 : decode mM_coin.1 59 = .ok (.getfield 88, 3) := by decide +kernel
theorem dM_coin_62 : decode mM_coin.1 62 = .ok (.imul, 1) := by decide +kernel
theorem dM_coin_63 : decode mM_coin.1 63 = .ok (.iconst 1, 1) := by decide +kernel
theorem dM_coin_64 : decode mM_coin.1 64 = .ok (.iadd, 1) := by decide +kernel
theorem dM_coin_65 : decode mM_coin.1 65 = .ok (.iload_n 2, 1) := by decide +kernel
theorem dM_coin_66 : decode mM_coin.1 66 = .ok (.iastore, 1) := by decide +kernel
theorem dM_coin_67 : decode mM_coin.1 67 = .ok (.aload_n 0, 1) := by decide +kernel
theorem dM_coin_68 : decode mM_coin.1 68 = .ok (.getfield 19, 3) := by decide +kernel
theorem dM_coin_71 : decode mM_coin.1 71 = .ok (.iconst 4, 1) := by decide +kernel
theorem dM_coin_72 : decode mM_coin.1 72 = .ok (.aload_n 0, 1) := by decide +kernel
theorem dM_coin_73 : decode mM_coin.1 73 = .ok (.getfield 88, 3) := by decide +kernel
theorem dM_coin_76 : decode mM_coin.1 76 = .ok (.imul, 1) := by decide +kernel
theorem dM_coin_77 : decode mM_coin.1 77 = .ok (.iconst 2, 1) := by decide +kernel
theorem dM_coin_78 : decode mM_coin.1 78 = .ok (.iadd, 1) := by decide +kernel
theorem dM_coin_79 : decode mM_coin.1 79 = .ok (.iload_n 3, 1) := by decide +kernel
theorem dM_coin_80 : decode mM_coin.1 80 = .ok (.iastore, 1) := by decide +kernel
theorem dM_coin_81 : decode mM_coin.1 81 = .ok (.aload_n 0, 1) := by decide +kernel
theorem dM_coin_82 : decode mM_coin.1 82 = .ok (.getfield 19, 3) := by decide +kernel
theorem dM_coin_85 : decode mM_coin.1 85 = .ok (.iconst 4, 1) := by decide +kernel
theorem dM_coin_86 : decode mM_coin.1 86 = .ok (.aload_n 0, 1) := by decide +kernel
theorem dM_coin_87 : decode mM_coin.1 87 = .ok (.getfield 88, 3) := by decide +kernel
theorem dM_coin_90 : decode mM_coin.1 90 = .ok (.imul, 1) := by decide +kernel
theorem dM_coin_91 : decode mM_coin.1 91 = .ok (.iconst 3, 1) := by decide +kernel
theorem dM_coin_92 : decode mM_coin.1 92 = .ok (.iadd, 1) := by decide +kernel
theorem dM_coin_93 : decode mM_coin.1 93 = .ok (.iconst 1, 1) := by decide +kernel
theorem dM_coin_94 : decode mM_coin.1 94 = .ok (.iload_n 3, 1) := by decide +kernel
theorem dM_coin_95 : decode mM_coin.1 95 = .ok (.ishl, 1) := by decide +kernel
theorem dM_coin_96 : decode mM_coin.1 96 = .ok (.iastore, 1) := by decide +kernel
theorem dM_coin_97 : decode mM_coin.1 97 = .ok (.aload_n 0, 1) := by decide +kernel
theorem dM_coin_98 : decode mM_coin.1 98 = .ok (.dup, 1) := by decide +kernel
theorem dM_coin_99 : decode mM_coin.1 99 = .ok (.getfield 88, 3) := by decide +kernel
theorem dM_coin_102 : decode mM_coin.1 102 = .ok (.iconst 1, 1) := by decide +kernel
theorem dM_coin_103 : decode mM_coin.1 103 = .ok (.iadd, 1) := by decide +kernel
theorem dM_coin_104 : decode mM_coin.1 104 = .ok (.putfield 88, 3) := by decide +kernel
theorem dM_coin_107 : decode mM_coin.1 107 = .ok (.aload_n 0, 1) := by decide +kernel
theorem dM_coin_108 : decode mM_coin.1 108 = .ok (.getfield 88, 3) := by decide +kernel
theorem dM_coin_111 : decode mM_coin.1 111 = .ok (.iconst 1, 1) := by decide +kernel
theorem dM_coin_112 : decode mM_coin.1 112 = .ok (.isub, 1) := by decide +kernel
theorem dM_coin_113 : decode mM_coin.1 113 = .ok (.ireturn, 1) := by decide +kernel
set_option maxRecDepth 4000 in
theorem wM_coin {E : Ev} {z : Int32 × St} (σ : St) (i1 : Int32) (i2 : Int32) (i3 : Int32) (hX : fM_coin σ i1 i2 i3 = some z) : V E mM_coin (FM E (some (.int z.1), z.2)) 0 [(0, .ref 44), (1, .int i1), (2, .int i2), (3, .int i3)] [] σ := by
  unfold fM_coin at hX
  refine V.iloadn 1 dM_coin_0 rfl rfl ?_
  refine V.iconst (0 : Int32) dM_coin_1 lc0 rfl ?_
  refine V.iconst (5 : Int32) dM_coin_2 lc5 rfl ?_
  refine V.callsi [.int i1, .int (0 : Int32), .int (5 : Int32)] dM_coin_3 (kM_in (σ := σ) i1 (0 : Int32) (5 : Int32)) mlM_84 myM_in mnM_in ⟨rfl, rfl, by decide, by decide⟩ rfl (Nat.le_of_ble_eq_true rfl) ⟨Nat.zero_le _, Nat.zero_le _⟩ rfl ?_
  refine V.ifeq 27 dM_coin_6 rfl rfl (fun g1 => ?_) (fun g1 => ?_)
  · replace hX := ip hX g1
    refine V.iconst (-1 : Int32) dM_coin_27 lcm1 rfl ?_
    have hX := (Option.some.inj hX).symm; subst hX; exact V.iret dM_coin_28 rfl rfl
  · replace hX := im hX g1
    refine V.iloadn 2 dM_coin_9 rfl rfl ?_
    refine V.iconst (1 : Int32) dM_coin_10 lc1 rfl ?_
    refine V.bipush (99 : Int32) dM_coin_11 lb99 rfl ?_
    refine V.callsi [.int i2, .int (1 : Int32), .int (99 : Int32)] dM_coin_13 (kM_in (σ := σ) i2 (1 : Int32) (99 : Int32)) mlM_84 myM_in mnM_in ⟨rfl, rfl, by decide, by decide⟩ rfl (Nat.le_of_ble_eq_true rfl) ⟨Nat.zero_le _, Nat.zero_le _⟩ rfl ?_
    refine V.ifeq 27 dM_coin_16 rfl rfl (fun g2 => ?_) (fun g2 => ?_)
    · replace hX := ip hX g2
      refine V.iconst (-1 : Int32) dM_coin_27 lcm1 rfl ?_
      have hX := (Option.some.inj hX).symm; subst hX; exact V.iret dM_coin_28 rfl rfl
    · replace hX := im hX g2
      refine V.aloadn 0 dM_coin_19 rfl rfl ?_
      refine V.iloadn 3 dM_coin_20 rfl rfl ?_
      refine V.callvi 44 [.int i3] dM_coin_21 (kM_isPerson (σ := σ) i3) mlM_203 myM_isPerson mnM_isPerson ⟨rfl, rfl, by decide, by decide⟩ (rfl : kd 44 = (6, 0)) (by decide) rfl (Nat.le_of_ble_eq_true rfl) ⟨Nat.zero_le _, Nat.zero_le _⟩ rfl ?_
      refine V.ifne 29 dM_coin_24 rfl rfl (fun g3 => ?_) (fun g3 => ?_)
      · replace hX := im hX g3
        refine V.aloadn 0 dM_coin_29 rfl rfl ?_
        refine V.geti 44 dM_coin_30 flM_88 (rfl : kd 44 = (6, 0)) rfl ?_
        refine V.bipush (6 : Int32) dM_coin_33 lb6 rfl ?_
        refine V.icmpne 41 dM_coin_35 rfl rfl (fun g4 => ?_) (fun g4 => ?_)
        · replace hX := im hX g4
          refine V.aloadn 0 dM_coin_41 rfl rfl ?_
          refine V.getr 44 48 dM_coin_42 flM_19 (rfl : kd 44 = (6, 0)) rfl rfl ?_
          refine V.iconst (4 : Int32) dM_coin_45 lc4 rfl ?_
          refine V.aloadn 0 dM_coin_46 rfl rfl ?_
          refine V.geti 44 dM_coin_47 flM_88 (rfl : kd 44 = (6, 0)) rfl ?_
          refine V.imul dM_coin_50 rfl ?_
          refine V.iloadn 1 dM_coin_51 rfl rfl ?_
          obtain ⟨h5, hX⟩ := ob hX
          refine V.iast 48 dM_coin_52 (rfl : kd 48 = (7, 24)) h5 rfl ?_
          replace hX := nmx hX; generalize sI σ 48 (ix ((4 : Int32) * (gI σ 44 4))) i1 = σ6 at hX ⊢; try dsimp only at hX
          refine V.aloadn 0 dM_coin_53 rfl rfl ?_
          refine V.getr 44 48 dM_coin_54 flM_19 (rfl : kd 44 = (6, 0)) rfl rfl ?_
          refine V.iconst (4 : Int32) dM_coin_57 lc4 rfl ?_
          refine V.aloadn 0 dM_coin_58 rfl rfl ?_
          refine V.geti 44 dM_coin_59 flM_88 (rfl : kd 44 = (6, 0)) rfl ?_
          refine V.imul dM_coin_62 rfl ?_
          refine V.iconst (1 : Int32) dM_coin_63 lc1 rfl ?_
          refine V.iadd dM_coin_64 rfl ?_
          refine V.iloadn 2 dM_coin_65 rfl rfl ?_
          obtain ⟨h7, hX⟩ := ob hX
          refine V.iast 48 dM_coin_66 (rfl : kd 48 = (7, 24)) h7 rfl ?_
          replace hX := nmx hX; generalize sI σ6 48 (ix (((4 : Int32) * (gI σ6 44 4)) + (1 : Int32))) i2 = σ8 at hX ⊢; try dsimp only at hX
          refine V.aloadn 0 dM_coin_67 rfl rfl ?_
          refine V.getr 44 48 dM_coin_68 flM_19 (rfl : kd 44 = (6, 0)) rfl rfl ?_
          refine V.iconst (4 : Int32) dM_coin_71 lc4 rfl ?_
          refine V.aloadn 0 dM_coin_72 rfl rfl ?_
          refine V.geti 44 dM_coin_73 flM_88 (rfl : kd 44 = (6, 0)) rfl ?_
          refine V.imul dM_coin_76 rfl ?_
          refine V.iconst (2 : Int32) dM_coin_77 lc2 rfl ?_
          refine V.iadd dM_coin_78 rfl ?_
          refine V.iloadn 3 dM_coin_79 rfl rfl ?_
          obtain ⟨h9, hX⟩ := ob hX
          refine V.iast 48 dM_coin_80 (rfl : kd 48 = (7, 24)) h9 rfl ?_
          replace hX := nmx hX; generalize sI σ8 48 (ix (((4 : Int32) * (gI σ8 44 4)) + (2 : Int32))) i3 = σ10 at hX ⊢; try dsimp only at hX
          refine V.aloadn 0 dM_coin_81 rfl rfl ?_
          refine V.getr 44 48 dM_coin_82 flM_19 (rfl : kd 44 = (6, 0)) rfl rfl ?_
          refine V.iconst (4 : Int32) dM_coin_85 lc4 rfl ?_
          refine V.aloadn 0 dM_coin_86 rfl rfl ?_
          refine V.geti 44 dM_coin_87 flM_88 (rfl : kd 44 = (6, 0)) rfl ?_
          refine V.imul dM_coin_90 rfl ?_
          refine V.iconst (3 : Int32) dM_coin_91 lc3 rfl ?_
          refine V.iadd dM_coin_92 rfl ?_
          refine V.iconst (1 : Int32) dM_coin_93 lc1 rfl ?_
          refine V.iloadn 3 dM_coin_94 rfl rfl ?_
          refine V.ishl dM_coin_95 rfl ?_
          obtain ⟨h11, hX⟩ := ob hX
          refine V.iast 48 dM_coin_96 (rfl : kd 48 = (7, 24)) h11 rfl ?_
          replace hX := nmx hX; generalize sI σ10 48 (ix (((4 : Int32) * (gI σ10 44 4)) + (3 : Int32))) ((1 : Int32) <<< (i3 &&& 31)) = σ12 at hX ⊢; try dsimp only at hX
          refine V.aloadn 0 dM_coin_97 rfl rfl ?_
          refine V.dup dM_coin_98 rfl rfl ?_
          refine V.geti 44 dM_coin_99 flM_88 (rfl : kd 44 = (6, 0)) rfl ?_
          refine V.iconst (1 : Int32) dM_coin_102 lc1 rfl ?_
          refine V.iadd dM_coin_103 rfl ?_
          refine V.puti 44 .int dM_coin_104 flM_88 fw6_4 (rfl : kd 44 = (6, 0)) ⟨rfl, rfl⟩ rfl ?_
          replace hX := nmx hX; generalize sI σ12 44 4 ((gI σ12 44 4) + (1 : Int32)) = σ13 at hX ⊢; try dsimp only at hX
          refine V.aloadn 0 dM_coin_107 rfl rfl ?_
          refine V.geti 44 dM_coin_108 flM_88 (rfl : kd 44 = (6, 0)) rfl ?_
          refine V.iconst (1 : Int32) dM_coin_111 lc1 rfl ?_
          refine V.isub dM_coin_112 rfl ?_
          have hX := (Option.some.inj hX).symm; subst hX; exact V.iret dM_coin_113 rfl rfl
        · replace hX := ip hX g4
          refine V.bipush (-2 : Int32) dM_coin_38 lbm2 rfl ?_
          have hX := (Option.some.inj hX).symm; subst hX; exact V.iret dM_coin_40 rfl rfl
      · replace hX := ip hX g3
        refine V.iconst (-1 : Int32) dM_coin_27 lcm1 rfl ?_
        have hX := (Option.some.inj hX).symm; subst hX; exact V.iret dM_coin_28 rfl rfl
theorem kM_coin {E : Ev} {σ σ2 : St} {i1 : Int32} {i2 : Int32} {i3 : Int32} {z : Int32} (h : fM_coin σ i1 i2 i3 = some (z, σ2)) : Ct mM_coin E [.ref 44, .int i1, .int i2, .int i3] σ (some (.int z), σ2) := Ct.of (by decide) (Nat.le_of_ble_eq_true rfl) (wM_coin σ i1 i2 i3 h)
theorem dM_isCoin_0 : decode mM_isCoin.1 0 = .ok (.iload_n 1, 1) := by decide +kernel
theorem dM_isCoin_1 : decode mM_isCoin.1 1 = .ok (.iconst 0, 1) := by decide +kernel
theorem dM_isCoin_2 : decode mM_isCoin.1 2 = .ok (.aload_n 0, 1) := by decide +kernel
theorem dM_isCoin_3 : decode mM_isCoin.1 3 = .ok (.getfield 88, 3) := by decide +kernel
theorem dM_isCoin_6 : decode mM_isCoin.1 6 = .ok (.iconst 1, 1) := by decide +kernel
theorem dM_isCoin_7 : decode mM_isCoin.1 7 = .ok (.isub, 1) := by decide +kernel
theorem dM_isCoin_8 : decode mM_isCoin.1 8 = .ok (.invokestatic 84, 3) := by decide +kernel
theorem dM_isCoin_11 : decode mM_isCoin.1 11 = .ok (.ireturn, 1) := by decide +kernel
set_option maxRecDepth 4000 in
theorem wM_isCoin {E : Ev} {z : Int32} (σ : St) (i1 : Int32) (hX : fM_isCoin σ i1 = z) : V E mM_isCoin (FM E (some (.int z), σ)) 0 [(0, .ref 44), (1, .int i1)] [] σ := by
  unfold fM_isCoin at hX
  refine V.iloadn 1 dM_isCoin_0 rfl rfl ?_
  refine V.iconst (0 : Int32) dM_isCoin_1 lc0 rfl ?_
  refine V.aloadn 0 dM_isCoin_2 rfl rfl ?_
  refine V.geti 44 dM_isCoin_3 flM_88 (rfl : kd 44 = (6, 0)) rfl ?_
  refine V.iconst (1 : Int32) dM_isCoin_6 lc1 rfl ?_
  refine V.isub dM_isCoin_7 rfl ?_
  refine V.callsi [.int i1, .int (0 : Int32), .int ((gI σ 44 4) - (1 : Int32))] dM_isCoin_8 (kM_in (σ := σ) i1 (0 : Int32) ((gI σ 44 4) - (1 : Int32))) mlM_84 myM_in mnM_in ⟨rfl, rfl, by decide, by decide⟩ rfl (Nat.le_of_ble_eq_true rfl) ⟨Nat.zero_le _, Nat.zero_le _⟩ rfl ?_
  subst hX; exact V.zret .boolean dM_isCoin_11 rfl (nz (bM_in i1 (0 : Int32) ((gI σ 44 4) - (1 : Int32)))).1 rfl
theorem kM_isCoin {E : Ev} {σ : St} (i1 : Int32) : Ct mM_isCoin E [.ref 44, .int i1] σ (some (.int (fM_isCoin σ i1)), σ) := Ct.of (by decide) (Nat.le_of_ble_eq_true rfl) (wM_isCoin σ i1 rfl)
theorem bM_isCoin (σ : St) (i1 : Int32) : b01 (fM_isCoin σ i1) := by
  unfold fM_isCoin
  exact (bM_in i1 (0 : Int32) ((gI σ 44 4) - (1 : Int32)))
theorem dM_mayBe_0 : decode mM_mayBe.1 0 = .ok (.iload_n 3, 1) := by decide +kernel
theorem dM_mayBe_1 : decode mM_mayBe.1 1 = .ok (.iload 4, 2) := by decide +kernel
theorem dM_mayBe_3 : decode mM_mayBe.1 3 = .ok (.invokestatic 196, 3) := by decide +kernel
theorem dM_mayBe_6 : decode mM_mayBe.1 6 = .ok (.ifCond .ne 21, 3) := by decide +kernel
theorem dM_mayBe_9 : decode mM_mayBe.1 9 = .ok (.aload_n 0, 1) := by decide +kernel
theorem dM_mayBe_10 : decode mM_mayBe.1 10 = .ok (.getfield 16, 3) := by decide +kernel
theorem dM_mayBe_13 : decode mM_mayBe.1 13 = .ok (.iload_n 2, 1) := by decide +kernel
theorem dM_mayBe_14 : decode mM_mayBe.1 14 = .ok (.iaload, 1) := by decide +kernel
theorem dM_mayBe_15 : decode mM_mayBe.1 15 = .ok (.iload 4, 2) := by decide +kernel
theorem dM_mayBe_17 : decode mM_mayBe.1 17 = .ok (.invokestatic 196, 3) := by decide +kernel
theorem dM_mayBe_20 : decode mM_mayBe.1 20 = .ok (.ifCond .eq 7, 3) := by decide +kernel
theorem dM_mayBe_23 : decode mM_mayBe.1 23 = .ok (.iconst 1, 1) := by decide +kernel
theorem dM_mayBe_24 : decode mM_mayBe.1 24 = .ok (.goto 4, 3) := by decide +kernel
theorem dM_mayBe_27 : decode mM_mayBe.1 27 = .ok (.iconst 0, 1) := by decide +kernel
theorem dM_mayBe_28 : decode mM_mayBe.1 28 = .ok (.istore 5, 2) := by decide +kernel
theorem dM_mayBe_30 : decode mM_mayBe.1 30 = .ok (.iload_n 1, 1) := by decide +kernel
theorem dM_mayBe_31 : decode mM_mayBe.1 31 = .ok (.tableswitch 130 2 5 #[29, 56, 78, 115], 29) := by decide +kernel
theorem dM_mayBe_60 : decode mM_mayBe.1 60 = .ok (.iload 5, 2) := by decide +kernel
theorem dM_mayBe_62 : decode mM_mayBe.1 62 = .ok (.ifCond .eq 23, 3) := by decide +kernel
theorem dM_mayBe_65 : decode mM_mayBe.1 65 = .ok (.aload_n 0, 1) := by decide +kernel
theorem dM_mayBe_66 : decode mM_mayBe.1 66 = .ok (.getfield 7, 3) := by decide +kernel
theorem dM_mayBe_69 : decode mM_mayBe.1 69 = .ok (.iload 4, 2) := by decide +kernel
theorem dM_mayBe_71 : decode mM_mayBe.1 71 = .ok (.iaload, 1) := by decide +kernel
theorem dM_mayBe_72 : decode mM_mayBe.1 72 = .ok (.aload_n 0, 1) := by decide +kernel
theorem dM_mayBe_73 : decode mM_mayBe.1 73 = .ok (.getfield 7, 3) := by decide +kernel
theorem dM_mayBe_76 : decode mM_mayBe.1 76 = .ok (.iload_n 2, 1) := by decide +kernel
theorem dM_mayBe_77 : decode mM_mayBe.1 77 = .ok (.iaload, 1) := by decide +kernel
theorem dM_mayBe_78 : decode mM_mayBe.1 78 = .ok (.if_icmp .lt 7, 3) := by decide +kernel
theorem dM_mayBe_81 : decode mM_mayBe.1 81 = .ok (.iconst 1, 1) := by decide +kernel
theorem dM_mayBe_82 : decode mM_mayBe.1 82 = .ok (.goto 4, 3) := by decide +kernel
theorem dM_mayBe_85 : decode mM_mayBe.1 85 = .ok (.iconst 0, 1) := by decide +kernel
theorem dM_mayBe_86 : decode mM_mayBe.1 86 = .ok (.ireturn, 1) := by decide +kernel
theorem dM_mayBe_87 : decode mM_mayBe.1 87 = .ok (.iload 5, 2) := by decide +kernel
theorem dM_mayBe_89 : decode mM_mayBe.1 89 = .ok (.ifCond .eq 18, 3) := by decide +kernel
theorem dM_mayBe_92 : decode mM_mayBe.1 92 = .ok (.aload_n 0, 1) := by decide +kernel
theorem dM_mayBe_93 : decode mM_mayBe.1 93 = .ok (.getfield 7, 3) := by decide +kernel
theorem dM_mayBe_96 : decode mM_mayBe.1 96 = .ok (.iload 4, 2) := by decide +kernel
theorem dM_mayBe_98 : decode mM_mayBe.1 98 = .ok (.iaload, 1) := by decide +kernel
theorem dM_mayBe_99 : decode mM_mayBe.1 99 = .ok (.iconst 5, 1) := by decide +kernel
theorem dM_mayBe_100 : decode mM_mayBe.1 100 = .ok (.if_icmp .ge 7, 3) := by decide +kernel
theorem dM_mayBe_103 : decode mM_mayBe.1 103 = .ok (.iconst 1, 1) := by decide +kernel
theorem dM_mayBe_104 : decode mM_mayBe.1 104 = .ok (.goto 4, 3) := by decide +kernel
theorem dM_mayBe_107 : decode mM_mayBe.1 107 = .ok (.iconst 0, 1) := by decide +kernel
theorem dM_mayBe_108 : decode mM_mayBe.1 108 = .ok (.ireturn, 1) := by decide +kernel
theorem dM_mayBe_109 : decode mM_mayBe.1 109 = .ok (.iload 5, 2) := by decide +kernel
theorem dM_mayBe_111 : decode mM_mayBe.1 111 = .ok (.ifCond .eq 33, 3) := by decide +kernel
theorem dM_mayBe_114 : decode mM_mayBe.1 114 = .ok (.aload_n 0, 1) := by decide +kernel
theorem dM_mayBe_115 : decode mM_mayBe.1 115 = .ok (.getfield 7, 3) := by decide +kernel
theorem dM_mayBe_118 : decode mM_mayBe.1 118 = .ok (.iload 4, 2) := by decide +kernel
theorem dM_mayBe_120 : decode mM_mayBe.1 120 = .ok (.iaload, 1) := by decide +kernel
theorem dM_mayBe_121 : decode mM_mayBe.1 121 = .ok (.aload_n 0, 1) := by decide +kernel
theorem dM_mayBe_122 : decode mM_mayBe.1 122 = .ok (.getfield 7, 3) := by decide +kernel
theorem dM_mayBe_125 : decode mM_mayBe.1 125 = .ok (.iload_n 2, 1) := by decide +kernel
theorem dM_mayBe_126 : decode mM_mayBe.1 126 = .ok (.iaload, 1) := by decide +kernel
theorem dM_mayBe_127 : decode mM_mayBe.1 127 = .ok (.if_icmp .ge 13, 3) := by decide +kernel
theorem dM_mayBe_130 : decode mM_mayBe.1 130 = .ok (.aload_n 0, 1) := by decide +kernel
theorem dM_mayBe_131 : decode mM_mayBe.1 131 = .ok (.getfield 7, 3) := by decide +kernel
theorem dM_mayBe_134 : decode mM_mayBe.1 134 = .ok (.iload 4, 2) := by decide +kernel
theorem dM_mayBe_136 : decode mM_mayBe.1 136 = .ok (.iaload, 1) := by decide +kernel
theorem dM_mayBe_137 : decode mM_mayBe.1 137 = .ok (.ifCond .ne 7, 3) := by decide +kernel
theorem dM_mayBe_140 : decode mM_mayBe.1 140 = .ok (.iconst 1, 1) := by decide +kernel
theorem dM_mayBe_141 : decode mM_mayBe.1 141 = .ok (.goto 4, 3) := by decide +kernel
theorem dM_mayBe_144 : decode mM_mayBe.1 144 = .ok (.iconst 0, 1) := by decide +kernel
theorem dM_mayBe_145 : decode mM_mayBe.1 145 = .ok (.ireturn, 1) := by decide +kernel
theorem dM_mayBe_146 : decode mM_mayBe.1 146 = .ok (.iload_n 3, 1) := by decide +kernel
theorem dM_mayBe_147 : decode mM_mayBe.1 147 = .ok (.iload 4, 2) := by decide +kernel
theorem dM_mayBe_149 : decode mM_mayBe.1 149 = .ok (.invokestatic 196, 3) := by decide +kernel
theorem dM_mayBe_152 : decode mM_mayBe.1 152 = .ok (.ifCond .ne 7, 3) := by decide +kernel
theorem dM_mayBe_155 : decode mM_mayBe.1 155 = .ok (.iconst 1, 1) := by decide +kernel
theorem dM_mayBe_156 : decode mM_mayBe.1 156 = .ok (.goto 4, 3) := by decide +kernel
theorem dM_mayBe_159 : decode mM_mayBe.1 159 = .ok (.iconst 0, 1) := by decide +kernel
theorem dM_mayBe_160 : decode mM_mayBe.1 160 = .ok (.ireturn, 1) := by decide +kernel
theorem dM_mayBe_161 : decode mM_mayBe.1 161 = .ok (.iload 5, 2) := by decide +kernel
theorem dM_mayBe_163 : decode mM_mayBe.1 163 = .ok (.ireturn, 1) := by decide +kernel
set_option maxRecDepth 4000 in
theorem wM_mayBe_28 {E : Ev} {z : Int32} (σ : St) (i1 : Int32) (i2 : Int32) (i3 : Int32) (i4 : Int32) (is0 : Int32) (hX : fM_mayBe_28 σ i1 i2 i3 i4 is0 = some z) : V E mM_mayBe (FM E (some (.int z), σ)) 28 [(0, .ref 44), (1, .int i1), (2, .int i2), (3, .int i3), (4, .int i4)] [.int is0] σ := by
  unfold fM_mayBe_28 at hX
  refine V.istore _ dM_mayBe_28 (by decide) rfl rfl ?_
  refine V.iloadn 2 dM_mayBe_30 rfl rfl ?_
  by_cases g2 : i1 = (2 : Int32)
  · replace hX := ip hX g2
    refine V.tabIn (off := 29) 60 dM_mayBe_31 (by rw [g2]; decide) (by rw [g2]; decide) (by rw [g2]; rfl) rfl ?_
    refine V.iload 0 dM_mayBe_60 rfl rfl ?_
    refine V.ifeq 85 dM_mayBe_62 rfl rfl (fun g3 => ?_) (fun g3 => ?_)
    · replace hX := ip hX g3
      refine V.iconst (0 : Int32) dM_mayBe_85 lc0 rfl ?_
      have hX := (Option.some.inj hX).symm; subst hX; exact V.zret .boolean dM_mayBe_86 rfl (nz b01_0).1 rfl
    · replace hX := im hX g3
      refine V.aloadn 1 dM_mayBe_65 rfl rfl ?_
      refine V.getr 44 45 dM_mayBe_66 flM_7 (rfl : kd 44 = (6, 0)) rfl rfl ?_
      refine V.iload 5 dM_mayBe_69 rfl rfl ?_
      obtain ⟨h4, hX⟩ := ob hX
      refine V.iald 45 dM_mayBe_71 (rfl : kd 45 = (7, 7)) h4 rfl ?_
      refine V.aloadn 1 dM_mayBe_72 rfl rfl ?_
      refine V.getr 44 45 dM_mayBe_73 flM_7 (rfl : kd 44 = (6, 0)) rfl rfl ?_
      refine V.iloadn 3 dM_mayBe_76 rfl rfl ?_
      obtain ⟨h5, hX⟩ := ob hX
      refine V.iald 45 dM_mayBe_77 (rfl : kd 45 = (7, 7)) h5 rfl ?_
      have JJ : V E mM_mayBe (FM E (some (.int z), σ)) 86 [(5, .int is0), (0, .ref 44), (1, .int i1), (2, .int i2), (3, .int i3), (4, .int i4)] [.int (if (gI σ 45 (ix i4)) < (gI σ 45 (ix i2)) then (0 : Int32) else (1 : Int32))] σ := by
        have hX := (Option.some.inj hX).symm; subst hX; exact V.zret .boolean dM_mayBe_86 rfl (nz (b01_i b01_0 b01_1)).1 rfl
      refine V.icmplt 85 dM_mayBe_78 rfl rfl (fun g6 => ?_) (fun g6 => ?_)
      · refine V.iconst (0 : Int32) dM_mayBe_85 lc0 rfl ?_
        exact V.top (if_pos g6).symm JJ
      · refine V.iconst (1 : Int32) dM_mayBe_81 lc1 rfl ?_
        refine V.goto 86 dM_mayBe_82 rfl ?_
        exact V.top (if_neg g6).symm JJ
  · replace hX := im hX g2
    by_cases g7 : i1 = (3 : Int32)
    · replace hX := ip hX g7
      refine V.tabIn (off := 56) 87 dM_mayBe_31 (by rw [g7]; decide) (by rw [g7]; decide) (by rw [g7]; rfl) rfl ?_
      refine V.iload 0 dM_mayBe_87 rfl rfl ?_
      refine V.ifeq 107 dM_mayBe_89 rfl rfl (fun g8 => ?_) (fun g8 => ?_)
      · replace hX := ip hX g8
        refine V.iconst (0 : Int32) dM_mayBe_107 lc0 rfl ?_
        have hX := (Option.some.inj hX).symm; subst hX; exact V.zret .boolean dM_mayBe_108 rfl (nz b01_0).1 rfl
      · replace hX := im hX g8
        refine V.aloadn 1 dM_mayBe_92 rfl rfl ?_
        refine V.getr 44 45 dM_mayBe_93 flM_7 (rfl : kd 44 = (6, 0)) rfl rfl ?_
        refine V.iload 5 dM_mayBe_96 rfl rfl ?_
        obtain ⟨h9, hX⟩ := ob hX
        refine V.iald 45 dM_mayBe_98 (rfl : kd 45 = (7, 7)) h9 rfl ?_
        refine V.iconst (5 : Int32) dM_mayBe_99 lc5 rfl ?_
        have JJ : V E mM_mayBe (FM E (some (.int z), σ)) 108 [(5, .int is0), (0, .ref 44), (1, .int i1), (2, .int i2), (3, .int i3), (4, .int i4)] [.int (if (5 : Int32) ≤ (gI σ 45 (ix i4)) then (0 : Int32) else (1 : Int32))] σ := by
          have hX := (Option.some.inj hX).symm; subst hX; exact V.zret .boolean dM_mayBe_108 rfl (nz (b01_i b01_0 b01_1)).1 rfl
        refine V.icmpge 107 dM_mayBe_100 rfl rfl (fun g10 => ?_) (fun g10 => ?_)
        · refine V.iconst (0 : Int32) dM_mayBe_107 lc0 rfl ?_
          exact V.top (if_pos g10).symm JJ
        · refine V.iconst (1 : Int32) dM_mayBe_103 lc1 rfl ?_
          refine V.goto 108 dM_mayBe_104 rfl ?_
          exact V.top (if_neg g10).symm JJ
    · replace hX := im hX g7
      by_cases g11 : i1 = (4 : Int32)
      · replace hX := ip hX g11
        refine V.tabIn (off := 78) 109 dM_mayBe_31 (by rw [g11]; decide) (by rw [g11]; decide) (by rw [g11]; rfl) rfl ?_
        refine V.iload 0 dM_mayBe_109 rfl rfl ?_
        refine V.ifeq 144 dM_mayBe_111 rfl rfl (fun g12 => ?_) (fun g12 => ?_)
        · replace hX := ip hX g12
          refine V.iconst (0 : Int32) dM_mayBe_144 lc0 rfl ?_
          have hX := (Option.some.inj hX).symm; subst hX; exact V.zret .boolean dM_mayBe_145 rfl (nz b01_0).1 rfl
        · replace hX := im hX g12
          refine V.aloadn 1 dM_mayBe_114 rfl rfl ?_
          refine V.getr 44 45 dM_mayBe_115 flM_7 (rfl : kd 44 = (6, 0)) rfl rfl ?_
          refine V.iload 5 dM_mayBe_118 rfl rfl ?_
          obtain ⟨h13, hX⟩ := ob hX
          refine V.iald 45 dM_mayBe_120 (rfl : kd 45 = (7, 7)) h13 rfl ?_
          refine V.aloadn 1 dM_mayBe_121 rfl rfl ?_
          refine V.getr 44 45 dM_mayBe_122 flM_7 (rfl : kd 44 = (6, 0)) rfl rfl ?_
          refine V.iloadn 3 dM_mayBe_125 rfl rfl ?_
          obtain ⟨h14, hX⟩ := ob hX
          refine V.iald 45 dM_mayBe_126 (rfl : kd 45 = (7, 7)) h14 rfl ?_
          refine V.icmpge 140 dM_mayBe_127 rfl rfl (fun g15 => ?_) (fun g15 => ?_)
          · replace hX := ip hX g15
            refine V.iconst (1 : Int32) dM_mayBe_140 lc1 rfl ?_
            refine V.goto 145 dM_mayBe_141 rfl ?_
            have hX := (Option.some.inj hX).symm; subst hX; exact V.zret .boolean dM_mayBe_145 rfl (nz b01_1).1 rfl
          · replace hX := im hX g15
            refine V.aloadn 1 dM_mayBe_130 rfl rfl ?_
            refine V.getr 44 45 dM_mayBe_131 flM_7 (rfl : kd 44 = (6, 0)) rfl rfl ?_
            refine V.iload 5 dM_mayBe_134 rfl rfl ?_
            obtain ⟨h16, hX⟩ := ob hX
            refine V.iald 45 dM_mayBe_136 (rfl : kd 45 = (7, 7)) h16 rfl ?_
            have JJ : V E mM_mayBe (FM E (some (.int z), σ)) 145 [(5, .int is0), (0, .ref 44), (1, .int i1), (2, .int i2), (3, .int i3), (4, .int i4)] [.int (if (gI σ 45 (ix i4)) = 0 then (1 : Int32) else (0 : Int32))] σ := by
              have hX := (Option.some.inj hX).symm; subst hX; exact V.zret .boolean dM_mayBe_145 rfl (nz (b01_i b01_1 b01_0)).1 rfl
            refine V.ifne 144 dM_mayBe_137 rfl rfl (fun g17 => ?_) (fun g17 => ?_)
            · refine V.iconst (0 : Int32) dM_mayBe_144 lc0 rfl ?_
              exact V.top (if_neg g17).symm JJ
            · refine V.iconst (1 : Int32) dM_mayBe_140 lc1 rfl ?_
              refine V.goto 145 dM_mayBe_141 rfl ?_
              exact V.top (if_pos g17).symm JJ
      · replace hX := im hX g11
        by_cases g18 : i1 = (5 : Int32)
        · replace hX := ip hX g18
          refine V.tabIn (off := 115) 146 dM_mayBe_31 (by rw [g18]; decide) (by rw [g18]; decide) (by rw [g18]; rfl) rfl ?_
          refine V.iloadn 4 dM_mayBe_146 rfl rfl ?_
          refine V.iload 5 dM_mayBe_147 rfl rfl ?_
          refine V.callsi [.int i3, .int i4] dM_mayBe_149 (kM_has (σ := σ) i3 i4) mlM_196 myM_has mnM_has ⟨rfl, rfl, by decide, by decide⟩ rfl (Nat.le_of_ble_eq_true rfl) ⟨Nat.zero_le _, Nat.zero_le _⟩ rfl ?_
          have JJ : V E mM_mayBe (FM E (some (.int z), σ)) 160 [(5, .int is0), (0, .ref 44), (1, .int i1), (2, .int i2), (3, .int i3), (4, .int i4)] [.int (if (fM_has i3 i4) = 0 then (1 : Int32) else (0 : Int32))] σ := by
            have hX := (Option.some.inj hX).symm; subst hX; exact V.zret .boolean dM_mayBe_160 rfl (nz (b01_i b01_1 b01_0)).1 rfl
          refine V.ifne 159 dM_mayBe_152 rfl rfl (fun g19 => ?_) (fun g19 => ?_)
          · refine V.iconst (0 : Int32) dM_mayBe_159 lc0 rfl ?_
            exact V.top (if_neg g19).symm JJ
          · refine V.iconst (1 : Int32) dM_mayBe_155 lc1 rfl ?_
            refine V.goto 160 dM_mayBe_156 rfl ?_
            exact V.top (if_pos g19).symm JJ
        · replace hX := im hX g18
          refine V.tabOut 161 dM_mayBe_31 (by have a0 := lv_neT g2 (a := 2) (by decide); have a1 := lv_neT g7 (a := 3) (by decide); have a2 := lv_neT g11 (a := 4) (by decide); have a3 := lv_neT g18 (a := 5) (by decide); omega) rfl ?_
          refine V.iload 0 dM_mayBe_161 rfl rfl ?_
          obtain ⟨h20, hX⟩ := ob hX
          have hX := (Option.some.inj hX).symm; subst hX; exact V.zret .boolean dM_mayBe_163 rfl (nz h20).1 rfl
set_option maxRecDepth 4000 in
theorem wM_mayBe_27 {E : Ev} {z : Int32} (σ : St) (i1 : Int32) (i2 : Int32) (i3 : Int32) (i4 : Int32) (hX : fM_mayBe_27 σ i1 i2 i3 i4 = some z) : V E mM_mayBe (FM E (some (.int z), σ)) 27 [(0, .ref 44), (1, .int i1), (2, .int i2), (3, .int i3), (4, .int i4)] [] σ := by
  unfold fM_mayBe_27 at hX
  refine V.iconst (0 : Int32) dM_mayBe_27 lc0 rfl ?_
  refine V.sub [0, 1, 2, 3, 4] rfl ?_
  exact wM_mayBe_28 σ i1 i2 i3 i4 (0 : Int32) hX
set_option maxRecDepth 4000 in
theorem wM_mayBe {E : Ev} {z : Int32} (σ : St) (i1 : Int32) (i2 : Int32) (i3 : Int32) (i4 : Int32) (hX : fM_mayBe σ i1 i2 i3 i4 = some z) : V E mM_mayBe (FM E (some (.int z), σ)) 0 [(0, .ref 44), (1, .int i1), (2, .int i2), (3, .int i3), (4, .int i4)] [] σ := by
  unfold fM_mayBe at hX
  refine V.iloadn 3 dM_mayBe_0 rfl rfl ?_
  refine V.iload 4 dM_mayBe_1 rfl rfl ?_
  refine V.callsi [.int i3, .int i4] dM_mayBe_3 (kM_has (σ := σ) i3 i4) mlM_196 myM_has mnM_has ⟨rfl, rfl, by decide, by decide⟩ rfl (Nat.le_of_ble_eq_true rfl) ⟨Nat.zero_le _, Nat.zero_le _⟩ rfl ?_
  refine V.ifne 27 dM_mayBe_6 rfl rfl (fun g1 => ?_) (fun g1 => ?_)
  · replace hX := im hX g1
    refine V.sub [0, 1, 2, 3, 4] rfl ?_
    exact wM_mayBe_27 σ i1 i2 i3 i4 hX
  · replace hX := ip hX g1
    refine V.aloadn 0 dM_mayBe_9 rfl rfl ?_
    refine V.getr 44 47 dM_mayBe_10 flM_16 (rfl : kd 44 = (6, 0)) rfl rfl ?_
    refine V.iloadn 2 dM_mayBe_13 rfl rfl ?_
    obtain ⟨h21, hX⟩ := ob hX
    refine V.iald 47 dM_mayBe_14 (rfl : kd 47 = (7, 7)) h21 rfl ?_
    refine V.iload 4 dM_mayBe_15 rfl rfl ?_
    refine V.callsi [.int (gI σ 47 (ix i2)), .int i4] dM_mayBe_17 (kM_has (σ := σ) (gI σ 47 (ix i2)) i4) mlM_196 myM_has mnM_has ⟨rfl, rfl, by decide, by decide⟩ rfl (Nat.le_of_ble_eq_true rfl) ⟨Nat.zero_le _, Nat.zero_le _⟩ rfl ?_
    have JJ : V E mM_mayBe (FM E (some (.int z), σ)) 28 [(0, .ref 44), (1, .int i1), (2, .int i2), (3, .int i3), (4, .int i4)] [.int (if (fM_has (gI σ 47 (ix i2)) i4) = 0 then (0 : Int32) else (1 : Int32))] σ := by
      refine V.istore _ dM_mayBe_28 (by decide) rfl rfl ?_
      replace hX := nmx hX; generalize (if (fM_has (gI σ 47 (ix i2)) i4) = 0 then (0 : Int32) else (1 : Int32)) = v22 at hX ⊢; try dsimp only at hX
      refine V.iloadn 2 dM_mayBe_30 rfl rfl ?_
      by_cases g23 : i1 = (2 : Int32)
      · replace hX := ip hX g23
        refine V.tabIn (off := 29) 60 dM_mayBe_31 (by rw [g23]; decide) (by rw [g23]; decide) (by rw [g23]; rfl) rfl ?_
        refine V.iload 0 dM_mayBe_60 rfl rfl ?_
        refine V.ifeq 85 dM_mayBe_62 rfl rfl (fun g24 => ?_) (fun g24 => ?_)
        · replace hX := ip hX g24
          refine V.iconst (0 : Int32) dM_mayBe_85 lc0 rfl ?_
          have hX := (Option.some.inj hX).symm; subst hX; exact V.zret .boolean dM_mayBe_86 rfl (nz b01_0).1 rfl
        · replace hX := im hX g24
          refine V.aloadn 1 dM_mayBe_65 rfl rfl ?_
          refine V.getr 44 45 dM_mayBe_66 flM_7 (rfl : kd 44 = (6, 0)) rfl rfl ?_
          refine V.iload 5 dM_mayBe_69 rfl rfl ?_
          obtain ⟨h25, hX⟩ := ob hX
          refine V.iald 45 dM_mayBe_71 (rfl : kd 45 = (7, 7)) h25 rfl ?_
          refine V.aloadn 1 dM_mayBe_72 rfl rfl ?_
          refine V.getr 44 45 dM_mayBe_73 flM_7 (rfl : kd 44 = (6, 0)) rfl rfl ?_
          refine V.iloadn 3 dM_mayBe_76 rfl rfl ?_
          obtain ⟨h26, hX⟩ := ob hX
          refine V.iald 45 dM_mayBe_77 (rfl : kd 45 = (7, 7)) h26 rfl ?_
          have JJ : V E mM_mayBe (FM E (some (.int z), σ)) 86 [(5, .int v22), (0, .ref 44), (1, .int i1), (2, .int i2), (3, .int i3), (4, .int i4)] [.int (if (gI σ 45 (ix i4)) < (gI σ 45 (ix i2)) then (0 : Int32) else (1 : Int32))] σ := by
            have hX := (Option.some.inj hX).symm; subst hX; exact V.zret .boolean dM_mayBe_86 rfl (nz (b01_i b01_0 b01_1)).1 rfl
          refine V.icmplt 85 dM_mayBe_78 rfl rfl (fun g27 => ?_) (fun g27 => ?_)
          · refine V.iconst (0 : Int32) dM_mayBe_85 lc0 rfl ?_
            exact V.top (if_pos g27).symm JJ
          · refine V.iconst (1 : Int32) dM_mayBe_81 lc1 rfl ?_
            refine V.goto 86 dM_mayBe_82 rfl ?_
            exact V.top (if_neg g27).symm JJ
      · replace hX := im hX g23
        by_cases g28 : i1 = (3 : Int32)
        · replace hX := ip hX g28
          refine V.tabIn (off := 56) 87 dM_mayBe_31 (by rw [g28]; decide) (by rw [g28]; decide) (by rw [g28]; rfl) rfl ?_
          refine V.iload 0 dM_mayBe_87 rfl rfl ?_
          refine V.ifeq 107 dM_mayBe_89 rfl rfl (fun g29 => ?_) (fun g29 => ?_)
          · replace hX := ip hX g29
            refine V.iconst (0 : Int32) dM_mayBe_107 lc0 rfl ?_
            have hX := (Option.some.inj hX).symm; subst hX; exact V.zret .boolean dM_mayBe_108 rfl (nz b01_0).1 rfl
          · replace hX := im hX g29
            refine V.aloadn 1 dM_mayBe_92 rfl rfl ?_
            refine V.getr 44 45 dM_mayBe_93 flM_7 (rfl : kd 44 = (6, 0)) rfl rfl ?_
            refine V.iload 5 dM_mayBe_96 rfl rfl ?_
            obtain ⟨h30, hX⟩ := ob hX
            refine V.iald 45 dM_mayBe_98 (rfl : kd 45 = (7, 7)) h30 rfl ?_
            refine V.iconst (5 : Int32) dM_mayBe_99 lc5 rfl ?_
            have JJ : V E mM_mayBe (FM E (some (.int z), σ)) 108 [(5, .int v22), (0, .ref 44), (1, .int i1), (2, .int i2), (3, .int i3), (4, .int i4)] [.int (if (5 : Int32) ≤ (gI σ 45 (ix i4)) then (0 : Int32) else (1 : Int32))] σ := by
              have hX := (Option.some.inj hX).symm; subst hX; exact V.zret .boolean dM_mayBe_108 rfl (nz (b01_i b01_0 b01_1)).1 rfl
            refine V.icmpge 107 dM_mayBe_100 rfl rfl (fun g31 => ?_) (fun g31 => ?_)
            · refine V.iconst (0 : Int32) dM_mayBe_107 lc0 rfl ?_
              exact V.top (if_pos g31).symm JJ
            · refine V.iconst (1 : Int32) dM_mayBe_103 lc1 rfl ?_
              refine V.goto 108 dM_mayBe_104 rfl ?_
              exact V.top (if_neg g31).symm JJ
        · replace hX := im hX g28
          by_cases g32 : i1 = (4 : Int32)
          · replace hX := ip hX g32
            refine V.tabIn (off := 78) 109 dM_mayBe_31 (by rw [g32]; decide) (by rw [g32]; decide) (by rw [g32]; rfl) rfl ?_
            refine V.iload 0 dM_mayBe_109 rfl rfl ?_
            refine V.ifeq 144 dM_mayBe_111 rfl rfl (fun g33 => ?_) (fun g33 => ?_)
            · replace hX := ip hX g33
              refine V.iconst (0 : Int32) dM_mayBe_144 lc0 rfl ?_
              have hX := (Option.some.inj hX).symm; subst hX; exact V.zret .boolean dM_mayBe_145 rfl (nz b01_0).1 rfl
            · replace hX := im hX g33
              refine V.aloadn 1 dM_mayBe_114 rfl rfl ?_
              refine V.getr 44 45 dM_mayBe_115 flM_7 (rfl : kd 44 = (6, 0)) rfl rfl ?_
              refine V.iload 5 dM_mayBe_118 rfl rfl ?_
              obtain ⟨h34, hX⟩ := ob hX
              refine V.iald 45 dM_mayBe_120 (rfl : kd 45 = (7, 7)) h34 rfl ?_
              refine V.aloadn 1 dM_mayBe_121 rfl rfl ?_
              refine V.getr 44 45 dM_mayBe_122 flM_7 (rfl : kd 44 = (6, 0)) rfl rfl ?_
              refine V.iloadn 3 dM_mayBe_125 rfl rfl ?_
              obtain ⟨h35, hX⟩ := ob hX
              refine V.iald 45 dM_mayBe_126 (rfl : kd 45 = (7, 7)) h35 rfl ?_
              refine V.icmpge 140 dM_mayBe_127 rfl rfl (fun g36 => ?_) (fun g36 => ?_)
              · replace hX := ip hX g36
                refine V.iconst (1 : Int32) dM_mayBe_140 lc1 rfl ?_
                refine V.goto 145 dM_mayBe_141 rfl ?_
                have hX := (Option.some.inj hX).symm; subst hX; exact V.zret .boolean dM_mayBe_145 rfl (nz b01_1).1 rfl
              · replace hX := im hX g36
                refine V.aloadn 1 dM_mayBe_130 rfl rfl ?_
                refine V.getr 44 45 dM_mayBe_131 flM_7 (rfl : kd 44 = (6, 0)) rfl rfl ?_
                refine V.iload 5 dM_mayBe_134 rfl rfl ?_
                obtain ⟨h37, hX⟩ := ob hX
                refine V.iald 45 dM_mayBe_136 (rfl : kd 45 = (7, 7)) h37 rfl ?_
                have JJ : V E mM_mayBe (FM E (some (.int z), σ)) 145 [(5, .int v22), (0, .ref 44), (1, .int i1), (2, .int i2), (3, .int i3), (4, .int i4)] [.int (if (gI σ 45 (ix i4)) = 0 then (1 : Int32) else (0 : Int32))] σ := by
                  have hX := (Option.some.inj hX).symm; subst hX; exact V.zret .boolean dM_mayBe_145 rfl (nz (b01_i b01_1 b01_0)).1 rfl
                refine V.ifne 144 dM_mayBe_137 rfl rfl (fun g38 => ?_) (fun g38 => ?_)
                · refine V.iconst (0 : Int32) dM_mayBe_144 lc0 rfl ?_
                  exact V.top (if_neg g38).symm JJ
                · refine V.iconst (1 : Int32) dM_mayBe_140 lc1 rfl ?_
                  refine V.goto 145 dM_mayBe_141 rfl ?_
                  exact V.top (if_pos g38).symm JJ
          · replace hX := im hX g32
            by_cases g39 : i1 = (5 : Int32)
            · replace hX := ip hX g39
              refine V.tabIn (off := 115) 146 dM_mayBe_31 (by rw [g39]; decide) (by rw [g39]; decide) (by rw [g39]; rfl) rfl ?_
              refine V.iloadn 4 dM_mayBe_146 rfl rfl ?_
              refine V.iload 5 dM_mayBe_147 rfl rfl ?_
              refine V.callsi [.int i3, .int i4] dM_mayBe_149 (kM_has (σ := σ) i3 i4) mlM_196 myM_has mnM_has ⟨rfl, rfl, by decide, by decide⟩ rfl (Nat.le_of_ble_eq_true rfl) ⟨Nat.zero_le _, Nat.zero_le _⟩ rfl ?_
              have JJ : V E mM_mayBe (FM E (some (.int z), σ)) 160 [(5, .int v22), (0, .ref 44), (1, .int i1), (2, .int i2), (3, .int i3), (4, .int i4)] [.int (if (fM_has i3 i4) = 0 then (1 : Int32) else (0 : Int32))] σ := by
                have hX := (Option.some.inj hX).symm; subst hX; exact V.zret .boolean dM_mayBe_160 rfl (nz (b01_i b01_1 b01_0)).1 rfl
              refine V.ifne 159 dM_mayBe_152 rfl rfl (fun g40 => ?_) (fun g40 => ?_)
              · refine V.iconst (0 : Int32) dM_mayBe_159 lc0 rfl ?_
                exact V.top (if_neg g40).symm JJ
              · refine V.iconst (1 : Int32) dM_mayBe_155 lc1 rfl ?_
                refine V.goto 160 dM_mayBe_156 rfl ?_
                exact V.top (if_pos g40).symm JJ
            · replace hX := im hX g39
              refine V.tabOut 161 dM_mayBe_31 (by have a0 := lv_neT g23 (a := 2) (by decide); have a1 := lv_neT g28 (a := 3) (by decide); have a2 := lv_neT g32 (a := 4) (by decide); have a3 := lv_neT g39 (a := 5) (by decide); omega) rfl ?_
              refine V.iload 0 dM_mayBe_161 rfl rfl ?_
              obtain ⟨h41, hX⟩ := ob hX
              have hX := (Option.some.inj hX).symm; subst hX; exact V.zret .boolean dM_mayBe_163 rfl (nz h41).1 rfl
    refine V.ifeq 27 dM_mayBe_20 rfl rfl (fun g42 => ?_) (fun g42 => ?_)
    · refine V.iconst (0 : Int32) dM_mayBe_27 lc0 rfl ?_
      exact V.top (if_pos g42).symm JJ
    · refine V.iconst (1 : Int32) dM_mayBe_23 lc1 rfl ?_
      refine V.goto 28 dM_mayBe_24 rfl ?_
      exact V.top (if_neg g42).symm JJ
theorem kM_mayBe {E : Ev} {σ : St} {i1 : Int32} {i2 : Int32} {i3 : Int32} {i4 : Int32} {z : Int32} (h : fM_mayBe σ i1 i2 i3 i4 = some z) : Ct mM_mayBe E [.ref 44, .int i1, .int i2, .int i3, .int i4] σ (some (.int z), σ) := Ct.of (by decide) (Nat.le_of_ble_eq_true rfl) (wM_mayBe σ i1 i2 i3 i4 h)
theorem dM_mayNow_0 : decode mM_mayNow.1 0 = .ok (.aload_n 0, 1) := by decide +kernel
theorem dM_mayNow_1 : decode mM_mayNow.1 1 = .ok (.aload_n 0, 1) := by decide +kernel
theorem dM_mayNow_2 : decode mM_mayNow.1 2 = .ok (.iload_n 1, 1) := by decide +kernel
theorem dM_mayNow_3 : decode mM_mayNow.1 3 = .ok (.iconst 0, 1) := by decide +kernel
theorem dM_mayNow_4 : decode mM_mayNow.1 4 = .ok (.invokevirtual 193, 3) := by decide +kernel
theorem dM_mayNow_7 : decode mM_mayNow.1 7 = .ok (.aload_n 0, 1) := by decide +kernel
theorem dM_mayNow_8 : decode mM_mayNow.1 8 = .ok (.iload_n 1, 1) := by decide +kernel
theorem dM_mayNow_9 : decode mM_mayNow.1 9 = .ok (.iconst 2, 1) := by decide +kernel
theorem dM_mayNow_10 : decode mM_mayNow.1 10 = .ok (.invokevirtual 193, 3) := by decide +kernel
theorem dM_mayNow_13 : decode mM_mayNow.1 13 = .ok (.aload_n 0, 1) := by decide +kernel
theorem dM_mayNow_14 : decode mM_mayNow.1 14 = .ok (.iload_n 1, 1) := by decide +kernel
theorem dM_mayNow_15 : decode mM_mayNow.1 15 = .ok (.iconst 3, 1) := by decide +kernel
theorem dM_mayNow_16 : decode mM_mayNow.1 16 = .ok (.invokevirtual 193, 3) := by decide +kernel
theorem dM_mayNow_19 : decode mM_mayNow.1 19 = .ok (.iload_n 2, 1) := by decide +kernel
theorem dM_mayNow_20 : decode mM_mayNow.1 20 = .ok (.invokevirtual 216, 3) := by decide +kernel
theorem dM_mayNow_23 : decode mM_mayNow.1 23 = .ok (.ireturn, 1) := by decide +kernel
set_option maxRecDepth 4000 in
theorem wM_mayNow {E : Ev} {z : Int32} (σ : St) (i1 : Int32) (i2 : Int32) (hX : fM_mayNow σ i1 i2 = some z) : V E mM_mayNow (FM E (some (.int z), σ)) 0 [(0, .ref 44), (1, .int i1), (2, .int i2)] [] σ := by
  unfold fM_mayNow at hX
  refine V.aloadn 0 dM_mayNow_0 rfl rfl ?_
  refine V.aloadn 0 dM_mayNow_1 rfl rfl ?_
  refine V.iloadn 1 dM_mayNow_2 rfl rfl ?_
  refine V.iconst (0 : Int32) dM_mayNow_3 lc0 rfl ?_
  obtain ⟨q1, c2, hX⟩ := bd hX; try dsimp only at hX
  refine V.callvi 44 [.int i1, .int (0 : Int32)] dM_mayNow_4 (kM_its c2) mlM_193 myM_its mnM_its ⟨rfl, rfl, by decide, by decide⟩ (rfl : kd 44 = (6, 0)) (by decide) rfl (Nat.le_of_ble_eq_true rfl) ⟨Nat.zero_le _, Nat.zero_le _⟩ rfl ?_
  refine V.aloadn 0 dM_mayNow_7 rfl rfl ?_
  refine V.iloadn 1 dM_mayNow_8 rfl rfl ?_
  refine V.iconst (2 : Int32) dM_mayNow_9 lc2 rfl ?_
  obtain ⟨q3, c4, hX⟩ := bd hX; try dsimp only at hX
  refine V.callvi 44 [.int i1, .int (2 : Int32)] dM_mayNow_10 (kM_its c4) mlM_193 myM_its mnM_its ⟨rfl, rfl, by decide, by decide⟩ (rfl : kd 44 = (6, 0)) (by decide) rfl (Nat.le_of_ble_eq_true rfl) ⟨Nat.zero_le _, Nat.zero_le _⟩ rfl ?_
  refine V.aloadn 0 dM_mayNow_13 rfl rfl ?_
  refine V.iloadn 1 dM_mayNow_14 rfl rfl ?_
  refine V.iconst (3 : Int32) dM_mayNow_15 lc3 rfl ?_
  obtain ⟨q5, c6, hX⟩ := bd hX; try dsimp only at hX
  refine V.callvi 44 [.int i1, .int (3 : Int32)] dM_mayNow_16 (kM_its c6) mlM_193 myM_its mnM_its ⟨rfl, rfl, by decide, by decide⟩ (rfl : kd 44 = (6, 0)) (by decide) rfl (Nat.le_of_ble_eq_true rfl) ⟨Nat.zero_le _, Nat.zero_le _⟩ rfl ?_
  refine V.iloadn 2 dM_mayNow_19 rfl rfl ?_
  obtain ⟨q7, c8, hX⟩ := bd hX; try dsimp only at hX
  refine V.callvi 44 [.int q1, .int q3, .int q5, .int i2] dM_mayNow_20 (kM_mayBe c8) mlM_216 myM_mayBe mnM_mayBe ⟨rfl, rfl, by decide, by decide⟩ (rfl : kd 44 = (6, 0)) (by decide) rfl (Nat.le_of_ble_eq_true rfl) ⟨Nat.zero_le _, Nat.zero_le _⟩ rfl ?_
  obtain ⟨h9, hX⟩ := ob hX
  have hX := (Option.some.inj hX).symm; subst hX; exact V.zret .boolean dM_mayNow_23 rfl (nz h9).1 rfl
theorem kM_mayNow {E : Ev} {σ : St} {i1 : Int32} {i2 : Int32} {z : Int32} (h : fM_mayNow σ i1 i2 = some z) : Ct mM_mayNow E [.ref 44, .int i1, .int i2] σ (some (.int z), σ) := Ct.of (by decide) (Nat.le_of_ble_eq_true rfl) (wM_mayNow σ i1 i2 h)
theorem dM_mayAll_0 : decode mM_mayAll.1 0 = .ok (.iconst 0, 1) := by decide +kernel
theorem dM_mayAll_1 : decode mM_mayAll.1 1 = .ok (.istore_n 2, 1) := by decide +kernel
theorem dM_mayAll_2 : decode mM_mayAll.1 2 = .ok (.iconst 0, 1) := by decide +kernel
theorem dM_mayAll_3 : decode mM_mayAll.1 3 = .ok (.istore_n 3, 1) := by decide +kernel
theorem dM_mayAll_4 : decode mM_mayAll.1 4 = .ok (.iload_n 3, 1) := by decide +kernel
theorem dM_mayAll_5 : decode mM_mayAll.1 5 = .ok (.aload_n 0, 1) := by decide +kernel
theorem dM_mayAll_6 : decode mM_mayAll.1 6 = .ok (.getfield 81, 3) := by decide +kernel
theorem dM_mayAll_9 : decode mM_mayAll.1 9 = .ok (.if_icmp .ge 28, 3) := by decide +kernel
theorem dM_mayAll_12 : decode mM_mayAll.1 12 = .ok (.iload_n 2, 1) := by decide +kernel
theorem dM_mayAll_13 : decode mM_mayAll.1 13 = .ok (.aload_n 0, 1) := by decide +kernel
theorem dM_mayAll_14 : decode mM_mayAll.1 14 = .ok (.iload_n 1, 1) := by decide +kernel
theorem dM_mayAll_15 : decode mM_mayAll.1 15 = .ok (.iload_n 3, 1) := by decide +kernel
theorem dM_mayAll_16 : decode mM_mayAll.1 16 = .ok (.invokevirtual 220, 3) := by decide +kernel
theorem dM_mayAll_19 : decode mM_mayAll.1 19 = .ok (.ifCond .eq 9, 3) := by decide +kernel
theorem dM_mayAll_22 : decode mM_mayAll.1 22 = .ok (.iconst 1, 1) := by decide +kernel
theorem dM_mayAll_23 : decode mM_mayAll.1 23 = .ok (.iload_n 3, 1) := by decide +kernel
theorem dM_mayAll_24 : decode mM_mayAll.1 24 = .ok (.ishl, 1) := by decide +kernel
theorem dM_mayAll_25 : decode mM_mayAll.1 25 = .ok (.goto 4, 3) := by decide +kernel
theorem dM_mayAll_28 : decode mM_mayAll.1 28 = .ok (.iconst 0, 1) := by decide +kernel
theorem dM_mayAll_29 : decode mM_mayAll.1 29 = .ok (.ior, 1) := by decide +kernel
theorem dM_mayAll_30 : decode mM_mayAll.1 30 = .ok (.istore_n 2, 1) := by decide +kernel
theorem dM_mayAll_31 : decode mM_mayAll.1 31 = .ok (.iinc 3 1, 3) := by decide +kernel
theorem dM_mayAll_34 : decode mM_mayAll.1 34 = .ok (.goto (-30), 3) := by decide +kernel
theorem dM_mayAll_37 : decode mM_mayAll.1 37 = .ok (.iload_n 2, 1) := by decide +kernel
theorem dM_mayAll_38 : decode mM_mayAll.1 38 = .ok (.ireturn, 1) := by decide +kernel
set_option maxRecDepth 4000 in
theorem wM_mayAll_4 {E : Ev} {z : Int32} : ∀ (fu : Nat) (σ : St) (i1 : Int32) (i2 : Int32) (i3 : Int32), fM_mayAll_4 fu σ i1 i2 i3 = some z → V E mM_mayAll (FM E (some (.int z), σ)) 4 [(0, .ref 44), (1, .int i1), (2, .int i2), (3, .int i3)] [] σ := by
  intro fu
  induction fu with
  | zero => intro σ i1 i2 i3 hX; cases hX
  | succ fu ih =>
    intro σ i1 i2 i3 hX
    rw [fM_mayAll_4] at hX
    refine V.iloadn 3 dM_mayAll_4 rfl rfl ?_
    refine V.aloadn 0 dM_mayAll_5 rfl rfl ?_
    refine V.geti 44 dM_mayAll_6 flM_81 (rfl : kd 44 = (6, 0)) rfl ?_
    refine V.icmpge 37 dM_mayAll_9 rfl rfl (fun g1 => ?_) (fun g1 => ?_)
    · replace hX := ip hX g1
      refine V.iloadn 2 dM_mayAll_37 rfl rfl ?_
      have hX := (Option.some.inj hX).symm; subst hX; exact V.iret dM_mayAll_38 rfl rfl
    · replace hX := im hX g1
      refine V.iloadn 2 dM_mayAll_12 rfl rfl ?_
      refine V.aloadn 0 dM_mayAll_13 rfl rfl ?_
      refine V.iloadn 1 dM_mayAll_14 rfl rfl ?_
      refine V.iloadn 3 dM_mayAll_15 rfl rfl ?_
      obtain ⟨q2, c3, hX⟩ := bd hX; try dsimp only at hX
      refine V.callvi 44 [.int i1, .int i3] dM_mayAll_16 (kM_mayNow c3) mlM_220 myM_mayNow mnM_mayNow ⟨rfl, rfl, by decide, by decide⟩ (rfl : kd 44 = (6, 0)) (by decide) rfl (Nat.le_of_ble_eq_true rfl) ⟨Nat.zero_le _, Nat.zero_le _⟩ rfl ?_
      have JJ : V E mM_mayAll (FM E (some (.int z), σ)) 29 [(0, .ref 44), (1, .int i1), (2, .int i2), (3, .int i3)] [.int (if q2 = 0 then (0 : Int32) else (1 : Int32) <<< (i3 &&& 31)), .int i2] σ := by
        refine V.ior dM_mayAll_29 rfl ?_
        refine V.istoren _ dM_mayAll_30 (by decide) rfl rfl ?_
        replace hX := nmx hX; generalize i2 ||| (if q2 = 0 then (0 : Int32) else (1 : Int32) <<< (i3 &&& 31)) = v4 at hX ⊢; try dsimp only at hX
        refine V.iinc 3 (1 : Int32) _ dM_mayAll_31 rfl lc1 (by decide) rfl rfl ?_
        replace hX := nmx hX; generalize i3 + (1 : Int32) = v5 at hX ⊢; try dsimp only at hX
        refine V.goto 4 dM_mayAll_34 rfl ?_
        refine V.sub [2, 3, 1, 0] rfl ?_
        exact ih σ i1 v4 v5 hX
      refine V.ifeq 28 dM_mayAll_19 rfl rfl (fun g6 => ?_) (fun g6 => ?_)
      · refine V.iconst (0 : Int32) dM_mayAll_28 lc0 rfl ?_
        exact V.top (if_pos g6).symm JJ
      · refine V.iconst (1 : Int32) dM_mayAll_22 lc1 rfl ?_
        refine V.iloadn 3 dM_mayAll_23 rfl rfl ?_
        refine V.ishl dM_mayAll_24 rfl ?_
        refine V.goto 29 dM_mayAll_25 rfl ?_
        exact V.top (if_neg g6).symm JJ
set_option maxRecDepth 4000 in
theorem wM_mayAll {E : Ev} {z : Int32} (σ : St) (i1 : Int32) (hX : fM_mayAll σ i1 = some z) : V E mM_mayAll (FM E (some (.int z), σ)) 0 [(0, .ref 44), (1, .int i1)] [] σ := by
  unfold fM_mayAll at hX
  refine V.iconst (0 : Int32) dM_mayAll_0 lc0 rfl ?_
  refine V.istoren _ dM_mayAll_1 (by decide) rfl rfl ?_
  refine V.iconst (0 : Int32) dM_mayAll_2 lc0 rfl ?_
  refine V.istoren _ dM_mayAll_3 (by decide) rfl rfl ?_
  refine V.sub [2, 3, 1, 0] rfl ?_
  exact wM_mayAll_4 300 σ i1 (0 : Int32) (0 : Int32) hX
theorem kM_mayAll {E : Ev} {σ : St} {i1 : Int32} {z : Int32} (h : fM_mayAll σ i1 = some z) : Ct mM_mayAll E [.ref 44, .int i1] σ (some (.int z), σ) := Ct.of (by decide) (Nat.le_of_ble_eq_true rfl) (wM_mayAll σ i1 h)
theorem dM_coinOf_0 : decode mM_coinOf.1 0 = .ok (.aload_n 0, 1) := by decide +kernel
theorem dM_coinOf_1 : decode mM_coinOf.1 1 = .ok (.iload_n 1, 1) := by decide +kernel
theorem dM_coinOf_2 : decode mM_coinOf.1 2 = .ok (.invokevirtual 223, 3) := by decide +kernel
theorem dM_coinOf_5 : decode mM_coinOf.1 5 = .ok (.ifCond .eq 12, 3) := by decide +kernel
theorem dM_coinOf_8 : decode mM_coinOf.1 8 = .ok (.iload_n 2, 1) := by decide +kernel
theorem dM_coinOf_9 : decode mM_coinOf.1 9 = .ok (.iconst 0, 1) := by decide +kernel
theorem dM_coinOf_10 : decode mM_coinOf.1 10 = .ok (.iconst 5, 1) := by decide +kernel
theorem dM_coinOf_11 : decode mM_coinOf.1 11 = .ok (.invokestatic 84, 3) := by decide +kernel
theorem dM_coinOf_14 : decode mM_coinOf.1 14 = .ok (.ifCond .ne 5, 3) := by decide +kernel
theorem dM_coinOf_17 : decode mM_coinOf.1 17 = .ok (.iconst (-1), 1) := by decide +kernel
theorem dM_coinOf_18 : decode mM_coinOf.1 18 = .ok (.ireturn, 1) := by decide +kernel
theorem dM_coinOf_19 : decode mM_coinOf.1 19 = .ok (.iload_n 2, 1) := by decide +kernel
theorem dM_coinOf_20 : decode mM_coinOf.1 20 = .ok (.tableswitch 70 0 4 #[36, 43, 50, 56, 63], 36) := by decide +kernel
theorem dM_coinOf_56 : decode mM_coinOf.1 56 = .ok (.aload_n 0, 1) := by decide +kernel
theorem dM_coinOf_57 : decode mM_coinOf.1 57 = .ok (.iload_n 1, 1) := by decide +kernel
theorem dM_coinOf_58 : decode mM_coinOf.1 58 = .ok (.iconst 0, 1) := by decide +kernel
theorem dM_coinOf_59 : decode mM_coinOf.1 59 = .ok (.invokevirtual 193, 3) := by decide +kernel
theorem dM_coinOf_62 : decode mM_coinOf.1 62 = .ok (.ireturn, 1) := by decide +kernel
theorem dM_coinOf_63 : decode mM_coinOf.1 63 = .ok (.aload_n 0, 1) := by decide +kernel
theorem dM_coinOf_64 : decode mM_coinOf.1 64 = .ok (.iload_n 1, 1) := by decide +kernel
theorem dM_coinOf_65 : decode mM_coinOf.1 65 = .ok (.iconst 1, 1) := by decide +kernel
theorem dM_coinOf_66 : decode mM_coinOf.1 66 = .ok (.invokevirtual 193, 3) := by decide +kernel
theorem dM_coinOf_69 : decode mM_coinOf.1 69 = .ok (.ireturn, 1) := by decide +kernel
theorem dM_coinOf_70 : decode mM_coinOf.1 70 = .ok (.aload_n 0, 1) := by decide +kernel
theorem dM_coinOf_71 : decode mM_coinOf.1 71 = .ok (.iload_n 1, 1) := by decide +kernel
theorem dM_coinOf_72 : decode mM_coinOf.1 72 = .ok (.invokevirtual 200, 3) := by decide +kernel
theorem dM_coinOf_75 : decode mM_coinOf.1 75 = .ok (.ireturn, 1) := by decide +kernel
theorem dM_coinOf_76 : decode mM_coinOf.1 76 = .ok (.aload_n 0, 1) := by decide +kernel
theorem dM_coinOf_77 : decode mM_coinOf.1 77 = .ok (.iload_n 1, 1) := by decide +kernel
theorem dM_coinOf_78 : decode mM_coinOf.1 78 = .ok (.iconst 2, 1) := by decide +kernel
theorem dM_coinOf_79 : decode mM_coinOf.1 79 = .ok (.invokevirtual 193, 3) := by decide +kernel
theorem dM_coinOf_82 : decode mM_coinOf.1 82 = .ok (.ireturn, 1) := by decide +kernel
theorem dM_coinOf_83 : decode mM_coinOf.1 83 = .ok (.aload_n 0, 1) := by decide +kernel
theorem dM_coinOf_84 : decode mM_coinOf.1 84 = .ok (.iload_n 1, 1) := by decide +kernel
theorem dM_coinOf_85 : decode mM_coinOf.1 85 = .ok (.iconst 3, 1) := by decide +kernel
theorem dM_coinOf_86 : decode mM_coinOf.1 86 = .ok (.invokevirtual 193, 3) := by decide +kernel
theorem dM_coinOf_89 : decode mM_coinOf.1 89 = .ok (.ireturn, 1) := by decide +kernel
theorem dM_coinOf_90 : decode mM_coinOf.1 90 = .ok (.aload_n 0, 1) := by decide +kernel
theorem dM_coinOf_91 : decode mM_coinOf.1 91 = .ok (.iload_n 1, 1) := by decide +kernel
theorem dM_coinOf_92 : decode mM_coinOf.1 92 = .ok (.invokevirtual 226, 3) := by decide +kernel
theorem dM_coinOf_95 : decode mM_coinOf.1 95 = .ok (.ireturn, 1) := by decide +kernel
set_option maxRecDepth 4000 in
theorem wM_coinOf {E : Ev} {z : Int32} (σ : St) (i1 : Int32) (i2 : Int32) (hX : fM_coinOf σ i1 i2 = some z) : V E mM_coinOf (FM E (some (.int z), σ)) 0 [(0, .ref 44), (1, .int i1), (2, .int i2)] [] σ := by
  unfold fM_coinOf at hX
  refine V.aloadn 0 dM_coinOf_0 rfl rfl ?_
  refine V.iloadn 1 dM_coinOf_1 rfl rfl ?_
  refine V.callvi 44 [.int i1] dM_coinOf_2 (kM_isCoin (σ := σ) i1) mlM_223 myM_isCoin mnM_isCoin ⟨rfl, rfl, by decide, by decide⟩ (rfl : kd 44 = (6, 0)) (by decide) rfl (Nat.le_of_ble_eq_true rfl) ⟨Nat.zero_le _, Nat.zero_le _⟩ rfl ?_
  refine V.ifeq 17 dM_coinOf_5 rfl rfl (fun g1 => ?_) (fun g1 => ?_)
  · replace hX := ip hX g1
    refine V.iconst (-1 : Int32) dM_coinOf_17 lcm1 rfl ?_
    have hX := (Option.some.inj hX).symm; subst hX; exact V.iret dM_coinOf_18 rfl rfl
  · replace hX := im hX g1
    refine V.iloadn 2 dM_coinOf_8 rfl rfl ?_
    refine V.iconst (0 : Int32) dM_coinOf_9 lc0 rfl ?_
    refine V.iconst (5 : Int32) dM_coinOf_10 lc5 rfl ?_
    refine V.callsi [.int i2, .int (0 : Int32), .int (5 : Int32)] dM_coinOf_11 (kM_in (σ := σ) i2 (0 : Int32) (5 : Int32)) mlM_84 myM_in mnM_in ⟨rfl, rfl, by decide, by decide⟩ rfl (Nat.le_of_ble_eq_true rfl) ⟨Nat.zero_le _, Nat.zero_le _⟩ rfl ?_
    refine V.ifne 19 dM_coinOf_14 rfl rfl (fun g2 => ?_) (fun g2 => ?_)
    · replace hX := im hX g2
      refine V.iloadn 2 dM_coinOf_19 rfl rfl ?_
      by_cases g3 : i2 = (0 : Int32)
      · replace hX := ip hX g3
        refine V.tabIn (off := 36) 56 dM_coinOf_20 (by rw [g3]; decide) (by rw [g3]; decide) (by rw [g3]; rfl) rfl ?_
        refine V.aloadn 0 dM_coinOf_56 rfl rfl ?_
        refine V.iloadn 1 dM_coinOf_57 rfl rfl ?_
        refine V.iconst (0 : Int32) dM_coinOf_58 lc0 rfl ?_
        obtain ⟨q4, c5, hX⟩ := bd hX; try dsimp only at hX
        refine V.callvi 44 [.int i1, .int (0 : Int32)] dM_coinOf_59 (kM_its c5) mlM_193 myM_its mnM_its ⟨rfl, rfl, by decide, by decide⟩ (rfl : kd 44 = (6, 0)) (by decide) rfl (Nat.le_of_ble_eq_true rfl) ⟨Nat.zero_le _, Nat.zero_le _⟩ rfl ?_
        have hX := (Option.some.inj hX).symm; subst hX; exact V.iret dM_coinOf_62 rfl rfl
      · replace hX := im hX g3
        by_cases g6 : i2 = (1 : Int32)
        · replace hX := ip hX g6
          refine V.tabIn (off := 43) 63 dM_coinOf_20 (by rw [g6]; decide) (by rw [g6]; decide) (by rw [g6]; rfl) rfl ?_
          refine V.aloadn 0 dM_coinOf_63 rfl rfl ?_
          refine V.iloadn 1 dM_coinOf_64 rfl rfl ?_
          refine V.iconst (1 : Int32) dM_coinOf_65 lc1 rfl ?_
          obtain ⟨q7, c8, hX⟩ := bd hX; try dsimp only at hX
          refine V.callvi 44 [.int i1, .int (1 : Int32)] dM_coinOf_66 (kM_its c8) mlM_193 myM_its mnM_its ⟨rfl, rfl, by decide, by decide⟩ (rfl : kd 44 = (6, 0)) (by decide) rfl (Nat.le_of_ble_eq_true rfl) ⟨Nat.zero_le _, Nat.zero_le _⟩ rfl ?_
          have hX := (Option.some.inj hX).symm; subst hX; exact V.iret dM_coinOf_69 rfl rfl
        · replace hX := im hX g6
          by_cases g9 : i2 = (2 : Int32)
          · replace hX := ip hX g9
            refine V.tabIn (off := 50) 70 dM_coinOf_20 (by rw [g9]; decide) (by rw [g9]; decide) (by rw [g9]; rfl) rfl ?_
            refine V.aloadn 0 dM_coinOf_70 rfl rfl ?_
            refine V.iloadn 1 dM_coinOf_71 rfl rfl ?_
            obtain ⟨q10, c11, hX⟩ := bd hX; try dsimp only at hX
            refine V.callvi 44 [.int i1] dM_coinOf_72 (kM_worth c11) mlM_200 myM_worth mnM_worth ⟨rfl, rfl, by decide, by decide⟩ (rfl : kd 44 = (6, 0)) (by decide) rfl (Nat.le_of_ble_eq_true rfl) ⟨Nat.zero_le _, Nat.zero_le _⟩ rfl ?_
            have hX := (Option.some.inj hX).symm; subst hX; exact V.iret dM_coinOf_75 rfl rfl
          · replace hX := im hX g9
            by_cases g12 : i2 = (3 : Int32)
            · replace hX := ip hX g12
              refine V.tabIn (off := 56) 76 dM_coinOf_20 (by rw [g12]; decide) (by rw [g12]; decide) (by rw [g12]; rfl) rfl ?_
              refine V.aloadn 0 dM_coinOf_76 rfl rfl ?_
              refine V.iloadn 1 dM_coinOf_77 rfl rfl ?_
              refine V.iconst (2 : Int32) dM_coinOf_78 lc2 rfl ?_
              obtain ⟨q13, c14, hX⟩ := bd hX; try dsimp only at hX
              refine V.callvi 44 [.int i1, .int (2 : Int32)] dM_coinOf_79 (kM_its c14) mlM_193 myM_its mnM_its ⟨rfl, rfl, by decide, by decide⟩ (rfl : kd 44 = (6, 0)) (by decide) rfl (Nat.le_of_ble_eq_true rfl) ⟨Nat.zero_le _, Nat.zero_le _⟩ rfl ?_
              have hX := (Option.some.inj hX).symm; subst hX; exact V.iret dM_coinOf_82 rfl rfl
            · replace hX := im hX g12
              by_cases g15 : i2 = (4 : Int32)
              · replace hX := ip hX g15
                refine V.tabIn (off := 63) 83 dM_coinOf_20 (by rw [g15]; decide) (by rw [g15]; decide) (by rw [g15]; rfl) rfl ?_
                refine V.aloadn 0 dM_coinOf_83 rfl rfl ?_
                refine V.iloadn 1 dM_coinOf_84 rfl rfl ?_
                refine V.iconst (3 : Int32) dM_coinOf_85 lc3 rfl ?_
                obtain ⟨q16, c17, hX⟩ := bd hX; try dsimp only at hX
                refine V.callvi 44 [.int i1, .int (3 : Int32)] dM_coinOf_86 (kM_its c17) mlM_193 myM_its mnM_its ⟨rfl, rfl, by decide, by decide⟩ (rfl : kd 44 = (6, 0)) (by decide) rfl (Nat.le_of_ble_eq_true rfl) ⟨Nat.zero_le _, Nat.zero_le _⟩ rfl ?_
                have hX := (Option.some.inj hX).symm; subst hX; exact V.iret dM_coinOf_89 rfl rfl
              · replace hX := im hX g15
                refine V.tabOut 90 dM_coinOf_20 (by have a0 := lv_neT g3 (a := 0) (by decide); have a1 := lv_neT g6 (a := 1) (by decide); have a2 := lv_neT g9 (a := 2) (by decide); have a3 := lv_neT g12 (a := 3) (by decide); have a4 := lv_neT g15 (a := 4) (by decide); omega) rfl ?_
                refine V.aloadn 0 dM_coinOf_90 rfl rfl ?_
                refine V.iloadn 1 dM_coinOf_91 rfl rfl ?_
                obtain ⟨q18, c19, hX⟩ := bd hX; try dsimp only at hX
                refine V.callvi 44 [.int i1] dM_coinOf_92 (kM_mayAll c19) mlM_226 myM_mayAll mnM_mayAll ⟨rfl, rfl, by decide, by decide⟩ (rfl : kd 44 = (6, 0)) (by decide) rfl (Nat.le_of_ble_eq_true rfl) ⟨Nat.zero_le _, Nat.zero_le _⟩ rfl ?_
                have hX := (Option.some.inj hX).symm; subst hX; exact V.iret dM_coinOf_95 rfl rfl
    · replace hX := ip hX g2
      refine V.iconst (-1 : Int32) dM_coinOf_17 lcm1 rfl ?_
      have hX := (Option.some.inj hX).symm; subst hX; exact V.iret dM_coinOf_18 rfl rfl
theorem kM_coinOf {E : Ev} {σ : St} {i1 : Int32} {i2 : Int32} {z : Int32} (h : fM_coinOf σ i1 i2 = some z) : Ct mM_coinOf E [.ref 44, .int i1, .int i2] σ (some (.int z), σ) := Ct.of (by decide) (Nat.le_of_ble_eq_true rfl) (wM_coinOf σ i1 i2 h)
theorem dM_stamp_0 : decode mM_stamp.1 0 = .ok (.aload_n 0, 1) := by decide +kernel
theorem dM_stamp_1 : decode mM_stamp.1 1 = .ok (.iload_n 1, 1) := by decide +kernel
theorem dM_stamp_2 : decode mM_stamp.1 2 = .ok (.invokevirtual 223, 3) := by decide +kernel
theorem dM_stamp_5 : decode mM_stamp.1 5 = .ok (.ifCond .eq 22, 3) := by decide +kernel
theorem dM_stamp_8 : decode mM_stamp.1 8 = .ok (.iload_n 2, 1) := by decide +kernel
theorem dM_stamp_9 : decode mM_stamp.1 9 = .ok (.iconst 0, 1) := by decide +kernel
theorem dM_stamp_10 : decode mM_stamp.1 10 = .ok (.iconst 5, 1) := by decide +kernel
theorem dM_stamp_11 : decode mM_stamp.1 11 = .ok (.invokestatic 84, 3) := by decide +kernel
theorem dM_stamp_14 : decode mM_stamp.1 14 = .ok (.ifCond .eq 13, 3) := by decide +kernel
theorem dM_stamp_17 : decode mM_stamp.1 17 = .ok (.iload_n 3, 1) := by decide +kernel
theorem dM_stamp_18 : decode mM_stamp.1 18 = .ok (.iconst 1, 1) := by decide +kernel
theorem dM_stamp_19 : decode mM_stamp.1 19 = .ok (.bipush 99, 2) := by decide +kernel
theorem dM_stamp_21 : decode mM_stamp.1 21 = .ok (.invokestatic 84, 3) := by decide +kernel
theorem dM_stamp_24 : decode mM_stamp.1 24 = .ok (.ifCond .ne 5, 3) := by decide +kernel
theorem dM_stamp_27 : decode mM_stamp.1 27 = .ok (.iconst (-1), 1) := by decide +kernel
theorem dM_stamp_28 : decode mM_stamp.1 28 = .ok (.ireturn, 1) := by decide +kernel
theorem dM_stamp_29 : decode mM_stamp.1 29 = .ok (.aload_n 0, 1) := by decide +kernel
theorem dM_stamp_30 : decode mM_stamp.1 30 = .ok (.iload_n 1, 1) := by decide +kernel
theorem dM_stamp_31 : decode mM_stamp.1 31 = .ok (.iconst 0, 1) := by decide +kernel
theorem dM_stamp_32 : decode mM_stamp.1 32 = .ok (.invokevirtual 193, 3) := by decide +kernel
theorem dM_stamp_35 : decode mM_stamp.1 35 = .ok (.istore 4, 2) := by decide +kernel
theorem dM_stamp_37 : decode mM_stamp.1 37 = .ok (.aload_n 0, 1) := by decide +kernel
theorem dM_stamp_38 : decode mM_stamp.1 38 = .ok (.getfield 19, 3) := by decide +kernel
theorem dM_stamp_41 : decode mM_stamp.1 41 = .ok (.iconst 4, 1) := by decide +kernel
theorem dM_stamp_42 : decode mM_stamp.1 42 = .ok (.iload_n 1, 1) := by decide +kernel
theorem dM_stamp_43 : decode mM_stamp.1 43 = .ok (.imul, 1) := by decide +kernel
theorem dM_stamp_44 : decode mM_stamp.1 44 = .ok (.iload_n 2, 1) := by decide +kernel
theorem dM_stamp_45 : decode mM_stamp.1 45 = .ok (.iastore, 1) := by decide +kernel
theorem dM_stamp_46 : decode mM_stamp.1 46 = .ok (.aload_n 0, 1) := by decide +kernel
theorem dM_stamp_47 : decode mM_stamp.1 47 = .ok (.getfield 19, 3) := by decide +kernel
theorem dM_stamp_50 : decode mM_stamp.1 50 = .ok (.iconst 4, 1) := by decide +kernel
theorem dM_stamp_51 : decode mM_stamp.1 51 = .ok (.iload_n 1, 1) := by decide +kernel
theorem dM_stamp_52 : decode mM_stamp.1 52 = .ok (.imul, 1) := by decide +kernel
theorem dM_stamp_53 : decode mM_stamp.1 53 = .ok (.iconst 1, 1) := by decide +kernel
theorem dM_stamp_54 : decode mM_stamp.1 54 = .ok (.iadd, 1) := by decide +kernel
theorem dM_stamp_55 : decode mM_stamp.1 55 = .ok (.iload_n 3, 1) := by decide +kernel
theorem dM_stamp_56 : decode mM_stamp.1 56 = .ok (.iastore, 1) := by decide +kernel
theorem dM_stamp_57 : decode mM_stamp.1 57 = .ok (.iload 4, 2) := by decide +kernel
theorem dM_stamp_59 : decode mM_stamp.1 59 = .ok (.ireturn, 1) := by decide +kernel
set_option maxRecDepth 4000 in
theorem wM_stamp {E : Ev} {z : Int32 × St} (σ : St) (i1 : Int32) (i2 : Int32) (i3 : Int32) (hX : fM_stamp σ i1 i2 i3 = some z) : V E mM_stamp (FM E (some (.int z.1), z.2)) 0 [(0, .ref 44), (1, .int i1), (2, .int i2), (3, .int i3)] [] σ := by
  unfold fM_stamp at hX
  refine V.aloadn 0 dM_stamp_0 rfl rfl ?_
  refine V.iloadn 1 dM_stamp_1 rfl rfl ?_
  refine V.callvi 44 [.int i1] dM_stamp_2 (kM_isCoin (σ := σ) i1) mlM_223 myM_isCoin mnM_isCoin ⟨rfl, rfl, by decide, by decide⟩ (rfl : kd 44 = (6, 0)) (by decide) rfl (Nat.le_of_ble_eq_true rfl) ⟨Nat.zero_le _, Nat.zero_le _⟩ rfl ?_
  refine V.ifeq 27 dM_stamp_5 rfl rfl (fun g1 => ?_) (fun g1 => ?_)
  · replace hX := ip hX g1
    refine V.iconst (-1 : Int32) dM_stamp_27 lcm1 rfl ?_
    have hX := (Option.some.inj hX).symm; subst hX; exact V.iret dM_stamp_28 rfl rfl
  · replace hX := im hX g1
    refine V.iloadn 2 dM_stamp_8 rfl rfl ?_
    refine V.iconst (0 : Int32) dM_stamp_9 lc0 rfl ?_
    refine V.iconst (5 : Int32) dM_stamp_10 lc5 rfl ?_
    refine V.callsi [.int i2, .int (0 : Int32), .int (5 : Int32)] dM_stamp_11 (kM_in (σ := σ) i2 (0 : Int32) (5 : Int32)) mlM_84 myM_in mnM_in ⟨rfl, rfl, by decide, by decide⟩ rfl (Nat.le_of_ble_eq_true rfl) ⟨Nat.zero_le _, Nat.zero_le _⟩ rfl ?_
    refine V.ifeq 27 dM_stamp_14 rfl rfl (fun g2 => ?_) (fun g2 => ?_)
    · replace hX := ip hX g2
      refine V.iconst (-1 : Int32) dM_stamp_27 lcm1 rfl ?_
      have hX := (Option.some.inj hX).symm; subst hX; exact V.iret dM_stamp_28 rfl rfl
    · replace hX := im hX g2
      refine V.iloadn 3 dM_stamp_17 rfl rfl ?_
      refine V.iconst (1 : Int32) dM_stamp_18 lc1 rfl ?_
      refine V.bipush (99 : Int32) dM_stamp_19 lb99 rfl ?_
      refine V.callsi [.int i3, .int (1 : Int32), .int (99 : Int32)] dM_stamp_21 (kM_in (σ := σ) i3 (1 : Int32) (99 : Int32)) mlM_84 myM_in mnM_in ⟨rfl, rfl, by decide, by decide⟩ rfl (Nat.le_of_ble_eq_true rfl) ⟨Nat.zero_le _, Nat.zero_le _⟩ rfl ?_
      refine V.ifne 29 dM_stamp_24 rfl rfl (fun g3 => ?_) (fun g3 => ?_)
      · replace hX := im hX g3
        refine V.aloadn 0 dM_stamp_29 rfl rfl ?_
        refine V.iloadn 1 dM_stamp_30 rfl rfl ?_
        refine V.iconst (0 : Int32) dM_stamp_31 lc0 rfl ?_
        obtain ⟨q4, c5, hX⟩ := bd hX; try dsimp only at hX
        refine V.callvi 44 [.int i1, .int (0 : Int32)] dM_stamp_32 (kM_its c5) mlM_193 myM_its mnM_its ⟨rfl, rfl, by decide, by decide⟩ (rfl : kd 44 = (6, 0)) (by decide) rfl (Nat.le_of_ble_eq_true rfl) ⟨Nat.zero_le _, Nat.zero_le _⟩ rfl ?_
        refine V.istore _ dM_stamp_35 (by decide) rfl rfl ?_
        refine V.aloadn 1 dM_stamp_37 rfl rfl ?_
        refine V.getr 44 48 dM_stamp_38 flM_19 (rfl : kd 44 = (6, 0)) rfl rfl ?_
        refine V.iconst (4 : Int32) dM_stamp_41 lc4 rfl ?_
        refine V.iloadn 2 dM_stamp_42 rfl rfl ?_
        refine V.imul dM_stamp_43 rfl ?_
        refine V.iloadn 3 dM_stamp_44 rfl rfl ?_
        obtain ⟨h6, hX⟩ := ob hX
        refine V.iast 48 dM_stamp_45 (rfl : kd 48 = (7, 24)) h6 rfl ?_
        replace hX := nmx hX; generalize sI σ 48 (ix ((4 : Int32) * i1)) i2 = σ7 at hX ⊢; try dsimp only at hX
        refine V.aloadn 1 dM_stamp_46 rfl rfl ?_
        refine V.getr 44 48 dM_stamp_47 flM_19 (rfl : kd 44 = (6, 0)) rfl rfl ?_
        refine V.iconst (4 : Int32) dM_stamp_50 lc4 rfl ?_
        refine V.iloadn 2 dM_stamp_51 rfl rfl ?_
        refine V.imul dM_stamp_52 rfl ?_
        refine V.iconst (1 : Int32) dM_stamp_53 lc1 rfl ?_
        refine V.iadd dM_stamp_54 rfl ?_
        refine V.iloadn 4 dM_stamp_55 rfl rfl ?_
        obtain ⟨h8, hX⟩ := ob hX
        refine V.iast 48 dM_stamp_56 (rfl : kd 48 = (7, 24)) h8 rfl ?_
        replace hX := nmx hX; generalize sI σ7 48 (ix (((4 : Int32) * i1) + (1 : Int32))) i3 = σ9 at hX ⊢; try dsimp only at hX
        refine V.iload 0 dM_stamp_57 rfl rfl ?_
        have hX := (Option.some.inj hX).symm; subst hX; exact V.iret dM_stamp_59 rfl rfl
      · replace hX := ip hX g3
        refine V.iconst (-1 : Int32) dM_stamp_27 lcm1 rfl ?_
        have hX := (Option.some.inj hX).symm; subst hX; exact V.iret dM_stamp_28 rfl rfl
theorem kM_stamp {E : Ev} {σ σ2 : St} {i1 : Int32} {i2 : Int32} {i3 : Int32} {z : Int32} (h : fM_stamp σ i1 i2 i3 = some (z, σ2)) : Ct mM_stamp E [.ref 44, .int i1, .int i2, .int i3] σ (some (.int z), σ2) := Ct.of (by decide) (Nat.le_of_ble_eq_true rfl) (wM_stamp σ i1 i2 i3 h)
theorem dM_ones_0 : decode mM_ones.1 0 = .ok (.iconst 0, 1) := by decide +kernel
theorem dM_ones_1 : decode mM_ones.1 1 = .ok (.istore_n 1, 1) := by decide +kernel
theorem dM_ones_2 : decode mM_ones.1 2 = .ok (.iload_n 0, 1) := by decide +kernel
theorem dM_ones_3 : decode mM_ones.1 3 = .ok (.istore_n 2, 1) := by decide +kernel
theorem dM_ones_4 : decode mM_ones.1 4 = .ok (.iload_n 2, 1) := by decide +kernel
theorem dM_ones_5 : decode mM_ones.1 5 = .ok (.ifCond .eq 15, 3) := by decide +kernel
theorem dM_ones_8 : decode mM_ones.1 8 = .ok (.iinc 1 1, 3) := by decide +kernel
theorem dM_ones_11 : decode mM_ones.1 11 = .ok (.iload_n 2, 1) := by decide +kernel
theorem dM_ones_12 : decode mM_ones.1 12 = .ok (.iload_n 2, 1) := by decide +kernel
theorem dM_ones_13 : decode mM_ones.1 13 = .ok (.iconst 1, 1) := by decide +kernel
theorem dM_ones_14 : decode mM_ones.1 14 = .ok (.isub, 1) := by decide +kernel
theorem dM_ones_15 : decode mM_ones.1 15 = .ok (.iand, 1) := by decide +kernel
theorem dM_ones_16 : decode mM_ones.1 16 = .ok (.istore_n 2, 1) := by decide +kernel
theorem dM_ones_17 : decode mM_ones.1 17 = .ok (.goto (-13), 3) := by decide +kernel
theorem dM_ones_20 : decode mM_ones.1 20 = .ok (.iload_n 1, 1) := by decide +kernel
theorem dM_ones_21 : decode mM_ones.1 21 = .ok (.ireturn, 1) := by decide +kernel
set_option maxRecDepth 4000 in
theorem wM_ones_4 {E : Ev} {z : Int32} : ∀ (fu : Nat) (σ : St) (i1 : Int32) (i2 : Int32), fM_ones_4 fu σ i1 i2 = some z → V E mM_ones (FM E (some (.int z), σ)) 4 [(1, .int i1), (2, .int i2)] [] σ := by
  intro fu
  induction fu with
  | zero => intro σ i1 i2 hX; cases hX
  | succ fu ih =>
    intro σ i1 i2 hX
    rw [fM_ones_4] at hX
    refine V.iloadn 1 dM_ones_4 rfl rfl ?_
    refine V.ifeq 20 dM_ones_5 rfl rfl (fun g1 => ?_) (fun g1 => ?_)
    · replace hX := ip hX g1
      refine V.iloadn 0 dM_ones_20 rfl rfl ?_
      have hX := (Option.some.inj hX).symm; subst hX; exact V.iret dM_ones_21 rfl rfl
    · replace hX := im hX g1
      refine V.iinc 0 (1 : Int32) _ dM_ones_8 rfl lc1 (by decide) rfl rfl ?_
      replace hX := nmx hX; generalize i1 + (1 : Int32) = v2 at hX ⊢; try dsimp only at hX
      refine V.iloadn 1 dM_ones_11 rfl rfl ?_
      refine V.iloadn 1 dM_ones_12 rfl rfl ?_
      refine V.iconst (1 : Int32) dM_ones_13 lc1 rfl ?_
      refine V.isub dM_ones_14 rfl ?_
      refine V.iand dM_ones_15 rfl ?_
      refine V.istoren _ dM_ones_16 (by decide) rfl rfl ?_
      replace hX := nmx hX; generalize i2 &&& (i2 - (1 : Int32)) = v3 at hX ⊢; try dsimp only at hX
      refine V.goto 4 dM_ones_17 rfl ?_
      refine V.sub [1, 0] rfl ?_
      exact ih σ v2 v3 hX
set_option maxRecDepth 4000 in
theorem wM_ones {E : Ev} {z : Int32} (σ : St) (i0 : Int32) (hX : fM_ones σ i0 = some z) : V E mM_ones (FM E (some (.int z), σ)) 0 [(0, .int i0)] [] σ := by
  unfold fM_ones at hX
  refine V.iconst (0 : Int32) dM_ones_0 lc0 rfl ?_
  refine V.istoren _ dM_ones_1 (by decide) rfl rfl ?_
  refine V.iloadn 1 dM_ones_2 rfl rfl ?_
  refine V.istoren _ dM_ones_3 (by decide) rfl rfl ?_
  refine V.sub [1, 0] rfl ?_
  exact wM_ones_4 300 σ (0 : Int32) i0 hX
theorem kM_ones {E : Ev} {σ : St} {i0 : Int32} {z : Int32} (h : fM_ones σ i0 = some z) : Ct mM_ones E [.int i0] σ (some (.int z), σ) := Ct.of (by decide) (Nat.le_of_ble_eq_true rfl) (wM_ones σ i0 h)
theorem dM_clean_0 : decode mM_clean.1 0 = .ok (.aload_n 0, 1) := by decide +kernel
theorem dM_clean_1 : decode mM_clean.1 1 = .ok (.iload_n 1, 1) := by decide +kernel
theorem dM_clean_2 : decode mM_clean.1 2 = .ok (.invokevirtual 223, 3) := by decide +kernel
theorem dM_clean_5 : decode mM_clean.1 5 = .ok (.ifCond .ne 5, 3) := by decide +kernel
theorem dM_clean_8 : decode mM_clean.1 8 = .ok (.iconst (-1), 1) := by decide +kernel
theorem dM_clean_9 : decode mM_clean.1 9 = .ok (.ireturn, 1) := by decide +kernel
theorem dM_clean_10 : decode mM_clean.1 10 = .ok (.aload_n 0, 1) := by decide +kernel
theorem dM_clean_11 : decode mM_clean.1 11 = .ok (.iload_n 1, 1) := by decide +kernel
theorem dM_clean_12 : decode mM_clean.1 12 = .ok (.iconst 3, 1) := by decide +kernel
theorem dM_clean_13 : decode mM_clean.1 13 = .ok (.invokevirtual 193, 3) := by decide +kernel
theorem dM_clean_16 : decode mM_clean.1 16 = .ok (.invokestatic 229, 3) := by decide +kernel
theorem dM_clean_19 : decode mM_clean.1 19 = .ok (.iconst 1, 1) := by decide +kernel
theorem dM_clean_20 : decode mM_clean.1 20 = .ok (.isub, 1) := by decide +kernel
theorem dM_clean_21 : decode mM_clean.1 21 = .ok (.istore_n 2, 1) := by decide +kernel
theorem dM_clean_22 : decode mM_clean.1 22 = .ok (.aload_n 0, 1) := by decide +kernel
theorem dM_clean_23 : decode mM_clean.1 23 = .ok (.getfield 19, 3) := by decide +kernel
theorem dM_clean_26 : decode mM_clean.1 26 = .ok (.iconst 4, 1) := by decide +kernel
theorem dM_clean_27 : decode mM_clean.1 27 = .ok (.iload_n 1, 1) := by decide +kernel
theorem dM_clean_28 : decode mM_clean.1 28 = .ok (.imul, 1) := by decide +kernel
theorem dM_clean_29 : decode mM_clean.1 29 = .ok (.iconst 3, 1) := by decide +kernel
theorem dM_clean_30 : decode mM_clean.1 30 = .ok (.iadd, 1) := by decide +kernel
theorem dM_clean_31 : decode mM_clean.1 31 = .ok (.iconst 1, 1) := by decide +kernel
theorem dM_clean_32 : decode mM_clean.1 32 = .ok (.aload_n 0, 1) := by decide +kernel
theorem dM_clean_33 : decode mM_clean.1 33 = .ok (.iload_n 1, 1) := by decide +kernel
theorem dM_clean_34 : decode mM_clean.1 34 = .ok (.iconst 2, 1) := by decide +kernel
theorem dM_clean_35 : decode mM_clean.1 35 = .ok (.invokevirtual 193, 3) := by decide +kernel
theorem dM_clean_38 : decode mM_clean.1 38 = .ok (.ishl, 1) := by decide +kernel
theorem dM_clean_39 : decode mM_clean.1 39 = .ok (.iastore, 1) := by decide +kernel
theorem dM_clean_40 : decode mM_clean.1 40 = .ok (.iload_n 2, 1) := by decide +kernel
theorem dM_clean_41 : decode mM_clean.1 41 = .ok (.ireturn, 1) := by decide +kernel
set_option maxRecDepth 4000 in
theorem wM_clean {E : Ev} {z : Int32 × St} (σ : St) (i1 : Int32) (hX : fM_clean σ i1 = some z) : V E mM_clean (FM E (some (.int z.1), z.2)) 0 [(0, .ref 44), (1, .int i1)] [] σ := by
  unfold fM_clean at hX
  refine V.aloadn 0 dM_clean_0 rfl rfl ?_
  refine V.iloadn 1 dM_clean_1 rfl rfl ?_
  refine V.callvi 44 [.int i1] dM_clean_2 (kM_isCoin (σ := σ) i1) mlM_223 myM_isCoin mnM_isCoin ⟨rfl, rfl, by decide, by decide⟩ (rfl : kd 44 = (6, 0)) (by decide) rfl (Nat.le_of_ble_eq_true rfl) ⟨Nat.zero_le _, Nat.zero_le _⟩ rfl ?_
  refine V.ifne 10 dM_clean_5 rfl rfl (fun g1 => ?_) (fun g1 => ?_)
  · replace hX := im hX g1
    refine V.aloadn 0 dM_clean_10 rfl rfl ?_
    refine V.iloadn 1 dM_clean_11 rfl rfl ?_
    refine V.iconst (3 : Int32) dM_clean_12 lc3 rfl ?_
    obtain ⟨q2, c3, hX⟩ := bd hX; try dsimp only at hX
    refine V.callvi 44 [.int i1, .int (3 : Int32)] dM_clean_13 (kM_its c3) mlM_193 myM_its mnM_its ⟨rfl, rfl, by decide, by decide⟩ (rfl : kd 44 = (6, 0)) (by decide) rfl (Nat.le_of_ble_eq_true rfl) ⟨Nat.zero_le _, Nat.zero_le _⟩ rfl ?_
    obtain ⟨q4, c5, hX⟩ := bd hX; try dsimp only at hX
    refine V.callsi [.int q2] dM_clean_16 (kM_ones c5) mlM_229 myM_ones mnM_ones ⟨rfl, rfl, by decide, by decide⟩ rfl (Nat.le_of_ble_eq_true rfl) ⟨Nat.zero_le _, Nat.zero_le _⟩ rfl ?_
    refine V.iconst (1 : Int32) dM_clean_19 lc1 rfl ?_
    refine V.isub dM_clean_20 rfl ?_
    refine V.istoren _ dM_clean_21 (by decide) rfl rfl ?_
    replace hX := nmx hX; generalize q4 - (1 : Int32) = v6 at hX ⊢; try dsimp only at hX
    refine V.aloadn 1 dM_clean_22 rfl rfl ?_
    refine V.getr 44 48 dM_clean_23 flM_19 (rfl : kd 44 = (6, 0)) rfl rfl ?_
    refine V.iconst (4 : Int32) dM_clean_26 lc4 rfl ?_
    refine V.iloadn 2 dM_clean_27 rfl rfl ?_
    refine V.imul dM_clean_28 rfl ?_
    refine V.iconst (3 : Int32) dM_clean_29 lc3 rfl ?_
    refine V.iadd dM_clean_30 rfl ?_
    refine V.iconst (1 : Int32) dM_clean_31 lc1 rfl ?_
    refine V.aloadn 1 dM_clean_32 rfl rfl ?_
    refine V.iloadn 2 dM_clean_33 rfl rfl ?_
    refine V.iconst (2 : Int32) dM_clean_34 lc2 rfl ?_
    obtain ⟨q7, c8, hX⟩ := bd hX; try dsimp only at hX
    refine V.callvi 44 [.int i1, .int (2 : Int32)] dM_clean_35 (kM_its c8) mlM_193 myM_its mnM_its ⟨rfl, rfl, by decide, by decide⟩ (rfl : kd 44 = (6, 0)) (by decide) rfl (Nat.le_of_ble_eq_true rfl) ⟨Nat.zero_le _, Nat.zero_le _⟩ rfl ?_
    refine V.ishl dM_clean_38 rfl ?_
    obtain ⟨h9, hX⟩ := ob hX
    refine V.iast 48 dM_clean_39 (rfl : kd 48 = (7, 24)) h9 rfl ?_
    replace hX := nmx hX; generalize sI σ 48 (ix (((4 : Int32) * i1) + (3 : Int32))) ((1 : Int32) <<< (q7 &&& 31)) = σ10 at hX ⊢; try dsimp only at hX
    refine V.iloadn 0 dM_clean_40 rfl rfl ?_
    have hX := (Option.some.inj hX).symm; subst hX; exact V.iret dM_clean_41 rfl rfl
  · replace hX := ip hX g1
    refine V.iconst (-1 : Int32) dM_clean_8 lcm1 rfl ?_
    have hX := (Option.some.inj hX).symm; subst hX; exact V.iret dM_clean_9 rfl rfl
theorem kM_clean {E : Ev} {σ σ2 : St} {i1 : Int32} {z : Int32} (h : fM_clean σ i1 = some (z, σ2)) : Ct mM_clean E [.ref 44, .int i1] σ (some (.int z), σ2) := Ct.of (by decide) (Nat.le_of_ble_eq_true rfl) (wM_clean σ i1 h)
theorem dM_may_0 : decode mM_may.1 0 = .ok (.aload_n 0, 1) := by decide +kernel
theorem dM_may_1 : decode mM_may.1 1 = .ok (.iload_n 1, 1) := by decide +kernel
theorem dM_may_2 : decode mM_may.1 2 = .ok (.invokevirtual 223, 3) := by decide +kernel
theorem dM_may_5 : decode mM_may.1 5 = .ok (.ifCond .eq 11, 3) := by decide +kernel
theorem dM_may_8 : decode mM_may.1 8 = .ok (.aload_n 0, 1) := by decide +kernel
theorem dM_may_9 : decode mM_may.1 9 = .ok (.iload_n 2, 1) := by decide +kernel
theorem dM_may_10 : decode mM_may.1 10 = .ok (.invokevirtual 203, 3) := by decide +kernel
theorem dM_may_13 : decode mM_may.1 13 = .ok (.ifCond .ne 5, 3) := by decide +kernel
theorem dM_may_16 : decode mM_may.1 16 = .ok (.iconst (-1), 1) := by decide +kernel
theorem dM_may_17 : decode mM_may.1 17 = .ok (.ireturn, 1) := by decide +kernel
theorem dM_may_18 : decode mM_may.1 18 = .ok (.aload_n 0, 1) := by decide +kernel
theorem dM_may_19 : decode mM_may.1 19 = .ok (.iload_n 1, 1) := by decide +kernel
theorem dM_may_20 : decode mM_may.1 20 = .ok (.iload_n 2, 1) := by decide +kernel
theorem dM_may_21 : decode mM_may.1 21 = .ok (.invokevirtual 220, 3) := by decide +kernel
theorem dM_may_24 : decode mM_may.1 24 = .ok (.ifCond .eq 7, 3) := by decide +kernel
theorem dM_may_27 : decode mM_may.1 27 = .ok (.iconst 1, 1) := by decide +kernel
theorem dM_may_28 : decode mM_may.1 28 = .ok (.goto 4, 3) := by decide +kernel
theorem dM_may_31 : decode mM_may.1 31 = .ok (.iconst 0, 1) := by decide +kernel
theorem dM_may_32 : decode mM_may.1 32 = .ok (.ireturn, 1) := by decide +kernel
set_option maxRecDepth 4000 in
theorem wM_may {E : Ev} {z : Int32} (σ : St) (i1 : Int32) (i2 : Int32) (hX : fM_may σ i1 i2 = some z) : V E mM_may (FM E (some (.int z), σ)) 0 [(0, .ref 44), (1, .int i1), (2, .int i2)] [] σ := by
  unfold fM_may at hX
  refine V.aloadn 0 dM_may_0 rfl rfl ?_
  refine V.iloadn 1 dM_may_1 rfl rfl ?_
  refine V.callvi 44 [.int i1] dM_may_2 (kM_isCoin (σ := σ) i1) mlM_223 myM_isCoin mnM_isCoin ⟨rfl, rfl, by decide, by decide⟩ (rfl : kd 44 = (6, 0)) (by decide) rfl (Nat.le_of_ble_eq_true rfl) ⟨Nat.zero_le _, Nat.zero_le _⟩ rfl ?_
  refine V.ifeq 16 dM_may_5 rfl rfl (fun g1 => ?_) (fun g1 => ?_)
  · replace hX := ip hX g1
    refine V.iconst (-1 : Int32) dM_may_16 lcm1 rfl ?_
    have hX := (Option.some.inj hX).symm; subst hX; exact V.iret dM_may_17 rfl rfl
  · replace hX := im hX g1
    refine V.aloadn 0 dM_may_8 rfl rfl ?_
    refine V.iloadn 2 dM_may_9 rfl rfl ?_
    refine V.callvi 44 [.int i2] dM_may_10 (kM_isPerson (σ := σ) i2) mlM_203 myM_isPerson mnM_isPerson ⟨rfl, rfl, by decide, by decide⟩ (rfl : kd 44 = (6, 0)) (by decide) rfl (Nat.le_of_ble_eq_true rfl) ⟨Nat.zero_le _, Nat.zero_le _⟩ rfl ?_
    refine V.ifne 18 dM_may_13 rfl rfl (fun g2 => ?_) (fun g2 => ?_)
    · replace hX := im hX g2
      refine V.aloadn 0 dM_may_18 rfl rfl ?_
      refine V.iloadn 1 dM_may_19 rfl rfl ?_
      refine V.iloadn 2 dM_may_20 rfl rfl ?_
      obtain ⟨q3, c4, hX⟩ := bd hX; try dsimp only at hX
      refine V.callvi 44 [.int i1, .int i2] dM_may_21 (kM_mayNow c4) mlM_220 myM_mayNow mnM_mayNow ⟨rfl, rfl, by decide, by decide⟩ (rfl : kd 44 = (6, 0)) (by decide) rfl (Nat.le_of_ble_eq_true rfl) ⟨Nat.zero_le _, Nat.zero_le _⟩ rfl ?_
      have JJ : V E mM_may (FM E (some (.int z), σ)) 32 [(0, .ref 44), (1, .int i1), (2, .int i2)] [.int (if q3 = 0 then (0 : Int32) else (1 : Int32))] σ := by
        have hX := (Option.some.inj hX).symm; subst hX; exact V.iret dM_may_32 rfl rfl
      refine V.ifeq 31 dM_may_24 rfl rfl (fun g5 => ?_) (fun g5 => ?_)
      · refine V.iconst (0 : Int32) dM_may_31 lc0 rfl ?_
        exact V.top (if_pos g5).symm JJ
      · refine V.iconst (1 : Int32) dM_may_27 lc1 rfl ?_
        refine V.goto 32 dM_may_28 rfl ?_
        exact V.top (if_neg g5).symm JJ
    · replace hX := ip hX g2
      refine V.iconst (-1 : Int32) dM_may_16 lcm1 rfl ?_
      have hX := (Option.some.inj hX).symm; subst hX; exact V.iret dM_may_17 rfl rfl
theorem kM_may {E : Ev} {σ : St} {i1 : Int32} {i2 : Int32} {z : Int32} (h : fM_may σ i1 i2 = some z) : Ct mM_may E [.ref 44, .int i1, .int i2] σ (some (.int z), σ) := Ct.of (by decide) (Nat.le_of_ble_eq_true rfl) (wM_may σ i1 i2 h)
theorem dM_everybody_0 : decode mM_everybody.1 0 = .ok (.iconst 1, 1) := by decide +kernel
theorem dM_everybody_1 : decode mM_everybody.1 1 = .ok (.aload_n 0, 1) := by decide +kernel
theorem dM_everybody_2 : decode mM_everybody.1 2 = .ok (.getfield 81, 3) := by decide +kernel
theorem dM_everybody_5 : decode mM_everybody.1 5 = .ok (.ishl, 1) := by decide +kernel
theorem dM_everybody_6 : decode mM_everybody.1 6 = .ok (.iconst 1, 1) := by decide +kernel
theorem dM_everybody_7 : decode mM_everybody.1 7 = .ok (.isub, 1) := by decide +kernel
theorem dM_everybody_8 : decode mM_everybody.1 8 = .ok (.ireturn, 1) := by decide +kernel
set_option maxRecDepth 4000 in
theorem wM_everybody {E : Ev} {z : Int32} (σ : St) (hX : fM_everybody σ = z) : V E mM_everybody (FM E (some (.int z), σ)) 0 [(0, .ref 44)] [] σ := by
  unfold fM_everybody at hX
  refine V.iconst (1 : Int32) dM_everybody_0 lc1 rfl ?_
  refine V.aloadn 0 dM_everybody_1 rfl rfl ?_
  refine V.geti 44 dM_everybody_2 flM_81 (rfl : kd 44 = (6, 0)) rfl ?_
  refine V.ishl dM_everybody_5 rfl ?_
  refine V.iconst (1 : Int32) dM_everybody_6 lc1 rfl ?_
  refine V.isub dM_everybody_7 rfl ?_
  subst hX; exact V.iret dM_everybody_8 rfl rfl
theorem kM_everybody {E : Ev} {σ : St} : Ct mM_everybody E [.ref 44] σ (some (.int (fM_everybody σ)), σ) := Ct.of (by decide) (Nat.le_of_ble_eq_true rfl) (wM_everybody σ rfl)
theorem dM_goes_0 : decode mM_goes.1 0 = .ok (.aload_n 0, 1) := by decide +kernel
theorem dM_goes_1 : decode mM_goes.1 1 = .ok (.dup, 1) := by decide +kernel
theorem dM_goes_2 : decode mM_goes.1 2 = .ok (.getfield 88, 3) := by decide +kernel
theorem dM_goes_5 : decode mM_goes.1 5 = .ok (.iconst 1, 1) := by decide +kernel
theorem dM_goes_6 : decode mM_goes.1 6 = .ok (.isub, 1) := by decide +kernel
theorem dM_goes_7 : decode mM_goes.1 7 = .ok (.putfield 88, 3) := by decide +kernel
theorem dM_goes_10 : decode mM_goes.1 10 = .ok (.iconst 4, 1) := by decide +kernel
theorem dM_goes_11 : decode mM_goes.1 11 = .ok (.iload_n 1, 1) := by decide +kernel
theorem dM_goes_12 : decode mM_goes.1 12 = .ok (.imul, 1) := by decide +kernel
theorem dM_goes_13 : decode mM_goes.1 13 = .ok (.istore_n 2, 1) := by decide +kernel
theorem dM_goes_14 : decode mM_goes.1 14 = .ok (.iload_n 2, 1) := by decide +kernel
theorem dM_goes_15 : decode mM_goes.1 15 = .ok (.iconst 4, 1) := by decide +kernel
theorem dM_goes_16 : decode mM_goes.1 16 = .ok (.aload_n 0, 1) := by decide +kernel
theorem dM_goes_17 : decode mM_goes.1 17 = .ok (.getfield 88, 3) := by decide +kernel
theorem dM_goes_20 : decode mM_goes.1 20 = .ok (.imul, 1) := by decide +kernel
theorem dM_goes_21 : decode mM_goes.1 21 = .ok (.if_icmp .ge 23, 3) := by decide +kernel
theorem dM_goes_24 : decode mM_goes.1 24 = .ok (.aload_n 0, 1) := by decide +kernel
theorem dM_goes_25 : decode mM_goes.1 25 = .ok (.getfield 19, 3) := by decide +kernel
theorem dM_goes_28 : decode mM_goes.1 28 = .ok (.iload_n 2, 1) := by decide +kernel
theorem dM_goes_29 : decode mM_goes.1 29 = .ok (.aload_n 0, 1) := by decide +kernel
theorem dM_goes_30 : decode mM_goes.1 30 = .ok (.getfield 19, 3) := by decide +kernel
theorem dM_goes_33 : decode mM_goes.1 33 = .ok (.iload_n 2, 1) := by decide +kernel
theorem dM_goes_34 : decode mM_goes.1 34 = .ok (.iconst 4, 1) := by decide +kernel
theorem dM_goes_35 : decode mM_goes.1 35 = .ok (.iadd, 1) := by decide +kernel
theorem dM_goes_36 : decode mM_goes.1 36 = .ok (.iaload, 1) := by decide +kernel
theorem dM_goes_37 : decode mM_goes.1 37 = .ok (.iastore, 1) := by decide +kernel
theorem dM_goes_38 : decode mM_goes.1 38 = .ok (.iinc 2 1, 3) := by decide +kernel
theorem dM_goes_41 : decode mM_goes.1 41 = .ok (.goto (-27), 3) := by decide +kernel
theorem dM_goes_44 : decode mM_goes.1 44 = .ok (.return_, 1) := by decide +kernel
set_option maxRecDepth 4000 in
theorem wM_goes_14 {E : Ev} {z : St} : ∀ (fu : Nat) (σ : St) (i2 : Int32), fM_goes_14 fu σ i2 = some z → V E mM_goes (FM E (none, z)) 14 [(0, .ref 44), (2, .int i2)] [] σ := by
  intro fu
  induction fu with
  | zero => intro σ i2 hX; cases hX
  | succ fu ih =>
    intro σ i2 hX
    rw [fM_goes_14] at hX
    refine V.iloadn 1 dM_goes_14 rfl rfl ?_
    refine V.iconst (4 : Int32) dM_goes_15 lc4 rfl ?_
    refine V.aloadn 0 dM_goes_16 rfl rfl ?_
    refine V.geti 44 dM_goes_17 flM_88 (rfl : kd 44 = (6, 0)) rfl ?_
    refine V.imul dM_goes_20 rfl ?_
    refine V.icmpge 44 dM_goes_21 rfl rfl (fun g3 => ?_) (fun g3 => ?_)
    · replace hX := ip hX g3
      have hX := (Option.some.inj hX).symm; subst hX; exact V.vret dM_goes_44 rfl rfl
    · replace hX := im hX g3
      refine V.aloadn 0 dM_goes_24 rfl rfl ?_
      refine V.getr 44 48 dM_goes_25 flM_19 (rfl : kd 44 = (6, 0)) rfl rfl ?_
      refine V.iloadn 1 dM_goes_28 rfl rfl ?_
      refine V.aloadn 0 dM_goes_29 rfl rfl ?_
      refine V.getr 44 48 dM_goes_30 flM_19 (rfl : kd 44 = (6, 0)) rfl rfl ?_
      refine V.iloadn 1 dM_goes_33 rfl rfl ?_
      refine V.iconst (4 : Int32) dM_goes_34 lc4 rfl ?_
      refine V.iadd dM_goes_35 rfl ?_
      obtain ⟨h4, hX⟩ := ob hX
      refine V.iald 48 dM_goes_36 (rfl : kd 48 = (7, 24)) h4 rfl ?_
      obtain ⟨h5, hX⟩ := ob hX
      refine V.iast 48 dM_goes_37 (rfl : kd 48 = (7, 24)) h5 rfl ?_
      replace hX := nmx hX; generalize sI σ 48 (ix i2) (gI σ 48 (ix (i2 + (4 : Int32)))) = σ6 at hX ⊢; try dsimp only at hX
      refine V.iinc 1 (1 : Int32) _ dM_goes_38 rfl lc1 (by decide) rfl rfl ?_
      replace hX := nmx hX; generalize i2 + (1 : Int32) = v7 at hX ⊢; try dsimp only at hX
      refine V.goto 14 dM_goes_41 rfl ?_
      refine V.sub [1, 0] rfl ?_
      exact ih σ6 v7 hX
set_option maxRecDepth 4000 in
theorem wM_goes {E : Ev} {z : St} (σ : St) (i1 : Int32) (hX : fM_goes σ i1 = some z) : V E mM_goes (FM E (none, z)) 0 [(0, .ref 44), (1, .int i1)] [] σ := by
  unfold fM_goes at hX
  refine V.aloadn 0 dM_goes_0 rfl rfl ?_
  refine V.dup dM_goes_1 rfl rfl ?_
  refine V.geti 44 dM_goes_2 flM_88 (rfl : kd 44 = (6, 0)) rfl ?_
  refine V.iconst (1 : Int32) dM_goes_5 lc1 rfl ?_
  refine V.isub dM_goes_6 rfl ?_
  refine V.puti 44 .int dM_goes_7 flM_88 fw6_4 (rfl : kd 44 = (6, 0)) ⟨rfl, rfl⟩ rfl ?_
  replace hX := nmx hX; generalize sI σ 44 4 ((gI σ 44 4) - (1 : Int32)) = σ1 at hX ⊢; try dsimp only at hX
  refine V.iconst (4 : Int32) dM_goes_10 lc4 rfl ?_
  refine V.iloadn 1 dM_goes_11 rfl rfl ?_
  refine V.imul dM_goes_12 rfl ?_
  refine V.istoren _ dM_goes_13 (by decide) rfl rfl ?_
  replace hX := nmx hX; generalize (4 : Int32) * i1 = v2 at hX ⊢; try dsimp only at hX
  refine V.sub [1, 0] rfl ?_
  exact wM_goes_14 300 σ1 v2 hX
theorem kM_goes {E : Ev} {σ z : St} {i1 : Int32} (h : fM_goes σ i1 = some z) : Ct mM_goes E [.ref 44, .int i1] σ (none, z) := Ct.of (by decide) (Nat.le_of_ble_eq_true rfl) (wM_goes σ i1 h)
theorem dM_gives_0 : decode mM_gives.1 0 = .ok (.aload_n 0, 1) := by decide +kernel
theorem dM_gives_1 : decode mM_gives.1 1 = .ok (.getfield 19, 3) := by decide +kernel
theorem dM_gives_4 : decode mM_gives.1 4 = .ok (.iconst 4, 1) := by decide +kernel
theorem dM_gives_5 : decode mM_gives.1 5 = .ok (.iload_n 1, 1) := by decide +kernel
theorem dM_gives_6 : decode mM_gives.1 6 = .ok (.imul, 1) := by decide +kernel
theorem dM_gives_7 : decode mM_gives.1 7 = .ok (.iconst 2, 1) := by decide +kernel
theorem dM_gives_8 : decode mM_gives.1 8 = .ok (.iadd, 1) := by decide +kernel
theorem dM_gives_9 : decode mM_gives.1 9 = .ok (.iload_n 2, 1) := by decide +kernel
theorem dM_gives_10 : decode mM_gives.1 10 = .ok (.iastore, 1) := by decide +kernel
theorem dM_gives_11 : decode mM_gives.1 11 = .ok (.aload_n 0, 1) := by decide +kernel
theorem dM_gives_12 : decode mM_gives.1 12 = .ok (.getfield 19, 3) := by decide +kernel
theorem dM_gives_15 : decode mM_gives.1 15 = .ok (.iconst 4, 1) := by decide +kernel
theorem dM_gives_16 : decode mM_gives.1 16 = .ok (.iload_n 1, 1) := by decide +kernel
theorem dM_gives_17 : decode mM_gives.1 17 = .ok (.imul, 1) := by decide +kernel
theorem dM_gives_18 : decode mM_gives.1 18 = .ok (.iconst 3, 1) := by decide +kernel
theorem dM_gives_19 : decode mM_gives.1 19 = .ok (.iadd, 1) := by decide +kernel
theorem dM_gives_20 : decode mM_gives.1 20 = .ok (.dup2, 1) := by decide +kernel
theorem dM_gives_21 : decode mM_gives.1 21 = .ok (.iaload, 1) := by decide +kernel
theorem dM_gives_22 : decode mM_gives.1 22 = .ok (.iconst 1, 1) := by decide +kernel
theorem dM_gives_23 : decode mM_gives.1 23 = .ok (.iload_n 2, 1) := by decide +kernel
theorem dM_gives_24 : decode mM_gives.1 24 = .ok (.ishl, 1) := by decide +kernel
theorem dM_gives_25 : decode mM_gives.1 25 = .ok (.ior, 1) := by decide +kernel
theorem dM_gives_26 : decode mM_gives.1 26 = .ok (.iastore, 1) := by decide +kernel
theorem dM_gives_27 : decode mM_gives.1 27 = .ok (.aload_n 0, 1) := by decide +kernel
theorem dM_gives_28 : decode mM_gives.1 28 = .ok (.iload_n 1, 1) := by decide +kernel
theorem dM_gives_29 : decode mM_gives.1 29 = .ok (.iconst 3, 1) := by decide +kernel
theorem dM_gives_30 : decode mM_gives.1 30 = .ok (.invokevirtual 193, 3) := by decide +kernel
theorem dM_gives_33 : decode mM_gives.1 33 = .ok (.aload_n 0, 1) := by decide +kernel
theorem dM_gives_34 : decode mM_gives.1 34 = .ok (.invokevirtual 232, 3) := by decide +kernel
theorem dM_gives_37 : decode mM_gives.1 37 = .ok (.if_icmp .ne 7, 3) := by decide +kernel
theorem dM_gives_40 : decode mM_gives.1 40 = .ok (.iconst 1, 1) := by decide +kernel
theorem dM_gives_41 : decode mM_gives.1 41 = .ok (.goto 4, 3) := by decide +kernel
theorem dM_gives_44 : decode mM_gives.1 44 = .ok (.iconst 0, 1) := by decide +kernel
theorem dM_gives_45 : decode mM_gives.1 45 = .ok (.istore_n 3, 1) := by decide +kernel
theorem dM_gives_46 : decode mM_gives.1 46 = .ok (.iload_n 3, 1) := by decide +kernel
theorem dM_gives_47 : decode mM_gives.1 47 = .ok (.ifCond .eq 22, 3) := by decide +kernel
theorem dM_gives_50 : decode mM_gives.1 50 = .ok (.aload_n 0, 1) := by decide +kernel
theorem dM_gives_51 : decode mM_gives.1 51 = .ok (.getfield 13, 3) := by decide +kernel
theorem dM_gives_54 : decode mM_gives.1 54 = .ok (.iload_n 2, 1) := by decide +kernel
theorem dM_gives_55 : decode mM_gives.1 55 = .ok (.dup2, 1) := by decide +kernel
theorem dM_gives_56 : decode mM_gives.1 56 = .ok (.iaload, 1) := by decide +kernel
theorem dM_gives_57 : decode mM_gives.1 57 = .ok (.aload_n 0, 1) := by decide +kernel
theorem dM_gives_58 : decode mM_gives.1 58 = .ok (.iload_n 1, 1) := by decide +kernel
theorem dM_gives_59 : decode mM_gives.1 59 = .ok (.invokevirtual 200, 3) := by decide +kernel
theorem dM_gives_62 : decode mM_gives.1 62 = .ok (.iadd, 1) := by decide +kernel
theorem dM_gives_63 : decode mM_gives.1 63 = .ok (.iastore, 1) := by decide +kernel
theorem dM_gives_64 : decode mM_gives.1 64 = .ok (.aload_n 0, 1) := by decide +kernel
theorem dM_gives_65 : decode mM_gives.1 65 = .ok (.iload_n 1, 1) := by decide +kernel
theorem dM_gives_66 : decode mM_gives.1 66 = .ok (.invokevirtual 235, 3) := by decide +kernel
theorem dM_gives_69 : decode mM_gives.1 69 = .ok (.iload_n 3, 1) := by decide +kernel
theorem dM_gives_70 : decode mM_gives.1 70 = .ok (.ireturn, 1) := by decide +kernel
set_option maxRecDepth 4000 in
theorem wM_gives {E : Ev} {z : Int32 × St} (σ : St) (i1 : Int32) (i2 : Int32) (hX : fM_gives σ i1 i2 = some z) : V E mM_gives (FM E (some (.int z.1), z.2)) 0 [(0, .ref 44), (1, .int i1), (2, .int i2)] [] σ := by
  unfold fM_gives at hX
  refine V.aloadn 0 dM_gives_0 rfl rfl ?_
  refine V.getr 44 48 dM_gives_1 flM_19 (rfl : kd 44 = (6, 0)) rfl rfl ?_
  refine V.iconst (4 : Int32) dM_gives_4 lc4 rfl ?_
  refine V.iloadn 1 dM_gives_5 rfl rfl ?_
  refine V.imul dM_gives_6 rfl ?_
  refine V.iconst (2 : Int32) dM_gives_7 lc2 rfl ?_
  refine V.iadd dM_gives_8 rfl ?_
  refine V.iloadn 2 dM_gives_9 rfl rfl ?_
  obtain ⟨h1, hX⟩ := ob hX
  refine V.iast 48 dM_gives_10 (rfl : kd 48 = (7, 24)) h1 rfl ?_
  replace hX := nmx hX; generalize sI σ 48 (ix (((4 : Int32) * i1) + (2 : Int32))) i2 = σ2 at hX ⊢; try dsimp only at hX
  refine V.aloadn 0 dM_gives_11 rfl rfl ?_
  refine V.getr 44 48 dM_gives_12 flM_19 (rfl : kd 44 = (6, 0)) rfl rfl ?_
  refine V.iconst (4 : Int32) dM_gives_15 lc4 rfl ?_
  refine V.iloadn 1 dM_gives_16 rfl rfl ?_
  refine V.imul dM_gives_17 rfl ?_
  refine V.iconst (3 : Int32) dM_gives_18 lc3 rfl ?_
  refine V.iadd dM_gives_19 rfl ?_
  refine V.dup2 dM_gives_20 rfl rfl rfl ?_
  obtain ⟨h3, hX⟩ := ob hX
  refine V.iald 48 dM_gives_21 (rfl : kd 48 = (7, 24)) h3 rfl ?_
  refine V.iconst (1 : Int32) dM_gives_22 lc1 rfl ?_
  refine V.iloadn 2 dM_gives_23 rfl rfl ?_
  refine V.ishl dM_gives_24 rfl ?_
  refine V.ior dM_gives_25 rfl ?_
  obtain ⟨h4, hX⟩ := ob hX
  refine V.iast 48 dM_gives_26 (rfl : kd 48 = (7, 24)) h4 rfl ?_
  replace hX := nmx hX; generalize sI σ2 48 (ix (((4 : Int32) * i1) + (3 : Int32))) ((gI σ2 48 (ix (((4 : Int32) * i1) + (3 : Int32)))) ||| ((1 : Int32) <<< (i2 &&& 31))) = σ5 at hX ⊢; try dsimp only at hX
  refine V.aloadn 0 dM_gives_27 rfl rfl ?_
  refine V.iloadn 1 dM_gives_28 rfl rfl ?_
  refine V.iconst (3 : Int32) dM_gives_29 lc3 rfl ?_
  obtain ⟨q6, c7, hX⟩ := bd hX; try dsimp only at hX
  refine V.callvi 44 [.int i1, .int (3 : Int32)] dM_gives_30 (kM_its c7) mlM_193 myM_its mnM_its ⟨rfl, rfl, by decide, by decide⟩ (rfl : kd 44 = (6, 0)) (by decide) rfl (Nat.le_of_ble_eq_true rfl) ⟨Nat.zero_le _, Nat.zero_le _⟩ rfl ?_
  refine V.aloadn 0 dM_gives_33 rfl rfl ?_
  refine V.callvi 44 [] dM_gives_34 (kM_everybody (σ := σ5)) mlM_232 myM_everybody mnM_everybody ⟨rfl, rfl, by decide, by decide⟩ (rfl : kd 44 = (6, 0)) (by decide) rfl (Nat.le_of_ble_eq_true rfl) ⟨Nat.zero_le _, Nat.zero_le _⟩ rfl ?_
  have JJ : V E mM_gives (FM E (some (.int z.1), z.2)) 45 [(0, .ref 44), (1, .int i1), (2, .int i2)] [.int (if q6 = (fM_everybody σ5) then (1 : Int32) else (0 : Int32))] σ5 := by
    refine V.istoren _ dM_gives_45 (by decide) rfl rfl ?_
    replace hX := nmx hX; generalize (if q6 = (fM_everybody σ5) then (1 : Int32) else (0 : Int32)) = v8 at hX ⊢; try dsimp only at hX
    refine V.iloadn 0 dM_gives_46 rfl rfl ?_
    refine V.ifeq 69 dM_gives_47 rfl rfl (fun g9 => ?_) (fun g9 => ?_)
    · replace hX := ip hX g9
      refine V.iloadn 0 dM_gives_69 rfl rfl ?_
      obtain ⟨h10, hX⟩ := ob hX
      have hX := (Option.some.inj hX).symm; subst hX; exact V.zret .boolean dM_gives_70 rfl (nz h10).1 rfl
    · replace hX := im hX g9
      refine V.aloadn 1 dM_gives_50 rfl rfl ?_
      refine V.getr 44 46 dM_gives_51 flM_13 (rfl : kd 44 = (6, 0)) rfl rfl ?_
      refine V.iloadn 3 dM_gives_54 rfl rfl ?_
      refine V.dup2 dM_gives_55 rfl rfl rfl ?_
      obtain ⟨h11, hX⟩ := ob hX
      refine V.iald 46 dM_gives_56 (rfl : kd 46 = (7, 7)) h11 rfl ?_
      refine V.aloadn 1 dM_gives_57 rfl rfl ?_
      refine V.iloadn 2 dM_gives_58 rfl rfl ?_
      obtain ⟨q12, c13, hX⟩ := bd hX; try dsimp only at hX
      refine V.callvi 44 [.int i1] dM_gives_59 (kM_worth c13) mlM_200 myM_worth mnM_worth ⟨rfl, rfl, by decide, by decide⟩ (rfl : kd 44 = (6, 0)) (by decide) rfl (Nat.le_of_ble_eq_true rfl) ⟨Nat.zero_le _, Nat.zero_le _⟩ rfl ?_
      refine V.iadd dM_gives_62 rfl ?_
      obtain ⟨h14, hX⟩ := ob hX
      refine V.iast 46 dM_gives_63 (rfl : kd 46 = (7, 7)) h14 rfl ?_
      replace hX := nmx hX; generalize sI σ5 46 (ix i2) ((gI σ5 46 (ix i2)) + q12) = σ15 at hX ⊢; try dsimp only at hX
      refine V.aloadn 1 dM_gives_64 rfl rfl ?_
      refine V.iloadn 2 dM_gives_65 rfl rfl ?_
      obtain ⟨σ17, c16, hX⟩ := bd hX; try dsimp only at hX
      refine V.callv0 44 [.int i1] dM_gives_66 (kM_goes c16) mlM_235 myM_goes mnM_goes ⟨rfl, rfl, by decide, by decide⟩ (rfl : kd 44 = (6, 0)) (by decide) rfl (Nat.le_of_ble_eq_true rfl) ⟨Nat.zero_le _, Nat.zero_le _⟩ rfl ?_
      refine V.iloadn 0 dM_gives_69 rfl rfl ?_
      obtain ⟨h18, hX⟩ := ob hX
      have hX := (Option.some.inj hX).symm; subst hX; exact V.zret .boolean dM_gives_70 rfl (nz h18).1 rfl
  refine V.icmpne 44 dM_gives_37 rfl rfl (fun g19 => ?_) (fun g19 => ?_)
  · refine V.iconst (0 : Int32) dM_gives_44 lc0 rfl ?_
    exact V.top (if_neg g19).symm JJ
  · refine V.iconst (1 : Int32) dM_gives_40 lc1 rfl ?_
    refine V.goto 45 dM_gives_41 rfl ?_
    exact V.top (if_pos g19).symm JJ
theorem kM_gives {E : Ev} {σ σ2 : St} {i1 : Int32} {i2 : Int32} {z : Int32} (h : fM_gives σ i1 i2 = some (z, σ2)) : Ct mM_gives E [.ref 44, .int i1, .int i2] σ (some (.int z), σ2) := Ct.of (by decide) (Nat.le_of_ble_eq_true rfl) (wM_gives σ i1 i2 h)
theorem dM_give_0 : decode mM_give.1 0 = .ok (.aload_n 0, 1) := by decide +kernel
theorem dM_give_1 : decode mM_give.1 1 = .ok (.iload_n 1, 1) := by decide +kernel
theorem dM_give_2 : decode mM_give.1 2 = .ok (.invokevirtual 223, 3) := by decide +kernel
theorem dM_give_5 : decode mM_give.1 5 = .ok (.ifCond .eq 11, 3) := by decide +kernel
theorem dM_give_8 : decode mM_give.1 8 = .ok (.aload_n 0, 1) := by decide +kernel
theorem dM_give_9 : decode mM_give.1 9 = .ok (.iload_n 2, 1) := by decide +kernel
theorem dM_give_10 : decode mM_give.1 10 = .ok (.invokevirtual 203, 3) := by decide +kernel
theorem dM_give_13 : decode mM_give.1 13 = .ok (.ifCond .ne 5, 3) := by decide +kernel
theorem dM_give_16 : decode mM_give.1 16 = .ok (.iconst (-1), 1) := by decide +kernel
theorem dM_give_17 : decode mM_give.1 17 = .ok (.ireturn, 1) := by decide +kernel
theorem dM_give_18 : decode mM_give.1 18 = .ok (.aload_n 0, 1) := by decide +kernel
theorem dM_give_19 : decode mM_give.1 19 = .ok (.iload_n 1, 1) := by decide +kernel
theorem dM_give_20 : decode mM_give.1 20 = .ok (.iload_n 2, 1) := by decide +kernel
theorem dM_give_21 : decode mM_give.1 21 = .ok (.invokevirtual 220, 3) := by decide +kernel
theorem dM_give_24 : decode mM_give.1 24 = .ok (.ifCond .ne 6, 3) := by decide +kernel
theorem dM_give_27 : decode mM_give.1 27 = .ok (.bipush (-4), 2) := by decide +kernel
theorem dM_give_29 : decode mM_give.1 29 = .ok (.ireturn, 1) := by decide +kernel
theorem dM_give_30 : decode mM_give.1 30 = .ok (.aload_n 0, 1) := by decide +kernel
theorem dM_give_31 : decode mM_give.1 31 = .ok (.iload_n 1, 1) := by decide +kernel
theorem dM_give_32 : decode mM_give.1 32 = .ok (.iload_n 2, 1) := by decide +kernel
theorem dM_give_33 : decode mM_give.1 33 = .ok (.invokevirtual 238, 3) := by decide +kernel
theorem dM_give_36 : decode mM_give.1 36 = .ok (.ifCond .eq 7, 3) := by decide +kernel
theorem dM_give_39 : decode mM_give.1 39 = .ok (.iconst 2, 1) := by decide +kernel
theorem dM_give_40 : decode mM_give.1 40 = .ok (.goto 4, 3) := by decide +kernel
theorem dM_give_43 : decode mM_give.1 43 = .ok (.iconst 1, 1) := by decide +kernel
theorem dM_give_44 : decode mM_give.1 44 = .ok (.ireturn, 1) := by decide +kernel
set_option maxRecDepth 4000 in
theorem wM_give {E : Ev} {z : Int32 × St} (σ : St) (i1 : Int32) (i2 : Int32) (hX : fM_give σ i1 i2 = some z) : V E mM_give (FM E (some (.int z.1), z.2)) 0 [(0, .ref 44), (1, .int i1), (2, .int i2)] [] σ := by
  unfold fM_give at hX
  refine V.aloadn 0 dM_give_0 rfl rfl ?_
  refine V.iloadn 1 dM_give_1 rfl rfl ?_
  refine V.callvi 44 [.int i1] dM_give_2 (kM_isCoin (σ := σ) i1) mlM_223 myM_isCoin mnM_isCoin ⟨rfl, rfl, by decide, by decide⟩ (rfl : kd 44 = (6, 0)) (by decide) rfl (Nat.le_of_ble_eq_true rfl) ⟨Nat.zero_le _, Nat.zero_le _⟩ rfl ?_
  refine V.ifeq 16 dM_give_5 rfl rfl (fun g1 => ?_) (fun g1 => ?_)
  · replace hX := ip hX g1
    refine V.iconst (-1 : Int32) dM_give_16 lcm1 rfl ?_
    have hX := (Option.some.inj hX).symm; subst hX; exact V.iret dM_give_17 rfl rfl
  · replace hX := im hX g1
    refine V.aloadn 0 dM_give_8 rfl rfl ?_
    refine V.iloadn 2 dM_give_9 rfl rfl ?_
    refine V.callvi 44 [.int i2] dM_give_10 (kM_isPerson (σ := σ) i2) mlM_203 myM_isPerson mnM_isPerson ⟨rfl, rfl, by decide, by decide⟩ (rfl : kd 44 = (6, 0)) (by decide) rfl (Nat.le_of_ble_eq_true rfl) ⟨Nat.zero_le _, Nat.zero_le _⟩ rfl ?_
    refine V.ifne 18 dM_give_13 rfl rfl (fun g2 => ?_) (fun g2 => ?_)
    · replace hX := im hX g2
      refine V.aloadn 0 dM_give_18 rfl rfl ?_
      refine V.iloadn 1 dM_give_19 rfl rfl ?_
      refine V.iloadn 2 dM_give_20 rfl rfl ?_
      obtain ⟨q3, c4, hX⟩ := bd hX; try dsimp only at hX
      refine V.callvi 44 [.int i1, .int i2] dM_give_21 (kM_mayNow c4) mlM_220 myM_mayNow mnM_mayNow ⟨rfl, rfl, by decide, by decide⟩ (rfl : kd 44 = (6, 0)) (by decide) rfl (Nat.le_of_ble_eq_true rfl) ⟨Nat.zero_le _, Nat.zero_le _⟩ rfl ?_
      refine V.ifne 30 dM_give_24 rfl rfl (fun g5 => ?_) (fun g5 => ?_)
      · replace hX := im hX g5
        refine V.aloadn 0 dM_give_30 rfl rfl ?_
        refine V.iloadn 1 dM_give_31 rfl rfl ?_
        refine V.iloadn 2 dM_give_32 rfl rfl ?_
        obtain ⟨q7, σ7, c6, hX⟩ := bi2 hX; try dsimp only at hX
        refine V.callvi 44 [.int i1, .int i2] dM_give_33 (kM_gives c6) mlM_238 myM_gives mnM_gives ⟨rfl, rfl, by decide, by decide⟩ (rfl : kd 44 = (6, 0)) (by decide) rfl (Nat.le_of_ble_eq_true rfl) ⟨Nat.zero_le _, Nat.zero_le _⟩ rfl ?_
        have JJ : V E mM_give (FM E (some (.int z.1), z.2)) 44 [(0, .ref 44), (1, .int i1), (2, .int i2)] [.int (if q7 = 0 then (1 : Int32) else (2 : Int32))] σ7 := by
          have hX := (Option.some.inj hX).symm; subst hX; exact V.iret dM_give_44 rfl rfl
        refine V.ifeq 43 dM_give_36 rfl rfl (fun g8 => ?_) (fun g8 => ?_)
        · refine V.iconst (1 : Int32) dM_give_43 lc1 rfl ?_
          exact V.top (if_pos g8).symm JJ
        · refine V.iconst (2 : Int32) dM_give_39 lc2 rfl ?_
          refine V.goto 44 dM_give_40 rfl ?_
          exact V.top (if_neg g8).symm JJ
      · replace hX := ip hX g5
        refine V.bipush (-4 : Int32) dM_give_27 lbm4 rfl ?_
        have hX := (Option.some.inj hX).symm; subst hX; exact V.iret dM_give_29 rfl rfl
    · replace hX := ip hX g2
      refine V.iconst (-1 : Int32) dM_give_16 lcm1 rfl ?_
      have hX := (Option.some.inj hX).symm; subst hX; exact V.iret dM_give_17 rfl rfl
theorem kM_give {E : Ev} {σ σ2 : St} {i1 : Int32} {i2 : Int32} {z : Int32} (h : fM_give σ i1 i2 = some (z, σ2)) : Ct mM_give E [.ref 44, .int i1, .int i2] σ (some (.int z), σ2) := Ct.of (by decide) (Nat.le_of_ble_eq_true rfl) (wM_give σ i1 i2 h)
theorem dM_lot_0 : decode mM_lot.1 0 = .ok (.aload_n 0, 1) := by decide +kernel
theorem dM_lot_1 : decode mM_lot.1 1 = .ok (.iload_n 1, 1) := by decide +kernel
theorem dM_lot_2 : decode mM_lot.1 2 = .ok (.invokevirtual 223, 3) := by decide +kernel
theorem dM_lot_5 : decode mM_lot.1 5 = .ok (.ifCond .ne 5, 3) := by decide +kernel
theorem dM_lot_8 : decode mM_lot.1 8 = .ok (.iconst (-1), 1) := by decide +kernel
theorem dM_lot_9 : decode mM_lot.1 9 = .ok (.ireturn, 1) := by decide +kernel
theorem dM_lot_10 : decode mM_lot.1 10 = .ok (.aload_n 0, 1) := by decide +kernel
theorem dM_lot_11 : decode mM_lot.1 11 = .ok (.iload_n 1, 1) := by decide +kernel
theorem dM_lot_12 : decode mM_lot.1 12 = .ok (.invokevirtual 226, 3) := by decide +kernel
theorem dM_lot_15 : decode mM_lot.1 15 = .ok (.istore_n 2, 1) := by decide +kernel
theorem dM_lot_16 : decode mM_lot.1 16 = .ok (.iload_n 2, 1) := by decide +kernel
theorem dM_lot_17 : decode mM_lot.1 17 = .ok (.ifCond .ne 6, 3) := by decide +kernel
theorem dM_lot_20 : decode mM_lot.1 20 = .ok (.bipush (-3), 2) := by decide +kernel
theorem dM_lot_22 : decode mM_lot.1 22 = .ok (.ireturn, 1) := by decide +kernel
theorem dM_lot_23 : decode mM_lot.1 23 = .ok (.aload_n 0, 1) := by decide +kernel
theorem dM_lot_24 : decode mM_lot.1 24 = .ok (.aload_n 0, 1) := by decide +kernel
theorem dM_lot_25 : decode mM_lot.1 25 = .ok (.getfield 22, 3) := by decide +kernel
theorem dM_lot_28 : decode mM_lot.1 28 = .ok (.ldc 241, 2) := by decide +kernel
theorem dM_lot_30 : decode mM_lot.1 30 = .ok (.imul, 1) := by decide +kernel
theorem dM_lot_31 : decode mM_lot.1 31 = .ok (.sipush 12345, 3) := by decide +kernel
theorem dM_lot_34 : decode mM_lot.1 34 = .ok (.iadd, 1) := by decide +kernel
theorem dM_lot_35 : decode mM_lot.1 35 = .ok (.putfield 22, 3) := by decide +kernel
theorem dM_lot_38 : decode mM_lot.1 38 = .ok (.aload_n 0, 1) := by decide +kernel
theorem dM_lot_39 : decode mM_lot.1 39 = .ok (.getfield 22, 3) := by decide +kernel
theorem dM_lot_42 : decode mM_lot.1 42 = .ok (.bipush 16, 2) := by decide +kernel
theorem dM_lot_44 : decode mM_lot.1 44 = .ok (.iushr, 1) := by decide +kernel
theorem dM_lot_45 : decode mM_lot.1 45 = .ok (.iload_n 2, 1) := by decide +kernel
theorem dM_lot_46 : decode mM_lot.1 46 = .ok (.invokestatic 229, 3) := by decide +kernel
theorem dM_lot_49 : decode mM_lot.1 49 = .ok (.irem, 1) := by decide +kernel
theorem dM_lot_50 : decode mM_lot.1 50 = .ok (.istore_n 3, 1) := by decide +kernel
theorem dM_lot_51 : decode mM_lot.1 51 = .ok (.iconst 0, 1) := by decide +kernel
theorem dM_lot_52 : decode mM_lot.1 52 = .ok (.istore 4, 2) := by decide +kernel
theorem dM_lot_54 : decode mM_lot.1 54 = .ok (.iload_n 2, 1) := by decide +kernel
theorem dM_lot_55 : decode mM_lot.1 55 = .ok (.iload 4, 2) := by decide +kernel
theorem dM_lot_57 : decode mM_lot.1 57 = .ok (.invokestatic 196, 3) := by decide +kernel
theorem dM_lot_60 : decode mM_lot.1 60 = .ok (.ifCond .eq 7, 3) := by decide +kernel
theorem dM_lot_63 : decode mM_lot.1 63 = .ok (.iload_n 3, 1) := by decide +kernel
theorem dM_lot_64 : decode mM_lot.1 64 = .ok (.ifCond .le 18, 3) := by decide +kernel
theorem dM_lot_67 : decode mM_lot.1 67 = .ok (.iload_n 3, 1) := by decide +kernel
theorem dM_lot_68 : decode mM_lot.1 68 = .ok (.iload_n 2, 1) := by decide +kernel
theorem dM_lot_69 : decode mM_lot.1 69 = .ok (.iload 4, 2) := by decide +kernel
theorem dM_lot_71 : decode mM_lot.1 71 = .ok (.ishr, 1) := by decide +kernel
theorem dM_lot_72 : decode mM_lot.1 72 = .ok (.iconst 1, 1) := by decide +kernel
theorem dM_lot_73 : decode mM_lot.1 73 = .ok (.iand, 1) := by decide +kernel
theorem dM_lot_74 : decode mM_lot.1 74 = .ok (.isub, 1) := by decide +kernel
theorem dM_lot_75 : decode mM_lot.1 75 = .ok (.istore_n 3, 1) := by decide +kernel
theorem dM_lot_76 : decode mM_lot.1 76 = .ok (.iinc 4 1, 3) := by decide +kernel
theorem dM_lot_79 : decode mM_lot.1 79 = .ok (.goto (-25), 3) := by decide +kernel
theorem dM_lot_82 : decode mM_lot.1 82 = .ok (.aload_n 0, 1) := by decide +kernel
theorem dM_lot_83 : decode mM_lot.1 83 = .ok (.iload_n 1, 1) := by decide +kernel
theorem dM_lot_84 : decode mM_lot.1 84 = .ok (.iload 4, 2) := by decide +kernel
theorem dM_lot_86 : decode mM_lot.1 86 = .ok (.invokevirtual 238, 3) := by decide +kernel
theorem dM_lot_89 : decode mM_lot.1 89 = .ok (.ifCond .eq 11, 3) := by decide +kernel
theorem dM_lot_92 : decode mM_lot.1 92 = .ok (.bipush 10, 2) := by decide +kernel
theorem dM_lot_94 : decode mM_lot.1 94 = .ok (.iload 4, 2) := by decide +kernel
theorem dM_lot_96 : decode mM_lot.1 96 = .ok (.iadd, 1) := by decide +kernel
theorem dM_lot_97 : decode mM_lot.1 97 = .ok (.goto 5, 3) := by decide +kernel
theorem dM_lot_100 : decode mM_lot.1 100 = .ok (.iload 4, 2) := by decide +kernel
theorem dM_lot_102 : decode mM_lot.1 102 = .ok (.ireturn, 1) := by decide +kernel
set_option maxRecDepth 4000 in
theorem wM_lot_82 {E : Ev} {z : Int32 × St} (σ : St) (i1 : Int32) (i4 : Int32) (hX : fM_lot_82 σ i1 i4 = some z) : V E mM_lot (FM E (some (.int z.1), z.2)) 82 [(0, .ref 44), (1, .int i1), (4, .int i4)] [] σ := by
  unfold fM_lot_82 at hX
  refine V.aloadn 0 dM_lot_82 rfl rfl ?_
  refine V.iloadn 1 dM_lot_83 rfl rfl ?_
  refine V.iload 2 dM_lot_84 rfl rfl ?_
  obtain ⟨q16, σ16, c15, hX⟩ := bi2 hX; try dsimp only at hX
  refine V.callvi 44 [.int i1, .int i4] dM_lot_86 (kM_gives c15) mlM_238 myM_gives mnM_gives ⟨rfl, rfl, by decide, by decide⟩ (rfl : kd 44 = (6, 0)) (by decide) rfl (Nat.le_of_ble_eq_true rfl) ⟨Nat.zero_le _, Nat.zero_le _⟩ rfl ?_
  have JJ : V E mM_lot (FM E (some (.int z.1), z.2)) 102 [(0, .ref 44), (1, .int i1), (4, .int i4)] [.int (if q16 = 0 then i4 else (10 : Int32) + i4)] σ16 := by
    have hX := (Option.some.inj hX).symm; subst hX; exact V.iret dM_lot_102 rfl rfl
  refine V.ifeq 100 dM_lot_89 rfl rfl (fun g17 => ?_) (fun g17 => ?_)
  · refine V.iload 2 dM_lot_100 rfl rfl ?_
    exact V.top (if_pos g17).symm JJ
  · refine V.bipush (10 : Int32) dM_lot_92 lb10 rfl ?_
    refine V.iload 2 dM_lot_94 rfl rfl ?_
    refine V.iadd dM_lot_96 rfl ?_
    refine V.goto 102 dM_lot_97 rfl ?_
    exact V.top (if_neg g17).symm JJ
set_option maxRecDepth 4000 in
theorem wM_lot_54 {E : Ev} {z : Int32 × St} : ∀ (fu : Nat) (σ : St) (i1 : Int32) (i2 : Int32) (i3 : Int32) (i4 : Int32), fM_lot_54 fu σ i1 i2 i3 i4 = some z → V E mM_lot (FM E (some (.int z.1), z.2)) 54 [(0, .ref 44), (1, .int i1), (2, .int i2), (3, .int i3), (4, .int i4)] [] σ := by
  intro fu
  induction fu with
  | zero => intro σ i1 i2 i3 i4 hX; cases hX
  | succ fu ih =>
    intro σ i1 i2 i3 i4 hX
    rw [fM_lot_54] at hX
    refine V.iloadn 2 dM_lot_54 rfl rfl ?_
    refine V.iload 4 dM_lot_55 rfl rfl ?_
    refine V.callsi [.int i2, .int i4] dM_lot_57 (kM_has (σ := σ) i2 i4) mlM_196 myM_has mnM_has ⟨rfl, rfl, by decide, by decide⟩ rfl (Nat.le_of_ble_eq_true rfl) ⟨Nat.zero_le _, Nat.zero_le _⟩ rfl ?_
    refine jn (Pj := fun J => ∀ (σ10 : St) (ji1 : Int32) (ji2 : Int32) (ji3 : Int32) (ji4 : Int32), J σ10 ji1 ji2 ji3 ji4 = some z → V E mM_lot (FM E (some (.int z.1), z.2)) 67 [(0, .ref 44), (1, .int ji1), (2, .int ji2), (3, .int ji3), (4, .int ji4)] [] σ10) hX (fun σ10 ji1 ji2 ji3 ji4 hX => ?_) (fun J67 hJ67 hX => ?_)
    · try dsimp only at hX
      refine V.iloadn 3 dM_lot_67 rfl rfl ?_
      refine V.iloadn 2 dM_lot_68 rfl rfl ?_
      refine V.iload 4 dM_lot_69 rfl rfl ?_
      refine V.ishr dM_lot_71 rfl ?_
      refine V.iconst (1 : Int32) dM_lot_72 lc1 rfl ?_
      refine V.iand dM_lot_73 rfl ?_
      refine V.isub dM_lot_74 rfl ?_
      refine V.istoren _ dM_lot_75 (by decide) rfl rfl ?_
      replace hX := nmx hX; generalize ji3 - ((ji2 >>> (ji4 &&& 31)) &&& (1 : Int32)) = v11 at hX ⊢; try dsimp only at hX
      refine V.iinc 4 (1 : Int32) _ dM_lot_76 rfl lc1 (by decide) rfl rfl ?_
      replace hX := nmx hX; generalize ji4 + (1 : Int32) = v12 at hX ⊢; try dsimp only at hX
      refine V.goto 54 dM_lot_79 rfl ?_
      refine V.sub [2, 3, 4, 1, 0] rfl ?_
      exact ih σ10 ji1 ji2 v11 v12 hX
    · try dsimp only at hX
      refine V.ifeq 67 dM_lot_60 rfl rfl (fun g13 => ?_) (fun g13 => ?_)
      · replace hX := ip hX g13
        refine V.sub [0, 1, 2, 3, 4] rfl ?_
        exact hJ67 σ i1 i2 i3 i4 hX
      · replace hX := im hX g13
        refine V.iloadn 3 dM_lot_63 rfl rfl ?_
        refine V.ifle 82 dM_lot_64 rfl rfl (fun g14 => ?_) (fun g14 => ?_)
        · replace hX := ip hX g14
          refine V.sub [0, 1, 4] rfl ?_
          exact wM_lot_82 σ i1 i4 hX
        · replace hX := im hX g14
          refine V.sub [0, 1, 2, 3, 4] rfl ?_
          exact hJ67 σ i1 i2 i3 i4 hX
set_option maxRecDepth 4000 in
theorem wM_lot {E : Ev} {z : Int32 × St} (σ : St) (i1 : Int32) (hX : fM_lot σ i1 = some z) : V E mM_lot (FM E (some (.int z.1), z.2)) 0 [(0, .ref 44), (1, .int i1)] [] σ := by
  unfold fM_lot at hX
  refine V.aloadn 0 dM_lot_0 rfl rfl ?_
  refine V.iloadn 1 dM_lot_1 rfl rfl ?_
  refine V.callvi 44 [.int i1] dM_lot_2 (kM_isCoin (σ := σ) i1) mlM_223 myM_isCoin mnM_isCoin ⟨rfl, rfl, by decide, by decide⟩ (rfl : kd 44 = (6, 0)) (by decide) rfl (Nat.le_of_ble_eq_true rfl) ⟨Nat.zero_le _, Nat.zero_le _⟩ rfl ?_
  refine V.ifne 10 dM_lot_5 rfl rfl (fun g1 => ?_) (fun g1 => ?_)
  · replace hX := im hX g1
    refine V.aloadn 0 dM_lot_10 rfl rfl ?_
    refine V.iloadn 1 dM_lot_11 rfl rfl ?_
    obtain ⟨q2, c3, hX⟩ := bd hX; try dsimp only at hX
    refine V.callvi 44 [.int i1] dM_lot_12 (kM_mayAll c3) mlM_226 myM_mayAll mnM_mayAll ⟨rfl, rfl, by decide, by decide⟩ (rfl : kd 44 = (6, 0)) (by decide) rfl (Nat.le_of_ble_eq_true rfl) ⟨Nat.zero_le _, Nat.zero_le _⟩ rfl ?_
    refine V.istoren _ dM_lot_15 (by decide) rfl rfl ?_
    refine V.iloadn 0 dM_lot_16 rfl rfl ?_
    refine V.ifne 23 dM_lot_17 rfl rfl (fun g4 => ?_) (fun g4 => ?_)
    · replace hX := im hX g4
      refine V.aloadn 1 dM_lot_23 rfl rfl ?_
      refine V.aloadn 1 dM_lot_24 rfl rfl ?_
      refine V.geti 44 dM_lot_25 flM_22 (rfl : kd 44 = (6, 0)) rfl ?_
      refine V.ldc (1103515245 : Int32) dM_lot_28 cM_241 rfl ?_
      refine V.imul dM_lot_30 rfl ?_
      refine V.sipush (12345 : Int32) dM_lot_31 ls12345 rfl ?_
      refine V.iadd dM_lot_34 rfl ?_
      refine V.puti 44 .int dM_lot_35 flM_22 fw6_6 (rfl : kd 44 = (6, 0)) ⟨rfl, rfl⟩ rfl ?_
      replace hX := nmx hX; generalize sI σ 44 6 (((gI σ 44 6) * (1103515245 : Int32)) + (12345 : Int32)) = σ5 at hX ⊢; try dsimp only at hX
      refine V.aloadn 1 dM_lot_38 rfl rfl ?_
      refine V.geti 44 dM_lot_39 flM_22 (rfl : kd 44 = (6, 0)) rfl ?_
      refine V.bipush (16 : Int32) dM_lot_42 lb16 rfl ?_
      refine V.iushr dM_lot_44 rfl ?_
      refine V.iloadn 0 dM_lot_45 rfl rfl ?_
      obtain ⟨q6, c7, hX⟩ := bd hX; try dsimp only at hX
      refine V.callsi [.int q2] dM_lot_46 (kM_ones c7) mlM_229 myM_ones mnM_ones ⟨rfl, rfl, by decide, by decide⟩ rfl (Nat.le_of_ble_eq_true rfl) ⟨Nat.zero_le _, Nat.zero_le _⟩ rfl ?_
      obtain ⟨h8, hX⟩ := ob hX
      refine V.irem dM_lot_49 h8 rfl ?_
      refine V.istoren _ dM_lot_50 (by decide) rfl rfl ?_
      replace hX := nmx hX; generalize (ush (gI σ5 44 6) (16 : Int32)) - (ush (gI σ5 44 6) (16 : Int32)) / q6 * q6 = v9 at hX ⊢; try dsimp only at hX
      refine V.iconst (0 : Int32) dM_lot_51 lc0 rfl ?_
      refine V.istore _ dM_lot_52 (by decide) rfl rfl ?_
      refine V.sub [3, 4, 2, 1, 0] rfl ?_
      exact wM_lot_54 300 σ5 i1 q2 v9 (0 : Int32) hX
    · replace hX := ip hX g4
      refine V.bipush (-3 : Int32) dM_lot_20 lbm3 rfl ?_
      have hX := (Option.some.inj hX).symm; subst hX; exact V.iret dM_lot_22 rfl rfl
  · replace hX := ip hX g1
    refine V.iconst (-1 : Int32) dM_lot_8 lcm1 rfl ?_
    have hX := (Option.some.inj hX).symm; subst hX; exact V.iret dM_lot_9 rfl rfl
theorem kM_lot {E : Ev} {σ σ2 : St} {i1 : Int32} {z : Int32} (h : fM_lot σ i1 = some (z, σ2)) : Ct mM_lot E [.ref 44, .int i1] σ (some (.int z), σ2) := Ct.of (by decide) (Nat.le_of_ble_eq_true rfl) (wM_lot σ i1 h)
theorem dM_firstFree_0 : decode mM_firstFree.1 0 = .ok (.iconst 0, 1) := by decide +kernel
theorem dM_firstFree_1 : decode mM_firstFree.1 1 = .ok (.istore_n 1, 1) := by decide +kernel
theorem dM_firstFree_2 : decode mM_firstFree.1 2 = .ok (.iload_n 1, 1) := by decide +kernel
theorem dM_firstFree_3 : decode mM_firstFree.1 3 = .ok (.aload_n 0, 1) := by decide +kernel
theorem dM_firstFree_4 : decode mM_firstFree.1 4 = .ok (.getfield 88, 3) := by decide +kernel
theorem dM_firstFree_7 : decode mM_firstFree.1 7 = .ok (.if_icmp .ge 17, 3) := by decide +kernel
theorem dM_firstFree_10 : decode mM_firstFree.1 10 = .ok (.aload_n 0, 1) := by decide +kernel
theorem dM_firstFree_11 : decode mM_firstFree.1 11 = .ok (.iload_n 1, 1) := by decide +kernel
theorem dM_firstFree_12 : decode mM_firstFree.1 12 = .ok (.invokevirtual 226, 3) := by decide +kernel
theorem dM_firstFree_15 : decode mM_firstFree.1 15 = .ok (.ifCond .ne 9, 3) := by decide +kernel
theorem dM_firstFree_18 : decode mM_firstFree.1 18 = .ok (.iinc 1 1, 3) := by decide +kernel
theorem dM_firstFree_21 : decode mM_firstFree.1 21 = .ok (.goto (-19), 3) := by decide +kernel
theorem dM_firstFree_24 : decode mM_firstFree.1 24 = .ok (.iload_n 1, 1) := by decide +kernel
theorem dM_firstFree_25 : decode mM_firstFree.1 25 = .ok (.aload_n 0, 1) := by decide +kernel
theorem dM_firstFree_26 : decode mM_firstFree.1 26 = .ok (.getfield 88, 3) := by decide +kernel
theorem dM_firstFree_29 : decode mM_firstFree.1 29 = .ok (.if_icmp .ge 7, 3) := by decide +kernel
theorem dM_firstFree_32 : decode mM_firstFree.1 32 = .ok (.iload_n 1, 1) := by decide +kernel
theorem dM_firstFree_33 : decode mM_firstFree.1 33 = .ok (.goto 4, 3) := by decide +kernel
theorem dM_firstFree_36 : decode mM_firstFree.1 36 = .ok (.iconst (-1), 1) := by decide +kernel
theorem dM_firstFree_37 : decode mM_firstFree.1 37 = .ok (.ireturn, 1) := by decide +kernel
set_option maxRecDepth 4000 in
theorem wM_firstFree_24 {E : Ev} {z : Int32} (σ : St) (i1 : Int32) (hX : fM_firstFree_24 σ i1 = some z) : V E mM_firstFree (FM E (some (.int z), σ)) 24 [(0, .ref 44), (1, .int i1)] [] σ := by
  unfold fM_firstFree_24 at hX
  refine V.iloadn 1 dM_firstFree_24 rfl rfl ?_
  refine V.aloadn 0 dM_firstFree_25 rfl rfl ?_
  refine V.geti 44 dM_firstFree_26 flM_88 (rfl : kd 44 = (6, 0)) rfl ?_
  have JJ : V E mM_firstFree (FM E (some (.int z), σ)) 37 [(0, .ref 44), (1, .int i1)] [.int (if (gI σ 44 4) ≤ i1 then (-1 : Int32) else i1)] σ := by
    have hX := (Option.some.inj hX).symm; subst hX; exact V.iret dM_firstFree_37 rfl rfl
  refine V.icmpge 36 dM_firstFree_29 rfl rfl (fun g2 => ?_) (fun g2 => ?_)
  · refine V.iconst (-1 : Int32) dM_firstFree_36 lcm1 rfl ?_
    exact V.top (if_pos g2).symm JJ
  · refine V.iloadn 1 dM_firstFree_32 rfl rfl ?_
    refine V.goto 37 dM_firstFree_33 rfl ?_
    exact V.top (if_neg g2).symm JJ
set_option maxRecDepth 4000 in
theorem wM_firstFree_2 {E : Ev} {z : Int32} : ∀ (fu : Nat) (σ : St) (i1 : Int32), fM_firstFree_2 fu σ i1 = some z → V E mM_firstFree (FM E (some (.int z), σ)) 2 [(0, .ref 44), (1, .int i1)] [] σ := by
  intro fu
  induction fu with
  | zero => intro σ i1 hX; cases hX
  | succ fu ih =>
    intro σ i1 hX
    rw [fM_firstFree_2] at hX
    refine V.iloadn 1 dM_firstFree_2 rfl rfl ?_
    refine V.aloadn 0 dM_firstFree_3 rfl rfl ?_
    refine V.geti 44 dM_firstFree_4 flM_88 (rfl : kd 44 = (6, 0)) rfl ?_
    refine V.icmpge 24 dM_firstFree_7 rfl rfl (fun g1 => ?_) (fun g1 => ?_)
    · replace hX := ip hX g1
      refine V.sub [0, 1] rfl ?_
      exact wM_firstFree_24 σ i1 hX
    · replace hX := im hX g1
      refine V.aloadn 0 dM_firstFree_10 rfl rfl ?_
      refine V.iloadn 1 dM_firstFree_11 rfl rfl ?_
      obtain ⟨q3, c4, hX⟩ := bd hX; try dsimp only at hX
      refine V.callvi 44 [.int i1] dM_firstFree_12 (kM_mayAll c4) mlM_226 myM_mayAll mnM_mayAll ⟨rfl, rfl, by decide, by decide⟩ (rfl : kd 44 = (6, 0)) (by decide) rfl (Nat.le_of_ble_eq_true rfl) ⟨Nat.zero_le _, Nat.zero_le _⟩ rfl ?_
      refine V.ifne 24 dM_firstFree_15 rfl rfl (fun g5 => ?_) (fun g5 => ?_)
      · replace hX := im hX g5
        refine V.sub [0, 1] rfl ?_
        exact wM_firstFree_24 σ i1 hX
      · replace hX := ip hX g5
        refine V.iinc 1 (1 : Int32) _ dM_firstFree_18 rfl lc1 (by decide) rfl rfl ?_
        replace hX := nmx hX; generalize i1 + (1 : Int32) = v6 at hX ⊢; try dsimp only at hX
        refine V.goto 2 dM_firstFree_21 rfl ?_
        refine V.sub [1, 0] rfl ?_
        exact ih σ v6 hX
set_option maxRecDepth 4000 in
theorem wM_firstFree {E : Ev} {z : Int32} (σ : St) (hX : fM_firstFree σ = some z) : V E mM_firstFree (FM E (some (.int z), σ)) 0 [(0, .ref 44)] [] σ := by
  unfold fM_firstFree at hX
  refine V.iconst (0 : Int32) dM_firstFree_0 lc0 rfl ?_
  refine V.istoren _ dM_firstFree_1 (by decide) rfl rfl ?_
  refine V.sub [1, 0] rfl ?_
  exact wM_firstFree_2 300 σ (0 : Int32) hX
theorem kM_firstFree {E : Ev} {σ : St} {z : Int32} (h : fM_firstFree σ = some z) : Ct mM_firstFree E [.ref 44] σ (some (.int z), σ) := Ct.of (by decide) (Nat.le_of_ble_eq_true rfl) (wM_firstFree σ h)
