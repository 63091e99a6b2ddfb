theorem dM_paid_0 : decode mM_paid.1 0 = .ok (.aload_n 0, 1) := by decide +kernel
theorem dM_paid_1 : decode mM_paid.1 1 = .ok (.iload_n 1, 1) := by decide +kernel
theorem dM_paid_2 : decode mM_paid.1 2 = .ok (.invokevirtual 203, 3) := by decide +kernel
theorem dM_paid_5 : decode mM_paid.1 5 = .ok (.ifCond .eq 27, 3) := by decide +kernel
theorem dM_paid_8 : decode mM_paid.1 8 = .ok (.aload_n 0, 1) := by decide +kernel
theorem dM_paid_9 : decode mM_paid.1 9 = .ok (.iload_n 2, 1) := by decide +kernel
theorem dM_paid_10 : decode mM_paid.1 10 = .ok (.invokevirtual 203, 3) := by decide +kernel
theorem dM_paid_13 : decode mM_paid.1 13 = .ok (.ifCond .eq 19, 3) := by decide +kernel
theorem dM_paid_16 : decode mM_paid.1 16 = .ok (.iload_n 1, 1) := by decide +kernel
theorem dM_paid_17 : decode mM_paid.1 17 = .ok (.iload_n 2, 1) := by decide +kernel
theorem dM_paid_18 : decode mM_paid.1 18 = .ok (.if_icmp .eq 14, 3) := by decide +kernel
theorem dM_paid_21 : decode mM_paid.1 21 = .ok (.iload_n 3, 1) := by decide +kernel
theorem dM_paid_22 : decode mM_paid.1 22 = .ok (.iconst 0, 1) := by decide +kernel
theorem dM_paid_23 : decode mM_paid.1 23 = .ok (.sipush 999, 3) := by decide +kernel
theorem dM_paid_26 : decode mM_paid.1 26 = .ok (.invokestatic 84, 3) := by decide +kernel
theorem dM_paid_29 : decode mM_paid.1 29 = .ok (.ifCond .ne 5, 3) := by decide +kernel
theorem dM_paid_32 : decode mM_paid.1 32 = .ok (.iconst (-1), 1) := by decide +kernel
theorem dM_paid_33 : decode mM_paid.1 33 = .ok (.ireturn, 1) := by decide +kernel
theorem dM_paid_34 : decode mM_paid.1 34 = .ok (.aload_n 0, 1) := by decide +kernel
theorem dM_paid_35 : decode mM_paid.1 35 = .ok (.iload_n 1, 1) := by decide +kernel
theorem dM_paid_36 : decode mM_paid.1 36 = .ok (.iload_n 2, 1) := by decide +kernel
theorem dM_paid_37 : decode mM_paid.1 37 = .ok (.invokevirtual 267, 3) := by decide +kernel
theorem dM_paid_40 : decode mM_paid.1 40 = .ok (.istore 4, 2) := by decide +kernel
theorem dM_paid_42 : decode mM_paid.1 42 = .ok (.bipush (-3), 2) := by decide +kernel
theorem dM_paid_44 : decode mM_paid.1 44 = .ok (.istore 5, 2) := by decide +kernel
theorem dM_paid_46 : decode mM_paid.1 46 = .ok (.iconst 0, 1) := by decide +kernel
theorem dM_paid_47 : decode mM_paid.1 47 = .ok (.istore 6, 2) := by decide +kernel
theorem dM_paid_49 : decode mM_paid.1 49 = .ok (.iload 6, 2) := by decide +kernel
theorem dM_paid_51 : decode mM_paid.1 51 = .ok (.iconst 1, 1) := by decide +kernel
theorem dM_paid_52 : decode mM_paid.1 52 = .ok (.aload_n 0, 1) := by decide +kernel
theorem dM_paid_53 : decode mM_paid.1 53 = .ok (.getfield 88, 3) := by decide +kernel
theorem dM_paid_56 : decode mM_paid.1 56 = .ok (.ishl, 1) := by decide +kernel
theorem dM_paid_57 : decode mM_paid.1 57 = .ok (.if_icmp .ge 51, 3) := by decide +kernel
theorem dM_paid_60 : decode mM_paid.1 60 = .ok (.iload 6, 2) := by decide +kernel
theorem dM_paid_62 : decode mM_paid.1 62 = .ok (.iload 4, 2) := by decide +kernel
theorem dM_paid_64 : decode mM_paid.1 64 = .ok (.iconst (-1), 1) := by decide +kernel
theorem dM_paid_65 : decode mM_paid.1 65 = .ok (.ixor, 1) := by decide +kernel
theorem dM_paid_66 : decode mM_paid.1 66 = .ok (.iand, 1) := by decide +kernel
theorem dM_paid_67 : decode mM_paid.1 67 = .ok (.ifCond .ne 35, 3) := by decide +kernel
theorem dM_paid_70 : decode mM_paid.1 70 = .ok (.aload_n 0, 1) := by decide +kernel
theorem dM_paid_71 : decode mM_paid.1 71 = .ok (.iload 6, 2) := by decide +kernel
theorem dM_paid_73 : decode mM_paid.1 73 = .ok (.invokevirtual 209, 3) := by decide +kernel
theorem dM_paid_76 : decode mM_paid.1 76 = .ok (.iload_n 3, 1) := by decide +kernel
theorem dM_paid_77 : decode mM_paid.1 77 = .ok (.if_icmp .ne 25, 3) := by decide +kernel
theorem dM_paid_80 : decode mM_paid.1 80 = .ok (.iload 5, 2) := by decide +kernel
theorem dM_paid_82 : decode mM_paid.1 82 = .ok (.ifCond .lt 16, 3) := by decide +kernel
theorem dM_paid_85 : decode mM_paid.1 85 = .ok (.iload 6, 2) := by decide +kernel
theorem dM_paid_87 : decode mM_paid.1 87 = .ok (.invokestatic 229, 3) := by decide +kernel
theorem dM_paid_90 : decode mM_paid.1 90 = .ok (.iload 5, 2) := by decide +kernel
theorem dM_paid_92 : decode mM_paid.1 92 = .ok (.invokestatic 229, 3) := by decide +kernel
theorem dM_paid_95 : decode mM_paid.1 95 = .ok (.if_icmp .ge 7, 3) := by decide +kernel
theorem dM_paid_98 : decode mM_paid.1 98 = .ok (.iload 6, 2) := by decide +kernel
theorem dM_paid_100 : decode mM_paid.1 100 = .ok (.istore 5, 2) := by decide +kernel
theorem dM_paid_102 : decode mM_paid.1 102 = .ok (.iinc 6 1, 3) := by decide +kernel
theorem dM_paid_105 : decode mM_paid.1 105 = .ok (.goto (-56), 3) := by decide +kernel
theorem dM_paid_108 : decode mM_paid.1 108 = .ok (.iload 5, 2) := by decide +kernel
theorem dM_paid_110 : decode mM_paid.1 110 = .ok (.ireturn, 1) := by decide +kernel
set_option maxRecDepth 4000 in
theorem wM_paid_49 {E : Ev} {z : Int32} : ∀ (fu : Nat) (σ : St) (i3 : Int32) (i4 : Int32) (i5 : Int32) (i6 : Int32), fM_paid_49 fu σ i3 i4 i5 i6 = some z → V E mM_paid (FM E (some (.int z), σ)) 49 [(0, .ref 44), (3, .int i3), (4, .int i4), (5, .int i5), (6, .int i6)] [] σ := by
  intro fu
  induction fu with
  | zero => intro σ i3 i4 i5 i6 hX; cases hX
  | succ fu ih =>
    intro σ i3 i4 i5 i6 hX
    rw [fM_paid_49] at hX
    refine V.iload 4 dM_paid_49 rfl rfl ?_
    refine V.iconst (1 : Int32) dM_paid_51 lc1 rfl ?_
    refine V.aloadn 0 dM_paid_52 rfl rfl ?_
    refine V.geti 44 dM_paid_53 flM_88 (rfl : kd 44 = (6, 0)) rfl ?_
    refine V.ishl dM_paid_56 rfl ?_
    refine V.icmpge 108 dM_paid_57 rfl rfl (fun g7 => ?_) (fun g7 => ?_)
    · replace hX := ip hX g7
      refine V.iload 3 dM_paid_108 rfl rfl ?_
      have hX := (Option.some.inj hX).symm; subst hX; exact V.iret dM_paid_110 rfl rfl
    · replace hX := im hX g7
      refine V.iload 4 dM_paid_60 rfl rfl ?_
      refine V.iload 2 dM_paid_62 rfl rfl ?_
      refine V.iconst (-1 : Int32) dM_paid_64 lcm1 rfl ?_
      refine V.ixor dM_paid_65 rfl ?_
      refine V.iand dM_paid_66 rfl ?_
      refine V.ifne 102 dM_paid_67 rfl rfl (fun g8 => ?_) (fun g8 => ?_)
      · replace hX := im hX g8
        refine V.iinc 4 (1 : Int32) _ dM_paid_102 rfl lc1 (by decide) rfl rfl ?_
        replace hX := nmx hX; generalize i6 + (1 : Int32) = v9 at hX ⊢; try dsimp only at hX
        refine V.goto 49 dM_paid_105 rfl ?_
        refine V.sub [1, 2, 3, 4, 0] rfl ?_
        exact ih σ i3 i4 i5 v9 hX
      · replace hX := ip hX g8
        refine V.aloadn 0 dM_paid_70 rfl rfl ?_
        refine V.iload 4 dM_paid_71 rfl rfl ?_
        obtain ⟨q10, c11, hX⟩ := bd hX; try dsimp only at hX
        refine V.callvi 44 [.int i6] dM_paid_73 (kM_worthOf c11) mlM_209 myM_worthOf mnM_worthOf ⟨rfl, rfl, by decide, by decide⟩ (rfl : kd 44 = (6, 0)) (by decide) rfl (Nat.le_of_ble_eq_true rfl) ⟨Nat.zero_le _, Nat.zero_le _⟩ rfl ?_
        refine V.iloadn 1 dM_paid_76 rfl rfl ?_
        refine V.icmpne 102 dM_paid_77 rfl rfl (fun g12 => ?_) (fun g12 => ?_)
        · replace hX := im hX g12
          refine V.iinc 4 (1 : Int32) _ dM_paid_102 rfl lc1 (by decide) rfl rfl ?_
          replace hX := nmx hX; generalize i6 + (1 : Int32) = v13 at hX ⊢; try dsimp only at hX
          refine V.goto 49 dM_paid_105 rfl ?_
          refine V.sub [1, 2, 3, 4, 0] rfl ?_
          exact ih σ i3 i4 i5 v13 hX
        · replace hX := ip hX g12
          refine V.iload 3 dM_paid_80 rfl rfl ?_
          refine V.iflt 98 dM_paid_82 rfl rfl (fun g14 => ?_) (fun g14 => ?_)
          · replace hX := ip hX g14
            refine V.iload 4 dM_paid_98 rfl rfl ?_
            refine V.istore _ dM_paid_100 (by decide) rfl rfl ?_
            refine V.iinc 4 (1 : Int32) _ dM_paid_102 rfl lc1 (by decide) rfl rfl ?_
            replace hX := nmx hX; generalize i6 + (1 : Int32) = v15 at hX ⊢; try dsimp only at hX
            refine V.goto 49 dM_paid_105 rfl ?_
            refine V.sub [2, 3, 4, 1, 0] rfl ?_
            exact ih σ i3 i4 i6 v15 hX
          · replace hX := im hX g14
            refine V.iload 4 dM_paid_85 rfl rfl ?_
            obtain ⟨q16, c17, hX⟩ := bd hX; try dsimp only at hX
            refine V.callsi [.int i6] dM_paid_87 (kM_ones c17) mlM_229 myM_ones mnM_ones ⟨rfl, rfl, by decide, by decide⟩ rfl (Nat.le_of_ble_eq_true rfl) ⟨Nat.zero_le _, Nat.zero_le _⟩ rfl ?_
            refine V.iload 3 dM_paid_90 rfl rfl ?_
            obtain ⟨q18, c19, hX⟩ := bd hX; try dsimp only at hX
            refine V.callsi [.int i5] dM_paid_92 (kM_ones c19) mlM_229 myM_ones mnM_ones ⟨rfl, rfl, by decide, by decide⟩ rfl (Nat.le_of_ble_eq_true rfl) ⟨Nat.zero_le _, Nat.zero_le _⟩ rfl ?_
            refine V.icmpge 102 dM_paid_95 rfl rfl (fun g20 => ?_) (fun g20 => ?_)
            · replace hX := ip hX g20
              refine V.iinc 4 (1 : Int32) _ dM_paid_102 rfl lc1 (by decide) rfl rfl ?_
              replace hX := nmx hX; generalize i6 + (1 : Int32) = v21 at hX ⊢; try dsimp only at hX
              refine V.goto 49 dM_paid_105 rfl ?_
              refine V.sub [1, 2, 3, 4, 0] rfl ?_
              exact ih σ i3 i4 i5 v21 hX
            · replace hX := im hX g20
              refine V.iload 4 dM_paid_98 rfl rfl ?_
              refine V.istore _ dM_paid_100 (by decide) rfl rfl ?_
              refine V.iinc 4 (1 : Int32) _ dM_paid_102 rfl lc1 (by decide) rfl rfl ?_
              replace hX := nmx hX; generalize i6 + (1 : Int32) = v22 at hX ⊢; try dsimp only at hX
              refine V.goto 49 dM_paid_105 rfl ?_
              refine V.sub [2, 3, 4, 1, 0] rfl ?_
              exact ih σ i3 i4 i6 v22 hX
set_option maxRecDepth 4000 in
theorem wM_paid {E : Ev} {z : Int32} (σ : St) (i1 : Int32) (i2 : Int32) (i3 : Int32) (hX : fM_paid σ i1 i2 i3 = some z) : V E mM_paid (FM E (some (.int z), σ)) 0 [(0, .ref 44), (1, .int i1), (2, .int i2), (3, .int i3)] [] σ := by
  unfold fM_paid at hX
  refine V.aloadn 0 dM_paid_0 rfl rfl ?_
  refine V.iloadn 1 dM_paid_1 rfl rfl ?_
  refine V.callvi 44 [.int i1] dM_paid_2 (kM_isPerson (σ := σ) i1) mlM_203 myM_isPerson mnM_isPerson ⟨rfl, rfl, by decide, by decide⟩ (rfl : kd 44 = (6, 0)) (by decide) rfl (Nat.le_of_ble_eq_true rfl) ⟨Nat.zero_le _, Nat.zero_le _⟩ rfl ?_
  refine V.ifeq 32 dM_paid_5 rfl rfl (fun g1 => ?_) (fun g1 => ?_)
  · replace hX := ip hX g1
    refine V.iconst (-1 : Int32) dM_paid_32 lcm1 rfl ?_
    have hX := (Option.some.inj hX).symm; subst hX; exact V.iret dM_paid_33 rfl rfl
  · replace hX := im hX g1
    refine V.aloadn 0 dM_paid_8 rfl rfl ?_
    refine V.iloadn 2 dM_paid_9 rfl rfl ?_
    refine V.callvi 44 [.int i2] dM_paid_10 (kM_isPerson (σ := σ) i2) mlM_203 myM_isPerson mnM_isPerson ⟨rfl, rfl, by decide, by decide⟩ (rfl : kd 44 = (6, 0)) (by decide) rfl (Nat.le_of_ble_eq_true rfl) ⟨Nat.zero_le _, Nat.zero_le _⟩ rfl ?_
    refine V.ifeq 32 dM_paid_13 rfl rfl (fun g2 => ?_) (fun g2 => ?_)
    · replace hX := ip hX g2
      refine V.iconst (-1 : Int32) dM_paid_32 lcm1 rfl ?_
      have hX := (Option.some.inj hX).symm; subst hX; exact V.iret dM_paid_33 rfl rfl
    · replace hX := im hX g2
      refine V.iloadn 1 dM_paid_16 rfl rfl ?_
      refine V.iloadn 2 dM_paid_17 rfl rfl ?_
      refine V.icmpeq 32 dM_paid_18 rfl rfl (fun g3 => ?_) (fun g3 => ?_)
      · replace hX := ip hX g3
        refine V.iconst (-1 : Int32) dM_paid_32 lcm1 rfl ?_
        have hX := (Option.some.inj hX).symm; subst hX; exact V.iret dM_paid_33 rfl rfl
      · replace hX := im hX g3
        refine V.iloadn 3 dM_paid_21 rfl rfl ?_
        refine V.iconst (0 : Int32) dM_paid_22 lc0 rfl ?_
        refine V.sipush (999 : Int32) dM_paid_23 ls999 rfl ?_
        refine V.callsi [.int i3, .int (0 : Int32), .int (999 : Int32)] dM_paid_26 (kM_in (σ := σ) i3 (0 : Int32) (999 : Int32)) mlM_84 myM_in mnM_in ⟨rfl, rfl, by decide, by decide⟩ rfl (Nat.le_of_ble_eq_true rfl) ⟨Nat.zero_le _, Nat.zero_le _⟩ rfl ?_
        refine V.ifne 34 dM_paid_29 rfl rfl (fun g4 => ?_) (fun g4 => ?_)
        · replace hX := im hX g4
          refine V.aloadn 0 dM_paid_34 rfl rfl ?_
          refine V.iloadn 1 dM_paid_35 rfl rfl ?_
          refine V.iloadn 2 dM_paid_36 rfl rfl ?_
          obtain ⟨q5, c6, hX⟩ := bd hX; try dsimp only at hX
          refine V.callvi 44 [.int i1, .int i2] dM_paid_37 (kM_given c6) mlM_267 myM_given mnM_given ⟨rfl, rfl, by decide, by decide⟩ (rfl : kd 44 = (6, 0)) (by decide) rfl (Nat.le_of_ble_eq_true rfl) ⟨Nat.zero_le _, Nat.zero_le _⟩ rfl ?_
          refine V.istore _ dM_paid_40 (by decide) rfl rfl ?_
          refine V.bipush (-3 : Int32) dM_paid_42 lbm3 rfl ?_
          refine V.istore _ dM_paid_44 (by decide) rfl rfl ?_
          refine V.iconst (0 : Int32) dM_paid_46 lc0 rfl ?_
          refine V.istore _ dM_paid_47 (by decide) rfl rfl ?_
          refine V.sub [3, 6, 2, 1, 0] rfl ?_
          exact wM_paid_49 300 σ i3 q5 (-3 : Int32) (0 : Int32) hX
        · replace hX := ip hX g4
          refine V.iconst (-1 : Int32) dM_paid_32 lcm1 rfl ?_
          have hX := (Option.some.inj hX).symm; subst hX; exact V.iret dM_paid_33 rfl rfl
theorem kM_paid {E : Ev} {σ : St} {i1 : Int32} {i2 : Int32} {i3 : Int32} {z : Int32} (h : fM_paid σ i1 i2 i3 = some z) : Ct mM_paid E [.ref 44, .int i1, .int i2, .int i3] σ (some (.int z), σ) := Ct.of (by decide) (Nat.le_of_ble_eq_true rfl) (wM_paid σ i1 i2 i3 h)
theorem dM_friend_0 : decode mM_friend.1 0 = .ok (.aload_n 0, 1) := by decide +kernel
theorem dM_friend_1 : decode mM_friend.1 1 = .ok (.iload_n 1, 1) := by decide +kernel
theorem dM_friend_2 : decode mM_friend.1 2 = .ok (.invokevirtual 223, 3) := by decide +kernel
theorem dM_friend_5 : decode mM_friend.1 5 = .ok (.ifCond .ne 5, 3) := by decide +kernel
theorem dM_friend_8 : decode mM_friend.1 8 = .ok (.iconst (-1), 1) := by decide +kernel
theorem dM_friend_9 : decode mM_friend.1 9 = .ok (.ireturn, 1) := by decide +kernel
theorem dM_friend_10 : decode mM_friend.1 10 = .ok (.aload_n 0, 1) := by decide +kernel
theorem dM_friend_11 : decode mM_friend.1 11 = .ok (.iload_n 1, 1) := by decide +kernel
theorem dM_friend_12 : decode mM_friend.1 12 = .ok (.invokevirtual 258, 3) := by decide +kernel
theorem dM_friend_15 : decode mM_friend.1 15 = .ok (.istore_n 2, 1) := by decide +kernel
theorem dM_friend_16 : decode mM_friend.1 16 = .ok (.bipush (-3), 2) := by decide +kernel
theorem dM_friend_18 : decode mM_friend.1 18 = .ok (.istore_n 3, 1) := by decide +kernel
theorem dM_friend_19 : decode mM_friend.1 19 = .ok (.iconst 0, 1) := by decide +kernel
theorem dM_friend_20 : decode mM_friend.1 20 = .ok (.istore 4, 2) := by decide +kernel
theorem dM_friend_22 : decode mM_friend.1 22 = .ok (.iload 4, 2) := by decide +kernel
theorem dM_friend_24 : decode mM_friend.1 24 = .ok (.aload_n 0, 1) := by decide +kernel
theorem dM_friend_25 : decode mM_friend.1 25 = .ok (.getfield 81, 3) := by decide +kernel
theorem dM_friend_28 : decode mM_friend.1 28 = .ok (.if_icmp .ge 100, 3) := by decide +kernel
theorem dM_friend_31 : decode mM_friend.1 31 = .ok (.iload 4, 2) := by decide +kernel
theorem dM_friend_33 : decode mM_friend.1 33 = .ok (.iconst 1, 1) := by decide +kernel
theorem dM_friend_34 : decode mM_friend.1 34 = .ok (.iadd, 1) := by decide +kernel
theorem dM_friend_35 : decode mM_friend.1 35 = .ok (.istore 5, 2) := by decide +kernel
theorem dM_friend_37 : decode mM_friend.1 37 = .ok (.iload 5, 2) := by decide +kernel
theorem dM_friend_39 : decode mM_friend.1 39 = .ok (.aload_n 0, 1) := by decide +kernel
theorem dM_friend_40 : decode mM_friend.1 40 = .ok (.getfield 81, 3) := by decide +kernel
theorem dM_friend_43 : decode mM_friend.1 43 = .ok (.if_icmp .ge 79, 3) := by decide +kernel
theorem dM_friend_46 : decode mM_friend.1 46 = .ok (.aload_n 0, 1) := by decide +kernel
theorem dM_friend_47 : decode mM_friend.1 47 = .ok (.getfield 16, 3) := by decide +kernel
theorem dM_friend_50 : decode mM_friend.1 50 = .ok (.iload 4, 2) := by decide +kernel
theorem dM_friend_52 : decode mM_friend.1 52 = .ok (.iaload, 1) := by decide +kernel
theorem dM_friend_53 : decode mM_friend.1 53 = .ok (.iload 5, 2) := by decide +kernel
theorem dM_friend_55 : decode mM_friend.1 55 = .ok (.invokestatic 196, 3) := by decide +kernel
theorem dM_friend_58 : decode mM_friend.1 58 = .ok (.ifCond .ne 58, 3) := by decide +kernel
theorem dM_friend_61 : decode mM_friend.1 61 = .ok (.aload_n 0, 1) := by decide +kernel
theorem dM_friend_62 : decode mM_friend.1 62 = .ok (.iload 4, 2) := by decide +kernel
theorem dM_friend_64 : decode mM_friend.1 64 = .ok (.iload 5, 2) := by decide +kernel
theorem dM_friend_66 : decode mM_friend.1 66 = .ok (.invokevirtual 212, 3) := by decide +kernel
theorem dM_friend_69 : decode mM_friend.1 69 = .ok (.aload_n 0, 1) := by decide +kernel
theorem dM_friend_70 : decode mM_friend.1 70 = .ok (.iload_n 1, 1) := by decide +kernel
theorem dM_friend_71 : decode mM_friend.1 71 = .ok (.invokevirtual 258, 3) := by decide +kernel
theorem dM_friend_74 : decode mM_friend.1 74 = .ok (.istore 6, 2) := by decide +kernel
theorem dM_friend_76 : decode mM_friend.1 76 = .ok (.aload_n 0, 1) := by decide +kernel
theorem dM_friend_77 : decode mM_friend.1 77 = .ok (.iload 4, 2) := by decide +kernel
theorem dM_friend_79 : decode mM_friend.1 79 = .ok (.iload 5, 2) := by decide +kernel
theorem dM_friend_81 : decode mM_friend.1 81 = .ok (.invokevirtual 212, 3) := by decide +kernel
theorem dM_friend_84 : decode mM_friend.1 84 = .ok (.iload 6, 2) := by decide +kernel
theorem dM_friend_86 : decode mM_friend.1 86 = .ok (.iload_n 2, 1) := by decide +kernel
theorem dM_friend_87 : decode mM_friend.1 87 = .ok (.if_icmp .le 14, 3) := by decide +kernel
theorem dM_friend_90 : decode mM_friend.1 90 = .ok (.bipush 10, 2) := by decide +kernel
theorem dM_friend_92 : decode mM_friend.1 92 = .ok (.iload 4, 2) := by decide +kernel
theorem dM_friend_94 : decode mM_friend.1 94 = .ok (.imul, 1) := by decide +kernel
theorem dM_friend_95 : decode mM_friend.1 95 = .ok (.iload 5, 2) := by decide +kernel
theorem dM_friend_97 : decode mM_friend.1 97 = .ok (.iadd, 1) := by decide +kernel
theorem dM_friend_98 : decode mM_friend.1 98 = .ok (.goto 4, 3) := by decide +kernel
theorem dM_friend_101 : decode mM_friend.1 101 = .ok (.iload_n 3, 1) := by decide +kernel
theorem dM_friend_102 : decode mM_friend.1 102 = .ok (.istore_n 3, 1) := by decide +kernel
theorem dM_friend_103 : decode mM_friend.1 103 = .ok (.iload 6, 2) := by decide +kernel
theorem dM_friend_105 : decode mM_friend.1 105 = .ok (.iload_n 2, 1) := by decide +kernel
theorem dM_friend_106 : decode mM_friend.1 106 = .ok (.if_icmp .le 8, 3) := by decide +kernel
theorem dM_friend_109 : decode mM_friend.1 109 = .ok (.iload 6, 2) := by decide +kernel
theorem dM_friend_111 : decode mM_friend.1 111 = .ok (.goto 4, 3) := by decide +kernel
theorem dM_friend_114 : decode mM_friend.1 114 = .ok (.iload_n 2, 1) := by decide +kernel
theorem dM_friend_115 : decode mM_friend.1 115 = .ok (.istore_n 2, 1) := by decide +kernel
theorem dM_friend_116 : decode mM_friend.1 116 = .ok (.iinc 5 1, 3) := by decide +kernel
theorem dM_friend_119 : decode mM_friend.1 119 = .ok (.goto (-82), 3) := by decide +kernel
theorem dM_friend_122 : decode mM_friend.1 122 = .ok (.iinc 4 1, 3) := by decide +kernel
theorem dM_friend_125 : decode mM_friend.1 125 = .ok (.goto (-103), 3) := by decide +kernel
theorem dM_friend_128 : decode mM_friend.1 128 = .ok (.iload_n 3, 1) := by decide +kernel
theorem dM_friend_129 : decode mM_friend.1 129 = .ok (.ireturn, 1) := by decide +kernel
set_option maxRecDepth 4000 in
theorem wM_friend_37 {E : Ev} {z : Int32 × St} : ∀ (fu : Nat) (σ : St) (i1 : Int32) (i2 : Int32) (i3 : Int32) (i4 : Int32) (i5 : Int32) (K0 : St → Int32 → Int32 → Int32 → Int32 → Option (Int32 × St)) (hK0 : ∀ (σ : St) (i1 : Int32) (i2 : Int32) (i3 : Int32) (i4 : Int32), K0 σ i1 i2 i3 i4 = some z → V E mM_friend (FM E (some (.int z.1), z.2)) 122 [(0, .ref 44), (1, .int i1), (2, .int i2), (3, .int i3), (4, .int i4)] [] σ), fM_friend_37 fu σ i1 i2 i3 i4 i5 K0 = some z → V E mM_friend (FM E (some (.int z.1), z.2)) 37 [(0, .ref 44), (1, .int i1), (2, .int i2), (3, .int i3), (4, .int i4), (5, .int i5)] [] σ := by
  intro fu
  induction fu with
  | zero => intro σ i1 i2 i3 i4 i5 K0 hK0 hX; cases hX
  | succ fu ih =>
    intro σ i1 i2 i3 i4 i5 K0 hK0 hX
    rw [fM_friend_37] at hX
    refine V.iload 5 dM_friend_37 rfl rfl ?_
    refine V.aloadn 0 dM_friend_39 rfl rfl ?_
    refine V.geti 44 dM_friend_40 flM_81 (rfl : kd 44 = (6, 0)) rfl ?_
    refine V.icmpge 122 dM_friend_43 rfl rfl (fun g6 => ?_) (fun g6 => ?_)
    · replace hX := ip hX g6
      refine V.sub [0, 1, 2, 3, 4] rfl ?_
      exact hK0 σ i1 i2 i3 i4 hX
    · replace hX := im hX g6
      refine V.aloadn 0 dM_friend_46 rfl rfl ?_
      refine V.getr 44 47 dM_friend_47 flM_16 (rfl : kd 44 = (6, 0)) rfl rfl ?_
      refine V.iload 4 dM_friend_50 rfl rfl ?_
      obtain ⟨h7, hX⟩ := ob hX
      refine V.iald 47 dM_friend_52 (rfl : kd 47 = (7, 7)) h7 rfl ?_
      refine V.iload 5 dM_friend_53 rfl rfl ?_
      refine V.callsi [.int (gI σ 47 (ix i4)), .int i5] dM_friend_55 (kM_has (σ := σ) (gI σ 47 (ix i4)) i5) mlM_196 myM_has mnM_has ⟨rfl, rfl, by decide, by decide⟩ rfl (Nat.le_of_ble_eq_true rfl) ⟨Nat.zero_le _, Nat.zero_le _⟩ rfl ?_
      refine V.ifne 116 dM_friend_58 rfl rfl (fun g8 => ?_) (fun g8 => ?_)
      · replace hX := im hX g8
        refine V.iinc 5 (1 : Int32) _ dM_friend_116 rfl lc1 (by decide) rfl rfl ?_
        replace hX := nmx hX; generalize i5 + (1 : Int32) = v9 at hX ⊢; try dsimp only at hX
        refine V.goto 37 dM_friend_119 rfl ?_
        refine V.sub [1, 2, 3, 4, 5, 0] rfl ?_
        exact ih σ i1 i2 i3 i4 v9 K0 hK0 hX
      · replace hX := ip hX g8
        refine V.aloadn 0 dM_friend_61 rfl rfl ?_
        refine V.iload 4 dM_friend_62 rfl rfl ?_
        refine V.iload 5 dM_friend_64 rfl rfl ?_
        obtain ⟨σ11, c10, hX⟩ := bd hX; try dsimp only at hX
        refine V.callv0 44 [.int i4, .int i5] dM_friend_66 (kM_swapsKnow c10) mlM_212 myM_swapsKnow mnM_swapsKnow ⟨rfl, rfl, by decide, by decide⟩ (rfl : kd 44 = (6, 0)) (by decide) rfl (Nat.le_of_ble_eq_true rfl) ⟨Nat.zero_le _, Nat.zero_le _⟩ rfl ?_
        refine V.aloadn 0 dM_friend_69 rfl rfl ?_
        refine V.iloadn 1 dM_friend_70 rfl rfl ?_
        obtain ⟨q13, σ13, c12, hX⟩ := bi2 hX; try dsimp only at hX
        refine V.callvi 44 [.int i1] dM_friend_71 (kM_leftOf c12) mlM_258 myM_leftOf mnM_leftOf ⟨rfl, rfl, by decide, by decide⟩ (rfl : kd 44 = (6, 0)) (by decide) rfl (Nat.le_of_ble_eq_true rfl) ⟨Nat.zero_le _, Nat.zero_le _⟩ rfl ?_
        refine V.istore _ dM_friend_74 (by decide) rfl rfl ?_
        refine V.aloadn 1 dM_friend_76 rfl rfl ?_
        refine V.iload 5 dM_friend_77 rfl rfl ?_
        refine V.iload 6 dM_friend_79 rfl rfl ?_
        obtain ⟨σ15, c14, hX⟩ := bd hX; try dsimp only at hX
        refine V.callv0 44 [.int i4, .int i5] dM_friend_81 (kM_swapsKnow c14) mlM_212 myM_swapsKnow mnM_swapsKnow ⟨rfl, rfl, by decide, by decide⟩ (rfl : kd 44 = (6, 0)) (by decide) rfl (Nat.le_of_ble_eq_true rfl) ⟨Nat.zero_le _, Nat.zero_le _⟩ rfl ?_
        refine V.iload 0 dM_friend_84 rfl rfl ?_
        refine V.iloadn 3 dM_friend_86 rfl rfl ?_
        have JJ : V E mM_friend (FM E (some (.int z.1), z.2)) 102 [(6, .int q13), (0, .ref 44), (1, .int i1), (2, .int i2), (3, .int i3), (4, .int i4), (5, .int i5)] [.int (if q13 ≤ i2 then i3 else ((10 : Int32) * i4) + i5)] σ15 := by
          refine V.istoren _ dM_friend_102 (by decide) rfl rfl ?_
          replace hX := nmx hX; generalize (if q13 ≤ i2 then i3 else ((10 : Int32) * i4) + i5) = v16 at hX ⊢; try dsimp only at hX
          refine V.iload 1 dM_friend_103 rfl rfl ?_
          refine V.iloadn 4 dM_friend_105 rfl rfl ?_
          have JJ : V E mM_friend (FM E (some (.int z.1), z.2)) 115 [(3, .int v16), (6, .int q13), (0, .ref 44), (1, .int i1), (2, .int i2), (4, .int i4), (5, .int i5)] [.int (if q13 ≤ i2 then i2 else q13)] σ15 := by
            refine V.istoren _ dM_friend_115 (by decide) rfl rfl ?_
            replace hX := nmx hX; generalize (if q13 ≤ i2 then i2 else q13) = v17 at hX ⊢; try dsimp only at hX
            refine V.iinc 6 (1 : Int32) _ dM_friend_116 rfl lc1 (by decide) rfl rfl ?_
            replace hX := nmx hX; generalize i5 + (1 : Int32) = v18 at hX ⊢; try dsimp only at hX
            refine V.goto 37 dM_friend_119 rfl ?_
            refine V.sub [4, 5, 1, 2, 6, 0] rfl ?_
            exact ih σ15 i1 v17 v16 i4 v18 K0 hK0 hX
          refine V.icmple 114 dM_friend_106 rfl rfl (fun g19 => ?_) (fun g19 => ?_)
          · refine V.iloadn 4 dM_friend_114 rfl rfl ?_
            exact V.top (if_pos g19).symm JJ
          · refine V.iload 1 dM_friend_109 rfl rfl ?_
            refine V.goto 115 dM_friend_111 rfl ?_
            exact V.top (if_neg g19).symm JJ
        refine V.icmple 101 dM_friend_87 rfl rfl (fun g20 => ?_) (fun g20 => ?_)
        · refine V.iloadn 4 dM_friend_101 rfl rfl ?_
          exact V.top (if_pos g20).symm JJ
        · refine V.bipush (10 : Int32) dM_friend_90 lb10 rfl ?_
          refine V.iload 5 dM_friend_92 rfl rfl ?_
          refine V.imul dM_friend_94 rfl ?_
          refine V.iload 6 dM_friend_95 rfl rfl ?_
          refine V.iadd dM_friend_97 rfl ?_
          refine V.goto 102 dM_friend_98 rfl ?_
          exact V.top (if_neg g20).symm JJ
set_option maxRecDepth 4000 in
theorem wM_friend_22 {E : Ev} {z : Int32 × St} : ∀ (fu : Nat) (σ : St) (i1 : Int32) (i2 : Int32) (i3 : Int32) (i4 : Int32), fM_friend_22 fu σ i1 i2 i3 i4 = some z → V E mM_friend (FM E (some (.int z.1), z.2)) 22 [(0, .ref 44), (1, .int i1), (2, .int i2), (3, .int i3), (4, .int i4)] [] σ := by
  intro fu
  induction fu with
  | zero => intro σ i1 i2 i3 i4 hX; cases hX
  | succ fu ih =>
    intro σ i1 i2 i3 i4 hX
    rw [fM_friend_22] at hX
    refine V.iload 4 dM_friend_22 rfl rfl ?_
    refine V.aloadn 0 dM_friend_24 rfl rfl ?_
    refine V.geti 44 dM_friend_25 flM_81 (rfl : kd 44 = (6, 0)) rfl ?_
    refine V.icmpge 128 dM_friend_28 rfl rfl (fun g4 => ?_) (fun g4 => ?_)
    · replace hX := ip hX g4
      refine V.iloadn 3 dM_friend_128 rfl rfl ?_
      have hX := (Option.some.inj hX).symm; subst hX; exact V.iret dM_friend_129 rfl rfl
    · replace hX := im hX g4
      refine V.iload 4 dM_friend_31 rfl rfl ?_
      refine V.iconst (1 : Int32) dM_friend_33 lc1 rfl ?_
      refine V.iadd dM_friend_34 rfl ?_
      refine V.istore _ dM_friend_35 (by decide) rfl rfl ?_
      replace hX := nmx hX; generalize i4 + (1 : Int32) = v5 at hX ⊢; try dsimp only at hX
      refine V.sub [1, 2, 3, 4, 5, 0] rfl ?_
      refine wM_friend_37 300 σ i1 i2 i3 i4 v5 _ ?_ hX
      · intro σ21 y22 y23 y24 y25 hX; try dsimp only at hX
        refine V.iinc 4 (1 : Int32) _ dM_friend_122 rfl lc1 (by decide) rfl rfl ?_
        replace hX := nmx hX; generalize y25 + (1 : Int32) = v26 at hX ⊢; try dsimp only at hX
        refine V.goto 22 dM_friend_125 rfl ?_
        refine V.sub [1, 2, 3, 4, 0] rfl ?_
        exact ih σ21 y22 y23 y24 v26 hX
set_option maxRecDepth 4000 in
theorem wM_friend {E : Ev} {z : Int32 × St} (σ : St) (i1 : Int32) (hX : fM_friend σ i1 = some z) : V E mM_friend (FM E (some (.int z.1), z.2)) 0 [(0, .ref 44), (1, .int i1)] [] σ := by
  unfold fM_friend at hX
  refine V.aloadn 0 dM_friend_0 rfl rfl ?_
  refine V.iloadn 1 dM_friend_1 rfl rfl ?_
  refine V.callvi 44 [.int i1] dM_friend_2 (kM_isCoin (σ := σ) i1) mlM_223 myM_isCoin mnM_isCoin ⟨rfl, rfl, by decide, by decide⟩ (rfl : kd 44 = (6, 0)) (by decide) rfl (Nat.le_of_ble_eq_true rfl) ⟨Nat.zero_le _, Nat.zero_le _⟩ rfl ?_
  refine V.ifne 10 dM_friend_5 rfl rfl (fun g1 => ?_) (fun g1 => ?_)
  · replace hX := im hX g1
    refine V.aloadn 0 dM_friend_10 rfl rfl ?_
    refine V.iloadn 1 dM_friend_11 rfl rfl ?_
    obtain ⟨q3, σ3, c2, hX⟩ := bi2 hX; try dsimp only at hX
    refine V.callvi 44 [.int i1] dM_friend_12 (kM_leftOf c2) mlM_258 myM_leftOf mnM_leftOf ⟨rfl, rfl, by decide, by decide⟩ (rfl : kd 44 = (6, 0)) (by decide) rfl (Nat.le_of_ble_eq_true rfl) ⟨Nat.zero_le _, Nat.zero_le _⟩ rfl ?_
    refine V.istoren _ dM_friend_15 (by decide) rfl rfl ?_
    refine V.bipush (-3 : Int32) dM_friend_16 lbm3 rfl ?_
    refine V.istoren _ dM_friend_18 (by decide) rfl rfl ?_
    refine V.iconst (0 : Int32) dM_friend_19 lc0 rfl ?_
    refine V.istore _ dM_friend_20 (by decide) rfl rfl ?_
    refine V.sub [3, 4, 2, 1, 0] rfl ?_
    exact wM_friend_22 300 σ3 i1 q3 (-3 : Int32) (0 : Int32) hX
  · replace hX := ip hX g1
    refine V.iconst (-1 : Int32) dM_friend_8 lcm1 rfl ?_
    have hX := (Option.some.inj hX).symm; subst hX; exact V.iret dM_friend_9 rfl rfl
theorem kM_friend {E : Ev} {σ σ2 : St} {i1 : Int32} {z : Int32} (h : fM_friend σ i1 = some (z, σ2)) : Ct mM_friend E [.ref 44, .int i1] σ (some (.int z), σ2) := Ct.of (by decide) (Nat.le_of_ble_eq_true rfl) (wM_friend σ i1 h)
theorem dM_isSide_0 : decode mM_isSide.1 0 = .ok (.iload_n 0, 1) := by decide +kernel
theorem dM_isSide_1 : decode mM_isSide.1 1 = .ok (.iconst 0, 1) := by decide +kernel
theorem dM_isSide_2 : decode mM_isSide.1 2 = .ok (.iconst 1, 1) := by decide +kernel
theorem dM_isSide_3 : decode mM_isSide.1 3 = .ok (.invokestatic 84, 3) := by decide +kernel
theorem dM_isSide_6 : decode mM_isSide.1 6 = .ok (.ireturn, 1) := by decide +kernel
set_option maxRecDepth 4000 in
theorem wM_isSide {E : Ev} {z : Int32} (σ : St) (i0 : Int32) (hX : fM_isSide i0 = z) : V E mM_isSide (FM E (some (.int z), σ)) 0 [(0, .int i0)] [] σ := by
  unfold fM_isSide at hX
  refine V.iloadn 0 dM_isSide_0 rfl rfl ?_
  refine V.iconst (0 : Int32) dM_isSide_1 lc0 rfl ?_
  refine V.iconst (1 : Int32) dM_isSide_2 lc1 rfl ?_
  refine V.callsi [.int i0, .int (0 : Int32), .int (1 : Int32)] dM_isSide_3 (kM_in (σ := σ) i0 (0 : Int32) (1 : Int32)) mlM_84 myM_in mnM_in ⟨rfl, rfl, by decide, by decide⟩ rfl (Nat.le_of_ble_eq_true rfl) ⟨Nat.zero_le _, Nat.zero_le _⟩ rfl ?_
  subst hX; exact V.zret .boolean dM_isSide_6 rfl (nz (bM_in i0 (0 : Int32) (1 : Int32))).1 rfl
theorem kM_isSide {E : Ev} {σ : St} (i0 : Int32) : Ct mM_isSide E [.int i0] σ (some (.int (fM_isSide i0)), σ) := Ct.of (by decide) (Nat.le_of_ble_eq_true rfl) (wM_isSide σ i0 rfl)
theorem bM_isSide (i0 : Int32) : b01 (fM_isSide i0) := by
  unfold fM_isSide
  exact (bM_in i0 (0 : Int32) (1 : Int32))
theorem dM_heir_0 : decode mM_heir.1 0 = .ok (.aload_n 0, 1) := by decide +kernel
theorem dM_heir_1 : decode mM_heir.1 1 = .ok (.iload_n 1, 1) := by decide +kernel
theorem dM_heir_2 : decode mM_heir.1 2 = .ok (.invokevirtual 203, 3) := by decide +kernel
theorem dM_heir_5 : decode mM_heir.1 5 = .ok (.ifCond .eq 10, 3) := by decide +kernel
theorem dM_heir_8 : decode mM_heir.1 8 = .ok (.iload_n 2, 1) := by decide +kernel
theorem dM_heir_9 : decode mM_heir.1 9 = .ok (.invokestatic 270, 3) := by decide +kernel
theorem dM_heir_12 : decode mM_heir.1 12 = .ok (.ifCond .ne 5, 3) := by decide +kernel
theorem dM_heir_15 : decode mM_heir.1 15 = .ok (.iconst (-1), 1) := by decide +kernel
theorem dM_heir_16 : decode mM_heir.1 16 = .ok (.ireturn, 1) := by decide +kernel
theorem dM_heir_17 : decode mM_heir.1 17 = .ok (.bipush (-3), 2) := by decide +kernel
theorem dM_heir_19 : decode mM_heir.1 19 = .ok (.istore_n 3, 1) := by decide +kernel
theorem dM_heir_20 : decode mM_heir.1 20 = .ok (.iconst (-1), 1) := by decide +kernel
theorem dM_heir_21 : decode mM_heir.1 21 = .ok (.istore 4, 2) := by decide +kernel
theorem dM_heir_23 : decode mM_heir.1 23 = .ok (.iconst 0, 1) := by decide +kernel
theorem dM_heir_24 : decode mM_heir.1 24 = .ok (.istore 5, 2) := by decide +kernel
theorem dM_heir_26 : decode mM_heir.1 26 = .ok (.iload 5, 2) := by decide +kernel
theorem dM_heir_28 : decode mM_heir.1 28 = .ok (.aload_n 0, 1) := by decide +kernel
theorem dM_heir_29 : decode mM_heir.1 29 = .ok (.getfield 81, 3) := by decide +kernel
theorem dM_heir_32 : decode mM_heir.1 32 = .ok (.if_icmp .ge 45, 3) := by decide +kernel
theorem dM_heir_35 : decode mM_heir.1 35 = .ok (.aload_n 0, 1) := by decide +kernel
theorem dM_heir_36 : decode mM_heir.1 36 = .ok (.iload_n 1, 1) := by decide +kernel
theorem dM_heir_37 : decode mM_heir.1 37 = .ok (.iload 5, 2) := by decide +kernel
theorem dM_heir_39 : decode mM_heir.1 39 = .ok (.invokevirtual 267, 3) := by decide +kernel
theorem dM_heir_42 : decode mM_heir.1 42 = .ok (.istore 6, 2) := by decide +kernel
theorem dM_heir_44 : decode mM_heir.1 44 = .ok (.iload 6, 2) := by decide +kernel
theorem dM_heir_46 : decode mM_heir.1 46 = .ok (.ifCond .eq 25, 3) := by decide +kernel
theorem dM_heir_49 : decode mM_heir.1 49 = .ok (.aload_n 0, 1) := by decide +kernel
theorem dM_heir_50 : decode mM_heir.1 50 = .ok (.iload 6, 2) := by decide +kernel
theorem dM_heir_52 : decode mM_heir.1 52 = .ok (.invokevirtual 209, 3) := by decide +kernel
theorem dM_heir_55 : decode mM_heir.1 55 = .ok (.iload 4, 2) := by decide +kernel
theorem dM_heir_57 : decode mM_heir.1 57 = .ok (.if_icmp .le 14, 3) := by decide +kernel
theorem dM_heir_60 : decode mM_heir.1 60 = .ok (.iload 5, 2) := by decide +kernel
theorem dM_heir_62 : decode mM_heir.1 62 = .ok (.istore_n 3, 1) := by decide +kernel
theorem dM_heir_63 : decode mM_heir.1 63 = .ok (.aload_n 0, 1) := by decide +kernel
theorem dM_heir_64 : decode mM_heir.1 64 = .ok (.iload 6, 2) := by decide +kernel
theorem dM_heir_66 : decode mM_heir.1 66 = .ok (.invokevirtual 209, 3) := by decide +kernel
theorem dM_heir_69 : decode mM_heir.1 69 = .ok (.istore 4, 2) := by decide +kernel
theorem dM_heir_71 : decode mM_heir.1 71 = .ok (.iinc 5 1, 3) := by decide +kernel
theorem dM_heir_74 : decode mM_heir.1 74 = .ok (.goto (-48), 3) := by decide +kernel
theorem dM_heir_77 : decode mM_heir.1 77 = .ok (.iload_n 3, 1) := by decide +kernel
theorem dM_heir_78 : decode mM_heir.1 78 = .ok (.ifCond .lt 7, 3) := by decide +kernel
theorem dM_heir_81 : decode mM_heir.1 81 = .ok (.iload_n 2, 1) := by decide +kernel
theorem dM_heir_82 : decode mM_heir.1 82 = .ok (.ifCond .ne 7, 3) := by decide +kernel
theorem dM_heir_85 : decode mM_heir.1 85 = .ok (.iload_n 3, 1) := by decide +kernel
theorem dM_heir_86 : decode mM_heir.1 86 = .ok (.goto 5, 3) := by decide +kernel
theorem dM_heir_89 : decode mM_heir.1 89 = .ok (.iload 4, 2) := by decide +kernel
theorem dM_heir_91 : decode mM_heir.1 91 = .ok (.ireturn, 1) := by decide +kernel
set_option maxRecDepth 4000 in
theorem wM_heir_77 {E : Ev} {z : Int32} (σ : St) (i2 : Int32) (i3 : Int32) (i4 : Int32) (hX : fM_heir_77 σ i2 i3 i4 = some z) : V E mM_heir (FM E (some (.int z), σ)) 77 [(2, .int i2), (3, .int i3), (4, .int i4)] [] σ := by
  unfold fM_heir_77 at hX
  refine V.iloadn 1 dM_heir_77 rfl rfl ?_
  have JJ : V E mM_heir (FM E (some (.int z), σ)) 91 [(2, .int i2), (3, .int i3), (4, .int i4)] [.int (if i3 < 0 then i3 else (if i2 = 0 then i3 else i4))] σ := by
    have hX := (Option.some.inj hX).symm; subst hX; exact V.iret dM_heir_91 rfl rfl
  refine V.iflt 85 dM_heir_78 rfl rfl (fun g4 => ?_) (fun g4 => ?_)
  · refine V.iloadn 1 dM_heir_85 rfl rfl ?_
    refine V.goto 91 dM_heir_86 rfl ?_
    exact V.top (if_pos g4).symm JJ
  · refine V.iloadn 0 dM_heir_81 rfl rfl ?_
    refine V.ifne 89 dM_heir_82 rfl rfl (fun g5 => ?_) (fun g5 => ?_)
    · refine V.iload 2 dM_heir_89 rfl rfl ?_
      exact V.top ((if_neg g4).trans (if_neg g5)).symm JJ
    · refine V.iloadn 1 dM_heir_85 rfl rfl ?_
      refine V.goto 91 dM_heir_86 rfl ?_
      exact V.top ((if_neg g4).trans (if_pos g5)).symm JJ
set_option maxRecDepth 4000 in
theorem wM_heir_26 {E : Ev} {z : Int32} : ∀ (fu : Nat) (σ : St) (i1 : Int32) (i2 : Int32) (i3 : Int32) (i4 : Int32) (i5 : Int32), fM_heir_26 fu σ i1 i2 i3 i4 i5 = some z → V E mM_heir (FM E (some (.int z), σ)) 26 [(0, .ref 44), (1, .int i1), (2, .int i2), (3, .int i3), (4, .int i4), (5, .int i5)] [] σ := by
  intro fu
  induction fu with
  | zero => intro σ i1 i2 i3 i4 i5 hX; cases hX
  | succ fu ih =>
    intro σ i1 i2 i3 i4 i5 hX
    rw [fM_heir_26] at hX
    refine V.iload 5 dM_heir_26 rfl rfl ?_
    refine V.aloadn 0 dM_heir_28 rfl rfl ?_
    refine V.geti 44 dM_heir_29 flM_81 (rfl : kd 44 = (6, 0)) rfl ?_
    refine V.icmpge 77 dM_heir_32 rfl rfl (fun g3 => ?_) (fun g3 => ?_)
    · replace hX := ip hX g3
      refine V.sub [2, 3, 4] rfl ?_
      exact wM_heir_77 σ i2 i3 i4 hX
    · replace hX := im hX g3
      refine V.aloadn 0 dM_heir_35 rfl rfl ?_
      refine V.iloadn 1 dM_heir_36 rfl rfl ?_
      refine V.iload 5 dM_heir_37 rfl rfl ?_
      obtain ⟨q6, c7, hX⟩ := bd hX; try dsimp only at hX
      refine V.callvi 44 [.int i1, .int i5] dM_heir_39 (kM_given c7) mlM_267 myM_given mnM_given ⟨rfl, rfl, by decide, by decide⟩ (rfl : kd 44 = (6, 0)) (by decide) rfl (Nat.le_of_ble_eq_true rfl) ⟨Nat.zero_le _, Nat.zero_le _⟩ rfl ?_
      refine V.istore _ dM_heir_42 (by decide) rfl rfl ?_
      refine V.iload 0 dM_heir_44 rfl rfl ?_
      refine V.ifeq 71 dM_heir_46 rfl rfl (fun g8 => ?_) (fun g8 => ?_)
      · replace hX := ip hX g8
        refine V.iinc 6 (1 : Int32) _ dM_heir_71 rfl lc1 (by decide) rfl rfl ?_
        replace hX := nmx hX; generalize i5 + (1 : Int32) = v9 at hX ⊢; try dsimp only at hX
        refine V.goto 26 dM_heir_74 rfl ?_
        refine V.sub [2, 3, 4, 5, 6, 0] rfl ?_
        exact ih σ i1 i2 i3 i4 v9 hX
      · replace hX := im hX g8
        refine V.aloadn 1 dM_heir_49 rfl rfl ?_
        refine V.iload 0 dM_heir_50 rfl rfl ?_
        obtain ⟨q10, c11, hX⟩ := bd hX; try dsimp only at hX
        refine V.callvi 44 [.int q6] dM_heir_52 (kM_worthOf c11) mlM_209 myM_worthOf mnM_worthOf ⟨rfl, rfl, by decide, by decide⟩ (rfl : kd 44 = (6, 0)) (by decide) rfl (Nat.le_of_ble_eq_true rfl) ⟨Nat.zero_le _, Nat.zero_le _⟩ rfl ?_
        refine V.iload 5 dM_heir_55 rfl rfl ?_
        refine V.icmple 71 dM_heir_57 rfl rfl (fun g12 => ?_) (fun g12 => ?_)
        · replace hX := ip hX g12
          refine V.iinc 6 (1 : Int32) _ dM_heir_71 rfl lc1 (by decide) rfl rfl ?_
          replace hX := nmx hX; generalize i5 + (1 : Int32) = v13 at hX ⊢; try dsimp only at hX
          refine V.goto 26 dM_heir_74 rfl ?_
          refine V.sub [2, 3, 4, 5, 6, 0] rfl ?_
          exact ih σ i1 i2 i3 i4 v13 hX
        · replace hX := im hX g12
          refine V.iload 6 dM_heir_60 rfl rfl ?_
          refine V.istoren _ dM_heir_62 (by decide) rfl rfl ?_
          refine V.aloadn 2 dM_heir_63 rfl rfl ?_
          refine V.iload 1 dM_heir_64 rfl rfl ?_
          obtain ⟨q14, c15, hX⟩ := bd hX; try dsimp only at hX
          refine V.callvi 44 [.int q6] dM_heir_66 (kM_worthOf c15) mlM_209 myM_worthOf mnM_worthOf ⟨rfl, rfl, by decide, by decide⟩ (rfl : kd 44 = (6, 0)) (by decide) rfl (Nat.le_of_ble_eq_true rfl) ⟨Nat.zero_le _, Nat.zero_le _⟩ rfl ?_
          refine V.istore _ dM_heir_69 (by decide) rfl rfl ?_
          refine V.iinc 6 (1 : Int32) _ dM_heir_71 rfl lc1 (by decide) rfl rfl ?_
          replace hX := nmx hX; generalize i5 + (1 : Int32) = v16 at hX ⊢; try dsimp only at hX
          refine V.goto 26 dM_heir_74 rfl ?_
          refine V.sub [4, 5, 6, 2, 1, 0] rfl ?_
          exact ih σ i1 i2 i5 q14 v16 hX
set_option maxRecDepth 4000 in
theorem wM_heir {E : Ev} {z : Int32} (σ : St) (i1 : Int32) (i2 : Int32) (hX : fM_heir σ i1 i2 = some z) : V E mM_heir (FM E (some (.int z), σ)) 0 [(0, .ref 44), (1, .int i1), (2, .int i2)] [] σ := by
  unfold fM_heir at hX
  refine V.aloadn 0 dM_heir_0 rfl rfl ?_
  refine V.iloadn 1 dM_heir_1 rfl rfl ?_
  refine V.callvi 44 [.int i1] dM_heir_2 (kM_isPerson (σ := σ) i1) mlM_203 myM_isPerson mnM_isPerson ⟨rfl, rfl, by decide, by decide⟩ (rfl : kd 44 = (6, 0)) (by decide) rfl (Nat.le_of_ble_eq_true rfl) ⟨Nat.zero_le _, Nat.zero_le _⟩ rfl ?_
  refine V.ifeq 15 dM_heir_5 rfl rfl (fun g1 => ?_) (fun g1 => ?_)
  · replace hX := ip hX g1
    refine V.iconst (-1 : Int32) dM_heir_15 lcm1 rfl ?_
    have hX := (Option.some.inj hX).symm; subst hX; exact V.iret dM_heir_16 rfl rfl
  · replace hX := im hX g1
    refine V.iloadn 2 dM_heir_8 rfl rfl ?_
    refine V.callsi [.int i2] dM_heir_9 (kM_isSide (σ := σ) i2) mlM_270 myM_isSide mnM_isSide ⟨rfl, rfl, by decide, by decide⟩ rfl (Nat.le_of_ble_eq_true rfl) ⟨Nat.zero_le _, Nat.zero_le _⟩ rfl ?_
    refine V.ifne 17 dM_heir_12 rfl rfl (fun g2 => ?_) (fun g2 => ?_)
    · replace hX := im hX g2
      refine V.bipush (-3 : Int32) dM_heir_17 lbm3 rfl ?_
      refine V.istoren _ dM_heir_19 (by decide) rfl rfl ?_
      refine V.iconst (-1 : Int32) dM_heir_20 lcm1 rfl ?_
      refine V.istore _ dM_heir_21 (by decide) rfl rfl ?_
      refine V.iconst (0 : Int32) dM_heir_23 lc0 rfl ?_
      refine V.istore _ dM_heir_24 (by decide) rfl rfl ?_
      refine V.sub [3, 4, 5, 2, 1, 0] rfl ?_
      exact wM_heir_26 300 σ i1 i2 (-3 : Int32) (-1 : Int32) (0 : Int32) hX
    · replace hX := ip hX g2
      refine V.iconst (-1 : Int32) dM_heir_15 lcm1 rfl ?_
      have hX := (Option.some.inj hX).symm; subst hX; exact V.iret dM_heir_16 rfl rfl
theorem kM_heir {E : Ev} {σ : St} {i1 : Int32} {i2 : Int32} {z : Int32} (h : fM_heir σ i1 i2 = some z) : Ct mM_heir E [.ref 44, .int i1, .int i2] σ (some (.int z), σ) := Ct.of (by decide) (Nat.le_of_ble_eq_true rfl) (wM_heir σ i1 i2 h)
theorem dM_least_0 : decode mM_least.1 0 = .ok (.bipush (-3), 2) := by decide +kernel
theorem dM_least_2 : decode mM_least.1 2 = .ok (.istore_n 1, 1) := by decide +kernel
theorem dM_least_3 : decode mM_least.1 3 = .ok (.iconst 0, 1) := by decide +kernel
theorem dM_least_4 : decode mM_least.1 4 = .ok (.istore_n 2, 1) := by decide +kernel
theorem dM_least_5 : decode mM_least.1 5 = .ok (.iconst 0, 1) := by decide +kernel
theorem dM_least_6 : decode mM_least.1 6 = .ok (.istore_n 3, 1) := by decide +kernel
theorem dM_least_7 : decode mM_least.1 7 = .ok (.iload_n 3, 1) := by decide +kernel
theorem dM_least_8 : decode mM_least.1 8 = .ok (.aload_n 0, 1) := by decide +kernel
theorem dM_least_9 : decode mM_least.1 9 = .ok (.getfield 88, 3) := by decide +kernel
theorem dM_least_12 : decode mM_least.1 12 = .ok (.if_icmp .ge 31, 3) := by decide +kernel
theorem dM_least_15 : decode mM_least.1 15 = .ok (.aload_n 0, 1) := by decide +kernel
theorem dM_least_16 : decode mM_least.1 16 = .ok (.iload_n 3, 1) := by decide +kernel
theorem dM_least_17 : decode mM_least.1 17 = .ok (.invokevirtual 258, 3) := by decide +kernel
theorem dM_least_20 : decode mM_least.1 20 = .ok (.istore 4, 2) := by decide +kernel
theorem dM_least_22 : decode mM_least.1 22 = .ok (.iload_n 1, 1) := by decide +kernel
theorem dM_least_23 : decode mM_least.1 23 = .ok (.ifCond .lt 9, 3) := by decide +kernel
theorem dM_least_26 : decode mM_least.1 26 = .ok (.iload 4, 2) := by decide +kernel
theorem dM_least_28 : decode mM_least.1 28 = .ok (.iload_n 2, 1) := by decide +kernel
theorem dM_least_29 : decode mM_least.1 29 = .ok (.if_icmp .ge 8, 3) := by decide +kernel
theorem dM_least_32 : decode mM_least.1 32 = .ok (.iload_n 3, 1) := by decide +kernel
theorem dM_least_33 : decode mM_least.1 33 = .ok (.istore_n 1, 1) := by decide +kernel
theorem dM_least_34 : decode mM_least.1 34 = .ok (.iload 4, 2) := by decide +kernel
theorem dM_least_36 : decode mM_least.1 36 = .ok (.istore_n 2, 1) := by decide +kernel
theorem dM_least_37 : decode mM_least.1 37 = .ok (.iinc 3 1, 3) := by decide +kernel
theorem dM_least_40 : decode mM_least.1 40 = .ok (.goto (-33), 3) := by decide +kernel
theorem dM_least_43 : decode mM_least.1 43 = .ok (.iload_n 1, 1) := by decide +kernel
theorem dM_least_44 : decode mM_least.1 44 = .ok (.ireturn, 1) := by decide +kernel
set_option maxRecDepth 4000 in
theorem wM_least_7 {E : Ev} {z : Int32 × St} : ∀ (fu : Nat) (σ : St) (i1 : Int32) (i2 : Int32) (i3 : Int32), fM_least_7 fu σ i1 i2 i3 = some z → V E mM_least (FM E (some (.int z.1), z.2)) 7 [(0, .ref 44), (1, .int i1), (2, .int i2), (3, .int i3)] [] σ := by
  intro fu
  induction fu with
  | zero => intro σ i1 i2 i3 hX; cases hX
  | succ fu ih =>
    intro σ i1 i2 i3 hX
    rw [fM_least_7] at hX
    refine V.iloadn 3 dM_least_7 rfl rfl ?_
    refine V.aloadn 0 dM_least_8 rfl rfl ?_
    refine V.geti 44 dM_least_9 flM_88 (rfl : kd 44 = (6, 0)) rfl ?_
    refine V.icmpge 43 dM_least_12 rfl rfl (fun g1 => ?_) (fun g1 => ?_)
    · replace hX := ip hX g1
      refine V.iloadn 1 dM_least_43 rfl rfl ?_
      have hX := (Option.some.inj hX).symm; subst hX; exact V.iret dM_least_44 rfl rfl
    · replace hX := im hX g1
      refine V.aloadn 0 dM_least_15 rfl rfl ?_
      refine V.iloadn 3 dM_least_16 rfl rfl ?_
      obtain ⟨q3, σ3, c2, hX⟩ := bi2 hX; try dsimp only at hX
      refine V.callvi 44 [.int i3] dM_least_17 (kM_leftOf c2) mlM_258 myM_leftOf mnM_leftOf ⟨rfl, rfl, by decide, by decide⟩ (rfl : kd 44 = (6, 0)) (by decide) rfl (Nat.le_of_ble_eq_true rfl) ⟨Nat.zero_le _, Nat.zero_le _⟩ rfl ?_
      refine V.istore _ dM_least_20 (by decide) rfl rfl ?_
      refine V.iloadn 2 dM_least_22 rfl rfl ?_
      refine V.iflt 32 dM_least_23 rfl rfl (fun g4 => ?_) (fun g4 => ?_)
      · replace hX := ip hX g4
        refine V.iloadn 4 dM_least_32 rfl rfl ?_
        refine V.istoren _ dM_least_33 (by decide) rfl rfl ?_
        refine V.iload 1 dM_least_34 rfl rfl ?_
        refine V.istoren _ dM_least_36 (by decide) rfl rfl ?_
        refine V.iinc 4 (1 : Int32) _ dM_least_37 rfl lc1 (by decide) rfl rfl ?_
        replace hX := nmx hX; generalize i3 + (1 : Int32) = v5 at hX ⊢; try dsimp only at hX
        refine V.goto 7 dM_least_40 rfl ?_
        refine V.sub [4, 2, 1, 0] rfl ?_
        exact ih σ3 i3 q3 v5 hX
      · replace hX := im hX g4
        refine V.iload 0 dM_least_26 rfl rfl ?_
        refine V.iloadn 3 dM_least_28 rfl rfl ?_
        refine V.icmpge 37 dM_least_29 rfl rfl (fun g6 => ?_) (fun g6 => ?_)
        · replace hX := ip hX g6
          refine V.iinc 4 (1 : Int32) _ dM_least_37 rfl lc1 (by decide) rfl rfl ?_
          replace hX := nmx hX; generalize i3 + (1 : Int32) = v7 at hX ⊢; try dsimp only at hX
          refine V.goto 7 dM_least_40 rfl ?_
          refine V.sub [2, 3, 4, 0] rfl ?_
          exact ih σ3 i1 i2 v7 hX
        · replace hX := im hX g6
          refine V.iloadn 4 dM_least_32 rfl rfl ?_
          refine V.istoren _ dM_least_33 (by decide) rfl rfl ?_
          refine V.iload 1 dM_least_34 rfl rfl ?_
          refine V.istoren _ dM_least_36 (by decide) rfl rfl ?_
          refine V.iinc 4 (1 : Int32) _ dM_least_37 rfl lc1 (by decide) rfl rfl ?_
          replace hX := nmx hX; generalize i3 + (1 : Int32) = v8 at hX ⊢; try dsimp only at hX
          refine V.goto 7 dM_least_40 rfl ?_
          refine V.sub [4, 2, 1, 0] rfl ?_
          exact ih σ3 i3 q3 v8 hX
set_option maxRecDepth 4000 in
theorem wM_least {E : Ev} {z : Int32 × St} (σ : St) (hX : fM_least σ = some z) : V E mM_least (FM E (some (.int z.1), z.2)) 0 [(0, .ref 44)] [] σ := by
  unfold fM_least at hX
  refine V.bipush (-3 : Int32) dM_least_0 lbm3 rfl ?_
  refine V.istoren _ dM_least_2 (by decide) rfl rfl ?_
  refine V.iconst (0 : Int32) dM_least_3 lc0 rfl ?_
  refine V.istoren _ dM_least_4 (by decide) rfl rfl ?_
  refine V.iconst (0 : Int32) dM_least_5 lc0 rfl ?_
  refine V.istoren _ dM_least_6 (by decide) rfl rfl ?_
  refine V.sub [3, 2, 1, 0] rfl ?_
  exact wM_least_7 300 σ (-3 : Int32) (0 : Int32) (0 : Int32) hX
theorem kM_least {E : Ev} {σ σ2 : St} {z : Int32} (h : fM_least σ = some (z, σ2)) : Ct mM_least E [.ref 44] σ (some (.int z), σ2) := Ct.of (by decide) (Nat.le_of_ble_eq_true rfl) (wM_least σ h)
theorem dM_all_0 : decode mM_all.1 0 = .ok (.iconst 0, 1) := by decide +kernel
theorem dM_all_1 : decode mM_all.1 1 = .ok (.istore_n 2, 1) := by decide +kernel
theorem dM_all_2 : decode mM_all.1 2 = .ok (.iload_n 1, 1) := by decide +kernel
theorem dM_all_3 : decode mM_all.1 3 = .ok (.tableswitch 127 0 3 #[29, 42, 69, 101], 29) := by decide +kernel
theorem dM_all_32 : decode mM_all.1 32 = .ok (.aload_n 0, 1) := by decide +kernel
theorem dM_all_33 : decode mM_all.1 33 = .ok (.iconst 1, 1) := by decide +kernel
theorem dM_all_34 : decode mM_all.1 34 = .ok (.aload_n 0, 1) := by decide +kernel
theorem dM_all_35 : decode mM_all.1 35 = .ok (.getfield 88, 3) := by decide +kernel
theorem dM_all_38 : decode mM_all.1 38 = .ok (.ishl, 1) := by decide +kernel
theorem dM_all_39 : decode mM_all.1 39 = .ok (.iconst 1, 1) := by decide +kernel
theorem dM_all_40 : decode mM_all.1 40 = .ok (.isub, 1) := by decide +kernel
theorem dM_all_41 : decode mM_all.1 41 = .ok (.invokevirtual 209, 3) := by decide +kernel
theorem dM_all_44 : decode mM_all.1 44 = .ok (.ireturn, 1) := by decide +kernel
theorem dM_all_45 : decode mM_all.1 45 = .ok (.iconst 0, 1) := by decide +kernel
theorem dM_all_46 : decode mM_all.1 46 = .ok (.istore_n 3, 1) := by decide +kernel
theorem dM_all_47 : decode mM_all.1 47 = .ok (.iload_n 3, 1) := by decide +kernel
theorem dM_all_48 : decode mM_all.1 48 = .ok (.aload_n 0, 1) := by decide +kernel
theorem dM_all_49 : decode mM_all.1 49 = .ok (.getfield 81, 3) := by decide +kernel
theorem dM_all_52 : decode mM_all.1 52 = .ok (.if_icmp .ge 18, 3) := by decide +kernel
theorem dM_all_55 : decode mM_all.1 55 = .ok (.iload_n 2, 1) := by decide +kernel
theorem dM_all_56 : decode mM_all.1 56 = .ok (.aload_n 0, 1) := by decide +kernel
theorem dM_all_57 : decode mM_all.1 57 = .ok (.getfield 13, 3) := by decide +kernel
theorem dM_all_60 : decode mM_all.1 60 = .ok (.iload_n 3, 1) := by decide +kernel
theorem dM_all_61 : decode mM_all.1 61 = .ok (.iaload, 1) := by decide +kernel
theorem dM_all_62 : decode mM_all.1 62 = .ok (.iadd, 1) := by decide +kernel
theorem dM_all_63 : decode mM_all.1 63 = .ok (.istore_n 2, 1) := by decide +kernel
theorem dM_all_64 : decode mM_all.1 64 = .ok (.iinc 3 1, 3) := by decide +kernel
theorem dM_all_67 : decode mM_all.1 67 = .ok (.goto (-20), 3) := by decide +kernel
theorem dM_all_70 : decode mM_all.1 70 = .ok (.iload_n 2, 1) := by decide +kernel
theorem dM_all_71 : decode mM_all.1 71 = .ok (.ireturn, 1) := by decide +kernel
theorem dM_all_72 : decode mM_all.1 72 = .ok (.iconst 0, 1) := by decide +kernel
theorem dM_all_73 : decode mM_all.1 73 = .ok (.istore_n 3, 1) := by decide +kernel
theorem dM_all_74 : decode mM_all.1 74 = .ok (.iload_n 3, 1) := by decide +kernel
theorem dM_all_75 : decode mM_all.1 75 = .ok (.aload_n 0, 1) := by decide +kernel
theorem dM_all_76 : decode mM_all.1 76 = .ok (.getfield 81, 3) := by decide +kernel
theorem dM_all_79 : decode mM_all.1 79 = .ok (.if_icmp .ge 21, 3) := by decide +kernel
theorem dM_all_82 : decode mM_all.1 82 = .ok (.iload_n 2, 1) := by decide +kernel
theorem dM_all_83 : decode mM_all.1 83 = .ok (.aload_n 0, 1) := by decide +kernel
theorem dM_all_84 : decode mM_all.1 84 = .ok (.getfield 16, 3) := by decide +kernel
theorem dM_all_87 : decode mM_all.1 87 = .ok (.iload_n 3, 1) := by decide +kernel
theorem dM_all_88 : decode mM_all.1 88 = .ok (.iaload, 1) := by decide +kernel
theorem dM_all_89 : decode mM_all.1 89 = .ok (.invokestatic 229, 3) := by decide +kernel
theorem dM_all_92 : decode mM_all.1 92 = .ok (.iadd, 1) := by decide +kernel
theorem dM_all_93 : decode mM_all.1 93 = .ok (.istore_n 2, 1) := by decide +kernel
theorem dM_all_94 : decode mM_all.1 94 = .ok (.iinc 3 1, 3) := by decide +kernel
theorem dM_all_97 : decode mM_all.1 97 = .ok (.goto (-23), 3) := by decide +kernel
theorem dM_all_100 : decode mM_all.1 100 = .ok (.iload_n 2, 1) := by decide +kernel
theorem dM_all_101 : decode mM_all.1 101 = .ok (.iconst 2, 1) := by decide +kernel
theorem dM_all_102 : decode mM_all.1 102 = .ok (.idiv, 1) := by decide +kernel
theorem dM_all_103 : decode mM_all.1 103 = .ok (.ireturn, 1) := by decide +kernel
theorem dM_all_104 : decode mM_all.1 104 = .ok (.iconst 0, 1) := by decide +kernel
theorem dM_all_105 : decode mM_all.1 105 = .ok (.istore_n 3, 1) := by decide +kernel
theorem dM_all_106 : decode mM_all.1 106 = .ok (.iload_n 3, 1) := by decide +kernel
theorem dM_all_107 : decode mM_all.1 107 = .ok (.aload_n 0, 1) := by decide +kernel
theorem dM_all_108 : decode mM_all.1 108 = .ok (.getfield 88, 3) := by decide +kernel
theorem dM_all_111 : decode mM_all.1 111 = .ok (.if_icmp .ge 17, 3) := by decide +kernel
theorem dM_all_114 : decode mM_all.1 114 = .ok (.iload_n 2, 1) := by decide +kernel
theorem dM_all_115 : decode mM_all.1 115 = .ok (.aload_n 0, 1) := by decide +kernel
theorem dM_all_116 : decode mM_all.1 116 = .ok (.iload_n 3, 1) := by decide +kernel
theorem dM_all_117 : decode mM_all.1 117 = .ok (.invokevirtual 258, 3) := by decide +kernel
theorem dM_all_120 : decode mM_all.1 120 = .ok (.iadd, 1) := by decide +kernel
theorem dM_all_121 : decode mM_all.1 121 = .ok (.istore_n 2, 1) := by decide +kernel
theorem dM_all_122 : decode mM_all.1 122 = .ok (.iinc 3 1, 3) := by decide +kernel
theorem dM_all_125 : decode mM_all.1 125 = .ok (.goto (-19), 3) := by decide +kernel
theorem dM_all_128 : decode mM_all.1 128 = .ok (.iload_n 2, 1) := by decide +kernel
theorem dM_all_129 : decode mM_all.1 129 = .ok (.ireturn, 1) := by decide +kernel
theorem dM_all_130 : decode mM_all.1 130 = .ok (.iconst (-1), 1) := by decide +kernel
theorem dM_all_131 : decode mM_all.1 131 = .ok (.ireturn, 1) := by decide +kernel
set_option maxRecDepth 4000 in
theorem wM_all_47 {E : Ev} {z : Int32 × St} : ∀ (fu : Nat) (σ : St) (i2 : Int32) (i3 : Int32), fM_all_47 fu σ i2 i3 = some z → V E mM_all (FM E (some (.int z.1), z.2)) 47 [(0, .ref 44), (2, .int i2), (3, .int i3)] [] σ := by
  intro fu
  induction fu with
  | zero => intro σ i2 i3 hX; cases hX
  | succ fu ih =>
    intro σ i2 i3 hX
    rw [fM_all_47] at hX
    refine V.iloadn 2 dM_all_47 rfl rfl ?_
    refine V.aloadn 0 dM_all_48 rfl rfl ?_
    refine V.geti 44 dM_all_49 flM_81 (rfl : kd 44 = (6, 0)) rfl ?_
    refine V.icmpge 70 dM_all_52 rfl rfl (fun g5 => ?_) (fun g5 => ?_)
    · replace hX := ip hX g5
      refine V.iloadn 1 dM_all_70 rfl rfl ?_
      have hX := (Option.some.inj hX).symm; subst hX; exact V.iret dM_all_71 rfl rfl
    · replace hX := im hX g5
      refine V.iloadn 1 dM_all_55 rfl rfl ?_
      refine V.aloadn 0 dM_all_56 rfl rfl ?_
      refine V.getr 44 46 dM_all_57 flM_13 (rfl : kd 44 = (6, 0)) rfl rfl ?_
      refine V.iloadn 2 dM_all_60 rfl rfl ?_
      obtain ⟨h6, hX⟩ := ob hX
      refine V.iald 46 dM_all_61 (rfl : kd 46 = (7, 7)) h6 rfl ?_
      refine V.iadd dM_all_62 rfl ?_
      refine V.istoren _ dM_all_63 (by decide) rfl rfl ?_
      replace hX := nmx hX; generalize i2 + (gI σ 46 (ix i3)) = v7 at hX ⊢; try dsimp only at hX
      refine V.iinc 2 (1 : Int32) _ dM_all_64 rfl lc1 (by decide) rfl rfl ?_
      replace hX := nmx hX; generalize i3 + (1 : Int32) = v8 at hX ⊢; try dsimp only at hX
      refine V.goto 47 dM_all_67 rfl ?_
      refine V.sub [2, 1, 0] rfl ?_
      exact ih σ v7 v8 hX
set_option maxRecDepth 4000 in
theorem wM_all_74 {E : Ev} {z : Int32 × St} : ∀ (fu : Nat) (σ : St) (i2 : Int32) (i3 : Int32), fM_all_74 fu σ i2 i3 = some z → V E mM_all (FM E (some (.int z.1), z.2)) 74 [(0, .ref 44), (2, .int i2), (3, .int i3)] [] σ := by
  intro fu
  induction fu with
  | zero => intro σ i2 i3 hX; cases hX
  | succ fu ih =>
    intro σ i2 i3 hX
    rw [fM_all_74] at hX
    refine V.iloadn 2 dM_all_74 rfl rfl ?_
    refine V.aloadn 0 dM_all_75 rfl rfl ?_
    refine V.geti 44 dM_all_76 flM_81 (rfl : kd 44 = (6, 0)) rfl ?_
    refine V.icmpge 100 dM_all_79 rfl rfl (fun g10 => ?_) (fun g10 => ?_)
    · replace hX := ip hX g10
      refine V.iloadn 1 dM_all_100 rfl rfl ?_
      refine V.iconst (2 : Int32) dM_all_101 lc2 rfl ?_
      refine V.idiv dM_all_102 (by decide) rfl ?_
      have hX := (Option.some.inj hX).symm; subst hX; exact V.iret dM_all_103 rfl rfl
    · replace hX := im hX g10
      refine V.iloadn 1 dM_all_82 rfl rfl ?_
      refine V.aloadn 0 dM_all_83 rfl rfl ?_
      refine V.getr 44 47 dM_all_84 flM_16 (rfl : kd 44 = (6, 0)) rfl rfl ?_
      refine V.iloadn 2 dM_all_87 rfl rfl ?_
      obtain ⟨h11, hX⟩ := ob hX
      refine V.iald 47 dM_all_88 (rfl : kd 47 = (7, 7)) h11 rfl ?_
      obtain ⟨q12, c13, hX⟩ := bd hX; try dsimp only at hX
      refine V.callsi [.int (gI σ 47 (ix i3))] dM_all_89 (kM_ones c13) mlM_229 myM_ones mnM_ones ⟨rfl, rfl, by decide, by decide⟩ rfl (Nat.le_of_ble_eq_true rfl) ⟨Nat.zero_le _, Nat.zero_le _⟩ rfl ?_
      refine V.iadd dM_all_92 rfl ?_
      refine V.istoren _ dM_all_93 (by decide) rfl rfl ?_
      replace hX := nmx hX; generalize i2 + q12 = v14 at hX ⊢; try dsimp only at hX
      refine V.iinc 2 (1 : Int32) _ dM_all_94 rfl lc1 (by decide) rfl rfl ?_
      replace hX := nmx hX; generalize i3 + (1 : Int32) = v15 at hX ⊢; try dsimp only at hX
      refine V.goto 74 dM_all_97 rfl ?_
      refine V.sub [2, 1, 0] rfl ?_
      exact ih σ v14 v15 hX
set_option maxRecDepth 4000 in
theorem wM_all_106 {E : Ev} {z : Int32 × St} : ∀ (fu : Nat) (σ : St) (i2 : Int32) (i3 : Int32), fM_all_106 fu σ i2 i3 = some z → V E mM_all (FM E (some (.int z.1), z.2)) 106 [(0, .ref 44), (2, .int i2), (3, .int i3)] [] σ := by
  intro fu
  induction fu with
  | zero => intro σ i2 i3 hX; cases hX
  | succ fu ih =>
    intro σ i2 i3 hX
    rw [fM_all_106] at hX
    refine V.iloadn 2 dM_all_106 rfl rfl ?_
    refine V.aloadn 0 dM_all_107 rfl rfl ?_
    refine V.geti 44 dM_all_108 flM_88 (rfl : kd 44 = (6, 0)) rfl ?_
    refine V.icmpge 128 dM_all_111 rfl rfl (fun g17 => ?_) (fun g17 => ?_)
    · replace hX := ip hX g17
      refine V.iloadn 1 dM_all_128 rfl rfl ?_
      have hX := (Option.some.inj hX).symm; subst hX; exact V.iret dM_all_129 rfl rfl
    · replace hX := im hX g17
      refine V.iloadn 1 dM_all_114 rfl rfl ?_
      refine V.aloadn 0 dM_all_115 rfl rfl ?_
      refine V.iloadn 2 dM_all_116 rfl rfl ?_
      obtain ⟨q19, σ19, c18, hX⟩ := bi2 hX; try dsimp only at hX
      refine V.callvi 44 [.int i3] dM_all_117 (kM_leftOf c18) mlM_258 myM_leftOf mnM_leftOf ⟨rfl, rfl, by decide, by decide⟩ (rfl : kd 44 = (6, 0)) (by decide) rfl (Nat.le_of_ble_eq_true rfl) ⟨Nat.zero_le _, Nat.zero_le _⟩ rfl ?_
      refine V.iadd dM_all_120 rfl ?_
      refine V.istoren _ dM_all_121 (by decide) rfl rfl ?_
      replace hX := nmx hX; generalize i2 + q19 = v20 at hX ⊢; try dsimp only at hX
      refine V.iinc 2 (1 : Int32) _ dM_all_122 rfl lc1 (by decide) rfl rfl ?_
      replace hX := nmx hX; generalize i3 + (1 : Int32) = v21 at hX ⊢; try dsimp only at hX
      refine V.goto 106 dM_all_125 rfl ?_
      refine V.sub [2, 1, 0] rfl ?_
      exact ih σ19 v20 v21 hX
set_option maxRecDepth 4000 in
theorem wM_all {E : Ev} {z : Int32 × St} (σ : St) (i1 : Int32) (hX : fM_all σ i1 = some z) : V E mM_all (FM E (some (.int z.1), z.2)) 0 [(0, .ref 44), (1, .int i1)] [] σ := by
  unfold fM_all at hX
  refine V.iconst (0 : Int32) dM_all_0 lc0 rfl ?_
  refine V.istoren _ dM_all_1 (by decide) rfl rfl ?_
  refine V.iloadn 2 dM_all_2 rfl rfl ?_
  by_cases g1 : i1 = (0 : Int32)
  · replace hX := ip hX g1
    refine V.tabIn (off := 29) 32 dM_all_3 (by rw [g1]; decide) (by rw [g1]; decide) (by rw [g1]; rfl) rfl ?_
    refine V.aloadn 1 dM_all_32 rfl rfl ?_
    refine V.iconst (1 : Int32) dM_all_33 lc1 rfl ?_
    refine V.aloadn 1 dM_all_34 rfl rfl ?_
    refine V.geti 44 dM_all_35 flM_88 (rfl : kd 44 = (6, 0)) rfl ?_
    refine V.ishl dM_all_38 rfl ?_
    refine V.iconst (1 : Int32) dM_all_39 lc1 rfl ?_
    refine V.isub dM_all_40 rfl ?_
    obtain ⟨q2, c3, hX⟩ := bd hX; try dsimp only at hX
    refine V.callvi 44 [.int (((1 : Int32) <<< ((gI σ 44 4) &&& 31)) - (1 : Int32))] dM_all_41 (kM_worthOf c3) mlM_209 myM_worthOf mnM_worthOf ⟨rfl, rfl, by decide, by decide⟩ (rfl : kd 44 = (6, 0)) (by decide) rfl (Nat.le_of_ble_eq_true rfl) ⟨Nat.zero_le _, Nat.zero_le _⟩ rfl ?_
    have hX := (Option.some.inj hX).symm; subst hX; exact V.iret dM_all_44 rfl rfl
  · replace hX := im hX g1
    by_cases g4 : i1 = (1 : Int32)
    · replace hX := ip hX g4
      refine V.tabIn (off := 42) 45 dM_all_3 (by rw [g4]; decide) (by rw [g4]; decide) (by rw [g4]; rfl) rfl ?_
      refine V.iconst (0 : Int32) dM_all_45 lc0 rfl ?_
      refine V.istoren _ dM_all_46 (by decide) rfl rfl ?_
      refine V.sub [2, 1, 0] rfl ?_
      exact wM_all_47 300 σ (0 : Int32) (0 : Int32) hX
    · replace hX := im hX g4
      by_cases g9 : i1 = (2 : Int32)
      · replace hX := ip hX g9
        refine V.tabIn (off := 69) 72 dM_all_3 (by rw [g9]; decide) (by rw [g9]; decide) (by rw [g9]; rfl) rfl ?_
        refine V.iconst (0 : Int32) dM_all_72 lc0 rfl ?_
        refine V.istoren _ dM_all_73 (by decide) rfl rfl ?_
        refine V.sub [2, 1, 0] rfl ?_
        exact wM_all_74 300 σ (0 : Int32) (0 : Int32) hX
      · replace hX := im hX g9
        by_cases g16 : i1 = (3 : Int32)
        · replace hX := ip hX g16
          refine V.tabIn (off := 101) 104 dM_all_3 (by rw [g16]; decide) (by rw [g16]; decide) (by rw [g16]; rfl) rfl ?_
          refine V.iconst (0 : Int32) dM_all_104 lc0 rfl ?_
          refine V.istoren _ dM_all_105 (by decide) rfl rfl ?_
          refine V.sub [2, 1, 0] rfl ?_
          exact wM_all_106 300 σ (0 : Int32) (0 : Int32) hX
        · replace hX := im hX g16
          refine V.tabOut 130 dM_all_3 (by have a0 := lv_neT g1 (a := 0) (by decide); have a1 := lv_neT g4 (a := 1) (by decide); have a2 := lv_neT g9 (a := 2) (by decide); have a3 := lv_neT g16 (a := 3) (by decide); omega) rfl ?_
          refine V.iconst (-1 : Int32) dM_all_130 lcm1 rfl ?_
          have hX := (Option.some.inj hX).symm; subst hX; exact V.iret dM_all_131 rfl rfl
theorem kM_all {E : Ev} {σ σ2 : St} {i1 : Int32} {z : Int32} (h : fM_all σ i1 = some (z, σ2)) : Ct mM_all E [.ref 44, .int i1] σ (some (.int z), σ2) := Ct.of (by decide) (Nat.le_of_ble_eq_true rfl) (wM_all σ i1 h)
theorem dM_seed_0 : decode mM_seed.1 0 = .ok (.aload_n 0, 1) := by decide +kernel
theorem dM_seed_1 : decode mM_seed.1 1 = .ok (.getfield 22, 3) := by decide +kernel
theorem dM_seed_4 : decode mM_seed.1 4 = .ok (.istore_n 2, 1) := by decide +kernel
theorem dM_seed_5 : decode mM_seed.1 5 = .ok (.aload_n 0, 1) := by decide +kernel
theorem dM_seed_6 : decode mM_seed.1 6 = .ok (.iload_n 1, 1) := by decide +kernel
theorem dM_seed_7 : decode mM_seed.1 7 = .ok (.putfield 22, 3) := by decide +kernel
theorem dM_seed_10 : decode mM_seed.1 10 = .ok (.iload_n 2, 1) := by decide +kernel
theorem dM_seed_11 : decode mM_seed.1 11 = .ok (.ireturn, 1) := by decide +kernel
set_option maxRecDepth 4000 in
theorem wM_seed {E : Ev} {z : Int32 × St} (σ : St) (i1 : Int32) (hX : fM_seed σ i1 = some z) : V E mM_seed (FM E (some (.int z.1), z.2)) 0 [(0, .ref 44), (1, .int i1)] [] σ := by
  unfold fM_seed at hX
  refine V.aloadn 0 dM_seed_0 rfl rfl ?_
  refine V.geti 44 dM_seed_1 flM_22 (rfl : kd 44 = (6, 0)) rfl ?_
  refine V.istoren _ dM_seed_4 (by decide) rfl rfl ?_
  replace hX := nmx hX; generalize gI σ 44 6 = v1 at hX ⊢; try dsimp only at hX
  refine V.aloadn 1 dM_seed_5 rfl rfl ?_
  refine V.iloadn 2 dM_seed_6 rfl rfl ?_
  refine V.puti 44 .int dM_seed_7 flM_22 fw6_6 (rfl : kd 44 = (6, 0)) ⟨rfl, rfl⟩ rfl ?_
  replace hX := nmx hX; generalize sI σ 44 6 i1 = σ2 at hX ⊢; try dsimp only at hX
  refine V.iloadn 0 dM_seed_10 rfl rfl ?_
  have hX := (Option.some.inj hX).symm; subst hX; exact V.iret dM_seed_11 rfl rfl
theorem kM_seed {E : Ev} {σ σ2 : St} {i1 : Int32} {z : Int32} (h : fM_seed σ i1 = some (z, σ2)) : Ct mM_seed E [.ref 44, .int i1] σ (some (.int z), σ2) := Ct.of (by decide) (Nat.le_of_ble_eq_true rfl) (wM_seed σ i1 h)
theorem dM_prove_0 : decode mM_prove.1 0 = .ok (.aload_n 0, 1) := by decide +kernel
theorem dM_prove_1 : decode mM_prove.1 1 = .ok (.iload_n 1, 1) := by decide +kernel
theorem dM_prove_2 : decode mM_prove.1 2 = .ok (.invokevirtual 223, 3) := by decide +kernel
theorem dM_prove_5 : decode mM_prove.1 5 = .ok (.ifCond .ne 5, 3) := by decide +kernel
theorem dM_prove_8 : decode mM_prove.1 8 = .ok (.iconst (-1), 1) := by decide +kernel
theorem dM_prove_9 : decode mM_prove.1 9 = .ok (.ireturn, 1) := by decide +kernel
theorem dM_prove_10 : decode mM_prove.1 10 = .ok (.aload_n 0, 1) := by decide +kernel
theorem dM_prove_11 : decode mM_prove.1 11 = .ok (.iload_n 1, 1) := by decide +kernel
theorem dM_prove_12 : decode mM_prove.1 12 = .ok (.invokevirtual 264, 3) := by decide +kernel
theorem dM_prove_15 : decode mM_prove.1 15 = .ok (.aload_n 0, 1) := by decide +kernel
theorem dM_prove_16 : decode mM_prove.1 16 = .ok (.aload_n 0, 1) := by decide +kernel
theorem dM_prove_17 : decode mM_prove.1 17 = .ok (.getfield 261, 3) := by decide +kernel
theorem dM_prove_20 : decode mM_prove.1 20 = .ok (.putfield 190, 3) := by decide +kernel
theorem dM_prove_23 : decode mM_prove.1 23 = .ok (.iconst 0, 1) := by decide +kernel
theorem dM_prove_24 : decode mM_prove.1 24 = .ok (.istore_n 2, 1) := by decide +kernel
theorem dM_prove_25 : decode mM_prove.1 25 = .ok (.iload_n 2, 1) := by decide +kernel
theorem dM_prove_26 : decode mM_prove.1 26 = .ok (.iconst 3, 1) := by decide +kernel
theorem dM_prove_27 : decode mM_prove.1 27 = .ok (.aload_n 0, 1) := by decide +kernel
theorem dM_prove_28 : decode mM_prove.1 28 = .ok (.getfield 190, 3) := by decide +kernel
theorem dM_prove_31 : decode mM_prove.1 31 = .ok (.imul, 1) := by decide +kernel
theorem dM_prove_32 : decode mM_prove.1 32 = .ok (.if_icmp .ge 21, 3) := by decide +kernel
theorem dM_prove_35 : decode mM_prove.1 35 = .ok (.aload_n 0, 1) := by decide +kernel
theorem dM_prove_36 : decode mM_prove.1 36 = .ok (.getfield 50, 3) := by decide +kernel
theorem dM_prove_39 : decode mM_prove.1 39 = .ok (.iload_n 2, 1) := by decide +kernel
theorem dM_prove_40 : decode mM_prove.1 40 = .ok (.aload_n 0, 1) := by decide +kernel
theorem dM_prove_41 : decode mM_prove.1 41 = .ok (.getfield 47, 3) := by decide +kernel
theorem dM_prove_44 : decode mM_prove.1 44 = .ok (.iload_n 2, 1) := by decide +kernel
theorem dM_prove_45 : decode mM_prove.1 45 = .ok (.iaload, 1) := by decide +kernel
theorem dM_prove_46 : decode mM_prove.1 46 = .ok (.iastore, 1) := by decide +kernel
theorem dM_prove_47 : decode mM_prove.1 47 = .ok (.iinc 2 1, 3) := by decide +kernel
theorem dM_prove_50 : decode mM_prove.1 50 = .ok (.goto (-25), 3) := by decide +kernel
theorem dM_prove_53 : decode mM_prove.1 53 = .ok (.aload_n 0, 1) := by decide +kernel
theorem dM_prove_54 : decode mM_prove.1 54 = .ok (.getfield 190, 3) := by decide +kernel
theorem dM_prove_57 : decode mM_prove.1 57 = .ok (.ireturn, 1) := by decide +kernel
set_option maxRecDepth 4000 in
theorem wM_prove_25 {E : Ev} {z : Int32 × St} : ∀ (fu : Nat) (σ : St) (i2 : Int32), fM_prove_25 fu σ i2 = some z → V E mM_prove (FM E (some (.int z.1), z.2)) 25 [(0, .ref 44), (2, .int i2)] [] σ := by
  intro fu
  induction fu with
  | zero => intro σ i2 hX; cases hX
  | succ fu ih =>
    intro σ i2 hX
    rw [fM_prove_25] at hX
    refine V.iloadn 1 dM_prove_25 rfl rfl ?_
    refine V.iconst (3 : Int32) dM_prove_26 lc3 rfl ?_
    refine V.aloadn 0 dM_prove_27 rfl rfl ?_
    refine V.geti 44 dM_prove_28 flM_190 (rfl : kd 44 = (6, 0)) rfl ?_
    refine V.imul dM_prove_31 rfl ?_
    refine V.icmpge 53 dM_prove_32 rfl rfl (fun g5 => ?_) (fun g5 => ?_)
    · replace hX := ip hX g5
      refine V.aloadn 0 dM_prove_53 rfl rfl ?_
      refine V.geti 44 dM_prove_54 flM_190 (rfl : kd 44 = (6, 0)) rfl ?_
      have hX := (Option.some.inj hX).symm; subst hX; exact V.iret dM_prove_57 rfl rfl
    · replace hX := im hX g5
      refine V.aloadn 0 dM_prove_35 rfl rfl ?_
      refine V.getr 44 57 dM_prove_36 flM_50 (rfl : kd 44 = (6, 0)) rfl rfl ?_
      refine V.iloadn 1 dM_prove_39 rfl rfl ?_
      refine V.aloadn 0 dM_prove_40 rfl rfl ?_
      refine V.getr 44 56 dM_prove_41 flM_47 (rfl : kd 44 = (6, 0)) rfl rfl ?_
      refine V.iloadn 1 dM_prove_44 rfl rfl ?_
      obtain ⟨h6, hX⟩ := ob hX
      refine V.iald 56 dM_prove_45 (rfl : kd 56 = (7, 21)) h6 rfl ?_
      obtain ⟨h7, hX⟩ := ob hX
      refine V.iast 57 dM_prove_46 (rfl : kd 57 = (7, 21)) h7 rfl ?_
      replace hX := nmx hX; generalize sI σ 57 (ix i2) (gI σ 56 (ix i2)) = σ8 at hX ⊢; try dsimp only at hX
      refine V.iinc 1 (1 : Int32) _ dM_prove_47 rfl lc1 (by decide) rfl rfl ?_
      replace hX := nmx hX; generalize i2 + (1 : Int32) = v9 at hX ⊢; try dsimp only at hX
      refine V.goto 25 dM_prove_50 rfl ?_
      refine V.sub [1, 0] rfl ?_
      exact ih σ8 v9 hX
set_option maxRecDepth 4000 in
theorem wM_prove {E : Ev} {z : Int32 × St} (σ : St) (i1 : Int32) (hX : fM_prove σ i1 = some z) : V E mM_prove (FM E (some (.int z.1), z.2)) 0 [(0, .ref 44), (1, .int i1)] [] σ := by
  unfold fM_prove at hX
  refine V.aloadn 0 dM_prove_0 rfl rfl ?_
  refine V.iloadn 1 dM_prove_1 rfl rfl ?_
  refine V.callvi 44 [.int i1] dM_prove_2 (kM_isCoin (σ := σ) i1) mlM_223 myM_isCoin mnM_isCoin ⟨rfl, rfl, by decide, by decide⟩ (rfl : kd 44 = (6, 0)) (by decide) rfl (Nat.le_of_ble_eq_true rfl) ⟨Nat.zero_le _, Nat.zero_le _⟩ rfl ?_
  refine V.ifne 10 dM_prove_5 rfl rfl (fun g1 => ?_) (fun g1 => ?_)
  · replace hX := im hX g1
    refine V.aloadn 0 dM_prove_10 rfl rfl ?_
    refine V.iloadn 1 dM_prove_11 rfl rfl ?_
    obtain ⟨σ3, c2, hX⟩ := bd hX; try dsimp only at hX
    refine V.callv0 44 [.int i1] dM_prove_12 (kM_findRow c2) mlM_264 myM_findRow mnM_findRow ⟨rfl, rfl, by decide, by decide⟩ (rfl : kd 44 = (6, 0)) (by decide) rfl (Nat.le_of_ble_eq_true rfl) ⟨Nat.zero_le _, Nat.zero_le _⟩ rfl ?_
    refine V.aloadn 0 dM_prove_15 rfl rfl ?_
    refine V.aloadn 0 dM_prove_16 rfl rfl ?_
    refine V.geti 44 dM_prove_17 flM_261 (rfl : kd 44 = (6, 0)) rfl ?_
    refine V.puti 44 .int dM_prove_20 flM_190 fw6_26 (rfl : kd 44 = (6, 0)) ⟨rfl, rfl⟩ rfl ?_
    replace hX := nmx hX; generalize sI σ3 44 26 (gI σ3 44 24) = σ4 at hX ⊢; try dsimp only at hX
    refine V.iconst (0 : Int32) dM_prove_23 lc0 rfl ?_
    refine V.istoren _ dM_prove_24 (by decide) rfl rfl ?_
    refine V.sub [1, 0] rfl ?_
    exact wM_prove_25 300 σ4 (0 : Int32) hX
  · replace hX := ip hX g1
    refine V.iconst (-1 : Int32) dM_prove_8 lcm1 rfl ?_
    have hX := (Option.some.inj hX).symm; subst hX; exact V.iret dM_prove_9 rfl rfl
theorem kM_prove {E : Ev} {σ σ2 : St} {i1 : Int32} {z : Int32} (h : fM_prove σ i1 = some (z, σ2)) : Ct mM_prove E [.ref 44, .int i1] σ (some (.int z), σ2) := Ct.of (by decide) (Nat.le_of_ble_eq_true rfl) (wM_prove σ i1 h)
theorem dM_isRow_0 : decode mM_isRow.1 0 = .ok (.iload_n 1, 1) := by decide +kernel
theorem dM_isRow_1 : decode mM_isRow.1 1 = .ok (.iconst 0, 1) := by decide +kernel
theorem dM_isRow_2 : decode mM_isRow.1 2 = .ok (.aload_n 0, 1) := by decide +kernel
theorem dM_isRow_3 : decode mM_isRow.1 3 = .ok (.getfield 190, 3) := by decide +kernel
theorem dM_isRow_6 : decode mM_isRow.1 6 = .ok (.iconst 1, 1) := by decide +kernel
theorem dM_isRow_7 : decode mM_isRow.1 7 = .ok (.isub, 1) := by decide +kernel
theorem dM_isRow_8 : decode mM_isRow.1 8 = .ok (.invokestatic 84, 3) := by decide +kernel
theorem dM_isRow_11 : decode mM_isRow.1 11 = .ok (.ifCond .eq 16, 3) := by decide +kernel
theorem dM_isRow_14 : decode mM_isRow.1 14 = .ok (.iload_n 2, 1) := by decide +kernel
theorem dM_isRow_15 : decode mM_isRow.1 15 = .ok (.iconst 0, 1) := by decide +kernel
theorem dM_isRow_16 : decode mM_isRow.1 16 = .ok (.iconst 2, 1) := by decide +kernel
theorem dM_isRow_17 : decode mM_isRow.1 17 = .ok (.invokestatic 84, 3) := by decide +kernel
theorem dM_isRow_20 : decode mM_isRow.1 20 = .ok (.ifCond .eq 7, 3) := by decide +kernel
theorem dM_isRow_23 : decode mM_isRow.1 23 = .ok (.iconst 1, 1) := by decide +kernel
theorem dM_isRow_24 : decode mM_isRow.1 24 = .ok (.goto 4, 3) := by decide +kernel
theorem dM_isRow_27 : decode mM_isRow.1 27 = .ok (.iconst 0, 1) := by decide +kernel
theorem dM_isRow_28 : decode mM_isRow.1 28 = .ok (.ireturn, 1) := by decide +kernel
set_option maxRecDepth 4000 in
theorem wM_isRow {E : Ev} {z : Int32} (σ : St) (i1 : Int32) (i2 : Int32) (hX : fM_isRow σ i1 i2 = z) : V E mM_isRow (FM E (some (.int z), σ)) 0 [(0, .ref 44), (1, .int i1), (2, .int i2)] [] σ := by
  unfold fM_isRow at hX
  refine V.iloadn 1 dM_isRow_0 rfl rfl ?_
  refine V.iconst (0 : Int32) dM_isRow_1 lc0 rfl ?_
  refine V.aloadn 0 dM_isRow_2 rfl rfl ?_
  refine V.geti 44 dM_isRow_3 flM_190 (rfl : kd 44 = (6, 0)) rfl ?_
  refine V.iconst (1 : Int32) dM_isRow_6 lc1 rfl ?_
  refine V.isub dM_isRow_7 rfl ?_
  refine V.callsi [.int i1, .int (0 : Int32), .int ((gI σ 44 26) - (1 : Int32))] dM_isRow_8 (kM_in (σ := σ) i1 (0 : Int32) ((gI σ 44 26) - (1 : Int32))) mlM_84 myM_in mnM_in ⟨rfl, rfl, by decide, by decide⟩ rfl (Nat.le_of_ble_eq_true rfl) ⟨Nat.zero_le _, Nat.zero_le _⟩ rfl ?_
  have JJ : V E mM_isRow (FM E (some (.int z), σ)) 28 [(0, .ref 44), (1, .int i1), (2, .int i2)] [.int (if (fM_in i1 (0 : Int32) ((gI σ 44 26) - (1 : Int32))) = 0 then (0 : Int32) else (if (fM_in i2 (0 : Int32) (2 : Int32)) = 0 then (0 : Int32) else (1 : Int32)))] σ := by
    subst hX; exact V.zret .boolean dM_isRow_28 rfl (nz (b01_i b01_0 (b01_i b01_0 b01_1))).1 rfl
  refine V.ifeq 27 dM_isRow_11 rfl rfl (fun g1 => ?_) (fun g1 => ?_)
  · refine V.iconst (0 : Int32) dM_isRow_27 lc0 rfl ?_
    exact V.top (if_pos g1).symm JJ
  · refine V.iloadn 2 dM_isRow_14 rfl rfl ?_
    refine V.iconst (0 : Int32) dM_isRow_15 lc0 rfl ?_
    refine V.iconst (2 : Int32) dM_isRow_16 lc2 rfl ?_
    refine V.callsi [.int i2, .int (0 : Int32), .int (2 : Int32)] dM_isRow_17 (kM_in (σ := σ) i2 (0 : Int32) (2 : Int32)) mlM_84 myM_in mnM_in ⟨rfl, rfl, by decide, by decide⟩ rfl (Nat.le_of_ble_eq_true rfl) ⟨Nat.zero_le _, Nat.zero_le _⟩ rfl ?_
    refine V.ifeq 27 dM_isRow_20 rfl rfl (fun g2 => ?_) (fun g2 => ?_)
    · refine V.iconst (0 : Int32) dM_isRow_27 lc0 rfl ?_
      exact V.top ((if_neg g1).trans (if_pos g2)).symm JJ
    · refine V.iconst (1 : Int32) dM_isRow_23 lc1 rfl ?_
      refine V.goto 28 dM_isRow_24 rfl ?_
      exact V.top ((if_neg g1).trans (if_neg g2)).symm JJ
theorem kM_isRow {E : Ev} {σ : St} (i1 : Int32) (i2 : Int32) : Ct mM_isRow E [.ref 44, .int i1, .int i2] σ (some (.int (fM_isRow σ i1 i2)), σ) := Ct.of (by decide) (Nat.le_of_ble_eq_true rfl) (wM_isRow σ i1 i2 rfl)
theorem bM_isRow (σ : St) (i1 : Int32) (i2 : Int32) : b01 (fM_isRow σ i1 i2) := by
  unfold fM_isRow
  exact (b01_i b01_0 (b01_i b01_0 b01_1))
theorem dM_rowOf_0 : decode mM_rowOf.1 0 = .ok (.aload_n 0, 1) := by decide +kernel
theorem dM_rowOf_1 : decode mM_rowOf.1 1 = .ok (.iload_n 1, 1) := by decide +kernel
theorem dM_rowOf_2 : decode mM_rowOf.1 2 = .ok (.iload_n 2, 1) := by decide +kernel
theorem dM_rowOf_3 : decode mM_rowOf.1 3 = .ok (.invokevirtual 273, 3) := by decide +kernel
theorem dM_rowOf_6 : decode mM_rowOf.1 6 = .ok (.ifCond .eq 16, 3) := by decide +kernel
theorem dM_rowOf_9 : decode mM_rowOf.1 9 = .ok (.aload_n 0, 1) := by decide +kernel
theorem dM_rowOf_10 : decode mM_rowOf.1 10 = .ok (.getfield 50, 3) := by decide +kernel
theorem dM_rowOf_13 : decode mM_rowOf.1 13 = .ok (.iconst 3, 1) := by decide +kernel
theorem dM_rowOf_14 : decode mM_rowOf.1 14 = .ok (.iload_n 1, 1) := by decide +kernel
theorem dM_rowOf_15 : decode mM_rowOf.1 15 = .ok (.imul, 1) := by decide +kernel
theorem dM_rowOf_16 : decode mM_rowOf.1 16 = .ok (.iload_n 2, 1) := by decide +kernel
theorem dM_rowOf_17 : decode mM_rowOf.1 17 = .ok (.iadd, 1) := by decide +kernel
theorem dM_rowOf_18 : decode mM_rowOf.1 18 = .ok (.iaload, 1) := by decide +kernel
theorem dM_rowOf_19 : decode mM_rowOf.1 19 = .ok (.goto 5, 3) := by decide +kernel
theorem dM_rowOf_22 : decode mM_rowOf.1 22 = .ok (.bipush (-9), 2) := by decide +kernel
theorem dM_rowOf_24 : decode mM_rowOf.1 24 = .ok (.ireturn, 1) := by decide +kernel
set_option maxRecDepth 4000 in
theorem wM_rowOf {E : Ev} {z : Int32} (σ : St) (i1 : Int32) (i2 : Int32) (hX : fM_rowOf σ i1 i2 = some z) : V E mM_rowOf (FM E (some (.int z), σ)) 0 [(0, .ref 44), (1, .int i1), (2, .int i2)] [] σ := by
  unfold fM_rowOf at hX
  refine V.aloadn 0 dM_rowOf_0 rfl rfl ?_
  refine V.iloadn 1 dM_rowOf_1 rfl rfl ?_
  refine V.iloadn 2 dM_rowOf_2 rfl rfl ?_
  refine V.callvi 44 [.int i1, .int i2] dM_rowOf_3 (kM_isRow (σ := σ) i1 i2) mlM_273 myM_isRow mnM_isRow ⟨rfl, rfl, by decide, by decide⟩ (rfl : kd 44 = (6, 0)) (by decide) rfl (Nat.le_of_ble_eq_true rfl) ⟨Nat.zero_le _, Nat.zero_le _⟩ rfl ?_
  refine V.ifeq 22 dM_rowOf_6 rfl rfl (fun g1 => ?_) (fun g1 => ?_)
  · replace hX := ip hX g1
    refine V.bipush (-9 : Int32) dM_rowOf_22 lbm9 rfl ?_
    have hX := (Option.some.inj hX).symm; subst hX; exact V.iret dM_rowOf_24 rfl rfl
  · replace hX := im hX g1
    refine V.aloadn 0 dM_rowOf_9 rfl rfl ?_
    refine V.getr 44 57 dM_rowOf_10 flM_50 (rfl : kd 44 = (6, 0)) rfl rfl ?_
    refine V.iconst (3 : Int32) dM_rowOf_13 lc3 rfl ?_
    refine V.iloadn 1 dM_rowOf_14 rfl rfl ?_
    refine V.imul dM_rowOf_15 rfl ?_
    refine V.iloadn 2 dM_rowOf_16 rfl rfl ?_
    refine V.iadd dM_rowOf_17 rfl ?_
    obtain ⟨h2, hX⟩ := ob hX
    refine V.iald 57 dM_rowOf_18 (rfl : kd 57 = (7, 21)) h2 rfl ?_
    refine V.goto 24 dM_rowOf_19 rfl ?_
    have hX := (Option.some.inj hX).symm; subst hX; exact V.iret dM_rowOf_24 rfl rfl
theorem kM_rowOf {E : Ev} {σ : St} {i1 : Int32} {i2 : Int32} {z : Int32} (h : fM_rowOf σ i1 i2 = some z) : Ct mM_rowOf E [.ref 44, .int i1, .int i2] σ (some (.int z), σ) := Ct.of (by decide) (Nat.le_of_ble_eq_true rfl) (wM_rowOf σ i1 i2 h)
theorem dM_alterRow_0 : decode mM_alterRow.1 0 = .ok (.aload_n 0, 1) := by decide +kernel
theorem dM_alterRow_1 : decode mM_alterRow.1 1 = .ok (.iload_n 1, 1) := by decide +kernel
theorem dM_alterRow_2 : decode mM_alterRow.1 2 = .ok (.iload_n 2, 1) := by decide +kernel
theorem dM_alterRow_3 : decode mM_alterRow.1 3 = .ok (.invokevirtual 273, 3) := by decide +kernel
theorem dM_alterRow_6 : decode mM_alterRow.1 6 = .ok (.ifCond .ne 6, 3) := by decide +kernel
theorem dM_alterRow_9 : decode mM_alterRow.1 9 = .ok (.bipush (-9), 2) := by decide +kernel
theorem dM_alterRow_11 : decode mM_alterRow.1 11 = .ok (.ireturn, 1) := by decide +kernel
theorem dM_alterRow_12 : decode mM_alterRow.1 12 = .ok (.aload_n 0, 1) := by decide +kernel
theorem dM_alterRow_13 : decode mM_alterRow.1 13 = .ok (.getfield 50, 3) := by decide +kernel
theorem dM_alterRow_16 : decode mM_alterRow.1 16 = .ok (.iconst 3, 1) := by decide +kernel
theorem dM_alterRow_17 : decode mM_alterRow.1 17 = .ok (.iload_n 1, 1) := by decide +kernel
theorem dM_alterRow_18 : decode mM_alterRow.1 18 = .ok (.imul, 1) := by decide +kernel
theorem dM_alterRow_19 : decode mM_alterRow.1 19 = .ok (.iload_n 2, 1) := by decide +kernel
theorem dM_alterRow_20 : decode mM_alterRow.1 20 = .ok (.iadd, 1) := by decide +kernel
theorem dM_alterRow_21 : decode mM_alterRow.1 21 = .ok (.iaload, 1) := by decide +kernel
theorem dM_alterRow_22 : decode mM_alterRow.1 22 = .ok (.istore 4, 2) := by decide +kernel
theorem dM_alterRow_24 : decode mM_alterRow.1 24 = .ok (.aload_n 0, 1) := by decide +kernel
theorem dM_alterRow_25 : decode mM_alterRow.1 25 = .ok (.getfield 50, 3) := by decide +kernel
theorem dM_alterRow_28 : decode mM_alterRow.1 28 = .ok (.iconst 3, 1) := by decide +kernel
theorem dM_alterRow_29 : decode mM_alterRow.1 29 = .ok (.iload_n 1, 1) := by decide +kernel
theorem dM_alterRow_30 : decode mM_alterRow.1 30 = .ok (.imul, 1) := by decide +kernel
theorem dM_alterRow_31 : decode mM_alterRow.1 31 = .ok (.iload_n 2, 1) := by decide +kernel
theorem dM_alterRow_32 : decode mM_alterRow.1 32 = .ok (.iadd, 1) := by decide +kernel
theorem dM_alterRow_33 : decode mM_alterRow.1 33 = .ok (.iload_n 3, 1) := by decide +kernel
theorem dM_alterRow_34 : decode mM_alterRow.1 34 = .ok (.iastore, 1) := by decide +kernel
theorem dM_alterRow_35 : decode mM_alterRow.1 35 = .ok (.iload 4, 2) := by decide +kernel
theorem dM_alterRow_37 : decode mM_alterRow.1 37 = .ok (.ireturn, 1) := by decide +kernel
set_option maxRecDepth 4000 in
theorem wM_alterRow {E : Ev} {z : Int32 × St} (σ : St) (i1 : Int32) (i2 : Int32) (i3 : Int32) (hX : fM_alterRow σ i1 i2 i3 = some z) : V E mM_alterRow (FM E (some (.int z.1), z.2)) 0 [(0, .ref 44), (1, .int i1), (2, .int i2), (3, .int i3)] [] σ := by
  unfold fM_alterRow at hX
  refine V.aloadn 0 dM_alterRow_0 rfl rfl ?_
  refine V.iloadn 1 dM_alterRow_1 rfl rfl ?_
  refine V.iloadn 2 dM_alterRow_2 rfl rfl ?_
  refine V.callvi 44 [.int i1, .int i2] dM_alterRow_3 (kM_isRow (σ := σ) i1 i2) mlM_273 myM_isRow mnM_isRow ⟨rfl, rfl, by decide, by decide⟩ (rfl : kd 44 = (6, 0)) (by decide) rfl (Nat.le_of_ble_eq_true rfl) ⟨Nat.zero_le _, Nat.zero_le _⟩ rfl ?_
  refine V.ifne 12 dM_alterRow_6 rfl rfl (fun g1 => ?_) (fun g1 => ?_)
  · replace hX := im hX g1
    refine V.aloadn 0 dM_alterRow_12 rfl rfl ?_
    refine V.getr 44 57 dM_alterRow_13 flM_50 (rfl : kd 44 = (6, 0)) rfl rfl ?_
    refine V.iconst (3 : Int32) dM_alterRow_16 lc3 rfl ?_
    refine V.iloadn 1 dM_alterRow_17 rfl rfl ?_
    refine V.imul dM_alterRow_18 rfl ?_
    refine V.iloadn 2 dM_alterRow_19 rfl rfl ?_
    refine V.iadd dM_alterRow_20 rfl ?_
    obtain ⟨h2, hX⟩ := ob hX
    refine V.iald 57 dM_alterRow_21 (rfl : kd 57 = (7, 21)) h2 rfl ?_
    refine V.istore _ dM_alterRow_22 (by decide) rfl rfl ?_
    replace hX := nmx hX; generalize gI σ 57 (ix (((3 : Int32) * i1) + i2)) = v3 at hX ⊢; try dsimp only at hX
    refine V.aloadn 1 dM_alterRow_24 rfl rfl ?_
    refine V.getr 44 57 dM_alterRow_25 flM_50 (rfl : kd 44 = (6, 0)) rfl rfl ?_
    refine V.iconst (3 : Int32) dM_alterRow_28 lc3 rfl ?_
    refine V.iloadn 2 dM_alterRow_29 rfl rfl ?_
    refine V.imul dM_alterRow_30 rfl ?_
    refine V.iloadn 3 dM_alterRow_31 rfl rfl ?_
    refine V.iadd dM_alterRow_32 rfl ?_
    refine V.iloadn 4 dM_alterRow_33 rfl rfl ?_
    obtain ⟨h4, hX⟩ := ob hX
    refine V.iast 57 dM_alterRow_34 (rfl : kd 57 = (7, 21)) h4 rfl ?_
    replace hX := nmx hX; generalize sI σ 57 (ix (((3 : Int32) * i1) + i2)) i3 = σ5 at hX ⊢; try dsimp only at hX
    refine V.iload 0 dM_alterRow_35 rfl rfl ?_
    have hX := (Option.some.inj hX).symm; subst hX; exact V.iret dM_alterRow_37 rfl rfl
  · replace hX := ip hX g1
    refine V.bipush (-9 : Int32) dM_alterRow_9 lbm9 rfl ?_
    have hX := (Option.some.inj hX).symm; subst hX; exact V.iret dM_alterRow_11 rfl rfl
theorem kM_alterRow {E : Ev} {σ σ2 : St} {i1 : Int32} {i2 : Int32} {i3 : Int32} {z : Int32} (h : fM_alterRow σ i1 i2 i3 = some (z, σ2)) : Ct mM_alterRow E [.ref 44, .int i1, .int i2, .int i3] σ (some (.int z), σ2) := Ct.of (by decide) (Nat.le_of_ble_eq_true rfl) (wM_alterRow σ i1 i2 i3 h)
theorem dM_judge_0 : decode mM_judge.1 0 = .ok (.aload_n 0, 1) := by decide +kernel
theorem dM_judge_1 : decode mM_judge.1 1 = .ok (.iload_n 1, 1) := by decide +kernel
theorem dM_judge_2 : decode mM_judge.1 2 = .ok (.invokevirtual 223, 3) := by decide +kernel
theorem dM_judge_5 : decode mM_judge.1 5 = .ok (.ifCond .ne 5, 3) := by decide +kernel
theorem dM_judge_8 : decode mM_judge.1 8 = .ok (.iconst (-1), 1) := by decide +kernel
theorem dM_judge_9 : decode mM_judge.1 9 = .ok (.ireturn, 1) := by decide +kernel
theorem dM_judge_10 : decode mM_judge.1 10 = .ok (.aload_n 0, 1) := by decide +kernel
theorem dM_judge_11 : decode mM_judge.1 11 = .ok (.aload_n 0, 1) := by decide +kernel
theorem dM_judge_12 : decode mM_judge.1 12 = .ok (.iload_n 1, 1) := by decide +kernel
theorem dM_judge_13 : decode mM_judge.1 13 = .ok (.iconst 0, 1) := by decide +kernel
theorem dM_judge_14 : decode mM_judge.1 14 = .ok (.invokevirtual 193, 3) := by decide +kernel
theorem dM_judge_17 : decode mM_judge.1 17 = .ok (.invokevirtual 252, 3) := by decide +kernel
theorem dM_judge_20 : decode mM_judge.1 20 = .ok (.aload_n 0, 1) := by decide +kernel
theorem dM_judge_21 : decode mM_judge.1 21 = .ok (.iload_n 1, 1) := by decide +kernel
theorem dM_judge_22 : decode mM_judge.1 22 = .ok (.iconst 2, 1) := by decide +kernel
theorem dM_judge_23 : decode mM_judge.1 23 = .ok (.invokevirtual 193, 3) := by decide +kernel
theorem dM_judge_26 : decode mM_judge.1 26 = .ok (.istore_n 2, 1) := by decide +kernel
theorem dM_judge_27 : decode mM_judge.1 27 = .ok (.aload_n 0, 1) := by decide +kernel
theorem dM_judge_28 : decode mM_judge.1 28 = .ok (.iload_n 1, 1) := by decide +kernel
theorem dM_judge_29 : decode mM_judge.1 29 = .ok (.iconst 3, 1) := by decide +kernel
theorem dM_judge_30 : decode mM_judge.1 30 = .ok (.invokevirtual 193, 3) := by decide +kernel
theorem dM_judge_33 : decode mM_judge.1 33 = .ok (.istore_n 3, 1) := by decide +kernel
theorem dM_judge_34 : decode mM_judge.1 34 = .ok (.iconst 0, 1) := by decide +kernel
theorem dM_judge_35 : decode mM_judge.1 35 = .ok (.istore 4, 2) := by decide +kernel
theorem dM_judge_37 : decode mM_judge.1 37 = .ok (.iload 4, 2) := by decide +kernel
theorem dM_judge_39 : decode mM_judge.1 39 = .ok (.aload_n 0, 1) := by decide +kernel
theorem dM_judge_40 : decode mM_judge.1 40 = .ok (.getfield 190, 3) := by decide +kernel
theorem dM_judge_43 : decode mM_judge.1 43 = .ok (.if_icmp .ge 137, 3) := by decide +kernel
theorem dM_judge_46 : decode mM_judge.1 46 = .ok (.aload_n 0, 1) := by decide +kernel
theorem dM_judge_47 : decode mM_judge.1 47 = .ok (.getfield 50, 3) := by decide +kernel
theorem dM_judge_50 : decode mM_judge.1 50 = .ok (.iconst 3, 1) := by decide +kernel
theorem dM_judge_51 : decode mM_judge.1 51 = .ok (.iload 4, 2) := by decide +kernel
theorem dM_judge_53 : decode mM_judge.1 53 = .ok (.imul, 1) := by decide +kernel
theorem dM_judge_54 : decode mM_judge.1 54 = .ok (.iconst 1, 1) := by decide +kernel
theorem dM_judge_55 : decode mM_judge.1 55 = .ok (.iadd, 1) := by decide +kernel
theorem dM_judge_56 : decode mM_judge.1 56 = .ok (.iaload, 1) := by decide +kernel
theorem dM_judge_57 : decode mM_judge.1 57 = .ok (.istore 5, 2) := by decide +kernel
theorem dM_judge_59 : decode mM_judge.1 59 = .ok (.aload_n 0, 1) := by decide +kernel
theorem dM_judge_60 : decode mM_judge.1 60 = .ok (.getfield 50, 3) := by decide +kernel
theorem dM_judge_63 : decode mM_judge.1 63 = .ok (.iconst 3, 1) := by decide +kernel
theorem dM_judge_64 : decode mM_judge.1 64 = .ok (.iload 4, 2) := by decide +kernel
theorem dM_judge_66 : decode mM_judge.1 66 = .ok (.imul, 1) := by decide +kernel
theorem dM_judge_67 : decode mM_judge.1 67 = .ok (.iaload, 1) := by decide +kernel
theorem dM_judge_68 : decode mM_judge.1 68 = .ok (.iload_n 2, 1) := by decide +kernel
theorem dM_judge_69 : decode mM_judge.1 69 = .ok (.if_icmp .ne 46, 3) := by decide +kernel
theorem dM_judge_72 : decode mM_judge.1 72 = .ok (.aload_n 0, 1) := by decide +kernel
theorem dM_judge_73 : decode mM_judge.1 73 = .ok (.iload 5, 2) := by decide +kernel
theorem dM_judge_75 : decode mM_judge.1 75 = .ok (.invokevirtual 203, 3) := by decide +kernel
theorem dM_judge_78 : decode mM_judge.1 78 = .ok (.ifCond .eq 37, 3) := by decide +kernel
theorem dM_judge_81 : decode mM_judge.1 81 = .ok (.aload_n 0, 1) := by decide +kernel
theorem dM_judge_82 : decode mM_judge.1 82 = .ok (.aload_n 0, 1) := by decide +kernel
theorem dM_judge_83 : decode mM_judge.1 83 = .ok (.iload_n 1, 1) := by decide +kernel
theorem dM_judge_84 : decode mM_judge.1 84 = .ok (.iconst 0, 1) := by decide +kernel
theorem dM_judge_85 : decode mM_judge.1 85 = .ok (.invokevirtual 193, 3) := by decide +kernel
theorem dM_judge_88 : decode mM_judge.1 88 = .ok (.iload_n 2, 1) := by decide +kernel
theorem dM_judge_89 : decode mM_judge.1 89 = .ok (.iload_n 3, 1) := by decide +kernel
theorem dM_judge_90 : decode mM_judge.1 90 = .ok (.aload_n 0, 1) := by decide +kernel
theorem dM_judge_91 : decode mM_judge.1 91 = .ok (.iload 5, 2) := by decide +kernel
theorem dM_judge_93 : decode mM_judge.1 93 = .ok (.invokevirtual 203, 3) := by decide +kernel
theorem dM_judge_96 : decode mM_judge.1 96 = .ok (.ifCond .eq 8, 3) := by decide +kernel
theorem dM_judge_99 : decode mM_judge.1 99 = .ok (.iload 5, 2) := by decide +kernel
theorem dM_judge_101 : decode mM_judge.1 101 = .ok (.goto 4, 3) := by decide +kernel
theorem dM_judge_104 : decode mM_judge.1 104 = .ok (.iconst 0, 1) := by decide +kernel
theorem dM_judge_105 : decode mM_judge.1 105 = .ok (.invokevirtual 216, 3) := by decide +kernel
theorem dM_judge_108 : decode mM_judge.1 108 = .ok (.ifCond .eq 7, 3) := by decide +kernel
theorem dM_judge_111 : decode mM_judge.1 111 = .ok (.iconst 1, 1) := by decide +kernel
theorem dM_judge_112 : decode mM_judge.1 112 = .ok (.goto 4, 3) := by decide +kernel
theorem dM_judge_115 : decode mM_judge.1 115 = .ok (.iconst 0, 1) := by decide +kernel
theorem dM_judge_116 : decode mM_judge.1 116 = .ok (.istore 6, 2) := by decide +kernel
theorem dM_judge_118 : decode mM_judge.1 118 = .ok (.iload_n 3, 1) := by decide +kernel
theorem dM_judge_119 : decode mM_judge.1 119 = .ok (.iload 6, 2) := by decide +kernel
theorem dM_judge_121 : decode mM_judge.1 121 = .ok (.ifCond .eq 10, 3) := by decide +kernel
theorem dM_judge_124 : decode mM_judge.1 124 = .ok (.iconst 1, 1) := by decide +kernel
theorem dM_judge_125 : decode mM_judge.1 125 = .ok (.iload 5, 2) := by decide +kernel
theorem dM_judge_127 : decode mM_judge.1 127 = .ok (.ishl, 1) := by decide +kernel
theorem dM_judge_128 : decode mM_judge.1 128 = .ok (.goto 4, 3) := by decide +kernel
theorem dM_judge_131 : decode mM_judge.1 131 = .ok (.iconst 0, 1) := by decide +kernel
theorem dM_judge_132 : decode mM_judge.1 132 = .ok (.ior, 1) := by decide +kernel
theorem dM_judge_133 : decode mM_judge.1 133 = .ok (.istore_n 3, 1) := by decide +kernel
theorem dM_judge_134 : decode mM_judge.1 134 = .ok (.iload 6, 2) := by decide +kernel
theorem dM_judge_136 : decode mM_judge.1 136 = .ok (.ifCond .eq 30, 3) := by decide +kernel
theorem dM_judge_139 : decode mM_judge.1 139 = .ok (.aload_n 0, 1) := by decide +kernel
theorem dM_judge_140 : decode mM_judge.1 140 = .ok (.getfield 50, 3) := by decide +kernel
theorem dM_judge_143 : decode mM_judge.1 143 = .ok (.iconst 3, 1) := by decide +kernel
theorem dM_judge_144 : decode mM_judge.1 144 = .ok (.iload 4, 2) := by decide +kernel
theorem dM_judge_146 : decode mM_judge.1 146 = .ok (.imul, 1) := by decide +kernel
theorem dM_judge_147 : decode mM_judge.1 147 = .ok (.iconst 2, 1) := by decide +kernel
theorem dM_judge_148 : decode mM_judge.1 148 = .ok (.iadd, 1) := by decide +kernel
theorem dM_judge_149 : decode mM_judge.1 149 = .ok (.iaload, 1) := by decide +kernel
theorem dM_judge_150 : decode mM_judge.1 150 = .ok (.aload_n 0, 1) := by decide +kernel
theorem dM_judge_151 : decode mM_judge.1 151 = .ok (.getfield 38, 3) := by decide +kernel
theorem dM_judge_154 : decode mM_judge.1 154 = .ok (.sipush 128, 3) := by decide +kernel
theorem dM_judge_157 : decode mM_judge.1 157 = .ok (.iload 5, 2) := by decide +kernel
theorem dM_judge_159 : decode mM_judge.1 159 = .ok (.imul, 1) := by decide +kernel
theorem dM_judge_160 : decode mM_judge.1 160 = .ok (.iload_n 3, 1) := by decide +kernel
theorem dM_judge_161 : decode mM_judge.1 161 = .ok (.iadd, 1) := by decide +kernel
theorem dM_judge_162 : decode mM_judge.1 162 = .ok (.iaload, 1) := by decide +kernel
theorem dM_judge_163 : decode mM_judge.1 163 = .ok (.if_icmp .eq 8, 3) := by decide +kernel
theorem dM_judge_166 : decode mM_judge.1 166 = .ok (.iload 4, 2) := by decide +kernel
theorem dM_judge_168 : decode mM_judge.1 168 = .ok (.iconst 1, 1) := by decide +kernel
theorem dM_judge_169 : decode mM_judge.1 169 = .ok (.iadd, 1) := by decide +kernel
theorem dM_judge_170 : decode mM_judge.1 170 = .ok (.ireturn, 1) := by decide +kernel
theorem dM_judge_171 : decode mM_judge.1 171 = .ok (.iload 5, 2) := by decide +kernel
theorem dM_judge_173 : decode mM_judge.1 173 = .ok (.istore_n 2, 1) := by decide +kernel
theorem dM_judge_174 : decode mM_judge.1 174 = .ok (.iinc 4 1, 3) := by decide +kernel
theorem dM_judge_177 : decode mM_judge.1 177 = .ok (.goto (-140), 3) := by decide +kernel
theorem dM_judge_180 : decode mM_judge.1 180 = .ok (.aload_n 0, 1) := by decide +kernel
theorem dM_judge_181 : decode mM_judge.1 181 = .ok (.getfield 38, 3) := by decide +kernel
theorem dM_judge_184 : decode mM_judge.1 184 = .ok (.sipush 128, 3) := by decide +kernel
theorem dM_judge_187 : decode mM_judge.1 187 = .ok (.iload_n 2, 1) := by decide +kernel
theorem dM_judge_188 : decode mM_judge.1 188 = .ok (.imul, 1) := by decide +kernel
theorem dM_judge_189 : decode mM_judge.1 189 = .ok (.iload_n 3, 1) := by decide +kernel
theorem dM_judge_190 : decode mM_judge.1 190 = .ok (.iadd, 1) := by decide +kernel
theorem dM_judge_191 : decode mM_judge.1 191 = .ok (.iaload, 1) := by decide +kernel
theorem dM_judge_192 : decode mM_judge.1 192 = .ok (.ifCond .le 9, 3) := by decide +kernel
theorem dM_judge_195 : decode mM_judge.1 195 = .ok (.sipush 222, 3) := by decide +kernel
theorem dM_judge_198 : decode mM_judge.1 198 = .ok (.goto 4, 3) := by decide +kernel
theorem dM_judge_201 : decode mM_judge.1 201 = .ok (.iconst 0, 1) := by decide +kernel
theorem dM_judge_202 : decode mM_judge.1 202 = .ok (.ireturn, 1) := by decide +kernel
set_option maxRecDepth 4000 in
theorem wM_judge_180 {E : Ev} {z : Int32 × St} (σ : St) (i2 : Int32) (i3 : Int32) (hX : fM_judge_180 σ i2 i3 = some z) : V E mM_judge (FM E (some (.int z.1), z.2)) 180 [(0, .ref 44), (2, .int i2), (3, .int i3)] [] σ := by
  unfold fM_judge_180 at hX
  refine V.aloadn 0 dM_judge_180 rfl rfl ?_
  refine V.getr 44 53 dM_judge_181 flM_38 (rfl : kd 44 = (6, 0)) rfl rfl ?_
  refine V.sipush (128 : Int32) dM_judge_184 ls128 rfl ?_
  refine V.iloadn 1 dM_judge_187 rfl rfl ?_
  refine V.imul dM_judge_188 rfl ?_
  refine V.iloadn 2 dM_judge_189 rfl rfl ?_
  refine V.iadd dM_judge_190 rfl ?_
  obtain ⟨h11, hX⟩ := ob hX
  refine V.iald 53 dM_judge_191 (rfl : kd 53 = (7, 896)) h11 rfl ?_
  have JJ : V E mM_judge (FM E (some (.int z.1), z.2)) 202 [(0, .ref 44), (2, .int i2), (3, .int i3)] [.int (if (gI σ 53 (ix (((128 : Int32) * i2) + i3))) ≤ 0 then (0 : Int32) else (222 : Int32))] σ := by
    have hX := (Option.some.inj hX).symm; subst hX; exact V.iret dM_judge_202 rfl rfl
  refine V.ifle 201 dM_judge_192 rfl rfl (fun g12 => ?_) (fun g12 => ?_)
  · refine V.iconst (0 : Int32) dM_judge_201 lc0 rfl ?_
    exact V.top (if_pos g12).symm JJ
  · refine V.sipush (222 : Int32) dM_judge_195 ls222 rfl ?_
    refine V.goto 202 dM_judge_198 rfl ?_
    exact V.top (if_neg g12).symm JJ
set_option maxRecDepth 4000 in
theorem wM_judge_37 {E : Ev} {z : Int32 × St} : ∀ (fu : Nat) (σ : St) (i1 : Int32) (i2 : Int32) (i3 : Int32) (i4 : Int32), fM_judge_37 fu σ i1 i2 i3 i4 = some z → V E mM_judge (FM E (some (.int z.1), z.2)) 37 [(0, .ref 44), (1, .int i1), (2, .int i2), (3, .int i3), (4, .int i4)] [] σ := by
  intro fu
  induction fu with
  | zero => intro σ i1 i2 i3 i4 hX; cases hX
  | succ fu ih =>
    intro σ i1 i2 i3 i4 hX
    rw [fM_judge_37] at hX
    refine V.iload 4 dM_judge_37 rfl rfl ?_
    refine V.aloadn 0 dM_judge_39 rfl rfl ?_
    refine V.geti 44 dM_judge_40 flM_190 (rfl : kd 44 = (6, 0)) rfl ?_
    refine V.icmpge 180 dM_judge_43 rfl rfl (fun g10 => ?_) (fun g10 => ?_)
    · replace hX := ip hX g10
      refine V.sub [0, 2, 3] rfl ?_
      exact wM_judge_180 σ i2 i3 hX
    · replace hX := im hX g10
      refine V.aloadn 0 dM_judge_46 rfl rfl ?_
      refine V.getr 44 57 dM_judge_47 flM_50 (rfl : kd 44 = (6, 0)) rfl rfl ?_
      refine V.iconst (3 : Int32) dM_judge_50 lc3 rfl ?_
      refine V.iload 4 dM_judge_51 rfl rfl ?_
      refine V.imul dM_judge_53 rfl ?_
      refine V.iconst (1 : Int32) dM_judge_54 lc1 rfl ?_
      refine V.iadd dM_judge_55 rfl ?_
      obtain ⟨h13, hX⟩ := ob hX
      refine V.iald 57 dM_judge_56 (rfl : kd 57 = (7, 21)) h13 rfl ?_
      refine V.istore _ dM_judge_57 (by decide) rfl rfl ?_
      replace hX := nmx hX; generalize gI σ 57 (ix (((3 : Int32) * i4) + (1 : Int32))) = v14 at hX ⊢; try dsimp only at hX
      refine V.aloadn 1 dM_judge_59 rfl rfl ?_
      refine V.getr 44 57 dM_judge_60 flM_50 (rfl : kd 44 = (6, 0)) rfl rfl ?_
      refine V.iconst (3 : Int32) dM_judge_63 lc3 rfl ?_
      refine V.iload 5 dM_judge_64 rfl rfl ?_
      refine V.imul dM_judge_66 rfl ?_
      obtain ⟨h15, hX⟩ := ob hX
      refine V.iald 57 dM_judge_67 (rfl : kd 57 = (7, 21)) h15 rfl ?_
      refine V.iloadn 3 dM_judge_68 rfl rfl ?_
      refine jn (Pj := fun J => ∀ (σ16 : St) (ji1 : Int32) (ji3 : Int32) (ji4 : Int32) (ji5 : Int32), J σ16 ji1 ji3 ji4 ji5 = some z → V E mM_judge (FM E (some (.int z.1), z.2)) 115 [(0, .ref 44), (1, .int ji1), (3, .int ji3), (4, .int ji4), (5, .int ji5)] [] σ16) hX (fun σ16 ji1 ji3 ji4 ji5 hX => ?_) (fun J115 hJ115 hX => ?_)
      · try dsimp only at hX
        refine V.iconst (0 : Int32) dM_judge_115 lc0 rfl ?_
        refine V.istore _ dM_judge_116 (by decide) rfl rfl ?_
        refine V.iloadn 3 dM_judge_118 rfl rfl ?_
        refine V.iload 0 dM_judge_119 rfl rfl ?_
        have JJ : V E mM_judge (FM E (some (.int z.1), z.2)) 132 [(6, .int (0 : Int32)), (0, .ref 44), (1, .int ji1), (3, .int ji3), (4, .int ji4), (5, .int ji5)] [.int (if (0 : Int32) = 0 then (0 : Int32) else (1 : Int32) <<< (ji5 &&& 31)), .int ji3] σ16 := by
          refine V.ior dM_judge_132 rfl ?_
          refine V.istoren _ dM_judge_133 (by decide) rfl rfl ?_
          replace hX := nmx hX; generalize ji3 ||| (if (0 : Int32) = 0 then (0 : Int32) else (1 : Int32) <<< (ji5 &&& 31)) = v17 at hX ⊢; try dsimp only at hX
          refine V.iload 1 dM_judge_134 rfl rfl ?_
          refine V.ifeq 166 dM_judge_136 rfl rfl (fun g18 => ?_) (fun g18 => ?_)
          · replace hX := ip hX g18
            refine V.iload 4 dM_judge_166 rfl rfl ?_
            refine V.iconst (1 : Int32) dM_judge_168 lc1 rfl ?_
            refine V.iadd dM_judge_169 rfl ?_
            have hX := (Option.some.inj hX).symm; subst hX; exact V.iret dM_judge_170 rfl rfl
          · replace hX := im hX g18
            refine V.aloadn 2 dM_judge_139 rfl rfl ?_
            refine V.getr 44 57 dM_judge_140 flM_50 (rfl : kd 44 = (6, 0)) rfl rfl ?_
            refine V.iconst (3 : Int32) dM_judge_143 lc3 rfl ?_
            refine V.iload 4 dM_judge_144 rfl rfl ?_
            refine V.imul dM_judge_146 rfl ?_
            refine V.iconst (2 : Int32) dM_judge_147 lc2 rfl ?_
            refine V.iadd dM_judge_148 rfl ?_
            obtain ⟨h19, hX⟩ := ob hX
            refine V.iald 57 dM_judge_149 (rfl : kd 57 = (7, 21)) h19 rfl ?_
            refine V.aloadn 2 dM_judge_150 rfl rfl ?_
            refine V.getr 44 53 dM_judge_151 flM_38 (rfl : kd 44 = (6, 0)) rfl rfl ?_
            refine V.sipush (128 : Int32) dM_judge_154 ls128 rfl ?_
            refine V.iload 5 dM_judge_157 rfl rfl ?_
            refine V.imul dM_judge_159 rfl ?_
            refine V.iloadn 0 dM_judge_160 rfl rfl ?_
            refine V.iadd dM_judge_161 rfl ?_
            obtain ⟨h20, hX⟩ := ob hX
            refine V.iald 53 dM_judge_162 (rfl : kd 53 = (7, 896)) h20 rfl ?_
            refine V.icmpeq 171 dM_judge_163 rfl rfl (fun g21 => ?_) (fun g21 => ?_)
            · replace hX := ip hX g21
              refine V.iload 5 dM_judge_171 rfl rfl ?_
              refine V.istoren _ dM_judge_173 (by decide) rfl rfl ?_
              refine V.iinc 5 (1 : Int32) _ dM_judge_174 rfl lc1 (by decide) rfl rfl ?_
              replace hX := nmx hX; generalize ji4 + (1 : Int32) = v22 at hX ⊢; try dsimp only at hX
              refine V.goto 37 dM_judge_177 rfl ?_
              refine V.sub [4, 5, 1, 2, 0] rfl ?_
              exact ih σ16 ji1 ji5 v17 v22 hX
            · replace hX := im hX g21
              refine V.iload 4 dM_judge_166 rfl rfl ?_
              refine V.iconst (1 : Int32) dM_judge_168 lc1 rfl ?_
              refine V.iadd dM_judge_169 rfl ?_
              have hX := (Option.some.inj hX).symm; subst hX; exact V.iret dM_judge_170 rfl rfl
        refine V.ifeq 131 dM_judge_121 rfl rfl (fun g23 => ?_) (fun g23 => ?_)
        · refine V.iconst (0 : Int32) dM_judge_131 lc0 rfl ?_
          exact V.top (if_pos g23).symm JJ
        · refine V.iconst (1 : Int32) dM_judge_124 lc1 rfl ?_
          refine V.iload 5 dM_judge_125 rfl rfl ?_
          refine V.ishl dM_judge_127 rfl ?_
          refine V.goto 132 dM_judge_128 rfl ?_
          exact V.top (if_neg g23).symm JJ
      · try dsimp only at hX
        refine V.icmpne 115 dM_judge_69 rfl rfl (fun g24 => ?_) (fun g24 => ?_)
        · replace hX := im hX g24
          refine V.sub [1, 2, 4, 5, 0] rfl ?_
          exact hJ115 σ i1 i3 i4 v14 hX
        · replace hX := ip hX g24
          refine V.aloadn 1 dM_judge_72 rfl rfl ?_
          refine V.iload 0 dM_judge_73 rfl rfl ?_
          refine V.callvi 44 [.int v14] dM_judge_75 (kM_isPerson (σ := σ) v14) mlM_203 myM_isPerson mnM_isPerson ⟨rfl, rfl, by decide, by decide⟩ (rfl : kd 44 = (6, 0)) (by decide) rfl (Nat.le_of_ble_eq_true rfl) ⟨Nat.zero_le _, Nat.zero_le _⟩ rfl ?_
          refine jn (Pj := fun J => ∀ (σ25 : St) (ji1 : Int32) (ji3 : Int32) (ji4 : Int32) (ji5 : Int32) (jis0 : Int32), J σ25 ji1 ji3 ji4 ji5 jis0 = some z → V E mM_judge (FM E (some (.int z.1), z.2)) 116 [(0, .ref 44), (1, .int ji1), (3, .int ji3), (4, .int ji4), (5, .int ji5)] [.int jis0] σ25) hX (fun σ25 ji1 ji3 ji4 ji5 jis0 hX => ?_) (fun J116 hJ116 hX => ?_)
          · try dsimp only at hX
            refine V.istore _ dM_judge_116 (by decide) rfl rfl ?_
            refine V.iloadn 3 dM_judge_118 rfl rfl ?_
            refine V.iload 0 dM_judge_119 rfl rfl ?_
            have JJ : V E mM_judge (FM E (some (.int z.1), z.2)) 132 [(6, .int jis0), (0, .ref 44), (1, .int ji1), (3, .int ji3), (4, .int ji4), (5, .int ji5)] [.int (if jis0 = 0 then (0 : Int32) else (1 : Int32) <<< (ji5 &&& 31)), .int ji3] σ25 := by
              refine V.ior dM_judge_132 rfl ?_
              refine V.istoren _ dM_judge_133 (by decide) rfl rfl ?_
              replace hX := nmx hX; generalize ji3 ||| (if jis0 = 0 then (0 : Int32) else (1 : Int32) <<< (ji5 &&& 31)) = v26 at hX ⊢; try dsimp only at hX
              refine V.iload 1 dM_judge_134 rfl rfl ?_
              refine V.ifeq 166 dM_judge_136 rfl rfl (fun g27 => ?_) (fun g27 => ?_)
              · replace hX := ip hX g27
                refine V.iload 4 dM_judge_166 rfl rfl ?_
                refine V.iconst (1 : Int32) dM_judge_168 lc1 rfl ?_
                refine V.iadd dM_judge_169 rfl ?_
                have hX := (Option.some.inj hX).symm; subst hX; exact V.iret dM_judge_170 rfl rfl
              · replace hX := im hX g27
                refine V.aloadn 2 dM_judge_139 rfl rfl ?_
                refine V.getr 44 57 dM_judge_140 flM_50 (rfl : kd 44 = (6, 0)) rfl rfl ?_
                refine V.iconst (3 : Int32) dM_judge_143 lc3 rfl ?_
                refine V.iload 4 dM_judge_144 rfl rfl ?_
                refine V.imul dM_judge_146 rfl ?_
                refine V.iconst (2 : Int32) dM_judge_147 lc2 rfl ?_
                refine V.iadd dM_judge_148 rfl ?_
                obtain ⟨h28, hX⟩ := ob hX
                refine V.iald 57 dM_judge_149 (rfl : kd 57 = (7, 21)) h28 rfl ?_
                refine V.aloadn 2 dM_judge_150 rfl rfl ?_
                refine V.getr 44 53 dM_judge_151 flM_38 (rfl : kd 44 = (6, 0)) rfl rfl ?_
                refine V.sipush (128 : Int32) dM_judge_154 ls128 rfl ?_
                refine V.iload 5 dM_judge_157 rfl rfl ?_
                refine V.imul dM_judge_159 rfl ?_
                refine V.iloadn 0 dM_judge_160 rfl rfl ?_
                refine V.iadd dM_judge_161 rfl ?_
                obtain ⟨h29, hX⟩ := ob hX
                refine V.iald 53 dM_judge_162 (rfl : kd 53 = (7, 896)) h29 rfl ?_
                refine V.icmpeq 171 dM_judge_163 rfl rfl (fun g30 => ?_) (fun g30 => ?_)
                · replace hX := ip hX g30
                  refine V.iload 5 dM_judge_171 rfl rfl ?_
                  refine V.istoren _ dM_judge_173 (by decide) rfl rfl ?_
                  refine V.iinc 5 (1 : Int32) _ dM_judge_174 rfl lc1 (by decide) rfl rfl ?_
                  replace hX := nmx hX; generalize ji4 + (1 : Int32) = v31 at hX ⊢; try dsimp only at hX
                  refine V.goto 37 dM_judge_177 rfl ?_
                  refine V.sub [4, 5, 1, 2, 0] rfl ?_
                  exact ih σ25 ji1 ji5 v26 v31 hX
                · replace hX := im hX g30
                  refine V.iload 4 dM_judge_166 rfl rfl ?_
                  refine V.iconst (1 : Int32) dM_judge_168 lc1 rfl ?_
                  refine V.iadd dM_judge_169 rfl ?_
                  have hX := (Option.some.inj hX).symm; subst hX; exact V.iret dM_judge_170 rfl rfl
            refine V.ifeq 131 dM_judge_121 rfl rfl (fun g32 => ?_) (fun g32 => ?_)
            · refine V.iconst (0 : Int32) dM_judge_131 lc0 rfl ?_
              exact V.top (if_pos g32).symm JJ
            · refine V.iconst (1 : Int32) dM_judge_124 lc1 rfl ?_
              refine V.iload 5 dM_judge_125 rfl rfl ?_
              refine V.ishl dM_judge_127 rfl ?_
              refine V.goto 132 dM_judge_128 rfl ?_
              exact V.top (if_neg g32).symm JJ
          · try dsimp only at hX
            refine V.ifeq 115 dM_judge_78 rfl rfl (fun g33 => ?_) (fun g33 => ?_)
            · replace hX := ip hX g33
              refine V.sub [1, 2, 4, 5, 0] rfl ?_
              exact hJ115 σ i1 i3 i4 v14 hX
            · replace hX := im hX g33
              refine V.aloadn 1 dM_judge_81 rfl rfl ?_
              refine V.aloadn 1 dM_judge_82 rfl rfl ?_
              refine V.iloadn 2 dM_judge_83 rfl rfl ?_
              refine V.iconst (0 : Int32) dM_judge_84 lc0 rfl ?_
              obtain ⟨q34, c35, hX⟩ := bd hX; try dsimp only at hX
              refine V.callvi 44 [.int i1, .int (0 : Int32)] dM_judge_85 (kM_its c35) mlM_193 myM_its mnM_its ⟨rfl, rfl, by decide, by decide⟩ (rfl : kd 44 = (6, 0)) (by decide) rfl (Nat.le_of_ble_eq_true rfl) ⟨Nat.zero_le _, Nat.zero_le _⟩ rfl ?_
              refine V.iloadn 3 dM_judge_88 rfl rfl ?_
              refine V.iloadn 4 dM_judge_89 rfl rfl ?_
              refine V.aloadn 1 dM_judge_90 rfl rfl ?_
              refine V.iload 0 dM_judge_91 rfl rfl ?_
              refine V.callvi 44 [.int v14] dM_judge_93 (kM_isPerson (σ := σ) v14) mlM_203 myM_isPerson mnM_isPerson ⟨rfl, rfl, by decide, by decide⟩ (rfl : kd 44 = (6, 0)) (by decide) rfl (Nat.le_of_ble_eq_true rfl) ⟨Nat.zero_le _, Nat.zero_le _⟩ rfl ?_
              have JJ : V E mM_judge (FM E (some (.int z.1), z.2)) 105 [(5, .int v14), (0, .ref 44), (1, .int i1), (2, .int i2), (3, .int i3), (4, .int i4)] [.int (if (fM_isPerson σ v14) = 0 then (0 : Int32) else v14), .int i3, .int i2, .int q34, .ref 44] σ := by
                obtain ⟨q36, c37, hX⟩ := bd hX; try dsimp only at hX
                refine V.callvi 44 [.int q34, .int i2, .int i3, .int (if (fM_isPerson σ v14) = 0 then (0 : Int32) else v14)] dM_judge_105 (kM_mayBe c37) mlM_216 myM_mayBe mnM_mayBe ⟨rfl, rfl, by decide, by decide⟩ (rfl : kd 44 = (6, 0)) (by decide) rfl (Nat.le_of_ble_eq_true rfl) ⟨Nat.zero_le _, Nat.zero_le _⟩ rfl ?_
                have JJ : V E mM_judge (FM E (some (.int z.1), z.2)) 116 [(5, .int v14), (0, .ref 44), (1, .int i1), (2, .int i2), (3, .int i3), (4, .int i4)] [.int (if q36 = 0 then (0 : Int32) else (1 : Int32))] σ := by
                  refine V.istore _ dM_judge_116 (by decide) rfl rfl ?_
                  replace hX := nmx hX; generalize (if q36 = 0 then (0 : Int32) else (1 : Int32)) = v38 at hX ⊢; try dsimp only at hX
                  refine V.iloadn 5 dM_judge_118 rfl rfl ?_
                  refine V.iload 0 dM_judge_119 rfl rfl ?_
                  have JJ : V E mM_judge (FM E (some (.int z.1), z.2)) 132 [(6, .int v38), (5, .int v14), (0, .ref 44), (1, .int i1), (2, .int i2), (3, .int i3), (4, .int i4)] [.int (if v38 = 0 then (0 : Int32) else (1 : Int32) <<< (v14 &&& 31)), .int i3] σ := by
                    refine V.ior dM_judge_132 rfl ?_
                    refine V.istoren _ dM_judge_133 (by decide) rfl rfl ?_
                    replace hX := nmx hX; generalize i3 ||| (if v38 = 0 then (0 : Int32) else (1 : Int32) <<< (v14 &&& 31)) = v39 at hX ⊢; try dsimp only at hX
                    refine V.iload 1 dM_judge_134 rfl rfl ?_
                    refine V.ifeq 166 dM_judge_136 rfl rfl (fun g40 => ?_) (fun g40 => ?_)
                    · replace hX := ip hX g40
                      refine V.iload 6 dM_judge_166 rfl rfl ?_
                      refine V.iconst (1 : Int32) dM_judge_168 lc1 rfl ?_
                      refine V.iadd dM_judge_169 rfl ?_
                      have hX := (Option.some.inj hX).symm; subst hX; exact V.iret dM_judge_170 rfl rfl
                    · replace hX := im hX g40
                      refine V.aloadn 3 dM_judge_139 rfl rfl ?_
                      refine V.getr 44 57 dM_judge_140 flM_50 (rfl : kd 44 = (6, 0)) rfl rfl ?_
                      refine V.iconst (3 : Int32) dM_judge_143 lc3 rfl ?_
                      refine V.iload 6 dM_judge_144 rfl rfl ?_
                      refine V.imul dM_judge_146 rfl ?_
                      refine V.iconst (2 : Int32) dM_judge_147 lc2 rfl ?_
                      refine V.iadd dM_judge_148 rfl ?_
                      obtain ⟨h41, hX⟩ := ob hX
                      refine V.iald 57 dM_judge_149 (rfl : kd 57 = (7, 21)) h41 rfl ?_
                      refine V.aloadn 3 dM_judge_150 rfl rfl ?_
                      refine V.getr 44 53 dM_judge_151 flM_38 (rfl : kd 44 = (6, 0)) rfl rfl ?_
                      refine V.sipush (128 : Int32) dM_judge_154 ls128 rfl ?_
                      refine V.iload 2 dM_judge_157 rfl rfl ?_
                      refine V.imul dM_judge_159 rfl ?_
                      refine V.iloadn 0 dM_judge_160 rfl rfl ?_
                      refine V.iadd dM_judge_161 rfl ?_
                      obtain ⟨h42, hX⟩ := ob hX
                      refine V.iald 53 dM_judge_162 (rfl : kd 53 = (7, 896)) h42 rfl ?_
                      refine V.icmpeq 171 dM_judge_163 rfl rfl (fun g43 => ?_) (fun g43 => ?_)
                      · replace hX := ip hX g43
                        refine V.iload 2 dM_judge_171 rfl rfl ?_
                        refine V.istoren _ dM_judge_173 (by decide) rfl rfl ?_
                        refine V.iinc 6 (1 : Int32) _ dM_judge_174 rfl lc1 (by decide) rfl rfl ?_
                        replace hX := nmx hX; generalize i4 + (1 : Int32) = v44 at hX ⊢; try dsimp only at hX
                        refine V.goto 37 dM_judge_177 rfl ?_
                        refine V.sub [5, 6, 1, 2, 0] rfl ?_
                        exact ih σ i1 v14 v39 v44 hX
                      · replace hX := im hX g43
                        refine V.iload 6 dM_judge_166 rfl rfl ?_
                        refine V.iconst (1 : Int32) dM_judge_168 lc1 rfl ?_
                        refine V.iadd dM_judge_169 rfl ?_
                        have hX := (Option.some.inj hX).symm; subst hX; exact V.iret dM_judge_170 rfl rfl
                  refine V.ifeq 131 dM_judge_121 rfl rfl (fun g45 => ?_) (fun g45 => ?_)
                  · refine V.iconst (0 : Int32) dM_judge_131 lc0 rfl ?_
                    exact V.top (if_pos g45).symm JJ
                  · refine V.iconst (1 : Int32) dM_judge_124 lc1 rfl ?_
                    refine V.iload 1 dM_judge_125 rfl rfl ?_
                    refine V.ishl dM_judge_127 rfl ?_
                    refine V.goto 132 dM_judge_128 rfl ?_
                    exact V.top (if_neg g45).symm JJ
                refine V.ifeq 115 dM_judge_108 rfl rfl (fun g46 => ?_) (fun g46 => ?_)
                · refine V.iconst (0 : Int32) dM_judge_115 lc0 rfl ?_
                  exact V.top (if_pos g46).symm JJ
                · refine V.iconst (1 : Int32) dM_judge_111 lc1 rfl ?_
                  refine V.goto 116 dM_judge_112 rfl ?_
                  exact V.top (if_neg g46).symm JJ
              refine V.ifeq 104 dM_judge_96 rfl rfl (fun g47 => ?_) (fun g47 => ?_)
              · refine V.iconst (0 : Int32) dM_judge_104 lc0 rfl ?_
                exact V.top (if_pos g47).symm JJ
              · refine V.iload 0 dM_judge_99 rfl rfl ?_
                refine V.goto 105 dM_judge_101 rfl ?_
                exact V.top (if_neg g47).symm JJ
set_option maxRecDepth 4000 in
theorem wM_judge {E : Ev} {z : Int32 × St} (σ : St) (i1 : Int32) (hX : fM_judge σ i1 = some z) : V E mM_judge (FM E (some (.int z.1), z.2)) 0 [(0, .ref 44), (1, .int i1)] [] σ := by
  unfold fM_judge at hX
  refine V.aloadn 0 dM_judge_0 rfl rfl ?_
  refine V.iloadn 1 dM_judge_1 rfl rfl ?_
  refine V.callvi 44 [.int i1] dM_judge_2 (kM_isCoin (σ := σ) i1) mlM_223 myM_isCoin mnM_isCoin ⟨rfl, rfl, by decide, by decide⟩ (rfl : kd 44 = (6, 0)) (by decide) rfl (Nat.le_of_ble_eq_true rfl) ⟨Nat.zero_le _, Nat.zero_le _⟩ rfl ?_
  refine V.ifne 10 dM_judge_5 rfl rfl (fun g1 => ?_) (fun g1 => ?_)
  · replace hX := im hX g1
    refine V.aloadn 0 dM_judge_10 rfl rfl ?_
    refine V.aloadn 0 dM_judge_11 rfl rfl ?_
    refine V.iloadn 1 dM_judge_12 rfl rfl ?_
    refine V.iconst (0 : Int32) dM_judge_13 lc0 rfl ?_
    obtain ⟨q2, c3, hX⟩ := bd hX; try dsimp only at hX
    refine V.callvi 44 [.int i1, .int (0 : Int32)] dM_judge_14 (kM_its c3) mlM_193 myM_its mnM_its ⟨rfl, rfl, by decide, by decide⟩ (rfl : kd 44 = (6, 0)) (by decide) rfl (Nat.le_of_ble_eq_true rfl) ⟨Nat.zero_le _, Nat.zero_le _⟩ rfl ?_
    obtain ⟨σ5, c4, hX⟩ := bd hX; try dsimp only at hX
    refine V.callv0 44 [.int q2] dM_judge_17 (kM_findAll c4) mlM_252 myM_findAll mnM_findAll ⟨rfl, rfl, by decide, by decide⟩ (rfl : kd 44 = (6, 0)) (by decide) rfl (Nat.le_of_ble_eq_true rfl) ⟨Nat.zero_le _, Nat.zero_le _⟩ rfl ?_
    refine V.aloadn 0 dM_judge_20 rfl rfl ?_
    refine V.iloadn 1 dM_judge_21 rfl rfl ?_
    refine V.iconst (2 : Int32) dM_judge_22 lc2 rfl ?_
    obtain ⟨q6, c7, hX⟩ := bd hX; try dsimp only at hX
    refine V.callvi 44 [.int i1, .int (2 : Int32)] dM_judge_23 (kM_its c7) mlM_193 myM_its mnM_its ⟨rfl, rfl, by decide, by decide⟩ (rfl : kd 44 = (6, 0)) (by decide) rfl (Nat.le_of_ble_eq_true rfl) ⟨Nat.zero_le _, Nat.zero_le _⟩ rfl ?_
    refine V.istoren _ dM_judge_26 (by decide) rfl rfl ?_
    refine V.aloadn 1 dM_judge_27 rfl rfl ?_
    refine V.iloadn 2 dM_judge_28 rfl rfl ?_
    refine V.iconst (3 : Int32) dM_judge_29 lc3 rfl ?_
    obtain ⟨q8, c9, hX⟩ := bd hX; try dsimp only at hX
    refine V.callvi 44 [.int i1, .int (3 : Int32)] dM_judge_30 (kM_its c9) mlM_193 myM_its mnM_its ⟨rfl, rfl, by decide, by decide⟩ (rfl : kd 44 = (6, 0)) (by decide) rfl (Nat.le_of_ble_eq_true rfl) ⟨Nat.zero_le _, Nat.zero_le _⟩ rfl ?_
    refine V.istoren _ dM_judge_33 (by decide) rfl rfl ?_
    refine V.iconst (0 : Int32) dM_judge_34 lc0 rfl ?_
    refine V.istore _ dM_judge_35 (by decide) rfl rfl ?_
    refine V.sub [3, 4, 2, 1, 0] rfl ?_
    exact wM_judge_37 300 σ5 i1 q6 q8 (0 : Int32) hX
  · replace hX := ip hX g1
    refine V.iconst (-1 : Int32) dM_judge_8 lcm1 rfl ?_
    have hX := (Option.some.inj hX).symm; subst hX; exact V.iret dM_judge_9 rfl rfl
theorem kM_judge {E : Ev} {σ σ2 : St} {i1 : Int32} {z : Int32} (h : fM_judge σ i1 = some (z, σ2)) : Ct mM_judge E [.ref 44, .int i1] σ (some (.int z), σ2) := Ct.of (by decide) (Nat.le_of_ble_eq_true rfl) (wM_judge σ i1 h)
theorem dM_isShelf_0 : decode mM_isShelf.1 0 = .ok (.iload_n 0, 1) := by decide +kernel
theorem dM_isShelf_1 : decode mM_isShelf.1 1 = .ok (.iconst 0, 1) := by decide +kernel
theorem dM_isShelf_2 : decode mM_isShelf.1 2 = .ok (.iconst 3, 1) := by decide +kernel
theorem dM_isShelf_3 : decode mM_isShelf.1 3 = .ok (.invokestatic 84, 3) := by decide +kernel
theorem dM_isShelf_6 : decode mM_isShelf.1 6 = .ok (.ireturn, 1) := by decide +kernel
set_option maxRecDepth 4000 in
theorem wM_isShelf {E : Ev} {z : Int32} (σ : St) (i0 : Int32) (hX : fM_isShelf i0 = z) : V E mM_isShelf (FM E (some (.int z), σ)) 0 [(0, .int i0)] [] σ := by
  unfold fM_isShelf at hX
  refine V.iloadn 0 dM_isShelf_0 rfl rfl ?_
  refine V.iconst (0 : Int32) dM_isShelf_1 lc0 rfl ?_
  refine V.iconst (3 : Int32) dM_isShelf_2 lc3 rfl ?_
  refine V.callsi [.int i0, .int (0 : Int32), .int (3 : Int32)] dM_isShelf_3 (kM_in (σ := σ) i0 (0 : Int32) (3 : Int32)) mlM_84 myM_in mnM_in ⟨rfl, rfl, by decide, by decide⟩ rfl (Nat.le_of_ble_eq_true rfl) ⟨Nat.zero_le _, Nat.zero_le _⟩ rfl ?_
  subst hX; exact V.zret .boolean dM_isShelf_6 rfl (nz (bM_in i0 (0 : Int32) (3 : Int32))).1 rfl
theorem kM_isShelf {E : Ev} {σ : St} (i0 : Int32) : Ct mM_isShelf E [.int i0] σ (some (.int (fM_isShelf i0)), σ) := Ct.of (by decide) (Nat.le_of_ble_eq_true rfl) (wM_isShelf σ i0 rfl)
theorem bM_isShelf (i0 : Int32) : b01 (fM_isShelf i0) := by
  unfold fM_isShelf
  exact (bM_in i0 (0 : Int32) (3 : Int32))
theorem dM_lacksSort_0 : decode mM_lacksSort.1 0 = .ok (.aload_n 0, 1) := by decide +kernel
theorem dM_lacksSort_1 : decode mM_lacksSort.1 1 = .ok (.getfield 53, 3) := by decide +kernel
theorem dM_lacksSort_4 : decode mM_lacksSort.1 4 = .ok (.iload_n 1, 1) := by decide +kernel
theorem dM_lacksSort_5 : decode mM_lacksSort.1 5 = .ok (.iaload, 1) := by decide +kernel
theorem dM_lacksSort_6 : decode mM_lacksSort.1 6 = .ok (.ifCond .ge 8, 3) := by decide +kernel
theorem dM_lacksSort_9 : decode mM_lacksSort.1 9 = .ok (.bipush (-11), 2) := by decide +kernel
theorem dM_lacksSort_11 : decode mM_lacksSort.1 11 = .ok (.goto 19, 3) := by decide +kernel
theorem dM_lacksSort_14 : decode mM_lacksSort.1 14 = .ok (.aload_n 0, 1) := by decide +kernel
theorem dM_lacksSort_15 : decode mM_lacksSort.1 15 = .ok (.getfield 53, 3) := by decide +kernel
theorem dM_lacksSort_18 : decode mM_lacksSort.1 18 = .ok (.iload_n 1, 1) := by decide +kernel
theorem dM_lacksSort_19 : decode mM_lacksSort.1 19 = .ok (.iaload, 1) := by decide +kernel
theorem dM_lacksSort_20 : decode mM_lacksSort.1 20 = .ok (.iload_n 2, 1) := by decide +kernel
theorem dM_lacksSort_21 : decode mM_lacksSort.1 21 = .ok (.if_icmp .eq 8, 3) := by decide +kernel
theorem dM_lacksSort_24 : decode mM_lacksSort.1 24 = .ok (.bipush (-13), 2) := by decide +kernel
theorem dM_lacksSort_26 : decode mM_lacksSort.1 26 = .ok (.goto 4, 3) := by decide +kernel
theorem dM_lacksSort_29 : decode mM_lacksSort.1 29 = .ok (.iconst 0, 1) := by decide +kernel
theorem dM_lacksSort_30 : decode mM_lacksSort.1 30 = .ok (.ireturn, 1) := by decide +kernel
set_option maxRecDepth 4000 in
theorem wM_lacksSort {E : Ev} {z : Int32} (σ : St) (i1 : Int32) (i2 : Int32) (hX : fM_lacksSort σ i1 i2 = some z) : V E mM_lacksSort (FM E (some (.int z), σ)) 0 [(0, .ref 44), (1, .int i1), (2, .int i2)] [] σ := by
  unfold fM_lacksSort at hX
  refine V.aloadn 0 dM_lacksSort_0 rfl rfl ?_
  refine V.getr 44 58 dM_lacksSort_1 flM_53 (rfl : kd 44 = (6, 0)) rfl rfl ?_
  refine V.iloadn 1 dM_lacksSort_4 rfl rfl ?_
  obtain ⟨h1, hX⟩ := ob hX
  refine V.iald 58 dM_lacksSort_5 (rfl : kd 58 = (7, 4)) h1 rfl ?_
  refine V.ifge 14 dM_lacksSort_6 rfl rfl (fun g2 => ?_) (fun g2 => ?_)
  · replace hX := ip hX g2
    refine V.aloadn 0 dM_lacksSort_14 rfl rfl ?_
    refine V.getr 44 58 dM_lacksSort_15 flM_53 (rfl : kd 44 = (6, 0)) rfl rfl ?_
    refine V.iloadn 1 dM_lacksSort_18 rfl rfl ?_
    obtain ⟨h3, hX⟩ := ob hX
    refine V.iald 58 dM_lacksSort_19 (rfl : kd 58 = (7, 4)) h3 rfl ?_
    refine V.iloadn 2 dM_lacksSort_20 rfl rfl ?_
    have JJ : V E mM_lacksSort (FM E (some (.int z), σ)) 30 [(0, .ref 44), (1, .int i1), (2, .int i2)] [.int (if (gI σ 58 (ix i1)) = i2 then (0 : Int32) else (-13 : Int32))] σ := by
      have hX := (Option.some.inj hX).symm; subst hX; exact V.iret dM_lacksSort_30 rfl rfl
    refine V.icmpeq 29 dM_lacksSort_21 rfl rfl (fun g4 => ?_) (fun g4 => ?_)
    · refine V.iconst (0 : Int32) dM_lacksSort_29 lc0 rfl ?_
      exact V.top (if_pos g4).symm JJ
    · refine V.bipush (-13 : Int32) dM_lacksSort_24 lbm13 rfl ?_
      refine V.goto 30 dM_lacksSort_26 rfl ?_
      exact V.top (if_neg g4).symm JJ
  · replace hX := im hX g2
    refine V.bipush (-11 : Int32) dM_lacksSort_9 lbm11 rfl ?_
    refine V.goto 30 dM_lacksSort_11 rfl ?_
    have hX := (Option.some.inj hX).symm; subst hX; exact V.iret dM_lacksSort_30 rfl rfl
theorem kM_lacksSort {E : Ev} {σ : St} {i1 : Int32} {i2 : Int32} {z : Int32} (h : fM_lacksSort σ i1 i2 = some z) : Ct mM_lacksSort E [.ref 44, .int i1, .int i2] σ (some (.int z), σ) := Ct.of (by decide) (Nat.le_of_ble_eq_true rfl) (wM_lacksSort σ i1 i2 h)
