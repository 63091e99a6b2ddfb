theorem dE_put_0 : decode mE_put.1 0 = .ok (.aload_n 0, 1) := by decide +kernel
theorem dE_put_1 : decode mE_put.1 1 = .ok (.getfield 58, 3) := by decide +kernel
theorem dE_put_4 : decode mE_put.1 4 = .ok (.iload_n 1, 1) := by decide +kernel
theorem dE_put_5 : decode mE_put.1 5 = .ok (.invokevirtual 201, 3) := by decide +kernel
theorem dE_put_8 : decode mE_put.1 8 = .ok (.ifCond .ne 5, 3) := by decide +kernel
theorem dE_put_11 : decode mE_put.1 11 = .ok (.iconst (-1), 1) := by decide +kernel
theorem dE_put_12 : decode mE_put.1 12 = .ok (.ireturn, 1) := by decide +kernel
theorem dE_put_13 : decode mE_put.1 13 = .ok (.aload_n 0, 1) := by decide +kernel
theorem dE_put_14 : decode mE_put.1 14 = .ok (.getfield 58, 3) := by decide +kernel
theorem dE_put_17 : decode mE_put.1 17 = .ok (.getfield 225, 3) := by decide +kernel
theorem dE_put_20 : decode mE_put.1 20 = .ok (.iload_n 1, 1) := by decide +kernel
theorem dE_put_21 : decode mE_put.1 21 = .ok (.iaload, 1) := by decide +kernel
theorem dE_put_22 : decode mE_put.1 22 = .ok (.iconst (-1), 1) := by decide +kernel
theorem dE_put_23 : decode mE_put.1 23 = .ok (.if_icmp .ne 6, 3) := by decide +kernel
theorem dE_put_26 : decode mE_put.1 26 = .ok (.bipush (-11), 2) := by decide +kernel
theorem dE_put_28 : decode mE_put.1 28 = .ok (.ireturn, 1) := by decide +kernel
theorem dE_put_29 : decode mE_put.1 29 = .ok (.iload_n 2, 1) := by decide +kernel
theorem dE_put_30 : decode mE_put.1 30 = .ok (.ifCond .lt 16, 3) := by decide +kernel
theorem dE_put_33 : decode mE_put.1 33 = .ok (.iload_n 2, 1) := by decide +kernel
theorem dE_put_34 : decode mE_put.1 34 = .ok (.aload_n 0, 1) := by decide +kernel
theorem dE_put_35 : decode mE_put.1 35 = .ok (.getfield 58, 3) := by decide +kernel
theorem dE_put_38 : decode mE_put.1 38 = .ok (.getfield 207, 3) := by decide +kernel
theorem dE_put_41 : decode mE_put.1 41 = .ok (.iload_n 1, 1) := by decide +kernel
theorem dE_put_42 : decode mE_put.1 42 = .ok (.iaload, 1) := by decide +kernel
theorem dE_put_43 : decode mE_put.1 43 = .ok (.if_icmp .lt 6, 3) := by decide +kernel
theorem dE_put_46 : decode mE_put.1 46 = .ok (.bipush (-12), 2) := by decide +kernel
theorem dE_put_48 : decode mE_put.1 48 = .ok (.ireturn, 1) := by decide +kernel
theorem dE_put_49 : decode mE_put.1 49 = .ok (.aload_n 0, 1) := by decide +kernel
theorem dE_put_50 : decode mE_put.1 50 = .ok (.getfield 58, 3) := by decide +kernel
theorem dE_put_53 : decode mE_put.1 53 = .ok (.getfield 209, 3) := by decide +kernel
theorem dE_put_56 : decode mE_put.1 56 = .ok (.iload_n 1, 1) := by decide +kernel
theorem dE_put_57 : decode mE_put.1 57 = .ok (.aaload, 1) := by decide +kernel
theorem dE_put_58 : decode mE_put.1 58 = .ok (.iload_n 2, 1) := by decide +kernel
theorem dE_put_59 : decode mE_put.1 59 = .ok (.aload_n 0, 1) := by decide +kernel
theorem dE_put_60 : decode mE_put.1 60 = .ok (.getfield 58, 3) := by decide +kernel
theorem dE_put_63 : decode mE_put.1 63 = .ok (.iload_n 3, 1) := by decide +kernel
theorem dE_put_64 : decode mE_put.1 64 = .ok (.aload_n 0, 1) := by decide +kernel
theorem dE_put_65 : decode mE_put.1 65 = .ok (.getfield 58, 3) := by decide +kernel
theorem dE_put_68 : decode mE_put.1 68 = .ok (.getfield 225, 3) := by decide +kernel
theorem dE_put_71 : decode mE_put.1 71 = .ok (.iload_n 1, 1) := by decide +kernel
theorem dE_put_72 : decode mE_put.1 72 = .ok (.iaload, 1) := by decide +kernel
theorem dE_put_73 : decode mE_put.1 73 = .ok (.invokevirtual 228, 3) := by decide +kernel
theorem dE_put_76 : decode mE_put.1 76 = .ok (.iastore, 1) := by decide +kernel
theorem dE_put_77 : decode mE_put.1 77 = .ok (.iconst 1, 1) := by decide +kernel
theorem dE_put_78 : decode mE_put.1 78 = .ok (.ireturn, 1) := by decide +kernel
set_option maxRecDepth 4000 in
theorem wE_put {E : Ev} {z : Int32 × St} (σ : St) (i1 : Int32) (i2 : Int32) (i3 : Int32) (hX : fE_put σ i1 i2 i3 = some z) : V E mE_put (FM E (some (.int z.1), z.2)) 0 [(0, .ref 0), (1, .int i1), (2, .int i2), (3, .int i3)] [] σ := by
  unfold fE_put at hX
  refine V.aloadn 0 dE_put_0 rfl rfl ?_
  refine V.getr 0 33 dE_put_1 flE_58 (rfl : kd 0 = (5, 0)) rfl rfl ?_
  refine V.iloadn 1 dE_put_4 rfl rfl ?_
  refine V.callvi 33 [.int i1] dE_put_5 (kH_hasSheet (σ := σ) i1) mlE_201 myH_hasSheet mnH_hasSheet ⟨rfl, rfl, by decide, by decide⟩ (rfl : kd 33 = (1, 0)) (by decide) rfl (Nat.le_of_ble_eq_true rfl) ⟨Nat.zero_le _, Nat.zero_le _⟩ rfl ?_
  refine V.ifne 13 dE_put_8 rfl rfl (fun g1 => ?_) (fun g1 => ?_)
  · replace hX := im hX g1
    refine V.aloadn 0 dE_put_13 rfl rfl ?_
    refine V.getr 0 33 dE_put_14 flE_58 (rfl : kd 0 = (5, 0)) rfl rfl ?_
    refine V.getr 33 34 dE_put_17 flE_225 (rfl : kd 33 = (1, 0)) rfl rfl ?_
    refine V.iloadn 1 dE_put_20 rfl rfl ?_
    obtain ⟨h2, hX⟩ := ob hX
    refine V.iald 34 dE_put_21 (rfl : kd 34 = (7, 4)) h2 rfl ?_
    refine V.iconst (-1 : Int32) dE_put_22 lcm1 rfl ?_
    refine V.icmpne 29 dE_put_23 rfl rfl (fun g3 => ?_) (fun g3 => ?_)
    · replace hX := im hX g3
      refine V.iloadn 2 dE_put_29 rfl rfl ?_
      refine V.iflt 46 dE_put_30 rfl rfl (fun g4 => ?_) (fun g4 => ?_)
      · replace hX := ip hX g4
        refine V.bipush (-12 : Int32) dE_put_46 lbm12 rfl ?_
        have hX := (Option.some.inj hX).symm; subst hX; exact V.iret dE_put_48 rfl rfl
      · replace hX := im hX g4
        refine V.iloadn 2 dE_put_33 rfl rfl ?_
        refine V.aloadn 0 dE_put_34 rfl rfl ?_
        refine V.getr 0 33 dE_put_35 flE_58 (rfl : kd 0 = (5, 0)) rfl rfl ?_
        refine V.getr 33 35 dE_put_38 flE_207 (rfl : kd 33 = (1, 0)) rfl rfl ?_
        refine V.iloadn 1 dE_put_41 rfl rfl ?_
        obtain ⟨h5, hX⟩ := ob hX
        refine V.iald 35 dE_put_42 (rfl : kd 35 = (7, 4)) h5 rfl ?_
        refine V.icmplt 49 dE_put_43 rfl rfl (fun g6 => ?_) (fun g6 => ?_)
        · replace hX := ip hX g6
          refine V.aloadn 0 dE_put_49 rfl rfl ?_
          refine V.getr 0 33 dE_put_50 flE_58 (rfl : kd 0 = (5, 0)) rfl rfl ?_
          refine V.getr 33 36 dE_put_53 flE_209 (rfl : kd 33 = (1, 0)) rfl rfl ?_
          refine V.iloadn 1 dE_put_56 rfl rfl ?_
          obtain ⟨h7, hX⟩ := ob hX
          refine V.aald 36 dE_put_57 (rfl : kd 36 = (9, 4)) h7 rfl ?_
          refine V.iloadn 2 dE_put_58 rfl rfl ?_
          refine V.aloadn 0 dE_put_59 rfl rfl ?_
          refine V.getr 0 33 dE_put_60 flE_58 (rfl : kd 0 = (5, 0)) rfl rfl ?_
          refine V.iloadn 3 dE_put_63 rfl rfl ?_
          refine V.aloadn 0 dE_put_64 rfl rfl ?_
          refine V.getr 0 33 dE_put_65 flE_58 (rfl : kd 0 = (5, 0)) rfl rfl ?_
          refine V.getr 33 34 dE_put_68 flE_225 (rfl : kd 33 = (1, 0)) rfl rfl ?_
          refine V.iloadn 1 dE_put_71 rfl rfl ?_
          obtain ⟨h8, hX⟩ := ob hX
          refine V.iald 34 dE_put_72 (rfl : kd 34 = (7, 4)) h8 rfl ?_
          refine V.callvi 33 [.int i3, .int (gI σ 34 (ix i1))] dE_put_73 (kH_narrowed (σ := σ) i3 (gI σ 34 (ix i1))) mlE_228 myH_narrowed mnH_narrowed ⟨rfl, rfl, by decide, by decide⟩ (rfl : kd 33 = (1, 0)) (by decide) rfl (Nat.le_of_ble_eq_true rfl) ⟨Nat.zero_le _, Nat.zero_le _⟩ rfl ?_
          obtain ⟨h9, hX⟩ := ob hX
          refine V.iast (36 + 1 + ix i1) dE_put_76 (kdit h7) h9 rfl ?_
          replace hX := nmx hX; generalize sI σ (36 + 1 + ix i1) (ix i2) (fH_narrowed i3 (gI σ 34 (ix i1))) = σ10 at hX ⊢; try dsimp only at hX
          refine V.iconst (1 : Int32) dE_put_77 lc1 rfl ?_
          have hX := (Option.some.inj hX).symm; subst hX; exact V.iret dE_put_78 rfl rfl
        · replace hX := im hX g6
          refine V.bipush (-12 : Int32) dE_put_46 lbm12 rfl ?_
          have hX := (Option.some.inj hX).symm; subst hX; exact V.iret dE_put_48 rfl rfl
    · replace hX := ip hX g3
      refine V.bipush (-11 : Int32) dE_put_26 lbm11 rfl ?_
      have hX := (Option.some.inj hX).symm; subst hX; exact V.iret dE_put_28 rfl rfl
  · replace hX := ip hX g1
    refine V.iconst (-1 : Int32) dE_put_11 lcm1 rfl ?_
    have hX := (Option.some.inj hX).symm; subst hX; exact V.iret dE_put_12 rfl rfl
theorem kE_put {E : Ev} {σ σ2 : St} {i1 : Int32} {i2 : Int32} {i3 : Int32} {z : Int32} (h : fE_put σ i1 i2 i3 = some (z, σ2)) : Ct mE_put E [.ref 0, .int i1, .int i2, .int i3] σ (some (.int z), σ2) := Ct.of (by decide) (Nat.le_of_ble_eq_true rfl) (wE_put σ i1 i2 i3 h)
theorem dE_item_0 : decode mE_item.1 0 = .ok (.aload_n 0, 1) := by decide +kernel
theorem dE_item_1 : decode mE_item.1 1 = .ok (.getfield 58, 3) := by decide +kernel
theorem dE_item_4 : decode mE_item.1 4 = .ok (.iload_n 1, 1) := by decide +kernel
theorem dE_item_5 : decode mE_item.1 5 = .ok (.invokevirtual 201, 3) := by decide +kernel
theorem dE_item_8 : decode mE_item.1 8 = .ok (.ifCond .eq 12, 3) := by decide +kernel
theorem dE_item_11 : decode mE_item.1 11 = .ok (.iload_n 2, 1) := by decide +kernel
theorem dE_item_12 : decode mE_item.1 12 = .ok (.ifCond .lt 8, 3) := by decide +kernel
theorem dE_item_15 : decode mE_item.1 15 = .ok (.iload_n 2, 1) := by decide +kernel
theorem dE_item_16 : decode mE_item.1 16 = .ok (.iconst 3, 1) := by decide +kernel
theorem dE_item_17 : decode mE_item.1 17 = .ok (.if_icmp .le 5, 3) := by decide +kernel
theorem dE_item_20 : decode mE_item.1 20 = .ok (.iconst (-1), 1) := by decide +kernel
theorem dE_item_21 : decode mE_item.1 21 = .ok (.ireturn, 1) := by decide +kernel
theorem dE_item_22 : decode mE_item.1 22 = .ok (.aload_n 0, 1) := by decide +kernel
theorem dE_item_23 : decode mE_item.1 23 = .ok (.getfield 58, 3) := by decide +kernel
theorem dE_item_26 : decode mE_item.1 26 = .ok (.iload_n 1, 1) := by decide +kernel
theorem dE_item_27 : decode mE_item.1 27 = .ok (.iload_n 2, 1) := by decide +kernel
theorem dE_item_28 : decode mE_item.1 28 = .ok (.invokevirtual 204, 3) := by decide +kernel
theorem dE_item_31 : decode mE_item.1 31 = .ok (.istore 4, 2) := by decide +kernel
theorem dE_item_33 : decode mE_item.1 33 = .ok (.iload 4, 2) := by decide +kernel
theorem dE_item_35 : decode mE_item.1 35 = .ok (.ifCond .eq 6, 3) := by decide +kernel
theorem dE_item_38 : decode mE_item.1 38 = .ok (.iload 4, 2) := by decide +kernel
theorem dE_item_40 : decode mE_item.1 40 = .ok (.ireturn, 1) := by decide +kernel
theorem dE_item_41 : decode mE_item.1 41 = .ok (.iload_n 3, 1) := by decide +kernel
theorem dE_item_42 : decode mE_item.1 42 = .ok (.ifCond .lt 30, 3) := by decide +kernel
theorem dE_item_45 : decode mE_item.1 45 = .ok (.iload_n 3, 1) := by decide +kernel
theorem dE_item_46 : decode mE_item.1 46 = .ok (.aload_n 0, 1) := by decide +kernel
theorem dE_item_47 : decode mE_item.1 47 = .ok (.getfield 58, 3) := by decide +kernel
theorem dE_item_50 : decode mE_item.1 50 = .ok (.getfield 207, 3) := by decide +kernel
theorem dE_item_53 : decode mE_item.1 53 = .ok (.iload_n 1, 1) := by decide +kernel
theorem dE_item_54 : decode mE_item.1 54 = .ok (.iaload, 1) := by decide +kernel
theorem dE_item_55 : decode mE_item.1 55 = .ok (.if_icmp .ge 17, 3) := by decide +kernel
theorem dE_item_58 : decode mE_item.1 58 = .ok (.aload_n 0, 1) := by decide +kernel
theorem dE_item_59 : decode mE_item.1 59 = .ok (.getfield 58, 3) := by decide +kernel
theorem dE_item_62 : decode mE_item.1 62 = .ok (.getfield 209, 3) := by decide +kernel
theorem dE_item_65 : decode mE_item.1 65 = .ok (.iload_n 1, 1) := by decide +kernel
theorem dE_item_66 : decode mE_item.1 66 = .ok (.aaload, 1) := by decide +kernel
theorem dE_item_67 : decode mE_item.1 67 = .ok (.iload_n 3, 1) := by decide +kernel
theorem dE_item_68 : decode mE_item.1 68 = .ok (.iaload, 1) := by decide +kernel
theorem dE_item_69 : decode mE_item.1 69 = .ok (.goto 5, 3) := by decide +kernel
theorem dE_item_72 : decode mE_item.1 72 = .ok (.bipush (-12), 2) := by decide +kernel
theorem dE_item_74 : decode mE_item.1 74 = .ok (.ireturn, 1) := by decide +kernel
set_option maxRecDepth 4000 in
theorem wE_item {E : Ev} {z : Int32} (σ : St) (i1 : Int32) (i2 : Int32) (i3 : Int32) (hX : fE_item σ i1 i2 i3 = some z) : V E mE_item (FM E (some (.int z), σ)) 0 [(0, .ref 0), (1, .int i1), (2, .int i2), (3, .int i3)] [] σ := by
  unfold fE_item at hX
  refine V.aloadn 0 dE_item_0 rfl rfl ?_
  refine V.getr 0 33 dE_item_1 flE_58 (rfl : kd 0 = (5, 0)) rfl rfl ?_
  refine V.iloadn 1 dE_item_4 rfl rfl ?_
  refine V.callvi 33 [.int i1] dE_item_5 (kH_hasSheet (σ := σ) i1) mlE_201 myH_hasSheet mnH_hasSheet ⟨rfl, rfl, by decide, by decide⟩ (rfl : kd 33 = (1, 0)) (by decide) rfl (Nat.le_of_ble_eq_true rfl) ⟨Nat.zero_le _, Nat.zero_le _⟩ rfl ?_
  refine V.ifeq 20 dE_item_8 rfl rfl (fun g1 => ?_) (fun g1 => ?_)
  · replace hX := ip hX g1
    refine V.iconst (-1 : Int32) dE_item_20 lcm1 rfl ?_
    have hX := (Option.some.inj hX).symm; subst hX; exact V.iret dE_item_21 rfl rfl
  · replace hX := im hX g1
    refine V.iloadn 2 dE_item_11 rfl rfl ?_
    refine V.iflt 20 dE_item_12 rfl rfl (fun g2 => ?_) (fun g2 => ?_)
    · replace hX := ip hX g2
      refine V.iconst (-1 : Int32) dE_item_20 lcm1 rfl ?_
      have hX := (Option.some.inj hX).symm; subst hX; exact V.iret dE_item_21 rfl rfl
    · replace hX := im hX g2
      refine V.iloadn 2 dE_item_15 rfl rfl ?_
      refine V.iconst (3 : Int32) dE_item_16 lc3 rfl ?_
      refine V.icmple 22 dE_item_17 rfl rfl (fun g3 => ?_) (fun g3 => ?_)
      · replace hX := ip hX g3
        refine V.aloadn 0 dE_item_22 rfl rfl ?_
        refine V.getr 0 33 dE_item_23 flE_58 (rfl : kd 0 = (5, 0)) rfl rfl ?_
        refine V.iloadn 1 dE_item_26 rfl rfl ?_
        refine V.iloadn 2 dE_item_27 rfl rfl ?_
        obtain ⟨q4, c5, hX⟩ := bd hX; try dsimp only at hX
        refine V.callvi 33 [.int i1, .int i2] dE_item_28 (kH_refusalAs c5) mlE_204 myH_refusalAs mnH_refusalAs ⟨rfl, rfl, by decide, by decide⟩ (rfl : kd 33 = (1, 0)) (by decide) rfl (Nat.le_of_ble_eq_true rfl) ⟨Nat.zero_le _, Nat.zero_le _⟩ rfl ?_
        refine V.istore _ dE_item_31 (by decide) rfl rfl ?_
        refine V.iload 0 dE_item_33 rfl rfl ?_
        refine V.ifeq 41 dE_item_35 rfl rfl (fun g6 => ?_) (fun g6 => ?_)
        · replace hX := ip hX g6
          refine V.iloadn 4 dE_item_41 rfl rfl ?_
          refine V.iflt 72 dE_item_42 rfl rfl (fun g7 => ?_) (fun g7 => ?_)
          · replace hX := ip hX g7
            refine V.bipush (-12 : Int32) dE_item_72 lbm12 rfl ?_
            have hX := (Option.some.inj hX).symm; subst hX; exact V.iret dE_item_74 rfl rfl
          · replace hX := im hX g7
            refine V.iloadn 4 dE_item_45 rfl rfl ?_
            refine V.aloadn 1 dE_item_46 rfl rfl ?_
            refine V.getr 0 33 dE_item_47 flE_58 (rfl : kd 0 = (5, 0)) rfl rfl ?_
            refine V.getr 33 35 dE_item_50 flE_207 (rfl : kd 33 = (1, 0)) rfl rfl ?_
            refine V.iloadn 2 dE_item_53 rfl rfl ?_
            obtain ⟨h8, hX⟩ := ob hX
            refine V.iald 35 dE_item_54 (rfl : kd 35 = (7, 4)) h8 rfl ?_
            refine V.icmpge 72 dE_item_55 rfl rfl (fun g9 => ?_) (fun g9 => ?_)
            · replace hX := ip hX g9
              refine V.bipush (-12 : Int32) dE_item_72 lbm12 rfl ?_
              have hX := (Option.some.inj hX).symm; subst hX; exact V.iret dE_item_74 rfl rfl
            · replace hX := im hX g9
              refine V.aloadn 1 dE_item_58 rfl rfl ?_
              refine V.getr 0 33 dE_item_59 flE_58 (rfl : kd 0 = (5, 0)) rfl rfl ?_
              refine V.getr 33 36 dE_item_62 flE_209 (rfl : kd 33 = (1, 0)) rfl rfl ?_
              refine V.iloadn 2 dE_item_65 rfl rfl ?_
              obtain ⟨h10, hX⟩ := ob hX
              refine V.aald 36 dE_item_66 (rfl : kd 36 = (9, 4)) h10 rfl ?_
              refine V.iloadn 4 dE_item_67 rfl rfl ?_
              obtain ⟨h11, hX⟩ := ob hX
              refine V.iald (36 + 1 + ix i1) dE_item_68 (kdit h10) h11 rfl ?_
              refine V.goto 74 dE_item_69 rfl ?_
              have hX := (Option.some.inj hX).symm; subst hX; exact V.iret dE_item_74 rfl rfl
        · replace hX := im hX g6
          refine V.iload 0 dE_item_38 rfl rfl ?_
          have hX := (Option.some.inj hX).symm; subst hX; exact V.iret dE_item_40 rfl rfl
      · replace hX := im hX g3
        refine V.iconst (-1 : Int32) dE_item_20 lcm1 rfl ?_
        have hX := (Option.some.inj hX).symm; subst hX; exact V.iret dE_item_21 rfl rfl
theorem kE_item {E : Ev} {σ : St} {i1 : Int32} {i2 : Int32} {i3 : Int32} {z : Int32} (h : fE_item σ i1 i2 i3 = some z) : Ct mE_item E [.ref 0, .int i1, .int i2, .int i3] σ (some (.int z), σ) := Ct.of (by decide) (Nat.le_of_ble_eq_true rfl) (wE_item σ i1 i2 i3 h)
theorem dH_hasShelf_0 : decode mH_hasShelf.1 0 = .ok (.iload_n 1, 1) := by decide +kernel
theorem dH_hasShelf_1 : decode mH_hasShelf.1 1 = .ok (.ifCond .lt 12, 3) := by decide +kernel
theorem dH_hasShelf_4 : decode mH_hasShelf.1 4 = .ok (.iload_n 1, 1) := by decide +kernel
theorem dH_hasShelf_5 : decode mH_hasShelf.1 5 = .ok (.iconst 4, 1) := by decide +kernel
theorem dH_hasShelf_6 : decode mH_hasShelf.1 6 = .ok (.if_icmp .ge 7, 3) := by decide +kernel
theorem dH_hasShelf_9 : decode mH_hasShelf.1 9 = .ok (.iconst 1, 1) := by decide +kernel
theorem dH_hasShelf_10 : decode mH_hasShelf.1 10 = .ok (.goto 4, 3) := by decide +kernel
theorem dH_hasShelf_13 : decode mH_hasShelf.1 13 = .ok (.iconst 0, 1) := by decide +kernel
theorem dH_hasShelf_14 : decode mH_hasShelf.1 14 = .ok (.ireturn, 1) := by decide +kernel
set_option maxRecDepth 4000 in
theorem wH_hasShelf {E : Ev} {z : Int32} (σ : St) (i1 : Int32) (hX : fH_hasShelf i1 = z) : V E mH_hasShelf (FM E (some (.int z), σ)) 0 [(0, .ref 33), (1, .int i1)] [] σ := by
  unfold fH_hasShelf at hX
  refine V.iloadn 1 dH_hasShelf_0 rfl rfl ?_
  have JJ : V E mH_hasShelf (FM E (some (.int z), σ)) 14 [(0, .ref 33), (1, .int i1)] [.int (if i1 < 0 then (0 : Int32) else (if (4 : Int32) ≤ i1 then (0 : Int32) else (1 : Int32)))] σ := by
    subst hX; exact V.zret .boolean dH_hasShelf_14 rfl (nz (b01_i b01_0 (b01_i b01_0 b01_1))).1 rfl
  refine V.iflt 13 dH_hasShelf_1 rfl rfl (fun g1 => ?_) (fun g1 => ?_)
  · refine V.iconst (0 : Int32) dH_hasShelf_13 lc0 rfl ?_
    exact V.top (if_pos g1).symm JJ
  · refine V.iloadn 1 dH_hasShelf_4 rfl rfl ?_
    refine V.iconst (4 : Int32) dH_hasShelf_5 lc4 rfl ?_
    refine V.icmpge 13 dH_hasShelf_6 rfl rfl (fun g2 => ?_) (fun g2 => ?_)
    · refine V.iconst (0 : Int32) dH_hasShelf_13 lc0 rfl ?_
      exact V.top ((if_neg g1).trans (if_pos g2)).symm JJ
    · refine V.iconst (1 : Int32) dH_hasShelf_9 lc1 rfl ?_
      refine V.goto 14 dH_hasShelf_10 rfl ?_
      exact V.top ((if_neg g1).trans (if_neg g2)).symm JJ
theorem kH_hasShelf {E : Ev} {σ : St} (i1 : Int32) : Ct mH_hasShelf E [.ref 33, .int i1] σ (some (.int (fH_hasShelf i1)), σ) := Ct.of (by decide) (Nat.le_of_ble_eq_true rfl) (wH_hasShelf σ i1 rfl)
theorem bH_hasShelf (i1 : Int32) : b01 (fH_hasShelf i1) := by
  unfold fH_hasShelf
  exact (b01_i b01_0 (b01_i b01_0 b01_1))
theorem dH_holdCoin_0 : decode mH_holdCoin.1 0 = .ok (.aload_n 0, 1) := by decide +kernel
theorem dH_holdCoin_1 : decode mH_holdCoin.1 1 = .ok (.getfield 23, 3) := by decide +kernel
theorem dH_holdCoin_4 : decode mH_holdCoin.1 4 = .ok (.iload_n 1, 1) := by decide +kernel
theorem dH_holdCoin_5 : decode mH_holdCoin.1 5 = .ok (.iconst 0, 1) := by decide +kernel
theorem dH_holdCoin_6 : decode mH_holdCoin.1 6 = .ok (.iastore, 1) := by decide +kernel
theorem dH_holdCoin_7 : decode mH_holdCoin.1 7 = .ok (.aload_n 0, 1) := by decide +kernel
theorem dH_holdCoin_8 : decode mH_holdCoin.1 8 = .ok (.getfield 26, 3) := by decide +kernel
theorem dH_holdCoin_11 : decode mH_holdCoin.1 11 = .ok (.iload_n 1, 1) := by decide +kernel
theorem dH_holdCoin_12 : decode mH_holdCoin.1 12 = .ok (.iload_n 2, 1) := by decide +kernel
theorem dH_holdCoin_13 : decode mH_holdCoin.1 13 = .ok (.iastore, 1) := by decide +kernel
theorem dH_holdCoin_14 : decode mH_holdCoin.1 14 = .ok (.return_, 1) := by decide +kernel
set_option maxRecDepth 4000 in
theorem wH_holdCoin {E : Ev} {z : St} (σ : St) (i1 : Int32) (i2 : Int32) (hX : fH_holdCoin σ i1 i2 = some z) : V E mH_holdCoin (FM E (none, z)) 0 [(0, .ref 33), (1, .int i1), (2, .int i2)] [] σ := by
  unfold fH_holdCoin at hX
  refine V.aloadn 0 dH_holdCoin_0 rfl rfl ?_
  refine V.getr 33 41 dH_holdCoin_1 flH_23 (rfl : kd 33 = (1, 0)) rfl rfl ?_
  refine V.iloadn 1 dH_holdCoin_4 rfl rfl ?_
  refine V.iconst (0 : Int32) dH_holdCoin_5 lc0 rfl ?_
  obtain ⟨h1, hX⟩ := ob hX
  refine V.iast 41 dH_holdCoin_6 (rfl : kd 41 = (7, 4)) h1 rfl ?_
  replace hX := nmx hX; generalize sI σ 41 (ix i1) (0 : Int32) = σ2 at hX ⊢; try dsimp only at hX
  refine V.aloadn 0 dH_holdCoin_7 rfl rfl ?_
  refine V.getr 33 42 dH_holdCoin_8 flH_26 (rfl : kd 33 = (1, 0)) rfl rfl ?_
  refine V.iloadn 1 dH_holdCoin_11 rfl rfl ?_
  refine V.iloadn 2 dH_holdCoin_12 rfl rfl ?_
  obtain ⟨h3, hX⟩ := ob hX
  refine V.iast 42 dH_holdCoin_13 (rfl : kd 42 = (7, 4)) h3 rfl ?_
  replace hX := nmx hX; generalize sI σ2 42 (ix i1) i2 = σ4 at hX ⊢; try dsimp only at hX
  have hX := (Option.some.inj hX).symm; subst hX; exact V.vret dH_holdCoin_14 rfl rfl
theorem kH_holdCoin {E : Ev} {σ z : St} {i1 : Int32} {i2 : Int32} (h : fH_holdCoin σ i1 i2 = some z) : Ct mH_holdCoin E [.ref 33, .int i1, .int i2] σ (none, z) := Ct.of (by decide) (Nat.le_of_ble_eq_true rfl) (wH_holdCoin σ i1 i2 h)
theorem dH_holdRow_0 : decode mH_holdRow.1 0 = .ok (.aload_n 0, 1) := by decide +kernel
theorem dH_holdRow_1 : decode mH_holdRow.1 1 = .ok (.getfield 23, 3) := by decide +kernel
theorem dH_holdRow_4 : decode mH_holdRow.1 4 = .ok (.iload_n 1, 1) := by decide +kernel
theorem dH_holdRow_5 : decode mH_holdRow.1 5 = .ok (.aload_n 0, 1) := by decide +kernel
theorem dH_holdRow_6 : decode mH_holdRow.1 6 = .ok (.getfield 9, 3) := by decide +kernel
theorem dH_holdRow_9 : decode mH_holdRow.1 9 = .ok (.iload_n 2, 1) := by decide +kernel
theorem dH_holdRow_10 : decode mH_holdRow.1 10 = .ok (.iaload, 1) := by decide +kernel
theorem dH_holdRow_11 : decode mH_holdRow.1 11 = .ok (.iconst (-1), 1) := by decide +kernel
theorem dH_holdRow_12 : decode mH_holdRow.1 12 = .ok (.if_icmp .ne 7, 3) := by decide +kernel
theorem dH_holdRow_15 : decode mH_holdRow.1 15 = .ok (.iconst 2, 1) := by decide +kernel
theorem dH_holdRow_16 : decode mH_holdRow.1 16 = .ok (.goto 4, 3) := by decide +kernel
theorem dH_holdRow_19 : decode mH_holdRow.1 19 = .ok (.iconst 1, 1) := by decide +kernel
theorem dH_holdRow_20 : decode mH_holdRow.1 20 = .ok (.iastore, 1) := by decide +kernel
theorem dH_holdRow_21 : decode mH_holdRow.1 21 = .ok (.aload_n 0, 1) := by decide +kernel
theorem dH_holdRow_22 : decode mH_holdRow.1 22 = .ok (.getfield 26, 3) := by decide +kernel
theorem dH_holdRow_25 : decode mH_holdRow.1 25 = .ok (.iload_n 1, 1) := by decide +kernel
theorem dH_holdRow_26 : decode mH_holdRow.1 26 = .ok (.aload_n 0, 1) := by decide +kernel
theorem dH_holdRow_27 : decode mH_holdRow.1 27 = .ok (.getfield 15, 3) := by decide +kernel
theorem dH_holdRow_30 : decode mH_holdRow.1 30 = .ok (.iload_n 2, 1) := by decide +kernel
theorem dH_holdRow_31 : decode mH_holdRow.1 31 = .ok (.iaload, 1) := by decide +kernel
theorem dH_holdRow_32 : decode mH_holdRow.1 32 = .ok (.iastore, 1) := by decide +kernel
theorem dH_holdRow_33 : decode mH_holdRow.1 33 = .ok (.aload_n 0, 1) := by decide +kernel
theorem dH_holdRow_34 : decode mH_holdRow.1 34 = .ok (.getfield 29, 3) := by decide +kernel
theorem dH_holdRow_37 : decode mH_holdRow.1 37 = .ok (.iload_n 1, 1) := by decide +kernel
theorem dH_holdRow_38 : decode mH_holdRow.1 38 = .ok (.aload_n 0, 1) := by decide +kernel
theorem dH_holdRow_39 : decode mH_holdRow.1 39 = .ok (.getfield 9, 3) := by decide +kernel
theorem dH_holdRow_42 : decode mH_holdRow.1 42 = .ok (.iload_n 2, 1) := by decide +kernel
theorem dH_holdRow_43 : decode mH_holdRow.1 43 = .ok (.iaload, 1) := by decide +kernel
theorem dH_holdRow_44 : decode mH_holdRow.1 44 = .ok (.iastore, 1) := by decide +kernel
theorem dH_holdRow_45 : decode mH_holdRow.1 45 = .ok (.return_, 1) := by decide +kernel
set_option maxRecDepth 4000 in
theorem wH_holdRow {E : Ev} {z : St} (σ : St) (i1 : Int32) (i2 : Int32) (hX : fH_holdRow σ i1 i2 = some z) : V E mH_holdRow (FM E (none, z)) 0 [(0, .ref 33), (1, .int i1), (2, .int i2)] [] σ := by
  unfold fH_holdRow at hX
  refine V.aloadn 0 dH_holdRow_0 rfl rfl ?_
  refine V.getr 33 41 dH_holdRow_1 flH_23 (rfl : kd 33 = (1, 0)) rfl rfl ?_
  refine V.iloadn 1 dH_holdRow_4 rfl rfl ?_
  refine V.aloadn 0 dH_holdRow_5 rfl rfl ?_
  refine V.getr 33 34 dH_holdRow_6 flH_9 (rfl : kd 33 = (1, 0)) rfl rfl ?_
  refine V.iloadn 2 dH_holdRow_9 rfl rfl ?_
  obtain ⟨h1, hX⟩ := ob hX
  refine V.iald 34 dH_holdRow_10 (rfl : kd 34 = (7, 4)) h1 rfl ?_
  refine V.iconst (-1 : Int32) dH_holdRow_11 lcm1 rfl ?_
  have JJ : V E mH_holdRow (FM E (none, z)) 20 [(0, .ref 33), (1, .int i1), (2, .int i2)] [.int (if (gI σ 34 (ix i2)) = (-1 : Int32) then (2 : Int32) else (1 : Int32)), .int i1, .ref 41] σ := by
    obtain ⟨h2, hX⟩ := ob hX
    refine V.iast 41 dH_holdRow_20 (rfl : kd 41 = (7, 4)) h2 rfl ?_
    replace hX := nmx hX; generalize sI σ 41 (ix i1) (if (gI σ 34 (ix i2)) = (-1 : Int32) then (2 : Int32) else (1 : Int32)) = σ3 at hX ⊢; try dsimp only at hX
    refine V.aloadn 0 dH_holdRow_21 rfl rfl ?_
    refine V.getr 33 42 dH_holdRow_22 flH_26 (rfl : kd 33 = (1, 0)) rfl rfl ?_
    refine V.iloadn 1 dH_holdRow_25 rfl rfl ?_
    refine V.aloadn 0 dH_holdRow_26 rfl rfl ?_
    refine V.getr 33 35 dH_holdRow_27 flH_15 (rfl : kd 33 = (1, 0)) rfl rfl ?_
    refine V.iloadn 2 dH_holdRow_30 rfl rfl ?_
    obtain ⟨h4, hX⟩ := ob hX
    refine V.iald 35 dH_holdRow_31 (rfl : kd 35 = (7, 4)) h4 rfl ?_
    obtain ⟨h5, hX⟩ := ob hX
    refine V.iast 42 dH_holdRow_32 (rfl : kd 42 = (7, 4)) h5 rfl ?_
    replace hX := nmx hX; generalize sI σ3 42 (ix i1) (gI σ3 35 (ix i2)) = σ6 at hX ⊢; try dsimp only at hX
    refine V.aloadn 0 dH_holdRow_33 rfl rfl ?_
    refine V.getr 33 43 dH_holdRow_34 flH_29 (rfl : kd 33 = (1, 0)) rfl rfl ?_
    refine V.iloadn 1 dH_holdRow_37 rfl rfl ?_
    refine V.aloadn 0 dH_holdRow_38 rfl rfl ?_
    refine V.getr 33 34 dH_holdRow_39 flH_9 (rfl : kd 33 = (1, 0)) rfl rfl ?_
    refine V.iloadn 2 dH_holdRow_42 rfl rfl ?_
    obtain ⟨h7, hX⟩ := ob hX
    refine V.iald 34 dH_holdRow_43 (rfl : kd 34 = (7, 4)) h7 rfl ?_
    obtain ⟨h8, hX⟩ := ob hX
    refine V.iast 43 dH_holdRow_44 (rfl : kd 43 = (7, 4)) h8 rfl ?_
    replace hX := nmx hX; generalize sI σ6 43 (ix i1) (gI σ6 34 (ix i2)) = σ9 at hX ⊢; try dsimp only at hX
    have hX := (Option.some.inj hX).symm; subst hX; exact V.vret dH_holdRow_45 rfl rfl
  refine V.icmpne 19 dH_holdRow_12 rfl rfl (fun g10 => ?_) (fun g10 => ?_)
  · refine V.iconst (1 : Int32) dH_holdRow_19 lc1 rfl ?_
    exact V.top (if_neg g10).symm JJ
  · refine V.iconst (2 : Int32) dH_holdRow_15 lc2 rfl ?_
    refine V.goto 20 dH_holdRow_16 rfl ?_
    exact V.top (if_pos g10).symm JJ
theorem kH_holdRow {E : Ev} {σ z : St} {i1 : Int32} {i2 : Int32} (h : fH_holdRow σ i1 i2 = some z) : Ct mH_holdRow E [.ref 33, .int i1, .int i2] σ (none, z) := Ct.of (by decide) (Nat.le_of_ble_eq_true rfl) (wH_holdRow σ i1 i2 h)
theorem dE_shelf_0 : decode mE_shelf.1 0 = .ok (.aload_n 0, 1) := by decide +kernel
theorem dE_shelf_1 : decode mE_shelf.1 1 = .ok (.getfield 58, 3) := by decide +kernel
theorem dE_shelf_4 : decode mE_shelf.1 4 = .ok (.iload_n 1, 1) := by decide +kernel
theorem dE_shelf_5 : decode mE_shelf.1 5 = .ok (.invokevirtual 231, 3) := by decide +kernel
theorem dE_shelf_8 : decode mE_shelf.1 8 = .ok (.ifCond .ne 5, 3) := by decide +kernel
theorem dE_shelf_11 : decode mE_shelf.1 11 = .ok (.iconst (-1), 1) := by decide +kernel
theorem dE_shelf_12 : decode mE_shelf.1 12 = .ok (.ireturn, 1) := by decide +kernel
theorem dE_shelf_13 : decode mE_shelf.1 13 = .ok (.iload_n 2, 1) := by decide +kernel
theorem dE_shelf_14 : decode mE_shelf.1 14 = .ok (.ifCond .ne 25, 3) := by decide +kernel
theorem dE_shelf_17 : decode mE_shelf.1 17 = .ok (.aload_n 0, 1) := by decide +kernel
theorem dE_shelf_18 : decode mE_shelf.1 18 = .ok (.getfield 10, 3) := by decide +kernel
theorem dE_shelf_21 : decode mE_shelf.1 21 = .ok (.iload_n 3, 1) := by decide +kernel
theorem dE_shelf_22 : decode mE_shelf.1 22 = .ok (.invokevirtual 125, 3) := by decide +kernel
theorem dE_shelf_25 : decode mE_shelf.1 25 = .ok (.ifCond .eq 14, 3) := by decide +kernel
theorem dE_shelf_28 : decode mE_shelf.1 28 = .ok (.aload_n 0, 1) := by decide +kernel
theorem dE_shelf_29 : decode mE_shelf.1 29 = .ok (.getfield 58, 3) := by decide +kernel
theorem dE_shelf_32 : decode mE_shelf.1 32 = .ok (.iload_n 1, 1) := by decide +kernel
theorem dE_shelf_33 : decode mE_shelf.1 33 = .ok (.iload_n 3, 1) := by decide +kernel
theorem dE_shelf_34 : decode mE_shelf.1 34 = .ok (.invokevirtual 234, 3) := by decide +kernel
theorem dE_shelf_37 : decode mE_shelf.1 37 = .ok (.iconst 1, 1) := by decide +kernel
theorem dE_shelf_38 : decode mE_shelf.1 38 = .ok (.ireturn, 1) := by decide +kernel
theorem dE_shelf_39 : decode mE_shelf.1 39 = .ok (.iload_n 2, 1) := by decide +kernel
theorem dE_shelf_40 : decode mE_shelf.1 40 = .ok (.iconst 1, 1) := by decide +kernel
theorem dE_shelf_41 : decode mE_shelf.1 41 = .ok (.if_icmp .ne 25, 3) := by decide +kernel
theorem dE_shelf_44 : decode mE_shelf.1 44 = .ok (.aload_n 0, 1) := by decide +kernel
theorem dE_shelf_45 : decode mE_shelf.1 45 = .ok (.getfield 58, 3) := by decide +kernel
theorem dE_shelf_48 : decode mE_shelf.1 48 = .ok (.iload_n 3, 1) := by decide +kernel
theorem dE_shelf_49 : decode mE_shelf.1 49 = .ok (.invokevirtual 201, 3) := by decide +kernel
theorem dE_shelf_52 : decode mE_shelf.1 52 = .ok (.ifCond .eq 14, 3) := by decide +kernel
theorem dE_shelf_55 : decode mE_shelf.1 55 = .ok (.aload_n 0, 1) := by decide +kernel
theorem dE_shelf_56 : decode mE_shelf.1 56 = .ok (.getfield 58, 3) := by decide +kernel
theorem dE_shelf_59 : decode mE_shelf.1 59 = .ok (.iload_n 1, 1) := by decide +kernel
theorem dE_shelf_60 : decode mE_shelf.1 60 = .ok (.iload_n 3, 1) := by decide +kernel
theorem dE_shelf_61 : decode mE_shelf.1 61 = .ok (.invokevirtual 238, 3) := by decide +kernel
theorem dE_shelf_64 : decode mE_shelf.1 64 = .ok (.iconst 1, 1) := by decide +kernel
theorem dE_shelf_65 : decode mE_shelf.1 65 = .ok (.ireturn, 1) := by decide +kernel
theorem dE_shelf_66 : decode mE_shelf.1 66 = .ok (.iload_n 2, 1) := by decide +kernel
theorem dE_shelf_67 : decode mE_shelf.1 67 = .ok (.iconst 2, 1) := by decide +kernel
theorem dE_shelf_68 : decode mE_shelf.1 68 = .ok (.if_icmp .ne 15, 3) := by decide +kernel
theorem dE_shelf_71 : decode mE_shelf.1 71 = .ok (.aload_n 0, 1) := by decide +kernel
theorem dE_shelf_72 : decode mE_shelf.1 72 = .ok (.getfield 58, 3) := by decide +kernel
theorem dE_shelf_75 : decode mE_shelf.1 75 = .ok (.getfield 241, 3) := by decide +kernel
theorem dE_shelf_78 : decode mE_shelf.1 78 = .ok (.iload_n 1, 1) := by decide +kernel
theorem dE_shelf_79 : decode mE_shelf.1 79 = .ok (.iconst 2, 1) := by decide +kernel
theorem dE_shelf_80 : decode mE_shelf.1 80 = .ok (.iastore, 1) := by decide +kernel
theorem dE_shelf_81 : decode mE_shelf.1 81 = .ok (.iconst 1, 1) := by decide +kernel
theorem dE_shelf_82 : decode mE_shelf.1 82 = .ok (.ireturn, 1) := by decide +kernel
theorem dE_shelf_83 : decode mE_shelf.1 83 = .ok (.iconst (-1), 1) := by decide +kernel
theorem dE_shelf_84 : decode mE_shelf.1 84 = .ok (.ireturn, 1) := by decide +kernel
set_option maxRecDepth 4000 in
theorem wE_shelf_66 {E : Ev} {z : Int32 × St} (σ : St) (i1 : Int32) (i2 : Int32) (hX : fE_shelf_66 σ i1 i2 = some z) : V E mE_shelf (FM E (some (.int z.1), z.2)) 66 [(0, .ref 0), (1, .int i1), (2, .int i2)] [] σ := by
  unfold fE_shelf_66 at hX
  refine V.iloadn 2 dE_shelf_66 rfl rfl ?_
  refine V.iconst (2 : Int32) dE_shelf_67 lc2 rfl ?_
  refine V.icmpne 83 dE_shelf_68 rfl rfl (fun g4 => ?_) (fun g4 => ?_)
  · replace hX := im hX g4
    refine V.iconst (-1 : Int32) dE_shelf_83 lcm1 rfl ?_
    have hX := (Option.some.inj hX).symm; subst hX; exact V.iret dE_shelf_84 rfl rfl
  · replace hX := ip hX g4
    refine V.aloadn 0 dE_shelf_71 rfl rfl ?_
    refine V.getr 0 33 dE_shelf_72 flE_58 (rfl : kd 0 = (5, 0)) rfl rfl ?_
    refine V.getr 33 41 dE_shelf_75 flE_241 (rfl : kd 33 = (1, 0)) rfl rfl ?_
    refine V.iloadn 1 dE_shelf_78 rfl rfl ?_
    refine V.iconst (2 : Int32) dE_shelf_79 lc2 rfl ?_
    obtain ⟨h5, hX⟩ := ob hX
    refine V.iast 41 dE_shelf_80 (rfl : kd 41 = (7, 4)) h5 rfl ?_
    replace hX := nmx hX; generalize sI σ 41 (ix i1) (2 : Int32) = σ6 at hX ⊢; try dsimp only at hX
    refine V.iconst (1 : Int32) dE_shelf_81 lc1 rfl ?_
    have hX := (Option.some.inj hX).symm; subst hX; exact V.iret dE_shelf_82 rfl rfl
set_option maxRecDepth 4000 in
theorem wE_shelf_39 {E : Ev} {z : Int32 × St} (σ : St) (i1 : Int32) (i2 : Int32) (i3 : Int32) (hX : fE_shelf_39 σ i1 i2 i3 = some z) : V E mE_shelf (FM E (some (.int z.1), z.2)) 39 [(0, .ref 0), (1, .int i1), (2, .int i2), (3, .int i3)] [] σ := by
  unfold fE_shelf_39 at hX
  refine V.iloadn 2 dE_shelf_39 rfl rfl ?_
  refine V.iconst (1 : Int32) dE_shelf_40 lc1 rfl ?_
  refine V.icmpne 66 dE_shelf_41 rfl rfl (fun g3 => ?_) (fun g3 => ?_)
  · replace hX := im hX g3
    refine V.sub [0, 1, 2] rfl ?_
    exact wE_shelf_66 σ i1 i2 hX
  · replace hX := ip hX g3
    refine V.aloadn 0 dE_shelf_44 rfl rfl ?_
    refine V.getr 0 33 dE_shelf_45 flE_58 (rfl : kd 0 = (5, 0)) rfl rfl ?_
    refine V.iloadn 3 dE_shelf_48 rfl rfl ?_
    refine V.callvi 33 [.int i3] dE_shelf_49 (kH_hasSheet (σ := σ) i3) mlE_201 myH_hasSheet mnH_hasSheet ⟨rfl, rfl, by decide, by decide⟩ (rfl : kd 33 = (1, 0)) (by decide) rfl (Nat.le_of_ble_eq_true rfl) ⟨Nat.zero_le _, Nat.zero_le _⟩ rfl ?_
    refine V.ifeq 66 dE_shelf_52 rfl rfl (fun g7 => ?_) (fun g7 => ?_)
    · replace hX := ip hX g7
      refine V.sub [0, 1, 2] rfl ?_
      exact wE_shelf_66 σ i1 i2 hX
    · replace hX := im hX g7
      refine V.aloadn 0 dE_shelf_55 rfl rfl ?_
      refine V.getr 0 33 dE_shelf_56 flE_58 (rfl : kd 0 = (5, 0)) rfl rfl ?_
      refine V.iloadn 1 dE_shelf_59 rfl rfl ?_
      refine V.iloadn 3 dE_shelf_60 rfl rfl ?_
      obtain ⟨σ9, c8, hX⟩ := bd hX; try dsimp only at hX
      refine V.callv0 33 [.int i1, .int i3] dE_shelf_61 (kH_holdRow c8) mlE_238 myH_holdRow mnH_holdRow ⟨rfl, rfl, by decide, by decide⟩ (rfl : kd 33 = (1, 0)) (by decide) rfl (Nat.le_of_ble_eq_true rfl) ⟨Nat.zero_le _, Nat.zero_le _⟩ rfl ?_
      refine V.iconst (1 : Int32) dE_shelf_64 lc1 rfl ?_
      have hX := (Option.some.inj hX).symm; subst hX; exact V.iret dE_shelf_65 rfl rfl
set_option maxRecDepth 4000 in
theorem wE_shelf {E : Ev} {z : Int32 × St} (σ : St) (i1 : Int32) (i2 : Int32) (i3 : Int32) (hX : fE_shelf σ i1 i2 i3 = some z) : V E mE_shelf (FM E (some (.int z.1), z.2)) 0 [(0, .ref 0), (1, .int i1), (2, .int i2), (3, .int i3)] [] σ := by
  unfold fE_shelf at hX
  refine V.aloadn 0 dE_shelf_0 rfl rfl ?_
  refine V.getr 0 33 dE_shelf_1 flE_58 (rfl : kd 0 = (5, 0)) rfl rfl ?_
  refine V.iloadn 1 dE_shelf_4 rfl rfl ?_
  refine V.callvi 33 [.int i1] dE_shelf_5 (kH_hasShelf (σ := σ) i1) mlE_231 myH_hasShelf mnH_hasShelf ⟨rfl, rfl, by decide, by decide⟩ (rfl : kd 33 = (1, 0)) (by decide) rfl (Nat.le_of_ble_eq_true rfl) ⟨Nat.zero_le _, Nat.zero_le _⟩ rfl ?_
  refine V.ifne 13 dE_shelf_8 rfl rfl (fun g1 => ?_) (fun g1 => ?_)
  · replace hX := im hX g1
    refine V.iloadn 2 dE_shelf_13 rfl rfl ?_
    refine V.ifne 39 dE_shelf_14 rfl rfl (fun g2 => ?_) (fun g2 => ?_)
    · replace hX := im hX g2
      refine V.sub [0, 1, 2, 3] rfl ?_
      exact wE_shelf_39 σ i1 i2 i3 hX
    · replace hX := ip hX g2
      refine V.aloadn 0 dE_shelf_17 rfl rfl ?_
      refine V.getd 0 dE_shelf_18 flE_10 (rfl : kd 0 = (5, 0)) rfl ?_
      refine V.iloadn 3 dE_shelf_21 rfl rfl ?_
      obtain ⟨h10, hX⟩ := ob hX
      refine V.callvi (gR σ 0) [.int i3] dE_shelf_22 (kT_hasCoin (σ := σ) (gR σ 0) i3 h10) mlE_125 myT_hasCoin mnT_hasCoin ⟨rfl, rfl, by decide, by decide⟩ (tk0 h10) (by decide) rfl (Nat.le_of_ble_eq_true rfl) ⟨Nat.zero_le _, Nat.zero_le _⟩ rfl ?_
      refine V.ifeq 39 dE_shelf_25 rfl rfl (fun g11 => ?_) (fun g11 => ?_)
      · replace hX := ip hX g11
        refine V.sub [0, 1, 2, 3] rfl ?_
        exact wE_shelf_39 σ i1 i2 i3 hX
      · replace hX := im hX g11
        refine V.aloadn 0 dE_shelf_28 rfl rfl ?_
        refine V.getr 0 33 dE_shelf_29 flE_58 (rfl : kd 0 = (5, 0)) rfl rfl ?_
        refine V.iloadn 1 dE_shelf_32 rfl rfl ?_
        refine V.iloadn 3 dE_shelf_33 rfl rfl ?_
        obtain ⟨σ13, c12, hX⟩ := bd hX; try dsimp only at hX
        refine V.callv0 33 [.int i1, .int i3] dE_shelf_34 (kH_holdCoin c12) mlE_234 myH_holdCoin mnH_holdCoin ⟨rfl, rfl, by decide, by decide⟩ (rfl : kd 33 = (1, 0)) (by decide) rfl (Nat.le_of_ble_eq_true rfl) ⟨Nat.zero_le _, Nat.zero_le _⟩ rfl ?_
        refine V.iconst (1 : Int32) dE_shelf_37 lc1 rfl ?_
        have hX := (Option.some.inj hX).symm; subst hX; exact V.iret dE_shelf_38 rfl rfl
  · replace hX := ip hX g1
    refine V.iconst (-1 : Int32) dE_shelf_11 lcm1 rfl ?_
    have hX := (Option.some.inj hX).symm; subst hX; exact V.iret dE_shelf_12 rfl rfl
theorem kE_shelf {E : Ev} {σ σ2 : St} {i1 : Int32} {i2 : Int32} {i3 : Int32} {z : Int32} (h : fE_shelf σ i1 i2 i3 = some (z, σ2)) : Ct mE_shelf E [.ref 0, .int i1, .int i2, .int i3] σ (some (.int z), σ2) := Ct.of (by decide) (Nat.le_of_ble_eq_true rfl) (wE_shelf σ i1 i2 i3 h)
theorem dE_coinOnShelf_0 : decode mE_coinOnShelf.1 0 = .ok (.aload_n 0, 1) := by decide +kernel
theorem dE_coinOnShelf_1 : decode mE_coinOnShelf.1 1 = .ok (.getfield 58, 3) := by decide +kernel
theorem dE_coinOnShelf_4 : decode mE_coinOnShelf.1 4 = .ok (.getfield 241, 3) := by decide +kernel
theorem dE_coinOnShelf_7 : decode mE_coinOnShelf.1 7 = .ok (.iload_n 1, 1) := by decide +kernel
theorem dE_coinOnShelf_8 : decode mE_coinOnShelf.1 8 = .ok (.iaload, 1) := by decide +kernel
theorem dE_coinOnShelf_9 : decode mE_coinOnShelf.1 9 = .ok (.ifCond .ne 26, 3) := by decide +kernel
theorem dE_coinOnShelf_12 : decode mE_coinOnShelf.1 12 = .ok (.aload_n 0, 1) := by decide +kernel
theorem dE_coinOnShelf_13 : decode mE_coinOnShelf.1 13 = .ok (.getfield 10, 3) := by decide +kernel
theorem dE_coinOnShelf_16 : decode mE_coinOnShelf.1 16 = .ok (.aload_n 0, 1) := by decide +kernel
theorem dE_coinOnShelf_17 : decode mE_coinOnShelf.1 17 = .ok (.getfield 58, 3) := by decide +kernel
theorem dE_coinOnShelf_20 : decode mE_coinOnShelf.1 20 = .ok (.getfield 246, 3) := by decide +kernel
theorem dE_coinOnShelf_23 : decode mE_coinOnShelf.1 23 = .ok (.iload_n 1, 1) := by decide +kernel
theorem dE_coinOnShelf_24 : decode mE_coinOnShelf.1 24 = .ok (.iaload, 1) := by decide +kernel
theorem dE_coinOnShelf_25 : decode mE_coinOnShelf.1 25 = .ok (.invokevirtual 125, 3) := by decide +kernel
theorem dE_coinOnShelf_28 : decode mE_coinOnShelf.1 28 = .ok (.ifCond .eq 7, 3) := by decide +kernel
theorem dE_coinOnShelf_31 : decode mE_coinOnShelf.1 31 = .ok (.iconst 1, 1) := by decide +kernel
theorem dE_coinOnShelf_32 : decode mE_coinOnShelf.1 32 = .ok (.goto 4, 3) := by decide +kernel
theorem dE_coinOnShelf_35 : decode mE_coinOnShelf.1 35 = .ok (.iconst 0, 1) := by decide +kernel
theorem dE_coinOnShelf_36 : decode mE_coinOnShelf.1 36 = .ok (.istore_n 2, 1) := by decide +kernel
theorem dE_coinOnShelf_37 : decode mE_coinOnShelf.1 37 = .ok (.iload_n 2, 1) := by decide +kernel
theorem dE_coinOnShelf_38 : decode mE_coinOnShelf.1 38 = .ok (.ifCond .eq 15, 3) := by decide +kernel
theorem dE_coinOnShelf_41 : decode mE_coinOnShelf.1 41 = .ok (.aload_n 0, 1) := by decide +kernel
theorem dE_coinOnShelf_42 : decode mE_coinOnShelf.1 42 = .ok (.getfield 58, 3) := by decide +kernel
theorem dE_coinOnShelf_45 : decode mE_coinOnShelf.1 45 = .ok (.getfield 246, 3) := by decide +kernel
theorem dE_coinOnShelf_48 : decode mE_coinOnShelf.1 48 = .ok (.iload_n 1, 1) := by decide +kernel
theorem dE_coinOnShelf_49 : decode mE_coinOnShelf.1 49 = .ok (.iaload, 1) := by decide +kernel
theorem dE_coinOnShelf_50 : decode mE_coinOnShelf.1 50 = .ok (.goto 5, 3) := by decide +kernel
theorem dE_coinOnShelf_53 : decode mE_coinOnShelf.1 53 = .ok (.bipush (-3), 2) := by decide +kernel
theorem dE_coinOnShelf_55 : decode mE_coinOnShelf.1 55 = .ok (.ireturn, 1) := by decide +kernel
set_option maxRecDepth 4000 in
theorem wE_coinOnShelf_36 {E : Ev} {z : Int32} (σ : St) (i1 : Int32) (is0 : Int32) (hX : fE_coinOnShelf_36 σ i1 is0 = some z) : V E mE_coinOnShelf (FM E (some (.int z), σ)) 36 [(0, .ref 0), (1, .int i1)] [.int is0] σ := by
  unfold fE_coinOnShelf_36 at hX
  refine V.istoren _ dE_coinOnShelf_36 (by decide) rfl rfl ?_
  refine V.iloadn 0 dE_coinOnShelf_37 rfl rfl ?_
  refine V.ifeq 53 dE_coinOnShelf_38 rfl rfl (fun g3 => ?_) (fun g3 => ?_)
  · replace hX := ip hX g3
    refine V.bipush (-3 : Int32) dE_coinOnShelf_53 lbm3 rfl ?_
    have hX := (Option.some.inj hX).symm; subst hX; exact V.iret dE_coinOnShelf_55 rfl rfl
  · replace hX := im hX g3
    refine V.aloadn 1 dE_coinOnShelf_41 rfl rfl ?_
    refine V.getr 0 33 dE_coinOnShelf_42 flE_58 (rfl : kd 0 = (5, 0)) rfl rfl ?_
    refine V.getr 33 42 dE_coinOnShelf_45 flE_246 (rfl : kd 33 = (1, 0)) rfl rfl ?_
    refine V.iloadn 2 dE_coinOnShelf_48 rfl rfl ?_
    obtain ⟨h4, hX⟩ := ob hX
    refine V.iald 42 dE_coinOnShelf_49 (rfl : kd 42 = (7, 4)) h4 rfl ?_
    refine V.goto 55 dE_coinOnShelf_50 rfl ?_
    have hX := (Option.some.inj hX).symm; subst hX; exact V.iret dE_coinOnShelf_55 rfl rfl
set_option maxRecDepth 4000 in
theorem wE_coinOnShelf_35 {E : Ev} {z : Int32} (σ : St) (i1 : Int32) (hX : fE_coinOnShelf_35 σ i1 = some z) : V E mE_coinOnShelf (FM E (some (.int z), σ)) 35 [(0, .ref 0), (1, .int i1)] [] σ := by
  unfold fE_coinOnShelf_35 at hX
  refine V.iconst (0 : Int32) dE_coinOnShelf_35 lc0 rfl ?_
  refine V.sub [0, 1] rfl ?_
  exact wE_coinOnShelf_36 σ i1 (0 : Int32) hX
set_option maxRecDepth 4000 in
theorem wE_coinOnShelf {E : Ev} {z : Int32} (σ : St) (i1 : Int32) (hX : fE_coinOnShelf σ i1 = some z) : V E mE_coinOnShelf (FM E (some (.int z), σ)) 0 [(0, .ref 0), (1, .int i1)] [] σ := by
  unfold fE_coinOnShelf at hX
  refine V.aloadn 0 dE_coinOnShelf_0 rfl rfl ?_
  refine V.getr 0 33 dE_coinOnShelf_1 flE_58 (rfl : kd 0 = (5, 0)) rfl rfl ?_
  refine V.getr 33 41 dE_coinOnShelf_4 flE_241 (rfl : kd 33 = (1, 0)) rfl rfl ?_
  refine V.iloadn 1 dE_coinOnShelf_7 rfl rfl ?_
  obtain ⟨h1, hX⟩ := ob hX
  refine V.iald 41 dE_coinOnShelf_8 (rfl : kd 41 = (7, 4)) h1 rfl ?_
  refine V.ifne 35 dE_coinOnShelf_9 rfl rfl (fun g2 => ?_) (fun g2 => ?_)
  · replace hX := im hX g2
    refine V.sub [0, 1] rfl ?_
    exact wE_coinOnShelf_35 σ i1 hX
  · replace hX := ip hX g2
    refine V.aloadn 0 dE_coinOnShelf_12 rfl rfl ?_
    refine V.getd 0 dE_coinOnShelf_13 flE_10 (rfl : kd 0 = (5, 0)) rfl ?_
    refine V.aloadn 0 dE_coinOnShelf_16 rfl rfl ?_
    refine V.getr 0 33 dE_coinOnShelf_17 flE_58 (rfl : kd 0 = (5, 0)) rfl rfl ?_
    refine V.getr 33 42 dE_coinOnShelf_20 flE_246 (rfl : kd 33 = (1, 0)) rfl rfl ?_
    refine V.iloadn 1 dE_coinOnShelf_23 rfl rfl ?_
    obtain ⟨h5, hX⟩ := ob hX
    refine V.iald 42 dE_coinOnShelf_24 (rfl : kd 42 = (7, 4)) h5 rfl ?_
    obtain ⟨h6, hX⟩ := ob hX
    refine V.callvi (gR σ 0) [.int (gI σ 42 (ix i1))] dE_coinOnShelf_25 (kT_hasCoin (σ := σ) (gR σ 0) (gI σ 42 (ix i1)) h6) mlE_125 myT_hasCoin mnT_hasCoin ⟨rfl, rfl, by decide, by decide⟩ (tk0 h6) (by decide) rfl (Nat.le_of_ble_eq_true rfl) ⟨Nat.zero_le _, Nat.zero_le _⟩ rfl ?_
    have JJ : V E mE_coinOnShelf (FM E (some (.int z), σ)) 36 [(0, .ref 0), (1, .int i1)] [.int (if (fT_hasCoin σ (gR σ 0) (gI σ 42 (ix i1))) = 0 then (0 : Int32) else (1 : Int32))] σ := by
      refine V.istoren _ dE_coinOnShelf_36 (by decide) rfl rfl ?_
      replace hX := nmx hX; generalize (if (fT_hasCoin σ (gR σ 0) (gI σ 42 (ix i1))) = 0 then (0 : Int32) else (1 : Int32)) = v7 at hX ⊢; try dsimp only at hX
      refine V.iloadn 0 dE_coinOnShelf_37 rfl rfl ?_
      refine V.ifeq 53 dE_coinOnShelf_38 rfl rfl (fun g8 => ?_) (fun g8 => ?_)
      · replace hX := ip hX g8
        refine V.bipush (-3 : Int32) dE_coinOnShelf_53 lbm3 rfl ?_
        have hX := (Option.some.inj hX).symm; subst hX; exact V.iret dE_coinOnShelf_55 rfl rfl
      · replace hX := im hX g8
        refine V.aloadn 1 dE_coinOnShelf_41 rfl rfl ?_
        refine V.getr 0 33 dE_coinOnShelf_42 flE_58 (rfl : kd 0 = (5, 0)) rfl rfl ?_
        refine V.getr 33 42 dE_coinOnShelf_45 flE_246 (rfl : kd 33 = (1, 0)) rfl rfl ?_
        refine V.iloadn 2 dE_coinOnShelf_48 rfl rfl ?_
        obtain ⟨h9, hX⟩ := ob hX
        refine V.iald 42 dE_coinOnShelf_49 (rfl : kd 42 = (7, 4)) h9 rfl ?_
        refine V.goto 55 dE_coinOnShelf_50 rfl ?_
        have hX := (Option.some.inj hX).symm; subst hX; exact V.iret dE_coinOnShelf_55 rfl rfl
    refine V.ifeq 35 dE_coinOnShelf_28 rfl rfl (fun g10 => ?_) (fun g10 => ?_)
    · refine V.iconst (0 : Int32) dE_coinOnShelf_35 lc0 rfl ?_
      exact V.top (if_pos g10).symm JJ
    · refine V.iconst (1 : Int32) dE_coinOnShelf_31 lc1 rfl ?_
      refine V.goto 36 dE_coinOnShelf_32 rfl ?_
      exact V.top (if_neg g10).symm JJ
theorem kE_coinOnShelf {E : Ev} {σ : St} {i1 : Int32} {z : Int32} (h : fE_coinOnShelf σ i1 = some z) : Ct mE_coinOnShelf E [.ref 0, .int i1] σ (some (.int z), σ) := Ct.of (by decide) (Nat.le_of_ble_eq_true rfl) (wE_coinOnShelf σ i1 h)
theorem dE_isUnder_0 : decode mE_isUnder.1 0 = .ok (.iload_n 0, 1) := by decide +kernel
theorem dE_isUnder_1 : decode mE_isUnder.1 1 = .ok (.istore_n 2, 1) := by decide +kernel
theorem dE_isUnder_2 : decode mE_isUnder.1 2 = .ok (.iconst 0, 1) := by decide +kernel
theorem dE_isUnder_3 : decode mE_isUnder.1 3 = .ok (.istore_n 3, 1) := by decide +kernel
theorem dE_isUnder_4 : decode mE_isUnder.1 4 = .ok (.iload_n 3, 1) := by decide +kernel
theorem dE_isUnder_5 : decode mE_isUnder.1 5 = .ok (.bipush 6, 2) := by decide +kernel
theorem dE_isUnder_7 : decode mE_isUnder.1 7 = .ok (.if_icmp .ge 26, 3) := by decide +kernel
theorem dE_isUnder_10 : decode mE_isUnder.1 10 = .ok (.iload_n 2, 1) := by decide +kernel
theorem dE_isUnder_11 : decode mE_isUnder.1 11 = .ok (.ifCond .lt 22, 3) := by decide +kernel
theorem dE_isUnder_14 : decode mE_isUnder.1 14 = .ok (.iload_n 2, 1) := by decide +kernel
theorem dE_isUnder_15 : decode mE_isUnder.1 15 = .ok (.iload_n 1, 1) := by decide +kernel
theorem dE_isUnder_16 : decode mE_isUnder.1 16 = .ok (.if_icmp .ne 5, 3) := by decide +kernel
theorem dE_isUnder_19 : decode mE_isUnder.1 19 = .ok (.iconst 1, 1) := by decide +kernel
theorem dE_isUnder_20 : decode mE_isUnder.1 20 = .ok (.ireturn, 1) := by decide +kernel
theorem dE_isUnder_21 : decode mE_isUnder.1 21 = .ok (.getstatic 269, 3) := by decide +kernel
theorem dE_isUnder_24 : decode mE_isUnder.1 24 = .ok (.iload_n 2, 1) := by decide +kernel
theorem dE_isUnder_25 : decode mE_isUnder.1 25 = .ok (.iaload, 1) := by decide +kernel
theorem dE_isUnder_26 : decode mE_isUnder.1 26 = .ok (.istore_n 2, 1) := by decide +kernel
theorem dE_isUnder_27 : decode mE_isUnder.1 27 = .ok (.iinc 3 1, 3) := by decide +kernel
theorem dE_isUnder_30 : decode mE_isUnder.1 30 = .ok (.goto (-26), 3) := by decide +kernel
theorem dE_isUnder_33 : decode mE_isUnder.1 33 = .ok (.iconst 0, 1) := by decide +kernel
theorem dE_isUnder_34 : decode mE_isUnder.1 34 = .ok (.ireturn, 1) := by decide +kernel
set_option maxRecDepth 4000 in
theorem wE_isUnder_4 {E : Ev} {z : Int32} : ∀ (fu : Nat) (σ : St) (i1 : Int32) (i2 : Int32) (i3 : Int32), fE_isUnder_4 fu σ i1 i2 i3 = some z → V E mE_isUnder (FM E (some (.int z), σ)) 4 [(1, .int i1), (2, .int i2), (3, .int i3)] [] σ := by
  intro fu
  induction fu with
  | zero => intro σ i1 i2 i3 hX; cases hX
  | succ fu ih =>
    intro σ i1 i2 i3 hX
    rw [fE_isUnder_4] at hX
    refine V.iloadn 2 dE_isUnder_4 rfl rfl ?_
    refine V.bipush (6 : Int32) dE_isUnder_5 lb6 rfl ?_
    refine V.icmpge 33 dE_isUnder_7 rfl rfl (fun g1 => ?_) (fun g1 => ?_)
    · replace hX := ip hX g1
      refine V.iconst (0 : Int32) dE_isUnder_33 lc0 rfl ?_
      have hX := (Option.some.inj hX).symm; subst hX; exact V.zret .boolean dE_isUnder_34 rfl (nz b01_0).1 rfl
    · replace hX := im hX g1
      refine V.iloadn 1 dE_isUnder_10 rfl rfl ?_
      refine V.iflt 33 dE_isUnder_11 rfl rfl (fun g2 => ?_) (fun g2 => ?_)
      · replace hX := ip hX g2
        refine V.iconst (0 : Int32) dE_isUnder_33 lc0 rfl ?_
        have hX := (Option.some.inj hX).symm; subst hX; exact V.zret .boolean dE_isUnder_34 rfl (nz b01_0).1 rfl
      · replace hX := im hX g2
        refine V.iloadn 1 dE_isUnder_14 rfl rfl ?_
        refine V.iloadn 0 dE_isUnder_15 rfl rfl ?_
        refine V.icmpne 21 dE_isUnder_16 rfl rfl (fun g3 => ?_) (fun g3 => ?_)
        · replace hX := im hX g3
          refine V.getsU dE_isUnder_21 (gw 738 (by decide +kernel) (by decide +kernel)) rfl ?_
          refine V.iloadn 1 dE_isUnder_24 rfl rfl ?_
          obtain ⟨h4, hX⟩ := ob hX
          refine V.taldU dE_isUnder_25 h4 rfl ?_
          refine V.istoren _ dE_isUnder_26 (by decide) rfl rfl ?_
          replace hX := nmx hX; generalize tUN.getD (ix i2) 0 = v5 at hX ⊢; try dsimp only at hX
          refine V.iinc 2 (1 : Int32) _ dE_isUnder_27 rfl lc1 (by decide) rfl rfl ?_
          replace hX := nmx hX; generalize i3 + (1 : Int32) = v6 at hX ⊢; try dsimp only at hX
          refine V.goto 4 dE_isUnder_30 rfl ?_
          refine V.sub [2, 1, 0] rfl ?_
          exact ih σ i1 v5 v6 hX
        · replace hX := ip hX g3
          refine V.iconst (1 : Int32) dE_isUnder_19 lc1 rfl ?_
          have hX := (Option.some.inj hX).symm; subst hX; exact V.zret .boolean dE_isUnder_20 rfl (nz b01_1).1 rfl
set_option maxRecDepth 4000 in
theorem wE_isUnder {E : Ev} {z : Int32} (σ : St) (i0 : Int32) (i1 : Int32) (hX : fE_isUnder σ i0 i1 = some z) : V E mE_isUnder (FM E (some (.int z), σ)) 0 [(0, .int i0), (1, .int i1)] [] σ := by
  unfold fE_isUnder at hX
  refine V.iloadn 0 dE_isUnder_0 rfl rfl ?_
  refine V.istoren _ dE_isUnder_1 (by decide) rfl rfl ?_
  refine V.iconst (0 : Int32) dE_isUnder_2 lc0 rfl ?_
  refine V.istoren _ dE_isUnder_3 (by decide) rfl rfl ?_
  refine V.sub [3, 1, 0] rfl ?_
  exact wE_isUnder_4 300 σ i1 i0 (0 : Int32) hX
theorem kE_isUnder {E : Ev} {σ : St} {i0 : Int32} {i1 : Int32} {z : Int32} (h : fE_isUnder σ i0 i1 = some z) : Ct mE_isUnder E [.int i0, .int i1] σ (some (.int z), σ) := Ct.of (by decide) (Nat.le_of_ble_eq_true rfl) (wE_isUnder σ i0 i1 h)
theorem dE_taken_0 : decode mE_taken.1 0 = .ok (.iload_n 2, 1) := by decide +kernel
theorem dE_taken_1 : decode mE_taken.1 1 = .ok (.bipush 10, 2) := by decide +kernel
theorem dE_taken_3 : decode mE_taken.1 3 = .ok (.if_icmp .lt 13, 3) := by decide +kernel
theorem dE_taken_6 : decode mE_taken.1 6 = .ok (.iload_n 2, 1) := by decide +kernel
theorem dE_taken_7 : decode mE_taken.1 7 = .ok (.bipush 13, 2) := by decide +kernel
theorem dE_taken_9 : decode mE_taken.1 9 = .ok (.if_icmp .gt 7, 3) := by decide +kernel
theorem dE_taken_12 : decode mE_taken.1 12 = .ok (.iconst 1, 1) := by decide +kernel
theorem dE_taken_13 : decode mE_taken.1 13 = .ok (.goto 4, 3) := by decide +kernel
theorem dE_taken_16 : decode mE_taken.1 16 = .ok (.iconst 0, 1) := by decide +kernel
theorem dE_taken_17 : decode mE_taken.1 17 = .ok (.istore_n 3, 1) := by decide +kernel
theorem dE_taken_18 : decode mE_taken.1 18 = .ok (.aload_n 0, 1) := by decide +kernel
theorem dE_taken_19 : decode mE_taken.1 19 = .ok (.getfield 58, 3) := by decide +kernel
theorem dE_taken_22 : decode mE_taken.1 22 = .ok (.iload_n 1, 1) := by decide +kernel
theorem dE_taken_23 : decode mE_taken.1 23 = .ok (.invokevirtual 231, 3) := by decide +kernel
theorem dE_taken_26 : decode mE_taken.1 26 = .ok (.ifCond .eq 14, 3) := by decide +kernel
theorem dE_taken_29 : decode mE_taken.1 29 = .ok (.iload_n 2, 1) := by decide +kernel
theorem dE_taken_30 : decode mE_taken.1 30 = .ok (.invokestatic 112, 3) := by decide +kernel
theorem dE_taken_33 : decode mE_taken.1 33 = .ok (.ifCond .ne 9, 3) := by decide +kernel
theorem dE_taken_36 : decode mE_taken.1 36 = .ok (.iload_n 3, 1) := by decide +kernel
theorem dE_taken_37 : decode mE_taken.1 37 = .ok (.ifCond .ne 5, 3) := by decide +kernel
theorem dE_taken_40 : decode mE_taken.1 40 = .ok (.iconst (-1), 1) := by decide +kernel
theorem dE_taken_41 : decode mE_taken.1 41 = .ok (.ireturn, 1) := by decide +kernel
theorem dE_taken_42 : decode mE_taken.1 42 = .ok (.aload_n 0, 1) := by decide +kernel
theorem dE_taken_43 : decode mE_taken.1 43 = .ok (.getfield 58, 3) := by decide +kernel
theorem dE_taken_46 : decode mE_taken.1 46 = .ok (.getfield 241, 3) := by decide +kernel
theorem dE_taken_49 : decode mE_taken.1 49 = .ok (.iload_n 1, 1) := by decide +kernel
theorem dE_taken_50 : decode mE_taken.1 50 = .ok (.iaload, 1) := by decide +kernel
theorem dE_taken_51 : decode mE_taken.1 51 = .ok (.iconst 1, 1) := by decide +kernel
theorem dE_taken_52 : decode mE_taken.1 52 = .ok (.if_icmp .ne 38, 3) := by decide +kernel
theorem dE_taken_55 : decode mE_taken.1 55 = .ok (.iload_n 3, 1) := by decide +kernel
theorem dE_taken_56 : decode mE_taken.1 56 = .ok (.ifCond .eq 31, 3) := by decide +kernel
theorem dE_taken_59 : decode mE_taken.1 59 = .ok (.aload_n 0, 1) := by decide +kernel
theorem dE_taken_60 : decode mE_taken.1 60 = .ok (.getfield 58, 3) := by decide +kernel
theorem dE_taken_63 : decode mE_taken.1 63 = .ok (.getfield 243, 3) := by decide +kernel
theorem dE_taken_66 : decode mE_taken.1 66 = .ok (.iload_n 1, 1) := by decide +kernel
theorem dE_taken_67 : decode mE_taken.1 67 = .ok (.iaload, 1) := by decide +kernel
theorem dE_taken_68 : decode mE_taken.1 68 = .ok (.iload_n 2, 1) := by decide +kernel
theorem dE_taken_69 : decode mE_taken.1 69 = .ok (.bipush 10, 2) := by decide +kernel
theorem dE_taken_71 : decode mE_taken.1 71 = .ok (.isub, 1) := by decide +kernel
theorem dE_taken_72 : decode mE_taken.1 72 = .ok (.if_icmp .ne 15, 3) := by decide +kernel
theorem dE_taken_75 : decode mE_taken.1 75 = .ok (.aload_n 0, 1) := by decide +kernel
theorem dE_taken_76 : decode mE_taken.1 76 = .ok (.getfield 58, 3) := by decide +kernel
theorem dE_taken_79 : decode mE_taken.1 79 = .ok (.getfield 246, 3) := by decide +kernel
theorem dE_taken_82 : decode mE_taken.1 82 = .ok (.iload_n 1, 1) := by decide +kernel
theorem dE_taken_83 : decode mE_taken.1 83 = .ok (.iaload, 1) := by decide +kernel
theorem dE_taken_84 : decode mE_taken.1 84 = .ok (.goto 5, 3) := by decide +kernel
theorem dE_taken_87 : decode mE_taken.1 87 = .ok (.bipush (-13), 2) := by decide +kernel
theorem dE_taken_89 : decode mE_taken.1 89 = .ok (.ireturn, 1) := by decide +kernel
theorem dE_taken_90 : decode mE_taken.1 90 = .ok (.aload_n 0, 1) := by decide +kernel
theorem dE_taken_91 : decode mE_taken.1 91 = .ok (.iload_n 1, 1) := by decide +kernel
theorem dE_taken_92 : decode mE_taken.1 92 = .ok (.invokevirtual 249, 3) := by decide +kernel
theorem dE_taken_95 : decode mE_taken.1 95 = .ok (.istore 4, 2) := by decide +kernel
theorem dE_taken_97 : decode mE_taken.1 97 = .ok (.iload 4, 2) := by decide +kernel
theorem dE_taken_99 : decode mE_taken.1 99 = .ok (.ifCond .ge 6, 3) := by decide +kernel
theorem dE_taken_102 : decode mE_taken.1 102 = .ok (.bipush (-11), 2) := by decide +kernel
theorem dE_taken_104 : decode mE_taken.1 104 = .ok (.ireturn, 1) := by decide +kernel
theorem dE_taken_105 : decode mE_taken.1 105 = .ok (.iload_n 3, 1) := by decide +kernel
theorem dE_taken_106 : decode mE_taken.1 106 = .ok (.ifCond .ne 25, 3) := by decide +kernel
theorem dE_taken_109 : decode mE_taken.1 109 = .ok (.aload_n 0, 1) := by decide +kernel
theorem dE_taken_110 : decode mE_taken.1 110 = .ok (.getfield 10, 3) := by decide +kernel
theorem dE_taken_113 : decode mE_taken.1 113 = .ok (.getfield 128, 3) := by decide +kernel
theorem dE_taken_116 : decode mE_taken.1 116 = .ok (.iload 4, 2) := by decide +kernel
theorem dE_taken_118 : decode mE_taken.1 118 = .ok (.iaload, 1) := by decide +kernel
theorem dE_taken_119 : decode mE_taken.1 119 = .ok (.iload_n 2, 1) := by decide +kernel
theorem dE_taken_120 : decode mE_taken.1 120 = .ok (.invokestatic 252, 3) := by decide +kernel
theorem dE_taken_123 : decode mE_taken.1 123 = .ok (.ifCond .eq 8, 3) := by decide +kernel
theorem dE_taken_126 : decode mE_taken.1 126 = .ok (.iload 4, 2) := by decide +kernel
theorem dE_taken_128 : decode mE_taken.1 128 = .ok (.goto 5, 3) := by decide +kernel
theorem dE_taken_131 : decode mE_taken.1 131 = .ok (.bipush (-13), 2) := by decide +kernel
theorem dE_taken_133 : decode mE_taken.1 133 = .ok (.ireturn, 1) := by decide +kernel
set_option maxRecDepth 4000 in
theorem wE_taken_42 {E : Ev} {z : Int32} (σ : St) (i1 : Int32) (i2 : Int32) (i3 : Int32) (hX : fE_taken_42 σ i1 i2 i3 = some z) : V E mE_taken (FM E (some (.int z), σ)) 42 [(0, .ref 0), (1, .int i1), (2, .int i2), (3, .int i3)] [] σ := by
  unfold fE_taken_42 at hX
  refine V.aloadn 0 dE_taken_42 rfl rfl ?_
  refine V.getr 0 33 dE_taken_43 flE_58 (rfl : kd 0 = (5, 0)) rfl rfl ?_
  refine V.getr 33 41 dE_taken_46 flE_241 (rfl : kd 33 = (1, 0)) rfl rfl ?_
  refine V.iloadn 1 dE_taken_49 rfl rfl ?_
  obtain ⟨h4, hX⟩ := ob hX
  refine V.iald 41 dE_taken_50 (rfl : kd 41 = (7, 4)) h4 rfl ?_
  refine V.iconst (1 : Int32) dE_taken_51 lc1 rfl ?_
  refine V.icmpne 90 dE_taken_52 rfl rfl (fun g5 => ?_) (fun g5 => ?_)
  · replace hX := im hX g5
    refine V.aloadn 0 dE_taken_90 rfl rfl ?_
    refine V.iloadn 1 dE_taken_91 rfl rfl ?_
    obtain ⟨q6, c7, hX⟩ := bd hX; try dsimp only at hX
    refine V.callvi 0 [.int i1] dE_taken_92 (kE_coinOnShelf c7) mlE_249 myE_coinOnShelf mnE_coinOnShelf ⟨rfl, rfl, by decide, by decide⟩ (rfl : kd 0 = (5, 0)) (by decide) rfl (Nat.le_of_ble_eq_true rfl) ⟨Nat.zero_le _, Nat.zero_le _⟩ rfl ?_
    refine V.istore _ dE_taken_95 (by decide) rfl rfl ?_
    refine V.iload 0 dE_taken_97 rfl rfl ?_
    refine V.ifge 105 dE_taken_99 rfl rfl (fun g8 => ?_) (fun g8 => ?_)
    · replace hX := ip hX g8
      refine V.iloadn 4 dE_taken_105 rfl rfl ?_
      refine V.ifne 131 dE_taken_106 rfl rfl (fun g9 => ?_) (fun g9 => ?_)
      · replace hX := im hX g9
        refine V.bipush (-13 : Int32) dE_taken_131 lbm13 rfl ?_
        have hX := (Option.some.inj hX).symm; subst hX; exact V.iret dE_taken_133 rfl rfl
      · replace hX := ip hX g9
        refine V.aloadn 1 dE_taken_109 rfl rfl ?_
        refine V.getd 0 dE_taken_110 flE_10 (rfl : kd 0 = (5, 0)) rfl ?_
        obtain ⟨h10, hX⟩ := ob hX
        refine V.getr (gR σ 0) ((gR σ 0) + 4) dE_taken_113 flE_128 (tk0 h10) rfl rfl ?_
        refine V.iload 0 dE_taken_116 rfl rfl ?_
        obtain ⟨h11, hX⟩ := ob hX
        refine V.iald ((gR σ 0) + 4) dE_taken_118 (tk4 h10) h11 rfl ?_
        refine V.iloadn 3 dE_taken_119 rfl rfl ?_
        obtain ⟨q12, c13, hX⟩ := bd hX; try dsimp only at hX
        refine V.callsi [.int (gI σ ((gR σ 0) + 4) (ix q6)), .int i2] dE_taken_120 (kE_isUnder c13) mlE_252 myE_isUnder mnE_isUnder ⟨rfl, rfl, by decide, by decide⟩ rfl (Nat.le_of_ble_eq_true rfl) ⟨Nat.zero_le _, Nat.zero_le _⟩ rfl ?_
        have JJ : V E mE_taken (FM E (some (.int z), σ)) 133 [(4, .int q6), (0, .ref 0), (1, .int i1), (2, .int i2), (3, .int i3)] [.int (if q12 = 0 then (-13 : Int32) else q6)] σ := by
          have hX := (Option.some.inj hX).symm; subst hX; exact V.iret dE_taken_133 rfl rfl
        refine V.ifeq 131 dE_taken_123 rfl rfl (fun g14 => ?_) (fun g14 => ?_)
        · refine V.bipush (-13 : Int32) dE_taken_131 lbm13 rfl ?_
          exact V.top (if_pos g14).symm JJ
        · refine V.iload 0 dE_taken_126 rfl rfl ?_
          refine V.goto 133 dE_taken_128 rfl ?_
          exact V.top (if_neg g14).symm JJ
    · replace hX := im hX g8
      refine V.bipush (-11 : Int32) dE_taken_102 lbm11 rfl ?_
      have hX := (Option.some.inj hX).symm; subst hX; exact V.iret dE_taken_104 rfl rfl
  · replace hX := ip hX g5
    refine V.iloadn 3 dE_taken_55 rfl rfl ?_
    refine V.ifeq 87 dE_taken_56 rfl rfl (fun g15 => ?_) (fun g15 => ?_)
    · replace hX := ip hX g15
      refine V.bipush (-13 : Int32) dE_taken_87 lbm13 rfl ?_
      have hX := (Option.some.inj hX).symm; subst hX; exact V.iret dE_taken_89 rfl rfl
    · replace hX := im hX g15
      refine V.aloadn 0 dE_taken_59 rfl rfl ?_
      refine V.getr 0 33 dE_taken_60 flE_58 (rfl : kd 0 = (5, 0)) rfl rfl ?_
      refine V.getr 33 43 dE_taken_63 flE_243 (rfl : kd 33 = (1, 0)) rfl rfl ?_
      refine V.iloadn 1 dE_taken_66 rfl rfl ?_
      obtain ⟨h16, hX⟩ := ob hX
      refine V.iald 43 dE_taken_67 (rfl : kd 43 = (7, 4)) h16 rfl ?_
      refine V.iloadn 2 dE_taken_68 rfl rfl ?_
      refine V.bipush (10 : Int32) dE_taken_69 lb10 rfl ?_
      refine V.isub dE_taken_71 rfl ?_
      refine V.icmpne 87 dE_taken_72 rfl rfl (fun g17 => ?_) (fun g17 => ?_)
      · replace hX := im hX g17
        refine V.bipush (-13 : Int32) dE_taken_87 lbm13 rfl ?_
        have hX := (Option.some.inj hX).symm; subst hX; exact V.iret dE_taken_89 rfl rfl
      · replace hX := ip hX g17
        refine V.aloadn 0 dE_taken_75 rfl rfl ?_
        refine V.getr 0 33 dE_taken_76 flE_58 (rfl : kd 0 = (5, 0)) rfl rfl ?_
        refine V.getr 33 42 dE_taken_79 flE_246 (rfl : kd 33 = (1, 0)) rfl rfl ?_
        refine V.iloadn 1 dE_taken_82 rfl rfl ?_
        obtain ⟨h18, hX⟩ := ob hX
        refine V.iald 42 dE_taken_83 (rfl : kd 42 = (7, 4)) h18 rfl ?_
        refine V.goto 89 dE_taken_84 rfl ?_
        have hX := (Option.some.inj hX).symm; subst hX; exact V.iret dE_taken_89 rfl rfl
set_option maxRecDepth 4000 in
theorem wE_taken {E : Ev} {z : Int32} (σ : St) (i1 : Int32) (i2 : Int32) (hX : fE_taken σ i1 i2 = some z) : V E mE_taken (FM E (some (.int z), σ)) 0 [(0, .ref 0), (1, .int i1), (2, .int i2)] [] σ := by
  unfold fE_taken at hX
  refine V.iloadn 2 dE_taken_0 rfl rfl ?_
  refine V.bipush (10 : Int32) dE_taken_1 lb10 rfl ?_
  have JJ : V E mE_taken (FM E (some (.int z), σ)) 17 [(0, .ref 0), (1, .int i1), (2, .int i2)] [.int (if i2 < (10 : Int32) then (0 : Int32) else (if (13 : Int32) < i2 then (0 : Int32) else (1 : Int32)))] σ := by
    refine V.istoren _ dE_taken_17 (by decide) rfl rfl ?_
    replace hX := nmx hX; generalize (if i2 < (10 : Int32) then (0 : Int32) else (if (13 : Int32) < i2 then (0 : Int32) else (1 : Int32))) = v1 at hX ⊢; try dsimp only at hX
    refine V.aloadn 1 dE_taken_18 rfl rfl ?_
    refine V.getr 0 33 dE_taken_19 flE_58 (rfl : kd 0 = (5, 0)) rfl rfl ?_
    refine V.iloadn 2 dE_taken_22 rfl rfl ?_
    refine V.callvi 33 [.int i1] dE_taken_23 (kH_hasShelf (σ := σ) i1) mlE_231 myH_hasShelf mnH_hasShelf ⟨rfl, rfl, by decide, by decide⟩ (rfl : kd 33 = (1, 0)) (by decide) rfl (Nat.le_of_ble_eq_true rfl) ⟨Nat.zero_le _, Nat.zero_le _⟩ rfl ?_
    refine V.ifeq 40 dE_taken_26 rfl rfl (fun g2 => ?_) (fun g2 => ?_)
    · replace hX := ip hX g2
      refine V.iconst (-1 : Int32) dE_taken_40 lcm1 rfl ?_
      have hX := (Option.some.inj hX).symm; subst hX; exact V.iret dE_taken_41 rfl rfl
    · replace hX := im hX g2
      refine V.iloadn 3 dE_taken_29 rfl rfl ?_
      refine V.callsi [.int i2] dE_taken_30 (kE_isKind (σ := σ) i2) mlE_112 myE_isKind mnE_isKind ⟨rfl, rfl, by decide, by decide⟩ rfl (Nat.le_of_ble_eq_true rfl) ⟨Nat.zero_le _, Nat.zero_le _⟩ rfl ?_
      refine V.ifne 42 dE_taken_33 rfl rfl (fun g3 => ?_) (fun g3 => ?_)
      · replace hX := im hX g3
        refine V.sub [1, 2, 3, 0] rfl ?_
        exact wE_taken_42 σ i1 i2 v1 hX
      · replace hX := ip hX g3
        refine V.iloadn 0 dE_taken_36 rfl rfl ?_
        refine V.ifne 42 dE_taken_37 rfl rfl (fun g19 => ?_) (fun g19 => ?_)
        · replace hX := im hX g19
          refine V.sub [1, 2, 3, 0] rfl ?_
          exact wE_taken_42 σ i1 i2 v1 hX
        · replace hX := ip hX g19
          refine V.iconst (-1 : Int32) dE_taken_40 lcm1 rfl ?_
          have hX := (Option.some.inj hX).symm; subst hX; exact V.iret dE_taken_41 rfl rfl
  refine V.icmplt 16 dE_taken_3 rfl rfl (fun g20 => ?_) (fun g20 => ?_)
  · refine V.iconst (0 : Int32) dE_taken_16 lc0 rfl ?_
    exact V.top (if_pos g20).symm JJ
  · refine V.iloadn 2 dE_taken_6 rfl rfl ?_
    refine V.bipush (13 : Int32) dE_taken_7 lb13 rfl ?_
    refine V.icmpgt 16 dE_taken_9 rfl rfl (fun g21 => ?_) (fun g21 => ?_)
    · refine V.iconst (0 : Int32) dE_taken_16 lc0 rfl ?_
      exact V.top ((if_neg g20).trans (if_pos g21)).symm JJ
    · refine V.iconst (1 : Int32) dE_taken_12 lc1 rfl ?_
      refine V.goto 17 dE_taken_13 rfl ?_
      exact V.top ((if_neg g20).trans (if_neg g21)).symm JJ
theorem kE_taken {E : Ev} {σ : St} {i1 : Int32} {i2 : Int32} {z : Int32} (h : fE_taken σ i1 i2 = some z) : Ct mE_taken E [.ref 0, .int i1, .int i2] σ (some (.int z), σ) := Ct.of (by decide) (Nat.le_of_ble_eq_true rfl) (wE_taken σ i1 i2 h)
theorem dA_bodyOf_0 : decode mA_bodyOf.1 0 = .ok (.iload_n 0, 1) := by decide +kernel
theorem dA_bodyOf_1 : decode mA_bodyOf.1 1 = .ok (.istore_n 2, 1) := by decide +kernel
theorem dA_bodyOf_2 : decode mA_bodyOf.1 2 = .ok (.iconst 0, 1) := by decide +kernel
theorem dA_bodyOf_3 : decode mA_bodyOf.1 3 = .ok (.istore_n 3, 1) := by decide +kernel
theorem dA_bodyOf_4 : decode mA_bodyOf.1 4 = .ok (.iload_n 3, 1) := by decide +kernel
theorem dA_bodyOf_5 : decode mA_bodyOf.1 5 = .ok (.bipush 6, 2) := by decide +kernel
theorem dA_bodyOf_7 : decode mA_bodyOf.1 7 = .ok (.if_icmp .ge 31, 3) := by decide +kernel
theorem dA_bodyOf_10 : decode mA_bodyOf.1 10 = .ok (.iload_n 2, 1) := by decide +kernel
theorem dA_bodyOf_11 : decode mA_bodyOf.1 11 = .ok (.ifCond .le 27, 3) := by decide +kernel
theorem dA_bodyOf_14 : decode mA_bodyOf.1 14 = .ok (.getstatic 48, 3) := by decide +kernel
theorem dA_bodyOf_17 : decode mA_bodyOf.1 17 = .ok (.iconst 4, 1) := by decide +kernel
theorem dA_bodyOf_18 : decode mA_bodyOf.1 18 = .ok (.iload_n 2, 1) := by decide +kernel
theorem dA_bodyOf_19 : decode mA_bodyOf.1 19 = .ok (.imul, 1) := by decide +kernel
theorem dA_bodyOf_20 : decode mA_bodyOf.1 20 = .ok (.iload_n 1, 1) := by decide +kernel
theorem dA_bodyOf_21 : decode mA_bodyOf.1 21 = .ok (.iadd, 1) := by decide +kernel
theorem dA_bodyOf_22 : decode mA_bodyOf.1 22 = .ok (.iaload, 1) := by decide +kernel
theorem dA_bodyOf_23 : decode mA_bodyOf.1 23 = .ok (.ifCond .ne 15, 3) := by decide +kernel
theorem dA_bodyOf_26 : decode mA_bodyOf.1 26 = .ok (.getstatic 51, 3) := by decide +kernel
theorem dA_bodyOf_29 : decode mA_bodyOf.1 29 = .ok (.iload_n 2, 1) := by decide +kernel
theorem dA_bodyOf_30 : decode mA_bodyOf.1 30 = .ok (.iaload, 1) := by decide +kernel
theorem dA_bodyOf_31 : decode mA_bodyOf.1 31 = .ok (.istore_n 2, 1) := by decide +kernel
theorem dA_bodyOf_32 : decode mA_bodyOf.1 32 = .ok (.iinc 3 1, 3) := by decide +kernel
theorem dA_bodyOf_35 : decode mA_bodyOf.1 35 = .ok (.goto (-31), 3) := by decide +kernel
theorem dA_bodyOf_38 : decode mA_bodyOf.1 38 = .ok (.getstatic 48, 3) := by decide +kernel
theorem dA_bodyOf_41 : decode mA_bodyOf.1 41 = .ok (.iconst 4, 1) := by decide +kernel
theorem dA_bodyOf_42 : decode mA_bodyOf.1 42 = .ok (.iload_n 2, 1) := by decide +kernel
theorem dA_bodyOf_43 : decode mA_bodyOf.1 43 = .ok (.imul, 1) := by decide +kernel
theorem dA_bodyOf_44 : decode mA_bodyOf.1 44 = .ok (.iload_n 1, 1) := by decide +kernel
theorem dA_bodyOf_45 : decode mA_bodyOf.1 45 = .ok (.iadd, 1) := by decide +kernel
theorem dA_bodyOf_46 : decode mA_bodyOf.1 46 = .ok (.iaload, 1) := by decide +kernel
theorem dA_bodyOf_47 : decode mA_bodyOf.1 47 = .ok (.ireturn, 1) := by decide +kernel
set_option maxRecDepth 4000 in
theorem wA_bodyOf_4 {E : Ev} {z : Int32} : ∀ (fu : Nat) (σ : St) (i1 : Int32) (i2 : Int32) (i3 : Int32), fA_bodyOf_4 fu σ i1 i2 i3 = some z → V E mA_bodyOf (FM E (some (.int z), σ)) 4 [(1, .int i1), (2, .int i2), (3, .int i3)] [] σ := by
  intro fu
  induction fu with
  | zero => intro σ i1 i2 i3 hX; cases hX
  | succ fu ih =>
    intro σ i1 i2 i3 hX
    rw [fA_bodyOf_4] at hX
    refine V.iloadn 2 dA_bodyOf_4 rfl rfl ?_
    refine V.bipush (6 : Int32) dA_bodyOf_5 lb6 rfl ?_
    refine V.icmpge 38 dA_bodyOf_7 rfl rfl (fun g1 => ?_) (fun g1 => ?_)
    · replace hX := ip hX g1
      refine V.getsO dA_bodyOf_38 (gw 755 (by decide +kernel) (by decide +kernel)) rfl ?_
      refine V.iconst (4 : Int32) dA_bodyOf_41 lc4 rfl ?_
      refine V.iloadn 1 dA_bodyOf_42 rfl rfl ?_
      refine V.imul dA_bodyOf_43 rfl ?_
      refine V.iloadn 0 dA_bodyOf_44 rfl rfl ?_
      refine V.iadd dA_bodyOf_45 rfl ?_
      obtain ⟨h2, hX⟩ := ob hX
      refine V.taldO dA_bodyOf_46 h2 rfl ?_
      have hX := (Option.some.inj hX).symm; subst hX; exact V.iret dA_bodyOf_47 rfl rfl
    · replace hX := im hX g1
      refine V.iloadn 1 dA_bodyOf_10 rfl rfl ?_
      refine V.ifle 38 dA_bodyOf_11 rfl rfl (fun g3 => ?_) (fun g3 => ?_)
      · replace hX := ip hX g3
        refine V.getsO dA_bodyOf_38 (gw 755 (by decide +kernel) (by decide +kernel)) rfl ?_
        refine V.iconst (4 : Int32) dA_bodyOf_41 lc4 rfl ?_
        refine V.iloadn 1 dA_bodyOf_42 rfl rfl ?_
        refine V.imul dA_bodyOf_43 rfl ?_
        refine V.iloadn 0 dA_bodyOf_44 rfl rfl ?_
        refine V.iadd dA_bodyOf_45 rfl ?_
        obtain ⟨h4, hX⟩ := ob hX
        refine V.taldO dA_bodyOf_46 h4 rfl ?_
        have hX := (Option.some.inj hX).symm; subst hX; exact V.iret dA_bodyOf_47 rfl rfl
      · replace hX := im hX g3
        refine V.getsO dA_bodyOf_14 (gw 755 (by decide +kernel) (by decide +kernel)) rfl ?_
        refine V.iconst (4 : Int32) dA_bodyOf_17 lc4 rfl ?_
        refine V.iloadn 1 dA_bodyOf_18 rfl rfl ?_
        refine V.imul dA_bodyOf_19 rfl ?_
        refine V.iloadn 0 dA_bodyOf_20 rfl rfl ?_
        refine V.iadd dA_bodyOf_21 rfl ?_
        obtain ⟨h5, hX⟩ := ob hX
        refine V.taldO dA_bodyOf_22 h5 rfl ?_
        refine V.ifne 38 dA_bodyOf_23 rfl rfl (fun g6 => ?_) (fun g6 => ?_)
        · replace hX := im hX g6
          refine V.getsO dA_bodyOf_38 (gw 755 (by decide +kernel) (by decide +kernel)) rfl ?_
          refine V.iconst (4 : Int32) dA_bodyOf_41 lc4 rfl ?_
          refine V.iloadn 1 dA_bodyOf_42 rfl rfl ?_
          refine V.imul dA_bodyOf_43 rfl ?_
          refine V.iloadn 0 dA_bodyOf_44 rfl rfl ?_
          refine V.iadd dA_bodyOf_45 rfl ?_
          obtain ⟨h7, hX⟩ := ob hX
          refine V.taldO dA_bodyOf_46 h7 rfl ?_
          have hX := (Option.some.inj hX).symm; subst hX; exact V.iret dA_bodyOf_47 rfl rfl
        · replace hX := ip hX g6
          refine V.getsUN rfl dA_bodyOf_26 rfl ?_
          refine V.iloadn 1 dA_bodyOf_29 rfl rfl ?_
          obtain ⟨h8, hX⟩ := ob hX
          refine V.taldU dA_bodyOf_30 h8 rfl ?_
          refine V.istoren _ dA_bodyOf_31 (by decide) rfl rfl ?_
          replace hX := nmx hX; generalize tUN.getD (ix i2) 0 = v9 at hX ⊢; try dsimp only at hX
          refine V.iinc 2 (1 : Int32) _ dA_bodyOf_32 rfl lc1 (by decide) rfl rfl ?_
          replace hX := nmx hX; generalize i3 + (1 : Int32) = v10 at hX ⊢; try dsimp only at hX
          refine V.goto 4 dA_bodyOf_35 rfl ?_
          refine V.sub [2, 1, 0] rfl ?_
          exact ih σ i1 v9 v10 hX
set_option maxRecDepth 4000 in
theorem wA_bodyOf {E : Ev} {z : Int32} (σ : St) (i0 : Int32) (i1 : Int32) (hX : fA_bodyOf σ i0 i1 = some z) : V E mA_bodyOf (FM E (some (.int z), σ)) 0 [(0, .int i0), (1, .int i1)] [] σ := by
  unfold fA_bodyOf at hX
  refine V.iloadn 0 dA_bodyOf_0 rfl rfl ?_
  refine V.istoren _ dA_bodyOf_1 (by decide) rfl rfl ?_
  refine V.iconst (0 : Int32) dA_bodyOf_2 lc0 rfl ?_
  refine V.istoren _ dA_bodyOf_3 (by decide) rfl rfl ?_
  refine V.sub [3, 1, 0] rfl ?_
  exact wA_bodyOf_4 300 σ i1 i0 (0 : Int32) hX
theorem kA_bodyOf {E : Ev} {σ : St} {i0 : Int32} {i1 : Int32} {z : Int32} (h : fA_bodyOf σ i0 i1 = some z) : Ct mA_bodyOf E [.int i0, .int i1] σ (some (.int z), σ) := Ct.of (by decide) (Nat.le_of_ble_eq_true rfl) (wA_bodyOf σ i0 i1 h)
theorem dA_note_0 : decode mA_note.1 0 = .ok (.aload_n 0, 1) := by decide +kernel
theorem dA_note_1 : decode mA_note.1 1 = .ok (.getfield 15, 3) := by decide +kernel
theorem dA_note_4 : decode mA_note.1 4 = .ok (.bipush 30, 2) := by decide +kernel
theorem dA_note_6 : decode mA_note.1 6 = .ok (.if_icmp .ge 23, 3) := by decide +kernel
theorem dA_note_9 : decode mA_note.1 9 = .ok (.aload_n 0, 1) := by decide +kernel
theorem dA_note_10 : decode mA_note.1 10 = .ok (.getfield 11, 3) := by decide +kernel
theorem dA_note_13 : decode mA_note.1 13 = .ok (.aload_n 0, 1) := by decide +kernel
theorem dA_note_14 : decode mA_note.1 14 = .ok (.getfield 15, 3) := by decide +kernel
theorem dA_note_17 : decode mA_note.1 17 = .ok (.iload_n 1, 1) := by decide +kernel
theorem dA_note_18 : decode mA_note.1 18 = .ok (.iastore, 1) := by decide +kernel
theorem dA_note_19 : decode mA_note.1 19 = .ok (.aload_n 0, 1) := by decide +kernel
theorem dA_note_20 : decode mA_note.1 20 = .ok (.dup, 1) := by decide +kernel
theorem dA_note_21 : decode mA_note.1 21 = .ok (.getfield 15, 3) := by decide +kernel
theorem dA_note_24 : decode mA_note.1 24 = .ok (.iconst 1, 1) := by decide +kernel
theorem dA_note_25 : decode mA_note.1 25 = .ok (.iadd, 1) := by decide +kernel
theorem dA_note_26 : decode mA_note.1 26 = .ok (.putfield 15, 3) := by decide +kernel
theorem dA_note_29 : decode mA_note.1 29 = .ok (.return_, 1) := by decide +kernel
set_option maxRecDepth 4000 in
theorem wA_note {E : Ev} {z : St} (σ : St) (i1 : Int32) (hX : fA_note σ i1 = some z) : V E mA_note (FM E (none, z)) 0 [(0, .ref 31), (1, .int i1)] [] σ := by
  unfold fA_note at hX
  refine V.aloadn 0 dA_note_0 rfl rfl ?_
  refine V.geti 31 dA_note_1 flA_15 (rfl : kd 31 = (0, 0)) rfl ?_
  refine V.bipush (30 : Int32) dA_note_4 lb30 rfl ?_
  refine V.icmpge 29 dA_note_6 rfl rfl (fun g1 => ?_) (fun g1 => ?_)
  · replace hX := ip hX g1
    have hX := (Option.some.inj hX).symm; subst hX; exact V.vret dA_note_29 rfl rfl
  · replace hX := im hX g1
    refine V.aloadn 0 dA_note_9 rfl rfl ?_
    refine V.getr 31 32 dA_note_10 flA_11 (rfl : kd 31 = (0, 0)) rfl rfl ?_
    refine V.aloadn 0 dA_note_13 rfl rfl ?_
    refine V.geti 31 dA_note_14 flA_15 (rfl : kd 31 = (0, 0)) rfl ?_
    refine V.iloadn 1 dA_note_17 rfl rfl ?_
    obtain ⟨h2, hX⟩ := ob hX
    refine V.iast 32 dA_note_18 (rfl : kd 32 = (7, 30)) h2 rfl ?_
    replace hX := nmx hX; generalize sI σ 32 (ix (gI σ 31 1)) i1 = σ3 at hX ⊢; try dsimp only at hX
    refine V.aloadn 0 dA_note_19 rfl rfl ?_
    refine V.dup dA_note_20 rfl rfl ?_
    refine V.geti 31 dA_note_21 flA_15 (rfl : kd 31 = (0, 0)) rfl ?_
    refine V.iconst (1 : Int32) dA_note_24 lc1 rfl ?_
    refine V.iadd dA_note_25 rfl ?_
    refine V.puti 31 .int dA_note_26 flA_15 fw0_1 (rfl : kd 31 = (0, 0)) ⟨rfl, rfl⟩ rfl ?_
    replace hX := nmx hX; generalize sI σ3 31 1 ((gI σ3 31 1) + (1 : Int32)) = σ4 at hX ⊢; try dsimp only at hX
    have hX := (Option.some.inj hX).symm; subst hX; exact V.vret dA_note_29 rfl rfl
theorem kA_note {E : Ev} {σ z : St} {i1 : Int32} (h : fA_note σ i1 = some z) : Ct mA_note E [.ref 31, .int i1] σ (none, z) := Ct.of (by decide) (Nat.le_of_ble_eq_true rfl) (wA_note σ i1 h)
theorem dA_share_0 : decode mA_share.1 0 = .ok (.aload_n 0, 1) := by decide +kernel
theorem dA_share_1 : decode mA_share.1 1 = .ok (.getfield 25, 3) := by decide +kernel
theorem dA_share_4 : decode mA_share.1 4 = .ok (.aload_n 0, 1) := by decide +kernel
theorem dA_share_5 : decode mA_share.1 5 = .ok (.getfield 22, 3) := by decide +kernel
theorem dA_share_8 : decode mA_share.1 8 = .ok (.isub, 1) := by decide +kernel
theorem dA_share_9 : decode mA_share.1 9 = .ok (.istore_n 2, 1) := by decide +kernel
theorem dA_share_10 : decode mA_share.1 10 = .ok (.iload_n 2, 1) := by decide +kernel
theorem dA_share_11 : decode mA_share.1 11 = .ok (.ifCond .ne 10, 3) := by decide +kernel
theorem dA_share_14 : decode mA_share.1 14 = .ok (.aload_n 0, 1) := by decide +kernel
theorem dA_share_15 : decode mA_share.1 15 = .ok (.iconst 1, 1) := by decide +kernel
theorem dA_share_16 : decode mA_share.1 16 = .ok (.putfield 28, 3) := by decide +kernel
theorem dA_share_19 : decode mA_share.1 19 = .ok (.iconst 0, 1) := by decide +kernel
theorem dA_share_20 : decode mA_share.1 20 = .ok (.ireturn, 1) := by decide +kernel
theorem dA_share_21 : decode mA_share.1 21 = .ok (.iload_n 1, 1) := by decide +kernel
theorem dA_share_22 : decode mA_share.1 22 = .ok (.iload_n 2, 1) := by decide +kernel
theorem dA_share_23 : decode mA_share.1 23 = .ok (.idiv, 1) := by decide +kernel
theorem dA_share_24 : decode mA_share.1 24 = .ok (.ireturn, 1) := by decide +kernel
set_option maxRecDepth 4000 in
theorem wA_share {E : Ev} {z : Int32 × St} (σ : St) (i1 : Int32) (hX : fA_share σ i1 = some z) : V E mA_share (FM E (some (.int z.1), z.2)) 0 [(0, .ref 31), (1, .int i1)] [] σ := by
  unfold fA_share at hX
  refine V.aloadn 0 dA_share_0 rfl rfl ?_
  refine V.geti 31 dA_share_1 flA_25 (rfl : kd 31 = (0, 0)) rfl ?_
  refine V.aloadn 0 dA_share_4 rfl rfl ?_
  refine V.geti 31 dA_share_5 flA_22 (rfl : kd 31 = (0, 0)) rfl ?_
  refine V.isub dA_share_8 rfl ?_
  refine V.istoren _ dA_share_9 (by decide) rfl rfl ?_
  replace hX := nmx hX; generalize (gI σ 31 4) - (gI σ 31 3) = v1 at hX ⊢; try dsimp only at hX
  refine V.iloadn 0 dA_share_10 rfl rfl ?_
  refine V.ifne 21 dA_share_11 rfl rfl (fun g2 => ?_) (fun g2 => ?_)
  · replace hX := im hX g2
    refine V.iloadn 2 dA_share_21 rfl rfl ?_
    refine V.iloadn 0 dA_share_22 rfl rfl ?_
    obtain ⟨h3, hX⟩ := ob hX
    refine V.idiv dA_share_23 h3 rfl ?_
    have hX := (Option.some.inj hX).symm; subst hX; exact V.iret dA_share_24 rfl rfl
  · replace hX := ip hX g2
    refine V.aloadn 1 dA_share_14 rfl rfl ?_
    refine V.iconst (1 : Int32) dA_share_15 lc1 rfl ?_
    refine V.puti 31 .boolean dA_share_16 flA_28 fw0_5 (rfl : kd 31 = (0, 0)) (nz b01_1) rfl ?_
    replace hX := nmx hX; generalize sI σ 31 5 (1 : Int32) = σ4 at hX ⊢; try dsimp only at hX
    refine V.iconst (0 : Int32) dA_share_19 lc0 rfl ?_
    have hX := (Option.some.inj hX).symm; subst hX; exact V.iret dA_share_20 rfl rfl
theorem kA_share {E : Ev} {σ σ2 : St} {i1 : Int32} {z : Int32} (h : fA_share σ i1 = some (z, σ2)) : Ct mA_share E [.ref 31, .int i1] σ (some (.int z), σ2) := Ct.of (by decide) (Nat.le_of_ble_eq_true rfl) (wA_share σ i1 h)
theorem dA_perform_0 (n : Nat) : decode (mA_perform n).1 0 = .ok (.aload_n 0, 1) := by show decode prog_2_method_3_code 0 = _; decide +kernel
theorem dA_perform_1 (n : Nat) : decode (mA_perform n).1 1 = .ok (.getfield 28, 3) := by show decode prog_2_method_3_code 1 = _; decide +kernel
theorem dA_perform_4 (n : Nat) : decode (mA_perform n).1 4 = .ok (.ifCond .ne 10, 3) := by show decode prog_2_method_3_code 4 = _; decide +kernel
theorem dA_perform_7 (n : Nat) : decode (mA_perform n).1 7 = .ok (.iload 4, 2) := by show decode prog_2_method_3_code 7 = _; decide +kernel
theorem dA_perform_9 (n : Nat) : decode (mA_perform n).1 9 = .ok (.bipush 20, 2) := by show decode prog_2_method_3_code 9 = _; decide +kernel
theorem dA_perform_11 (n : Nat) : decode (mA_perform n).1 11 = .ok (.if_icmp .le 5, 3) := by show decode prog_2_method_3_code 11 = _; decide +kernel
theorem dA_perform_14 (n : Nat) : decode (mA_perform n).1 14 = .ok (.iconst 0, 1) := by show decode prog_2_method_3_code 14 = _; decide +kernel
theorem dA_perform_15 (n : Nat) : decode (mA_perform n).1 15 = .ok (.ireturn, 1) := by show decode prog_2_method_3_code 15 = _; decide +kernel
theorem dA_perform_16 (n : Nat) : decode (mA_perform n).1 16 = .ok (.iload_n 1, 1) := by show decode prog_2_method_3_code 16 = _; decide +kernel
theorem dA_perform_17 (n : Nat) : decode (mA_perform n).1 17 = .ok (.iload_n 2, 1) := by show decode prog_2_method_3_code 17 = _; decide +kernel
theorem dA_perform_18 (n : Nat) : decode (mA_perform n).1 18 = .ok (.invokestatic 36, 3) := by show decode prog_2_method_3_code 18 = _; decide +kernel
theorem dA_perform_21 (n : Nat) : decode (mA_perform n).1 21 = .ok (.istore 5, 2) := by show decode prog_2_method_3_code 21 = _; decide +kernel
theorem dA_perform_23 (n : Nat) : decode (mA_perform n).1 23 = .ok (.aload_n 0, 1) := by show decode prog_2_method_3_code 23 = _; decide +kernel
theorem dA_perform_24 (n : Nat) : decode (mA_perform n).1 24 = .ok (.iload 5, 2) := by show decode prog_2_method_3_code 24 = _; decide +kernel
theorem dA_perform_26 (n : Nat) : decode (mA_perform n).1 26 = .ok (.invokevirtual 40, 3) := by show decode prog_2_method_3_code 26 = _; decide +kernel
theorem dA_perform_29 (n : Nat) : decode (mA_perform n).1 29 = .ok (.iload 4, 2) := by show decode prog_2_method_3_code 29 = _; decide +kernel
theorem dA_perform_31 (n : Nat) : decode (mA_perform n).1 31 = .ok (.iconst 1, 1) := by show decode prog_2_method_3_code 31 = _; decide +kernel
theorem dA_perform_32 (n : Nat) : decode (mA_perform n).1 32 = .ok (.iadd, 1) := by show decode prog_2_method_3_code 32 = _; decide +kernel
theorem dA_perform_33 (n : Nat) : decode (mA_perform n).1 33 = .ok (.istore 6, 2) := by show decode prog_2_method_3_code 33 = _; decide +kernel
theorem dA_perform_35 (n : Nat) : decode (mA_perform n).1 35 = .ok (.iload 5, 2) := by show decode prog_2_method_3_code 35 = _; decide +kernel
theorem dA_perform_37 (n : Nat) : decode (mA_perform n).1 37 = .ok (.tableswitch 427 10 61 #[223, 230, 245, 251, 427, 427, 427, 427, 427, 427, 269, 427, 427, 427, 427, 427, 427, 427, 427, 427, 284, 296, 427, 427, 427, 427, 427, 427, 427, 427, 322, 334, 427, 427, 427, 427, 427, 427, 427, 427, 360, 374, 427, 427, 427, 427, 427, 427, 427, 427, 389, 401], 223) := by show decode prog_2_method_3_code 37 = _; decide +kernel
theorem dA_perform_260 (n : Nat) : decode (mA_perform n).1 260 = .ok (.iload_n 3, 1) := by show decode prog_2_method_3_code 260 = _; decide +kernel
theorem dA_perform_261 (n : Nat) : decode (mA_perform n).1 261 = .ok (.aload_n 0, 1) := by show decode prog_2_method_3_code 261 = _; decide +kernel
theorem dA_perform_262 (n : Nat) : decode (mA_perform n).1 262 = .ok (.getfield 22, 3) := by show decode prog_2_method_3_code 262 = _; decide +kernel
theorem dA_perform_265 (n : Nat) : decode (mA_perform n).1 265 = .ok (.iadd, 1) := by show decode prog_2_method_3_code 265 = _; decide +kernel
theorem dA_perform_266 (n : Nat) : decode (mA_perform n).1 266 = .ok (.ireturn, 1) := by show decode prog_2_method_3_code 266 = _; decide +kernel
theorem dA_perform_267 (n : Nat) : decode (mA_perform n).1 267 = .ok (.aload_n 0, 1) := by show decode prog_2_method_3_code 267 = _; decide +kernel
theorem dA_perform_268 (n : Nat) : decode (mA_perform n).1 268 = .ok (.aload_n 0, 1) := by show decode prog_2_method_3_code 268 = _; decide +kernel
theorem dA_perform_269 (n : Nat) : decode (mA_perform n).1 269 = .ok (.getfield 19, 3) := by show decode prog_2_method_3_code 269 = _; decide +kernel
theorem dA_perform_272 (n : Nat) : decode (mA_perform n).1 272 = .ok (.iconst 0, 1) := by show decode prog_2_method_3_code 272 = _; decide +kernel
theorem dA_perform_273 (n : Nat) : decode (mA_perform n).1 273 = .ok (.iload_n 3, 1) := by show decode prog_2_method_3_code 273 = _; decide +kernel
theorem dA_perform_274 (n : Nat) : decode (mA_perform n).1 274 = .ok (.iload 6, 2) := by show decode prog_2_method_3_code 274 = _; decide +kernel
theorem dA_perform_276 (n : Nat) : decode (mA_perform n).1 276 = .ok (.invokevirtual 32, 3) := by show decode prog_2_method_3_code 276 = _; decide +kernel
theorem dA_perform_279 (n : Nat) : decode (mA_perform n).1 279 = .ok (.iconst 2, 1) := by show decode prog_2_method_3_code 279 = _; decide +kernel
theorem dA_perform_280 (n : Nat) : decode (mA_perform n).1 280 = .ok (.imul, 1) := by show decode prog_2_method_3_code 280 = _; decide +kernel
theorem dA_perform_281 (n : Nat) : decode (mA_perform n).1 281 = .ok (.ireturn, 1) := by show decode prog_2_method_3_code 281 = _; decide +kernel
theorem dA_perform_282 (n : Nat) : decode (mA_perform n).1 282 = .ok (.aload_n 0, 1) := by show decode prog_2_method_3_code 282 = _; decide +kernel
theorem dA_perform_283 (n : Nat) : decode (mA_perform n).1 283 = .ok (.iload_n 3, 1) := by show decode prog_2_method_3_code 283 = _; decide +kernel
theorem dA_perform_284 (n : Nat) : decode (mA_perform n).1 284 = .ok (.invokevirtual 44, 3) := by show decode prog_2_method_3_code 284 = _; decide +kernel
theorem dA_perform_287 (n : Nat) : decode (mA_perform n).1 287 = .ok (.ireturn, 1) := by show decode prog_2_method_3_code 287 = _; decide +kernel
theorem dA_perform_288 (n : Nat) : decode (mA_perform n).1 288 = .ok (.aload_n 0, 1) := by show decode prog_2_method_3_code 288 = _; decide +kernel
theorem dA_perform_289 (n : Nat) : decode (mA_perform n).1 289 = .ok (.aload_n 0, 1) := by show decode prog_2_method_3_code 289 = _; decide +kernel
theorem dA_perform_290 (n : Nat) : decode (mA_perform n).1 290 = .ok (.getfield 19, 3) := by show decode prog_2_method_3_code 290 = _; decide +kernel
theorem dA_perform_293 (n : Nat) : decode (mA_perform n).1 293 = .ok (.iconst 1, 1) := by show decode prog_2_method_3_code 293 = _; decide +kernel
theorem dA_perform_294 (n : Nat) : decode (mA_perform n).1 294 = .ok (.iload_n 3, 1) := by show decode prog_2_method_3_code 294 = _; decide +kernel
theorem dA_perform_295 (n : Nat) : decode (mA_perform n).1 295 = .ok (.iload 6, 2) := by show decode prog_2_method_3_code 295 = _; decide +kernel
theorem dA_perform_297 (n : Nat) : decode (mA_perform n).1 297 = .ok (.invokevirtual 32, 3) := by show decode prog_2_method_3_code 297 = _; decide +kernel
theorem dA_perform_300 (n : Nat) : decode (mA_perform n).1 300 = .ok (.aload_n 0, 1) := by show decode prog_2_method_3_code 300 = _; decide +kernel
theorem dA_perform_301 (n : Nat) : decode (mA_perform n).1 301 = .ok (.getfield 25, 3) := by show decode prog_2_method_3_code 301 = _; decide +kernel
theorem dA_perform_304 (n : Nat) : decode (mA_perform n).1 304 = .ok (.ixor, 1) := by show decode prog_2_method_3_code 304 = _; decide +kernel
theorem dA_perform_305 (n : Nat) : decode (mA_perform n).1 305 = .ok (.ireturn, 1) := by show decode prog_2_method_3_code 305 = _; decide +kernel
theorem dA_perform_306 (n : Nat) : decode (mA_perform n).1 306 = .ok (.aload_n 0, 1) := by show decode prog_2_method_3_code 306 = _; decide +kernel
theorem dA_perform_307 (n : Nat) : decode (mA_perform n).1 307 = .ok (.iconst 0, 1) := by show decode prog_2_method_3_code 307 = _; decide +kernel
theorem dA_perform_308 (n : Nat) : decode (mA_perform n).1 308 = .ok (.iconst 1, 1) := by show decode prog_2_method_3_code 308 = _; decide +kernel
theorem dA_perform_309 (n : Nat) : decode (mA_perform n).1 309 = .ok (.iload_n 3, 1) := by show decode prog_2_method_3_code 309 = _; decide +kernel
theorem dA_perform_310 (n : Nat) : decode (mA_perform n).1 310 = .ok (.iload 6, 2) := by show decode prog_2_method_3_code 310 = _; decide +kernel
theorem dA_perform_312 (n : Nat) : decode (mA_perform n).1 312 = .ok (.invokevirtual 32, 3) := by show decode prog_2_method_3_code 312 = _; decide +kernel
theorem dA_perform_315 (n : Nat) : decode (mA_perform n).1 315 = .ok (.aload_n 0, 1) := by show decode prog_2_method_3_code 315 = _; decide +kernel
theorem dA_perform_316 (n : Nat) : decode (mA_perform n).1 316 = .ok (.getfield 25, 3) := by show decode prog_2_method_3_code 316 = _; decide +kernel
theorem dA_perform_319 (n : Nat) : decode (mA_perform n).1 319 = .ok (.isub, 1) := by show decode prog_2_method_3_code 319 = _; decide +kernel
theorem dA_perform_320 (n : Nat) : decode (mA_perform n).1 320 = .ok (.ireturn, 1) := by show decode prog_2_method_3_code 320 = _; decide +kernel
theorem dA_perform_321 (n : Nat) : decode (mA_perform n).1 321 = .ok (.aload_n 0, 1) := by show decode prog_2_method_3_code 321 = _; decide +kernel
theorem dA_perform_322 (n : Nat) : decode (mA_perform n).1 322 = .ok (.iconst 0, 1) := by show decode prog_2_method_3_code 322 = _; decide +kernel
theorem dA_perform_323 (n : Nat) : decode (mA_perform n).1 323 = .ok (.iconst 0, 1) := by show decode prog_2_method_3_code 323 = _; decide +kernel
theorem dA_perform_324 (n : Nat) : decode (mA_perform n).1 324 = .ok (.iload_n 3, 1) := by show decode prog_2_method_3_code 324 = _; decide +kernel
theorem dA_perform_325 (n : Nat) : decode (mA_perform n).1 325 = .ok (.iload 6, 2) := by show decode prog_2_method_3_code 325 = _; decide +kernel
theorem dA_perform_327 (n : Nat) : decode (mA_perform n).1 327 = .ok (.invokevirtual 32, 3) := by show decode prog_2_method_3_code 327 = _; decide +kernel
theorem dA_perform_330 (n : Nat) : decode (mA_perform n).1 330 = .ok (.iconst 3, 1) := by show decode prog_2_method_3_code 330 = _; decide +kernel
theorem dA_perform_331 (n : Nat) : decode (mA_perform n).1 331 = .ok (.imul, 1) := by show decode prog_2_method_3_code 331 = _; decide +kernel
theorem dA_perform_332 (n : Nat) : decode (mA_perform n).1 332 = .ok (.ireturn, 1) := by show decode prog_2_method_3_code 332 = _; decide +kernel
theorem dA_perform_333 (n : Nat) : decode (mA_perform n).1 333 = .ok (.aload_n 0, 1) := by show decode prog_2_method_3_code 333 = _; decide +kernel
theorem dA_perform_334 (n : Nat) : decode (mA_perform n).1 334 = .ok (.iconst 0, 1) := by show decode prog_2_method_3_code 334 = _; decide +kernel
theorem dA_perform_335 (n : Nat) : decode (mA_perform n).1 335 = .ok (.iconst 3, 1) := by show decode prog_2_method_3_code 335 = _; decide +kernel
theorem dA_perform_336 (n : Nat) : decode (mA_perform n).1 336 = .ok (.iload_n 3, 1) := by show decode prog_2_method_3_code 336 = _; decide +kernel
theorem dA_perform_337 (n : Nat) : decode (mA_perform n).1 337 = .ok (.iload 6, 2) := by show decode prog_2_method_3_code 337 = _; decide +kernel
theorem dA_perform_339 (n : Nat) : decode (mA_perform n).1 339 = .ok (.invokevirtual 32, 3) := by show decode prog_2_method_3_code 339 = _; decide +kernel
theorem dA_perform_342 (n : Nat) : decode (mA_perform n).1 342 = .ok (.aload_n 0, 1) := by show decode prog_2_method_3_code 342 = _; decide +kernel
theorem dA_perform_343 (n : Nat) : decode (mA_perform n).1 343 = .ok (.aload_n 0, 1) := by show decode prog_2_method_3_code 343 = _; decide +kernel
theorem dA_perform_344 (n : Nat) : decode (mA_perform n).1 344 = .ok (.getfield 19, 3) := by show decode prog_2_method_3_code 344 = _; decide +kernel
theorem dA_perform_347 (n : Nat) : decode (mA_perform n).1 347 = .ok (.iconst 2, 1) := by show decode prog_2_method_3_code 347 = _; decide +kernel
theorem dA_perform_348 (n : Nat) : decode (mA_perform n).1 348 = .ok (.aload_n 0, 1) := by show decode prog_2_method_3_code 348 = _; decide +kernel
theorem dA_perform_349 (n : Nat) : decode (mA_perform n).1 349 = .ok (.getfield 22, 3) := by show decode prog_2_method_3_code 349 = _; decide +kernel
theorem dA_perform_352 (n : Nat) : decode (mA_perform n).1 352 = .ok (.iload 6, 2) := by show decode prog_2_method_3_code 352 = _; decide +kernel
theorem dA_perform_354 (n : Nat) : decode (mA_perform n).1 354 = .ok (.invokevirtual 32, 3) := by show decode prog_2_method_3_code 354 = _; decide +kernel
theorem dA_perform_357 (n : Nat) : decode (mA_perform n).1 357 = .ok (.iadd, 1) := by show decode prog_2_method_3_code 357 = _; decide +kernel
theorem dA_perform_358 (n : Nat) : decode (mA_perform n).1 358 = .ok (.ireturn, 1) := by show decode prog_2_method_3_code 358 = _; decide +kernel
theorem dA_perform_359 (n : Nat) : decode (mA_perform n).1 359 = .ok (.iconst 0, 1) := by show decode prog_2_method_3_code 359 = _; decide +kernel
theorem dA_perform_360 (n : Nat) : decode (mA_perform n).1 360 = .ok (.aload_n 0, 1) := by show decode prog_2_method_3_code 360 = _; decide +kernel
theorem dA_perform_361 (n : Nat) : decode (mA_perform n).1 361 = .ok (.iconst 2, 1) := by show decode prog_2_method_3_code 361 = _; decide +kernel
theorem dA_perform_362 (n : Nat) : decode (mA_perform n).1 362 = .ok (.iconst 0, 1) := by show decode prog_2_method_3_code 362 = _; decide +kernel
theorem dA_perform_363 (n : Nat) : decode (mA_perform n).1 363 = .ok (.iload_n 3, 1) := by show decode prog_2_method_3_code 363 = _; decide +kernel
theorem dA_perform_364 (n : Nat) : decode (mA_perform n).1 364 = .ok (.iload 6, 2) := by show decode prog_2_method_3_code 364 = _; decide +kernel
theorem dA_perform_366 (n : Nat) : decode (mA_perform n).1 366 = .ok (.invokevirtual 32, 3) := by show decode prog_2_method_3_code 366 = _; decide +kernel
theorem dA_perform_369 (n : Nat) : decode (mA_perform n).1 369 = .ok (.isub, 1) := by show decode prog_2_method_3_code 369 = _; decide +kernel
theorem dA_perform_370 (n : Nat) : decode (mA_perform n).1 370 = .ok (.ireturn, 1) := by show decode prog_2_method_3_code 370 = _; decide +kernel
theorem dA_perform_371 (n : Nat) : decode (mA_perform n).1 371 = .ok (.aload_n 0, 1) := by show decode prog_2_method_3_code 371 = _; decide +kernel
theorem dA_perform_372 (n : Nat) : decode (mA_perform n).1 372 = .ok (.iconst 2, 1) := by show decode prog_2_method_3_code 372 = _; decide +kernel
theorem dA_perform_373 (n : Nat) : decode (mA_perform n).1 373 = .ok (.iconst 1, 1) := by show decode prog_2_method_3_code 373 = _; decide +kernel
theorem dA_perform_374 (n : Nat) : decode (mA_perform n).1 374 = .ok (.iload_n 3, 1) := by show decode prog_2_method_3_code 374 = _; decide +kernel
theorem dA_perform_375 (n : Nat) : decode (mA_perform n).1 375 = .ok (.iload 6, 2) := by show decode prog_2_method_3_code 375 = _; decide +kernel
theorem dA_perform_377 (n : Nat) : decode (mA_perform n).1 377 = .ok (.invokevirtual 32, 3) := by show decode prog_2_method_3_code 377 = _; decide +kernel
theorem dA_perform_380 (n : Nat) : decode (mA_perform n).1 380 = .ok (.aload_n 0, 1) := by show decode prog_2_method_3_code 380 = _; decide +kernel
theorem dA_perform_381 (n : Nat) : decode (mA_perform n).1 381 = .ok (.aload_n 0, 1) := by show decode prog_2_method_3_code 381 = _; decide +kernel
theorem dA_perform_382 (n : Nat) : decode (mA_perform n).1 382 = .ok (.getfield 19, 3) := by show decode prog_2_method_3_code 382 = _; decide +kernel
theorem dA_perform_385 (n : Nat) : decode (mA_perform n).1 385 = .ok (.iconst 0, 1) := by show decode prog_2_method_3_code 385 = _; decide +kernel
theorem dA_perform_386 (n : Nat) : decode (mA_perform n).1 386 = .ok (.aload_n 0, 1) := by show decode prog_2_method_3_code 386 = _; decide +kernel
theorem dA_perform_387 (n : Nat) : decode (mA_perform n).1 387 = .ok (.getfield 22, 3) := by show decode prog_2_method_3_code 387 = _; decide +kernel
theorem dA_perform_390 (n : Nat) : decode (mA_perform n).1 390 = .ok (.iload 6, 2) := by show decode prog_2_method_3_code 390 = _; decide +kernel
theorem dA_perform_392 (n : Nat) : decode (mA_perform n).1 392 = .ok (.invokevirtual 32, 3) := by show decode prog_2_method_3_code 392 = _; decide +kernel
theorem dA_perform_395 (n : Nat) : decode (mA_perform n).1 395 = .ok (.iadd, 1) := by show decode prog_2_method_3_code 395 = _; decide +kernel
theorem dA_perform_396 (n : Nat) : decode (mA_perform n).1 396 = .ok (.ireturn, 1) := by show decode prog_2_method_3_code 396 = _; decide +kernel
theorem dA_perform_397 (n : Nat) : decode (mA_perform n).1 397 = .ok (.aload_n 0, 1) := by show decode prog_2_method_3_code 397 = _; decide +kernel
theorem dA_perform_398 (n : Nat) : decode (mA_perform n).1 398 = .ok (.iconst 1, 1) := by show decode prog_2_method_3_code 398 = _; decide +kernel
theorem dA_perform_399 (n : Nat) : decode (mA_perform n).1 399 = .ok (.iconst 2, 1) := by show decode prog_2_method_3_code 399 = _; decide +kernel
theorem dA_perform_400 (n : Nat) : decode (mA_perform n).1 400 = .ok (.iload_n 3, 1) := by show decode prog_2_method_3_code 400 = _; decide +kernel
theorem dA_perform_401 (n : Nat) : decode (mA_perform n).1 401 = .ok (.iconst 2, 1) := by show decode prog_2_method_3_code 401 = _; decide +kernel
theorem dA_perform_402 (n : Nat) : decode (mA_perform n).1 402 = .ok (.iadd, 1) := by show decode prog_2_method_3_code 402 = _; decide +kernel
theorem dA_perform_403 (n : Nat) : decode (mA_perform n).1 403 = .ok (.iload 6, 2) := by show decode prog_2_method_3_code 403 = _; decide +kernel
theorem dA_perform_405 (n : Nat) : decode (mA_perform n).1 405 = .ok (.invokevirtual 32, 3) := by show decode prog_2_method_3_code 405 = _; decide +kernel
theorem dA_perform_408 (n : Nat) : decode (mA_perform n).1 408 = .ok (.iconst 1, 1) := by show decode prog_2_method_3_code 408 = _; decide +kernel
theorem dA_perform_409 (n : Nat) : decode (mA_perform n).1 409 = .ok (.ixor, 1) := by show decode prog_2_method_3_code 409 = _; decide +kernel
theorem dA_perform_410 (n : Nat) : decode (mA_perform n).1 410 = .ok (.ireturn, 1) := by show decode prog_2_method_3_code 410 = _; decide +kernel
theorem dA_perform_411 (n : Nat) : decode (mA_perform n).1 411 = .ok (.aload_n 0, 1) := by show decode prog_2_method_3_code 411 = _; decide +kernel
theorem dA_perform_412 (n : Nat) : decode (mA_perform n).1 412 = .ok (.iconst 1, 1) := by show decode prog_2_method_3_code 412 = _; decide +kernel
theorem dA_perform_413 (n : Nat) : decode (mA_perform n).1 413 = .ok (.iconst 0, 1) := by show decode prog_2_method_3_code 413 = _; decide +kernel
theorem dA_perform_414 (n : Nat) : decode (mA_perform n).1 414 = .ok (.iload_n 3, 1) := by show decode prog_2_method_3_code 414 = _; decide +kernel
theorem dA_perform_415 (n : Nat) : decode (mA_perform n).1 415 = .ok (.iload 6, 2) := by show decode prog_2_method_3_code 415 = _; decide +kernel
theorem dA_perform_417 (n : Nat) : decode (mA_perform n).1 417 = .ok (.invokevirtual 32, 3) := by show decode prog_2_method_3_code 417 = _; decide +kernel
theorem dA_perform_420 (n : Nat) : decode (mA_perform n).1 420 = .ok (.aload_n 0, 1) := by show decode prog_2_method_3_code 420 = _; decide +kernel
theorem dA_perform_421 (n : Nat) : decode (mA_perform n).1 421 = .ok (.getfield 22, 3) := by show decode prog_2_method_3_code 421 = _; decide +kernel
theorem dA_perform_424 (n : Nat) : decode (mA_perform n).1 424 = .ok (.isub, 1) := by show decode prog_2_method_3_code 424 = _; decide +kernel
theorem dA_perform_425 (n : Nat) : decode (mA_perform n).1 425 = .ok (.ireturn, 1) := by show decode prog_2_method_3_code 425 = _; decide +kernel
theorem dA_perform_426 (n : Nat) : decode (mA_perform n).1 426 = .ok (.aload_n 0, 1) := by show decode prog_2_method_3_code 426 = _; decide +kernel
theorem dA_perform_427 (n : Nat) : decode (mA_perform n).1 427 = .ok (.iconst 0, 1) := by show decode prog_2_method_3_code 427 = _; decide +kernel
theorem dA_perform_428 (n : Nat) : decode (mA_perform n).1 428 = .ok (.iconst 3, 1) := by show decode prog_2_method_3_code 428 = _; decide +kernel
theorem dA_perform_429 (n : Nat) : decode (mA_perform n).1 429 = .ok (.iload_n 3, 1) := by show decode prog_2_method_3_code 429 = _; decide +kernel
theorem dA_perform_430 (n : Nat) : decode (mA_perform n).1 430 = .ok (.iload 6, 2) := by show decode prog_2_method_3_code 430 = _; decide +kernel
theorem dA_perform_432 (n : Nat) : decode (mA_perform n).1 432 = .ok (.invokevirtual 32, 3) := by show decode prog_2_method_3_code 432 = _; decide +kernel
theorem dA_perform_435 (n : Nat) : decode (mA_perform n).1 435 = .ok (.iconst 2, 1) := by show decode prog_2_method_3_code 435 = _; decide +kernel
theorem dA_perform_436 (n : Nat) : decode (mA_perform n).1 436 = .ok (.imul, 1) := by show decode prog_2_method_3_code 436 = _; decide +kernel
theorem dA_perform_437 (n : Nat) : decode (mA_perform n).1 437 = .ok (.ireturn, 1) := by show decode prog_2_method_3_code 437 = _; decide +kernel
theorem dA_perform_438 (n : Nat) : decode (mA_perform n).1 438 = .ok (.aload_n 0, 1) := by show decode prog_2_method_3_code 438 = _; decide +kernel
theorem dA_perform_439 (n : Nat) : decode (mA_perform n).1 439 = .ok (.iconst 0, 1) := by show decode prog_2_method_3_code 439 = _; decide +kernel
theorem dA_perform_440 (n : Nat) : decode (mA_perform n).1 440 = .ok (.iconst 2, 1) := by show decode prog_2_method_3_code 440 = _; decide +kernel
theorem dA_perform_441 (n : Nat) : decode (mA_perform n).1 441 = .ok (.iload_n 3, 1) := by show decode prog_2_method_3_code 441 = _; decide +kernel
theorem dA_perform_442 (n : Nat) : decode (mA_perform n).1 442 = .ok (.iload 6, 2) := by show decode prog_2_method_3_code 442 = _; decide +kernel
theorem dA_perform_444 (n : Nat) : decode (mA_perform n).1 444 = .ok (.invokevirtual 32, 3) := by show decode prog_2_method_3_code 444 = _; decide +kernel
theorem dA_perform_447 (n : Nat) : decode (mA_perform n).1 447 = .ok (.aload_n 0, 1) := by show decode prog_2_method_3_code 447 = _; decide +kernel
theorem dA_perform_448 (n : Nat) : decode (mA_perform n).1 448 = .ok (.aload_n 0, 1) := by show decode prog_2_method_3_code 448 = _; decide +kernel
theorem dA_perform_449 (n : Nat) : decode (mA_perform n).1 449 = .ok (.getfield 19, 3) := by show decode prog_2_method_3_code 449 = _; decide +kernel
theorem dA_perform_452 (n : Nat) : decode (mA_perform n).1 452 = .ok (.iconst 0, 1) := by show decode prog_2_method_3_code 452 = _; decide +kernel
theorem dA_perform_453 (n : Nat) : decode (mA_perform n).1 453 = .ok (.aload_n 0, 1) := by show decode prog_2_method_3_code 453 = _; decide +kernel
theorem dA_perform_454 (n : Nat) : decode (mA_perform n).1 454 = .ok (.getfield 25, 3) := by show decode prog_2_method_3_code 454 = _; decide +kernel
theorem dA_perform_457 (n : Nat) : decode (mA_perform n).1 457 = .ok (.iload 6, 2) := by show decode prog_2_method_3_code 457 = _; decide +kernel
theorem dA_perform_459 (n : Nat) : decode (mA_perform n).1 459 = .ok (.invokevirtual 32, 3) := by show decode prog_2_method_3_code 459 = _; decide +kernel
theorem dA_perform_462 (n : Nat) : decode (mA_perform n).1 462 = .ok (.iadd, 1) := by show decode prog_2_method_3_code 462 = _; decide +kernel
theorem dA_perform_463 (n : Nat) : decode (mA_perform n).1 463 = .ok (.ireturn, 1) := by show decode prog_2_method_3_code 463 = _; decide +kernel
theorem dA_perform_464 (n : Nat) : decode (mA_perform n).1 464 = .ok (.iconst 0, 1) := by show decode prog_2_method_3_code 464 = _; decide +kernel
theorem dA_perform_465 (n : Nat) : decode (mA_perform n).1 465 = .ok (.ireturn, 1) := by show decode prog_2_method_3_code 465 = _; decide +kernel
set_option maxRecDepth 4000 in
theorem kA_perform {E : Ev} : ∀ (fu : Nat) (σ σ2 : St) (i1 : Int32) (i2 : Int32) (i3 : Int32) (i4 : Int32) (z : Int32), fA_perform fu σ i1 i2 i3 i4 = some (z, σ2) → Ct (mA_perform fu) E [.ref 31, .int i1, .int i2, .int i3, .int i4] σ (some (.int z), σ2) := by
  intro fu
  induction fu with
  | zero => intro σ σ2 i1 i2 i3 i4 z hX; cases hX
  | succ fu ih =>
    intro σ σ2 i1 i2 i3 i4 z hX
    refine Ct.of rfl (Nat.le_of_ble_eq_true rfl) ?_
    rw [fA_perform] at hX
    refine V.aloadn 0 (dA_perform_0 (fu + 1)) rfl rfl ?_
    refine V.geti 31 (dA_perform_1 (fu + 1)) flA_28 (rfl : kd 31 = (0, 0)) rfl ?_
    refine V.ifne 14 (dA_perform_4 (fu + 1)) rfl rfl (fun g1 => ?_) (fun g1 => ?_)
    · replace hX := im hX g1
      refine V.iconst (0 : Int32) (dA_perform_14 (fu + 1)) lc0 rfl ?_
      obtain ⟨rfl, rfl⟩ := Prod.mk.inj (Option.some.inj hX); exact V.iret (dA_perform_15 (fu + 1)) rfl rfl
    · replace hX := ip hX g1
      refine V.iload 4 (dA_perform_7 (fu + 1)) rfl rfl ?_
      refine V.bipush (20 : Int32) (dA_perform_9 (fu + 1)) lb20 rfl ?_
      refine V.icmple 16 (dA_perform_11 (fu + 1)) rfl rfl (fun g2 => ?_) (fun g2 => ?_)
      · replace hX := ip hX g2
        refine V.iloadn 1 (dA_perform_16 (fu + 1)) rfl rfl ?_
        refine V.iloadn 2 (dA_perform_17 (fu + 1)) rfl rfl ?_
        obtain ⟨q3, c4, hX⟩ := bd hX; try dsimp only at hX
        refine V.callsi [.int i1, .int i2] (dA_perform_18 (fu + 1)) (kA_bodyOf c4) mlA_36 myA_bodyOf mnA_bodyOf (by refine ⟨rfl, rfl, ?_, ?_⟩ <;> (dsimp only [mA_perform, mA_bodyOf, rm]; omega)) rfl (Nat.le_of_ble_eq_true rfl) ⟨Nat.zero_le _, Nat.zero_le _⟩ rfl ?_
        refine V.istore _ (dA_perform_21 (fu + 1)) (Nat.le_of_ble_eq_true rfl) rfl rfl ?_
        refine V.aloadn 1 (dA_perform_23 (fu + 1)) rfl rfl ?_
        refine V.iload 0 (dA_perform_24 (fu + 1)) rfl rfl ?_
        obtain ⟨σ6, c5, hX⟩ := bd hX; try dsimp only at hX
        refine V.callv0 31 [.int q3] (dA_perform_26 (fu + 1)) (kA_note c5) mlA_40 myA_note mnA_note (by refine ⟨rfl, rfl, ?_, ?_⟩ <;> (dsimp only [mA_perform, mA_note, rm]; omega)) (rfl : kd 31 = (0, 0)) ⟨by decide, rfl⟩ rfl (Nat.le_of_ble_eq_true rfl) ⟨Nat.zero_le _, Nat.zero_le _⟩ rfl ?_
        refine V.iload 5 (dA_perform_29 (fu + 1)) rfl rfl ?_
        refine V.iconst (1 : Int32) (dA_perform_31 (fu + 1)) lc1 rfl ?_
        refine V.iadd (dA_perform_32 (fu + 1)) rfl ?_
        refine V.istore _ (dA_perform_33 (fu + 1)) (Nat.le_of_ble_eq_true rfl) rfl rfl ?_
        replace hX := nmx hX; generalize i4 + (1 : Int32) = v7 at hX ⊢; try dsimp only at hX
        refine V.iload 1 (dA_perform_35 (fu + 1)) rfl rfl ?_
        by_cases g8 : q3 = (10 : Int32)
        · replace hX := ip hX g8
          refine V.tabIn (off := 223) 260 (dA_perform_37 (fu + 1)) (by rw [g8]; decide) (by rw [g8]; decide) (by rw [g8]; rfl) rfl ?_
          refine V.iloadn 5 (dA_perform_260 (fu + 1)) rfl rfl ?_
          refine V.aloadn 2 (dA_perform_261 (fu + 1)) rfl rfl ?_
          refine V.geti 31 (dA_perform_262 (fu + 1)) flA_22 (rfl : kd 31 = (0, 0)) rfl ?_
          refine V.iadd (dA_perform_265 (fu + 1)) rfl ?_
          obtain ⟨rfl, rfl⟩ := Prod.mk.inj (Option.some.inj hX); exact V.iret (dA_perform_266 (fu + 1)) rfl rfl
        · replace hX := im hX g8
          by_cases g9 : q3 = (11 : Int32)
          · replace hX := ip hX g9
            refine V.tabIn (off := 230) 267 (dA_perform_37 (fu + 1)) (by rw [g9]; decide) (by rw [g9]; decide) (by rw [g9]; rfl) rfl ?_
            refine V.aloadn 2 (dA_perform_267 (fu + 1)) rfl rfl ?_
            refine V.aloadn 2 (dA_perform_268 (fu + 1)) rfl rfl ?_
            refine V.geti 31 (dA_perform_269 (fu + 1)) flA_19 (rfl : kd 31 = (0, 0)) rfl ?_
            refine V.iconst (0 : Int32) (dA_perform_272 (fu + 1)) lc0 rfl ?_
            refine V.iloadn 5 (dA_perform_273 (fu + 1)) rfl rfl ?_
            refine V.iload 0 (dA_perform_274 (fu + 1)) rfl rfl ?_
            obtain ⟨q11, σ11, c10, hX⟩ := bi2 hX; try dsimp only at hX
            refine V.callvi 31 [.int (gI σ6 31 2), .int (0 : Int32), .int i3, .int v7] (dA_perform_276 (fu + 1)) (ih _ _ _ _ _ _ _ c10) mlA_32 (myA_perform _) (mnA_perform _) (by refine ⟨rfl, rfl, ?_, ?_⟩ <;> (dsimp only [mA_perform, mA_perform, rm]; omega)) (rfl : kd 31 = (0, 0)) ⟨by decide, rfl⟩ rfl (Nat.le_of_ble_eq_true rfl) ⟨Nat.zero_le _, Nat.zero_le _⟩ rfl ?_
            refine V.iconst (2 : Int32) (dA_perform_279 (fu + 1)) lc2 rfl ?_
            refine V.imul (dA_perform_280 (fu + 1)) rfl ?_
            obtain ⟨rfl, rfl⟩ := Prod.mk.inj (Option.some.inj hX); exact V.iret (dA_perform_281 (fu + 1)) rfl rfl
          · replace hX := im hX g9
            by_cases g12 : q3 = (12 : Int32)
            · replace hX := ip hX g12
              refine V.tabIn (off := 245) 282 (dA_perform_37 (fu + 1)) (by rw [g12]; decide) (by rw [g12]; decide) (by rw [g12]; rfl) rfl ?_
              refine V.aloadn 2 (dA_perform_282 (fu + 1)) rfl rfl ?_
              refine V.iloadn 5 (dA_perform_283 (fu + 1)) rfl rfl ?_
              obtain ⟨q14, σ14, c13, hX⟩ := bi2 hX; try dsimp only at hX
              refine V.callvi 31 [.int i3] (dA_perform_284 (fu + 1)) (kA_share c13) mlA_44 myA_share mnA_share (by refine ⟨rfl, rfl, ?_, ?_⟩ <;> (dsimp only [mA_perform, mA_share, rm]; omega)) (rfl : kd 31 = (0, 0)) ⟨by decide, rfl⟩ rfl (Nat.le_of_ble_eq_true rfl) ⟨Nat.zero_le _, Nat.zero_le _⟩ rfl ?_
              obtain ⟨rfl, rfl⟩ := Prod.mk.inj (Option.some.inj hX); exact V.iret (dA_perform_287 (fu + 1)) rfl rfl
            · replace hX := im hX g12
              by_cases g15 : q3 = (13 : Int32)
              · replace hX := ip hX g15
                refine V.tabIn (off := 251) 288 (dA_perform_37 (fu + 1)) (by rw [g15]; decide) (by rw [g15]; decide) (by rw [g15]; rfl) rfl ?_
                refine V.aloadn 2 (dA_perform_288 (fu + 1)) rfl rfl ?_
                refine V.aloadn 2 (dA_perform_289 (fu + 1)) rfl rfl ?_
                refine V.geti 31 (dA_perform_290 (fu + 1)) flA_19 (rfl : kd 31 = (0, 0)) rfl ?_
                refine V.iconst (1 : Int32) (dA_perform_293 (fu + 1)) lc1 rfl ?_
                refine V.iloadn 5 (dA_perform_294 (fu + 1)) rfl rfl ?_
                refine V.iload 0 (dA_perform_295 (fu + 1)) rfl rfl ?_
                obtain ⟨q17, σ17, c16, hX⟩ := bi2 hX; try dsimp only at hX
                refine V.callvi 31 [.int (gI σ6 31 2), .int (1 : Int32), .int i3, .int v7] (dA_perform_297 (fu + 1)) (ih _ _ _ _ _ _ _ c16) mlA_32 (myA_perform _) (mnA_perform _) (by refine ⟨rfl, rfl, ?_, ?_⟩ <;> (dsimp only [mA_perform, mA_perform, rm]; omega)) (rfl : kd 31 = (0, 0)) ⟨by decide, rfl⟩ rfl (Nat.le_of_ble_eq_true rfl) ⟨Nat.zero_le _, Nat.zero_le _⟩ rfl ?_
                refine V.aloadn 2 (dA_perform_300 (fu + 1)) rfl rfl ?_
                refine V.geti 31 (dA_perform_301 (fu + 1)) flA_25 (rfl : kd 31 = (0, 0)) rfl ?_
                refine V.ixor (dA_perform_304 (fu + 1)) rfl ?_
                obtain ⟨rfl, rfl⟩ := Prod.mk.inj (Option.some.inj hX); exact V.iret (dA_perform_305 (fu + 1)) rfl rfl
              · replace hX := im hX g15
                by_cases g18 : q3 = (20 : Int32)
                · replace hX := ip hX g18
                  refine V.tabIn (off := 269) 306 (dA_perform_37 (fu + 1)) (by rw [g18]; decide) (by rw [g18]; decide) (by rw [g18]; rfl) rfl ?_
                  refine V.aloadn 2 (dA_perform_306 (fu + 1)) rfl rfl ?_
                  refine V.iconst (0 : Int32) (dA_perform_307 (fu + 1)) lc0 rfl ?_
                  refine V.iconst (1 : Int32) (dA_perform_308 (fu + 1)) lc1 rfl ?_
                  refine V.iloadn 5 (dA_perform_309 (fu + 1)) rfl rfl ?_
                  refine V.iload 0 (dA_perform_310 (fu + 1)) rfl rfl ?_
                  obtain ⟨q20, σ20, c19, hX⟩ := bi2 hX; try dsimp only at hX
                  refine V.callvi 31 [.int (0 : Int32), .int (1 : Int32), .int i3, .int v7] (dA_perform_312 (fu + 1)) (ih _ _ _ _ _ _ _ c19) mlA_32 (myA_perform _) (mnA_perform _) (by refine ⟨rfl, rfl, ?_, ?_⟩ <;> (dsimp only [mA_perform, mA_perform, rm]; omega)) (rfl : kd 31 = (0, 0)) ⟨by decide, rfl⟩ rfl (Nat.le_of_ble_eq_true rfl) ⟨Nat.zero_le _, Nat.zero_le _⟩ rfl ?_
                  refine V.aloadn 2 (dA_perform_315 (fu + 1)) rfl rfl ?_
                  refine V.geti 31 (dA_perform_316 (fu + 1)) flA_25 (rfl : kd 31 = (0, 0)) rfl ?_
                  refine V.isub (dA_perform_319 (fu + 1)) rfl ?_
                  obtain ⟨rfl, rfl⟩ := Prod.mk.inj (Option.some.inj hX); exact V.iret (dA_perform_320 (fu + 1)) rfl rfl
                · replace hX := im hX g18
                  by_cases g21 : q3 = (30 : Int32)
                  · replace hX := ip hX g21
                    refine V.tabIn (off := 284) 321 (dA_perform_37 (fu + 1)) (by rw [g21]; decide) (by rw [g21]; decide) (by rw [g21]; rfl) rfl ?_
                    refine V.aloadn 2 (dA_perform_321 (fu + 1)) rfl rfl ?_
                    refine V.iconst (0 : Int32) (dA_perform_322 (fu + 1)) lc0 rfl ?_
                    refine V.iconst (0 : Int32) (dA_perform_323 (fu + 1)) lc0 rfl ?_
                    refine V.iloadn 5 (dA_perform_324 (fu + 1)) rfl rfl ?_
                    refine V.iload 0 (dA_perform_325 (fu + 1)) rfl rfl ?_
                    obtain ⟨q23, σ23, c22, hX⟩ := bi2 hX; try dsimp only at hX
                    refine V.callvi 31 [.int (0 : Int32), .int (0 : Int32), .int i3, .int v7] (dA_perform_327 (fu + 1)) (ih _ _ _ _ _ _ _ c22) mlA_32 (myA_perform _) (mnA_perform _) (by refine ⟨rfl, rfl, ?_, ?_⟩ <;> (dsimp only [mA_perform, mA_perform, rm]; omega)) (rfl : kd 31 = (0, 0)) ⟨by decide, rfl⟩ rfl (Nat.le_of_ble_eq_true rfl) ⟨Nat.zero_le _, Nat.zero_le _⟩ rfl ?_
                    refine V.iconst (3 : Int32) (dA_perform_330 (fu + 1)) lc3 rfl ?_
                    refine V.imul (dA_perform_331 (fu + 1)) rfl ?_
                    obtain ⟨rfl, rfl⟩ := Prod.mk.inj (Option.some.inj hX); exact V.iret (dA_perform_332 (fu + 1)) rfl rfl
                  · replace hX := im hX g21
                    by_cases g24 : q3 = (31 : Int32)
                    · replace hX := ip hX g24
                      refine V.tabIn (off := 296) 333 (dA_perform_37 (fu + 1)) (by rw [g24]; decide) (by rw [g24]; decide) (by rw [g24]; rfl) rfl ?_
                      refine V.aloadn 2 (dA_perform_333 (fu + 1)) rfl rfl ?_
                      refine V.iconst (0 : Int32) (dA_perform_334 (fu + 1)) lc0 rfl ?_
                      refine V.iconst (3 : Int32) (dA_perform_335 (fu + 1)) lc3 rfl ?_
                      refine V.iloadn 5 (dA_perform_336 (fu + 1)) rfl rfl ?_
                      refine V.iload 0 (dA_perform_337 (fu + 1)) rfl rfl ?_
                      obtain ⟨q26, σ26, c25, hX⟩ := bi2 hX; try dsimp only at hX
                      refine V.callvi 31 [.int (0 : Int32), .int (3 : Int32), .int i3, .int v7] (dA_perform_339 (fu + 1)) (ih _ _ _ _ _ _ _ c25) mlA_32 (myA_perform _) (mnA_perform _) (by refine ⟨rfl, rfl, ?_, ?_⟩ <;> (dsimp only [mA_perform, mA_perform, rm]; omega)) (rfl : kd 31 = (0, 0)) ⟨by decide, rfl⟩ rfl (Nat.le_of_ble_eq_true rfl) ⟨Nat.zero_le _, Nat.zero_le _⟩ rfl ?_
                      refine V.aloadn 2 (dA_perform_342 (fu + 1)) rfl rfl ?_
                      refine V.aloadn 2 (dA_perform_343 (fu + 1)) rfl rfl ?_
                      refine V.geti 31 (dA_perform_344 (fu + 1)) flA_19 (rfl : kd 31 = (0, 0)) rfl ?_
                      refine V.iconst (2 : Int32) (dA_perform_347 (fu + 1)) lc2 rfl ?_
                      refine V.aloadn 2 (dA_perform_348 (fu + 1)) rfl rfl ?_
                      refine V.geti 31 (dA_perform_349 (fu + 1)) flA_22 (rfl : kd 31 = (0, 0)) rfl ?_
                      refine V.iload 0 (dA_perform_352 (fu + 1)) rfl rfl ?_
                      obtain ⟨q28, σ28, c27, hX⟩ := bi2 hX; try dsimp only at hX
                      refine V.callvi 31 [.int (gI σ26 31 2), .int (2 : Int32), .int (gI σ26 31 3), .int v7] (dA_perform_354 (fu + 1)) (ih _ _ _ _ _ _ _ c27) mlA_32 (myA_perform _) (mnA_perform _) (by refine ⟨rfl, rfl, ?_, ?_⟩ <;> (dsimp only [mA_perform, mA_perform, rm]; omega)) (rfl : kd 31 = (0, 0)) ⟨by decide, rfl⟩ rfl (Nat.le_of_ble_eq_true rfl) ⟨Nat.zero_le _, Nat.zero_le _⟩ rfl ?_
                      refine V.iadd (dA_perform_357 (fu + 1)) rfl ?_
                      obtain ⟨rfl, rfl⟩ := Prod.mk.inj (Option.some.inj hX); exact V.iret (dA_perform_358 (fu + 1)) rfl rfl
                    · replace hX := im hX g24
                      by_cases g29 : q3 = (40 : Int32)
                      · replace hX := ip hX g29
                        refine V.tabIn (off := 322) 359 (dA_perform_37 (fu + 1)) (by rw [g29]; decide) (by rw [g29]; decide) (by rw [g29]; rfl) rfl ?_
                        refine V.iconst (0 : Int32) (dA_perform_359 (fu + 1)) lc0 rfl ?_
                        refine V.aloadn 2 (dA_perform_360 (fu + 1)) rfl rfl ?_
                        refine V.iconst (2 : Int32) (dA_perform_361 (fu + 1)) lc2 rfl ?_
                        refine V.iconst (0 : Int32) (dA_perform_362 (fu + 1)) lc0 rfl ?_
                        refine V.iloadn 5 (dA_perform_363 (fu + 1)) rfl rfl ?_
                        refine V.iload 0 (dA_perform_364 (fu + 1)) rfl rfl ?_
                        obtain ⟨q31, σ31, c30, hX⟩ := bi2 hX; try dsimp only at hX
                        refine V.callvi 31 [.int (2 : Int32), .int (0 : Int32), .int i3, .int v7] (dA_perform_366 (fu + 1)) (ih _ _ _ _ _ _ _ c30) mlA_32 (myA_perform _) (mnA_perform _) (by refine ⟨rfl, rfl, ?_, ?_⟩ <;> (dsimp only [mA_perform, mA_perform, rm]; omega)) (rfl : kd 31 = (0, 0)) ⟨by decide, rfl⟩ rfl (Nat.le_of_ble_eq_true rfl) ⟨Nat.zero_le _, Nat.zero_le _⟩ rfl ?_
                        refine V.isub (dA_perform_369 (fu + 1)) rfl ?_
                        obtain ⟨rfl, rfl⟩ := Prod.mk.inj (Option.some.inj hX); exact V.iret (dA_perform_370 (fu + 1)) rfl rfl
                      · replace hX := im hX g29
                        by_cases g32 : q3 = (41 : Int32)
                        · replace hX := ip hX g32
                          refine V.tabIn (off := 334) 371 (dA_perform_37 (fu + 1)) (by rw [g32]; decide) (by rw [g32]; decide) (by rw [g32]; rfl) rfl ?_
                          refine V.aloadn 2 (dA_perform_371 (fu + 1)) rfl rfl ?_
                          refine V.iconst (2 : Int32) (dA_perform_372 (fu + 1)) lc2 rfl ?_
                          refine V.iconst (1 : Int32) (dA_perform_373 (fu + 1)) lc1 rfl ?_
                          refine V.iloadn 5 (dA_perform_374 (fu + 1)) rfl rfl ?_
                          refine V.iload 0 (dA_perform_375 (fu + 1)) rfl rfl ?_
                          obtain ⟨q34, σ34, c33, hX⟩ := bi2 hX; try dsimp only at hX
                          refine V.callvi 31 [.int (2 : Int32), .int (1 : Int32), .int i3, .int v7] (dA_perform_377 (fu + 1)) (ih _ _ _ _ _ _ _ c33) mlA_32 (myA_perform _) (mnA_perform _) (by refine ⟨rfl, rfl, ?_, ?_⟩ <;> (dsimp only [mA_perform, mA_perform, rm]; omega)) (rfl : kd 31 = (0, 0)) ⟨by decide, rfl⟩ rfl (Nat.le_of_ble_eq_true rfl) ⟨Nat.zero_le _, Nat.zero_le _⟩ rfl ?_
                          refine V.aloadn 2 (dA_perform_380 (fu + 1)) rfl rfl ?_
                          refine V.aloadn 2 (dA_perform_381 (fu + 1)) rfl rfl ?_
                          refine V.geti 31 (dA_perform_382 (fu + 1)) flA_19 (rfl : kd 31 = (0, 0)) rfl ?_
                          refine V.iconst (0 : Int32) (dA_perform_385 (fu + 1)) lc0 rfl ?_
                          refine V.aloadn 2 (dA_perform_386 (fu + 1)) rfl rfl ?_
                          refine V.geti 31 (dA_perform_387 (fu + 1)) flA_22 (rfl : kd 31 = (0, 0)) rfl ?_
                          refine V.iload 0 (dA_perform_390 (fu + 1)) rfl rfl ?_
                          obtain ⟨q36, σ36, c35, hX⟩ := bi2 hX; try dsimp only at hX
                          refine V.callvi 31 [.int (gI σ34 31 2), .int (0 : Int32), .int (gI σ34 31 3), .int v7] (dA_perform_392 (fu + 1)) (ih _ _ _ _ _ _ _ c35) mlA_32 (myA_perform _) (mnA_perform _) (by refine ⟨rfl, rfl, ?_, ?_⟩ <;> (dsimp only [mA_perform, mA_perform, rm]; omega)) (rfl : kd 31 = (0, 0)) ⟨by decide, rfl⟩ rfl (Nat.le_of_ble_eq_true rfl) ⟨Nat.zero_le _, Nat.zero_le _⟩ rfl ?_
                          refine V.iadd (dA_perform_395 (fu + 1)) rfl ?_
                          obtain ⟨rfl, rfl⟩ := Prod.mk.inj (Option.some.inj hX); exact V.iret (dA_perform_396 (fu + 1)) rfl rfl
                        · replace hX := im hX g32
                          by_cases g37 : q3 = (50 : Int32)
                          · replace hX := ip hX g37
                            refine V.tabIn (off := 360) 397 (dA_perform_37 (fu + 1)) (by rw [g37]; decide) (by rw [g37]; decide) (by rw [g37]; rfl) rfl ?_
                            refine V.aloadn 2 (dA_perform_397 (fu + 1)) rfl rfl ?_
                            refine V.iconst (1 : Int32) (dA_perform_398 (fu + 1)) lc1 rfl ?_
                            refine V.iconst (2 : Int32) (dA_perform_399 (fu + 1)) lc2 rfl ?_
                            refine V.iloadn 5 (dA_perform_400 (fu + 1)) rfl rfl ?_
                            refine V.iconst (2 : Int32) (dA_perform_401 (fu + 1)) lc2 rfl ?_
                            refine V.iadd (dA_perform_402 (fu + 1)) rfl ?_
                            refine V.iload 0 (dA_perform_403 (fu + 1)) rfl rfl ?_
                            obtain ⟨q39, σ39, c38, hX⟩ := bi2 hX; try dsimp only at hX
                            refine V.callvi 31 [.int (1 : Int32), .int (2 : Int32), .int (i3 + (2 : Int32)), .int v7] (dA_perform_405 (fu + 1)) (ih _ _ _ _ _ _ _ c38) mlA_32 (myA_perform _) (mnA_perform _) (by refine ⟨rfl, rfl, ?_, ?_⟩ <;> (dsimp only [mA_perform, mA_perform, rm]; omega)) (rfl : kd 31 = (0, 0)) ⟨by decide, rfl⟩ rfl (Nat.le_of_ble_eq_true rfl) ⟨Nat.zero_le _, Nat.zero_le _⟩ rfl ?_
                            refine V.iconst (1 : Int32) (dA_perform_408 (fu + 1)) lc1 rfl ?_
                            refine V.ixor (dA_perform_409 (fu + 1)) rfl ?_
                            obtain ⟨rfl, rfl⟩ := Prod.mk.inj (Option.some.inj hX); exact V.iret (dA_perform_410 (fu + 1)) rfl rfl
                          · replace hX := im hX g37
                            by_cases g40 : q3 = (51 : Int32)
                            · replace hX := ip hX g40
                              refine V.tabIn (off := 374) 411 (dA_perform_37 (fu + 1)) (by rw [g40]; decide) (by rw [g40]; decide) (by rw [g40]; rfl) rfl ?_
                              refine V.aloadn 2 (dA_perform_411 (fu + 1)) rfl rfl ?_
                              refine V.iconst (1 : Int32) (dA_perform_412 (fu + 1)) lc1 rfl ?_
                              refine V.iconst (0 : Int32) (dA_perform_413 (fu + 1)) lc0 rfl ?_
                              refine V.iloadn 5 (dA_perform_414 (fu + 1)) rfl rfl ?_
                              refine V.iload 0 (dA_perform_415 (fu + 1)) rfl rfl ?_
                              obtain ⟨q42, σ42, c41, hX⟩ := bi2 hX; try dsimp only at hX
                              refine V.callvi 31 [.int (1 : Int32), .int (0 : Int32), .int i3, .int v7] (dA_perform_417 (fu + 1)) (ih _ _ _ _ _ _ _ c41) mlA_32 (myA_perform _) (mnA_perform _) (by refine ⟨rfl, rfl, ?_, ?_⟩ <;> (dsimp only [mA_perform, mA_perform, rm]; omega)) (rfl : kd 31 = (0, 0)) ⟨by decide, rfl⟩ rfl (Nat.le_of_ble_eq_true rfl) ⟨Nat.zero_le _, Nat.zero_le _⟩ rfl ?_
                              refine V.aloadn 2 (dA_perform_420 (fu + 1)) rfl rfl ?_
                              refine V.geti 31 (dA_perform_421 (fu + 1)) flA_22 (rfl : kd 31 = (0, 0)) rfl ?_
                              refine V.isub (dA_perform_424 (fu + 1)) rfl ?_
                              obtain ⟨rfl, rfl⟩ := Prod.mk.inj (Option.some.inj hX); exact V.iret (dA_perform_425 (fu + 1)) rfl rfl
                            · replace hX := im hX g40
                              by_cases g43 : q3 = (60 : Int32)
                              · replace hX := ip hX g43
                                refine V.tabIn (off := 389) 426 (dA_perform_37 (fu + 1)) (by rw [g43]; decide) (by rw [g43]; decide) (by rw [g43]; rfl) rfl ?_
                                refine V.aloadn 2 (dA_perform_426 (fu + 1)) rfl rfl ?_
                                refine V.iconst (0 : Int32) (dA_perform_427 (fu + 1)) lc0 rfl ?_
                                refine V.iconst (3 : Int32) (dA_perform_428 (fu + 1)) lc3 rfl ?_
                                refine V.iloadn 5 (dA_perform_429 (fu + 1)) rfl rfl ?_
                                refine V.iload 0 (dA_perform_430 (fu + 1)) rfl rfl ?_
                                obtain ⟨q45, σ45, c44, hX⟩ := bi2 hX; try dsimp only at hX
                                refine V.callvi 31 [.int (0 : Int32), .int (3 : Int32), .int i3, .int v7] (dA_perform_432 (fu + 1)) (ih _ _ _ _ _ _ _ c44) mlA_32 (myA_perform _) (mnA_perform _) (by refine ⟨rfl, rfl, ?_, ?_⟩ <;> (dsimp only [mA_perform, mA_perform, rm]; omega)) (rfl : kd 31 = (0, 0)) ⟨by decide, rfl⟩ rfl (Nat.le_of_ble_eq_true rfl) ⟨Nat.zero_le _, Nat.zero_le _⟩ rfl ?_
                                refine V.iconst (2 : Int32) (dA_perform_435 (fu + 1)) lc2 rfl ?_
                                refine V.imul (dA_perform_436 (fu + 1)) rfl ?_
                                obtain ⟨rfl, rfl⟩ := Prod.mk.inj (Option.some.inj hX); exact V.iret (dA_perform_437 (fu + 1)) rfl rfl
                              · replace hX := im hX g43
                                by_cases g46 : q3 = (61 : Int32)
                                · replace hX := ip hX g46
                                  refine V.tabIn (off := 401) 438 (dA_perform_37 (fu + 1)) (by rw [g46]; decide) (by rw [g46]; decide) (by rw [g46]; rfl) rfl ?_
                                  refine V.aloadn 2 (dA_perform_438 (fu + 1)) rfl rfl ?_
                                  refine V.iconst (0 : Int32) (dA_perform_439 (fu + 1)) lc0 rfl ?_
                                  refine V.iconst (2 : Int32) (dA_perform_440 (fu + 1)) lc2 rfl ?_
                                  refine V.iloadn 5 (dA_perform_441 (fu + 1)) rfl rfl ?_
                                  refine V.iload 0 (dA_perform_442 (fu + 1)) rfl rfl ?_
                                  obtain ⟨q48, σ48, c47, hX⟩ := bi2 hX; try dsimp only at hX
                                  refine V.callvi 31 [.int (0 : Int32), .int (2 : Int32), .int i3, .int v7] (dA_perform_444 (fu + 1)) (ih _ _ _ _ _ _ _ c47) mlA_32 (myA_perform _) (mnA_perform _) (by refine ⟨rfl, rfl, ?_, ?_⟩ <;> (dsimp only [mA_perform, mA_perform, rm]; omega)) (rfl : kd 31 = (0, 0)) ⟨by decide, rfl⟩ rfl (Nat.le_of_ble_eq_true rfl) ⟨Nat.zero_le _, Nat.zero_le _⟩ rfl ?_
                                  refine V.aloadn 2 (dA_perform_447 (fu + 1)) rfl rfl ?_
                                  refine V.aloadn 2 (dA_perform_448 (fu + 1)) rfl rfl ?_
                                  refine V.geti 31 (dA_perform_449 (fu + 1)) flA_19 (rfl : kd 31 = (0, 0)) rfl ?_
                                  refine V.iconst (0 : Int32) (dA_perform_452 (fu + 1)) lc0 rfl ?_
                                  refine V.aloadn 2 (dA_perform_453 (fu + 1)) rfl rfl ?_
                                  refine V.geti 31 (dA_perform_454 (fu + 1)) flA_25 (rfl : kd 31 = (0, 0)) rfl ?_
                                  refine V.iload 0 (dA_perform_457 (fu + 1)) rfl rfl ?_
                                  obtain ⟨q50, σ50, c49, hX⟩ := bi2 hX; try dsimp only at hX
                                  refine V.callvi 31 [.int (gI σ48 31 2), .int (0 : Int32), .int (gI σ48 31 4), .int v7] (dA_perform_459 (fu + 1)) (ih _ _ _ _ _ _ _ c49) mlA_32 (myA_perform _) (mnA_perform _) (by refine ⟨rfl, rfl, ?_, ?_⟩ <;> (dsimp only [mA_perform, mA_perform, rm]; omega)) (rfl : kd 31 = (0, 0)) ⟨by decide, rfl⟩ rfl (Nat.le_of_ble_eq_true rfl) ⟨Nat.zero_le _, Nat.zero_le _⟩ rfl ?_
                                  refine V.iadd (dA_perform_462 (fu + 1)) rfl ?_
                                  obtain ⟨rfl, rfl⟩ := Prod.mk.inj (Option.some.inj hX); exact V.iret (dA_perform_463 (fu + 1)) rfl rfl
                                · replace hX := im hX g46
                                  by_cases hd_ : q3.toInt < 10 ∨ 61 < q3.toInt
                                  · refine V.tabOut 464 (dA_perform_37 (fu + 1)) hd_ rfl ?_
                                    refine V.iconst (0 : Int32) (dA_perform_464 (fu + 1)) lc0 rfl ?_
                                    obtain ⟨rfl, rfl⟩ := Prod.mk.inj (Option.some.inj hX); exact V.iret (dA_perform_465 (fu + 1)) rfl rfl
                                  · have hr_ : q3.toInt = 14 ∨ q3.toInt = 15 ∨ q3.toInt = 16 ∨ q3.toInt = 17 ∨ q3.toInt = 18 ∨ q3.toInt = 19 ∨ q3.toInt = 21 ∨ q3.toInt = 22 ∨ q3.toInt = 23 ∨ q3.toInt = 24 ∨ q3.toInt = 25 ∨ q3.toInt = 26 ∨ q3.toInt = 27 ∨ q3.toInt = 28 ∨ q3.toInt = 29 ∨ q3.toInt = 32 ∨ q3.toInt = 33 ∨ q3.toInt = 34 ∨ q3.toInt = 35 ∨ q3.toInt = 36 ∨ q3.toInt = 37 ∨ q3.toInt = 38 ∨ q3.toInt = 39 ∨ q3.toInt = 42 ∨ q3.toInt = 43 ∨ q3.toInt = 44 ∨ q3.toInt = 45 ∨ q3.toInt = 46 ∨ q3.toInt = 47 ∨ q3.toInt = 48 ∨ q3.toInt = 49 ∨ q3.toInt = 52 ∨ q3.toInt = 53 ∨ q3.toInt = 54 ∨ q3.toInt = 55 ∨ q3.toInt = 56 ∨ q3.toInt = 57 ∨ q3.toInt = 58 ∨ q3.toInt = 59 := by have a0 := lv_neT g8 (a := 10) (by decide); have a1 := lv_neT g9 (a := 11) (by decide); have a2 := lv_neT g12 (a := 12) (by decide); have a3 := lv_neT g15 (a := 13) (by decide); have a4 := lv_neT g18 (a := 20) (by decide); have a5 := lv_neT g21 (a := 30) (by decide); have a6 := lv_neT g24 (a := 31) (by decide); have a7 := lv_neT g29 (a := 40) (by decide); have a8 := lv_neT g32 (a := 41) (by decide); have a9 := lv_neT g37 (a := 50) (by decide); have a10 := lv_neT g40 (a := 51) (by decide); have a11 := lv_neT g43 (a := 60) (by decide); have a12 := lv_neT g46 (a := 61) (by decide); omega
                                    rcases hr_ with hr_ | hr_ | hr_ | hr_ | hr_ | hr_ | hr_ | hr_ | hr_ | hr_ | hr_ | hr_ | hr_ | hr_ | hr_ | hr_ | hr_ | hr_ | hr_ | hr_ | hr_ | hr_ | hr_ | hr_ | hr_ | hr_ | hr_ | hr_ | hr_ | hr_ | hr_ | hr_ | hr_ | hr_ | hr_ | hr_ | hr_ | hr_ | hr_
                                    · refine V.tabIn (off := 427) 464 (dA_perform_37 (fu + 1)) (by omega) (by omega) (by rw [hr_]; rfl) rfl ?_
                                      refine V.iconst (0 : Int32) (dA_perform_464 (fu + 1)) lc0 rfl ?_
                                      obtain ⟨rfl, rfl⟩ := Prod.mk.inj (Option.some.inj hX); exact V.iret (dA_perform_465 (fu + 1)) rfl rfl
                                    · refine V.tabIn (off := 427) 464 (dA_perform_37 (fu + 1)) (by omega) (by omega) (by rw [hr_]; rfl) rfl ?_
                                      refine V.iconst (0 : Int32) (dA_perform_464 (fu + 1)) lc0 rfl ?_
                                      obtain ⟨rfl, rfl⟩ := Prod.mk.inj (Option.some.inj hX); exact V.iret (dA_perform_465 (fu + 1)) rfl rfl
                                    · refine V.tabIn (off := 427) 464 (dA_perform_37 (fu + 1)) (by omega) (by omega) (by rw [hr_]; rfl) rfl ?_
                                      refine V.iconst (0 : Int32) (dA_perform_464 (fu + 1)) lc0 rfl ?_
                                      obtain ⟨rfl, rfl⟩ := Prod.mk.inj (Option.some.inj hX); exact V.iret (dA_perform_465 (fu + 1)) rfl rfl
                                    · refine V.tabIn (off := 427) 464 (dA_perform_37 (fu + 1)) (by omega) (by omega) (by rw [hr_]; rfl) rfl ?_
                                      refine V.iconst (0 : Int32) (dA_perform_464 (fu + 1)) lc0 rfl ?_
                                      obtain ⟨rfl, rfl⟩ := Prod.mk.inj (Option.some.inj hX); exact V.iret (dA_perform_465 (fu + 1)) rfl rfl
                                    · refine V.tabIn (off := 427) 464 (dA_perform_37 (fu + 1)) (by omega) (by omega) (by rw [hr_]; rfl) rfl ?_
                                      refine V.iconst (0 : Int32) (dA_perform_464 (fu + 1)) lc0 rfl ?_
                                      obtain ⟨rfl, rfl⟩ := Prod.mk.inj (Option.some.inj hX); exact V.iret (dA_perform_465 (fu + 1)) rfl rfl
                                    · refine V.tabIn (off := 427) 464 (dA_perform_37 (fu + 1)) (by omega) (by omega) (by rw [hr_]; rfl) rfl ?_
                                      refine V.iconst (0 : Int32) (dA_perform_464 (fu + 1)) lc0 rfl ?_
                                      obtain ⟨rfl, rfl⟩ := Prod.mk.inj (Option.some.inj hX); exact V.iret (dA_perform_465 (fu + 1)) rfl rfl
                                    · refine V.tabIn (off := 427) 464 (dA_perform_37 (fu + 1)) (by omega) (by omega) (by rw [hr_]; rfl) rfl ?_
                                      refine V.iconst (0 : Int32) (dA_perform_464 (fu + 1)) lc0 rfl ?_
                                      obtain ⟨rfl, rfl⟩ := Prod.mk.inj (Option.some.inj hX); exact V.iret (dA_perform_465 (fu + 1)) rfl rfl
                                    · refine V.tabIn (off := 427) 464 (dA_perform_37 (fu + 1)) (by omega) (by omega) (by rw [hr_]; rfl) rfl ?_
                                      refine V.iconst (0 : Int32) (dA_perform_464 (fu + 1)) lc0 rfl ?_
                                      obtain ⟨rfl, rfl⟩ := Prod.mk.inj (Option.some.inj hX); exact V.iret (dA_perform_465 (fu + 1)) rfl rfl
                                    · refine V.tabIn (off := 427) 464 (dA_perform_37 (fu + 1)) (by omega) (by omega) (by rw [hr_]; rfl) rfl ?_
                                      refine V.iconst (0 : Int32) (dA_perform_464 (fu + 1)) lc0 rfl ?_
                                      obtain ⟨rfl, rfl⟩ := Prod.mk.inj (Option.some.inj hX); exact V.iret (dA_perform_465 (fu + 1)) rfl rfl
                                    · refine V.tabIn (off := 427) 464 (dA_perform_37 (fu + 1)) (by omega) (by omega) (by rw [hr_]; rfl) rfl ?_
                                      refine V.iconst (0 : Int32) (dA_perform_464 (fu + 1)) lc0 rfl ?_
                                      obtain ⟨rfl, rfl⟩ := Prod.mk.inj (Option.some.inj hX); exact V.iret (dA_perform_465 (fu + 1)) rfl rfl
                                    · refine V.tabIn (off := 427) 464 (dA_perform_37 (fu + 1)) (by omega) (by omega) (by rw [hr_]; rfl) rfl ?_
                                      refine V.iconst (0 : Int32) (dA_perform_464 (fu + 1)) lc0 rfl ?_
                                      obtain ⟨rfl, rfl⟩ := Prod.mk.inj (Option.some.inj hX); exact V.iret (dA_perform_465 (fu + 1)) rfl rfl
                                    · refine V.tabIn (off := 427) 464 (dA_perform_37 (fu + 1)) (by omega) (by omega) (by rw [hr_]; rfl) rfl ?_
                                      refine V.iconst (0 : Int32) (dA_perform_464 (fu + 1)) lc0 rfl ?_
                                      obtain ⟨rfl, rfl⟩ := Prod.mk.inj (Option.some.inj hX); exact V.iret (dA_perform_465 (fu + 1)) rfl rfl
                                    · refine V.tabIn (off := 427) 464 (dA_perform_37 (fu + 1)) (by omega) (by omega) (by rw [hr_]; rfl) rfl ?_
                                      refine V.iconst (0 : Int32) (dA_perform_464 (fu + 1)) lc0 rfl ?_
                                      obtain ⟨rfl, rfl⟩ := Prod.mk.inj (Option.some.inj hX); exact V.iret (dA_perform_465 (fu + 1)) rfl rfl
                                    · refine V.tabIn (off := 427) 464 (dA_perform_37 (fu + 1)) (by omega) (by omega) (by rw [hr_]; rfl) rfl ?_
                                      refine V.iconst (0 : Int32) (dA_perform_464 (fu + 1)) lc0 rfl ?_
                                      obtain ⟨rfl, rfl⟩ := Prod.mk.inj (Option.some.inj hX); exact V.iret (dA_perform_465 (fu + 1)) rfl rfl
                                    · refine V.tabIn (off := 427) 464 (dA_perform_37 (fu + 1)) (by omega) (by omega) (by rw [hr_]; rfl) rfl ?_
                                      refine V.iconst (0 : Int32) (dA_perform_464 (fu + 1)) lc0 rfl ?_
                                      obtain ⟨rfl, rfl⟩ := Prod.mk.inj (Option.some.inj hX); exact V.iret (dA_perform_465 (fu + 1)) rfl rfl
                                    · refine V.tabIn (off := 427) 464 (dA_perform_37 (fu + 1)) (by omega) (by omega) (by rw [hr_]; rfl) rfl ?_
                                      refine V.iconst (0 : Int32) (dA_perform_464 (fu + 1)) lc0 rfl ?_
                                      obtain ⟨rfl, rfl⟩ := Prod.mk.inj (Option.some.inj hX); exact V.iret (dA_perform_465 (fu + 1)) rfl rfl
                                    · refine V.tabIn (off := 427) 464 (dA_perform_37 (fu + 1)) (by omega) (by omega) (by rw [hr_]; rfl) rfl ?_
                                      refine V.iconst (0 : Int32) (dA_perform_464 (fu + 1)) lc0 rfl ?_
                                      obtain ⟨rfl, rfl⟩ := Prod.mk.inj (Option.some.inj hX); exact V.iret (dA_perform_465 (fu + 1)) rfl rfl
                                    · refine V.tabIn (off := 427) 464 (dA_perform_37 (fu + 1)) (by omega) (by omega) (by rw [hr_]; rfl) rfl ?_
                                      refine V.iconst (0 : Int32) (dA_perform_464 (fu + 1)) lc0 rfl ?_
                                      obtain ⟨rfl, rfl⟩ := Prod.mk.inj (Option.some.inj hX); exact V.iret (dA_perform_465 (fu + 1)) rfl rfl
                                    · refine V.tabIn (off := 427) 464 (dA_perform_37 (fu + 1)) (by omega) (by omega) (by rw [hr_]; rfl) rfl ?_
                                      refine V.iconst (0 : Int32) (dA_perform_464 (fu + 1)) lc0 rfl ?_
                                      obtain ⟨rfl, rfl⟩ := Prod.mk.inj (Option.some.inj hX); exact V.iret (dA_perform_465 (fu + 1)) rfl rfl
                                    · refine V.tabIn (off := 427) 464 (dA_perform_37 (fu + 1)) (by omega) (by omega) (by rw [hr_]; rfl) rfl ?_
                                      refine V.iconst (0 : Int32) (dA_perform_464 (fu + 1)) lc0 rfl ?_
                                      obtain ⟨rfl, rfl⟩ := Prod.mk.inj (Option.some.inj hX); exact V.iret (dA_perform_465 (fu + 1)) rfl rfl
                                    · refine V.tabIn (off := 427) 464 (dA_perform_37 (fu + 1)) (by omega) (by omega) (by rw [hr_]; rfl) rfl ?_
                                      refine V.iconst (0 : Int32) (dA_perform_464 (fu + 1)) lc0 rfl ?_
                                      obtain ⟨rfl, rfl⟩ := Prod.mk.inj (Option.some.inj hX); exact V.iret (dA_perform_465 (fu + 1)) rfl rfl
                                    · refine V.tabIn (off := 427) 464 (dA_perform_37 (fu + 1)) (by omega) (by omega) (by rw [hr_]; rfl) rfl ?_
                                      refine V.iconst (0 : Int32) (dA_perform_464 (fu + 1)) lc0 rfl ?_
                                      obtain ⟨rfl, rfl⟩ := Prod.mk.inj (Option.some.inj hX); exact V.iret (dA_perform_465 (fu + 1)) rfl rfl
                                    · refine V.tabIn (off := 427) 464 (dA_perform_37 (fu + 1)) (by omega) (by omega) (by rw [hr_]; rfl) rfl ?_
                                      refine V.iconst (0 : Int32) (dA_perform_464 (fu + 1)) lc0 rfl ?_
                                      obtain ⟨rfl, rfl⟩ := Prod.mk.inj (Option.some.inj hX); exact V.iret (dA_perform_465 (fu + 1)) rfl rfl
                                    · refine V.tabIn (off := 427) 464 (dA_perform_37 (fu + 1)) (by omega) (by omega) (by rw [hr_]; rfl) rfl ?_
                                      refine V.iconst (0 : Int32) (dA_perform_464 (fu + 1)) lc0 rfl ?_
                                      obtain ⟨rfl, rfl⟩ := Prod.mk.inj (Option.some.inj hX); exact V.iret (dA_perform_465 (fu + 1)) rfl rfl
                                    · refine V.tabIn (off := 427) 464 (dA_perform_37 (fu + 1)) (by omega) (by omega) (by rw [hr_]; rfl) rfl ?_
                                      refine V.iconst (0 : Int32) (dA_perform_464 (fu + 1)) lc0 rfl ?_
                                      obtain ⟨rfl, rfl⟩ := Prod.mk.inj (Option.some.inj hX); exact V.iret (dA_perform_465 (fu + 1)) rfl rfl
                                    · refine V.tabIn (off := 427) 464 (dA_perform_37 (fu + 1)) (by omega) (by omega) (by rw [hr_]; rfl) rfl ?_
                                      refine V.iconst (0 : Int32) (dA_perform_464 (fu + 1)) lc0 rfl ?_
                                      obtain ⟨rfl, rfl⟩ := Prod.mk.inj (Option.some.inj hX); exact V.iret (dA_perform_465 (fu + 1)) rfl rfl
                                    · refine V.tabIn (off := 427) 464 (dA_perform_37 (fu + 1)) (by omega) (by omega) (by rw [hr_]; rfl) rfl ?_
                                      refine V.iconst (0 : Int32) (dA_perform_464 (fu + 1)) lc0 rfl ?_
                                      obtain ⟨rfl, rfl⟩ := Prod.mk.inj (Option.some.inj hX); exact V.iret (dA_perform_465 (fu + 1)) rfl rfl
                                    · refine V.tabIn (off := 427) 464 (dA_perform_37 (fu + 1)) (by omega) (by omega) (by rw [hr_]; rfl) rfl ?_
                                      refine V.iconst (0 : Int32) (dA_perform_464 (fu + 1)) lc0 rfl ?_
                                      obtain ⟨rfl, rfl⟩ := Prod.mk.inj (Option.some.inj hX); exact V.iret (dA_perform_465 (fu + 1)) rfl rfl
                                    · refine V.tabIn (off := 427) 464 (dA_perform_37 (fu + 1)) (by omega) (by omega) (by rw [hr_]; rfl) rfl ?_
                                      refine V.iconst (0 : Int32) (dA_perform_464 (fu + 1)) lc0 rfl ?_
                                      obtain ⟨rfl, rfl⟩ := Prod.mk.inj (Option.some.inj hX); exact V.iret (dA_perform_465 (fu + 1)) rfl rfl
                                    · refine V.tabIn (off := 427) 464 (dA_perform_37 (fu + 1)) (by omega) (by omega) (by rw [hr_]; rfl) rfl ?_
                                      refine V.iconst (0 : Int32) (dA_perform_464 (fu + 1)) lc0 rfl ?_
                                      obtain ⟨rfl, rfl⟩ := Prod.mk.inj (Option.some.inj hX); exact V.iret (dA_perform_465 (fu + 1)) rfl rfl
                                    · refine V.tabIn (off := 427) 464 (dA_perform_37 (fu + 1)) (by omega) (by omega) (by rw [hr_]; rfl) rfl ?_
                                      refine V.iconst (0 : Int32) (dA_perform_464 (fu + 1)) lc0 rfl ?_
                                      obtain ⟨rfl, rfl⟩ := Prod.mk.inj (Option.some.inj hX); exact V.iret (dA_perform_465 (fu + 1)) rfl rfl
                                    · refine V.tabIn (off := 427) 464 (dA_perform_37 (fu + 1)) (by omega) (by omega) (by rw [hr_]; rfl) rfl ?_
                                      refine V.iconst (0 : Int32) (dA_perform_464 (fu + 1)) lc0 rfl ?_
                                      obtain ⟨rfl, rfl⟩ := Prod.mk.inj (Option.some.inj hX); exact V.iret (dA_perform_465 (fu + 1)) rfl rfl
                                    · refine V.tabIn (off := 427) 464 (dA_perform_37 (fu + 1)) (by omega) (by omega) (by rw [hr_]; rfl) rfl ?_
                                      refine V.iconst (0 : Int32) (dA_perform_464 (fu + 1)) lc0 rfl ?_
                                      obtain ⟨rfl, rfl⟩ := Prod.mk.inj (Option.some.inj hX); exact V.iret (dA_perform_465 (fu + 1)) rfl rfl
                                    · refine V.tabIn (off := 427) 464 (dA_perform_37 (fu + 1)) (by omega) (by omega) (by rw [hr_]; rfl) rfl ?_
                                      refine V.iconst (0 : Int32) (dA_perform_464 (fu + 1)) lc0 rfl ?_
                                      obtain ⟨rfl, rfl⟩ := Prod.mk.inj (Option.some.inj hX); exact V.iret (dA_perform_465 (fu + 1)) rfl rfl
                                    · refine V.tabIn (off := 427) 464 (dA_perform_37 (fu + 1)) (by omega) (by omega) (by rw [hr_]; rfl) rfl ?_
                                      refine V.iconst (0 : Int32) (dA_perform_464 (fu + 1)) lc0 rfl ?_
                                      obtain ⟨rfl, rfl⟩ := Prod.mk.inj (Option.some.inj hX); exact V.iret (dA_perform_465 (fu + 1)) rfl rfl
                                    · refine V.tabIn (off := 427) 464 (dA_perform_37 (fu + 1)) (by omega) (by omega) (by rw [hr_]; rfl) rfl ?_
                                      refine V.iconst (0 : Int32) (dA_perform_464 (fu + 1)) lc0 rfl ?_
                                      obtain ⟨rfl, rfl⟩ := Prod.mk.inj (Option.some.inj hX); exact V.iret (dA_perform_465 (fu + 1)) rfl rfl
                                    · refine V.tabIn (off := 427) 464 (dA_perform_37 (fu + 1)) (by omega) (by omega) (by rw [hr_]; rfl) rfl ?_
                                      refine V.iconst (0 : Int32) (dA_perform_464 (fu + 1)) lc0 rfl ?_
                                      obtain ⟨rfl, rfl⟩ := Prod.mk.inj (Option.some.inj hX); exact V.iret (dA_perform_465 (fu + 1)) rfl rfl
                                    · refine V.tabIn (off := 427) 464 (dA_perform_37 (fu + 1)) (by omega) (by omega) (by rw [hr_]; rfl) rfl ?_
                                      refine V.iconst (0 : Int32) (dA_perform_464 (fu + 1)) lc0 rfl ?_
                                      obtain ⟨rfl, rfl⟩ := Prod.mk.inj (Option.some.inj hX); exact V.iret (dA_perform_465 (fu + 1)) rfl rfl
                                    · refine V.tabIn (off := 427) 464 (dA_perform_37 (fu + 1)) (by omega) (by omega) (by rw [hr_]; rfl) rfl ?_
                                      refine V.iconst (0 : Int32) (dA_perform_464 (fu + 1)) lc0 rfl ?_
                                      obtain ⟨rfl, rfl⟩ := Prod.mk.inj (Option.some.inj hX); exact V.iret (dA_perform_465 (fu + 1)) rfl rfl
      · replace hX := im hX g2
        refine V.iconst (0 : Int32) (dA_perform_14 (fu + 1)) lc0 rfl ?_
        obtain ⟨rfl, rfl⟩ := Prod.mk.inj (Option.some.inj hX); exact V.iret (dA_perform_15 (fu + 1)) rfl rfl
