theorem dM_sharesIt_0 : decode mM_sharesIt.1 0 = .ok (.aload_n 0, 1) := by decide +kernel
theorem dM_sharesIt_1 : decode mM_sharesIt.1 1 = .ok (.getfield 305, 3) := by decide +kernel
theorem dM_sharesIt_4 : decode mM_sharesIt.1 4 = .ok (.iconst 3, 1) := by decide +kernel
theorem dM_sharesIt_5 : decode mM_sharesIt.1 5 = .ok (.if_icmp .ne 19, 3) := by decide +kernel
theorem dM_sharesIt_8 : decode mM_sharesIt.1 8 = .ok (.aload_n 0, 1) := by decide +kernel
theorem dM_sharesIt_9 : decode mM_sharesIt.1 9 = .ok (.bipush 50, 2) := by decide +kernel
theorem dM_sharesIt_11 : decode mM_sharesIt.1 11 = .ok (.invokevirtual 296, 3) := by decide +kernel
theorem dM_sharesIt_14 : decode mM_sharesIt.1 14 = .ok (.aload_n 0, 1) := by decide +kernel
theorem dM_sharesIt_15 : decode mM_sharesIt.1 15 = .ok (.iload_n 1, 1) := by decide +kernel
theorem dM_sharesIt_16 : decode mM_sharesIt.1 16 = .ok (.iconst 2, 1) := by decide +kernel
theorem dM_sharesIt_17 : decode mM_sharesIt.1 17 = .ok (.iadd, 1) := by decide +kernel
theorem dM_sharesIt_18 : decode mM_sharesIt.1 18 = .ok (.invokevirtual 323, 3) := by decide +kernel
theorem dM_sharesIt_21 : decode mM_sharesIt.1 21 = .ok (.iconst 1, 1) := by decide +kernel
theorem dM_sharesIt_22 : decode mM_sharesIt.1 22 = .ok (.ixor, 1) := by decide +kernel
theorem dM_sharesIt_23 : decode mM_sharesIt.1 23 = .ok (.ireturn, 1) := by decide +kernel
theorem dM_sharesIt_24 : decode mM_sharesIt.1 24 = .ok (.aload_n 0, 1) := by decide +kernel
theorem dM_sharesIt_25 : decode mM_sharesIt.1 25 = .ok (.getfield 305, 3) := by decide +kernel
theorem dM_sharesIt_28 : decode mM_sharesIt.1 28 = .ok (.iconst 5, 1) := by decide +kernel
theorem dM_sharesIt_29 : decode mM_sharesIt.1 29 = .ok (.if_icmp .ne 37, 3) := by decide +kernel
theorem dM_sharesIt_32 : decode mM_sharesIt.1 32 = .ok (.aload_n 0, 1) := by decide +kernel
theorem dM_sharesIt_33 : decode mM_sharesIt.1 33 = .ok (.bipush 61, 2) := by decide +kernel
theorem dM_sharesIt_35 : decode mM_sharesIt.1 35 = .ok (.invokevirtual 296, 3) := by decide +kernel
theorem dM_sharesIt_38 : decode mM_sharesIt.1 38 = .ok (.aload_n 0, 1) := by decide +kernel
theorem dM_sharesIt_39 : decode mM_sharesIt.1 39 = .ok (.iload_n 1, 1) := by decide +kernel
theorem dM_sharesIt_40 : decode mM_sharesIt.1 40 = .ok (.invokevirtual 323, 3) := by decide +kernel
theorem dM_sharesIt_43 : decode mM_sharesIt.1 43 = .ok (.istore_n 2, 1) := by decide +kernel
theorem dM_sharesIt_44 : decode mM_sharesIt.1 44 = .ok (.aload_n 0, 1) := by decide +kernel
theorem dM_sharesIt_45 : decode mM_sharesIt.1 45 = .ok (.getfield 320, 3) := by decide +kernel
theorem dM_sharesIt_48 : decode mM_sharesIt.1 48 = .ok (.ifCond .eq 7, 3) := by decide +kernel
theorem dM_sharesIt_51 : decode mM_sharesIt.1 51 = .ok (.iconst 0, 1) := by decide +kernel
theorem dM_sharesIt_52 : decode mM_sharesIt.1 52 = .ok (.goto 13, 3) := by decide +kernel
theorem dM_sharesIt_55 : decode mM_sharesIt.1 55 = .ok (.iload_n 2, 1) := by decide +kernel
theorem dM_sharesIt_56 : decode mM_sharesIt.1 56 = .ok (.aload_n 0, 1) := by decide +kernel
theorem dM_sharesIt_57 : decode mM_sharesIt.1 57 = .ok (.aload_n 0, 1) := by decide +kernel
theorem dM_sharesIt_58 : decode mM_sharesIt.1 58 = .ok (.getfield 317, 3) := by decide +kernel
theorem dM_sharesIt_61 : decode mM_sharesIt.1 61 = .ok (.invokevirtual 311, 3) := by decide +kernel
theorem dM_sharesIt_64 : decode mM_sharesIt.1 64 = .ok (.iadd, 1) := by decide +kernel
theorem dM_sharesIt_65 : decode mM_sharesIt.1 65 = .ok (.ireturn, 1) := by decide +kernel
theorem dM_sharesIt_66 : decode mM_sharesIt.1 66 = .ok (.aload_n 0, 1) := by decide +kernel
theorem dM_sharesIt_67 : decode mM_sharesIt.1 67 = .ok (.iload_n 1, 1) := by decide +kernel
theorem dM_sharesIt_68 : decode mM_sharesIt.1 68 = .ok (.invokevirtual 323, 3) := by decide +kernel
theorem dM_sharesIt_71 : decode mM_sharesIt.1 71 = .ok (.ireturn, 1) := by decide +kernel
set_option maxRecDepth 4000 in
theorem wM_sharesIt {E : Ev} {z : Int32 × St} (σ : St) (i1 : Int32) (hX : fM_sharesIt σ i1 = some z) : V E mM_sharesIt (FM E (some (.int z.1), z.2)) 0 [(0, .ref 44), (1, .int i1)] [] σ := by
  unfold fM_sharesIt at hX
  refine V.aloadn 0 dM_sharesIt_0 rfl rfl ?_
  refine V.geti 44 dM_sharesIt_1 flM_305 (rfl : kd 44 = (6, 0)) rfl ?_
  refine V.iconst (3 : Int32) dM_sharesIt_4 lc3 rfl ?_
  refine V.icmpne 24 dM_sharesIt_5 rfl rfl (fun g1 => ?_) (fun g1 => ?_)
  · replace hX := im hX g1
    refine V.aloadn 0 dM_sharesIt_24 rfl rfl ?_
    refine V.geti 44 dM_sharesIt_25 flM_305 (rfl : kd 44 = (6, 0)) rfl ?_
    refine V.iconst (5 : Int32) dM_sharesIt_28 lc5 rfl ?_
    refine V.icmpne 66 dM_sharesIt_29 rfl rfl (fun g2 => ?_) (fun g2 => ?_)
    · replace hX := im hX g2
      refine V.aloadn 0 dM_sharesIt_66 rfl rfl ?_
      refine V.iloadn 1 dM_sharesIt_67 rfl rfl ?_
      obtain ⟨q4, σ4, c3, hX⟩ := bi2 hX; try dsimp only at hX
      refine V.callvi 44 [.int i1] dM_sharesIt_68 (kM_plainShares c3) mlM_323 myM_plainShares mnM_plainShares ⟨rfl, rfl, by decide, by decide⟩ (rfl : kd 44 = (6, 0)) (by decide) rfl (Nat.le_of_ble_eq_true rfl) ⟨Nat.zero_le _, Nat.zero_le _⟩ rfl ?_
      have hX := (Option.some.inj hX).symm; subst hX; exact V.iret dM_sharesIt_71 rfl rfl
    · replace hX := ip hX g2
      refine V.aloadn 0 dM_sharesIt_32 rfl rfl ?_
      refine V.bipush (61 : Int32) dM_sharesIt_33 lb61 rfl ?_
      obtain ⟨σ6, c5, hX⟩ := bd hX; try dsimp only at hX
      refine V.callv0 44 [.int (61 : Int32)] dM_sharesIt_35 (kM_ran c5) mlM_296 myM_ran mnM_ran ⟨rfl, rfl, by decide, by decide⟩ (rfl : kd 44 = (6, 0)) (by decide) rfl (Nat.le_of_ble_eq_true rfl) ⟨Nat.zero_le _, Nat.zero_le _⟩ rfl ?_
      refine V.aloadn 0 dM_sharesIt_38 rfl rfl ?_
      refine V.iloadn 1 dM_sharesIt_39 rfl rfl ?_
      obtain ⟨q8, σ8, c7, hX⟩ := bi2 hX; try dsimp only at hX
      refine V.callvi 44 [.int i1] dM_sharesIt_40 (kM_plainShares c7) mlM_323 myM_plainShares mnM_plainShares ⟨rfl, rfl, by decide, by decide⟩ (rfl : kd 44 = (6, 0)) (by decide) rfl (Nat.le_of_ble_eq_true rfl) ⟨Nat.zero_le _, Nat.zero_le _⟩ rfl ?_
      refine V.istoren _ dM_sharesIt_43 (by decide) rfl rfl ?_
      refine V.aloadn 1 dM_sharesIt_44 rfl rfl ?_
      refine V.geti 44 dM_sharesIt_45 flM_320 (rfl : kd 44 = (6, 0)) rfl ?_
      refine V.ifeq 55 dM_sharesIt_48 rfl rfl (fun g9 => ?_) (fun g9 => ?_)
      · replace hX := ip hX g9
        refine V.iloadn 0 dM_sharesIt_55 rfl rfl ?_
        refine V.aloadn 1 dM_sharesIt_56 rfl rfl ?_
        refine V.aloadn 1 dM_sharesIt_57 rfl rfl ?_
        refine V.geti 44 dM_sharesIt_58 flM_317 (rfl : kd 44 = (6, 0)) rfl ?_
        obtain ⟨q11, σ11, c10, hX⟩ := bi2 hX; try dsimp only at hX
        refine V.callvi 44 [.int (gI σ8 44 35)] dM_sharesIt_61 (kM_ringsIt c10) mlM_311 myM_ringsIt mnM_ringsIt ⟨rfl, rfl, by decide, by decide⟩ (rfl : kd 44 = (6, 0)) (by decide) rfl (Nat.le_of_ble_eq_true rfl) ⟨Nat.zero_le _, Nat.zero_le _⟩ rfl ?_
        refine V.iadd dM_sharesIt_64 rfl ?_
        have hX := (Option.some.inj hX).symm; subst hX; exact V.iret dM_sharesIt_65 rfl rfl
      · replace hX := im hX g9
        refine V.iconst (0 : Int32) dM_sharesIt_51 lc0 rfl ?_
        refine V.goto 65 dM_sharesIt_52 rfl ?_
        have hX := (Option.some.inj hX).symm; subst hX; exact V.iret dM_sharesIt_65 rfl rfl
  · replace hX := ip hX g1
    refine V.aloadn 0 dM_sharesIt_8 rfl rfl ?_
    refine V.bipush (50 : Int32) dM_sharesIt_9 lb50 rfl ?_
    obtain ⟨σ13, c12, hX⟩ := bd hX; try dsimp only at hX
    refine V.callv0 44 [.int (50 : Int32)] dM_sharesIt_11 (kM_ran c12) mlM_296 myM_ran mnM_ran ⟨rfl, rfl, by decide, by decide⟩ (rfl : kd 44 = (6, 0)) (by decide) rfl (Nat.le_of_ble_eq_true rfl) ⟨Nat.zero_le _, Nat.zero_le _⟩ rfl ?_
    refine V.aloadn 0 dM_sharesIt_14 rfl rfl ?_
    refine V.iloadn 1 dM_sharesIt_15 rfl rfl ?_
    refine V.iconst (2 : Int32) dM_sharesIt_16 lc2 rfl ?_
    refine V.iadd dM_sharesIt_17 rfl ?_
    obtain ⟨q15, σ15, c14, hX⟩ := bi2 hX; try dsimp only at hX
    refine V.callvi 44 [.int (i1 + (2 : Int32))] dM_sharesIt_18 (kM_plainShares c14) mlM_323 myM_plainShares mnM_plainShares ⟨rfl, rfl, by decide, by decide⟩ (rfl : kd 44 = (6, 0)) (by decide) rfl (Nat.le_of_ble_eq_true rfl) ⟨Nat.zero_le _, Nat.zero_le _⟩ rfl ?_
    refine V.iconst (1 : Int32) dM_sharesIt_21 lc1 rfl ?_
    refine V.ixor dM_sharesIt_22 rfl ?_
    have hX := (Option.some.inj hX).symm; subst hX; exact V.iret dM_sharesIt_23 rfl rfl
theorem kM_sharesIt {E : Ev} {σ σ2 : St} {i1 : Int32} {z : Int32} (h : fM_sharesIt σ i1 = some (z, σ2)) : Ct mM_sharesIt E [.ref 44, .int i1] σ (some (.int z), σ2) := Ct.of (by decide) (Nat.le_of_ble_eq_true rfl) (wM_sharesIt σ i1 h)
theorem dM_plainTells_0 : decode mM_plainTells.1 0 = .ok (.aload_n 0, 1) := by decide +kernel
theorem dM_plainTells_1 : decode mM_plainTells.1 1 = .ok (.bipush 13, 2) := by decide +kernel
theorem dM_plainTells_3 : decode mM_plainTells.1 3 = .ok (.invokevirtual 296, 3) := by decide +kernel
theorem dM_plainTells_6 : decode mM_plainTells.1 6 = .ok (.aload_n 0, 1) := by decide +kernel
theorem dM_plainTells_7 : decode mM_plainTells.1 7 = .ok (.iload_n 1, 1) := by decide +kernel
theorem dM_plainTells_8 : decode mM_plainTells.1 8 = .ok (.invokevirtual 326, 3) := by decide +kernel
theorem dM_plainTells_11 : decode mM_plainTells.1 11 = .ok (.aload_n 0, 1) := by decide +kernel
theorem dM_plainTells_12 : decode mM_plainTells.1 12 = .ok (.getfield 317, 3) := by decide +kernel
theorem dM_plainTells_15 : decode mM_plainTells.1 15 = .ok (.ixor, 1) := by decide +kernel
theorem dM_plainTells_16 : decode mM_plainTells.1 16 = .ok (.ireturn, 1) := by decide +kernel
set_option maxRecDepth 4000 in
theorem wM_plainTells {E : Ev} {z : Int32 × St} (σ : St) (i1 : Int32) (hX : fM_plainTells σ i1 = some z) : V E mM_plainTells (FM E (some (.int z.1), z.2)) 0 [(0, .ref 44), (1, .int i1)] [] σ := by
  unfold fM_plainTells at hX
  refine V.aloadn 0 dM_plainTells_0 rfl rfl ?_
  refine V.bipush (13 : Int32) dM_plainTells_1 lb13 rfl ?_
  obtain ⟨σ2, c1, hX⟩ := bd hX; try dsimp only at hX
  refine V.callv0 44 [.int (13 : Int32)] dM_plainTells_3 (kM_ran c1) mlM_296 myM_ran mnM_ran ⟨rfl, rfl, by decide, by decide⟩ (rfl : kd 44 = (6, 0)) (by decide) rfl (Nat.le_of_ble_eq_true rfl) ⟨Nat.zero_le _, Nat.zero_le _⟩ rfl ?_
  refine V.aloadn 0 dM_plainTells_6 rfl rfl ?_
  refine V.iloadn 1 dM_plainTells_7 rfl rfl ?_
  obtain ⟨q4, σ4, c3, hX⟩ := bi2 hX; try dsimp only at hX
  refine V.callvi 44 [.int i1] dM_plainTells_8 (kM_weighsIt c3) mlM_326 myM_weighsIt mnM_weighsIt ⟨rfl, rfl, by decide, by decide⟩ (rfl : kd 44 = (6, 0)) (by decide) rfl (Nat.le_of_ble_eq_true rfl) ⟨Nat.zero_le _, Nat.zero_le _⟩ rfl ?_
  refine V.aloadn 0 dM_plainTells_11 rfl rfl ?_
  refine V.geti 44 dM_plainTells_12 flM_317 (rfl : kd 44 = (6, 0)) rfl ?_
  refine V.ixor dM_plainTells_15 rfl ?_
  have hX := (Option.some.inj hX).symm; subst hX; exact V.iret dM_plainTells_16 rfl rfl
theorem kM_plainTells {E : Ev} {σ σ2 : St} {i1 : Int32} {z : Int32} (h : fM_plainTells σ i1 = some (z, σ2)) : Ct mM_plainTells E [.ref 44, .int i1] σ (some (.int z), σ2) := Ct.of (by decide) (Nat.le_of_ble_eq_true rfl) (wM_plainTells σ i1 h)
theorem dM_tellsIt_0 : decode mM_tellsIt.1 0 = .ok (.aload_n 0, 1) := by decide +kernel
theorem dM_tellsIt_1 : decode mM_tellsIt.1 1 = .ok (.getfield 305, 3) := by decide +kernel
theorem dM_tellsIt_4 : decode mM_tellsIt.1 4 = .ok (.iconst 2, 1) := by decide +kernel
theorem dM_tellsIt_5 : decode mM_tellsIt.1 5 = .ok (.if_icmp .eq 11, 3) := by decide +kernel
theorem dM_tellsIt_8 : decode mM_tellsIt.1 8 = .ok (.aload_n 0, 1) := by decide +kernel
theorem dM_tellsIt_9 : decode mM_tellsIt.1 9 = .ok (.getfield 305, 3) := by decide +kernel
theorem dM_tellsIt_12 : decode mM_tellsIt.1 12 = .ok (.iconst 4, 1) := by decide +kernel
theorem dM_tellsIt_13 : decode mM_tellsIt.1 13 = .ok (.if_icmp .ne 26, 3) := by decide +kernel
theorem dM_tellsIt_16 : decode mM_tellsIt.1 16 = .ok (.aload_n 0, 1) := by decide +kernel
theorem dM_tellsIt_17 : decode mM_tellsIt.1 17 = .ok (.bipush 31, 2) := by decide +kernel
theorem dM_tellsIt_19 : decode mM_tellsIt.1 19 = .ok (.invokevirtual 296, 3) := by decide +kernel
theorem dM_tellsIt_22 : decode mM_tellsIt.1 22 = .ok (.aload_n 0, 1) := by decide +kernel
theorem dM_tellsIt_23 : decode mM_tellsIt.1 23 = .ok (.iload_n 1, 1) := by decide +kernel
theorem dM_tellsIt_24 : decode mM_tellsIt.1 24 = .ok (.invokevirtual 329, 3) := by decide +kernel
theorem dM_tellsIt_27 : decode mM_tellsIt.1 27 = .ok (.istore_n 2, 1) := by decide +kernel
theorem dM_tellsIt_28 : decode mM_tellsIt.1 28 = .ok (.iload_n 2, 1) := by decide +kernel
theorem dM_tellsIt_29 : decode mM_tellsIt.1 29 = .ok (.aload_n 0, 1) := by decide +kernel
theorem dM_tellsIt_30 : decode mM_tellsIt.1 30 = .ok (.aload_n 0, 1) := by decide +kernel
theorem dM_tellsIt_31 : decode mM_tellsIt.1 31 = .ok (.getfield 299, 3) := by decide +kernel
theorem dM_tellsIt_34 : decode mM_tellsIt.1 34 = .ok (.invokevirtual 332, 3) := by decide +kernel
theorem dM_tellsIt_37 : decode mM_tellsIt.1 37 = .ok (.iadd, 1) := by decide +kernel
theorem dM_tellsIt_38 : decode mM_tellsIt.1 38 = .ok (.ireturn, 1) := by decide +kernel
theorem dM_tellsIt_39 : decode mM_tellsIt.1 39 = .ok (.aload_n 0, 1) := by decide +kernel
theorem dM_tellsIt_40 : decode mM_tellsIt.1 40 = .ok (.getfield 305, 3) := by decide +kernel
theorem dM_tellsIt_43 : decode mM_tellsIt.1 43 = .ok (.iconst 5, 1) := by decide +kernel
theorem dM_tellsIt_44 : decode mM_tellsIt.1 44 = .ok (.if_icmp .ne 17, 3) := by decide +kernel
theorem dM_tellsIt_47 : decode mM_tellsIt.1 47 = .ok (.aload_n 0, 1) := by decide +kernel
theorem dM_tellsIt_48 : decode mM_tellsIt.1 48 = .ok (.bipush 60, 2) := by decide +kernel
theorem dM_tellsIt_50 : decode mM_tellsIt.1 50 = .ok (.invokevirtual 296, 3) := by decide +kernel
theorem dM_tellsIt_53 : decode mM_tellsIt.1 53 = .ok (.aload_n 0, 1) := by decide +kernel
theorem dM_tellsIt_54 : decode mM_tellsIt.1 54 = .ok (.iload_n 1, 1) := by decide +kernel
theorem dM_tellsIt_55 : decode mM_tellsIt.1 55 = .ok (.invokevirtual 329, 3) := by decide +kernel
theorem dM_tellsIt_58 : decode mM_tellsIt.1 58 = .ok (.iconst 2, 1) := by decide +kernel
theorem dM_tellsIt_59 : decode mM_tellsIt.1 59 = .ok (.imul, 1) := by decide +kernel
theorem dM_tellsIt_60 : decode mM_tellsIt.1 60 = .ok (.ireturn, 1) := by decide +kernel
theorem dM_tellsIt_61 : decode mM_tellsIt.1 61 = .ok (.aload_n 0, 1) := by decide +kernel
theorem dM_tellsIt_62 : decode mM_tellsIt.1 62 = .ok (.iload_n 1, 1) := by decide +kernel
theorem dM_tellsIt_63 : decode mM_tellsIt.1 63 = .ok (.invokevirtual 329, 3) := by decide +kernel
theorem dM_tellsIt_66 : decode mM_tellsIt.1 66 = .ok (.ireturn, 1) := by decide +kernel
set_option maxRecDepth 4000 in
theorem wM_tellsIt_16 {E : Ev} {z : Int32 × St} (σ : St) (i1 : Int32) (hX : fM_tellsIt_16 σ i1 = some z) : V E mM_tellsIt (FM E (some (.int z.1), z.2)) 16 [(0, .ref 44), (1, .int i1)] [] σ := by
  unfold fM_tellsIt_16 at hX
  refine V.aloadn 0 dM_tellsIt_16 rfl rfl ?_
  refine V.bipush (31 : Int32) dM_tellsIt_17 lb31 rfl ?_
  obtain ⟨σ3, c2, hX⟩ := bd hX; try dsimp only at hX
  refine V.callv0 44 [.int (31 : Int32)] dM_tellsIt_19 (kM_ran c2) mlM_296 myM_ran mnM_ran ⟨rfl, rfl, by decide, by decide⟩ (rfl : kd 44 = (6, 0)) (by decide) rfl (Nat.le_of_ble_eq_true rfl) ⟨Nat.zero_le _, Nat.zero_le _⟩ rfl ?_
  refine V.aloadn 0 dM_tellsIt_22 rfl rfl ?_
  refine V.iloadn 1 dM_tellsIt_23 rfl rfl ?_
  obtain ⟨q5, σ5, c4, hX⟩ := bi2 hX; try dsimp only at hX
  refine V.callvi 44 [.int i1] dM_tellsIt_24 (kM_plainTells c4) mlM_329 myM_plainTells mnM_plainTells ⟨rfl, rfl, by decide, by decide⟩ (rfl : kd 44 = (6, 0)) (by decide) rfl (Nat.le_of_ble_eq_true rfl) ⟨Nat.zero_le _, Nat.zero_le _⟩ rfl ?_
  refine V.istoren _ dM_tellsIt_27 (by decide) rfl rfl ?_
  refine V.iloadn 0 dM_tellsIt_28 rfl rfl ?_
  refine V.aloadn 1 dM_tellsIt_29 rfl rfl ?_
  refine V.aloadn 1 dM_tellsIt_30 rfl rfl ?_
  refine V.geti 44 dM_tellsIt_31 flM_299 (rfl : kd 44 = (6, 0)) rfl ?_
  obtain ⟨q7, σ7, c6, hX⟩ := bi2 hX; try dsimp only at hX
  refine V.callvi 44 [.int (gI σ5 44 34)] dM_tellsIt_34 (kM_sharesIt c6) mlM_332 myM_sharesIt mnM_sharesIt ⟨rfl, rfl, by decide, by decide⟩ (rfl : kd 44 = (6, 0)) (by decide) rfl (Nat.le_of_ble_eq_true rfl) ⟨Nat.zero_le _, Nat.zero_le _⟩ rfl ?_
  refine V.iadd dM_tellsIt_37 rfl ?_
  have hX := (Option.some.inj hX).symm; subst hX; exact V.iret dM_tellsIt_38 rfl rfl
set_option maxRecDepth 4000 in
theorem wM_tellsIt {E : Ev} {z : Int32 × St} (σ : St) (i1 : Int32) (hX : fM_tellsIt σ i1 = some z) : V E mM_tellsIt (FM E (some (.int z.1), z.2)) 0 [(0, .ref 44), (1, .int i1)] [] σ := by
  unfold fM_tellsIt at hX
  refine V.aloadn 0 dM_tellsIt_0 rfl rfl ?_
  refine V.geti 44 dM_tellsIt_1 flM_305 (rfl : kd 44 = (6, 0)) rfl ?_
  refine V.iconst (2 : Int32) dM_tellsIt_4 lc2 rfl ?_
  refine V.icmpeq 16 dM_tellsIt_5 rfl rfl (fun g1 => ?_) (fun g1 => ?_)
  · replace hX := ip hX g1
    refine V.sub [0, 1] rfl ?_
    exact wM_tellsIt_16 σ i1 hX
  · replace hX := im hX g1
    refine V.aloadn 0 dM_tellsIt_8 rfl rfl ?_
    refine V.geti 44 dM_tellsIt_9 flM_305 (rfl : kd 44 = (6, 0)) rfl ?_
    refine V.iconst (4 : Int32) dM_tellsIt_12 lc4 rfl ?_
    refine V.icmpne 39 dM_tellsIt_13 rfl rfl (fun g8 => ?_) (fun g8 => ?_)
    · replace hX := im hX g8
      refine V.aloadn 0 dM_tellsIt_39 rfl rfl ?_
      refine V.geti 44 dM_tellsIt_40 flM_305 (rfl : kd 44 = (6, 0)) rfl ?_
      refine V.iconst (5 : Int32) dM_tellsIt_43 lc5 rfl ?_
      refine V.icmpne 61 dM_tellsIt_44 rfl rfl (fun g9 => ?_) (fun g9 => ?_)
      · replace hX := im hX g9
        refine V.aloadn 0 dM_tellsIt_61 rfl rfl ?_
        refine V.iloadn 1 dM_tellsIt_62 rfl rfl ?_
        obtain ⟨q11, σ11, c10, hX⟩ := bi2 hX; try dsimp only at hX
        refine V.callvi 44 [.int i1] dM_tellsIt_63 (kM_plainTells c10) mlM_329 myM_plainTells mnM_plainTells ⟨rfl, rfl, by decide, by decide⟩ (rfl : kd 44 = (6, 0)) (by decide) rfl (Nat.le_of_ble_eq_true rfl) ⟨Nat.zero_le _, Nat.zero_le _⟩ rfl ?_
        have hX := (Option.some.inj hX).symm; subst hX; exact V.iret dM_tellsIt_66 rfl rfl
      · replace hX := ip hX g9
        refine V.aloadn 0 dM_tellsIt_47 rfl rfl ?_
        refine V.bipush (60 : Int32) dM_tellsIt_48 lb60 rfl ?_
        obtain ⟨σ13, c12, hX⟩ := bd hX; try dsimp only at hX
        refine V.callv0 44 [.int (60 : Int32)] dM_tellsIt_50 (kM_ran c12) mlM_296 myM_ran mnM_ran ⟨rfl, rfl, by decide, by decide⟩ (rfl : kd 44 = (6, 0)) (by decide) rfl (Nat.le_of_ble_eq_true rfl) ⟨Nat.zero_le _, Nat.zero_le _⟩ rfl ?_
        refine V.aloadn 0 dM_tellsIt_53 rfl rfl ?_
        refine V.iloadn 1 dM_tellsIt_54 rfl rfl ?_
        obtain ⟨q15, σ15, c14, hX⟩ := bi2 hX; try dsimp only at hX
        refine V.callvi 44 [.int i1] dM_tellsIt_55 (kM_plainTells c14) mlM_329 myM_plainTells mnM_plainTells ⟨rfl, rfl, by decide, by decide⟩ (rfl : kd 44 = (6, 0)) (by decide) rfl (Nat.le_of_ble_eq_true rfl) ⟨Nat.zero_le _, Nat.zero_le _⟩ rfl ?_
        refine V.iconst (2 : Int32) dM_tellsIt_58 lc2 rfl ?_
        refine V.imul dM_tellsIt_59 rfl ?_
        have hX := (Option.some.inj hX).symm; subst hX; exact V.iret dM_tellsIt_60 rfl rfl
    · replace hX := ip hX g8
      refine V.sub [0, 1] rfl ?_
      exact wM_tellsIt_16 σ i1 hX
theorem kM_tellsIt {E : Ev} {σ σ2 : St} {i1 : Int32} {z : Int32} (h : fM_tellsIt σ i1 = some (z, σ2)) : Ct mM_tellsIt E [.ref 44, .int i1] σ (some (.int z), σ2) := Ct.of (by decide) (Nat.le_of_ble_eq_true rfl) (wM_tellsIt σ i1 h)
theorem dM_act_0 : decode mM_act.1 0 = .ok (.aload_n 0, 1) := by decide +kernel
theorem dM_act_1 : decode mM_act.1 1 = .ok (.iconst 0, 1) := by decide +kernel
theorem dM_act_2 : decode mM_act.1 2 = .ok (.putfield 293, 3) := by decide +kernel
theorem dM_act_5 : decode mM_act.1 5 = .ok (.iload_n 1, 1) := by decide +kernel
theorem dM_act_6 : decode mM_act.1 6 = .ok (.invokestatic 276, 3) := by decide +kernel
theorem dM_act_9 : decode mM_act.1 9 = .ok (.ifCond .eq 11, 3) := by decide +kernel
theorem dM_act_12 : decode mM_act.1 12 = .ok (.aload_n 0, 1) := by decide +kernel
theorem dM_act_13 : decode mM_act.1 13 = .ok (.iload_n 1, 1) := by decide +kernel
theorem dM_act_14 : decode mM_act.1 14 = .ok (.invokevirtual 287, 3) := by decide +kernel
theorem dM_act_17 : decode mM_act.1 17 = .ok (.goto 4, 3) := by decide +kernel
theorem dM_act_20 : decode mM_act.1 20 = .ok (.iconst (-1), 1) := by decide +kernel
theorem dM_act_21 : decode mM_act.1 21 = .ok (.istore 4, 2) := by decide +kernel
theorem dM_act_23 : decode mM_act.1 23 = .ok (.iload_n 2, 1) := by decide +kernel
theorem dM_act_24 : decode mM_act.1 24 = .ok (.iconst 0, 1) := by decide +kernel
theorem dM_act_25 : decode mM_act.1 25 = .ok (.iconst 3, 1) := by decide +kernel
theorem dM_act_26 : decode mM_act.1 26 = .ok (.invokestatic 84, 3) := by decide +kernel
theorem dM_act_29 : decode mM_act.1 29 = .ok (.ifCond .eq 13, 3) := by decide +kernel
theorem dM_act_32 : decode mM_act.1 32 = .ok (.iload 4, 2) := by decide +kernel
theorem dM_act_34 : decode mM_act.1 34 = .ok (.iconst 0, 1) := by decide +kernel
theorem dM_act_35 : decode mM_act.1 35 = .ok (.iconst 5, 1) := by decide +kernel
theorem dM_act_36 : decode mM_act.1 36 = .ok (.invokestatic 84, 3) := by decide +kernel
theorem dM_act_39 : decode mM_act.1 39 = .ok (.ifCond .ne 5, 3) := by decide +kernel
theorem dM_act_42 : decode mM_act.1 42 = .ok (.iconst 0, 1) := by decide +kernel
theorem dM_act_43 : decode mM_act.1 43 = .ok (.ireturn, 1) := by decide +kernel
theorem dM_act_44 : decode mM_act.1 44 = .ok (.aload_n 0, 1) := by decide +kernel
theorem dM_act_45 : decode mM_act.1 45 = .ok (.iload 4, 2) := by decide +kernel
theorem dM_act_47 : decode mM_act.1 47 = .ok (.putfield 305, 3) := by decide +kernel
theorem dM_act_50 : decode mM_act.1 50 = .ok (.aload_n 0, 1) := by decide +kernel
theorem dM_act_51 : decode mM_act.1 51 = .ok (.aload_n 0, 1) := by decide +kernel
theorem dM_act_52 : decode mM_act.1 52 = .ok (.getfield 66, 3) := by decide +kernel
theorem dM_act_55 : decode mM_act.1 55 = .ok (.iload_n 1, 1) := by decide +kernel
theorem dM_act_56 : decode mM_act.1 56 = .ok (.iaload, 1) := by decide +kernel
theorem dM_act_57 : decode mM_act.1 57 = .ok (.putfield 299, 3) := by decide +kernel
theorem dM_act_60 : decode mM_act.1 60 = .ok (.aload_n 0, 1) := by decide +kernel
theorem dM_act_61 : decode mM_act.1 61 = .ok (.aload_n 0, 1) := by decide +kernel
theorem dM_act_62 : decode mM_act.1 62 = .ok (.aload_n 0, 1) := by decide +kernel
theorem dM_act_63 : decode mM_act.1 63 = .ok (.getfield 299, 3) := by decide +kernel
theorem dM_act_66 : decode mM_act.1 66 = .ok (.iconst 1, 1) := by decide +kernel
theorem dM_act_67 : decode mM_act.1 67 = .ok (.invokevirtual 193, 3) := by decide +kernel
theorem dM_act_70 : decode mM_act.1 70 = .ok (.putfield 317, 3) := by decide +kernel
theorem dM_act_73 : decode mM_act.1 73 = .ok (.aload_n 0, 1) := by decide +kernel
theorem dM_act_74 : decode mM_act.1 74 = .ok (.iconst 0, 1) := by decide +kernel
theorem dM_act_75 : decode mM_act.1 75 = .ok (.putfield 320, 3) := by decide +kernel
theorem dM_act_78 : decode mM_act.1 78 = .ok (.iload_n 2, 1) := by decide +kernel
theorem dM_act_79 : decode mM_act.1 79 = .ok (.ifCond .ne 11, 3) := by decide +kernel
theorem dM_act_82 : decode mM_act.1 82 = .ok (.aload_n 0, 1) := by decide +kernel
theorem dM_act_83 : decode mM_act.1 83 = .ok (.iload_n 3, 1) := by decide +kernel
theorem dM_act_84 : decode mM_act.1 84 = .ok (.invokevirtual 311, 3) := by decide +kernel
theorem dM_act_87 : decode mM_act.1 87 = .ok (.goto 34, 3) := by decide +kernel
theorem dM_act_90 : decode mM_act.1 90 = .ok (.iload_n 2, 1) := by decide +kernel
theorem dM_act_91 : decode mM_act.1 91 = .ok (.iconst 1, 1) := by decide +kernel
theorem dM_act_92 : decode mM_act.1 92 = .ok (.if_icmp .ne 11, 3) := by decide +kernel
theorem dM_act_95 : decode mM_act.1 95 = .ok (.aload_n 0, 1) := by decide +kernel
theorem dM_act_96 : decode mM_act.1 96 = .ok (.iload_n 3, 1) := by decide +kernel
theorem dM_act_97 : decode mM_act.1 97 = .ok (.invokevirtual 326, 3) := by decide +kernel
theorem dM_act_100 : decode mM_act.1 100 = .ok (.goto 21, 3) := by decide +kernel
theorem dM_act_103 : decode mM_act.1 103 = .ok (.iload_n 2, 1) := by decide +kernel
theorem dM_act_104 : decode mM_act.1 104 = .ok (.iconst 2, 1) := by decide +kernel
theorem dM_act_105 : decode mM_act.1 105 = .ok (.if_icmp .ne 11, 3) := by decide +kernel
theorem dM_act_108 : decode mM_act.1 108 = .ok (.aload_n 0, 1) := by decide +kernel
theorem dM_act_109 : decode mM_act.1 109 = .ok (.iload_n 3, 1) := by decide +kernel
theorem dM_act_110 : decode mM_act.1 110 = .ok (.invokevirtual 332, 3) := by decide +kernel
theorem dM_act_113 : decode mM_act.1 113 = .ok (.goto 8, 3) := by decide +kernel
theorem dM_act_116 : decode mM_act.1 116 = .ok (.aload_n 0, 1) := by decide +kernel
theorem dM_act_117 : decode mM_act.1 117 = .ok (.iload_n 3, 1) := by decide +kernel
theorem dM_act_118 : decode mM_act.1 118 = .ok (.invokevirtual 335, 3) := by decide +kernel
theorem dM_act_121 : decode mM_act.1 121 = .ok (.istore 5, 2) := by decide +kernel
theorem dM_act_123 : decode mM_act.1 123 = .ok (.aload_n 0, 1) := by decide +kernel
theorem dM_act_124 : decode mM_act.1 124 = .ok (.getfield 320, 3) := by decide +kernel
theorem dM_act_127 : decode mM_act.1 127 = .ok (.ifCond .eq 8, 3) := by decide +kernel
theorem dM_act_130 : decode mM_act.1 130 = .ok (.bipush (-15), 2) := by decide +kernel
theorem dM_act_132 : decode mM_act.1 132 = .ok (.goto 5, 3) := by decide +kernel
theorem dM_act_135 : decode mM_act.1 135 = .ok (.iload 5, 2) := by decide +kernel
theorem dM_act_137 : decode mM_act.1 137 = .ok (.ireturn, 1) := by decide +kernel
set_option maxRecDepth 4000 in
theorem wM_act_121 {E : Ev} {z : Int32 × St} (σ : St) (is0 : Int32) (hX : fM_act_121 σ is0 = some z) : V E mM_act (FM E (some (.int z.1), z.2)) 121 [(0, .ref 44)] [.int is0] σ := by
  unfold fM_act_121 at hX
  refine V.istore _ dM_act_121 (by decide) rfl rfl ?_
  refine V.aloadn 1 dM_act_123 rfl rfl ?_
  refine V.geti 44 dM_act_124 flM_320 (rfl : kd 44 = (6, 0)) rfl ?_
  have JJ : V E mM_act (FM E (some (.int z.1), z.2)) 137 [(5, .int is0), (0, .ref 44)] [.int (if (gI σ 44 38) = 0 then is0 else (-15 : Int32))] σ := by
    have hX := (Option.some.inj hX).symm; subst hX; exact V.iret dM_act_137 rfl rfl
  refine V.ifeq 135 dM_act_127 rfl rfl (fun g17 => ?_) (fun g17 => ?_)
  · refine V.iload 0 dM_act_135 rfl rfl ?_
    exact V.top (if_pos g17).symm JJ
  · refine V.bipush (-15 : Int32) dM_act_130 lbm15 rfl ?_
    refine V.goto 137 dM_act_132 rfl ?_
    exact V.top (if_neg g17).symm JJ
set_option maxRecDepth 4000 in
theorem wM_act_21 {E : Ev} {z : Int32 × St} (σ : St) (i1 : Int32) (i2 : Int32) (i3 : Int32) (is0 : Int32) (hX : fM_act_21 σ i1 i2 i3 is0 = some z) : V E mM_act (FM E (some (.int z.1), z.2)) 21 [(0, .ref 44), (1, .int i1), (2, .int i2), (3, .int i3)] [.int is0] σ := by
  unfold fM_act_21 at hX
  refine V.istore _ dM_act_21 (by decide) rfl rfl ?_
  refine V.iloadn 3 dM_act_23 rfl rfl ?_
  refine V.iconst (0 : Int32) dM_act_24 lc0 rfl ?_
  refine V.iconst (3 : Int32) dM_act_25 lc3 rfl ?_
  refine V.callsi [.int i2, .int (0 : Int32), .int (3 : Int32)] dM_act_26 (kM_in (σ := σ) i2 (0 : Int32) (3 : Int32)) mlM_84 myM_in mnM_in ⟨rfl, rfl, by decide, by decide⟩ rfl (Nat.le_of_ble_eq_true rfl) ⟨Nat.zero_le _, Nat.zero_le _⟩ rfl ?_
  refine V.ifeq 42 dM_act_29 rfl rfl (fun g3 => ?_) (fun g3 => ?_)
  · replace hX := ip hX g3
    refine V.iconst (0 : Int32) dM_act_42 lc0 rfl ?_
    have hX := (Option.some.inj hX).symm; subst hX; exact V.iret dM_act_43 rfl rfl
  · replace hX := im hX g3
    refine V.iload 0 dM_act_32 rfl rfl ?_
    refine V.iconst (0 : Int32) dM_act_34 lc0 rfl ?_
    refine V.iconst (5 : Int32) dM_act_35 lc5 rfl ?_
    refine V.callsi [.int is0, .int (0 : Int32), .int (5 : Int32)] dM_act_36 (kM_in (σ := σ) is0 (0 : Int32) (5 : Int32)) mlM_84 myM_in mnM_in ⟨rfl, rfl, by decide, by decide⟩ rfl (Nat.le_of_ble_eq_true rfl) ⟨Nat.zero_le _, Nat.zero_le _⟩ rfl ?_
    refine V.ifne 44 dM_act_39 rfl rfl (fun g4 => ?_) (fun g4 => ?_)
    · replace hX := im hX g4
      refine V.aloadn 1 dM_act_44 rfl rfl ?_
      refine V.iload 0 dM_act_45 rfl rfl ?_
      refine V.puti 44 .int dM_act_47 flM_305 fw6_33 (rfl : kd 44 = (6, 0)) ⟨rfl, rfl⟩ rfl ?_
      replace hX := nmx hX; generalize sI σ 44 33 is0 = σ5 at hX ⊢; try dsimp only at hX
      refine V.aloadn 1 dM_act_50 rfl rfl ?_
      refine V.aloadn 1 dM_act_51 rfl rfl ?_
      refine V.getr 44 62 dM_act_52 flM_66 (rfl : kd 44 = (6, 0)) rfl rfl ?_
      refine V.iloadn 2 dM_act_55 rfl rfl ?_
      obtain ⟨h6, hX⟩ := ob hX
      refine V.iald 62 dM_act_56 (rfl : kd 62 = (7, 4)) h6 rfl ?_
      refine V.puti 44 .int dM_act_57 flM_299 fw6_34 (rfl : kd 44 = (6, 0)) ⟨rfl, rfl⟩ rfl ?_
      replace hX := nmx hX; generalize sI σ5 44 34 (gI σ5 62 (ix i1)) = σ7 at hX ⊢; try dsimp only at hX
      refine V.aloadn 1 dM_act_60 rfl rfl ?_
      refine V.aloadn 1 dM_act_61 rfl rfl ?_
      refine V.aloadn 1 dM_act_62 rfl rfl ?_
      refine V.geti 44 dM_act_63 flM_299 (rfl : kd 44 = (6, 0)) rfl ?_
      refine V.iconst (1 : Int32) dM_act_66 lc1 rfl ?_
      obtain ⟨q8, c9, hX⟩ := bd hX; try dsimp only at hX
      refine V.callvi 44 [.int (gI σ7 44 34), .int (1 : Int32)] dM_act_67 (kM_its c9) mlM_193 myM_its mnM_its ⟨rfl, rfl, by decide, by decide⟩ (rfl : kd 44 = (6, 0)) (by decide) rfl (Nat.le_of_ble_eq_true rfl) ⟨Nat.zero_le _, Nat.zero_le _⟩ rfl ?_
      refine V.puti 44 .int dM_act_70 flM_317 fw6_35 (rfl : kd 44 = (6, 0)) ⟨rfl, rfl⟩ rfl ?_
      replace hX := nmx hX; generalize sI σ7 44 35 q8 = σ10 at hX ⊢; try dsimp only at hX
      refine V.aloadn 1 dM_act_73 rfl rfl ?_
      refine V.iconst (0 : Int32) dM_act_74 lc0 rfl ?_
      refine V.puti 44 .boolean dM_act_75 flM_320 fw6_38 (rfl : kd 44 = (6, 0)) (nz b01_0) rfl ?_
      replace hX := nmx hX; generalize sI σ10 44 38 (0 : Int32) = σ11 at hX ⊢; try dsimp only at hX
      refine V.iloadn 3 dM_act_78 rfl rfl ?_
      refine V.ifne 90 dM_act_79 rfl rfl (fun g12 => ?_) (fun g12 => ?_)
      · replace hX := im hX g12
        refine V.iloadn 3 dM_act_90 rfl rfl ?_
        refine V.iconst (1 : Int32) dM_act_91 lc1 rfl ?_
        refine V.icmpne 103 dM_act_92 rfl rfl (fun g13 => ?_) (fun g13 => ?_)
        · replace hX := im hX g13
          refine V.iloadn 3 dM_act_103 rfl rfl ?_
          refine V.iconst (2 : Int32) dM_act_104 lc2 rfl ?_
          refine V.icmpne 116 dM_act_105 rfl rfl (fun g14 => ?_) (fun g14 => ?_)
          · replace hX := im hX g14
            refine V.aloadn 1 dM_act_116 rfl rfl ?_
            refine V.iloadn 4 dM_act_117 rfl rfl ?_
            obtain ⟨q16, σ16, c15, hX⟩ := bi2 hX; try dsimp only at hX
            refine V.callvi 44 [.int i3] dM_act_118 (kM_tellsIt c15) mlM_335 myM_tellsIt mnM_tellsIt ⟨rfl, rfl, by decide, by decide⟩ (rfl : kd 44 = (6, 0)) (by decide) rfl (Nat.le_of_ble_eq_true rfl) ⟨Nat.zero_le _, Nat.zero_le _⟩ rfl ?_
            refine V.sub [1] rfl ?_
            exact wM_act_121 σ16 q16 hX
          · replace hX := ip hX g14
            refine V.aloadn 1 dM_act_108 rfl rfl ?_
            refine V.iloadn 4 dM_act_109 rfl rfl ?_
            obtain ⟨q19, σ19, c18, hX⟩ := bi2 hX; try dsimp only at hX
            refine V.callvi 44 [.int i3] dM_act_110 (kM_sharesIt c18) mlM_332 myM_sharesIt mnM_sharesIt ⟨rfl, rfl, by decide, by decide⟩ (rfl : kd 44 = (6, 0)) (by decide) rfl (Nat.le_of_ble_eq_true rfl) ⟨Nat.zero_le _, Nat.zero_le _⟩ rfl ?_
            refine V.goto 121 dM_act_113 rfl ?_
            refine V.sub [1] rfl ?_
            exact wM_act_121 σ19 q19 hX
        · replace hX := ip hX g13
          refine V.aloadn 1 dM_act_95 rfl rfl ?_
          refine V.iloadn 4 dM_act_96 rfl rfl ?_
          obtain ⟨q21, σ21, c20, hX⟩ := bi2 hX; try dsimp only at hX
          refine V.callvi 44 [.int i3] dM_act_97 (kM_weighsIt c20) mlM_326 myM_weighsIt mnM_weighsIt ⟨rfl, rfl, by decide, by decide⟩ (rfl : kd 44 = (6, 0)) (by decide) rfl (Nat.le_of_ble_eq_true rfl) ⟨Nat.zero_le _, Nat.zero_le _⟩ rfl ?_
          refine V.goto 121 dM_act_100 rfl ?_
          refine V.sub [1] rfl ?_
          exact wM_act_121 σ21 q21 hX
      · replace hX := ip hX g12
        refine V.aloadn 1 dM_act_82 rfl rfl ?_
        refine V.iloadn 4 dM_act_83 rfl rfl ?_
        obtain ⟨q23, σ23, c22, hX⟩ := bi2 hX; try dsimp only at hX
        refine V.callvi 44 [.int i3] dM_act_84 (kM_ringsIt c22) mlM_311 myM_ringsIt mnM_ringsIt ⟨rfl, rfl, by decide, by decide⟩ (rfl : kd 44 = (6, 0)) (by decide) rfl (Nat.le_of_ble_eq_true rfl) ⟨Nat.zero_le _, Nat.zero_le _⟩ rfl ?_
        refine V.goto 121 dM_act_87 rfl ?_
        refine V.sub [1] rfl ?_
        exact wM_act_121 σ23 q23 hX
    · replace hX := ip hX g4
      refine V.iconst (0 : Int32) dM_act_42 lc0 rfl ?_
      have hX := (Option.some.inj hX).symm; subst hX; exact V.iret dM_act_43 rfl rfl
set_option maxRecDepth 4000 in
theorem wM_act {E : Ev} {z : Int32 × St} (σ : St) (i1 : Int32) (i2 : Int32) (i3 : Int32) (hX : fM_act σ i1 i2 i3 = some z) : V E mM_act (FM E (some (.int z.1), z.2)) 0 [(0, .ref 44), (1, .int i1), (2, .int i2), (3, .int i3)] [] σ := by
  unfold fM_act at hX
  refine V.aloadn 0 dM_act_0 rfl rfl ?_
  refine V.iconst (0 : Int32) dM_act_1 lc0 rfl ?_
  refine V.puti 44 .int dM_act_2 flM_293 fw6_37 (rfl : kd 44 = (6, 0)) ⟨rfl, rfl⟩ rfl ?_
  replace hX := nmx hX; generalize sI σ 44 37 (0 : Int32) = σ1 at hX ⊢; try dsimp only at hX
  refine V.iloadn 1 dM_act_5 rfl rfl ?_
  refine V.callsi [.int i1] dM_act_6 (kM_isShelf (σ := σ1) i1) mlM_276 myM_isShelf mnM_isShelf ⟨rfl, rfl, by decide, by decide⟩ rfl (Nat.le_of_ble_eq_true rfl) ⟨Nat.zero_le _, Nat.zero_le _⟩ rfl ?_
  refine V.ifeq 20 dM_act_9 rfl rfl (fun g2 => ?_) (fun g2 => ?_)
  · replace hX := ip hX g2
    refine V.iconst (-1 : Int32) dM_act_20 lcm1 rfl ?_
    refine V.sub [0, 1, 2, 3] rfl ?_
    exact wM_act_21 σ1 i1 i2 i3 (-1 : Int32) hX
  · replace hX := im hX g2
    refine V.aloadn 0 dM_act_12 rfl rfl ?_
    refine V.iloadn 1 dM_act_13 rfl rfl ?_
    obtain ⟨q24, c25, hX⟩ := bd hX; try dsimp only at hX
    refine V.callvi 44 [.int i1] dM_act_14 (kM_kindOn c25) mlM_287 myM_kindOn mnM_kindOn ⟨rfl, rfl, by decide, by decide⟩ (rfl : kd 44 = (6, 0)) (by decide) rfl (Nat.le_of_ble_eq_true rfl) ⟨Nat.zero_le _, Nat.zero_le _⟩ rfl ?_
    refine V.goto 21 dM_act_17 rfl ?_
    refine V.sub [0, 1, 2, 3] rfl ?_
    exact wM_act_21 σ1 i1 i2 i3 q24 hX
theorem kM_act {E : Ev} {σ σ2 : St} {i1 : Int32} {i2 : Int32} {i3 : Int32} {z : Int32} (h : fM_act σ i1 i2 i3 = some (z, σ2)) : Ct mM_act E [.ref 44, .int i1, .int i2, .int i3] σ (some (.int z), σ2) := Ct.of (by decide) (Nat.le_of_ble_eq_true rfl) (wM_act σ i1 i2 i3 h)
theorem dM_trace_0 : decode mM_trace.1 0 = .ok (.iload_n 1, 1) := by decide +kernel
theorem dM_trace_1 : decode mM_trace.1 1 = .ok (.iconst 0, 1) := by decide +kernel
theorem dM_trace_2 : decode mM_trace.1 2 = .ok (.aload_n 0, 1) := by decide +kernel
theorem dM_trace_3 : decode mM_trace.1 3 = .ok (.getfield 293, 3) := by decide +kernel
theorem dM_trace_6 : decode mM_trace.1 6 = .ok (.iconst 1, 1) := by decide +kernel
theorem dM_trace_7 : decode mM_trace.1 7 = .ok (.isub, 1) := by decide +kernel
theorem dM_trace_8 : decode mM_trace.1 8 = .ok (.invokestatic 84, 3) := by decide +kernel
theorem dM_trace_11 : decode mM_trace.1 11 = .ok (.ifCond .eq 12, 3) := by decide +kernel
theorem dM_trace_14 : decode mM_trace.1 14 = .ok (.aload_n 0, 1) := by decide +kernel
theorem dM_trace_15 : decode mM_trace.1 15 = .ok (.getfield 72, 3) := by decide +kernel
theorem dM_trace_18 : decode mM_trace.1 18 = .ok (.iload_n 1, 1) := by decide +kernel
theorem dM_trace_19 : decode mM_trace.1 19 = .ok (.iaload, 1) := by decide +kernel
theorem dM_trace_20 : decode mM_trace.1 20 = .ok (.goto 5, 3) := by decide +kernel
theorem dM_trace_23 : decode mM_trace.1 23 = .ok (.bipush (-3), 2) := by decide +kernel
theorem dM_trace_25 : decode mM_trace.1 25 = .ok (.ireturn, 1) := by decide +kernel
set_option maxRecDepth 4000 in
theorem wM_trace {E : Ev} {z : Int32} (σ : St) (i1 : Int32) (hX : fM_trace σ i1 = some z) : V E mM_trace (FM E (some (.int z), σ)) 0 [(0, .ref 44), (1, .int i1)] [] σ := by
  unfold fM_trace at hX
  refine V.iloadn 1 dM_trace_0 rfl rfl ?_
  refine V.iconst (0 : Int32) dM_trace_1 lc0 rfl ?_
  refine V.aloadn 0 dM_trace_2 rfl rfl ?_
  refine V.geti 44 dM_trace_3 flM_293 (rfl : kd 44 = (6, 0)) rfl ?_
  refine V.iconst (1 : Int32) dM_trace_6 lc1 rfl ?_
  refine V.isub dM_trace_7 rfl ?_
  refine V.callsi [.int i1, .int (0 : Int32), .int ((gI σ 44 37) - (1 : Int32))] dM_trace_8 (kM_in (σ := σ) i1 (0 : Int32) ((gI σ 44 37) - (1 : Int32))) mlM_84 myM_in mnM_in ⟨rfl, rfl, by decide, by decide⟩ rfl (Nat.le_of_ble_eq_true rfl) ⟨Nat.zero_le _, Nat.zero_le _⟩ rfl ?_
  refine V.ifeq 23 dM_trace_11 rfl rfl (fun g1 => ?_) (fun g1 => ?_)
  · replace hX := ip hX g1
    refine V.bipush (-3 : Int32) dM_trace_23 lbm3 rfl ?_
    have hX := (Option.some.inj hX).symm; subst hX; exact V.iret dM_trace_25 rfl rfl
  · replace hX := im hX g1
    refine V.aloadn 0 dM_trace_14 rfl rfl ?_
    refine V.getr 44 64 dM_trace_15 flM_72 (rfl : kd 44 = (6, 0)) rfl rfl ?_
    refine V.iloadn 1 dM_trace_18 rfl rfl ?_
    obtain ⟨h2, hX⟩ := ob hX
    refine V.iald 64 dM_trace_19 (rfl : kd 64 = (7, 30)) h2 rfl ?_
    refine V.goto 25 dM_trace_20 rfl ?_
    have hX := (Option.some.inj hX).symm; subst hX; exact V.iret dM_trace_25 rfl rfl
theorem kM_trace {E : Ev} {σ : St} {i1 : Int32} {z : Int32} (h : fM_trace σ i1 = some z) : Ct mM_trace E [.ref 44, .int i1] σ (some (.int z), σ) := Ct.of (by decide) (Nat.le_of_ble_eq_true rfl) (wM_trace σ i1 h)
theorem dM_many_0 : decode mM_many.1 0 = .ok (.iload_n 1, 1) := by decide +kernel
theorem dM_many_1 : decode mM_many.1 1 = .ok (.tableswitch 60 0 4 #[35, 40, 45, 50, 55], 35) := by decide +kernel
theorem dM_many_36 : decode mM_many.1 36 = .ok (.aload_n 0, 1) := by decide +kernel
theorem dM_many_37 : decode mM_many.1 37 = .ok (.getfield 81, 3) := by decide +kernel
theorem dM_many_40 : decode mM_many.1 40 = .ok (.ireturn, 1) := by decide +kernel
theorem dM_many_41 : decode mM_many.1 41 = .ok (.aload_n 0, 1) := by decide +kernel
theorem dM_many_42 : decode mM_many.1 42 = .ok (.getfield 88, 3) := by decide +kernel
theorem dM_many_45 : decode mM_many.1 45 = .ok (.ireturn, 1) := by decide +kernel
theorem dM_many_46 : decode mM_many.1 46 = .ok (.aload_n 0, 1) := by decide +kernel
theorem dM_many_47 : decode mM_many.1 47 = .ok (.getfield 190, 3) := by decide +kernel
theorem dM_many_50 : decode mM_many.1 50 = .ok (.ireturn, 1) := by decide +kernel
theorem dM_many_51 : decode mM_many.1 51 = .ok (.aload_n 0, 1) := by decide +kernel
theorem dM_many_52 : decode mM_many.1 52 = .ok (.getfield 91, 3) := by decide +kernel
theorem dM_many_55 : decode mM_many.1 55 = .ok (.ireturn, 1) := by decide +kernel
theorem dM_many_56 : decode mM_many.1 56 = .ok (.aload_n 0, 1) := by decide +kernel
theorem dM_many_57 : decode mM_many.1 57 = .ok (.getfield 293, 3) := by decide +kernel
theorem dM_many_60 : decode mM_many.1 60 = .ok (.ireturn, 1) := by decide +kernel
theorem dM_many_61 : decode mM_many.1 61 = .ok (.iconst (-1), 1) := by decide +kernel
theorem dM_many_62 : decode mM_many.1 62 = .ok (.ireturn, 1) := by decide +kernel
set_option maxRecDepth 4000 in
theorem wM_many {E : Ev} {z : Int32} (σ : St) (i1 : Int32) (hX : fM_many σ i1 = z) : V E mM_many (FM E (some (.int z), σ)) 0 [(0, .ref 44), (1, .int i1)] [] σ := by
  unfold fM_many at hX
  refine V.iloadn 1 dM_many_0 rfl rfl ?_
  by_cases g1 : i1 = (0 : Int32)
  · replace hX := ip hX g1
    refine V.tabIn (off := 35) 36 dM_many_1 (by rw [g1]; decide) (by rw [g1]; decide) (by rw [g1]; rfl) rfl ?_
    refine V.aloadn 0 dM_many_36 rfl rfl ?_
    refine V.geti 44 dM_many_37 flM_81 (rfl : kd 44 = (6, 0)) rfl ?_
    subst hX; exact V.iret dM_many_40 rfl rfl
  · replace hX := im hX g1
    by_cases g2 : i1 = (1 : Int32)
    · replace hX := ip hX g2
      refine V.tabIn (off := 40) 41 dM_many_1 (by rw [g2]; decide) (by rw [g2]; decide) (by rw [g2]; rfl) rfl ?_
      refine V.aloadn 0 dM_many_41 rfl rfl ?_
      refine V.geti 44 dM_many_42 flM_88 (rfl : kd 44 = (6, 0)) rfl ?_
      subst hX; exact V.iret dM_many_45 rfl rfl
    · replace hX := im hX g2
      by_cases g3 : i1 = (2 : Int32)
      · replace hX := ip hX g3
        refine V.tabIn (off := 45) 46 dM_many_1 (by rw [g3]; decide) (by rw [g3]; decide) (by rw [g3]; rfl) rfl ?_
        refine V.aloadn 0 dM_many_46 rfl rfl ?_
        refine V.geti 44 dM_many_47 flM_190 (rfl : kd 44 = (6, 0)) rfl ?_
        subst hX; exact V.iret dM_many_50 rfl rfl
      · replace hX := im hX g3
        by_cases g4 : i1 = (3 : Int32)
        · replace hX := ip hX g4
          refine V.tabIn (off := 50) 51 dM_many_1 (by rw [g4]; decide) (by rw [g4]; decide) (by rw [g4]; rfl) rfl ?_
          refine V.aloadn 0 dM_many_51 rfl rfl ?_
          refine V.geti 44 dM_many_52 flM_91 (rfl : kd 44 = (6, 0)) rfl ?_
          subst hX; exact V.iret dM_many_55 rfl rfl
        · replace hX := im hX g4
          by_cases g5 : i1 = (4 : Int32)
          · replace hX := ip hX g5
            refine V.tabIn (off := 55) 56 dM_many_1 (by rw [g5]; decide) (by rw [g5]; decide) (by rw [g5]; rfl) rfl ?_
            refine V.aloadn 0 dM_many_56 rfl rfl ?_
            refine V.geti 44 dM_many_57 flM_293 (rfl : kd 44 = (6, 0)) rfl ?_
            subst hX; exact V.iret dM_many_60 rfl rfl
          · replace hX := im hX g5
            refine V.tabOut 61 dM_many_1 (by have a0 := lv_neT g1 (a := 0) (by decide); have a1 := lv_neT g2 (a := 1) (by decide); have a2 := lv_neT g3 (a := 2) (by decide); have a3 := lv_neT g4 (a := 3) (by decide); have a4 := lv_neT g5 (a := 4) (by decide); omega) rfl ?_
            refine V.iconst (-1 : Int32) dM_many_61 lcm1 rfl ?_
            subst hX; exact V.iret dM_many_62 rfl rfl
theorem kM_many {E : Ev} {σ : St} (i1 : Int32) : Ct mM_many E [.ref 44, .int i1] σ (some (.int (fM_many σ i1)), σ) := Ct.of (by decide) (Nat.le_of_ble_eq_true rfl) (wM_many σ i1 rfl)
theorem dM_moveRow_0 : decode mM_moveRow.1 0 = .ok (.iconst 0, 1) := by decide +kernel
theorem dM_moveRow_1 : decode mM_moveRow.1 1 = .ok (.istore 4, 2) := by decide +kernel
theorem dM_moveRow_3 : decode mM_moveRow.1 3 = .ok (.iload 4, 2) := by decide +kernel
theorem dM_moveRow_5 : decode mM_moveRow.1 5 = .ok (.iload_n 2, 1) := by decide +kernel
theorem dM_moveRow_6 : decode mM_moveRow.1 6 = .ok (.if_icmp .ge 52, 3) := by decide +kernel
theorem dM_moveRow_9 : decode mM_moveRow.1 9 = .ok (.iload_n 3, 1) := by decide +kernel
theorem dM_moveRow_10 : decode mM_moveRow.1 10 = .ok (.ifCond .eq 19, 3) := by decide +kernel
theorem dM_moveRow_13 : decode mM_moveRow.1 13 = .ok (.aload_n 0, 1) := by decide +kernel
theorem dM_moveRow_14 : decode mM_moveRow.1 14 = .ok (.getfield 75, 3) := by decide +kernel
theorem dM_moveRow_17 : decode mM_moveRow.1 17 = .ok (.aload_n 0, 1) := by decide +kernel
theorem dM_moveRow_18 : decode mM_moveRow.1 18 = .ok (.getfield 338, 3) := by decide +kernel
theorem dM_moveRow_21 : decode mM_moveRow.1 21 = .ok (.aload_n 1, 1) := by decide +kernel
theorem dM_moveRow_22 : decode mM_moveRow.1 22 = .ok (.iload 4, 2) := by decide +kernel
theorem dM_moveRow_24 : decode mM_moveRow.1 24 = .ok (.iaload, 1) := by decide +kernel
theorem dM_moveRow_25 : decode mM_moveRow.1 25 = .ok (.iastore, 1) := by decide +kernel
theorem dM_moveRow_26 : decode mM_moveRow.1 26 = .ok (.goto 16, 3) := by decide +kernel
theorem dM_moveRow_29 : decode mM_moveRow.1 29 = .ok (.aload_n 1, 1) := by decide +kernel
theorem dM_moveRow_30 : decode mM_moveRow.1 30 = .ok (.iload 4, 2) := by decide +kernel
theorem dM_moveRow_32 : decode mM_moveRow.1 32 = .ok (.aload_n 0, 1) := by decide +kernel
theorem dM_moveRow_33 : decode mM_moveRow.1 33 = .ok (.getfield 75, 3) := by decide +kernel
theorem dM_moveRow_36 : decode mM_moveRow.1 36 = .ok (.aload_n 0, 1) := by decide +kernel
theorem dM_moveRow_37 : decode mM_moveRow.1 37 = .ok (.getfield 338, 3) := by decide +kernel
theorem dM_moveRow_40 : decode mM_moveRow.1 40 = .ok (.iaload, 1) := by decide +kernel
theorem dM_moveRow_41 : decode mM_moveRow.1 41 = .ok (.iastore, 1) := by decide +kernel
theorem dM_moveRow_42 : decode mM_moveRow.1 42 = .ok (.aload_n 0, 1) := by decide +kernel
theorem dM_moveRow_43 : decode mM_moveRow.1 43 = .ok (.dup, 1) := by decide +kernel
theorem dM_moveRow_44 : decode mM_moveRow.1 44 = .ok (.getfield 338, 3) := by decide +kernel
theorem dM_moveRow_47 : decode mM_moveRow.1 47 = .ok (.iconst 1, 1) := by decide +kernel
theorem dM_moveRow_48 : decode mM_moveRow.1 48 = .ok (.iadd, 1) := by decide +kernel
theorem dM_moveRow_49 : decode mM_moveRow.1 49 = .ok (.putfield 338, 3) := by decide +kernel
theorem dM_moveRow_52 : decode mM_moveRow.1 52 = .ok (.iinc 4 1, 3) := by decide +kernel
theorem dM_moveRow_55 : decode mM_moveRow.1 55 = .ok (.goto (-52), 3) := by decide +kernel
theorem dM_moveRow_58 : decode mM_moveRow.1 58 = .ok (.return_, 1) := by decide +kernel
set_option maxRecDepth 4000 in
theorem wM_moveRow_3 {E : Ev} {z : St} : ∀ (fu : Nat) (σ : St) (r1 : Nat) (i2 : Int32) (i3 : Int32) (i4 : Int32) (hm_r1 : kd r1 = (7, (kd r1).2)), fM_moveRow_3 fu σ r1 i2 i3 i4 = some z → V E mM_moveRow (FM E (none, z)) 3 [(0, .ref 44), (1, .ref r1), (2, .int i2), (3, .int i3), (4, .int i4)] [] σ := by
  intro fu
  induction fu with
  | zero => intro σ r1 i2 i3 i4 hm_r1 hX; cases hX
  | succ fu ih =>
    intro σ r1 i2 i3 i4 hm_r1 hX
    rw [fM_moveRow_3] at hX
    refine V.iload 4 dM_moveRow_3 rfl rfl ?_
    refine V.iloadn 2 dM_moveRow_5 rfl rfl ?_
    refine V.icmpge 58 dM_moveRow_6 rfl rfl (fun g1 => ?_) (fun g1 => ?_)
    · replace hX := ip hX g1
      have hX := (Option.some.inj hX).symm; subst hX; exact V.vret dM_moveRow_58 rfl rfl
    · replace hX := im hX g1
      refine V.iloadn 3 dM_moveRow_9 rfl rfl ?_
      refine V.ifeq 29 dM_moveRow_10 rfl rfl (fun g2 => ?_) (fun g2 => ?_)
      · replace hX := ip hX g2
        refine V.aloadn 1 dM_moveRow_29 rfl rfl ?_
        refine V.iload 4 dM_moveRow_30 rfl rfl ?_
        refine V.aloadn 0 dM_moveRow_32 rfl rfl ?_
        refine V.getr 44 65 dM_moveRow_33 flM_75 (rfl : kd 44 = (6, 0)) rfl rfl ?_
        refine V.aloadn 0 dM_moveRow_36 rfl rfl ?_
        refine V.geti 44 dM_moveRow_37 flM_338 (rfl : kd 44 = (6, 0)) rfl ?_
        obtain ⟨h3, hX⟩ := ob hX
        refine V.iald 65 dM_moveRow_40 (rfl : kd 65 = (7, 60)) h3 rfl ?_
        obtain ⟨h4, hX⟩ := ob hX
        refine V.iast r1 dM_moveRow_41 hm_r1 h4 rfl ?_
        replace hX := nmx hX; generalize sI σ r1 (ix i4) (gI σ 65 (ix (gI σ 44 41))) = σ5 at hX ⊢; try dsimp only at hX
        refine V.aloadn 0 dM_moveRow_42 rfl rfl ?_
        refine V.dup dM_moveRow_43 rfl rfl ?_
        refine V.geti 44 dM_moveRow_44 flM_338 (rfl : kd 44 = (6, 0)) rfl ?_
        refine V.iconst (1 : Int32) dM_moveRow_47 lc1 rfl ?_
        refine V.iadd dM_moveRow_48 rfl ?_
        refine V.puti 44 .int dM_moveRow_49 flM_338 fw6_41 (rfl : kd 44 = (6, 0)) ⟨rfl, rfl⟩ rfl ?_
        replace hX := nmx hX; generalize sI σ5 44 41 ((gI σ5 44 41) + (1 : Int32)) = σ6 at hX ⊢; try dsimp only at hX
        refine V.iinc 4 (1 : Int32) _ dM_moveRow_52 rfl lc1 (by decide) rfl rfl ?_
        replace hX := nmx hX; generalize i4 + (1 : Int32) = v7 at hX ⊢; try dsimp only at hX
        refine V.goto 3 dM_moveRow_55 rfl ?_
        refine V.sub [1, 2, 3, 4, 0] rfl ?_
        exact ih σ6 r1 i2 i3 v7 hm_r1 hX
      · replace hX := im hX g2
        refine V.aloadn 0 dM_moveRow_13 rfl rfl ?_
        refine V.getr 44 65 dM_moveRow_14 flM_75 (rfl : kd 44 = (6, 0)) rfl rfl ?_
        refine V.aloadn 0 dM_moveRow_17 rfl rfl ?_
        refine V.geti 44 dM_moveRow_18 flM_338 (rfl : kd 44 = (6, 0)) rfl ?_
        refine V.aloadn 1 dM_moveRow_21 rfl rfl ?_
        refine V.iload 4 dM_moveRow_22 rfl rfl ?_
        obtain ⟨h8, hX⟩ := ob hX
        refine V.iald r1 dM_moveRow_24 hm_r1 h8 rfl ?_
        obtain ⟨h9, hX⟩ := ob hX
        refine V.iast 65 dM_moveRow_25 (rfl : kd 65 = (7, 60)) h9 rfl ?_
        replace hX := nmx hX; generalize sI σ 65 (ix (gI σ 44 41)) (gI σ r1 (ix i4)) = σ10 at hX ⊢; try dsimp only at hX
        refine V.goto 42 dM_moveRow_26 rfl ?_
        refine V.aloadn 0 dM_moveRow_42 rfl rfl ?_
        refine V.dup dM_moveRow_43 rfl rfl ?_
        refine V.geti 44 dM_moveRow_44 flM_338 (rfl : kd 44 = (6, 0)) rfl ?_
        refine V.iconst (1 : Int32) dM_moveRow_47 lc1 rfl ?_
        refine V.iadd dM_moveRow_48 rfl ?_
        refine V.puti 44 .int dM_moveRow_49 flM_338 fw6_41 (rfl : kd 44 = (6, 0)) ⟨rfl, rfl⟩ rfl ?_
        replace hX := nmx hX; generalize sI σ10 44 41 ((gI σ10 44 41) + (1 : Int32)) = σ11 at hX ⊢; try dsimp only at hX
        refine V.iinc 4 (1 : Int32) _ dM_moveRow_52 rfl lc1 (by decide) rfl rfl ?_
        replace hX := nmx hX; generalize i4 + (1 : Int32) = v12 at hX ⊢; try dsimp only at hX
        refine V.goto 3 dM_moveRow_55 rfl ?_
        refine V.sub [1, 2, 3, 4, 0] rfl ?_
        exact ih σ11 r1 i2 i3 v12 hm_r1 hX
set_option maxRecDepth 4000 in
theorem wM_moveRow {E : Ev} {z : St} (σ : St) (r1 : Nat) (i2 : Int32) (i3 : Int32) (hm_r1 : kd r1 = (7, (kd r1).2)) (hX : fM_moveRow σ r1 i2 i3 = some z) : V E mM_moveRow (FM E (none, z)) 0 [(0, .ref 44), (1, .ref r1), (2, .int i2), (3, .int i3)] [] σ := by
  unfold fM_moveRow at hX
  refine V.iconst (0 : Int32) dM_moveRow_0 lc0 rfl ?_
  refine V.istore _ dM_moveRow_1 (by decide) rfl rfl ?_
  refine V.sub [1, 2, 3, 4, 0] rfl ?_
  exact wM_moveRow_3 300 σ r1 i2 i3 (0 : Int32) hm_r1 hX
theorem kM_moveRow {E : Ev} {σ z : St} {r1 : Nat} {i2 : Int32} {i3 : Int32} (hm_r1 : kd r1 = (7, (kd r1).2)) (h : fM_moveRow σ r1 i2 i3 = some z) : Ct mM_moveRow E [.ref 44, .ref r1, .int i2, .int i3] σ (none, z) := Ct.of (by decide) (Nat.le_of_ble_eq_true rfl) (wM_moveRow σ r1 i2 i3 hm_r1 h)
theorem dM_moveAll_0 : decode mM_moveAll.1 0 = .ok (.aload_n 0, 1) := by decide +kernel
theorem dM_moveAll_1 : decode mM_moveAll.1 1 = .ok (.iconst 0, 1) := by decide +kernel
theorem dM_moveAll_2 : decode mM_moveAll.1 2 = .ok (.putfield 338, 3) := by decide +kernel
theorem dM_moveAll_5 : decode mM_moveAll.1 5 = .ok (.aload_n 0, 1) := by decide +kernel
theorem dM_moveAll_6 : decode mM_moveAll.1 6 = .ok (.getfield 78, 3) := by decide +kernel
theorem dM_moveAll_9 : decode mM_moveAll.1 9 = .ok (.iconst 0, 1) := by decide +kernel
theorem dM_moveAll_10 : decode mM_moveAll.1 10 = .ok (.aload_n 0, 1) := by decide +kernel
theorem dM_moveAll_11 : decode mM_moveAll.1 11 = .ok (.getfield 81, 3) := by decide +kernel
theorem dM_moveAll_14 : decode mM_moveAll.1 14 = .ok (.iastore, 1) := by decide +kernel
theorem dM_moveAll_15 : decode mM_moveAll.1 15 = .ok (.aload_n 0, 1) := by decide +kernel
theorem dM_moveAll_16 : decode mM_moveAll.1 16 = .ok (.getfield 78, 3) := by decide +kernel
theorem dM_moveAll_19 : decode mM_moveAll.1 19 = .ok (.iconst 1, 1) := by decide +kernel
theorem dM_moveAll_20 : decode mM_moveAll.1 20 = .ok (.aload_n 0, 1) := by decide +kernel
theorem dM_moveAll_21 : decode mM_moveAll.1 21 = .ok (.getfield 88, 3) := by decide +kernel
theorem dM_moveAll_24 : decode mM_moveAll.1 24 = .ok (.iastore, 1) := by decide +kernel
theorem dM_moveAll_25 : decode mM_moveAll.1 25 = .ok (.aload_n 0, 1) := by decide +kernel
theorem dM_moveAll_26 : decode mM_moveAll.1 26 = .ok (.getfield 78, 3) := by decide +kernel
theorem dM_moveAll_29 : decode mM_moveAll.1 29 = .ok (.iconst 2, 1) := by decide +kernel
theorem dM_moveAll_30 : decode mM_moveAll.1 30 = .ok (.aload_n 0, 1) := by decide +kernel
theorem dM_moveAll_31 : decode mM_moveAll.1 31 = .ok (.getfield 22, 3) := by decide +kernel
theorem dM_moveAll_34 : decode mM_moveAll.1 34 = .ok (.iastore, 1) := by decide +kernel
theorem dM_moveAll_35 : decode mM_moveAll.1 35 = .ok (.aload_n 0, 1) := by decide +kernel
theorem dM_moveAll_36 : decode mM_moveAll.1 36 = .ok (.aload_n 0, 1) := by decide +kernel
theorem dM_moveAll_37 : decode mM_moveAll.1 37 = .ok (.getfield 78, 3) := by decide +kernel
theorem dM_moveAll_40 : decode mM_moveAll.1 40 = .ok (.iconst 3, 1) := by decide +kernel
theorem dM_moveAll_41 : decode mM_moveAll.1 41 = .ok (.iload_n 1, 1) := by decide +kernel
theorem dM_moveAll_42 : decode mM_moveAll.1 42 = .ok (.invokevirtual 341, 3) := by decide +kernel
theorem dM_moveAll_45 : decode mM_moveAll.1 45 = .ok (.aload_n 0, 1) := by decide +kernel
theorem dM_moveAll_46 : decode mM_moveAll.1 46 = .ok (.aload_n 0, 1) := by decide +kernel
theorem dM_moveAll_47 : decode mM_moveAll.1 47 = .ok (.getfield 7, 3) := by decide +kernel
theorem dM_moveAll_50 : decode mM_moveAll.1 50 = .ok (.bipush 7, 2) := by decide +kernel
theorem dM_moveAll_52 : decode mM_moveAll.1 52 = .ok (.iload_n 1, 1) := by decide +kernel
theorem dM_moveAll_53 : decode mM_moveAll.1 53 = .ok (.invokevirtual 341, 3) := by decide +kernel
theorem dM_moveAll_56 : decode mM_moveAll.1 56 = .ok (.aload_n 0, 1) := by decide +kernel
theorem dM_moveAll_57 : decode mM_moveAll.1 57 = .ok (.aload_n 0, 1) := by decide +kernel
theorem dM_moveAll_58 : decode mM_moveAll.1 58 = .ok (.getfield 13, 3) := by decide +kernel
theorem dM_moveAll_61 : decode mM_moveAll.1 61 = .ok (.bipush 7, 2) := by decide +kernel
theorem dM_moveAll_63 : decode mM_moveAll.1 63 = .ok (.iload_n 1, 1) := by decide +kernel
theorem dM_moveAll_64 : decode mM_moveAll.1 64 = .ok (.invokevirtual 341, 3) := by decide +kernel
theorem dM_moveAll_67 : decode mM_moveAll.1 67 = .ok (.aload_n 0, 1) := by decide +kernel
theorem dM_moveAll_68 : decode mM_moveAll.1 68 = .ok (.aload_n 0, 1) := by decide +kernel
theorem dM_moveAll_69 : decode mM_moveAll.1 69 = .ok (.getfield 16, 3) := by decide +kernel
theorem dM_moveAll_72 : decode mM_moveAll.1 72 = .ok (.bipush 7, 2) := by decide +kernel
theorem dM_moveAll_74 : decode mM_moveAll.1 74 = .ok (.iload_n 1, 1) := by decide +kernel
theorem dM_moveAll_75 : decode mM_moveAll.1 75 = .ok (.invokevirtual 341, 3) := by decide +kernel
theorem dM_moveAll_78 : decode mM_moveAll.1 78 = .ok (.aload_n 0, 1) := by decide +kernel
theorem dM_moveAll_79 : decode mM_moveAll.1 79 = .ok (.aload_n 0, 1) := by decide +kernel
theorem dM_moveAll_80 : decode mM_moveAll.1 80 = .ok (.getfield 19, 3) := by decide +kernel
theorem dM_moveAll_83 : decode mM_moveAll.1 83 = .ok (.bipush 24, 2) := by decide +kernel
theorem dM_moveAll_85 : decode mM_moveAll.1 85 = .ok (.iload_n 1, 1) := by decide +kernel
theorem dM_moveAll_86 : decode mM_moveAll.1 86 = .ok (.invokevirtual 341, 3) := by decide +kernel
theorem dM_moveAll_89 : decode mM_moveAll.1 89 = .ok (.return_, 1) := by decide +kernel
set_option maxRecDepth 4000 in
theorem wM_moveAll {E : Ev} {z : St} (σ : St) (i1 : Int32) (hX : fM_moveAll σ i1 = some z) : V E mM_moveAll (FM E (none, z)) 0 [(0, .ref 44), (1, .int i1)] [] σ := by
  unfold fM_moveAll at hX
  refine V.aloadn 0 dM_moveAll_0 rfl rfl ?_
  refine V.iconst (0 : Int32) dM_moveAll_1 lc0 rfl ?_
  refine V.puti 44 .int dM_moveAll_2 flM_338 fw6_41 (rfl : kd 44 = (6, 0)) ⟨rfl, rfl⟩ rfl ?_
  replace hX := nmx hX; generalize sI σ 44 41 (0 : Int32) = σ1 at hX ⊢; try dsimp only at hX
  refine V.aloadn 0 dM_moveAll_5 rfl rfl ?_
  refine V.getr 44 66 dM_moveAll_6 flM_78 (rfl : kd 44 = (6, 0)) rfl rfl ?_
  refine V.iconst (0 : Int32) dM_moveAll_9 lc0 rfl ?_
  refine V.aloadn 0 dM_moveAll_10 rfl rfl ?_
  refine V.geti 44 dM_moveAll_11 flM_81 (rfl : kd 44 = (6, 0)) rfl ?_
  obtain ⟨h2, hX⟩ := ob hX
  refine V.iast 66 dM_moveAll_14 (rfl : kd 66 = (7, 3)) h2 rfl ?_
  replace hX := nmx hX; generalize sI σ1 66 (ix (0 : Int32)) (gI σ1 44 0) = σ3 at hX ⊢; try dsimp only at hX
  refine V.aloadn 0 dM_moveAll_15 rfl rfl ?_
  refine V.getr 44 66 dM_moveAll_16 flM_78 (rfl : kd 44 = (6, 0)) rfl rfl ?_
  refine V.iconst (1 : Int32) dM_moveAll_19 lc1 rfl ?_
  refine V.aloadn 0 dM_moveAll_20 rfl rfl ?_
  refine V.geti 44 dM_moveAll_21 flM_88 (rfl : kd 44 = (6, 0)) rfl ?_
  obtain ⟨h4, hX⟩ := ob hX
  refine V.iast 66 dM_moveAll_24 (rfl : kd 66 = (7, 3)) h4 rfl ?_
  replace hX := nmx hX; generalize sI σ3 66 (ix (1 : Int32)) (gI σ3 44 4) = σ5 at hX ⊢; try dsimp only at hX
  refine V.aloadn 0 dM_moveAll_25 rfl rfl ?_
  refine V.getr 44 66 dM_moveAll_26 flM_78 (rfl : kd 44 = (6, 0)) rfl rfl ?_
  refine V.iconst (2 : Int32) dM_moveAll_29 lc2 rfl ?_
  refine V.aloadn 0 dM_moveAll_30 rfl rfl ?_
  refine V.geti 44 dM_moveAll_31 flM_22 (rfl : kd 44 = (6, 0)) rfl ?_
  obtain ⟨h6, hX⟩ := ob hX
  refine V.iast 66 dM_moveAll_34 (rfl : kd 66 = (7, 3)) h6 rfl ?_
  replace hX := nmx hX; generalize sI σ5 66 (ix (2 : Int32)) (gI σ5 44 6) = σ7 at hX ⊢; try dsimp only at hX
  refine V.aloadn 0 dM_moveAll_35 rfl rfl ?_
  refine V.aloadn 0 dM_moveAll_36 rfl rfl ?_
  refine V.getr 44 66 dM_moveAll_37 flM_78 (rfl : kd 44 = (6, 0)) rfl rfl ?_
  refine V.iconst (3 : Int32) dM_moveAll_40 lc3 rfl ?_
  refine V.iloadn 1 dM_moveAll_41 rfl rfl ?_
  obtain ⟨σ9, c8, hX⟩ := bd hX; try dsimp only at hX
  refine V.callv0 44 [.ref 66, .int (3 : Int32), .int i1] dM_moveAll_42 (kM_moveRow (show kd 66 = (7, (kd 66).2) from rfl) c8) mlM_341 myM_moveRow mnM_moveRow ⟨rfl, rfl, by decide, by decide⟩ (rfl : kd 44 = (6, 0)) (by decide) rfl (Nat.le_of_ble_eq_true rfl) ⟨Nat.zero_le _, Nat.zero_le _⟩ rfl ?_
  refine V.aloadn 0 dM_moveAll_45 rfl rfl ?_
  refine V.aloadn 0 dM_moveAll_46 rfl rfl ?_
  refine V.getr 44 45 dM_moveAll_47 flM_7 (rfl : kd 44 = (6, 0)) rfl rfl ?_
  refine V.bipush (7 : Int32) dM_moveAll_50 lb7 rfl ?_
  refine V.iloadn 1 dM_moveAll_52 rfl rfl ?_
  obtain ⟨σ11, c10, hX⟩ := bd hX; try dsimp only at hX
  refine V.callv0 44 [.ref 45, .int (7 : Int32), .int i1] dM_moveAll_53 (kM_moveRow (show kd 45 = (7, (kd 45).2) from rfl) c10) mlM_341 myM_moveRow mnM_moveRow ⟨rfl, rfl, by decide, by decide⟩ (rfl : kd 44 = (6, 0)) (by decide) rfl (Nat.le_of_ble_eq_true rfl) ⟨Nat.zero_le _, Nat.zero_le _⟩ rfl ?_
  refine V.aloadn 0 dM_moveAll_56 rfl rfl ?_
  refine V.aloadn 0 dM_moveAll_57 rfl rfl ?_
  refine V.getr 44 46 dM_moveAll_58 flM_13 (rfl : kd 44 = (6, 0)) rfl rfl ?_
  refine V.bipush (7 : Int32) dM_moveAll_61 lb7 rfl ?_
  refine V.iloadn 1 dM_moveAll_63 rfl rfl ?_
  obtain ⟨σ13, c12, hX⟩ := bd hX; try dsimp only at hX
  refine V.callv0 44 [.ref 46, .int (7 : Int32), .int i1] dM_moveAll_64 (kM_moveRow (show kd 46 = (7, (kd 46).2) from rfl) c12) mlM_341 myM_moveRow mnM_moveRow ⟨rfl, rfl, by decide, by decide⟩ (rfl : kd 44 = (6, 0)) (by decide) rfl (Nat.le_of_ble_eq_true rfl) ⟨Nat.zero_le _, Nat.zero_le _⟩ rfl ?_
  refine V.aloadn 0 dM_moveAll_67 rfl rfl ?_
  refine V.aloadn 0 dM_moveAll_68 rfl rfl ?_
  refine V.getr 44 47 dM_moveAll_69 flM_16 (rfl : kd 44 = (6, 0)) rfl rfl ?_
  refine V.bipush (7 : Int32) dM_moveAll_72 lb7 rfl ?_
  refine V.iloadn 1 dM_moveAll_74 rfl rfl ?_
  obtain ⟨σ15, c14, hX⟩ := bd hX; try dsimp only at hX
  refine V.callv0 44 [.ref 47, .int (7 : Int32), .int i1] dM_moveAll_75 (kM_moveRow (show kd 47 = (7, (kd 47).2) from rfl) c14) mlM_341 myM_moveRow mnM_moveRow ⟨rfl, rfl, by decide, by decide⟩ (rfl : kd 44 = (6, 0)) (by decide) rfl (Nat.le_of_ble_eq_true rfl) ⟨Nat.zero_le _, Nat.zero_le _⟩ rfl ?_
  refine V.aloadn 0 dM_moveAll_78 rfl rfl ?_
  refine V.aloadn 0 dM_moveAll_79 rfl rfl ?_
  refine V.getr 44 48 dM_moveAll_80 flM_19 (rfl : kd 44 = (6, 0)) rfl rfl ?_
  refine V.bipush (24 : Int32) dM_moveAll_83 lb24 rfl ?_
  refine V.iloadn 1 dM_moveAll_85 rfl rfl ?_
  obtain ⟨σ17, c16, hX⟩ := bd hX; try dsimp only at hX
  refine V.callv0 44 [.ref 48, .int (24 : Int32), .int i1] dM_moveAll_86 (kM_moveRow (show kd 48 = (7, (kd 48).2) from rfl) c16) mlM_341 myM_moveRow mnM_moveRow ⟨rfl, rfl, by decide, by decide⟩ (rfl : kd 44 = (6, 0)) (by decide) rfl (Nat.le_of_ble_eq_true rfl) ⟨Nat.zero_le _, Nat.zero_le _⟩ rfl ?_
  have hX := (Option.some.inj hX).symm; subst hX; exact V.vret dM_moveAll_89 rfl rfl
theorem kM_moveAll {E : Ev} {σ z : St} {i1 : Int32} (h : fM_moveAll σ i1 = some z) : Ct mM_moveAll E [.ref 44, .int i1] σ (none, z) := Ct.of (by decide) (Nat.le_of_ble_eq_true rfl) (wM_moveAll σ i1 h)
theorem dM_keep_0 : decode mM_keep.1 0 = .ok (.aload_n 0, 1) := by decide +kernel
theorem dM_keep_1 : decode mM_keep.1 1 = .ok (.iconst 1, 1) := by decide +kernel
theorem dM_keep_2 : decode mM_keep.1 2 = .ok (.invokevirtual 345, 3) := by decide +kernel
theorem dM_keep_5 : decode mM_keep.1 5 = .ok (.aload_n 0, 1) := by decide +kernel
theorem dM_keep_6 : decode mM_keep.1 6 = .ok (.iconst 1, 1) := by decide +kernel
theorem dM_keep_7 : decode mM_keep.1 7 = .ok (.putfield 349, 3) := by decide +kernel
theorem dM_keep_10 : decode mM_keep.1 10 = .ok (.iconst 1, 1) := by decide +kernel
theorem dM_keep_11 : decode mM_keep.1 11 = .ok (.ireturn, 1) := by decide +kernel
set_option maxRecDepth 4000 in
theorem wM_keep {E : Ev} {z : Int32 × St} (σ : St) (hX : fM_keep σ = some z) : V E mM_keep (FM E (some (.int z.1), z.2)) 0 [(0, .ref 44)] [] σ := by
  unfold fM_keep at hX
  refine V.aloadn 0 dM_keep_0 rfl rfl ?_
  refine V.iconst (1 : Int32) dM_keep_1 lc1 rfl ?_
  obtain ⟨σ2, c1, hX⟩ := bd hX; try dsimp only at hX
  refine V.callv0 44 [.int (1 : Int32)] dM_keep_2 (kM_moveAll c1) mlM_345 myM_moveAll mnM_moveAll ⟨rfl, rfl, by decide, by decide⟩ (rfl : kd 44 = (6, 0)) (by decide) rfl (Nat.le_of_ble_eq_true rfl) ⟨Nat.zero_le _, Nat.zero_le _⟩ rfl ?_
  refine V.aloadn 0 dM_keep_5 rfl rfl ?_
  refine V.iconst (1 : Int32) dM_keep_6 lc1 rfl ?_
  refine V.puti 44 .boolean dM_keep_7 flM_349 fw6_39 (rfl : kd 44 = (6, 0)) (nz b01_1) rfl ?_
  replace hX := nmx hX; generalize sI σ2 44 39 (1 : Int32) = σ3 at hX ⊢; try dsimp only at hX
  refine V.iconst (1 : Int32) dM_keep_10 lc1 rfl ?_
  have hX := (Option.some.inj hX).symm; subst hX; exact V.iret dM_keep_11 rfl rfl
theorem kM_keep {E : Ev} {σ σ2 : St} {z : Int32} (h : fM_keep σ = some (z, σ2)) : Ct mM_keep E [.ref 44] σ (some (.int z), σ2) := Ct.of (by decide) (Nat.le_of_ble_eq_true rfl) (wM_keep σ h)
theorem dM_again_0 : decode mM_again.1 0 = .ok (.aload_n 0, 1) := by decide +kernel
theorem dM_again_1 : decode mM_again.1 1 = .ok (.getfield 349, 3) := by decide +kernel
theorem dM_again_4 : decode mM_again.1 4 = .ok (.ifCond .ne 6, 3) := by decide +kernel
theorem dM_again_7 : decode mM_again.1 7 = .ok (.bipush (-3), 2) := by decide +kernel
theorem dM_again_9 : decode mM_again.1 9 = .ok (.ireturn, 1) := by decide +kernel
theorem dM_again_10 : decode mM_again.1 10 = .ok (.aload_n 0, 1) := by decide +kernel
theorem dM_again_11 : decode mM_again.1 11 = .ok (.iconst 0, 1) := by decide +kernel
theorem dM_again_12 : decode mM_again.1 12 = .ok (.invokevirtual 345, 3) := by decide +kernel
theorem dM_again_15 : decode mM_again.1 15 = .ok (.aload_n 0, 1) := by decide +kernel
theorem dM_again_16 : decode mM_again.1 16 = .ok (.aload_n 0, 1) := by decide +kernel
theorem dM_again_17 : decode mM_again.1 17 = .ok (.getfield 78, 3) := by decide +kernel
theorem dM_again_20 : decode mM_again.1 20 = .ok (.iconst 0, 1) := by decide +kernel
theorem dM_again_21 : decode mM_again.1 21 = .ok (.iaload, 1) := by decide +kernel
theorem dM_again_22 : decode mM_again.1 22 = .ok (.putfield 81, 3) := by decide +kernel
theorem dM_again_25 : decode mM_again.1 25 = .ok (.aload_n 0, 1) := by decide +kernel
theorem dM_again_26 : decode mM_again.1 26 = .ok (.aload_n 0, 1) := by decide +kernel
theorem dM_again_27 : decode mM_again.1 27 = .ok (.getfield 78, 3) := by decide +kernel
theorem dM_again_30 : decode mM_again.1 30 = .ok (.iconst 1, 1) := by decide +kernel
theorem dM_again_31 : decode mM_again.1 31 = .ok (.iaload, 1) := by decide +kernel
theorem dM_again_32 : decode mM_again.1 32 = .ok (.putfield 88, 3) := by decide +kernel
theorem dM_again_35 : decode mM_again.1 35 = .ok (.aload_n 0, 1) := by decide +kernel
theorem dM_again_36 : decode mM_again.1 36 = .ok (.aload_n 0, 1) := by decide +kernel
theorem dM_again_37 : decode mM_again.1 37 = .ok (.getfield 78, 3) := by decide +kernel
theorem dM_again_40 : decode mM_again.1 40 = .ok (.iconst 2, 1) := by decide +kernel
theorem dM_again_41 : decode mM_again.1 41 = .ok (.iaload, 1) := by decide +kernel
theorem dM_again_42 : decode mM_again.1 42 = .ok (.putfield 22, 3) := by decide +kernel
theorem dM_again_45 : decode mM_again.1 45 = .ok (.aload_n 0, 1) := by decide +kernel
theorem dM_again_46 : decode mM_again.1 46 = .ok (.getfield 81, 3) := by decide +kernel
theorem dM_again_49 : decode mM_again.1 49 = .ok (.ireturn, 1) := by decide +kernel
set_option maxRecDepth 4000 in
theorem wM_again {E : Ev} {z : Int32 × St} (σ : St) (hX : fM_again σ = some z) : V E mM_again (FM E (some (.int z.1), z.2)) 0 [(0, .ref 44)] [] σ := by
  unfold fM_again at hX
  refine V.aloadn 0 dM_again_0 rfl rfl ?_
  refine V.geti 44 dM_again_1 flM_349 (rfl : kd 44 = (6, 0)) rfl ?_
  refine V.ifne 10 dM_again_4 rfl rfl (fun g1 => ?_) (fun g1 => ?_)
  · replace hX := im hX g1
    refine V.aloadn 0 dM_again_10 rfl rfl ?_
    refine V.iconst (0 : Int32) dM_again_11 lc0 rfl ?_
    obtain ⟨σ3, c2, hX⟩ := bd hX; try dsimp only at hX
    refine V.callv0 44 [.int (0 : Int32)] dM_again_12 (kM_moveAll c2) mlM_345 myM_moveAll mnM_moveAll ⟨rfl, rfl, by decide, by decide⟩ (rfl : kd 44 = (6, 0)) (by decide) rfl (Nat.le_of_ble_eq_true rfl) ⟨Nat.zero_le _, Nat.zero_le _⟩ rfl ?_
    refine V.aloadn 0 dM_again_15 rfl rfl ?_
    refine V.aloadn 0 dM_again_16 rfl rfl ?_
    refine V.getr 44 66 dM_again_17 flM_78 (rfl : kd 44 = (6, 0)) rfl rfl ?_
    refine V.iconst (0 : Int32) dM_again_20 lc0 rfl ?_
    obtain ⟨h4, hX⟩ := ob hX
    refine V.iald 66 dM_again_21 (rfl : kd 66 = (7, 3)) h4 rfl ?_
    refine V.puti 44 .int dM_again_22 flM_81 fw6_0 (rfl : kd 44 = (6, 0)) ⟨rfl, rfl⟩ rfl ?_
    replace hX := nmx hX; generalize sI σ3 44 0 (gI σ3 66 (ix (0 : Int32))) = σ5 at hX ⊢; try dsimp only at hX
    refine V.aloadn 0 dM_again_25 rfl rfl ?_
    refine V.aloadn 0 dM_again_26 rfl rfl ?_
    refine V.getr 44 66 dM_again_27 flM_78 (rfl : kd 44 = (6, 0)) rfl rfl ?_
    refine V.iconst (1 : Int32) dM_again_30 lc1 rfl ?_
    obtain ⟨h6, hX⟩ := ob hX
    refine V.iald 66 dM_again_31 (rfl : kd 66 = (7, 3)) h6 rfl ?_
    refine V.puti 44 .int dM_again_32 flM_88 fw6_4 (rfl : kd 44 = (6, 0)) ⟨rfl, rfl⟩ rfl ?_
    replace hX := nmx hX; generalize sI σ5 44 4 (gI σ5 66 (ix (1 : Int32))) = σ7 at hX ⊢; try dsimp only at hX
    refine V.aloadn 0 dM_again_35 rfl rfl ?_
    refine V.aloadn 0 dM_again_36 rfl rfl ?_
    refine V.getr 44 66 dM_again_37 flM_78 (rfl : kd 44 = (6, 0)) rfl rfl ?_
    refine V.iconst (2 : Int32) dM_again_40 lc2 rfl ?_
    obtain ⟨h8, hX⟩ := ob hX
    refine V.iald 66 dM_again_41 (rfl : kd 66 = (7, 3)) h8 rfl ?_
    refine V.puti 44 .int dM_again_42 flM_22 fw6_6 (rfl : kd 44 = (6, 0)) ⟨rfl, rfl⟩ rfl ?_
    replace hX := nmx hX; generalize sI σ7 44 6 (gI σ7 66 (ix (2 : Int32))) = σ9 at hX ⊢; try dsimp only at hX
    refine V.aloadn 0 dM_again_45 rfl rfl ?_
    refine V.geti 44 dM_again_46 flM_81 (rfl : kd 44 = (6, 0)) rfl ?_
    have hX := (Option.some.inj hX).symm; subst hX; exact V.iret dM_again_49 rfl rfl
  · replace hX := ip hX g1
    refine V.bipush (-3 : Int32) dM_again_7 lbm3 rfl ?_
    have hX := (Option.some.inj hX).symm; subst hX; exact V.iret dM_again_9 rfl rfl
theorem kM_again {E : Ev} {σ σ2 : St} {z : Int32} (h : fM_again σ = some (z, σ2)) : Ct mM_again E [.ref 44] σ (some (.int z), σ2) := Ct.of (by decide) (Nat.le_of_ble_eq_true rfl) (wM_again σ h)
