theorem dE_coinOf_0 : decode mE_coinOf.1 0 = .ok (.aload_n 0, 1) := by decide +kernel
theorem dE_coinOf_1 : decode mE_coinOf.1 1 = .ok (.getfield 10, 3) := by decide +kernel
theorem dE_coinOf_4 : decode mE_coinOf.1 4 = .ok (.iload_n 1, 1) := by decide +kernel
theorem dE_coinOf_5 : decode mE_coinOf.1 5 = .ok (.invokevirtual 125, 3) := by decide +kernel
theorem dE_coinOf_8 : decode mE_coinOf.1 8 = .ok (.ifCond .ne 5, 3) := by decide +kernel
theorem dE_coinOf_11 : decode mE_coinOf.1 11 = .ok (.iconst (-1), 1) := by decide +kernel
theorem dE_coinOf_12 : decode mE_coinOf.1 12 = .ok (.ireturn, 1) := by decide +kernel
theorem dE_coinOf_13 : decode mE_coinOf.1 13 = .ok (.iload_n 2, 1) := by decide +kernel
theorem dE_coinOf_14 : decode mE_coinOf.1 14 = .ok (.tableswitch 96 0 5 #[38, 48, 58, 67, 77, 87], 38) := by decide +kernel
theorem dE_coinOf_52 : decode mE_coinOf.1 52 = .ok (.aload_n 0, 1) := by decide +kernel
theorem dE_coinOf_53 : decode mE_coinOf.1 53 = .ok (.getfield 10, 3) := by decide +kernel
theorem dE_coinOf_56 : decode mE_coinOf.1 56 = .ok (.getfield 128, 3) := by decide +kernel
theorem dE_coinOf_59 : decode mE_coinOf.1 59 = .ok (.iload_n 1, 1) := by decide +kernel
theorem dE_coinOf_60 : decode mE_coinOf.1 60 = .ok (.iaload, 1) := by decide +kernel
theorem dE_coinOf_61 : decode mE_coinOf.1 61 = .ok (.ireturn, 1) := by decide +kernel
theorem dE_coinOf_62 : decode mE_coinOf.1 62 = .ok (.aload_n 0, 1) := by decide +kernel
theorem dE_coinOf_63 : decode mE_coinOf.1 63 = .ok (.getfield 10, 3) := by decide +kernel
theorem dE_coinOf_66 : decode mE_coinOf.1 66 = .ok (.getfield 131, 3) := by decide +kernel
theorem dE_coinOf_69 : decode mE_coinOf.1 69 = .ok (.iload_n 1, 1) := by decide +kernel
theorem dE_coinOf_70 : decode mE_coinOf.1 70 = .ok (.iaload, 1) := by decide +kernel
theorem dE_coinOf_71 : decode mE_coinOf.1 71 = .ok (.ireturn, 1) := by decide +kernel
theorem dE_coinOf_72 : decode mE_coinOf.1 72 = .ok (.aload_n 0, 1) := by decide +kernel
theorem dE_coinOf_73 : decode mE_coinOf.1 73 = .ok (.getfield 10, 3) := by decide +kernel
theorem dE_coinOf_76 : decode mE_coinOf.1 76 = .ok (.iload_n 1, 1) := by decide +kernel
theorem dE_coinOf_77 : decode mE_coinOf.1 77 = .ok (.invokevirtual 134, 3) := by decide +kernel
theorem dE_coinOf_80 : decode mE_coinOf.1 80 = .ok (.ireturn, 1) := by decide +kernel
theorem dE_coinOf_81 : decode mE_coinOf.1 81 = .ok (.aload_n 0, 1) := by decide +kernel
theorem dE_coinOf_82 : decode mE_coinOf.1 82 = .ok (.getfield 10, 3) := by decide +kernel
theorem dE_coinOf_85 : decode mE_coinOf.1 85 = .ok (.getfield 137, 3) := by decide +kernel
theorem dE_coinOf_88 : decode mE_coinOf.1 88 = .ok (.iload_n 1, 1) := by decide +kernel
theorem dE_coinOf_89 : decode mE_coinOf.1 89 = .ok (.iaload, 1) := by decide +kernel
theorem dE_coinOf_90 : decode mE_coinOf.1 90 = .ok (.ireturn, 1) := by decide +kernel
theorem dE_coinOf_91 : decode mE_coinOf.1 91 = .ok (.aload_n 0, 1) := by decide +kernel
theorem dE_coinOf_92 : decode mE_coinOf.1 92 = .ok (.getfield 10, 3) := by decide +kernel
theorem dE_coinOf_95 : decode mE_coinOf.1 95 = .ok (.getfield 140, 3) := by decide +kernel
theorem dE_coinOf_98 : decode mE_coinOf.1 98 = .ok (.iload_n 1, 1) := by decide +kernel
theorem dE_coinOf_99 : decode mE_coinOf.1 99 = .ok (.iaload, 1) := by decide +kernel
theorem dE_coinOf_100 : decode mE_coinOf.1 100 = .ok (.ireturn, 1) := by decide +kernel
theorem dE_coinOf_101 : decode mE_coinOf.1 101 = .ok (.aload_n 0, 1) := by decide +kernel
theorem dE_coinOf_102 : decode mE_coinOf.1 102 = .ok (.getfield 10, 3) := by decide +kernel
theorem dE_coinOf_105 : decode mE_coinOf.1 105 = .ok (.iload_n 1, 1) := by decide +kernel
theorem dE_coinOf_106 : decode mE_coinOf.1 106 = .ok (.invokevirtual 143, 3) := by decide +kernel
theorem dE_coinOf_109 : decode mE_coinOf.1 109 = .ok (.ireturn, 1) := by decide +kernel
theorem dE_coinOf_110 : decode mE_coinOf.1 110 = .ok (.iconst (-1), 1) := by decide +kernel
theorem dE_coinOf_111 : decode mE_coinOf.1 111 = .ok (.ireturn, 1) := by decide +kernel
set_option maxRecDepth 4000 in
theorem wE_coinOf {E : Ev} {z : Int32} (σ : St) (i1 : Int32) (i2 : Int32) (hX : fE_coinOf σ i1 i2 = some z) : V E mE_coinOf (FM E (some (.int z), σ)) 0 [(0, .ref 0), (1, .int i1), (2, .int i2)] [] σ := by
  unfold fE_coinOf at hX
  refine V.aloadn 0 dE_coinOf_0 rfl rfl ?_
  refine V.getd 0 dE_coinOf_1 flE_10 (rfl : kd 0 = (5, 0)) rfl ?_
  refine V.iloadn 1 dE_coinOf_4 rfl rfl ?_
  obtain ⟨h1, hX⟩ := ob hX
  refine V.callvi (gR σ 0) [.int i1] dE_coinOf_5 (kT_hasCoin (σ := σ) (gR σ 0) i1 h1) mlE_125 myT_hasCoin mnT_hasCoin ⟨rfl, rfl, by decide, by decide⟩ (tk0 h1) (by decide) rfl (Nat.le_of_ble_eq_true rfl) ⟨Nat.zero_le _, Nat.zero_le _⟩ rfl ?_
  refine V.ifne 13 dE_coinOf_8 rfl rfl (fun g2 => ?_) (fun g2 => ?_)
  · replace hX := im hX g2
    refine V.iloadn 2 dE_coinOf_13 rfl rfl ?_
    by_cases g3 : i2 = (0 : Int32)
    · replace hX := ip hX g3
      refine V.tabIn (off := 38) 52 dE_coinOf_14 (by rw [g3]; decide) (by rw [g3]; decide) (by rw [g3]; rfl) rfl ?_
      refine V.aloadn 0 dE_coinOf_52 rfl rfl ?_
      refine V.getd 0 dE_coinOf_53 flE_10 (rfl : kd 0 = (5, 0)) rfl ?_
      obtain ⟨h4, hX⟩ := ob hX
      refine V.getr (gR σ 0) ((gR σ 0) + 4) dE_coinOf_56 flE_128 (tk0 h4) rfl rfl ?_
      refine V.iloadn 1 dE_coinOf_59 rfl rfl ?_
      obtain ⟨h5, hX⟩ := ob hX
      refine V.iald ((gR σ 0) + 4) dE_coinOf_60 (tk4 h4) h5 rfl ?_
      have hX := (Option.some.inj hX).symm; subst hX; exact V.iret dE_coinOf_61 rfl rfl
    · replace hX := im hX g3
      by_cases g6 : i2 = (1 : Int32)
      · replace hX := ip hX g6
        refine V.tabIn (off := 48) 62 dE_coinOf_14 (by rw [g6]; decide) (by rw [g6]; decide) (by rw [g6]; rfl) rfl ?_
        refine V.aloadn 0 dE_coinOf_62 rfl rfl ?_
        refine V.getd 0 dE_coinOf_63 flE_10 (rfl : kd 0 = (5, 0)) rfl ?_
        obtain ⟨h7, hX⟩ := ob hX
        refine V.getr (gR σ 0) ((gR σ 0) + 5) dE_coinOf_66 flE_131 (tk0 h7) rfl rfl ?_
        refine V.iloadn 1 dE_coinOf_69 rfl rfl ?_
        obtain ⟨h8, hX⟩ := ob hX
        refine V.iald ((gR σ 0) + 5) dE_coinOf_70 (tk5 h7) h8 rfl ?_
        have hX := (Option.some.inj hX).symm; subst hX; exact V.iret dE_coinOf_71 rfl rfl
      · replace hX := im hX g6
        by_cases g9 : i2 = (2 : Int32)
        · replace hX := ip hX g9
          refine V.tabIn (off := 58) 72 dE_coinOf_14 (by rw [g9]; decide) (by rw [g9]; decide) (by rw [g9]; rfl) rfl ?_
          refine V.aloadn 0 dE_coinOf_72 rfl rfl ?_
          refine V.getd 0 dE_coinOf_73 flE_10 (rfl : kd 0 = (5, 0)) rfl ?_
          refine V.iloadn 1 dE_coinOf_76 rfl rfl ?_
          obtain ⟨h10, hX⟩ := ob hX
          obtain ⟨q11, c12, hX⟩ := bd hX; try dsimp only at hX
          refine V.callvi (gR σ 0) [.int i1] dE_coinOf_77 (kT_worth h10 c12) mlE_134 myT_worth mnT_worth ⟨rfl, rfl, by decide, by decide⟩ (tk0 h10) (by decide) rfl (Nat.le_of_ble_eq_true rfl) ⟨Nat.zero_le _, Nat.zero_le _⟩ rfl ?_
          have hX := (Option.some.inj hX).symm; subst hX; exact V.iret dE_coinOf_80 rfl rfl
        · replace hX := im hX g9
          by_cases g13 : i2 = (3 : Int32)
          · replace hX := ip hX g13
            refine V.tabIn (off := 67) 81 dE_coinOf_14 (by rw [g13]; decide) (by rw [g13]; decide) (by rw [g13]; rfl) rfl ?_
            refine V.aloadn 0 dE_coinOf_81 rfl rfl ?_
            refine V.getd 0 dE_coinOf_82 flE_10 (rfl : kd 0 = (5, 0)) rfl ?_
            obtain ⟨h14, hX⟩ := ob hX
            refine V.getr (gR σ 0) ((gR σ 0) + 6) dE_coinOf_85 flE_137 (tk0 h14) rfl rfl ?_
            refine V.iloadn 1 dE_coinOf_88 rfl rfl ?_
            obtain ⟨h15, hX⟩ := ob hX
            refine V.iald ((gR σ 0) + 6) dE_coinOf_89 (tk6 h14) h15 rfl ?_
            have hX := (Option.some.inj hX).symm; subst hX; exact V.iret dE_coinOf_90 rfl rfl
          · replace hX := im hX g13
            by_cases g16 : i2 = (4 : Int32)
            · replace hX := ip hX g16
              refine V.tabIn (off := 77) 91 dE_coinOf_14 (by rw [g16]; decide) (by rw [g16]; decide) (by rw [g16]; rfl) rfl ?_
              refine V.aloadn 0 dE_coinOf_91 rfl rfl ?_
              refine V.getd 0 dE_coinOf_92 flE_10 (rfl : kd 0 = (5, 0)) rfl ?_
              obtain ⟨h17, hX⟩ := ob hX
              refine V.getr (gR σ 0) ((gR σ 0) + 7) dE_coinOf_95 flE_140 (tk0 h17) rfl rfl ?_
              refine V.iloadn 1 dE_coinOf_98 rfl rfl ?_
              obtain ⟨h18, hX⟩ := ob hX
              refine V.iald ((gR σ 0) + 7) dE_coinOf_99 (tk7 h17) h18 rfl ?_
              have hX := (Option.some.inj hX).symm; subst hX; exact V.iret dE_coinOf_100 rfl rfl
            · replace hX := im hX g16
              by_cases g19 : i2 = (5 : Int32)
              · replace hX := ip hX g19
                refine V.tabIn (off := 87) 101 dE_coinOf_14 (by rw [g19]; decide) (by rw [g19]; decide) (by rw [g19]; rfl) rfl ?_
                refine V.aloadn 0 dE_coinOf_101 rfl rfl ?_
                refine V.getd 0 dE_coinOf_102 flE_10 (rfl : kd 0 = (5, 0)) rfl ?_
                refine V.iloadn 1 dE_coinOf_105 rfl rfl ?_
                obtain ⟨h20, hX⟩ := ob hX
                obtain ⟨q21, c22, hX⟩ := bd hX; try dsimp only at hX
                refine V.callvi (gR σ 0) [.int i1] dE_coinOf_106 (kT_takers h20 c22) mlE_143 myT_takers mnT_takers ⟨rfl, rfl, by decide, by decide⟩ (tk0 h20) (by decide) rfl (Nat.le_of_ble_eq_true rfl) ⟨Nat.zero_le _, Nat.zero_le _⟩ rfl ?_
                have hX := (Option.some.inj hX).symm; subst hX; exact V.iret dE_coinOf_109 rfl rfl
              · replace hX := im hX g19
                refine V.tabOut 110 dE_coinOf_14 (by have a0 := lv_neT g3 (a := 0) (by decide); have a1 := lv_neT g6 (a := 1) (by decide); have a2 := lv_neT g9 (a := 2) (by decide); have a3 := lv_neT g13 (a := 3) (by decide); have a4 := lv_neT g16 (a := 4) (by decide); have a5 := lv_neT g19 (a := 5) (by decide); omega) rfl ?_
                refine V.iconst (-1 : Int32) dE_coinOf_110 lcm1 rfl ?_
                have hX := (Option.some.inj hX).symm; subst hX; exact V.iret dE_coinOf_111 rfl rfl
  · replace hX := ip hX g2
    refine V.iconst (-1 : Int32) dE_coinOf_11 lcm1 rfl ?_
    have hX := (Option.some.inj hX).symm; subst hX; exact V.iret dE_coinOf_12 rfl rfl
theorem kE_coinOf {E : Ev} {σ : St} {i1 : Int32} {i2 : Int32} {z : Int32} (h : fE_coinOf σ i1 i2 = some z) : Ct mE_coinOf E [.ref 0, .int i1, .int i2] σ (some (.int z), σ) := Ct.of (by decide) (Nat.le_of_ble_eq_true rfl) (wE_coinOf σ i1 i2 h)
theorem dE_stamp_0 : decode mE_stamp.1 0 = .ok (.aload_n 0, 1) := by decide +kernel
theorem dE_stamp_1 : decode mE_stamp.1 1 = .ok (.getfield 10, 3) := by decide +kernel
theorem dE_stamp_4 : decode mE_stamp.1 4 = .ok (.iload_n 1, 1) := by decide +kernel
theorem dE_stamp_5 : decode mE_stamp.1 5 = .ok (.invokevirtual 125, 3) := by decide +kernel
theorem dE_stamp_8 : decode mE_stamp.1 8 = .ok (.ifCond .eq 17, 3) := by decide +kernel
theorem dE_stamp_11 : decode mE_stamp.1 11 = .ok (.iload_n 2, 1) := by decide +kernel
theorem dE_stamp_12 : decode mE_stamp.1 12 = .ok (.invokestatic 112, 3) := by decide +kernel
theorem dE_stamp_15 : decode mE_stamp.1 15 = .ok (.ifCond .eq 10, 3) := by decide +kernel
theorem dE_stamp_18 : decode mE_stamp.1 18 = .ok (.iload_n 3, 1) := by decide +kernel
theorem dE_stamp_19 : decode mE_stamp.1 19 = .ok (.invokestatic 115, 3) := by decide +kernel
theorem dE_stamp_22 : decode mE_stamp.1 22 = .ok (.ifCond .ne 5, 3) := by decide +kernel
theorem dE_stamp_25 : decode mE_stamp.1 25 = .ok (.iconst (-1), 1) := by decide +kernel
theorem dE_stamp_26 : decode mE_stamp.1 26 = .ok (.ireturn, 1) := by decide +kernel
theorem dE_stamp_27 : decode mE_stamp.1 27 = .ok (.aload_n 0, 1) := by decide +kernel
theorem dE_stamp_28 : decode mE_stamp.1 28 = .ok (.getfield 10, 3) := by decide +kernel
theorem dE_stamp_31 : decode mE_stamp.1 31 = .ok (.getfield 128, 3) := by decide +kernel
theorem dE_stamp_34 : decode mE_stamp.1 34 = .ok (.iload_n 1, 1) := by decide +kernel
theorem dE_stamp_35 : decode mE_stamp.1 35 = .ok (.iaload, 1) := by decide +kernel
theorem dE_stamp_36 : decode mE_stamp.1 36 = .ok (.istore 4, 2) := by decide +kernel
theorem dE_stamp_38 : decode mE_stamp.1 38 = .ok (.aload_n 0, 1) := by decide +kernel
theorem dE_stamp_39 : decode mE_stamp.1 39 = .ok (.getfield 10, 3) := by decide +kernel
theorem dE_stamp_42 : decode mE_stamp.1 42 = .ok (.getfield 128, 3) := by decide +kernel
theorem dE_stamp_45 : decode mE_stamp.1 45 = .ok (.iload_n 1, 1) := by decide +kernel
theorem dE_stamp_46 : decode mE_stamp.1 46 = .ok (.iload_n 2, 1) := by decide +kernel
theorem dE_stamp_47 : decode mE_stamp.1 47 = .ok (.iastore, 1) := by decide +kernel
theorem dE_stamp_48 : decode mE_stamp.1 48 = .ok (.aload_n 0, 1) := by decide +kernel
theorem dE_stamp_49 : decode mE_stamp.1 49 = .ok (.getfield 10, 3) := by decide +kernel
theorem dE_stamp_52 : decode mE_stamp.1 52 = .ok (.getfield 131, 3) := by decide +kernel
theorem dE_stamp_55 : decode mE_stamp.1 55 = .ok (.iload_n 1, 1) := by decide +kernel
theorem dE_stamp_56 : decode mE_stamp.1 56 = .ok (.iload_n 3, 1) := by decide +kernel
theorem dE_stamp_57 : decode mE_stamp.1 57 = .ok (.iastore, 1) := by decide +kernel
theorem dE_stamp_58 : decode mE_stamp.1 58 = .ok (.iload 4, 2) := by decide +kernel
theorem dE_stamp_60 : decode mE_stamp.1 60 = .ok (.ireturn, 1) := by decide +kernel
set_option maxRecDepth 4000 in
theorem wE_stamp {E : Ev} {z : Int32 × St} (σ : St) (i1 : Int32) (i2 : Int32) (i3 : Int32) (hX : fE_stamp σ i1 i2 i3 = some z) : V E mE_stamp (FM E (some (.int z.1), z.2)) 0 [(0, .ref 0), (1, .int i1), (2, .int i2), (3, .int i3)] [] σ := by
  unfold fE_stamp at hX
  refine V.aloadn 0 dE_stamp_0 rfl rfl ?_
  refine V.getd 0 dE_stamp_1 flE_10 (rfl : kd 0 = (5, 0)) rfl ?_
  refine V.iloadn 1 dE_stamp_4 rfl rfl ?_
  obtain ⟨h1, hX⟩ := ob hX
  refine V.callvi (gR σ 0) [.int i1] dE_stamp_5 (kT_hasCoin (σ := σ) (gR σ 0) i1 h1) mlE_125 myT_hasCoin mnT_hasCoin ⟨rfl, rfl, by decide, by decide⟩ (tk0 h1) (by decide) rfl (Nat.le_of_ble_eq_true rfl) ⟨Nat.zero_le _, Nat.zero_le _⟩ rfl ?_
  refine V.ifeq 25 dE_stamp_8 rfl rfl (fun g2 => ?_) (fun g2 => ?_)
  · replace hX := ip hX g2
    refine V.iconst (-1 : Int32) dE_stamp_25 lcm1 rfl ?_
    have hX := (Option.some.inj hX).symm; subst hX; exact V.iret dE_stamp_26 rfl rfl
  · replace hX := im hX g2
    refine V.iloadn 2 dE_stamp_11 rfl rfl ?_
    refine V.callsi [.int i2] dE_stamp_12 (kE_isKind (σ := σ) i2) mlE_112 myE_isKind mnE_isKind ⟨rfl, rfl, by decide, by decide⟩ rfl (Nat.le_of_ble_eq_true rfl) ⟨Nat.zero_le _, Nat.zero_le _⟩ rfl ?_
    refine V.ifeq 25 dE_stamp_15 rfl rfl (fun g3 => ?_) (fun g3 => ?_)
    · replace hX := ip hX g3
      refine V.iconst (-1 : Int32) dE_stamp_25 lcm1 rfl ?_
      have hX := (Option.some.inj hX).symm; subst hX; exact V.iret dE_stamp_26 rfl rfl
    · replace hX := im hX g3
      refine V.iloadn 3 dE_stamp_18 rfl rfl ?_
      refine V.callsi [.int i3] dE_stamp_19 (kE_isA (σ := σ) i3) mlE_115 myE_isA mnE_isA ⟨rfl, rfl, by decide, by decide⟩ rfl (Nat.le_of_ble_eq_true rfl) ⟨Nat.zero_le _, Nat.zero_le _⟩ rfl ?_
      refine V.ifne 27 dE_stamp_22 rfl rfl (fun g4 => ?_) (fun g4 => ?_)
      · replace hX := im hX g4
        refine V.aloadn 0 dE_stamp_27 rfl rfl ?_
        refine V.getd 0 dE_stamp_28 flE_10 (rfl : kd 0 = (5, 0)) rfl ?_
        obtain ⟨h5, hX⟩ := ob hX
        refine V.getr (gR σ 0) ((gR σ 0) + 4) dE_stamp_31 flE_128 (tk0 h5) rfl rfl ?_
        refine V.iloadn 1 dE_stamp_34 rfl rfl ?_
        obtain ⟨h6, hX⟩ := ob hX
        refine V.iald ((gR σ 0) + 4) dE_stamp_35 (tk4 h5) h6 rfl ?_
        refine V.istore _ dE_stamp_36 (by decide) rfl rfl ?_
        replace hX := nmx hX; generalize gI σ ((gR σ 0) + 4) (ix i1) = v7 at hX ⊢; try dsimp only at hX
        refine V.aloadn 1 dE_stamp_38 rfl rfl ?_
        refine V.getd 0 dE_stamp_39 flE_10 (rfl : kd 0 = (5, 0)) rfl ?_
        obtain ⟨h8, hX⟩ := ob hX
        refine V.getr (gR σ 0) ((gR σ 0) + 4) dE_stamp_42 flE_128 (tk0 h8) rfl rfl ?_
        refine V.iloadn 2 dE_stamp_45 rfl rfl ?_
        refine V.iloadn 3 dE_stamp_46 rfl rfl ?_
        obtain ⟨h9, hX⟩ := ob hX
        refine V.iast ((gR σ 0) + 4) dE_stamp_47 (tk4 h8) h9 rfl ?_
        replace hX := nmx hX; generalize sI σ ((gR σ 0) + 4) (ix i1) i2 = σ10 at hX ⊢; try dsimp only at hX
        refine V.aloadn 1 dE_stamp_48 rfl rfl ?_
        refine V.getd 0 dE_stamp_49 flE_10 (rfl : kd 0 = (5, 0)) rfl ?_
        obtain ⟨h11, hX⟩ := ob hX
        refine V.getr (gR σ10 0) ((gR σ10 0) + 5) dE_stamp_52 flE_131 (tk0 h11) rfl rfl ?_
        refine V.iloadn 2 dE_stamp_55 rfl rfl ?_
        refine V.iloadn 4 dE_stamp_56 rfl rfl ?_
        obtain ⟨h12, hX⟩ := ob hX
        refine V.iast ((gR σ10 0) + 5) dE_stamp_57 (tk5 h11) h12 rfl ?_
        replace hX := nmx hX; generalize sI σ10 ((gR σ10 0) + 5) (ix i1) i3 = σ13 at hX ⊢; try dsimp only at hX
        refine V.iload 0 dE_stamp_58 rfl rfl ?_
        have hX := (Option.some.inj hX).symm; subst hX; exact V.iret dE_stamp_60 rfl rfl
      · replace hX := ip hX g4
        refine V.iconst (-1 : Int32) dE_stamp_25 lcm1 rfl ?_
        have hX := (Option.some.inj hX).symm; subst hX; exact V.iret dE_stamp_26 rfl rfl
theorem kE_stamp {E : Ev} {σ σ2 : St} {i1 : Int32} {i2 : Int32} {i3 : Int32} {z : Int32} (h : fE_stamp σ i1 i2 i3 = some (z, σ2)) : Ct mE_stamp E [.ref 0, .int i1, .int i2, .int i3] σ (some (.int z), σ2) := Ct.of (by decide) (Nat.le_of_ble_eq_true rfl) (wE_stamp σ i1 i2 i3 h)
theorem dJI_bitCount_0 : decode mJI_bitCount.1 0 = .ok (.iload_n 0, 1) := by decide +kernel
theorem dJI_bitCount_1 : decode mJI_bitCount.1 1 = .ok (.iload_n 0, 1) := by decide +kernel
theorem dJI_bitCount_2 : decode mJI_bitCount.1 2 = .ok (.iconst 1, 1) := by decide +kernel
theorem dJI_bitCount_3 : decode mJI_bitCount.1 3 = .ok (.iushr, 1) := by decide +kernel
theorem dJI_bitCount_4 : decode mJI_bitCount.1 4 = .ok (.ldc_w 265, 3) := by decide +kernel
theorem dJI_bitCount_7 : decode mJI_bitCount.1 7 = .ok (.iand, 1) := by decide +kernel
theorem dJI_bitCount_8 : decode mJI_bitCount.1 8 = .ok (.isub, 1) := by decide +kernel
theorem dJI_bitCount_9 : decode mJI_bitCount.1 9 = .ok (.istore_n 0, 1) := by decide +kernel
theorem dJI_bitCount_10 : decode mJI_bitCount.1 10 = .ok (.iload_n 0, 1) := by decide +kernel
theorem dJI_bitCount_11 : decode mJI_bitCount.1 11 = .ok (.ldc_w 266, 3) := by decide +kernel
theorem dJI_bitCount_14 : decode mJI_bitCount.1 14 = .ok (.iand, 1) := by decide +kernel
theorem dJI_bitCount_15 : decode mJI_bitCount.1 15 = .ok (.iload_n 0, 1) := by decide +kernel
theorem dJI_bitCount_16 : decode mJI_bitCount.1 16 = .ok (.iconst 2, 1) := by decide +kernel
theorem dJI_bitCount_17 : decode mJI_bitCount.1 17 = .ok (.iushr, 1) := by decide +kernel
theorem dJI_bitCount_18 : decode mJI_bitCount.1 18 = .ok (.ldc_w 266, 3) := by decide +kernel
theorem dJI_bitCount_21 : decode mJI_bitCount.1 21 = .ok (.iand, 1) := by decide +kernel
theorem dJI_bitCount_22 : decode mJI_bitCount.1 22 = .ok (.iadd, 1) := by decide +kernel
theorem dJI_bitCount_23 : decode mJI_bitCount.1 23 = .ok (.istore_n 0, 1) := by decide +kernel
theorem dJI_bitCount_24 : decode mJI_bitCount.1 24 = .ok (.iload_n 0, 1) := by decide +kernel
theorem dJI_bitCount_25 : decode mJI_bitCount.1 25 = .ok (.iload_n 0, 1) := by decide +kernel
theorem dJI_bitCount_26 : decode mJI_bitCount.1 26 = .ok (.iconst 4, 1) := by decide +kernel
theorem dJI_bitCount_27 : decode mJI_bitCount.1 27 = .ok (.iushr, 1) := by decide +kernel
theorem dJI_bitCount_28 : decode mJI_bitCount.1 28 = .ok (.iadd, 1) := by decide +kernel
theorem dJI_bitCount_29 : decode mJI_bitCount.1 29 = .ok (.ldc_w 267, 3) := by decide +kernel
theorem dJI_bitCount_32 : decode mJI_bitCount.1 32 = .ok (.iand, 1) := by decide +kernel
theorem dJI_bitCount_33 : decode mJI_bitCount.1 33 = .ok (.istore_n 0, 1) := by decide +kernel
theorem dJI_bitCount_34 : decode mJI_bitCount.1 34 = .ok (.iload_n 0, 1) := by decide +kernel
theorem dJI_bitCount_35 : decode mJI_bitCount.1 35 = .ok (.iload_n 0, 1) := by decide +kernel
theorem dJI_bitCount_36 : decode mJI_bitCount.1 36 = .ok (.bipush 8, 2) := by decide +kernel
theorem dJI_bitCount_38 : decode mJI_bitCount.1 38 = .ok (.iushr, 1) := by decide +kernel
theorem dJI_bitCount_39 : decode mJI_bitCount.1 39 = .ok (.iadd, 1) := by decide +kernel
theorem dJI_bitCount_40 : decode mJI_bitCount.1 40 = .ok (.istore_n 0, 1) := by decide +kernel
theorem dJI_bitCount_41 : decode mJI_bitCount.1 41 = .ok (.iload_n 0, 1) := by decide +kernel
theorem dJI_bitCount_42 : decode mJI_bitCount.1 42 = .ok (.iload_n 0, 1) := by decide +kernel
theorem dJI_bitCount_43 : decode mJI_bitCount.1 43 = .ok (.bipush 16, 2) := by decide +kernel
theorem dJI_bitCount_45 : decode mJI_bitCount.1 45 = .ok (.iushr, 1) := by decide +kernel
theorem dJI_bitCount_46 : decode mJI_bitCount.1 46 = .ok (.iadd, 1) := by decide +kernel
theorem dJI_bitCount_47 : decode mJI_bitCount.1 47 = .ok (.istore_n 0, 1) := by decide +kernel
theorem dJI_bitCount_48 : decode mJI_bitCount.1 48 = .ok (.iload_n 0, 1) := by decide +kernel
theorem dJI_bitCount_49 : decode mJI_bitCount.1 49 = .ok (.bipush 63, 2) := by decide +kernel
theorem dJI_bitCount_51 : decode mJI_bitCount.1 51 = .ok (.iand, 1) := by decide +kernel
theorem dJI_bitCount_52 : decode mJI_bitCount.1 52 = .ok (.ireturn, 1) := by decide +kernel
set_option maxRecDepth 4000 in
theorem wJI_bitCount {E : Ev} {z : Int32} (σ : St) (i0 : Int32) (hX : fJI_bitCount i0 = z) : V E mJI_bitCount (FM E (some (.int z), σ)) 0 [(0, .int i0)] [] σ := by
  unfold fJI_bitCount at hX
  refine V.iloadn 0 dJI_bitCount_0 rfl rfl ?_
  refine V.iloadn 0 dJI_bitCount_1 rfl rfl ?_
  refine V.iconst (1 : Int32) dJI_bitCount_2 lc1 rfl ?_
  refine V.iushr dJI_bitCount_3 rfl ?_
  refine V.ldcw (1431655765 : Int32) dJI_bitCount_4 cJI_265 rfl ?_
  refine V.iand dJI_bitCount_7 rfl ?_
  refine V.isub dJI_bitCount_8 rfl ?_
  refine V.istoren _ dJI_bitCount_9 (by decide) rfl rfl ?_
  replace hX := nmx hX; generalize i0 - ((ush i0 (1 : Int32)) &&& (1431655765 : Int32)) = v1 at hX ⊢; try dsimp only at hX
  refine V.iloadn 0 dJI_bitCount_10 rfl rfl ?_
  refine V.ldcw (858993459 : Int32) dJI_bitCount_11 cJI_266 rfl ?_
  refine V.iand dJI_bitCount_14 rfl ?_
  refine V.iloadn 0 dJI_bitCount_15 rfl rfl ?_
  refine V.iconst (2 : Int32) dJI_bitCount_16 lc2 rfl ?_
  refine V.iushr dJI_bitCount_17 rfl ?_
  refine V.ldcw (858993459 : Int32) dJI_bitCount_18 cJI_266 rfl ?_
  refine V.iand dJI_bitCount_21 rfl ?_
  refine V.iadd dJI_bitCount_22 rfl ?_
  refine V.istoren _ dJI_bitCount_23 (by decide) rfl rfl ?_
  replace hX := nmx hX; generalize (v1 &&& (858993459 : Int32)) + ((ush v1 (2 : Int32)) &&& (858993459 : Int32)) = v2 at hX ⊢; try dsimp only at hX
  refine V.iloadn 0 dJI_bitCount_24 rfl rfl ?_
  refine V.iloadn 0 dJI_bitCount_25 rfl rfl ?_
  refine V.iconst (4 : Int32) dJI_bitCount_26 lc4 rfl ?_
  refine V.iushr dJI_bitCount_27 rfl ?_
  refine V.iadd dJI_bitCount_28 rfl ?_
  refine V.ldcw (252645135 : Int32) dJI_bitCount_29 cJI_267 rfl ?_
  refine V.iand dJI_bitCount_32 rfl ?_
  refine V.istoren _ dJI_bitCount_33 (by decide) rfl rfl ?_
  replace hX := nmx hX; generalize (v2 + (ush v2 (4 : Int32))) &&& (252645135 : Int32) = v3 at hX ⊢; try dsimp only at hX
  refine V.iloadn 0 dJI_bitCount_34 rfl rfl ?_
  refine V.iloadn 0 dJI_bitCount_35 rfl rfl ?_
  refine V.bipush (8 : Int32) dJI_bitCount_36 lb8 rfl ?_
  refine V.iushr dJI_bitCount_38 rfl ?_
  refine V.iadd dJI_bitCount_39 rfl ?_
  refine V.istoren _ dJI_bitCount_40 (by decide) rfl rfl ?_
  replace hX := nmx hX; generalize v3 + (ush v3 (8 : Int32)) = v4 at hX ⊢; try dsimp only at hX
  refine V.iloadn 0 dJI_bitCount_41 rfl rfl ?_
  refine V.iloadn 0 dJI_bitCount_42 rfl rfl ?_
  refine V.bipush (16 : Int32) dJI_bitCount_43 lb16 rfl ?_
  refine V.iushr dJI_bitCount_45 rfl ?_
  refine V.iadd dJI_bitCount_46 rfl ?_
  refine V.istoren _ dJI_bitCount_47 (by decide) rfl rfl ?_
  replace hX := nmx hX; generalize v4 + (ush v4 (16 : Int32)) = v5 at hX ⊢; try dsimp only at hX
  refine V.iloadn 0 dJI_bitCount_48 rfl rfl ?_
  refine V.bipush (63 : Int32) dJI_bitCount_49 lb63 rfl ?_
  refine V.iand dJI_bitCount_51 rfl ?_
  subst hX; exact V.iret dJI_bitCount_52 rfl rfl
theorem kJI_bitCount {E : Ev} {σ : St} (i0 : Int32) : Ct mJI_bitCount E [.int i0] σ (some (.int (fJI_bitCount i0)), σ) := Ct.of (by decide) (Nat.le_of_ble_eq_true rfl) (wJI_bitCount σ i0 rfl)
theorem dE_clean_0 : decode mE_clean.1 0 = .ok (.aload_n 0, 1) := by decide +kernel
theorem dE_clean_1 : decode mE_clean.1 1 = .ok (.getfield 10, 3) := by decide +kernel
theorem dE_clean_4 : decode mE_clean.1 4 = .ok (.iload_n 1, 1) := by decide +kernel
theorem dE_clean_5 : decode mE_clean.1 5 = .ok (.invokevirtual 125, 3) := by decide +kernel
theorem dE_clean_8 : decode mE_clean.1 8 = .ok (.ifCond .ne 5, 3) := by decide +kernel
theorem dE_clean_11 : decode mE_clean.1 11 = .ok (.iconst (-1), 1) := by decide +kernel
theorem dE_clean_12 : decode mE_clean.1 12 = .ok (.ireturn, 1) := by decide +kernel
theorem dE_clean_13 : decode mE_clean.1 13 = .ok (.aload_n 0, 1) := by decide +kernel
theorem dE_clean_14 : decode mE_clean.1 14 = .ok (.getfield 10, 3) := by decide +kernel
theorem dE_clean_17 : decode mE_clean.1 17 = .ok (.getfield 140, 3) := by decide +kernel
theorem dE_clean_20 : decode mE_clean.1 20 = .ok (.iload_n 1, 1) := by decide +kernel
theorem dE_clean_21 : decode mE_clean.1 21 = .ok (.iaload, 1) := by decide +kernel
theorem dE_clean_22 : decode mE_clean.1 22 = .ok (.invokestatic 146, 3) := by decide +kernel
theorem dE_clean_25 : decode mE_clean.1 25 = .ok (.iconst 1, 1) := by decide +kernel
theorem dE_clean_26 : decode mE_clean.1 26 = .ok (.isub, 1) := by decide +kernel
theorem dE_clean_27 : decode mE_clean.1 27 = .ok (.istore_n 2, 1) := by decide +kernel
theorem dE_clean_28 : decode mE_clean.1 28 = .ok (.aload_n 0, 1) := by decide +kernel
theorem dE_clean_29 : decode mE_clean.1 29 = .ok (.getfield 10, 3) := by decide +kernel
theorem dE_clean_32 : decode mE_clean.1 32 = .ok (.getfield 140, 3) := by decide +kernel
theorem dE_clean_35 : decode mE_clean.1 35 = .ok (.iload_n 1, 1) := by decide +kernel
theorem dE_clean_36 : decode mE_clean.1 36 = .ok (.iconst 1, 1) := by decide +kernel
theorem dE_clean_37 : decode mE_clean.1 37 = .ok (.aload_n 0, 1) := by decide +kernel
theorem dE_clean_38 : decode mE_clean.1 38 = .ok (.getfield 10, 3) := by decide +kernel
theorem dE_clean_41 : decode mE_clean.1 41 = .ok (.getfield 137, 3) := by decide +kernel
theorem dE_clean_44 : decode mE_clean.1 44 = .ok (.iload_n 1, 1) := by decide +kernel
theorem dE_clean_45 : decode mE_clean.1 45 = .ok (.iaload, 1) := by decide +kernel
theorem dE_clean_46 : decode mE_clean.1 46 = .ok (.ishl, 1) := by decide +kernel
theorem dE_clean_47 : decode mE_clean.1 47 = .ok (.iastore, 1) := by decide +kernel
theorem dE_clean_48 : decode mE_clean.1 48 = .ok (.iload_n 2, 1) := by decide +kernel
theorem dE_clean_49 : decode mE_clean.1 49 = .ok (.ireturn, 1) := by decide +kernel
set_option maxRecDepth 4000 in
theorem wE_clean {E : Ev} {z : Int32 × St} (σ : St) (i1 : Int32) (hX : fE_clean σ i1 = some z) : V E mE_clean (FM E (some (.int z.1), z.2)) 0 [(0, .ref 0), (1, .int i1)] [] σ := by
  unfold fE_clean at hX
  refine V.aloadn 0 dE_clean_0 rfl rfl ?_
  refine V.getd 0 dE_clean_1 flE_10 (rfl : kd 0 = (5, 0)) rfl ?_
  refine V.iloadn 1 dE_clean_4 rfl rfl ?_
  obtain ⟨h1, hX⟩ := ob hX
  refine V.callvi (gR σ 0) [.int i1] dE_clean_5 (kT_hasCoin (σ := σ) (gR σ 0) i1 h1) mlE_125 myT_hasCoin mnT_hasCoin ⟨rfl, rfl, by decide, by decide⟩ (tk0 h1) (by decide) rfl (Nat.le_of_ble_eq_true rfl) ⟨Nat.zero_le _, Nat.zero_le _⟩ rfl ?_
  refine V.ifne 13 dE_clean_8 rfl rfl (fun g2 => ?_) (fun g2 => ?_)
  · replace hX := im hX g2
    refine V.aloadn 0 dE_clean_13 rfl rfl ?_
    refine V.getd 0 dE_clean_14 flE_10 (rfl : kd 0 = (5, 0)) rfl ?_
    obtain ⟨h3, hX⟩ := ob hX
    refine V.getr (gR σ 0) ((gR σ 0) + 7) dE_clean_17 flE_140 (tk0 h3) rfl rfl ?_
    refine V.iloadn 1 dE_clean_20 rfl rfl ?_
    obtain ⟨h4, hX⟩ := ob hX
    refine V.iald ((gR σ 0) + 7) dE_clean_21 (tk7 h3) h4 rfl ?_
    refine V.callsi [.int (gI σ ((gR σ 0) + 7) (ix i1))] dE_clean_22 (kJI_bitCount (σ := σ) (gI σ ((gR σ 0) + 7) (ix i1))) mlE_146 myJI_bitCount mnJI_bitCount ⟨rfl, rfl, by decide, by decide⟩ rfl (Nat.le_of_ble_eq_true rfl) ⟨Nat.zero_le _, Nat.zero_le _⟩ rfl ?_
    refine V.iconst (1 : Int32) dE_clean_25 lc1 rfl ?_
    refine V.isub dE_clean_26 rfl ?_
    refine V.istoren _ dE_clean_27 (by decide) rfl rfl ?_
    replace hX := nmx hX; generalize (fJI_bitCount (gI σ ((gR σ 0) + 7) (ix i1))) - (1 : Int32) = v5 at hX ⊢; try dsimp only at hX
    refine V.aloadn 1 dE_clean_28 rfl rfl ?_
    refine V.getd 0 dE_clean_29 flE_10 (rfl : kd 0 = (5, 0)) rfl ?_
    obtain ⟨h6, hX⟩ := ob hX
    refine V.getr (gR σ 0) ((gR σ 0) + 7) dE_clean_32 flE_140 (tk0 h6) rfl rfl ?_
    refine V.iloadn 2 dE_clean_35 rfl rfl ?_
    refine V.iconst (1 : Int32) dE_clean_36 lc1 rfl ?_
    refine V.aloadn 1 dE_clean_37 rfl rfl ?_
    refine V.getd 0 dE_clean_38 flE_10 (rfl : kd 0 = (5, 0)) rfl ?_
    obtain ⟨h7, hX⟩ := ob hX
    refine V.getr (gR σ 0) ((gR σ 0) + 6) dE_clean_41 flE_137 (tk0 h7) rfl rfl ?_
    refine V.iloadn 2 dE_clean_44 rfl rfl ?_
    obtain ⟨h8, hX⟩ := ob hX
    refine V.iald ((gR σ 0) + 6) dE_clean_45 (tk6 h7) h8 rfl ?_
    refine V.ishl dE_clean_46 rfl ?_
    obtain ⟨h9, hX⟩ := ob hX
    refine V.iast ((gR σ 0) + 7) dE_clean_47 (tk7 h6) h9 rfl ?_
    replace hX := nmx hX; generalize sI σ ((gR σ 0) + 7) (ix i1) ((1 : Int32) <<< ((gI σ ((gR σ 0) + 6) (ix i1)) &&& 31)) = σ10 at hX ⊢; try dsimp only at hX
    refine V.iloadn 0 dE_clean_48 rfl rfl ?_
    have hX := (Option.some.inj hX).symm; subst hX; exact V.iret dE_clean_49 rfl rfl
  · replace hX := ip hX g2
    refine V.iconst (-1 : Int32) dE_clean_11 lcm1 rfl ?_
    have hX := (Option.some.inj hX).symm; subst hX; exact V.iret dE_clean_12 rfl rfl
theorem kE_clean {E : Ev} {σ σ2 : St} {i1 : Int32} {z : Int32} (h : fE_clean σ i1 = some (z, σ2)) : Ct mE_clean E [.ref 0, .int i1] σ (some (.int z), σ2) := Ct.of (by decide) (Nat.le_of_ble_eq_true rfl) (wE_clean σ i1 h)
theorem dE_may_0 : decode mE_may.1 0 = .ok (.aload_n 0, 1) := by decide +kernel
theorem dE_may_1 : decode mE_may.1 1 = .ok (.getfield 10, 3) := by decide +kernel
theorem dE_may_4 : decode mE_may.1 4 = .ok (.iload_n 1, 1) := by decide +kernel
theorem dE_may_5 : decode mE_may.1 5 = .ok (.invokevirtual 125, 3) := by decide +kernel
theorem dE_may_8 : decode mE_may.1 8 = .ok (.ifCond .eq 14, 3) := by decide +kernel
theorem dE_may_11 : decode mE_may.1 11 = .ok (.aload_n 0, 1) := by decide +kernel
theorem dE_may_12 : decode mE_may.1 12 = .ok (.getfield 10, 3) := by decide +kernel
theorem dE_may_15 : decode mE_may.1 15 = .ok (.iload_n 2, 1) := by decide +kernel
theorem dE_may_16 : decode mE_may.1 16 = .ok (.invokevirtual 86, 3) := by decide +kernel
theorem dE_may_19 : decode mE_may.1 19 = .ok (.ifCond .ne 5, 3) := by decide +kernel
theorem dE_may_22 : decode mE_may.1 22 = .ok (.iconst (-1), 1) := by decide +kernel
theorem dE_may_23 : decode mE_may.1 23 = .ok (.ireturn, 1) := by decide +kernel
theorem dE_may_24 : decode mE_may.1 24 = .ok (.aload_n 0, 1) := by decide +kernel
theorem dE_may_25 : decode mE_may.1 25 = .ok (.getfield 10, 3) := by decide +kernel
theorem dE_may_28 : decode mE_may.1 28 = .ok (.iload_n 1, 1) := by decide +kernel
theorem dE_may_29 : decode mE_may.1 29 = .ok (.invokevirtual 143, 3) := by decide +kernel
theorem dE_may_32 : decode mE_may.1 32 = .ok (.iload_n 2, 1) := by decide +kernel
theorem dE_may_33 : decode mE_may.1 33 = .ok (.invokestatic 151, 3) := by decide +kernel
theorem dE_may_36 : decode mE_may.1 36 = .ok (.ifCond .eq 7, 3) := by decide +kernel
theorem dE_may_39 : decode mE_may.1 39 = .ok (.iconst 1, 1) := by decide +kernel
theorem dE_may_40 : decode mE_may.1 40 = .ok (.goto 4, 3) := by decide +kernel
theorem dE_may_43 : decode mE_may.1 43 = .ok (.iconst 0, 1) := by decide +kernel
theorem dE_may_44 : decode mE_may.1 44 = .ok (.ireturn, 1) := by decide +kernel
set_option maxRecDepth 4000 in
theorem wE_may {E : Ev} {z : Int32} (σ : St) (i1 : Int32) (i2 : Int32) (hX : fE_may σ i1 i2 = some z) : V E mE_may (FM E (some (.int z), σ)) 0 [(0, .ref 0), (1, .int i1), (2, .int i2)] [] σ := by
  unfold fE_may at hX
  refine V.aloadn 0 dE_may_0 rfl rfl ?_
  refine V.getd 0 dE_may_1 flE_10 (rfl : kd 0 = (5, 0)) rfl ?_
  refine V.iloadn 1 dE_may_4 rfl rfl ?_
  obtain ⟨h1, hX⟩ := ob hX
  refine V.callvi (gR σ 0) [.int i1] dE_may_5 (kT_hasCoin (σ := σ) (gR σ 0) i1 h1) mlE_125 myT_hasCoin mnT_hasCoin ⟨rfl, rfl, by decide, by decide⟩ (tk0 h1) (by decide) rfl (Nat.le_of_ble_eq_true rfl) ⟨Nat.zero_le _, Nat.zero_le _⟩ rfl ?_
  refine V.ifeq 22 dE_may_8 rfl rfl (fun g2 => ?_) (fun g2 => ?_)
  · replace hX := ip hX g2
    refine V.iconst (-1 : Int32) dE_may_22 lcm1 rfl ?_
    have hX := (Option.some.inj hX).symm; subst hX; exact V.iret dE_may_23 rfl rfl
  · replace hX := im hX g2
    refine V.aloadn 0 dE_may_11 rfl rfl ?_
    refine V.getd 0 dE_may_12 flE_10 (rfl : kd 0 = (5, 0)) rfl ?_
    refine V.iloadn 2 dE_may_15 rfl rfl ?_
    obtain ⟨h3, hX⟩ := ob hX
    refine V.callvi (gR σ 0) [.int i2] dE_may_16 (kT_hasPerson (σ := σ) (gR σ 0) i2 h3) mlE_86 myT_hasPerson mnT_hasPerson ⟨rfl, rfl, by decide, by decide⟩ (tk0 h3) (by decide) rfl (Nat.le_of_ble_eq_true rfl) ⟨Nat.zero_le _, Nat.zero_le _⟩ rfl ?_
    refine V.ifne 24 dE_may_19 rfl rfl (fun g4 => ?_) (fun g4 => ?_)
    · replace hX := im hX g4
      refine V.aloadn 0 dE_may_24 rfl rfl ?_
      refine V.getd 0 dE_may_25 flE_10 (rfl : kd 0 = (5, 0)) rfl ?_
      refine V.iloadn 1 dE_may_28 rfl rfl ?_
      obtain ⟨h5, hX⟩ := ob hX
      obtain ⟨q6, c7, hX⟩ := bd hX; try dsimp only at hX
      refine V.callvi (gR σ 0) [.int i1] dE_may_29 (kT_takers h5 c7) mlE_143 myT_takers mnT_takers ⟨rfl, rfl, by decide, by decide⟩ (tk0 h5) (by decide) rfl (Nat.le_of_ble_eq_true rfl) ⟨Nat.zero_le _, Nat.zero_le _⟩ rfl ?_
      refine V.iloadn 2 dE_may_32 rfl rfl ?_
      refine V.callsi [.int q6, .int i2] dE_may_33 (kE_holds (σ := σ) q6 i2) mlE_151 myE_holds mnE_holds ⟨rfl, rfl, by decide, by decide⟩ rfl (Nat.le_of_ble_eq_true rfl) ⟨Nat.zero_le _, Nat.zero_le _⟩ rfl ?_
      have JJ : V E mE_may (FM E (some (.int z), σ)) 44 [(0, .ref 0), (1, .int i1), (2, .int i2)] [.int (if (fE_holds q6 i2) = 0 then (0 : Int32) else (1 : Int32))] σ := by
        have hX := (Option.some.inj hX).symm; subst hX; exact V.iret dE_may_44 rfl rfl
      refine V.ifeq 43 dE_may_36 rfl rfl (fun g8 => ?_) (fun g8 => ?_)
      · refine V.iconst (0 : Int32) dE_may_43 lc0 rfl ?_
        exact V.top (if_pos g8).symm JJ
      · refine V.iconst (1 : Int32) dE_may_39 lc1 rfl ?_
        refine V.goto 44 dE_may_40 rfl ?_
        exact V.top (if_neg g8).symm JJ
    · replace hX := ip hX g4
      refine V.iconst (-1 : Int32) dE_may_22 lcm1 rfl ?_
      have hX := (Option.some.inj hX).symm; subst hX; exact V.iret dE_may_23 rfl rfl
theorem kE_may {E : Ev} {σ : St} {i1 : Int32} {i2 : Int32} {z : Int32} (h : fE_may σ i1 i2 = some z) : Ct mE_may E [.ref 0, .int i1, .int i2] σ (some (.int z), σ) := Ct.of (by decide) (Nat.le_of_ble_eq_true rfl) (wE_may σ i1 i2 h)
theorem dT_removeCoin_0 : decode mT_removeCoin.1 0 = .ok (.iload_n 1, 1) := by decide +kernel
theorem dT_removeCoin_1 : decode mT_removeCoin.1 1 = .ok (.iconst 1, 1) := by decide +kernel
theorem dT_removeCoin_2 : decode mT_removeCoin.1 2 = .ok (.iadd, 1) := by decide +kernel
theorem dT_removeCoin_3 : decode mT_removeCoin.1 3 = .ok (.istore_n 2, 1) := by decide +kernel
theorem dT_removeCoin_4 : decode mT_removeCoin.1 4 = .ok (.iload_n 2, 1) := by decide +kernel
theorem dT_removeCoin_5 : decode mT_removeCoin.1 5 = .ok (.aload_n 0, 1) := by decide +kernel
theorem dT_removeCoin_6 : decode mT_removeCoin.1 6 = .ok (.getfield 15, 3) := by decide +kernel
theorem dT_removeCoin_9 : decode mT_removeCoin.1 9 = .ok (.if_icmp .ge 65, 3) := by decide +kernel
theorem dT_removeCoin_12 : decode mT_removeCoin.1 12 = .ok (.aload_n 0, 1) := by decide +kernel
theorem dT_removeCoin_13 : decode mT_removeCoin.1 13 = .ok (.getfield 31, 3) := by decide +kernel
theorem dT_removeCoin_16 : decode mT_removeCoin.1 16 = .ok (.iload_n 2, 1) := by decide +kernel
theorem dT_removeCoin_17 : decode mT_removeCoin.1 17 = .ok (.iconst 1, 1) := by decide +kernel
theorem dT_removeCoin_18 : decode mT_removeCoin.1 18 = .ok (.isub, 1) := by decide +kernel
theorem dT_removeCoin_19 : decode mT_removeCoin.1 19 = .ok (.aload_n 0, 1) := by decide +kernel
theorem dT_removeCoin_20 : decode mT_removeCoin.1 20 = .ok (.getfield 31, 3) := by decide +kernel
theorem dT_removeCoin_23 : decode mT_removeCoin.1 23 = .ok (.iload_n 2, 1) := by decide +kernel
theorem dT_removeCoin_24 : decode mT_removeCoin.1 24 = .ok (.iaload, 1) := by decide +kernel
theorem dT_removeCoin_25 : decode mT_removeCoin.1 25 = .ok (.iastore, 1) := by decide +kernel
theorem dT_removeCoin_26 : decode mT_removeCoin.1 26 = .ok (.aload_n 0, 1) := by decide +kernel
theorem dT_removeCoin_27 : decode mT_removeCoin.1 27 = .ok (.getfield 34, 3) := by decide +kernel
theorem dT_removeCoin_30 : decode mT_removeCoin.1 30 = .ok (.iload_n 2, 1) := by decide +kernel
theorem dT_removeCoin_31 : decode mT_removeCoin.1 31 = .ok (.iconst 1, 1) := by decide +kernel
theorem dT_removeCoin_32 : decode mT_removeCoin.1 32 = .ok (.isub, 1) := by decide +kernel
theorem dT_removeCoin_33 : decode mT_removeCoin.1 33 = .ok (.aload_n 0, 1) := by decide +kernel
theorem dT_removeCoin_34 : decode mT_removeCoin.1 34 = .ok (.getfield 34, 3) := by decide +kernel
theorem dT_removeCoin_37 : decode mT_removeCoin.1 37 = .ok (.iload_n 2, 1) := by decide +kernel
theorem dT_removeCoin_38 : decode mT_removeCoin.1 38 = .ok (.iaload, 1) := by decide +kernel
theorem dT_removeCoin_39 : decode mT_removeCoin.1 39 = .ok (.iastore, 1) := by decide +kernel
theorem dT_removeCoin_40 : decode mT_removeCoin.1 40 = .ok (.aload_n 0, 1) := by decide +kernel
theorem dT_removeCoin_41 : decode mT_removeCoin.1 41 = .ok (.getfield 37, 3) := by decide +kernel
theorem dT_removeCoin_44 : decode mT_removeCoin.1 44 = .ok (.iload_n 2, 1) := by decide +kernel
theorem dT_removeCoin_45 : decode mT_removeCoin.1 45 = .ok (.iconst 1, 1) := by decide +kernel
theorem dT_removeCoin_46 : decode mT_removeCoin.1 46 = .ok (.isub, 1) := by decide +kernel
theorem dT_removeCoin_47 : decode mT_removeCoin.1 47 = .ok (.aload_n 0, 1) := by decide +kernel
theorem dT_removeCoin_48 : decode mT_removeCoin.1 48 = .ok (.getfield 37, 3) := by decide +kernel
theorem dT_removeCoin_51 : decode mT_removeCoin.1 51 = .ok (.iload_n 2, 1) := by decide +kernel
theorem dT_removeCoin_52 : decode mT_removeCoin.1 52 = .ok (.iaload, 1) := by decide +kernel
theorem dT_removeCoin_53 : decode mT_removeCoin.1 53 = .ok (.iastore, 1) := by decide +kernel
theorem dT_removeCoin_54 : decode mT_removeCoin.1 54 = .ok (.aload_n 0, 1) := by decide +kernel
theorem dT_removeCoin_55 : decode mT_removeCoin.1 55 = .ok (.getfield 40, 3) := by decide +kernel
theorem dT_removeCoin_58 : decode mT_removeCoin.1 58 = .ok (.iload_n 2, 1) := by decide +kernel
theorem dT_removeCoin_59 : decode mT_removeCoin.1 59 = .ok (.iconst 1, 1) := by decide +kernel
theorem dT_removeCoin_60 : decode mT_removeCoin.1 60 = .ok (.isub, 1) := by decide +kernel
theorem dT_removeCoin_61 : decode mT_removeCoin.1 61 = .ok (.aload_n 0, 1) := by decide +kernel
theorem dT_removeCoin_62 : decode mT_removeCoin.1 62 = .ok (.getfield 40, 3) := by decide +kernel
theorem dT_removeCoin_65 : decode mT_removeCoin.1 65 = .ok (.iload_n 2, 1) := by decide +kernel
theorem dT_removeCoin_66 : decode mT_removeCoin.1 66 = .ok (.iaload, 1) := by decide +kernel
theorem dT_removeCoin_67 : decode mT_removeCoin.1 67 = .ok (.iastore, 1) := by decide +kernel
theorem dT_removeCoin_68 : decode mT_removeCoin.1 68 = .ok (.iinc 2 1, 3) := by decide +kernel
theorem dT_removeCoin_71 : decode mT_removeCoin.1 71 = .ok (.goto (-67), 3) := by decide +kernel
theorem dT_removeCoin_74 : decode mT_removeCoin.1 74 = .ok (.aload_n 0, 1) := by decide +kernel
theorem dT_removeCoin_75 : decode mT_removeCoin.1 75 = .ok (.dup, 1) := by decide +kernel
theorem dT_removeCoin_76 : decode mT_removeCoin.1 76 = .ok (.getfield 15, 3) := by decide +kernel
theorem dT_removeCoin_79 : decode mT_removeCoin.1 79 = .ok (.iconst 1, 1) := by decide +kernel
theorem dT_removeCoin_80 : decode mT_removeCoin.1 80 = .ok (.isub, 1) := by decide +kernel
theorem dT_removeCoin_81 : decode mT_removeCoin.1 81 = .ok (.putfield 15, 3) := by decide +kernel
theorem dT_removeCoin_84 : decode mT_removeCoin.1 84 = .ok (.return_, 1) := by decide +kernel
set_option maxRecDepth 4000 in
theorem wT_removeCoin_4 {E : Ev} {z : St} : ∀ (fu : Nat) (σ : St) (r0 : Nat) (i2 : Int32) (ht_r0 : isTb r0 = true), fT_removeCoin_4 fu σ r0 i2 = some z → V E mT_removeCoin (FM E (none, z)) 4 [(0, .ref r0), (2, .int i2)] [] σ := by
  intro fu
  induction fu with
  | zero => intro σ r0 i2 ht_r0 hX; cases hX
  | succ fu ih =>
    intro σ r0 i2 ht_r0 hX
    rw [fT_removeCoin_4] at hX
    refine V.iloadn 1 dT_removeCoin_4 rfl rfl ?_
    refine V.aloadn 0 dT_removeCoin_5 rfl rfl ?_
    refine V.geti r0 dT_removeCoin_6 flT_15 (tk0 ht_r0) rfl ?_
    refine V.icmpge 74 dT_removeCoin_9 rfl rfl (fun g2 => ?_) (fun g2 => ?_)
    · replace hX := ip hX g2
      refine V.aloadn 0 dT_removeCoin_74 rfl rfl ?_
      refine V.dup dT_removeCoin_75 rfl rfl ?_
      refine V.geti r0 dT_removeCoin_76 flT_15 (tk0 ht_r0) rfl ?_
      refine V.iconst (1 : Int32) dT_removeCoin_79 lc1 rfl ?_
      refine V.isub dT_removeCoin_80 rfl ?_
      refine V.puti r0 .int dT_removeCoin_81 flT_15 fw2_1 (tk0 ht_r0) ⟨rfl, rfl⟩ rfl ?_
      replace hX := nmx hX; generalize sI σ r0 1 ((gI σ r0 1) - (1 : Int32)) = σ3 at hX ⊢; try dsimp only at hX
      have hX := (Option.some.inj hX).symm; subst hX; exact V.vret dT_removeCoin_84 rfl rfl
    · replace hX := im hX g2
      refine V.aloadn 0 dT_removeCoin_12 rfl rfl ?_
      refine V.getr r0 (r0 + 4) dT_removeCoin_13 flT_31 (tk0 ht_r0) rfl rfl ?_
      refine V.iloadn 1 dT_removeCoin_16 rfl rfl ?_
      refine V.iconst (1 : Int32) dT_removeCoin_17 lc1 rfl ?_
      refine V.isub dT_removeCoin_18 rfl ?_
      refine V.aloadn 0 dT_removeCoin_19 rfl rfl ?_
      refine V.getr r0 (r0 + 4) dT_removeCoin_20 flT_31 (tk0 ht_r0) rfl rfl ?_
      refine V.iloadn 1 dT_removeCoin_23 rfl rfl ?_
      obtain ⟨h4, hX⟩ := ob hX
      refine V.iald (r0 + 4) dT_removeCoin_24 (tk4 ht_r0) h4 rfl ?_
      obtain ⟨h5, hX⟩ := ob hX
      refine V.iast (r0 + 4) dT_removeCoin_25 (tk4 ht_r0) h5 rfl ?_
      replace hX := nmx hX; generalize sI σ (r0 + 4) (ix (i2 - (1 : Int32))) (gI σ (r0 + 4) (ix i2)) = σ6 at hX ⊢; try dsimp only at hX
      refine V.aloadn 0 dT_removeCoin_26 rfl rfl ?_
      refine V.getr r0 (r0 + 5) dT_removeCoin_27 flT_34 (tk0 ht_r0) rfl rfl ?_
      refine V.iloadn 1 dT_removeCoin_30 rfl rfl ?_
      refine V.iconst (1 : Int32) dT_removeCoin_31 lc1 rfl ?_
      refine V.isub dT_removeCoin_32 rfl ?_
      refine V.aloadn 0 dT_removeCoin_33 rfl rfl ?_
      refine V.getr r0 (r0 + 5) dT_removeCoin_34 flT_34 (tk0 ht_r0) rfl rfl ?_
      refine V.iloadn 1 dT_removeCoin_37 rfl rfl ?_
      obtain ⟨h7, hX⟩ := ob hX
      refine V.iald (r0 + 5) dT_removeCoin_38 (tk5 ht_r0) h7 rfl ?_
      obtain ⟨h8, hX⟩ := ob hX
      refine V.iast (r0 + 5) dT_removeCoin_39 (tk5 ht_r0) h8 rfl ?_
      replace hX := nmx hX; generalize sI σ6 (r0 + 5) (ix (i2 - (1 : Int32))) (gI σ6 (r0 + 5) (ix i2)) = σ9 at hX ⊢; try dsimp only at hX
      refine V.aloadn 0 dT_removeCoin_40 rfl rfl ?_
      refine V.getr r0 (r0 + 6) dT_removeCoin_41 flT_37 (tk0 ht_r0) rfl rfl ?_
      refine V.iloadn 1 dT_removeCoin_44 rfl rfl ?_
      refine V.iconst (1 : Int32) dT_removeCoin_45 lc1 rfl ?_
      refine V.isub dT_removeCoin_46 rfl ?_
      refine V.aloadn 0 dT_removeCoin_47 rfl rfl ?_
      refine V.getr r0 (r0 + 6) dT_removeCoin_48 flT_37 (tk0 ht_r0) rfl rfl ?_
      refine V.iloadn 1 dT_removeCoin_51 rfl rfl ?_
      obtain ⟨h10, hX⟩ := ob hX
      refine V.iald (r0 + 6) dT_removeCoin_52 (tk6 ht_r0) h10 rfl ?_
      obtain ⟨h11, hX⟩ := ob hX
      refine V.iast (r0 + 6) dT_removeCoin_53 (tk6 ht_r0) h11 rfl ?_
      replace hX := nmx hX; generalize sI σ9 (r0 + 6) (ix (i2 - (1 : Int32))) (gI σ9 (r0 + 6) (ix i2)) = σ12 at hX ⊢; try dsimp only at hX
      refine V.aloadn 0 dT_removeCoin_54 rfl rfl ?_
      refine V.getr r0 (r0 + 7) dT_removeCoin_55 flT_40 (tk0 ht_r0) rfl rfl ?_
      refine V.iloadn 1 dT_removeCoin_58 rfl rfl ?_
      refine V.iconst (1 : Int32) dT_removeCoin_59 lc1 rfl ?_
      refine V.isub dT_removeCoin_60 rfl ?_
      refine V.aloadn 0 dT_removeCoin_61 rfl rfl ?_
      refine V.getr r0 (r0 + 7) dT_removeCoin_62 flT_40 (tk0 ht_r0) rfl rfl ?_
      refine V.iloadn 1 dT_removeCoin_65 rfl rfl ?_
      obtain ⟨h13, hX⟩ := ob hX
      refine V.iald (r0 + 7) dT_removeCoin_66 (tk7 ht_r0) h13 rfl ?_
      obtain ⟨h14, hX⟩ := ob hX
      refine V.iast (r0 + 7) dT_removeCoin_67 (tk7 ht_r0) h14 rfl ?_
      replace hX := nmx hX; generalize sI σ12 (r0 + 7) (ix (i2 - (1 : Int32))) (gI σ12 (r0 + 7) (ix i2)) = σ15 at hX ⊢; try dsimp only at hX
      refine V.iinc 1 (1 : Int32) _ dT_removeCoin_68 rfl lc1 (by decide) rfl rfl ?_
      replace hX := nmx hX; generalize i2 + (1 : Int32) = v16 at hX ⊢; try dsimp only at hX
      refine V.goto 4 dT_removeCoin_71 rfl ?_
      refine V.sub [1, 0] rfl ?_
      exact ih σ15 r0 v16 ht_r0 hX
set_option maxRecDepth 4000 in
theorem wT_removeCoin {E : Ev} {z : St} (σ : St) (r0 : Nat) (i1 : Int32) (ht_r0 : isTb r0 = true) (hX : fT_removeCoin σ r0 i1 = some z) : V E mT_removeCoin (FM E (none, z)) 0 [(0, .ref r0), (1, .int i1)] [] σ := by
  unfold fT_removeCoin at hX
  refine V.iloadn 1 dT_removeCoin_0 rfl rfl ?_
  refine V.iconst (1 : Int32) dT_removeCoin_1 lc1 rfl ?_
  refine V.iadd dT_removeCoin_2 rfl ?_
  refine V.istoren _ dT_removeCoin_3 (by decide) rfl rfl ?_
  replace hX := nmx hX; generalize i1 + (1 : Int32) = v1 at hX ⊢; try dsimp only at hX
  refine V.sub [1, 0] rfl ?_
  exact wT_removeCoin_4 300 σ r0 v1 ht_r0 hX
theorem kT_removeCoin {E : Ev} {σ z : St} {r0 : Nat} {i1 : Int32} (ht_r0 : isTb r0 = true) (h : fT_removeCoin σ r0 i1 = some z) : Ct mT_removeCoin E [.ref r0, .int i1] σ (none, z) := Ct.of (by decide) (Nat.le_of_ble_eq_true rfl) (wT_removeCoin σ r0 i1 ht_r0 h)
theorem dT_hand_0 : decode mT_hand.1 0 = .ok (.aload_n 0, 1) := by decide +kernel
theorem dT_hand_1 : decode mT_hand.1 1 = .ok (.getfield 37, 3) := by decide +kernel
theorem dT_hand_4 : decode mT_hand.1 4 = .ok (.iload_n 1, 1) := by decide +kernel
theorem dT_hand_5 : decode mT_hand.1 5 = .ok (.iload_n 2, 1) := by decide +kernel
theorem dT_hand_6 : decode mT_hand.1 6 = .ok (.iastore, 1) := by decide +kernel
theorem dT_hand_7 : decode mT_hand.1 7 = .ok (.aload_n 0, 1) := by decide +kernel
theorem dT_hand_8 : decode mT_hand.1 8 = .ok (.getfield 40, 3) := by decide +kernel
theorem dT_hand_11 : decode mT_hand.1 11 = .ok (.iload_n 1, 1) := by decide +kernel
theorem dT_hand_12 : decode mT_hand.1 12 = .ok (.dup2, 1) := by decide +kernel
theorem dT_hand_13 : decode mT_hand.1 13 = .ok (.iaload, 1) := by decide +kernel
theorem dT_hand_14 : decode mT_hand.1 14 = .ok (.iconst 1, 1) := by decide +kernel
theorem dT_hand_15 : decode mT_hand.1 15 = .ok (.iload_n 2, 1) := by decide +kernel
theorem dT_hand_16 : decode mT_hand.1 16 = .ok (.ishl, 1) := by decide +kernel
theorem dT_hand_17 : decode mT_hand.1 17 = .ok (.ior, 1) := by decide +kernel
theorem dT_hand_18 : decode mT_hand.1 18 = .ok (.iastore, 1) := by decide +kernel
theorem dT_hand_19 : decode mT_hand.1 19 = .ok (.aload_n 0, 1) := by decide +kernel
theorem dT_hand_20 : decode mT_hand.1 20 = .ok (.getfield 40, 3) := by decide +kernel
theorem dT_hand_23 : decode mT_hand.1 23 = .ok (.iload_n 1, 1) := by decide +kernel
theorem dT_hand_24 : decode mT_hand.1 24 = .ok (.iaload, 1) := by decide +kernel
theorem dT_hand_25 : decode mT_hand.1 25 = .ok (.iconst 1, 1) := by decide +kernel
theorem dT_hand_26 : decode mT_hand.1 26 = .ok (.aload_n 0, 1) := by decide +kernel
theorem dT_hand_27 : decode mT_hand.1 27 = .ok (.getfield 9, 3) := by decide +kernel
theorem dT_hand_30 : decode mT_hand.1 30 = .ok (.ishl, 1) := by decide +kernel
theorem dT_hand_31 : decode mT_hand.1 31 = .ok (.iconst 1, 1) := by decide +kernel
theorem dT_hand_32 : decode mT_hand.1 32 = .ok (.isub, 1) := by decide +kernel
theorem dT_hand_33 : decode mT_hand.1 33 = .ok (.if_icmp .eq 5, 3) := by decide +kernel
theorem dT_hand_36 : decode mT_hand.1 36 = .ok (.iconst 0, 1) := by decide +kernel
theorem dT_hand_37 : decode mT_hand.1 37 = .ok (.ireturn, 1) := by decide +kernel
theorem dT_hand_38 : decode mT_hand.1 38 = .ok (.aload_n 0, 1) := by decide +kernel
theorem dT_hand_39 : decode mT_hand.1 39 = .ok (.getfield 25, 3) := by decide +kernel
theorem dT_hand_42 : decode mT_hand.1 42 = .ok (.iload_n 2, 1) := by decide +kernel
theorem dT_hand_43 : decode mT_hand.1 43 = .ok (.dup2, 1) := by decide +kernel
theorem dT_hand_44 : decode mT_hand.1 44 = .ok (.iaload, 1) := by decide +kernel
theorem dT_hand_45 : decode mT_hand.1 45 = .ok (.aload_n 0, 1) := by decide +kernel
theorem dT_hand_46 : decode mT_hand.1 46 = .ok (.iload_n 1, 1) := by decide +kernel
theorem dT_hand_47 : decode mT_hand.1 47 = .ok (.invokevirtual 59, 3) := by decide +kernel
theorem dT_hand_50 : decode mT_hand.1 50 = .ok (.iadd, 1) := by decide +kernel
theorem dT_hand_51 : decode mT_hand.1 51 = .ok (.iastore, 1) := by decide +kernel
theorem dT_hand_52 : decode mT_hand.1 52 = .ok (.aload_n 0, 1) := by decide +kernel
theorem dT_hand_53 : decode mT_hand.1 53 = .ok (.iload_n 1, 1) := by decide +kernel
theorem dT_hand_54 : decode mT_hand.1 54 = .ok (.invokevirtual 79, 3) := by decide +kernel
theorem dT_hand_57 : decode mT_hand.1 57 = .ok (.iconst 1, 1) := by decide +kernel
theorem dT_hand_58 : decode mT_hand.1 58 = .ok (.ireturn, 1) := by decide +kernel
set_option maxRecDepth 4000 in
theorem wT_hand {E : Ev} {z : Int32 × St} (σ : St) (r0 : Nat) (i1 : Int32) (i2 : Int32) (ht_r0 : isTb r0 = true) (hX : fT_hand σ r0 i1 i2 = some z) : V E mT_hand (FM E (some (.int z.1), z.2)) 0 [(0, .ref r0), (1, .int i1), (2, .int i2)] [] σ := by
  unfold fT_hand at hX
  refine V.aloadn 0 dT_hand_0 rfl rfl ?_
  refine V.getr r0 (r0 + 6) dT_hand_1 flT_37 (tk0 ht_r0) rfl rfl ?_
  refine V.iloadn 1 dT_hand_4 rfl rfl ?_
  refine V.iloadn 2 dT_hand_5 rfl rfl ?_
  obtain ⟨h1, hX⟩ := ob hX
  refine V.iast (r0 + 6) dT_hand_6 (tk6 ht_r0) h1 rfl ?_
  replace hX := nmx hX; generalize sI σ (r0 + 6) (ix i1) i2 = σ2 at hX ⊢; try dsimp only at hX
  refine V.aloadn 0 dT_hand_7 rfl rfl ?_
  refine V.getr r0 (r0 + 7) dT_hand_8 flT_40 (tk0 ht_r0) rfl rfl ?_
  refine V.iloadn 1 dT_hand_11 rfl rfl ?_
  refine V.dup2 dT_hand_12 rfl rfl rfl ?_
  obtain ⟨h3, hX⟩ := ob hX
  refine V.iald (r0 + 7) dT_hand_13 (tk7 ht_r0) h3 rfl ?_
  refine V.iconst (1 : Int32) dT_hand_14 lc1 rfl ?_
  refine V.iloadn 2 dT_hand_15 rfl rfl ?_
  refine V.ishl dT_hand_16 rfl ?_
  refine V.ior dT_hand_17 rfl ?_
  obtain ⟨h4, hX⟩ := ob hX
  refine V.iast (r0 + 7) dT_hand_18 (tk7 ht_r0) h4 rfl ?_
  replace hX := nmx hX; generalize sI σ2 (r0 + 7) (ix i1) ((gI σ2 (r0 + 7) (ix i1)) ||| ((1 : Int32) <<< (i2 &&& 31))) = σ5 at hX ⊢; try dsimp only at hX
  refine V.aloadn 0 dT_hand_19 rfl rfl ?_
  refine V.getr r0 (r0 + 7) dT_hand_20 flT_40 (tk0 ht_r0) rfl rfl ?_
  refine V.iloadn 1 dT_hand_23 rfl rfl ?_
  obtain ⟨h6, hX⟩ := ob hX
  refine V.iald (r0 + 7) dT_hand_24 (tk7 ht_r0) h6 rfl ?_
  refine V.iconst (1 : Int32) dT_hand_25 lc1 rfl ?_
  refine V.aloadn 0 dT_hand_26 rfl rfl ?_
  refine V.geti r0 dT_hand_27 flT_9 (tk0 ht_r0) rfl ?_
  refine V.ishl dT_hand_30 rfl ?_
  refine V.iconst (1 : Int32) dT_hand_31 lc1 rfl ?_
  refine V.isub dT_hand_32 rfl ?_
  refine V.icmpeq 38 dT_hand_33 rfl rfl (fun g7 => ?_) (fun g7 => ?_)
  · replace hX := ip hX g7
    refine V.aloadn 0 dT_hand_38 rfl rfl ?_
    refine V.getr r0 (r0 + 2) dT_hand_39 flT_25 (tk0 ht_r0) rfl rfl ?_
    refine V.iloadn 2 dT_hand_42 rfl rfl ?_
    refine V.dup2 dT_hand_43 rfl rfl rfl ?_
    obtain ⟨h8, hX⟩ := ob hX
    refine V.iald (r0 + 2) dT_hand_44 (tk2 ht_r0) h8 rfl ?_
    refine V.aloadn 0 dT_hand_45 rfl rfl ?_
    refine V.iloadn 1 dT_hand_46 rfl rfl ?_
    obtain ⟨q9, c10, hX⟩ := bd hX; try dsimp only at hX
    refine V.callvi r0 [.int i1] dT_hand_47 (kT_worth ht_r0 c10) mlT_59 myT_worth mnT_worth ⟨rfl, rfl, by decide, by decide⟩ (tk0 ht_r0) (by decide) rfl (Nat.le_of_ble_eq_true rfl) ⟨Nat.zero_le _, Nat.zero_le _⟩ rfl ?_
    refine V.iadd dT_hand_50 rfl ?_
    obtain ⟨h11, hX⟩ := ob hX
    refine V.iast (r0 + 2) dT_hand_51 (tk2 ht_r0) h11 rfl ?_
    replace hX := nmx hX; generalize sI σ5 (r0 + 2) (ix i2) ((gI σ5 (r0 + 2) (ix i2)) + q9) = σ12 at hX ⊢; try dsimp only at hX
    refine V.aloadn 0 dT_hand_52 rfl rfl ?_
    refine V.iloadn 1 dT_hand_53 rfl rfl ?_
    obtain ⟨σ14, c13, hX⟩ := bd hX; try dsimp only at hX
    refine V.callv0 r0 [.int i1] dT_hand_54 (kT_removeCoin ht_r0 c13) mlT_79 myT_removeCoin mnT_removeCoin ⟨rfl, rfl, by decide, by decide⟩ (tk0 ht_r0) (by decide) rfl (Nat.le_of_ble_eq_true rfl) ⟨Nat.zero_le _, Nat.zero_le _⟩ rfl ?_
    refine V.iconst (1 : Int32) dT_hand_57 lc1 rfl ?_
    have hX := (Option.some.inj hX).symm; subst hX; exact V.zret .boolean dT_hand_58 rfl (nz b01_1).1 rfl
  · replace hX := im hX g7
    refine V.iconst (0 : Int32) dT_hand_36 lc0 rfl ?_
    have hX := (Option.some.inj hX).symm; subst hX; exact V.zret .boolean dT_hand_37 rfl (nz b01_0).1 rfl
theorem kT_hand {E : Ev} {σ σ2 : St} {r0 : Nat} {i1 : Int32} {i2 : Int32} {z : Int32} (ht_r0 : isTb r0 = true) (h : fT_hand σ r0 i1 i2 = some (z, σ2)) : Ct mT_hand E [.ref r0, .int i1, .int i2] σ (some (.int z), σ2) := Ct.of (by decide) (Nat.le_of_ble_eq_true rfl) (wT_hand σ r0 i1 i2 ht_r0 h)
theorem dE_give_0 : decode mE_give.1 0 = .ok (.aload_n 0, 1) := by decide +kernel
theorem dE_give_1 : decode mE_give.1 1 = .ok (.getfield 10, 3) := by decide +kernel
theorem dE_give_4 : decode mE_give.1 4 = .ok (.iload_n 1, 1) := by decide +kernel
theorem dE_give_5 : decode mE_give.1 5 = .ok (.invokevirtual 125, 3) := by decide +kernel
theorem dE_give_8 : decode mE_give.1 8 = .ok (.ifCond .eq 14, 3) := by decide +kernel
theorem dE_give_11 : decode mE_give.1 11 = .ok (.aload_n 0, 1) := by decide +kernel
theorem dE_give_12 : decode mE_give.1 12 = .ok (.getfield 10, 3) := by decide +kernel
theorem dE_give_15 : decode mE_give.1 15 = .ok (.iload_n 2, 1) := by decide +kernel
theorem dE_give_16 : decode mE_give.1 16 = .ok (.invokevirtual 86, 3) := by decide +kernel
theorem dE_give_19 : decode mE_give.1 19 = .ok (.ifCond .ne 5, 3) := by decide +kernel
theorem dE_give_22 : decode mE_give.1 22 = .ok (.iconst (-1), 1) := by decide +kernel
theorem dE_give_23 : decode mE_give.1 23 = .ok (.ireturn, 1) := by decide +kernel
theorem dE_give_24 : decode mE_give.1 24 = .ok (.aload_n 0, 1) := by decide +kernel
theorem dE_give_25 : decode mE_give.1 25 = .ok (.getfield 10, 3) := by decide +kernel
theorem dE_give_28 : decode mE_give.1 28 = .ok (.iload_n 1, 1) := by decide +kernel
theorem dE_give_29 : decode mE_give.1 29 = .ok (.invokevirtual 143, 3) := by decide +kernel
theorem dE_give_32 : decode mE_give.1 32 = .ok (.iload_n 2, 1) := by decide +kernel
theorem dE_give_33 : decode mE_give.1 33 = .ok (.invokestatic 151, 3) := by decide +kernel
theorem dE_give_36 : decode mE_give.1 36 = .ok (.ifCond .ne 6, 3) := by decide +kernel
theorem dE_give_39 : decode mE_give.1 39 = .ok (.bipush (-4), 2) := by decide +kernel
theorem dE_give_41 : decode mE_give.1 41 = .ok (.ireturn, 1) := by decide +kernel
theorem dE_give_42 : decode mE_give.1 42 = .ok (.aload_n 0, 1) := by decide +kernel
theorem dE_give_43 : decode mE_give.1 43 = .ok (.getfield 10, 3) := by decide +kernel
theorem dE_give_46 : decode mE_give.1 46 = .ok (.iload_n 1, 1) := by decide +kernel
theorem dE_give_47 : decode mE_give.1 47 = .ok (.iload_n 2, 1) := by decide +kernel
theorem dE_give_48 : decode mE_give.1 48 = .ok (.invokevirtual 154, 3) := by decide +kernel
theorem dE_give_51 : decode mE_give.1 51 = .ok (.ifCond .eq 7, 3) := by decide +kernel
theorem dE_give_54 : decode mE_give.1 54 = .ok (.iconst 2, 1) := by decide +kernel
theorem dE_give_55 : decode mE_give.1 55 = .ok (.goto 4, 3) := by decide +kernel
theorem dE_give_58 : decode mE_give.1 58 = .ok (.iconst 1, 1) := by decide +kernel
theorem dE_give_59 : decode mE_give.1 59 = .ok (.ireturn, 1) := by decide +kernel
set_option maxRecDepth 4000 in
theorem wE_give {E : Ev} {z : Int32 × St} (σ : St) (i1 : Int32) (i2 : Int32) (hX : fE_give σ i1 i2 = some z) : V E mE_give (FM E (some (.int z.1), z.2)) 0 [(0, .ref 0), (1, .int i1), (2, .int i2)] [] σ := by
  unfold fE_give at hX
  refine V.aloadn 0 dE_give_0 rfl rfl ?_
  refine V.getd 0 dE_give_1 flE_10 (rfl : kd 0 = (5, 0)) rfl ?_
  refine V.iloadn 1 dE_give_4 rfl rfl ?_
  obtain ⟨h1, hX⟩ := ob hX
  refine V.callvi (gR σ 0) [.int i1] dE_give_5 (kT_hasCoin (σ := σ) (gR σ 0) i1 h1) mlE_125 myT_hasCoin mnT_hasCoin ⟨rfl, rfl, by decide, by decide⟩ (tk0 h1) (by decide) rfl (Nat.le_of_ble_eq_true rfl) ⟨Nat.zero_le _, Nat.zero_le _⟩ rfl ?_
  refine V.ifeq 22 dE_give_8 rfl rfl (fun g2 => ?_) (fun g2 => ?_)
  · replace hX := ip hX g2
    refine V.iconst (-1 : Int32) dE_give_22 lcm1 rfl ?_
    have hX := (Option.some.inj hX).symm; subst hX; exact V.iret dE_give_23 rfl rfl
  · replace hX := im hX g2
    refine V.aloadn 0 dE_give_11 rfl rfl ?_
    refine V.getd 0 dE_give_12 flE_10 (rfl : kd 0 = (5, 0)) rfl ?_
    refine V.iloadn 2 dE_give_15 rfl rfl ?_
    obtain ⟨h3, hX⟩ := ob hX
    refine V.callvi (gR σ 0) [.int i2] dE_give_16 (kT_hasPerson (σ := σ) (gR σ 0) i2 h3) mlE_86 myT_hasPerson mnT_hasPerson ⟨rfl, rfl, by decide, by decide⟩ (tk0 h3) (by decide) rfl (Nat.le_of_ble_eq_true rfl) ⟨Nat.zero_le _, Nat.zero_le _⟩ rfl ?_
    refine V.ifne 24 dE_give_19 rfl rfl (fun g4 => ?_) (fun g4 => ?_)
    · replace hX := im hX g4
      refine V.aloadn 0 dE_give_24 rfl rfl ?_
      refine V.getd 0 dE_give_25 flE_10 (rfl : kd 0 = (5, 0)) rfl ?_
      refine V.iloadn 1 dE_give_28 rfl rfl ?_
      obtain ⟨h5, hX⟩ := ob hX
      obtain ⟨q6, c7, hX⟩ := bd hX; try dsimp only at hX
      refine V.callvi (gR σ 0) [.int i1] dE_give_29 (kT_takers h5 c7) mlE_143 myT_takers mnT_takers ⟨rfl, rfl, by decide, by decide⟩ (tk0 h5) (by decide) rfl (Nat.le_of_ble_eq_true rfl) ⟨Nat.zero_le _, Nat.zero_le _⟩ rfl ?_
      refine V.iloadn 2 dE_give_32 rfl rfl ?_
      refine V.callsi [.int q6, .int i2] dE_give_33 (kE_holds (σ := σ) q6 i2) mlE_151 myE_holds mnE_holds ⟨rfl, rfl, by decide, by decide⟩ rfl (Nat.le_of_ble_eq_true rfl) ⟨Nat.zero_le _, Nat.zero_le _⟩ rfl ?_
      refine V.ifne 42 dE_give_36 rfl rfl (fun g8 => ?_) (fun g8 => ?_)
      · replace hX := im hX g8
        refine V.aloadn 0 dE_give_42 rfl rfl ?_
        refine V.getd 0 dE_give_43 flE_10 (rfl : kd 0 = (5, 0)) rfl ?_
        refine V.iloadn 1 dE_give_46 rfl rfl ?_
        refine V.iloadn 2 dE_give_47 rfl rfl ?_
        obtain ⟨h9, hX⟩ := ob hX
        obtain ⟨q11, σ11, c10, hX⟩ := bi2 hX; try dsimp only at hX
        refine V.callvi (gR σ 0) [.int i1, .int i2] dE_give_48 (kT_hand h9 c10) mlE_154 myT_hand mnT_hand ⟨rfl, rfl, by decide, by decide⟩ (tk0 h9) (by decide) rfl (Nat.le_of_ble_eq_true rfl) ⟨Nat.zero_le _, Nat.zero_le _⟩ rfl ?_
        have JJ : V E mE_give (FM E (some (.int z.1), z.2)) 59 [(0, .ref 0), (1, .int i1), (2, .int i2)] [.int (if q11 = 0 then (1 : Int32) else (2 : Int32))] σ11 := by
          have hX := (Option.some.inj hX).symm; subst hX; exact V.iret dE_give_59 rfl rfl
        refine V.ifeq 58 dE_give_51 rfl rfl (fun g12 => ?_) (fun g12 => ?_)
        · refine V.iconst (1 : Int32) dE_give_58 lc1 rfl ?_
          exact V.top (if_pos g12).symm JJ
        · refine V.iconst (2 : Int32) dE_give_54 lc2 rfl ?_
          refine V.goto 59 dE_give_55 rfl ?_
          exact V.top (if_neg g12).symm JJ
      · replace hX := ip hX g8
        refine V.bipush (-4 : Int32) dE_give_39 lbm4 rfl ?_
        have hX := (Option.some.inj hX).symm; subst hX; exact V.iret dE_give_41 rfl rfl
    · replace hX := ip hX g4
      refine V.iconst (-1 : Int32) dE_give_22 lcm1 rfl ?_
      have hX := (Option.some.inj hX).symm; subst hX; exact V.iret dE_give_23 rfl rfl
theorem kE_give {E : Ev} {σ σ2 : St} {i1 : Int32} {i2 : Int32} {z : Int32} (h : fE_give σ i1 i2 = some (z, σ2)) : Ct mE_give E [.ref 0, .int i1, .int i2] σ (some (.int z), σ2) := Ct.of (by decide) (Nat.le_of_ble_eq_true rfl) (wE_give σ i1 i2 h)
theorem dT_draw_0 : decode mT_draw.1 0 = .ok (.iload_n 1, 1) := by decide +kernel
theorem dT_draw_1 : decode mT_draw.1 1 = .ok (.invokestatic 53, 3) := by decide +kernel
theorem dT_draw_4 : decode mT_draw.1 4 = .ok (.istore_n 2, 1) := by decide +kernel
theorem dT_draw_5 : decode mT_draw.1 5 = .ok (.iload_n 2, 1) := by decide +kernel
theorem dT_draw_6 : decode mT_draw.1 6 = .ok (.ifCond .ne 6, 3) := by decide +kernel
theorem dT_draw_9 : decode mT_draw.1 9 = .ok (.bipush (-3), 2) := by decide +kernel
theorem dT_draw_11 : decode mT_draw.1 11 = .ok (.ireturn, 1) := by decide +kernel
theorem dT_draw_12 : decode mT_draw.1 12 = .ok (.aload_n 0, 1) := by decide +kernel
theorem dT_draw_13 : decode mT_draw.1 13 = .ok (.aload_n 0, 1) := by decide +kernel
theorem dT_draw_14 : decode mT_draw.1 14 = .ok (.getfield 18, 3) := by decide +kernel
theorem dT_draw_17 : decode mT_draw.1 17 = .ok (.ldc 83, 2) := by decide +kernel
theorem dT_draw_19 : decode mT_draw.1 19 = .ok (.imul, 1) := by decide +kernel
theorem dT_draw_20 : decode mT_draw.1 20 = .ok (.sipush 12345, 3) := by decide +kernel
theorem dT_draw_23 : decode mT_draw.1 23 = .ok (.iadd, 1) := by decide +kernel
theorem dT_draw_24 : decode mT_draw.1 24 = .ok (.putfield 18, 3) := by decide +kernel
theorem dT_draw_27 : decode mT_draw.1 27 = .ok (.aload_n 0, 1) := by decide +kernel
theorem dT_draw_28 : decode mT_draw.1 28 = .ok (.getfield 18, 3) := by decide +kernel
theorem dT_draw_31 : decode mT_draw.1 31 = .ok (.bipush 16, 2) := by decide +kernel
theorem dT_draw_33 : decode mT_draw.1 33 = .ok (.iushr, 1) := by decide +kernel
theorem dT_draw_34 : decode mT_draw.1 34 = .ok (.iload_n 2, 1) := by decide +kernel
theorem dT_draw_35 : decode mT_draw.1 35 = .ok (.irem, 1) := by decide +kernel
theorem dT_draw_36 : decode mT_draw.1 36 = .ok (.istore_n 3, 1) := by decide +kernel
theorem dT_draw_37 : decode mT_draw.1 37 = .ok (.iconst 0, 1) := by decide +kernel
theorem dT_draw_38 : decode mT_draw.1 38 = .ok (.istore 4, 2) := by decide +kernel
theorem dT_draw_40 : decode mT_draw.1 40 = .ok (.iload 4, 2) := by decide +kernel
theorem dT_draw_42 : decode mT_draw.1 42 = .ok (.aload_n 0, 1) := by decide +kernel
theorem dT_draw_43 : decode mT_draw.1 43 = .ok (.getfield 9, 3) := by decide +kernel
theorem dT_draw_46 : decode mT_draw.1 46 = .ok (.if_icmp .ge 28, 3) := by decide +kernel
theorem dT_draw_49 : decode mT_draw.1 49 = .ok (.iload_n 1, 1) := by decide +kernel
theorem dT_draw_50 : decode mT_draw.1 50 = .ok (.iload 4, 2) := by decide +kernel
theorem dT_draw_52 : decode mT_draw.1 52 = .ok (.invokestatic 49, 3) := by decide +kernel
theorem dT_draw_55 : decode mT_draw.1 55 = .ok (.ifCond .eq 13, 3) := by decide +kernel
theorem dT_draw_58 : decode mT_draw.1 58 = .ok (.iload_n 3, 1) := by decide +kernel
theorem dT_draw_59 : decode mT_draw.1 59 = .ok (.ifCond .ne 6, 3) := by decide +kernel
theorem dT_draw_62 : decode mT_draw.1 62 = .ok (.iload 4, 2) := by decide +kernel
theorem dT_draw_64 : decode mT_draw.1 64 = .ok (.ireturn, 1) := by decide +kernel
theorem dT_draw_65 : decode mT_draw.1 65 = .ok (.iinc 3 (-1), 3) := by decide +kernel
theorem dT_draw_68 : decode mT_draw.1 68 = .ok (.iinc 4 1, 3) := by decide +kernel
theorem dT_draw_71 : decode mT_draw.1 71 = .ok (.goto (-31), 3) := by decide +kernel
theorem dT_draw_74 : decode mT_draw.1 74 = .ok (.bipush (-3), 2) := by decide +kernel
theorem dT_draw_76 : decode mT_draw.1 76 = .ok (.ireturn, 1) := by decide +kernel
set_option maxRecDepth 4000 in
theorem wT_draw_40 {E : Ev} {z : Int32 × St} : ∀ (fu : Nat) (σ : St) (r0 : Nat) (i1 : Int32) (i3 : Int32) (i4 : Int32) (ht_r0 : isTb r0 = true), fT_draw_40 fu σ r0 i1 i3 i4 = some z → V E mT_draw (FM E (some (.int z.1), z.2)) 40 [(0, .ref r0), (1, .int i1), (3, .int i3), (4, .int i4)] [] σ := by
  intro fu
  induction fu with
  | zero => intro σ r0 i1 i3 i4 ht_r0 hX; cases hX
  | succ fu ih =>
    intro σ r0 i1 i3 i4 ht_r0 hX
    rw [fT_draw_40] at hX
    refine V.iload 3 dT_draw_40 rfl rfl ?_
    refine V.aloadn 0 dT_draw_42 rfl rfl ?_
    refine V.geti r0 dT_draw_43 flT_9 (tk0 ht_r0) rfl ?_
    refine V.icmpge 74 dT_draw_46 rfl rfl (fun g6 => ?_) (fun g6 => ?_)
    · replace hX := ip hX g6
      refine V.bipush (-3 : Int32) dT_draw_74 lbm3 rfl ?_
      have hX := (Option.some.inj hX).symm; subst hX; exact V.iret dT_draw_76 rfl rfl
    · replace hX := im hX g6
      refine V.iloadn 1 dT_draw_49 rfl rfl ?_
      refine V.iload 3 dT_draw_50 rfl rfl ?_
      refine V.callNi [.int i1, .int i4] dT_draw_52 (kE_holds (σ := σ) i1 i4) (fun U h => h.2.2.2.2.2.2.2.2.1) myE_holds mnE_holds ⟨rfl, rfl, by decide, by decide⟩ rfl (Nat.le_of_ble_eq_true rfl) ⟨Nat.zero_le _, Nat.zero_le _⟩ rfl ?_
      refine V.ifeq 68 dT_draw_55 rfl rfl (fun g7 => ?_) (fun g7 => ?_)
      · replace hX := ip hX g7
        refine V.iinc 3 (1 : Int32) _ dT_draw_68 rfl lc1 (by decide) rfl rfl ?_
        replace hX := nmx hX; generalize i4 + (1 : Int32) = v8 at hX ⊢; try dsimp only at hX
        refine V.goto 40 dT_draw_71 rfl ?_
        refine V.sub [1, 2, 3, 0] rfl ?_
        exact ih σ r0 i1 i3 v8 ht_r0 hX
      · replace hX := im hX g7
        refine V.iloadn 2 dT_draw_58 rfl rfl ?_
        refine V.ifne 65 dT_draw_59 rfl rfl (fun g9 => ?_) (fun g9 => ?_)
        · replace hX := im hX g9
          refine V.iinc 2 (-1 : Int32) _ dT_draw_65 rfl lcm1 (by decide) rfl rfl ?_
          replace hX := nmx hX; generalize i3 + (-1 : Int32) = v10 at hX ⊢; try dsimp only at hX
          refine V.iinc 3 (1 : Int32) _ dT_draw_68 rfl lc1 (by decide) rfl rfl ?_
          replace hX := nmx hX; generalize i4 + (1 : Int32) = v11 at hX ⊢; try dsimp only at hX
          refine V.goto 40 dT_draw_71 rfl ?_
          refine V.sub [2, 3, 1, 0] rfl ?_
          exact ih σ r0 i1 v10 v11 ht_r0 hX
        · replace hX := ip hX g9
          refine V.iload 3 dT_draw_62 rfl rfl ?_
          have hX := (Option.some.inj hX).symm; subst hX; exact V.iret dT_draw_64 rfl rfl
set_option maxRecDepth 4000 in
theorem wT_draw {E : Ev} {z : Int32 × St} (σ : St) (r0 : Nat) (i1 : Int32) (ht_r0 : isTb r0 = true) (hX : fT_draw σ r0 i1 = some z) : V E mT_draw (FM E (some (.int z.1), z.2)) 0 [(0, .ref r0), (1, .int i1)] [] σ := by
  unfold fT_draw at hX
  refine V.iloadn 1 dT_draw_0 rfl rfl ?_
  refine V.callsi [.int i1] dT_draw_1 (kJI_bitCount (σ := σ) i1) mlT_53 myJI_bitCount mnJI_bitCount ⟨rfl, rfl, by decide, by decide⟩ rfl (Nat.le_of_ble_eq_true rfl) ⟨Nat.zero_le _, Nat.zero_le _⟩ rfl ?_
  refine V.istoren _ dT_draw_4 (by decide) rfl rfl ?_
  replace hX := nmx hX; generalize fJI_bitCount i1 = v1 at hX ⊢; try dsimp only at hX
  refine V.iloadn 0 dT_draw_5 rfl rfl ?_
  refine V.ifne 12 dT_draw_6 rfl rfl (fun g2 => ?_) (fun g2 => ?_)
  · replace hX := im hX g2
    refine V.aloadn 1 dT_draw_12 rfl rfl ?_
    refine V.aloadn 1 dT_draw_13 rfl rfl ?_
    refine V.geti r0 dT_draw_14 flT_18 (tk0 ht_r0) rfl ?_
    refine V.ldc (1103515245 : Int32) dT_draw_17 cT_83 rfl ?_
    refine V.imul dT_draw_19 rfl ?_
    refine V.sipush (12345 : Int32) dT_draw_20 ls12345 rfl ?_
    refine V.iadd dT_draw_23 rfl ?_
    refine V.puti r0 .int dT_draw_24 flT_18 fw2_2 (tk0 ht_r0) ⟨rfl, rfl⟩ rfl ?_
    replace hX := nmx hX; generalize sI σ r0 2 (((gI σ r0 2) * (1103515245 : Int32)) + (12345 : Int32)) = σ3 at hX ⊢; try dsimp only at hX
    refine V.aloadn 1 dT_draw_27 rfl rfl ?_
    refine V.geti r0 dT_draw_28 flT_18 (tk0 ht_r0) rfl ?_
    refine V.bipush (16 : Int32) dT_draw_31 lb16 rfl ?_
    refine V.iushr dT_draw_33 rfl ?_
    refine V.iloadn 0 dT_draw_34 rfl rfl ?_
    obtain ⟨h4, hX⟩ := ob hX
    refine V.irem dT_draw_35 h4 rfl ?_
    refine V.istoren _ dT_draw_36 (by decide) rfl rfl ?_
    replace hX := nmx hX; generalize (ush (gI σ3 r0 2) (16 : Int32)) - (ush (gI σ3 r0 2) (16 : Int32)) / v1 * v1 = v5 at hX ⊢; try dsimp only at hX
    refine V.iconst (0 : Int32) dT_draw_37 lc0 rfl ?_
    refine V.istore _ dT_draw_38 (by decide) rfl rfl ?_
    refine V.sub [3, 4, 1, 0] rfl ?_
    exact wT_draw_40 300 σ3 r0 i1 v5 (0 : Int32) ht_r0 hX
  · replace hX := ip hX g2
    refine V.bipush (-3 : Int32) dT_draw_9 lbm3 rfl ?_
    have hX := (Option.some.inj hX).symm; subst hX; exact V.iret dT_draw_11 rfl rfl
theorem kT_draw {E : Ev} {σ σ2 : St} {r0 : Nat} {i1 : Int32} {z : Int32} (ht_r0 : isTb r0 = true) (h : fT_draw σ r0 i1 = some (z, σ2)) : Ct mT_draw E [.ref r0, .int i1] σ (some (.int z), σ2) := Ct.of (by decide) (Nat.le_of_ble_eq_true rfl) (wT_draw σ r0 i1 ht_r0 h)
theorem dE_lot_0 : decode mE_lot.1 0 = .ok (.aload_n 0, 1) := by decide +kernel
theorem dE_lot_1 : decode mE_lot.1 1 = .ok (.getfield 10, 3) := by decide +kernel
theorem dE_lot_4 : decode mE_lot.1 4 = .ok (.iload_n 1, 1) := by decide +kernel
theorem dE_lot_5 : decode mE_lot.1 5 = .ok (.invokevirtual 125, 3) := by decide +kernel
theorem dE_lot_8 : decode mE_lot.1 8 = .ok (.ifCond .ne 5, 3) := by decide +kernel
theorem dE_lot_11 : decode mE_lot.1 11 = .ok (.iconst (-1), 1) := by decide +kernel
theorem dE_lot_12 : decode mE_lot.1 12 = .ok (.ireturn, 1) := by decide +kernel
theorem dE_lot_13 : decode mE_lot.1 13 = .ok (.aload_n 0, 1) := by decide +kernel
theorem dE_lot_14 : decode mE_lot.1 14 = .ok (.getfield 10, 3) := by decide +kernel
theorem dE_lot_17 : decode mE_lot.1 17 = .ok (.iload_n 1, 1) := by decide +kernel
theorem dE_lot_18 : decode mE_lot.1 18 = .ok (.invokevirtual 143, 3) := by decide +kernel
theorem dE_lot_21 : decode mE_lot.1 21 = .ok (.istore_n 2, 1) := by decide +kernel
theorem dE_lot_22 : decode mE_lot.1 22 = .ok (.iload_n 2, 1) := by decide +kernel
theorem dE_lot_23 : decode mE_lot.1 23 = .ok (.ifCond .ne 6, 3) := by decide +kernel
theorem dE_lot_26 : decode mE_lot.1 26 = .ok (.bipush (-3), 2) := by decide +kernel
theorem dE_lot_28 : decode mE_lot.1 28 = .ok (.ireturn, 1) := by decide +kernel
theorem dE_lot_29 : decode mE_lot.1 29 = .ok (.aload_n 0, 1) := by decide +kernel
theorem dE_lot_30 : decode mE_lot.1 30 = .ok (.getfield 10, 3) := by decide +kernel
theorem dE_lot_33 : decode mE_lot.1 33 = .ok (.iload_n 2, 1) := by decide +kernel
theorem dE_lot_34 : decode mE_lot.1 34 = .ok (.invokevirtual 157, 3) := by decide +kernel
theorem dE_lot_37 : decode mE_lot.1 37 = .ok (.istore_n 3, 1) := by decide +kernel
theorem dE_lot_38 : decode mE_lot.1 38 = .ok (.aload_n 0, 1) := by decide +kernel
theorem dE_lot_39 : decode mE_lot.1 39 = .ok (.getfield 10, 3) := by decide +kernel
theorem dE_lot_42 : decode mE_lot.1 42 = .ok (.iload_n 1, 1) := by decide +kernel
theorem dE_lot_43 : decode mE_lot.1 43 = .ok (.iload_n 3, 1) := by decide +kernel
theorem dE_lot_44 : decode mE_lot.1 44 = .ok (.invokevirtual 154, 3) := by decide +kernel
theorem dE_lot_47 : decode mE_lot.1 47 = .ok (.ifCond .eq 10, 3) := by decide +kernel
theorem dE_lot_50 : decode mE_lot.1 50 = .ok (.iload_n 3, 1) := by decide +kernel
theorem dE_lot_51 : decode mE_lot.1 51 = .ok (.bipush 10, 2) := by decide +kernel
theorem dE_lot_53 : decode mE_lot.1 53 = .ok (.iadd, 1) := by decide +kernel
theorem dE_lot_54 : decode mE_lot.1 54 = .ok (.goto 4, 3) := by decide +kernel
theorem dE_lot_57 : decode mE_lot.1 57 = .ok (.iload_n 3, 1) := by decide +kernel
theorem dE_lot_58 : decode mE_lot.1 58 = .ok (.ireturn, 1) := by decide +kernel
set_option maxRecDepth 4000 in
theorem wE_lot {E : Ev} {z : Int32 × St} (σ : St) (i1 : Int32) (hX : fE_lot σ i1 = some z) : V E mE_lot (FM E (some (.int z.1), z.2)) 0 [(0, .ref 0), (1, .int i1)] [] σ := by
  unfold fE_lot at hX
  refine V.aloadn 0 dE_lot_0 rfl rfl ?_
  refine V.getd 0 dE_lot_1 flE_10 (rfl : kd 0 = (5, 0)) rfl ?_
  refine V.iloadn 1 dE_lot_4 rfl rfl ?_
  obtain ⟨h1, hX⟩ := ob hX
  refine V.callvi (gR σ 0) [.int i1] dE_lot_5 (kT_hasCoin (σ := σ) (gR σ 0) i1 h1) mlE_125 myT_hasCoin mnT_hasCoin ⟨rfl, rfl, by decide, by decide⟩ (tk0 h1) (by decide) rfl (Nat.le_of_ble_eq_true rfl) ⟨Nat.zero_le _, Nat.zero_le _⟩ rfl ?_
  refine V.ifne 13 dE_lot_8 rfl rfl (fun g2 => ?_) (fun g2 => ?_)
  · replace hX := im hX g2
    refine V.aloadn 0 dE_lot_13 rfl rfl ?_
    refine V.getd 0 dE_lot_14 flE_10 (rfl : kd 0 = (5, 0)) rfl ?_
    refine V.iloadn 1 dE_lot_17 rfl rfl ?_
    obtain ⟨h3, hX⟩ := ob hX
    obtain ⟨q4, c5, hX⟩ := bd hX; try dsimp only at hX
    refine V.callvi (gR σ 0) [.int i1] dE_lot_18 (kT_takers h3 c5) mlE_143 myT_takers mnT_takers ⟨rfl, rfl, by decide, by decide⟩ (tk0 h3) (by decide) rfl (Nat.le_of_ble_eq_true rfl) ⟨Nat.zero_le _, Nat.zero_le _⟩ rfl ?_
    refine V.istoren _ dE_lot_21 (by decide) rfl rfl ?_
    refine V.iloadn 0 dE_lot_22 rfl rfl ?_
    refine V.ifne 29 dE_lot_23 rfl rfl (fun g6 => ?_) (fun g6 => ?_)
    · replace hX := im hX g6
      refine V.aloadn 1 dE_lot_29 rfl rfl ?_
      refine V.getd 0 dE_lot_30 flE_10 (rfl : kd 0 = (5, 0)) rfl ?_
      refine V.iloadn 0 dE_lot_33 rfl rfl ?_
      obtain ⟨h7, hX⟩ := ob hX
      obtain ⟨q9, σ9, c8, hX⟩ := bi2 hX; try dsimp only at hX
      refine V.callvi (gR σ 0) [.int q4] dE_lot_34 (kT_draw h7 c8) mlE_157 myT_draw mnT_draw ⟨rfl, rfl, by decide, by decide⟩ (tk0 h7) (by decide) rfl (Nat.le_of_ble_eq_true rfl) ⟨Nat.zero_le _, Nat.zero_le _⟩ rfl ?_
      refine V.istoren _ dE_lot_37 (by decide) rfl rfl ?_
      refine V.aloadn 2 dE_lot_38 rfl rfl ?_
      refine V.getd 0 dE_lot_39 flE_10 (rfl : kd 0 = (5, 0)) rfl ?_
      refine V.iloadn 3 dE_lot_42 rfl rfl ?_
      refine V.iloadn 0 dE_lot_43 rfl rfl ?_
      obtain ⟨h10, hX⟩ := ob hX
      obtain ⟨q12, σ12, c11, hX⟩ := bi2 hX; try dsimp only at hX
      refine V.callvi (gR σ9 0) [.int i1, .int q9] dE_lot_44 (kT_hand h10 c11) mlE_154 myT_hand mnT_hand ⟨rfl, rfl, by decide, by decide⟩ (tk0 h10) (by decide) rfl (Nat.le_of_ble_eq_true rfl) ⟨Nat.zero_le _, Nat.zero_le _⟩ rfl ?_
      have JJ : V E mE_lot (FM E (some (.int z.1), z.2)) 58 [(3, .int q9), (2, .int q4), (0, .ref 0), (1, .int i1)] [.int (if q12 = 0 then q9 else q9 + (10 : Int32))] σ12 := by
        have hX := (Option.some.inj hX).symm; subst hX; exact V.iret dE_lot_58 rfl rfl
      refine V.ifeq 57 dE_lot_47 rfl rfl (fun g13 => ?_) (fun g13 => ?_)
      · refine V.iloadn 0 dE_lot_57 rfl rfl ?_
        exact V.top (if_pos g13).symm JJ
      · refine V.iloadn 0 dE_lot_50 rfl rfl ?_
        refine V.bipush (10 : Int32) dE_lot_51 lb10 rfl ?_
        refine V.iadd dE_lot_53 rfl ?_
        refine V.goto 58 dE_lot_54 rfl ?_
        exact V.top (if_neg g13).symm JJ
    · replace hX := ip hX g6
      refine V.bipush (-3 : Int32) dE_lot_26 lbm3 rfl ?_
      have hX := (Option.some.inj hX).symm; subst hX; exact V.iret dE_lot_28 rfl rfl
  · replace hX := ip hX g2
    refine V.iconst (-1 : Int32) dE_lot_11 lcm1 rfl ?_
    have hX := (Option.some.inj hX).symm; subst hX; exact V.iret dE_lot_12 rfl rfl
theorem kE_lot {E : Ev} {σ σ2 : St} {i1 : Int32} {z : Int32} (h : fE_lot σ i1 = some (z, σ2)) : Ct mE_lot E [.ref 0, .int i1] σ (some (.int z), σ2) := Ct.of (by decide) (Nat.le_of_ble_eq_true rfl) (wE_lot σ i1 h)
theorem dE_leastCoinToGive_0 : decode mE_leastCoinToGive.1 0 = .ok (.iconst 0, 1) := by decide +kernel
theorem dE_leastCoinToGive_1 : decode mE_leastCoinToGive.1 1 = .ok (.istore_n 1, 1) := by decide +kernel
theorem dE_leastCoinToGive_2 : decode mE_leastCoinToGive.1 2 = .ok (.iload_n 1, 1) := by decide +kernel
theorem dE_leastCoinToGive_3 : decode mE_leastCoinToGive.1 3 = .ok (.aload_n 0, 1) := by decide +kernel
theorem dE_leastCoinToGive_4 : decode mE_leastCoinToGive.1 4 = .ok (.getfield 10, 3) := by decide +kernel
theorem dE_leastCoinToGive_7 : decode mE_leastCoinToGive.1 7 = .ok (.getfield 118, 3) := by decide +kernel
theorem dE_leastCoinToGive_10 : decode mE_leastCoinToGive.1 10 = .ok (.if_icmp .ge 22, 3) := by decide +kernel
theorem dE_leastCoinToGive_13 : decode mE_leastCoinToGive.1 13 = .ok (.aload_n 0, 1) := by decide +kernel
theorem dE_leastCoinToGive_14 : decode mE_leastCoinToGive.1 14 = .ok (.getfield 10, 3) := by decide +kernel
theorem dE_leastCoinToGive_17 : decode mE_leastCoinToGive.1 17 = .ok (.iload_n 1, 1) := by decide +kernel
theorem dE_leastCoinToGive_18 : decode mE_leastCoinToGive.1 18 = .ok (.invokevirtual 143, 3) := by decide +kernel
theorem dE_leastCoinToGive_21 : decode mE_leastCoinToGive.1 21 = .ok (.ifCond .eq 5, 3) := by decide +kernel
theorem dE_leastCoinToGive_24 : decode mE_leastCoinToGive.1 24 = .ok (.iload_n 1, 1) := by decide +kernel
theorem dE_leastCoinToGive_25 : decode mE_leastCoinToGive.1 25 = .ok (.ireturn, 1) := by decide +kernel
theorem dE_leastCoinToGive_26 : decode mE_leastCoinToGive.1 26 = .ok (.iinc 1 1, 3) := by decide +kernel
theorem dE_leastCoinToGive_29 : decode mE_leastCoinToGive.1 29 = .ok (.goto (-27), 3) := by decide +kernel
theorem dE_leastCoinToGive_32 : decode mE_leastCoinToGive.1 32 = .ok (.bipush (-3), 2) := by decide +kernel
theorem dE_leastCoinToGive_34 : decode mE_leastCoinToGive.1 34 = .ok (.ireturn, 1) := by decide +kernel
set_option maxRecDepth 4000 in
theorem wE_leastCoinToGive_2 {E : Ev} {z : Int32} : ∀ (fu : Nat) (σ : St) (i1 : Int32), fE_leastCoinToGive_2 fu σ i1 = some z → V E mE_leastCoinToGive (FM E (some (.int z), σ)) 2 [(0, .ref 0), (1, .int i1)] [] σ := by
  intro fu
  induction fu with
  | zero => intro σ i1 hX; cases hX
  | succ fu ih =>
    intro σ i1 hX
    rw [fE_leastCoinToGive_2] at hX
    refine V.iloadn 1 dE_leastCoinToGive_2 rfl rfl ?_
    refine V.aloadn 0 dE_leastCoinToGive_3 rfl rfl ?_
    refine V.getd 0 dE_leastCoinToGive_4 flE_10 (rfl : kd 0 = (5, 0)) rfl ?_
    obtain ⟨h1, hX⟩ := ob hX
    refine V.geti (gR σ 0) dE_leastCoinToGive_7 flE_118 (tk0 h1) rfl ?_
    refine V.icmpge 32 dE_leastCoinToGive_10 rfl rfl (fun g2 => ?_) (fun g2 => ?_)
    · replace hX := ip hX g2
      refine V.bipush (-3 : Int32) dE_leastCoinToGive_32 lbm3 rfl ?_
      have hX := (Option.some.inj hX).symm; subst hX; exact V.iret dE_leastCoinToGive_34 rfl rfl
    · replace hX := im hX g2
      refine V.aloadn 0 dE_leastCoinToGive_13 rfl rfl ?_
      refine V.getd 0 dE_leastCoinToGive_14 flE_10 (rfl : kd 0 = (5, 0)) rfl ?_
      refine V.iloadn 1 dE_leastCoinToGive_17 rfl rfl ?_
      obtain ⟨h3, hX⟩ := ob hX
      obtain ⟨q4, c5, hX⟩ := bd hX; try dsimp only at hX
      refine V.callvi (gR σ 0) [.int i1] dE_leastCoinToGive_18 (kT_takers h3 c5) mlE_143 myT_takers mnT_takers ⟨rfl, rfl, by decide, by decide⟩ (tk0 h3) (by decide) rfl (Nat.le_of_ble_eq_true rfl) ⟨Nat.zero_le _, Nat.zero_le _⟩ rfl ?_
      refine V.ifeq 26 dE_leastCoinToGive_21 rfl rfl (fun g6 => ?_) (fun g6 => ?_)
      · replace hX := ip hX g6
        refine V.iinc 1 (1 : Int32) _ dE_leastCoinToGive_26 rfl lc1 (by decide) rfl rfl ?_
        replace hX := nmx hX; generalize i1 + (1 : Int32) = v7 at hX ⊢; try dsimp only at hX
        refine V.goto 2 dE_leastCoinToGive_29 rfl ?_
        refine V.sub [1, 0] rfl ?_
        exact ih σ v7 hX
      · replace hX := im hX g6
        refine V.iloadn 1 dE_leastCoinToGive_24 rfl rfl ?_
        have hX := (Option.some.inj hX).symm; subst hX; exact V.iret dE_leastCoinToGive_25 rfl rfl
set_option maxRecDepth 4000 in
theorem wE_leastCoinToGive {E : Ev} {z : Int32} (σ : St) (hX : fE_leastCoinToGive σ = some z) : V E mE_leastCoinToGive (FM E (some (.int z), σ)) 0 [(0, .ref 0)] [] σ := by
  unfold fE_leastCoinToGive at hX
  refine V.iconst (0 : Int32) dE_leastCoinToGive_0 lc0 rfl ?_
  refine V.istoren _ dE_leastCoinToGive_1 (by decide) rfl rfl ?_
  refine V.sub [1, 0] rfl ?_
  exact wE_leastCoinToGive_2 300 σ (0 : Int32) hX
theorem kE_leastCoinToGive {E : Ev} {σ : St} {z : Int32} (h : fE_leastCoinToGive σ = some z) : Ct mE_leastCoinToGive E [.ref 0] σ (some (.int z), σ) := Ct.of (by decide) (Nat.le_of_ble_eq_true rfl) (wE_leastCoinToGive σ h)
theorem dE_lots_0 : decode mE_lots.1 0 = .ok (.iload_n 1, 1) := by decide +kernel
theorem dE_lots_1 : decode mE_lots.1 1 = .ok (.ifCond .lt 9, 3) := by decide +kernel
theorem dE_lots_4 : decode mE_lots.1 4 = .ok (.iload_n 1, 1) := by decide +kernel
theorem dE_lots_5 : decode mE_lots.1 5 = .ok (.bipush 20, 2) := by decide +kernel
theorem dE_lots_7 : decode mE_lots.1 7 = .ok (.if_icmp .le 5, 3) := by decide +kernel
theorem dE_lots_10 : decode mE_lots.1 10 = .ok (.iconst (-1), 1) := by decide +kernel
theorem dE_lots_11 : decode mE_lots.1 11 = .ok (.ireturn, 1) := by decide +kernel
theorem dE_lots_12 : decode mE_lots.1 12 = .ok (.iconst 0, 1) := by decide +kernel
theorem dE_lots_13 : decode mE_lots.1 13 = .ok (.istore_n 2, 1) := by decide +kernel
theorem dE_lots_14 : decode mE_lots.1 14 = .ok (.iload_n 2, 1) := by decide +kernel
theorem dE_lots_15 : decode mE_lots.1 15 = .ok (.iload_n 1, 1) := by decide +kernel
theorem dE_lots_16 : decode mE_lots.1 16 = .ok (.if_icmp .ge 44, 3) := by decide +kernel
theorem dE_lots_19 : decode mE_lots.1 19 = .ok (.aload_n 0, 1) := by decide +kernel
theorem dE_lots_20 : decode mE_lots.1 20 = .ok (.invokevirtual 160, 3) := by decide +kernel
theorem dE_lots_23 : decode mE_lots.1 23 = .ok (.istore_n 3, 1) := by decide +kernel
theorem dE_lots_24 : decode mE_lots.1 24 = .ok (.iload_n 3, 1) := by decide +kernel
theorem dE_lots_25 : decode mE_lots.1 25 = .ok (.ifCond .ge 5, 3) := by decide +kernel
theorem dE_lots_28 : decode mE_lots.1 28 = .ok (.iload_n 2, 1) := by decide +kernel
theorem dE_lots_29 : decode mE_lots.1 29 = .ok (.ireturn, 1) := by decide +kernel
theorem dE_lots_30 : decode mE_lots.1 30 = .ok (.aload_n 0, 1) := by decide +kernel
theorem dE_lots_31 : decode mE_lots.1 31 = .ok (.getfield 10, 3) := by decide +kernel
theorem dE_lots_34 : decode mE_lots.1 34 = .ok (.iload_n 3, 1) := by decide +kernel
theorem dE_lots_35 : decode mE_lots.1 35 = .ok (.aload_n 0, 1) := by decide +kernel
theorem dE_lots_36 : decode mE_lots.1 36 = .ok (.getfield 10, 3) := by decide +kernel
theorem dE_lots_39 : decode mE_lots.1 39 = .ok (.aload_n 0, 1) := by decide +kernel
theorem dE_lots_40 : decode mE_lots.1 40 = .ok (.getfield 10, 3) := by decide +kernel
theorem dE_lots_43 : decode mE_lots.1 43 = .ok (.iload_n 3, 1) := by decide +kernel
theorem dE_lots_44 : decode mE_lots.1 44 = .ok (.invokevirtual 143, 3) := by decide +kernel
theorem dE_lots_47 : decode mE_lots.1 47 = .ok (.invokevirtual 157, 3) := by decide +kernel
theorem dE_lots_50 : decode mE_lots.1 50 = .ok (.invokevirtual 154, 3) := by decide +kernel
theorem dE_lots_53 : decode mE_lots.1 53 = .ok (.pop, 1) := by decide +kernel
theorem dE_lots_54 : decode mE_lots.1 54 = .ok (.iinc 2 1, 3) := by decide +kernel
theorem dE_lots_57 : decode mE_lots.1 57 = .ok (.goto (-43), 3) := by decide +kernel
theorem dE_lots_60 : decode mE_lots.1 60 = .ok (.iload_n 1, 1) := by decide +kernel
theorem dE_lots_61 : decode mE_lots.1 61 = .ok (.ireturn, 1) := by decide +kernel
set_option maxRecDepth 4000 in
theorem wE_lots_14 {E : Ev} {z : Int32 × St} : ∀ (fu : Nat) (σ : St) (i1 : Int32) (i2 : Int32), fE_lots_14 fu σ i1 i2 = some z → V E mE_lots (FM E (some (.int z.1), z.2)) 14 [(0, .ref 0), (1, .int i1), (2, .int i2)] [] σ := by
  intro fu
  induction fu with
  | zero => intro σ i1 i2 hX; cases hX
  | succ fu ih =>
    intro σ i1 i2 hX
    rw [fE_lots_14] at hX
    refine V.iloadn 2 dE_lots_14 rfl rfl ?_
    refine V.iloadn 1 dE_lots_15 rfl rfl ?_
    refine V.icmpge 60 dE_lots_16 rfl rfl (fun g3 => ?_) (fun g3 => ?_)
    · replace hX := ip hX g3
      refine V.iloadn 1 dE_lots_60 rfl rfl ?_
      have hX := (Option.some.inj hX).symm; subst hX; exact V.iret dE_lots_61 rfl rfl
    · replace hX := im hX g3
      refine V.aloadn 0 dE_lots_19 rfl rfl ?_
      obtain ⟨q4, c5, hX⟩ := bd hX; try dsimp only at hX
      refine V.callvi 0 [] dE_lots_20 (kE_leastCoinToGive c5) mlE_160 myE_leastCoinToGive mnE_leastCoinToGive ⟨rfl, rfl, by decide, by decide⟩ (rfl : kd 0 = (5, 0)) (by decide) rfl (Nat.le_of_ble_eq_true rfl) ⟨Nat.zero_le _, Nat.zero_le _⟩ rfl ?_
      refine V.istoren _ dE_lots_23 (by decide) rfl rfl ?_
      refine V.iloadn 0 dE_lots_24 rfl rfl ?_
      refine V.ifge 30 dE_lots_25 rfl rfl (fun g6 => ?_) (fun g6 => ?_)
      · replace hX := ip hX g6
        refine V.aloadn 1 dE_lots_30 rfl rfl ?_
        refine V.getd 0 dE_lots_31 flE_10 (rfl : kd 0 = (5, 0)) rfl ?_
        refine V.iloadn 0 dE_lots_34 rfl rfl ?_
        refine V.aloadn 1 dE_lots_35 rfl rfl ?_
        refine V.getd 0 dE_lots_36 flE_10 (rfl : kd 0 = (5, 0)) rfl ?_
        refine V.aloadn 1 dE_lots_39 rfl rfl ?_
        refine V.getd 0 dE_lots_40 flE_10 (rfl : kd 0 = (5, 0)) rfl ?_
        refine V.iloadn 0 dE_lots_43 rfl rfl ?_
        obtain ⟨h7, hX⟩ := ob hX
        obtain ⟨q8, c9, hX⟩ := bd hX; try dsimp only at hX
        refine V.callvi (gR σ 0) [.int q4] dE_lots_44 (kT_takers h7 c9) mlE_143 myT_takers mnT_takers ⟨rfl, rfl, by decide, by decide⟩ (tk0 h7) (by decide) rfl (Nat.le_of_ble_eq_true rfl) ⟨Nat.zero_le _, Nat.zero_le _⟩ rfl ?_
        obtain ⟨h10, hX⟩ := ob hX
        obtain ⟨q12, σ12, c11, hX⟩ := bi2 hX; try dsimp only at hX
        refine V.callvi (gR σ 0) [.int q8] dE_lots_47 (kT_draw h10 c11) mlE_157 myT_draw mnT_draw ⟨rfl, rfl, by decide, by decide⟩ (tk0 h10) (by decide) rfl (Nat.le_of_ble_eq_true rfl) ⟨Nat.zero_le _, Nat.zero_le _⟩ rfl ?_
        obtain ⟨h13, hX⟩ := ob hX
        obtain ⟨q15, σ15, c14, hX⟩ := bi2 hX; try dsimp only at hX
        refine V.callvi (gR σ 0) [.int q4, .int q12] dE_lots_50 (kT_hand h13 c14) mlE_154 myT_hand mnT_hand ⟨rfl, rfl, by decide, by decide⟩ (tk0 h13) (by decide) rfl (Nat.le_of_ble_eq_true rfl) ⟨Nat.zero_le _, Nat.zero_le _⟩ rfl ?_
        refine V.pop dE_lots_53 rfl rfl ?_
        refine V.iinc 3 (1 : Int32) _ dE_lots_54 rfl lc1 (by decide) rfl rfl ?_
        replace hX := nmx hX; generalize i2 + (1 : Int32) = v16 at hX ⊢; try dsimp only at hX
        refine V.goto 14 dE_lots_57 rfl ?_
        refine V.sub [2, 3, 0] rfl ?_
        exact ih σ15 i1 v16 hX
      · replace hX := im hX g6
        refine V.iloadn 3 dE_lots_28 rfl rfl ?_
        have hX := (Option.some.inj hX).symm; subst hX; exact V.iret dE_lots_29 rfl rfl
set_option maxRecDepth 4000 in
theorem wE_lots {E : Ev} {z : Int32 × St} (σ : St) (i1 : Int32) (hX : fE_lots σ i1 = some z) : V E mE_lots (FM E (some (.int z.1), z.2)) 0 [(0, .ref 0), (1, .int i1)] [] σ := by
  unfold fE_lots at hX
  refine V.iloadn 1 dE_lots_0 rfl rfl ?_
  refine V.iflt 10 dE_lots_1 rfl rfl (fun g1 => ?_) (fun g1 => ?_)
  · replace hX := ip hX g1
    refine V.iconst (-1 : Int32) dE_lots_10 lcm1 rfl ?_
    have hX := (Option.some.inj hX).symm; subst hX; exact V.iret dE_lots_11 rfl rfl
  · replace hX := im hX g1
    refine V.iloadn 1 dE_lots_4 rfl rfl ?_
    refine V.bipush (20 : Int32) dE_lots_5 lb20 rfl ?_
    refine V.icmple 12 dE_lots_7 rfl rfl (fun g2 => ?_) (fun g2 => ?_)
    · replace hX := ip hX g2
      refine V.iconst (0 : Int32) dE_lots_12 lc0 rfl ?_
      refine V.istoren _ dE_lots_13 (by decide) rfl rfl ?_
      refine V.sub [1, 2, 0] rfl ?_
      exact wE_lots_14 300 σ i1 (0 : Int32) hX
    · replace hX := im hX g2
      refine V.iconst (-1 : Int32) dE_lots_10 lcm1 rfl ?_
      have hX := (Option.some.inj hX).symm; subst hX; exact V.iret dE_lots_11 rfl rfl
theorem kE_lots {E : Ev} {σ σ2 : St} {i1 : Int32} {z : Int32} (h : fE_lots σ i1 = some (z, σ2)) : Ct mE_lots E [.ref 0, .int i1] σ (some (.int z), σ2) := Ct.of (by decide) (Nat.le_of_ble_eq_true rfl) (wE_lots σ i1 h)
theorem dE_melt_0 : decode mE_melt.1 0 = .ok (.aload_n 0, 1) := by decide +kernel
theorem dE_melt_1 : decode mE_melt.1 1 = .ok (.getfield 10, 3) := by decide +kernel
theorem dE_melt_4 : decode mE_melt.1 4 = .ok (.iload_n 1, 1) := by decide +kernel
theorem dE_melt_5 : decode mE_melt.1 5 = .ok (.invokevirtual 125, 3) := by decide +kernel
theorem dE_melt_8 : decode mE_melt.1 8 = .ok (.ifCond .ne 5, 3) := by decide +kernel
theorem dE_melt_11 : decode mE_melt.1 11 = .ok (.iconst (-1), 1) := by decide +kernel
theorem dE_melt_12 : decode mE_melt.1 12 = .ok (.ireturn, 1) := by decide +kernel
theorem dE_melt_13 : decode mE_melt.1 13 = .ok (.aload_n 0, 1) := by decide +kernel
theorem dE_melt_14 : decode mE_melt.1 14 = .ok (.getfield 10, 3) := by decide +kernel
theorem dE_melt_17 : decode mE_melt.1 17 = .ok (.getfield 137, 3) := by decide +kernel
theorem dE_melt_20 : decode mE_melt.1 20 = .ok (.iload_n 1, 1) := by decide +kernel
theorem dE_melt_21 : decode mE_melt.1 21 = .ok (.iaload, 1) := by decide +kernel
theorem dE_melt_22 : decode mE_melt.1 22 = .ok (.istore_n 2, 1) := by decide +kernel
theorem dE_melt_23 : decode mE_melt.1 23 = .ok (.aload_n 0, 1) := by decide +kernel
theorem dE_melt_24 : decode mE_melt.1 24 = .ok (.getfield 10, 3) := by decide +kernel
theorem dE_melt_27 : decode mE_melt.1 27 = .ok (.getfield 92, 3) := by decide +kernel
theorem dE_melt_30 : decode mE_melt.1 30 = .ok (.iload_n 2, 1) := by decide +kernel
theorem dE_melt_31 : decode mE_melt.1 31 = .ok (.dup2, 1) := by decide +kernel
theorem dE_melt_32 : decode mE_melt.1 32 = .ok (.iaload, 1) := by decide +kernel
theorem dE_melt_33 : decode mE_melt.1 33 = .ok (.aload_n 0, 1) := by decide +kernel
theorem dE_melt_34 : decode mE_melt.1 34 = .ok (.getfield 10, 3) := by decide +kernel
theorem dE_melt_37 : decode mE_melt.1 37 = .ok (.iload_n 1, 1) := by decide +kernel
theorem dE_melt_38 : decode mE_melt.1 38 = .ok (.invokevirtual 134, 3) := by decide +kernel
theorem dE_melt_41 : decode mE_melt.1 41 = .ok (.iconst 2, 1) := by decide +kernel
theorem dE_melt_42 : decode mE_melt.1 42 = .ok (.idiv, 1) := by decide +kernel
theorem dE_melt_43 : decode mE_melt.1 43 = .ok (.iadd, 1) := by decide +kernel
theorem dE_melt_44 : decode mE_melt.1 44 = .ok (.iastore, 1) := by decide +kernel
theorem dE_melt_45 : decode mE_melt.1 45 = .ok (.aload_n 0, 1) := by decide +kernel
theorem dE_melt_46 : decode mE_melt.1 46 = .ok (.getfield 10, 3) := by decide +kernel
theorem dE_melt_49 : decode mE_melt.1 49 = .ok (.iload_n 1, 1) := by decide +kernel
theorem dE_melt_50 : decode mE_melt.1 50 = .ok (.invokevirtual 164, 3) := by decide +kernel
theorem dE_melt_53 : decode mE_melt.1 53 = .ok (.aload_n 0, 1) := by decide +kernel
theorem dE_melt_54 : decode mE_melt.1 54 = .ok (.getfield 10, 3) := by decide +kernel
theorem dE_melt_57 : decode mE_melt.1 57 = .ok (.getfield 92, 3) := by decide +kernel
theorem dE_melt_60 : decode mE_melt.1 60 = .ok (.iload_n 2, 1) := by decide +kernel
theorem dE_melt_61 : decode mE_melt.1 61 = .ok (.iaload, 1) := by decide +kernel
theorem dE_melt_62 : decode mE_melt.1 62 = .ok (.ireturn, 1) := by decide +kernel
set_option maxRecDepth 4000 in
theorem wE_melt {E : Ev} {z : Int32 × St} (σ : St) (i1 : Int32) (hX : fE_melt σ i1 = some z) : V E mE_melt (FM E (some (.int z.1), z.2)) 0 [(0, .ref 0), (1, .int i1)] [] σ := by
  unfold fE_melt at hX
  refine V.aloadn 0 dE_melt_0 rfl rfl ?_
  refine V.getd 0 dE_melt_1 flE_10 (rfl : kd 0 = (5, 0)) rfl ?_
  refine V.iloadn 1 dE_melt_4 rfl rfl ?_
  obtain ⟨h1, hX⟩ := ob hX
  refine V.callvi (gR σ 0) [.int i1] dE_melt_5 (kT_hasCoin (σ := σ) (gR σ 0) i1 h1) mlE_125 myT_hasCoin mnT_hasCoin ⟨rfl, rfl, by decide, by decide⟩ (tk0 h1) (by decide) rfl (Nat.le_of_ble_eq_true rfl) ⟨Nat.zero_le _, Nat.zero_le _⟩ rfl ?_
  refine V.ifne 13 dE_melt_8 rfl rfl (fun g2 => ?_) (fun g2 => ?_)
  · replace hX := im hX g2
    refine V.aloadn 0 dE_melt_13 rfl rfl ?_
    refine V.getd 0 dE_melt_14 flE_10 (rfl : kd 0 = (5, 0)) rfl ?_
    obtain ⟨h3, hX⟩ := ob hX
    refine V.getr (gR σ 0) ((gR σ 0) + 6) dE_melt_17 flE_137 (tk0 h3) rfl rfl ?_
    refine V.iloadn 1 dE_melt_20 rfl rfl ?_
    obtain ⟨h4, hX⟩ := ob hX
    refine V.iald ((gR σ 0) + 6) dE_melt_21 (tk6 h3) h4 rfl ?_
    refine V.istoren _ dE_melt_22 (by decide) rfl rfl ?_
    replace hX := nmx hX; generalize gI σ ((gR σ 0) + 6) (ix i1) = v5 at hX ⊢; try dsimp only at hX
    refine V.aloadn 1 dE_melt_23 rfl rfl ?_
    refine V.getd 0 dE_melt_24 flE_10 (rfl : kd 0 = (5, 0)) rfl ?_
    obtain ⟨h6, hX⟩ := ob hX
    refine V.getr (gR σ 0) ((gR σ 0) + 2) dE_melt_27 flE_92 (tk0 h6) rfl rfl ?_
    refine V.iloadn 0 dE_melt_30 rfl rfl ?_
    refine V.dup2 dE_melt_31 rfl rfl rfl ?_
    obtain ⟨h7, hX⟩ := ob hX
    refine V.iald ((gR σ 0) + 2) dE_melt_32 (tk2 h6) h7 rfl ?_
    refine V.aloadn 1 dE_melt_33 rfl rfl ?_
    refine V.getd 0 dE_melt_34 flE_10 (rfl : kd 0 = (5, 0)) rfl ?_
    refine V.iloadn 2 dE_melt_37 rfl rfl ?_
    obtain ⟨h8, hX⟩ := ob hX
    obtain ⟨q9, c10, hX⟩ := bd hX; try dsimp only at hX
    refine V.callvi (gR σ 0) [.int i1] dE_melt_38 (kT_worth h8 c10) mlE_134 myT_worth mnT_worth ⟨rfl, rfl, by decide, by decide⟩ (tk0 h8) (by decide) rfl (Nat.le_of_ble_eq_true rfl) ⟨Nat.zero_le _, Nat.zero_le _⟩ rfl ?_
    refine V.iconst (2 : Int32) dE_melt_41 lc2 rfl ?_
    refine V.idiv dE_melt_42 (by decide) rfl ?_
    refine V.iadd dE_melt_43 rfl ?_
    obtain ⟨h11, hX⟩ := ob hX
    refine V.iast ((gR σ 0) + 2) dE_melt_44 (tk2 h6) h11 rfl ?_
    replace hX := nmx hX; generalize sI σ ((gR σ 0) + 2) (ix v5) ((gI σ ((gR σ 0) + 2) (ix v5)) + (q9 / (2 : Int32))) = σ12 at hX ⊢; try dsimp only at hX
    refine V.aloadn 1 dE_melt_45 rfl rfl ?_
    refine V.getd 0 dE_melt_46 flE_10 (rfl : kd 0 = (5, 0)) rfl ?_
    refine V.iloadn 2 dE_melt_49 rfl rfl ?_
    obtain ⟨h13, hX⟩ := ob hX
    obtain ⟨σ15, c14, hX⟩ := bd hX; try dsimp only at hX
    refine V.callv0 (gR σ12 0) [.int i1] dE_melt_50 (kT_removeCoin h13 c14) mlE_164 myT_removeCoin mnT_removeCoin ⟨rfl, rfl, by decide, by decide⟩ (tk0 h13) (by decide) rfl (Nat.le_of_ble_eq_true rfl) ⟨Nat.zero_le _, Nat.zero_le _⟩ rfl ?_
    refine V.aloadn 1 dE_melt_53 rfl rfl ?_
    refine V.getd 0 dE_melt_54 flE_10 (rfl : kd 0 = (5, 0)) rfl ?_
    obtain ⟨h16, hX⟩ := ob hX
    refine V.getr (gR σ15 0) ((gR σ15 0) + 2) dE_melt_57 flE_92 (tk0 h16) rfl rfl ?_
    refine V.iloadn 0 dE_melt_60 rfl rfl ?_
    obtain ⟨h17, hX⟩ := ob hX
    refine V.iald ((gR σ15 0) + 2) dE_melt_61 (tk2 h16) h17 rfl ?_
    have hX := (Option.some.inj hX).symm; subst hX; exact V.iret dE_melt_62 rfl rfl
  · replace hX := ip hX g2
    refine V.iconst (-1 : Int32) dE_melt_11 lcm1 rfl ?_
    have hX := (Option.some.inj hX).symm; subst hX; exact V.iret dE_melt_12 rfl rfl
theorem kE_melt {E : Ev} {σ σ2 : St} {i1 : Int32} {z : Int32} (h : fE_melt σ i1 = some (z, σ2)) : Ct mE_melt E [.ref 0, .int i1] σ (some (.int z), σ2) := Ct.of (by decide) (Nat.le_of_ble_eq_true rfl) (wE_melt σ i1 h)
theorem dW_takers_0 : decode mW_takers.1 0 = .ok (.aload_n 0, 1) := by decide +kernel
theorem dW_takers_1 : decode mW_takers.1 1 = .ok (.getfield 9, 3) := by decide +kernel
theorem dW_takers_4 : decode mW_takers.1 4 = .ok (.iload_n 2, 1) := by decide +kernel
theorem dW_takers_5 : decode mW_takers.1 5 = .ok (.iaload, 1) := by decide +kernel
theorem dW_takers_6 : decode mW_takers.1 6 = .ok (.iload_n 1, 1) := by decide +kernel
theorem dW_takers_7 : decode mW_takers.1 7 = .ok (.iconst (-1), 1) := by decide +kernel
theorem dW_takers_8 : decode mW_takers.1 8 = .ok (.ixor, 1) := by decide +kernel
theorem dW_takers_9 : decode mW_takers.1 9 = .ok (.iand, 1) := by decide +kernel
theorem dW_takers_10 : decode mW_takers.1 10 = .ok (.ireturn, 1) := by decide +kernel
set_option maxRecDepth 4000 in
theorem wW_takers {E : Ev} {z : Int32} (σ : St) (i1 : Int32) (i2 : Int32) (hX : fW_takers σ i1 i2 = some z) : V E mW_takers (FM E (some (.int z), σ)) 0 [(0, .ref 27), (1, .int i1), (2, .int i2)] [] σ := by
  unfold fW_takers at hX
  refine V.aloadn 0 dW_takers_0 rfl rfl ?_
  refine V.getr 27 28 dW_takers_1 flW_9 (rfl : kd 27 = (4, 0)) rfl rfl ?_
  refine V.iloadn 2 dW_takers_4 rfl rfl ?_
  obtain ⟨h1, hX⟩ := ob hX
  refine V.iald 28 dW_takers_5 (rfl : kd 28 = (7, 7)) h1 rfl ?_
  refine V.iloadn 1 dW_takers_6 rfl rfl ?_
  refine V.iconst (-1 : Int32) dW_takers_7 lcm1 rfl ?_
  refine V.ixor dW_takers_8 rfl ?_
  refine V.iand dW_takers_9 rfl ?_
  have hX := (Option.some.inj hX).symm; subst hX; exact V.iret dW_takers_10 rfl rfl
theorem kW_takers {E : Ev} {σ : St} {i1 : Int32} {i2 : Int32} {z : Int32} (h : fW_takers σ i1 i2 = some z) : Ct mW_takers E [.ref 27, .int i1, .int i2] σ (some (.int z), σ) := Ct.of (by decide) (Nat.le_of_ble_eq_true rfl) (wW_takers σ i1 i2 h)
theorem dW_at_0 : decode mW_at.1 0 = .ok (.aload_n 0, 1) := by decide +kernel
theorem dW_at_1 : decode mW_at.1 1 = .ok (.getfield 15, 3) := by decide +kernel
theorem dW_at_4 : decode mW_at.1 4 = .ok (.bipush 8, 2) := by decide +kernel
theorem dW_at_6 : decode mW_at.1 6 = .ok (.iload_n 1, 1) := by decide +kernel
theorem dW_at_7 : decode mW_at.1 7 = .ok (.imul, 1) := by decide +kernel
theorem dW_at_8 : decode mW_at.1 8 = .ok (.iload_n 2, 1) := by decide +kernel
theorem dW_at_9 : decode mW_at.1 9 = .ok (.iadd, 1) := by decide +kernel
theorem dW_at_10 : decode mW_at.1 10 = .ok (.iaload, 1) := by decide +kernel
theorem dW_at_11 : decode mW_at.1 11 = .ok (.ireturn, 1) := by decide +kernel
set_option maxRecDepth 4000 in
theorem wW_at {E : Ev} {z : Int32} (σ : St) (i1 : Int32) (i2 : Int32) (hX : fW_at σ i1 i2 = some z) : V E mW_at (FM E (some (.int z), σ)) 0 [(0, .ref 27), (1, .int i1), (2, .int i2)] [] σ := by
  unfold fW_at at hX
  refine V.aloadn 0 dW_at_0 rfl rfl ?_
  refine V.getr 27 29 dW_at_1 flW_15 (rfl : kd 27 = (4, 0)) rfl rfl ?_
  refine V.bipush (8 : Int32) dW_at_4 lb8 rfl ?_
  refine V.iloadn 1 dW_at_6 rfl rfl ?_
  refine V.imul dW_at_7 rfl ?_
  refine V.iloadn 2 dW_at_8 rfl rfl ?_
  refine V.iadd dW_at_9 rfl ?_
  obtain ⟨h1, hX⟩ := ob hX
  refine V.iald 29 dW_at_10 (rfl : kd 29 = (7, 1024)) h1 rfl ?_
  have hX := (Option.some.inj hX).symm; subst hX; exact V.iret dW_at_11 rfl rfl
theorem kW_at {E : Ev} {σ : St} {i1 : Int32} {i2 : Int32} {z : Int32} (h : fW_at σ i1 i2 = some z) : Ct mW_at E [.ref 27, .int i1, .int i2] σ (some (.int z), σ) := Ct.of (by decide) (Nat.le_of_ble_eq_true rfl) (wW_at σ i1 i2 h)
theorem dW_value_0 : decode mW_value.1 0 = .ok (.iload_n 1, 1) := by decide +kernel
theorem dW_value_1 : decode mW_value.1 1 = .ok (.iconst 1, 1) := by decide +kernel
theorem dW_value_2 : decode mW_value.1 2 = .ok (.aload_n 0, 1) := by decide +kernel
theorem dW_value_3 : decode mW_value.1 3 = .ok (.getfield 18, 3) := by decide +kernel
theorem dW_value_6 : decode mW_value.1 6 = .ok (.ishl, 1) := by decide +kernel
theorem dW_value_7 : decode mW_value.1 7 = .ok (.iconst 1, 1) := by decide +kernel
theorem dW_value_8 : decode mW_value.1 8 = .ok (.isub, 1) := by decide +kernel
theorem dW_value_9 : decode mW_value.1 9 = .ok (.if_icmp .ne 24, 3) := by decide +kernel
theorem dW_value_12 : decode mW_value.1 12 = .ok (.iload_n 3, 1) := by decide +kernel
theorem dW_value_13 : decode mW_value.1 13 = .ok (.ifCond .ne 7, 3) := by decide +kernel
theorem dW_value_16 : decode mW_value.1 16 = .ok (.iconst 0, 1) := by decide +kernel
theorem dW_value_17 : decode mW_value.1 17 = .ok (.goto 15, 3) := by decide +kernel
theorem dW_value_20 : decode mW_value.1 20 = .ok (.iload_n 3, 1) := by decide +kernel
theorem dW_value_21 : decode mW_value.1 21 = .ok (.iconst 1, 1) := by decide +kernel
theorem dW_value_22 : decode mW_value.1 22 = .ok (.if_icmp .ne 7, 3) := by decide +kernel
theorem dW_value_25 : decode mW_value.1 25 = .ok (.iconst 1, 1) := by decide +kernel
theorem dW_value_26 : decode mW_value.1 26 = .ok (.goto 6, 3) := by decide +kernel
theorem dW_value_29 : decode mW_value.1 29 = .ok (.iconst 1, 1) := by decide +kernel
theorem dW_value_30 : decode mW_value.1 30 = .ok (.iload_n 2, 1) := by decide +kernel
theorem dW_value_31 : decode mW_value.1 31 = .ok (.ishl, 1) := by decide +kernel
theorem dW_value_32 : decode mW_value.1 32 = .ok (.ireturn, 1) := by decide +kernel
theorem dW_value_33 : decode mW_value.1 33 = .ok (.aload_n 0, 1) := by decide +kernel
theorem dW_value_34 : decode mW_value.1 34 = .ok (.iload_n 1, 1) := by decide +kernel
theorem dW_value_35 : decode mW_value.1 35 = .ok (.iload_n 2, 1) := by decide +kernel
theorem dW_value_36 : decode mW_value.1 36 = .ok (.invokevirtual 43, 3) := by decide +kernel
theorem dW_value_39 : decode mW_value.1 39 = .ok (.istore 4, 2) := by decide +kernel
theorem dW_value_41 : decode mW_value.1 41 = .ok (.iconst 0, 1) := by decide +kernel
theorem dW_value_42 : decode mW_value.1 42 = .ok (.istore 5, 2) := by decide +kernel
theorem dW_value_44 : decode mW_value.1 44 = .ok (.iconst 0, 1) := by decide +kernel
theorem dW_value_45 : decode mW_value.1 45 = .ok (.istore 6, 2) := by decide +kernel
theorem dW_value_47 : decode mW_value.1 47 = .ok (.iload 6, 2) := by decide +kernel
theorem dW_value_49 : decode mW_value.1 49 = .ok (.aload_n 0, 1) := by decide +kernel
theorem dW_value_50 : decode mW_value.1 50 = .ok (.getfield 18, 3) := by decide +kernel
theorem dW_value_53 : decode mW_value.1 53 = .ok (.if_icmp .ge 69, 3) := by decide +kernel
theorem dW_value_56 : decode mW_value.1 56 = .ok (.iload 4, 2) := by decide +kernel
theorem dW_value_58 : decode mW_value.1 58 = .ok (.iload 6, 2) := by decide +kernel
theorem dW_value_60 : decode mW_value.1 60 = .ok (.invokestatic 35, 3) := by decide +kernel
theorem dW_value_63 : decode mW_value.1 63 = .ok (.ifCond .eq 53, 3) := by decide +kernel
theorem dW_value_66 : decode mW_value.1 66 = .ok (.aload_n 0, 1) := by decide +kernel
theorem dW_value_67 : decode mW_value.1 67 = .ok (.iload_n 1, 1) := by decide +kernel
theorem dW_value_68 : decode mW_value.1 68 = .ok (.iconst 1, 1) := by decide +kernel
theorem dW_value_69 : decode mW_value.1 69 = .ok (.iload 6, 2) := by decide +kernel
theorem dW_value_71 : decode mW_value.1 71 = .ok (.ishl, 1) := by decide +kernel
theorem dW_value_72 : decode mW_value.1 72 = .ok (.ior, 1) := by decide +kernel
theorem dW_value_73 : decode mW_value.1 73 = .ok (.iload 6, 2) := by decide +kernel
theorem dW_value_75 : decode mW_value.1 75 = .ok (.invokevirtual 46, 3) := by decide +kernel
theorem dW_value_78 : decode mW_value.1 78 = .ok (.istore 7, 2) := by decide +kernel
theorem dW_value_80 : decode mW_value.1 80 = .ok (.iload_n 3, 1) := by decide +kernel
theorem dW_value_81 : decode mW_value.1 81 = .ok (.ifCond .ne 15, 3) := by decide +kernel
theorem dW_value_84 : decode mW_value.1 84 = .ok (.iload 5, 2) := by decide +kernel
theorem dW_value_86 : decode mW_value.1 86 = .ok (.iload 7, 2) := by decide +kernel
theorem dW_value_88 : decode mW_value.1 88 = .ok (.iconst 1, 1) := by decide +kernel
theorem dW_value_89 : decode mW_value.1 89 = .ok (.iadd, 1) := by decide +kernel
theorem dW_value_90 : decode mW_value.1 90 = .ok (.invokestatic 49, 3) := by decide +kernel
theorem dW_value_93 : decode mW_value.1 93 = .ok (.goto 21, 3) := by decide +kernel
theorem dW_value_96 : decode mW_value.1 96 = .ok (.iload_n 3, 1) := by decide +kernel
theorem dW_value_97 : decode mW_value.1 97 = .ok (.iconst 1, 1) := by decide +kernel
theorem dW_value_98 : decode mW_value.1 98 = .ok (.if_icmp .ne 11, 3) := by decide +kernel
theorem dW_value_101 : decode mW_value.1 101 = .ok (.iload 5, 2) := by decide +kernel
theorem dW_value_103 : decode mW_value.1 103 = .ok (.iload 7, 2) := by decide +kernel
theorem dW_value_105 : decode mW_value.1 105 = .ok (.iadd, 1) := by decide +kernel
theorem dW_value_106 : decode mW_value.1 106 = .ok (.goto 8, 3) := by decide +kernel
theorem dW_value_109 : decode mW_value.1 109 = .ok (.iload 5, 2) := by decide +kernel
theorem dW_value_111 : decode mW_value.1 111 = .ok (.iload 7, 2) := by decide +kernel
theorem dW_value_113 : decode mW_value.1 113 = .ok (.ior, 1) := by decide +kernel
theorem dW_value_114 : decode mW_value.1 114 = .ok (.istore 5, 2) := by decide +kernel
theorem dW_value_116 : decode mW_value.1 116 = .ok (.iinc 6 1, 3) := by decide +kernel
theorem dW_value_119 : decode mW_value.1 119 = .ok (.goto (-72), 3) := by decide +kernel
theorem dW_value_122 : decode mW_value.1 122 = .ok (.iload 5, 2) := by decide +kernel
theorem dW_value_124 : decode mW_value.1 124 = .ok (.ireturn, 1) := by decide +kernel
set_option maxRecDepth 4000 in
theorem wW_value_47 {E : Ev} {z : Int32} : ∀ (fu : Nat) (σ : St) (i1 : Int32) (i3 : Int32) (i4 : Int32) (i5 : Int32) (i6 : Int32), fW_value_47 fu σ i1 i3 i4 i5 i6 = some z → V E mW_value (FM E (some (.int z), σ)) 47 [(0, .ref 27), (1, .int i1), (3, .int i3), (4, .int i4), (5, .int i5), (6, .int i6)] [] σ := by
  intro fu
  induction fu with
  | zero => intro σ i1 i3 i4 i5 i6 hX; cases hX
  | succ fu ih =>
    intro σ i1 i3 i4 i5 i6 hX
    rw [fW_value_47] at hX
    refine V.iload 5 dW_value_47 rfl rfl ?_
    refine V.aloadn 0 dW_value_49 rfl rfl ?_
    refine V.geti 27 dW_value_50 flW_18 (rfl : kd 27 = (4, 0)) rfl ?_
    refine V.icmpge 122 dW_value_53 rfl rfl (fun g4 => ?_) (fun g4 => ?_)
    · replace hX := ip hX g4
      refine V.iload 4 dW_value_122 rfl rfl ?_
      have hX := (Option.some.inj hX).symm; subst hX; exact V.iret dW_value_124 rfl rfl
    · replace hX := im hX g4
      refine V.iload 3 dW_value_56 rfl rfl ?_
      refine V.iload 5 dW_value_58 rfl rfl ?_
      refine V.callNi [.int i4, .int i6] dW_value_60 (kE_holds (σ := σ) i4 i6) (fun U h => h.2.2.2.2.2.2.2.2.2.1) myE_holds mnE_holds ⟨rfl, rfl, by decide, by decide⟩ rfl (Nat.le_of_ble_eq_true rfl) ⟨Nat.zero_le _, Nat.zero_le _⟩ rfl ?_
      refine V.ifeq 116 dW_value_63 rfl rfl (fun g5 => ?_) (fun g5 => ?_)
      · replace hX := ip hX g5
        refine V.iinc 5 (1 : Int32) _ dW_value_116 rfl lc1 (by decide) rfl rfl ?_
        replace hX := nmx hX; generalize i6 + (1 : Int32) = v6 at hX ⊢; try dsimp only at hX
        refine V.goto 47 dW_value_119 rfl ?_
        refine V.sub [1, 2, 3, 4, 5, 0] rfl ?_
        exact ih σ i1 i3 i4 i5 v6 hX
      · replace hX := im hX g5
        refine V.aloadn 0 dW_value_66 rfl rfl ?_
        refine V.iloadn 1 dW_value_67 rfl rfl ?_
        refine V.iconst (1 : Int32) dW_value_68 lc1 rfl ?_
        refine V.iload 5 dW_value_69 rfl rfl ?_
        refine V.ishl dW_value_71 rfl ?_
        refine V.ior dW_value_72 rfl ?_
        refine V.iload 5 dW_value_73 rfl rfl ?_
        obtain ⟨q7, c8, hX⟩ := bd hX; try dsimp only at hX
        refine V.callvi 27 [.int (i1 ||| ((1 : Int32) <<< (i6 &&& 31))), .int i6] dW_value_75 (kW_at c8) mlW_46 myW_at mnW_at ⟨rfl, rfl, by decide, by decide⟩ (rfl : kd 27 = (4, 0)) (by decide) rfl (Nat.le_of_ble_eq_true rfl) ⟨Nat.zero_le _, Nat.zero_le _⟩ rfl ?_
        refine V.istore _ dW_value_78 (by decide) rfl rfl ?_
        refine V.iloadn 3 dW_value_80 rfl rfl ?_
        refine V.ifne 96 dW_value_81 rfl rfl (fun g9 => ?_) (fun g9 => ?_)
        · replace hX := im hX g9
          refine V.iloadn 3 dW_value_96 rfl rfl ?_
          refine V.iconst (1 : Int32) dW_value_97 lc1 rfl ?_
          have JJ : V E mW_value (FM E (some (.int z), σ)) 114 [(7, .int q7), (0, .ref 27), (1, .int i1), (3, .int i3), (4, .int i4), (5, .int i5), (6, .int i6)] [.int (if i3 = (1 : Int32) then i5 + q7 else i5 ||| q7)] σ := by
            refine V.istore _ dW_value_114 (by decide) rfl rfl ?_
            replace hX := nmx hX; generalize (if i3 = (1 : Int32) then i5 + q7 else i5 ||| q7) = v10 at hX ⊢; try dsimp only at hX
            refine V.iinc 6 (1 : Int32) _ dW_value_116 rfl lc1 (by decide) rfl rfl ?_
            replace hX := nmx hX; generalize i6 + (1 : Int32) = v11 at hX ⊢; try dsimp only at hX
            refine V.goto 47 dW_value_119 rfl ?_
            refine V.sub [3, 4, 5, 6, 1, 0] rfl ?_
            exact ih σ i1 i3 i4 v10 v11 hX
          refine V.icmpne 109 dW_value_98 rfl rfl (fun g12 => ?_) (fun g12 => ?_)
          · refine V.iload 5 dW_value_109 rfl rfl ?_
            refine V.iload 0 dW_value_111 rfl rfl ?_
            refine V.ior dW_value_113 rfl ?_
            exact V.top (if_neg g12).symm JJ
          · refine V.iload 5 dW_value_101 rfl rfl ?_
            refine V.iload 0 dW_value_103 rfl rfl ?_
            refine V.iadd dW_value_105 rfl ?_
            refine V.goto 114 dW_value_106 rfl ?_
            exact V.top (if_pos g12).symm JJ
        · replace hX := ip hX g9
          refine V.iload 5 dW_value_84 rfl rfl ?_
          refine V.iload 0 dW_value_86 rfl rfl ?_
          refine V.iconst (1 : Int32) dW_value_88 lc1 rfl ?_
          refine V.iadd dW_value_89 rfl ?_
          refine V.mmax dW_value_90 mwW_49 ⟨by decide, (Nat.le_of_ble_eq_true rfl)⟩ ⟨Nat.zero_le _, Nat.zero_le _⟩ rfl ?_
          refine V.goto 114 dW_value_93 rfl ?_
          refine V.istore _ dW_value_114 (by decide) rfl rfl ?_
          replace hX := nmx hX; generalize mmax i5 (q7 + (1 : Int32)) = v13 at hX ⊢; try dsimp only at hX
          refine V.iinc 6 (1 : Int32) _ dW_value_116 rfl lc1 (by decide) rfl rfl ?_
          replace hX := nmx hX; generalize i6 + (1 : Int32) = v14 at hX ⊢; try dsimp only at hX
          refine V.goto 47 dW_value_119 rfl ?_
          refine V.sub [3, 4, 5, 6, 1, 0] rfl ?_
          exact ih σ i1 i3 i4 v13 v14 hX
set_option maxRecDepth 4000 in
theorem wW_value {E : Ev} {z : Int32} (σ : St) (i1 : Int32) (i2 : Int32) (i3 : Int32) (hX : fW_value σ i1 i2 i3 = some z) : V E mW_value (FM E (some (.int z), σ)) 0 [(0, .ref 27), (1, .int i1), (2, .int i2), (3, .int i3)] [] σ := by
  unfold fW_value at hX
  refine V.iloadn 1 dW_value_0 rfl rfl ?_
  refine V.iconst (1 : Int32) dW_value_1 lc1 rfl ?_
  refine V.aloadn 0 dW_value_2 rfl rfl ?_
  refine V.geti 27 dW_value_3 flW_18 (rfl : kd 27 = (4, 0)) rfl ?_
  refine V.ishl dW_value_6 rfl ?_
  refine V.iconst (1 : Int32) dW_value_7 lc1 rfl ?_
  refine V.isub dW_value_8 rfl ?_
  refine V.icmpne 33 dW_value_9 rfl rfl (fun g1 => ?_) (fun g1 => ?_)
  · replace hX := im hX g1
    refine V.aloadn 0 dW_value_33 rfl rfl ?_
    refine V.iloadn 1 dW_value_34 rfl rfl ?_
    refine V.iloadn 2 dW_value_35 rfl rfl ?_
    obtain ⟨q2, c3, hX⟩ := bd hX; try dsimp only at hX
    refine V.callvi 27 [.int i1, .int i2] dW_value_36 (kW_takers c3) mlW_43 myW_takers mnW_takers ⟨rfl, rfl, by decide, by decide⟩ (rfl : kd 27 = (4, 0)) (by decide) rfl (Nat.le_of_ble_eq_true rfl) ⟨Nat.zero_le _, Nat.zero_le _⟩ rfl ?_
    refine V.istore _ dW_value_39 (by decide) rfl rfl ?_
    refine V.iconst (0 : Int32) dW_value_41 lc0 rfl ?_
    refine V.istore _ dW_value_42 (by decide) rfl rfl ?_
    refine V.iconst (0 : Int32) dW_value_44 lc0 rfl ?_
    refine V.istore _ dW_value_45 (by decide) rfl rfl ?_
    refine V.sub [3, 4, 6, 2, 1, 0] rfl ?_
    exact wW_value_47 300 σ i1 i3 q2 (0 : Int32) (0 : Int32) hX
  · replace hX := ip hX g1
    refine V.iloadn 3 dW_value_12 rfl rfl ?_
    have JJ : V E mW_value (FM E (some (.int z), σ)) 32 [(0, .ref 27), (1, .int i1), (2, .int i2), (3, .int i3)] [.int (if i3 = 0 then (0 : Int32) else (if i3 = (1 : Int32) then (1 : Int32) else (1 : Int32) <<< (i2 &&& 31)))] σ := by
      have hX := (Option.some.inj hX).symm; subst hX; exact V.iret dW_value_32 rfl rfl
    refine V.ifne 20 dW_value_13 rfl rfl (fun g15 => ?_) (fun g15 => ?_)
    · refine V.iloadn 3 dW_value_20 rfl rfl ?_
      refine V.iconst (1 : Int32) dW_value_21 lc1 rfl ?_
      refine V.icmpne 29 dW_value_22 rfl rfl (fun g16 => ?_) (fun g16 => ?_)
      · refine V.iconst (1 : Int32) dW_value_29 lc1 rfl ?_
        refine V.iloadn 2 dW_value_30 rfl rfl ?_
        refine V.ishl dW_value_31 rfl ?_
        exact V.top ((if_neg g15).trans (if_neg g16)).symm JJ
      · refine V.iconst (1 : Int32) dW_value_25 lc1 rfl ?_
        refine V.goto 32 dW_value_26 rfl ?_
        exact V.top ((if_neg g15).trans (if_pos g16)).symm JJ
    · refine V.iconst (0 : Int32) dW_value_16 lc0 rfl ?_
      refine V.goto 32 dW_value_17 rfl ?_
      exact V.top (if_pos g15).symm JJ
theorem kW_value {E : Ev} {σ : St} {i1 : Int32} {i2 : Int32} {i3 : Int32} {z : Int32} (h : fW_value σ i1 i2 i3 = some z) : Ct mW_value E [.ref 27, .int i1, .int i2, .int i3] σ (some (.int z), σ) := Ct.of (by decide) (Nat.le_of_ble_eq_true rfl) (wW_value σ i1 i2 i3 h)
theorem dW_fill_0 : decode mW_fill.1 0 = .ok (.iconst 0, 1) := by decide +kernel
theorem dW_fill_1 : decode mW_fill.1 1 = .ok (.istore_n 3, 1) := by decide +kernel
theorem dW_fill_2 : decode mW_fill.1 2 = .ok (.iload_n 3, 1) := by decide +kernel
theorem dW_fill_3 : decode mW_fill.1 3 = .ok (.aload_n 0, 1) := by decide +kernel
theorem dW_fill_4 : decode mW_fill.1 4 = .ok (.getfield 18, 3) := by decide +kernel
theorem dW_fill_7 : decode mW_fill.1 7 = .ok (.if_icmp .ge 35, 3) := by decide +kernel
theorem dW_fill_10 : decode mW_fill.1 10 = .ok (.iload_n 1, 1) := by decide +kernel
theorem dW_fill_11 : decode mW_fill.1 11 = .ok (.iload_n 3, 1) := by decide +kernel
theorem dW_fill_12 : decode mW_fill.1 12 = .ok (.invokestatic 35, 3) := by decide +kernel
theorem dW_fill_15 : decode mW_fill.1 15 = .ok (.ifCond .eq 21, 3) := by decide +kernel
theorem dW_fill_18 : decode mW_fill.1 18 = .ok (.aload_n 0, 1) := by decide +kernel
theorem dW_fill_19 : decode mW_fill.1 19 = .ok (.getfield 15, 3) := by decide +kernel
theorem dW_fill_22 : decode mW_fill.1 22 = .ok (.bipush 8, 2) := by decide +kernel
theorem dW_fill_24 : decode mW_fill.1 24 = .ok (.iload_n 1, 1) := by decide +kernel
theorem dW_fill_25 : decode mW_fill.1 25 = .ok (.imul, 1) := by decide +kernel
theorem dW_fill_26 : decode mW_fill.1 26 = .ok (.iload_n 3, 1) := by decide +kernel
theorem dW_fill_27 : decode mW_fill.1 27 = .ok (.iadd, 1) := by decide +kernel
theorem dW_fill_28 : decode mW_fill.1 28 = .ok (.aload_n 0, 1) := by decide +kernel
theorem dW_fill_29 : decode mW_fill.1 29 = .ok (.iload_n 1, 1) := by decide +kernel
theorem dW_fill_30 : decode mW_fill.1 30 = .ok (.iload_n 3, 1) := by decide +kernel
theorem dW_fill_31 : decode mW_fill.1 31 = .ok (.iload_n 2, 1) := by decide +kernel
theorem dW_fill_32 : decode mW_fill.1 32 = .ok (.invokevirtual 39, 3) := by decide +kernel
theorem dW_fill_35 : decode mW_fill.1 35 = .ok (.iastore, 1) := by decide +kernel
theorem dW_fill_36 : decode mW_fill.1 36 = .ok (.iinc 3 1, 3) := by decide +kernel
theorem dW_fill_39 : decode mW_fill.1 39 = .ok (.goto (-37), 3) := by decide +kernel
theorem dW_fill_42 : decode mW_fill.1 42 = .ok (.return_, 1) := by decide +kernel
set_option maxRecDepth 4000 in
theorem wW_fill_2 {E : Ev} {z : St} : ∀ (fu : Nat) (σ : St) (i1 : Int32) (i2 : Int32) (i3 : Int32), fW_fill_2 fu σ i1 i2 i3 = some z → V E mW_fill (FM E (none, z)) 2 [(0, .ref 27), (1, .int i1), (2, .int i2), (3, .int i3)] [] σ := by
  intro fu
  induction fu with
  | zero => intro σ i1 i2 i3 hX; cases hX
  | succ fu ih =>
    intro σ i1 i2 i3 hX
    rw [fW_fill_2] at hX
    refine V.iloadn 3 dW_fill_2 rfl rfl ?_
    refine V.aloadn 0 dW_fill_3 rfl rfl ?_
    refine V.geti 27 dW_fill_4 flW_18 (rfl : kd 27 = (4, 0)) rfl ?_
    refine V.icmpge 42 dW_fill_7 rfl rfl (fun g1 => ?_) (fun g1 => ?_)
    · replace hX := ip hX g1
      have hX := (Option.some.inj hX).symm; subst hX; exact V.vret dW_fill_42 rfl rfl
    · replace hX := im hX g1
      refine V.iloadn 1 dW_fill_10 rfl rfl ?_
      refine V.iloadn 3 dW_fill_11 rfl rfl ?_
      refine V.callNi [.int i1, .int i3] dW_fill_12 (kE_holds (σ := σ) i1 i3) (fun U h => h.2.2.2.2.2.2.2.2.2.1) myE_holds mnE_holds ⟨rfl, rfl, by decide, by decide⟩ rfl (Nat.le_of_ble_eq_true rfl) ⟨Nat.zero_le _, Nat.zero_le _⟩ rfl ?_
      refine V.ifeq 36 dW_fill_15 rfl rfl (fun g2 => ?_) (fun g2 => ?_)
      · replace hX := ip hX g2
        refine V.iinc 3 (1 : Int32) _ dW_fill_36 rfl lc1 (by decide) rfl rfl ?_
        replace hX := nmx hX; generalize i3 + (1 : Int32) = v3 at hX ⊢; try dsimp only at hX
        refine V.goto 2 dW_fill_39 rfl ?_
        refine V.sub [1, 2, 3, 0] rfl ?_
        exact ih σ i1 i2 v3 hX
      · replace hX := im hX g2
        refine V.aloadn 0 dW_fill_18 rfl rfl ?_
        refine V.getr 27 29 dW_fill_19 flW_15 (rfl : kd 27 = (4, 0)) rfl rfl ?_
        refine V.bipush (8 : Int32) dW_fill_22 lb8 rfl ?_
        refine V.iloadn 1 dW_fill_24 rfl rfl ?_
        refine V.imul dW_fill_25 rfl ?_
        refine V.iloadn 3 dW_fill_26 rfl rfl ?_
        refine V.iadd dW_fill_27 rfl ?_
        refine V.aloadn 0 dW_fill_28 rfl rfl ?_
        refine V.iloadn 1 dW_fill_29 rfl rfl ?_
        refine V.iloadn 3 dW_fill_30 rfl rfl ?_
        refine V.iloadn 2 dW_fill_31 rfl rfl ?_
        obtain ⟨q4, c5, hX⟩ := bd hX; try dsimp only at hX
        refine V.callvi 27 [.int i1, .int i3, .int i2] dW_fill_32 (kW_value c5) mlW_39 myW_value mnW_value ⟨rfl, rfl, by decide, by decide⟩ (rfl : kd 27 = (4, 0)) (by decide) rfl (Nat.le_of_ble_eq_true rfl) ⟨Nat.zero_le _, Nat.zero_le _⟩ rfl ?_
        obtain ⟨h6, hX⟩ := ob hX
        refine V.iast 29 dW_fill_35 (rfl : kd 29 = (7, 1024)) h6 rfl ?_
        replace hX := nmx hX; generalize sI σ 29 (ix (((8 : Int32) * i1) + i3)) q4 = σ7 at hX ⊢; try dsimp only at hX
        refine V.iinc 3 (1 : Int32) _ dW_fill_36 rfl lc1 (by decide) rfl rfl ?_
        replace hX := nmx hX; generalize i3 + (1 : Int32) = v8 at hX ⊢; try dsimp only at hX
        refine V.goto 2 dW_fill_39 rfl ?_
        refine V.sub [1, 2, 3, 0] rfl ?_
        exact ih σ7 i1 i2 v8 hX
set_option maxRecDepth 4000 in
theorem wW_fill {E : Ev} {z : St} (σ : St) (i1 : Int32) (i2 : Int32) (hX : fW_fill σ i1 i2 = some z) : V E mW_fill (FM E (none, z)) 0 [(0, .ref 27), (1, .int i1), (2, .int i2)] [] σ := by
  unfold fW_fill at hX
  refine V.iconst (0 : Int32) dW_fill_0 lc0 rfl ?_
  refine V.istoren _ dW_fill_1 (by decide) rfl rfl ?_
  refine V.sub [1, 2, 3, 0] rfl ?_
  exact wW_fill_2 300 σ i1 i2 (0 : Int32) hX
theorem kW_fill {E : Ev} {σ z : St} {i1 : Int32} {i2 : Int32} (h : fW_fill σ i1 i2 = some z) : Ct mW_fill E [.ref 27, .int i1, .int i2] σ (none, z) := Ct.of (by decide) (Nat.le_of_ble_eq_true rfl) (wW_fill σ i1 i2 h)
