theorem dM_ranks_0 : decode mM_ranks.1 0 = .ok (.iload_n 1, 1) := by decide +kernel
theorem dM_ranks_1 : decode mM_ranks.1 1 = .ok (.invokestatic 276, 3) := by decide +kernel
theorem dM_ranks_4 : decode mM_ranks.1 4 = .ok (.ifCond .eq 33, 3) := by decide +kernel
theorem dM_ranks_7 : decode mM_ranks.1 7 = .ok (.aload_n 0, 1) := by decide +kernel
theorem dM_ranks_8 : decode mM_ranks.1 8 = .ok (.iload_n 3, 1) := by decide +kernel
theorem dM_ranks_9 : decode mM_ranks.1 9 = .ok (.invokevirtual 203, 3) := by decide +kernel
theorem dM_ranks_12 : decode mM_ranks.1 12 = .ok (.ifCond .eq 25, 3) := by decide +kernel
theorem dM_ranks_15 : decode mM_ranks.1 15 = .ok (.iload 4, 2) := by decide +kernel
theorem dM_ranks_17 : decode mM_ranks.1 17 = .ok (.iconst 0, 1) := by decide +kernel
theorem dM_ranks_18 : decode mM_ranks.1 18 = .ok (.bipush 7, 2) := by decide +kernel
theorem dM_ranks_20 : decode mM_ranks.1 20 = .ok (.invokestatic 84, 3) := by decide +kernel
theorem dM_ranks_23 : decode mM_ranks.1 23 = .ok (.ifCond .eq 14, 3) := by decide +kernel
theorem dM_ranks_26 : decode mM_ranks.1 26 = .ok (.iload_n 3, 1) := by decide +kernel
theorem dM_ranks_27 : decode mM_ranks.1 27 = .ok (.iload 4, 2) := by decide +kernel
theorem dM_ranks_29 : decode mM_ranks.1 29 = .ok (.iadd, 1) := by decide +kernel
theorem dM_ranks_30 : decode mM_ranks.1 30 = .ok (.aload_n 0, 1) := by decide +kernel
theorem dM_ranks_31 : decode mM_ranks.1 31 = .ok (.getfield 81, 3) := by decide +kernel
theorem dM_ranks_34 : decode mM_ranks.1 34 = .ok (.if_icmp .le 5, 3) := by decide +kernel
theorem dM_ranks_37 : decode mM_ranks.1 37 = .ok (.iconst (-1), 1) := by decide +kernel
theorem dM_ranks_38 : decode mM_ranks.1 38 = .ok (.ireturn, 1) := by decide +kernel
theorem dM_ranks_39 : decode mM_ranks.1 39 = .ok (.aload_n 0, 1) := by decide +kernel
theorem dM_ranks_40 : decode mM_ranks.1 40 = .ok (.iload_n 1, 1) := by decide +kernel
theorem dM_ranks_41 : decode mM_ranks.1 41 = .ok (.iconst 2, 1) := by decide +kernel
theorem dM_ranks_42 : decode mM_ranks.1 42 = .ok (.invokevirtual 279, 3) := by decide +kernel
theorem dM_ranks_45 : decode mM_ranks.1 45 = .ok (.istore 5, 2) := by decide +kernel
theorem dM_ranks_47 : decode mM_ranks.1 47 = .ok (.iload 5, 2) := by decide +kernel
theorem dM_ranks_49 : decode mM_ranks.1 49 = .ok (.ifCond .eq 6, 3) := by decide +kernel
theorem dM_ranks_52 : decode mM_ranks.1 52 = .ok (.iload 5, 2) := by decide +kernel
theorem dM_ranks_54 : decode mM_ranks.1 54 = .ok (.ireturn, 1) := by decide +kernel
theorem dM_ranks_55 : decode mM_ranks.1 55 = .ok (.iload_n 2, 1) := by decide +kernel
theorem dM_ranks_56 : decode mM_ranks.1 56 = .ok (.ifCond .lt 16, 3) := by decide +kernel
theorem dM_ranks_59 : decode mM_ranks.1 59 = .ok (.iload_n 2, 1) := by decide +kernel
theorem dM_ranks_60 : decode mM_ranks.1 60 = .ok (.aload_n 0, 1) := by decide +kernel
theorem dM_ranks_61 : decode mM_ranks.1 61 = .ok (.getfield 56, 3) := by decide +kernel
theorem dM_ranks_64 : decode mM_ranks.1 64 = .ok (.iload_n 1, 1) := by decide +kernel
theorem dM_ranks_65 : decode mM_ranks.1 65 = .ok (.iaload, 1) := by decide +kernel
theorem dM_ranks_66 : decode mM_ranks.1 66 = .ok (.iload 4, 2) := by decide +kernel
theorem dM_ranks_68 : decode mM_ranks.1 68 = .ok (.isub, 1) := by decide +kernel
theorem dM_ranks_69 : decode mM_ranks.1 69 = .ok (.if_icmp .le 6, 3) := by decide +kernel
theorem dM_ranks_72 : decode mM_ranks.1 72 = .ok (.bipush (-12), 2) := by decide +kernel
theorem dM_ranks_74 : decode mM_ranks.1 74 = .ok (.ireturn, 1) := by decide +kernel
theorem dM_ranks_75 : decode mM_ranks.1 75 = .ok (.iconst 0, 1) := by decide +kernel
theorem dM_ranks_76 : decode mM_ranks.1 76 = .ok (.istore 6, 2) := by decide +kernel
theorem dM_ranks_78 : decode mM_ranks.1 78 = .ok (.iload 6, 2) := by decide +kernel
theorem dM_ranks_80 : decode mM_ranks.1 80 = .ok (.iload 4, 2) := by decide +kernel
theorem dM_ranks_82 : decode mM_ranks.1 82 = .ok (.if_icmp .ge 62, 3) := by decide +kernel
theorem dM_ranks_85 : decode mM_ranks.1 85 = .ok (.aload_n 0, 1) := by decide +kernel
theorem dM_ranks_86 : decode mM_ranks.1 86 = .ok (.getfield 59, 3) := by decide +kernel
theorem dM_ranks_89 : decode mM_ranks.1 89 = .ok (.bipush 40, 2) := by decide +kernel
theorem dM_ranks_91 : decode mM_ranks.1 91 = .ok (.iload_n 1, 1) := by decide +kernel
theorem dM_ranks_92 : decode mM_ranks.1 92 = .ok (.imul, 1) := by decide +kernel
theorem dM_ranks_93 : decode mM_ranks.1 93 = .ok (.iload_n 2, 1) := by decide +kernel
theorem dM_ranks_94 : decode mM_ranks.1 94 = .ok (.iadd, 1) := by decide +kernel
theorem dM_ranks_95 : decode mM_ranks.1 95 = .ok (.iload 6, 2) := by decide +kernel
theorem dM_ranks_97 : decode mM_ranks.1 97 = .ok (.iadd, 1) := by decide +kernel
theorem dM_ranks_98 : decode mM_ranks.1 98 = .ok (.laload, 1) := by decide +kernel
theorem dM_ranks_99 : decode mM_ranks.1 99 = .ok (.lstore 7, 2) := by decide +kernel
theorem dM_ranks_101 : decode mM_ranks.1 101 = .ok (.aload_n 0, 1) := by decide +kernel
theorem dM_ranks_102 : decode mM_ranks.1 102 = .ok (.getfield 7, 3) := by decide +kernel
theorem dM_ranks_105 : decode mM_ranks.1 105 = .ok (.iload_n 3, 1) := by decide +kernel
theorem dM_ranks_106 : decode mM_ranks.1 106 = .ok (.iload 6, 2) := by decide +kernel
theorem dM_ranks_108 : decode mM_ranks.1 108 = .ok (.iadd, 1) := by decide +kernel
theorem dM_ranks_109 : decode mM_ranks.1 109 = .ok (.lload 7, 2) := by decide +kernel
theorem dM_ranks_111 : decode mM_ranks.1 111 = .ok (.lconst 0, 1) := by decide +kernel
theorem dM_ranks_112 : decode mM_ranks.1 112 = .ok (.lcmp, 1) := by decide +kernel
theorem dM_ranks_113 : decode mM_ranks.1 113 = .ok (.ifCond .ge 7, 3) := by decide +kernel
theorem dM_ranks_116 : decode mM_ranks.1 116 = .ok (.iconst 0, 1) := by decide +kernel
theorem dM_ranks_117 : decode mM_ranks.1 117 = .ok (.goto 20, 3) := by decide +kernel
theorem dM_ranks_120 : decode mM_ranks.1 120 = .ok (.lload 7, 2) := by decide +kernel
theorem dM_ranks_122 : decode mM_ranks.1 122 = .ok (.ldc2_w 282, 3) := by decide +kernel
theorem dM_ranks_125 : decode mM_ranks.1 125 = .ok (.lcmp, 1) := by decide +kernel
theorem dM_ranks_126 : decode mM_ranks.1 126 = .ok (.ifCond .le 8, 3) := by decide +kernel
theorem dM_ranks_129 : decode mM_ranks.1 129 = .ok (.bipush 9, 2) := by decide +kernel
theorem dM_ranks_131 : decode mM_ranks.1 131 = .ok (.goto 6, 3) := by decide +kernel
theorem dM_ranks_134 : decode mM_ranks.1 134 = .ok (.lload 7, 2) := by decide +kernel
theorem dM_ranks_136 : decode mM_ranks.1 136 = .ok (.l2i, 1) := by decide +kernel
theorem dM_ranks_137 : decode mM_ranks.1 137 = .ok (.iastore, 1) := by decide +kernel
theorem dM_ranks_138 : decode mM_ranks.1 138 = .ok (.iinc 6 1, 3) := by decide +kernel
theorem dM_ranks_141 : decode mM_ranks.1 141 = .ok (.goto (-63), 3) := by decide +kernel
theorem dM_ranks_144 : decode mM_ranks.1 144 = .ok (.iload 4, 2) := by decide +kernel
theorem dM_ranks_146 : decode mM_ranks.1 146 = .ok (.ireturn, 1) := by decide +kernel
set_option maxRecDepth 4000 in
theorem wM_ranks_78 {E : Ev} {z : Int32 × St} : ∀ (fu : Nat) (σ : St) (i1 : Int32) (i2 : Int32) (i3 : Int32) (i4 : Int32) (i6 : Int32), fM_ranks_78 fu σ i1 i2 i3 i4 i6 = some z → V E mM_ranks (FM E (some (.int z.1), z.2)) 78 [(0, .ref 44), (1, .int i1), (2, .int i2), (3, .int i3), (4, .int i4), (6, .int i6)] [] σ := by
  intro fu
  induction fu with
  | zero => intro σ i1 i2 i3 i4 i6 hX; cases hX
  | succ fu ih =>
    intro σ i1 i2 i3 i4 i6 hX
    rw [fM_ranks_78] at hX
    refine V.iload 5 dM_ranks_78 rfl rfl ?_
    refine V.iload 4 dM_ranks_80 rfl rfl ?_
    refine V.icmpge 144 dM_ranks_82 rfl rfl (fun g11 => ?_) (fun g11 => ?_)
    · replace hX := ip hX g11
      refine V.iload 4 dM_ranks_144 rfl rfl ?_
      have hX := (Option.some.inj hX).symm; subst hX; exact V.iret dM_ranks_146 rfl rfl
    · replace hX := im hX g11
      refine V.aloadn 0 dM_ranks_85 rfl rfl ?_
      refine V.getr 44 60 dM_ranks_86 flM_59 (rfl : kd 44 = (6, 0)) rfl rfl ?_
      refine V.bipush (40 : Int32) dM_ranks_89 lb40 rfl ?_
      refine V.iloadn 1 dM_ranks_91 rfl rfl ?_
      refine V.imul dM_ranks_92 rfl ?_
      refine V.iloadn 2 dM_ranks_93 rfl rfl ?_
      refine V.iadd dM_ranks_94 rfl ?_
      refine V.iload 5 dM_ranks_95 rfl rfl ?_
      refine V.iadd dM_ranks_97 rfl ?_
      obtain ⟨h12, hX⟩ := ob hX
      refine V.lald 60 dM_ranks_98 (rfl : kd 60 = (8, 160)) h12 rfl ?_
      refine V.lstore _ dM_ranks_99 (by decide) rfl rfl ?_
      replace hX := nmx hX; generalize gL σ 60 (ix ((((40 : Int32) * i1) + i2) + i6)) = v13 at hX ⊢; try dsimp only at hX
      refine V.aloadn 1 dM_ranks_101 rfl rfl ?_
      refine V.getr 44 45 dM_ranks_102 flM_7 (rfl : kd 44 = (6, 0)) rfl rfl ?_
      refine V.iloadn 4 dM_ranks_105 rfl rfl ?_
      refine V.iload 6 dM_ranks_106 rfl rfl ?_
      refine V.iadd dM_ranks_108 rfl ?_
      refine V.lload 0 dM_ranks_109 rfl rfl ?_
      refine V.lconst (0 : Int64) dM_ranks_111 rfl rfl ?_
      refine V.lcmp dM_ranks_112 rfl ?_
      have JJ : V E mM_ranks (FM E (some (.int z.1), z.2)) 137 [(7, .long v13), (0, .ref 44), (1, .int i1), (2, .int i2), (3, .int i3), (4, .int i4), (6, .int i6)] [.int (if 0 ≤ (lg_cmp v13 (0 : Int64)) then (if (lg_cmp v13 (9 : Int64)) ≤ 0 then v13.toInt32 else (9 : Int32)) else (0 : Int32)), .int (i3 + i6), .ref 45] σ := by
        obtain ⟨h14, hX⟩ := ob hX
        refine V.iast 45 dM_ranks_137 (rfl : kd 45 = (7, 7)) h14 rfl ?_
        replace hX := nmx hX; generalize sI σ 45 (ix (i3 + i6)) (if 0 ≤ (lg_cmp v13 (0 : Int64)) then (if (lg_cmp v13 (9 : Int64)) ≤ 0 then v13.toInt32 else (9 : Int32)) else (0 : Int32)) = σ15 at hX ⊢; try dsimp only at hX
        refine V.iinc 6 (1 : Int32) _ dM_ranks_138 rfl lc1 (by decide) rfl rfl ?_
        replace hX := nmx hX; generalize i6 + (1 : Int32) = v16 at hX ⊢; try dsimp only at hX
        refine V.goto 78 dM_ranks_141 rfl ?_
        refine V.sub [2, 3, 4, 5, 6, 0] rfl ?_
        exact ih σ15 i1 i2 i3 i4 v16 hX
      refine V.ifge 120 dM_ranks_113 rfl rfl (fun g17 => ?_) (fun g17 => ?_)
      · refine V.lload 0 dM_ranks_120 rfl rfl ?_
        refine V.ldc2 (9 : Int64) dM_ranks_122 cM_282 rfl ?_
        refine V.lcmp dM_ranks_125 rfl ?_
        refine V.ifle 134 dM_ranks_126 rfl rfl (fun g18 => ?_) (fun g18 => ?_)
        · refine V.lload 0 dM_ranks_134 rfl rfl ?_
          refine V.l2i dM_ranks_136 rfl ?_
          exact V.top ((if_pos g17).trans (if_pos g18)).symm JJ
        · refine V.bipush (9 : Int32) dM_ranks_129 lb9 rfl ?_
          refine V.goto 137 dM_ranks_131 rfl ?_
          exact V.top ((if_pos g17).trans (if_neg g18)).symm JJ
      · refine V.iconst (0 : Int32) dM_ranks_116 lc0 rfl ?_
        refine V.goto 137 dM_ranks_117 rfl ?_
        exact V.top (if_neg g17).symm JJ
set_option maxRecDepth 4000 in
theorem wM_ranks {E : Ev} {z : Int32 × St} (σ : St) (i1 : Int32) (i2 : Int32) (i3 : Int32) (i4 : Int32) (hX : fM_ranks σ i1 i2 i3 i4 = some z) : V E mM_ranks (FM E (some (.int z.1), z.2)) 0 [(0, .ref 44), (1, .int i1), (2, .int i2), (3, .int i3), (4, .int i4)] [] σ := by
  unfold fM_ranks at hX
  refine V.iloadn 1 dM_ranks_0 rfl rfl ?_
  refine V.callsi [.int i1] dM_ranks_1 (kM_isShelf (σ := σ) i1) mlM_276 myM_isShelf mnM_isShelf ⟨rfl, rfl, by decide, by decide⟩ rfl (Nat.le_of_ble_eq_true rfl) ⟨Nat.zero_le _, Nat.zero_le _⟩ rfl ?_
  refine V.ifeq 37 dM_ranks_4 rfl rfl (fun g1 => ?_) (fun g1 => ?_)
  · replace hX := ip hX g1
    refine V.iconst (-1 : Int32) dM_ranks_37 lcm1 rfl ?_
    have hX := (Option.some.inj hX).symm; subst hX; exact V.iret dM_ranks_38 rfl rfl
  · replace hX := im hX g1
    refine V.aloadn 0 dM_ranks_7 rfl rfl ?_
    refine V.iloadn 3 dM_ranks_8 rfl rfl ?_
    refine V.callvi 44 [.int i3] dM_ranks_9 (kM_isPerson (σ := σ) i3) mlM_203 myM_isPerson mnM_isPerson ⟨rfl, rfl, by decide, by decide⟩ (rfl : kd 44 = (6, 0)) (by decide) rfl (Nat.le_of_ble_eq_true rfl) ⟨Nat.zero_le _, Nat.zero_le _⟩ rfl ?_
    refine V.ifeq 37 dM_ranks_12 rfl rfl (fun g2 => ?_) (fun g2 => ?_)
    · replace hX := ip hX g2
      refine V.iconst (-1 : Int32) dM_ranks_37 lcm1 rfl ?_
      have hX := (Option.some.inj hX).symm; subst hX; exact V.iret dM_ranks_38 rfl rfl
    · replace hX := im hX g2
      refine V.iload 4 dM_ranks_15 rfl rfl ?_
      refine V.iconst (0 : Int32) dM_ranks_17 lc0 rfl ?_
      refine V.bipush (7 : Int32) dM_ranks_18 lb7 rfl ?_
      refine V.callsi [.int i4, .int (0 : Int32), .int (7 : Int32)] dM_ranks_20 (kM_in (σ := σ) i4 (0 : Int32) (7 : Int32)) mlM_84 myM_in mnM_in ⟨rfl, rfl, by decide, by decide⟩ rfl (Nat.le_of_ble_eq_true rfl) ⟨Nat.zero_le _, Nat.zero_le _⟩ rfl ?_
      refine V.ifeq 37 dM_ranks_23 rfl rfl (fun g3 => ?_) (fun g3 => ?_)
      · replace hX := ip hX g3
        refine V.iconst (-1 : Int32) dM_ranks_37 lcm1 rfl ?_
        have hX := (Option.some.inj hX).symm; subst hX; exact V.iret dM_ranks_38 rfl rfl
      · replace hX := im hX g3
        refine V.iloadn 3 dM_ranks_26 rfl rfl ?_
        refine V.iload 4 dM_ranks_27 rfl rfl ?_
        refine V.iadd dM_ranks_29 rfl ?_
        refine V.aloadn 0 dM_ranks_30 rfl rfl ?_
        refine V.geti 44 dM_ranks_31 flM_81 (rfl : kd 44 = (6, 0)) rfl ?_
        refine V.icmple 39 dM_ranks_34 rfl rfl (fun g4 => ?_) (fun g4 => ?_)
        · replace hX := ip hX g4
          refine V.aloadn 0 dM_ranks_39 rfl rfl ?_
          refine V.iloadn 1 dM_ranks_40 rfl rfl ?_
          refine V.iconst (2 : Int32) dM_ranks_41 lc2 rfl ?_
          obtain ⟨q5, c6, hX⟩ := bd hX; try dsimp only at hX
          refine V.callvi 44 [.int i1, .int (2 : Int32)] dM_ranks_42 (kM_lacksSort c6) mlM_279 myM_lacksSort mnM_lacksSort ⟨rfl, rfl, by decide, by decide⟩ (rfl : kd 44 = (6, 0)) (by decide) rfl (Nat.le_of_ble_eq_true rfl) ⟨Nat.zero_le _, Nat.zero_le _⟩ rfl ?_
          refine V.istore _ dM_ranks_45 (by decide) rfl rfl ?_
          refine V.iload 0 dM_ranks_47 rfl rfl ?_
          refine V.ifeq 55 dM_ranks_49 rfl rfl (fun g7 => ?_) (fun g7 => ?_)
          · replace hX := ip hX g7
            refine V.iloadn 3 dM_ranks_55 rfl rfl ?_
            refine V.iflt 72 dM_ranks_56 rfl rfl (fun g8 => ?_) (fun g8 => ?_)
            · replace hX := ip hX g8
              refine V.bipush (-12 : Int32) dM_ranks_72 lbm12 rfl ?_
              have hX := (Option.some.inj hX).symm; subst hX; exact V.iret dM_ranks_74 rfl rfl
            · replace hX := im hX g8
              refine V.iloadn 3 dM_ranks_59 rfl rfl ?_
              refine V.aloadn 1 dM_ranks_60 rfl rfl ?_
              refine V.getr 44 59 dM_ranks_61 flM_56 (rfl : kd 44 = (6, 0)) rfl rfl ?_
              refine V.iloadn 2 dM_ranks_64 rfl rfl ?_
              obtain ⟨h9, hX⟩ := ob hX
              refine V.iald 59 dM_ranks_65 (rfl : kd 59 = (7, 4)) h9 rfl ?_
              refine V.iload 5 dM_ranks_66 rfl rfl ?_
              refine V.isub dM_ranks_68 rfl ?_
              refine V.icmple 75 dM_ranks_69 rfl rfl (fun g10 => ?_) (fun g10 => ?_)
              · replace hX := ip hX g10
                refine V.iconst (0 : Int32) dM_ranks_75 lc0 rfl ?_
                refine V.istore _ dM_ranks_76 (by decide) rfl rfl ?_
                refine V.sub [2, 3, 4, 5, 6, 0] rfl ?_
                exact wM_ranks_78 300 σ i1 i2 i3 i4 (0 : Int32) hX
              · replace hX := im hX g10
                refine V.bipush (-12 : Int32) dM_ranks_72 lbm12 rfl ?_
                have hX := (Option.some.inj hX).symm; subst hX; exact V.iret dM_ranks_74 rfl rfl
          · replace hX := im hX g7
            refine V.iload 0 dM_ranks_52 rfl rfl ?_
            have hX := (Option.some.inj hX).symm; subst hX; exact V.iret dM_ranks_54 rfl rfl
        · replace hX := im hX g4
          refine V.iconst (-1 : Int32) dM_ranks_37 lcm1 rfl ?_
          have hX := (Option.some.inj hX).symm; subst hX; exact V.iret dM_ranks_38 rfl rfl
theorem kM_ranks {E : Ev} {σ σ2 : St} {i1 : Int32} {i2 : Int32} {i3 : Int32} {i4 : Int32} {z : Int32} (h : fM_ranks σ i1 i2 i3 i4 = some (z, σ2)) : Ct mM_ranks E [.ref 44, .int i1, .int i2, .int i3, .int i4] σ (some (.int z), σ2) := Ct.of (by decide) (Nat.le_of_ble_eq_true rfl) (wM_ranks σ i1 i2 i3 i4 h)
theorem dM_sheet_0 : decode mM_sheet.1 0 = .ok (.iload_n 1, 1) := by decide +kernel
theorem dM_sheet_1 : decode mM_sheet.1 1 = .ok (.invokestatic 276, 3) := by decide +kernel
theorem dM_sheet_4 : decode mM_sheet.1 4 = .ok (.ifCond .eq 22, 3) := by decide +kernel
theorem dM_sheet_7 : decode mM_sheet.1 7 = .ok (.iload_n 2, 1) := by decide +kernel
theorem dM_sheet_8 : decode mM_sheet.1 8 = .ok (.iconst (-1), 1) := by decide +kernel
theorem dM_sheet_9 : decode mM_sheet.1 9 = .ok (.iconst 3, 1) := by decide +kernel
theorem dM_sheet_10 : decode mM_sheet.1 10 = .ok (.invokestatic 84, 3) := by decide +kernel
theorem dM_sheet_13 : decode mM_sheet.1 13 = .ok (.ifCond .eq 13, 3) := by decide +kernel
theorem dM_sheet_16 : decode mM_sheet.1 16 = .ok (.iload_n 2, 1) := by decide +kernel
theorem dM_sheet_17 : decode mM_sheet.1 17 = .ok (.ifCond .lt 11, 3) := by decide +kernel
theorem dM_sheet_20 : decode mM_sheet.1 20 = .ok (.iload_n 3, 1) := by decide +kernel
theorem dM_sheet_21 : decode mM_sheet.1 21 = .ok (.bipush 40, 2) := by decide +kernel
theorem dM_sheet_23 : decode mM_sheet.1 23 = .ok (.if_icmp .le 5, 3) := by decide +kernel
theorem dM_sheet_26 : decode mM_sheet.1 26 = .ok (.iconst (-1), 1) := by decide +kernel
theorem dM_sheet_27 : decode mM_sheet.1 27 = .ok (.ireturn, 1) := by decide +kernel
theorem dM_sheet_28 : decode mM_sheet.1 28 = .ok (.iload_n 2, 1) := by decide +kernel
theorem dM_sheet_29 : decode mM_sheet.1 29 = .ok (.ifCond .lt 10, 3) := by decide +kernel
theorem dM_sheet_32 : decode mM_sheet.1 32 = .ok (.iload_n 3, 1) := by decide +kernel
theorem dM_sheet_33 : decode mM_sheet.1 33 = .ok (.ifCond .ge 6, 3) := by decide +kernel
theorem dM_sheet_36 : decode mM_sheet.1 36 = .ok (.bipush (-14), 2) := by decide +kernel
theorem dM_sheet_38 : decode mM_sheet.1 38 = .ok (.ireturn, 1) := by decide +kernel
theorem dM_sheet_39 : decode mM_sheet.1 39 = .ok (.aload_n 0, 1) := by decide +kernel
theorem dM_sheet_40 : decode mM_sheet.1 40 = .ok (.getfield 53, 3) := by decide +kernel
theorem dM_sheet_43 : decode mM_sheet.1 43 = .ok (.iload_n 1, 1) := by decide +kernel
theorem dM_sheet_44 : decode mM_sheet.1 44 = .ok (.iload_n 2, 1) := by decide +kernel
theorem dM_sheet_45 : decode mM_sheet.1 45 = .ok (.iastore, 1) := by decide +kernel
theorem dM_sheet_46 : decode mM_sheet.1 46 = .ok (.aload_n 0, 1) := by decide +kernel
theorem dM_sheet_47 : decode mM_sheet.1 47 = .ok (.getfield 56, 3) := by decide +kernel
theorem dM_sheet_50 : decode mM_sheet.1 50 = .ok (.iload_n 1, 1) := by decide +kernel
theorem dM_sheet_51 : decode mM_sheet.1 51 = .ok (.iload_n 2, 1) := by decide +kernel
theorem dM_sheet_52 : decode mM_sheet.1 52 = .ok (.ifCond .ge 7, 3) := by decide +kernel
theorem dM_sheet_55 : decode mM_sheet.1 55 = .ok (.iconst 0, 1) := by decide +kernel
theorem dM_sheet_56 : decode mM_sheet.1 56 = .ok (.goto 4, 3) := by decide +kernel
theorem dM_sheet_59 : decode mM_sheet.1 59 = .ok (.iload_n 3, 1) := by decide +kernel
theorem dM_sheet_60 : decode mM_sheet.1 60 = .ok (.iastore, 1) := by decide +kernel
theorem dM_sheet_61 : decode mM_sheet.1 61 = .ok (.iconst 0, 1) := by decide +kernel
theorem dM_sheet_62 : decode mM_sheet.1 62 = .ok (.istore 4, 2) := by decide +kernel
theorem dM_sheet_64 : decode mM_sheet.1 64 = .ok (.iload 4, 2) := by decide +kernel
theorem dM_sheet_66 : decode mM_sheet.1 66 = .ok (.bipush 40, 2) := by decide +kernel
theorem dM_sheet_68 : decode mM_sheet.1 68 = .ok (.if_icmp .ge 22, 3) := by decide +kernel
theorem dM_sheet_71 : decode mM_sheet.1 71 = .ok (.aload_n 0, 1) := by decide +kernel
theorem dM_sheet_72 : decode mM_sheet.1 72 = .ok (.getfield 59, 3) := by decide +kernel
theorem dM_sheet_75 : decode mM_sheet.1 75 = .ok (.bipush 40, 2) := by decide +kernel
theorem dM_sheet_77 : decode mM_sheet.1 77 = .ok (.iload_n 1, 1) := by decide +kernel
theorem dM_sheet_78 : decode mM_sheet.1 78 = .ok (.imul, 1) := by decide +kernel
theorem dM_sheet_79 : decode mM_sheet.1 79 = .ok (.iload 4, 2) := by decide +kernel
theorem dM_sheet_81 : decode mM_sheet.1 81 = .ok (.iadd, 1) := by decide +kernel
theorem dM_sheet_82 : decode mM_sheet.1 82 = .ok (.lconst 0, 1) := by decide +kernel
theorem dM_sheet_83 : decode mM_sheet.1 83 = .ok (.lastore, 1) := by decide +kernel
theorem dM_sheet_84 : decode mM_sheet.1 84 = .ok (.iinc 4 1, 3) := by decide +kernel
theorem dM_sheet_87 : decode mM_sheet.1 87 = .ok (.goto (-23), 3) := by decide +kernel
theorem dM_sheet_90 : decode mM_sheet.1 90 = .ok (.iconst 1, 1) := by decide +kernel
theorem dM_sheet_91 : decode mM_sheet.1 91 = .ok (.ireturn, 1) := by decide +kernel
set_option maxRecDepth 4000 in
theorem wM_sheet_64 {E : Ev} {z : Int32 × St} : ∀ (fu : Nat) (σ : St) (i1 : Int32) (i4 : Int32), fM_sheet_64 fu σ i1 i4 = some z → V E mM_sheet (FM E (some (.int z.1), z.2)) 64 [(0, .ref 44), (1, .int i1), (4, .int i4)] [] σ := by
  intro fu
  induction fu with
  | zero => intro σ i1 i4 hX; cases hX
  | succ fu ih =>
    intro σ i1 i4 hX
    rw [fM_sheet_64] at hX
    refine V.iload 2 dM_sheet_64 rfl rfl ?_
    refine V.bipush (40 : Int32) dM_sheet_66 lb40 rfl ?_
    refine V.icmpge 90 dM_sheet_68 rfl rfl (fun g9 => ?_) (fun g9 => ?_)
    · replace hX := ip hX g9
      refine V.iconst (1 : Int32) dM_sheet_90 lc1 rfl ?_
      have hX := (Option.some.inj hX).symm; subst hX; exact V.iret dM_sheet_91 rfl rfl
    · replace hX := im hX g9
      refine V.aloadn 0 dM_sheet_71 rfl rfl ?_
      refine V.getr 44 60 dM_sheet_72 flM_59 (rfl : kd 44 = (6, 0)) rfl rfl ?_
      refine V.bipush (40 : Int32) dM_sheet_75 lb40 rfl ?_
      refine V.iloadn 1 dM_sheet_77 rfl rfl ?_
      refine V.imul dM_sheet_78 rfl ?_
      refine V.iload 2 dM_sheet_79 rfl rfl ?_
      refine V.iadd dM_sheet_81 rfl ?_
      refine V.lconst (0 : Int64) dM_sheet_82 rfl rfl ?_
      obtain ⟨h10, hX⟩ := ob hX
      refine V.last 60 dM_sheet_83 (rfl : kd 60 = (8, 160)) h10 rfl ?_
      replace hX := nmx hX; generalize sL σ 60 (ix (((40 : Int32) * i1) + i4)) (0 : Int64) = σ11 at hX ⊢; try dsimp only at hX
      refine V.iinc 2 (1 : Int32) _ dM_sheet_84 rfl lc1 (by decide) rfl rfl ?_
      replace hX := nmx hX; generalize i4 + (1 : Int32) = v12 at hX ⊢; try dsimp only at hX
      refine V.goto 64 dM_sheet_87 rfl ?_
      refine V.sub [1, 2, 0] rfl ?_
      exact ih σ11 i1 v12 hX
set_option maxRecDepth 4000 in
theorem wM_sheet_39 {E : Ev} {z : Int32 × St} (σ : St) (i1 : Int32) (i2 : Int32) (i3 : Int32) (hX : fM_sheet_39 σ i1 i2 i3 = some z) : V E mM_sheet (FM E (some (.int z.1), z.2)) 39 [(0, .ref 44), (1, .int i1), (2, .int i2), (3, .int i3)] [] σ := by
  unfold fM_sheet_39 at hX
  refine V.aloadn 0 dM_sheet_39 rfl rfl ?_
  refine V.getr 44 58 dM_sheet_40 flM_53 (rfl : kd 44 = (6, 0)) rfl rfl ?_
  refine V.iloadn 1 dM_sheet_43 rfl rfl ?_
  refine V.iloadn 2 dM_sheet_44 rfl rfl ?_
  obtain ⟨h5, hX⟩ := ob hX
  refine V.iast 58 dM_sheet_45 (rfl : kd 58 = (7, 4)) h5 rfl ?_
  replace hX := nmx hX; generalize sI σ 58 (ix i1) i2 = σ6 at hX ⊢; try dsimp only at hX
  refine V.aloadn 0 dM_sheet_46 rfl rfl ?_
  refine V.getr 44 59 dM_sheet_47 flM_56 (rfl : kd 44 = (6, 0)) rfl rfl ?_
  refine V.iloadn 1 dM_sheet_50 rfl rfl ?_
  refine V.iloadn 2 dM_sheet_51 rfl rfl ?_
  have JJ : V E mM_sheet (FM E (some (.int z.1), z.2)) 60 [(0, .ref 44), (1, .int i1), (2, .int i2), (3, .int i3)] [.int (if 0 ≤ i2 then i3 else (0 : Int32)), .int i1, .ref 59] σ6 := by
    obtain ⟨h7, hX⟩ := ob hX
    refine V.iast 59 dM_sheet_60 (rfl : kd 59 = (7, 4)) h7 rfl ?_
    replace hX := nmx hX; generalize sI σ6 59 (ix i1) (if 0 ≤ i2 then i3 else (0 : Int32)) = σ8 at hX ⊢; try dsimp only at hX
    refine V.iconst (0 : Int32) dM_sheet_61 lc0 rfl ?_
    refine V.istore _ dM_sheet_62 (by decide) rfl rfl ?_
    refine V.sub [1, 2, 0] rfl ?_
    exact wM_sheet_64 300 σ8 i1 (0 : Int32) hX
  refine V.ifge 59 dM_sheet_52 rfl rfl (fun g13 => ?_) (fun g13 => ?_)
  · refine V.iloadn 3 dM_sheet_59 rfl rfl ?_
    exact V.top (if_pos g13).symm JJ
  · refine V.iconst (0 : Int32) dM_sheet_55 lc0 rfl ?_
    refine V.goto 60 dM_sheet_56 rfl ?_
    exact V.top (if_neg g13).symm JJ
set_option maxRecDepth 4000 in
theorem wM_sheet_28 {E : Ev} {z : Int32 × St} (σ : St) (i1 : Int32) (i2 : Int32) (i3 : Int32) (hX : fM_sheet_28 σ i1 i2 i3 = some z) : V E mM_sheet (FM E (some (.int z.1), z.2)) 28 [(0, .ref 44), (1, .int i1), (2, .int i2), (3, .int i3)] [] σ := by
  unfold fM_sheet_28 at hX
  refine V.iloadn 2 dM_sheet_28 rfl rfl ?_
  refine V.iflt 39 dM_sheet_29 rfl rfl (fun g4 => ?_) (fun g4 => ?_)
  · replace hX := ip hX g4
    refine V.sub [0, 1, 2, 3] rfl ?_
    exact wM_sheet_39 σ i1 i2 i3 hX
  · replace hX := im hX g4
    refine V.iloadn 3 dM_sheet_32 rfl rfl ?_
    refine V.ifge 39 dM_sheet_33 rfl rfl (fun g14 => ?_) (fun g14 => ?_)
    · replace hX := ip hX g14
      refine V.sub [0, 1, 2, 3] rfl ?_
      exact wM_sheet_39 σ i1 i2 i3 hX
    · replace hX := im hX g14
      refine V.bipush (-14 : Int32) dM_sheet_36 lbm14 rfl ?_
      have hX := (Option.some.inj hX).symm; subst hX; exact V.iret dM_sheet_38 rfl rfl
set_option maxRecDepth 4000 in
theorem wM_sheet {E : Ev} {z : Int32 × St} (σ : St) (i1 : Int32) (i2 : Int32) (i3 : Int32) (hX : fM_sheet σ i1 i2 i3 = some z) : V E mM_sheet (FM E (some (.int z.1), z.2)) 0 [(0, .ref 44), (1, .int i1), (2, .int i2), (3, .int i3)] [] σ := by
  unfold fM_sheet at hX
  refine V.iloadn 1 dM_sheet_0 rfl rfl ?_
  refine V.callsi [.int i1] dM_sheet_1 (kM_isShelf (σ := σ) i1) mlM_276 myM_isShelf mnM_isShelf ⟨rfl, rfl, by decide, by decide⟩ rfl (Nat.le_of_ble_eq_true rfl) ⟨Nat.zero_le _, Nat.zero_le _⟩ rfl ?_
  refine V.ifeq 26 dM_sheet_4 rfl rfl (fun g1 => ?_) (fun g1 => ?_)
  · replace hX := ip hX g1
    refine V.iconst (-1 : Int32) dM_sheet_26 lcm1 rfl ?_
    have hX := (Option.some.inj hX).symm; subst hX; exact V.iret dM_sheet_27 rfl rfl
  · replace hX := im hX g1
    refine V.iloadn 2 dM_sheet_7 rfl rfl ?_
    refine V.iconst (-1 : Int32) dM_sheet_8 lcm1 rfl ?_
    refine V.iconst (3 : Int32) dM_sheet_9 lc3 rfl ?_
    refine V.callsi [.int i2, .int (-1 : Int32), .int (3 : Int32)] dM_sheet_10 (kM_in (σ := σ) i2 (-1 : Int32) (3 : Int32)) mlM_84 myM_in mnM_in ⟨rfl, rfl, by decide, by decide⟩ rfl (Nat.le_of_ble_eq_true rfl) ⟨Nat.zero_le _, Nat.zero_le _⟩ rfl ?_
    refine V.ifeq 26 dM_sheet_13 rfl rfl (fun g2 => ?_) (fun g2 => ?_)
    · replace hX := ip hX g2
      refine V.iconst (-1 : Int32) dM_sheet_26 lcm1 rfl ?_
      have hX := (Option.some.inj hX).symm; subst hX; exact V.iret dM_sheet_27 rfl rfl
    · replace hX := im hX g2
      refine V.iloadn 2 dM_sheet_16 rfl rfl ?_
      refine V.iflt 28 dM_sheet_17 rfl rfl (fun g3 => ?_) (fun g3 => ?_)
      · replace hX := ip hX g3
        refine V.sub [0, 1, 2, 3] rfl ?_
        exact wM_sheet_28 σ i1 i2 i3 hX
      · replace hX := im hX g3
        refine V.iloadn 3 dM_sheet_20 rfl rfl ?_
        refine V.bipush (40 : Int32) dM_sheet_21 lb40 rfl ?_
        refine V.icmple 28 dM_sheet_23 rfl rfl (fun g15 => ?_) (fun g15 => ?_)
        · replace hX := ip hX g15
          refine V.sub [0, 1, 2, 3] rfl ?_
          exact wM_sheet_28 σ i1 i2 i3 hX
        · replace hX := im hX g15
          refine V.iconst (-1 : Int32) dM_sheet_26 lcm1 rfl ?_
          have hX := (Option.some.inj hX).symm; subst hX; exact V.iret dM_sheet_27 rfl rfl
theorem kM_sheet {E : Ev} {σ σ2 : St} {i1 : Int32} {i2 : Int32} {i3 : Int32} {z : Int32} (h : fM_sheet σ i1 i2 i3 = some (z, σ2)) : Ct mM_sheet E [.ref 44, .int i1, .int i2, .int i3] σ (some (.int z), σ2) := Ct.of (by decide) (Nat.le_of_ble_eq_true rfl) (wM_sheet σ i1 i2 i3 h)
theorem dM_put_0 : decode mM_put.1 0 = .ok (.iload_n 1, 1) := by decide +kernel
theorem dM_put_1 : decode mM_put.1 1 = .ok (.invokestatic 276, 3) := by decide +kernel
theorem dM_put_4 : decode mM_put.1 4 = .ok (.ifCond .ne 5, 3) := by decide +kernel
theorem dM_put_7 : decode mM_put.1 7 = .ok (.iconst (-1), 1) := by decide +kernel
theorem dM_put_8 : decode mM_put.1 8 = .ok (.ireturn, 1) := by decide +kernel
theorem dM_put_9 : decode mM_put.1 9 = .ok (.aload_n 0, 1) := by decide +kernel
theorem dM_put_10 : decode mM_put.1 10 = .ok (.getfield 53, 3) := by decide +kernel
theorem dM_put_13 : decode mM_put.1 13 = .ok (.iload_n 1, 1) := by decide +kernel
theorem dM_put_14 : decode mM_put.1 14 = .ok (.iaload, 1) := by decide +kernel
theorem dM_put_15 : decode mM_put.1 15 = .ok (.ifCond .ge 6, 3) := by decide +kernel
theorem dM_put_18 : decode mM_put.1 18 = .ok (.bipush (-11), 2) := by decide +kernel
theorem dM_put_20 : decode mM_put.1 20 = .ok (.ireturn, 1) := by decide +kernel
theorem dM_put_21 : decode mM_put.1 21 = .ok (.iload_n 2, 1) := by decide +kernel
theorem dM_put_22 : decode mM_put.1 22 = .ok (.iconst 0, 1) := by decide +kernel
theorem dM_put_23 : decode mM_put.1 23 = .ok (.aload_n 0, 1) := by decide +kernel
theorem dM_put_24 : decode mM_put.1 24 = .ok (.getfield 56, 3) := by decide +kernel
theorem dM_put_27 : decode mM_put.1 27 = .ok (.iload_n 1, 1) := by decide +kernel
theorem dM_put_28 : decode mM_put.1 28 = .ok (.iaload, 1) := by decide +kernel
theorem dM_put_29 : decode mM_put.1 29 = .ok (.iconst 1, 1) := by decide +kernel
theorem dM_put_30 : decode mM_put.1 30 = .ok (.isub, 1) := by decide +kernel
theorem dM_put_31 : decode mM_put.1 31 = .ok (.invokestatic 84, 3) := by decide +kernel
theorem dM_put_34 : decode mM_put.1 34 = .ok (.ifCond .ne 6, 3) := by decide +kernel
theorem dM_put_37 : decode mM_put.1 37 = .ok (.bipush (-12), 2) := by decide +kernel
theorem dM_put_39 : decode mM_put.1 39 = .ok (.ireturn, 1) := by decide +kernel
theorem dM_put_40 : decode mM_put.1 40 = .ok (.aload_n 0, 1) := by decide +kernel
theorem dM_put_41 : decode mM_put.1 41 = .ok (.getfield 59, 3) := by decide +kernel
theorem dM_put_44 : decode mM_put.1 44 = .ok (.bipush 40, 2) := by decide +kernel
theorem dM_put_46 : decode mM_put.1 46 = .ok (.iload_n 1, 1) := by decide +kernel
theorem dM_put_47 : decode mM_put.1 47 = .ok (.imul, 1) := by decide +kernel
theorem dM_put_48 : decode mM_put.1 48 = .ok (.iload_n 2, 1) := by decide +kernel
theorem dM_put_49 : decode mM_put.1 49 = .ok (.iadd, 1) := by decide +kernel
theorem dM_put_50 : decode mM_put.1 50 = .ok (.aload_n 0, 1) := by decide +kernel
theorem dM_put_51 : decode mM_put.1 51 = .ok (.getfield 53, 3) := by decide +kernel
theorem dM_put_54 : decode mM_put.1 54 = .ok (.iload_n 1, 1) := by decide +kernel
theorem dM_put_55 : decode mM_put.1 55 = .ok (.iaload, 1) := by decide +kernel
theorem dM_put_56 : decode mM_put.1 56 = .ok (.ifCond .ne 9, 3) := by decide +kernel
theorem dM_put_59 : decode mM_put.1 59 = .ok (.iload_n 3, 1) := by decide +kernel
theorem dM_put_60 : decode mM_put.1 60 = .ok (.i2b, 1) := by decide +kernel
theorem dM_put_61 : decode mM_put.1 61 = .ok (.i2l, 1) := by decide +kernel
theorem dM_put_62 : decode mM_put.1 62 = .ok (.goto 21, 3) := by decide +kernel
theorem dM_put_65 : decode mM_put.1 65 = .ok (.aload_n 0, 1) := by decide +kernel
theorem dM_put_66 : decode mM_put.1 66 = .ok (.getfield 53, 3) := by decide +kernel
theorem dM_put_69 : decode mM_put.1 69 = .ok (.iload_n 1, 1) := by decide +kernel
theorem dM_put_70 : decode mM_put.1 70 = .ok (.iaload, 1) := by decide +kernel
theorem dM_put_71 : decode mM_put.1 71 = .ok (.iconst 1, 1) := by decide +kernel
theorem dM_put_72 : decode mM_put.1 72 = .ok (.if_icmp .ne 9, 3) := by decide +kernel
theorem dM_put_75 : decode mM_put.1 75 = .ok (.iload_n 3, 1) := by decide +kernel
theorem dM_put_76 : decode mM_put.1 76 = .ok (.i2s, 1) := by decide +kernel
theorem dM_put_77 : decode mM_put.1 77 = .ok (.i2l, 1) := by decide +kernel
theorem dM_put_78 : decode mM_put.1 78 = .ok (.goto 5, 3) := by decide +kernel
theorem dM_put_81 : decode mM_put.1 81 = .ok (.iload_n 3, 1) := by decide +kernel
theorem dM_put_82 : decode mM_put.1 82 = .ok (.i2l, 1) := by decide +kernel
theorem dM_put_83 : decode mM_put.1 83 = .ok (.lastore, 1) := by decide +kernel
theorem dM_put_84 : decode mM_put.1 84 = .ok (.iconst 1, 1) := by decide +kernel
theorem dM_put_85 : decode mM_put.1 85 = .ok (.ireturn, 1) := by decide +kernel
set_option maxRecDepth 4000 in
theorem wM_put {E : Ev} {z : Int32 × St} (σ : St) (i1 : Int32) (i2 : Int32) (i3 : Int32) (hX : fM_put σ i1 i2 i3 = some z) : V E mM_put (FM E (some (.int z.1), z.2)) 0 [(0, .ref 44), (1, .int i1), (2, .int i2), (3, .int i3)] [] σ := by
  unfold fM_put at hX
  refine V.iloadn 1 dM_put_0 rfl rfl ?_
  refine V.callsi [.int i1] dM_put_1 (kM_isShelf (σ := σ) i1) mlM_276 myM_isShelf mnM_isShelf ⟨rfl, rfl, by decide, by decide⟩ rfl (Nat.le_of_ble_eq_true rfl) ⟨Nat.zero_le _, Nat.zero_le _⟩ rfl ?_
  refine V.ifne 9 dM_put_4 rfl rfl (fun g1 => ?_) (fun g1 => ?_)
  · replace hX := im hX g1
    refine V.aloadn 0 dM_put_9 rfl rfl ?_
    refine V.getr 44 58 dM_put_10 flM_53 (rfl : kd 44 = (6, 0)) rfl rfl ?_
    refine V.iloadn 1 dM_put_13 rfl rfl ?_
    obtain ⟨h2, hX⟩ := ob hX
    refine V.iald 58 dM_put_14 (rfl : kd 58 = (7, 4)) h2 rfl ?_
    refine V.ifge 21 dM_put_15 rfl rfl (fun g3 => ?_) (fun g3 => ?_)
    · replace hX := ip hX g3
      refine V.iloadn 2 dM_put_21 rfl rfl ?_
      refine V.iconst (0 : Int32) dM_put_22 lc0 rfl ?_
      refine V.aloadn 0 dM_put_23 rfl rfl ?_
      refine V.getr 44 59 dM_put_24 flM_56 (rfl : kd 44 = (6, 0)) rfl rfl ?_
      refine V.iloadn 1 dM_put_27 rfl rfl ?_
      obtain ⟨h4, hX⟩ := ob hX
      refine V.iald 59 dM_put_28 (rfl : kd 59 = (7, 4)) h4 rfl ?_
      refine V.iconst (1 : Int32) dM_put_29 lc1 rfl ?_
      refine V.isub dM_put_30 rfl ?_
      refine V.callsi [.int i2, .int (0 : Int32), .int ((gI σ 59 (ix i1)) - (1 : Int32))] dM_put_31 (kM_in (σ := σ) i2 (0 : Int32) ((gI σ 59 (ix i1)) - (1 : Int32))) mlM_84 myM_in mnM_in ⟨rfl, rfl, by decide, by decide⟩ rfl (Nat.le_of_ble_eq_true rfl) ⟨Nat.zero_le _, Nat.zero_le _⟩ rfl ?_
      refine V.ifne 40 dM_put_34 rfl rfl (fun g5 => ?_) (fun g5 => ?_)
      · replace hX := im hX g5
        refine V.aloadn 0 dM_put_40 rfl rfl ?_
        refine V.getr 44 60 dM_put_41 flM_59 (rfl : kd 44 = (6, 0)) rfl rfl ?_
        refine V.bipush (40 : Int32) dM_put_44 lb40 rfl ?_
        refine V.iloadn 1 dM_put_46 rfl rfl ?_
        refine V.imul dM_put_47 rfl ?_
        refine V.iloadn 2 dM_put_48 rfl rfl ?_
        refine V.iadd dM_put_49 rfl ?_
        refine V.aloadn 0 dM_put_50 rfl rfl ?_
        refine V.getr 44 58 dM_put_51 flM_53 (rfl : kd 44 = (6, 0)) rfl rfl ?_
        refine V.iloadn 1 dM_put_54 rfl rfl ?_
        obtain ⟨h6, hX⟩ := ob hX
        refine V.iald 58 dM_put_55 (rfl : kd 58 = (7, 4)) h6 rfl ?_
        refine V.ifne 65 dM_put_56 rfl rfl (fun g7 => ?_) (fun g7 => ?_)
        · replace hX := im hX g7
          refine V.aloadn 0 dM_put_65 rfl rfl ?_
          refine V.getr 44 58 dM_put_66 flM_53 (rfl : kd 44 = (6, 0)) rfl rfl ?_
          refine V.iloadn 1 dM_put_69 rfl rfl ?_
          obtain ⟨h8, hX⟩ := ob hX
          refine V.iald 58 dM_put_70 (rfl : kd 58 = (7, 4)) h8 rfl ?_
          refine V.iconst (1 : Int32) dM_put_71 lc1 rfl ?_
          refine V.icmpne 81 dM_put_72 rfl rfl (fun g9 => ?_) (fun g9 => ?_)
          · replace hX := im hX g9
            refine V.iloadn 3 dM_put_81 rfl rfl ?_
            refine V.i2l dM_put_82 rfl ?_
            obtain ⟨h10, hX⟩ := ob hX
            refine V.last 60 dM_put_83 (rfl : kd 60 = (8, 160)) h10 rfl ?_
            replace hX := nmx hX; generalize sL σ 60 (ix (((40 : Int32) * i1) + i2)) i3.toInt64 = σ11 at hX ⊢; try dsimp only at hX
            refine V.iconst (1 : Int32) dM_put_84 lc1 rfl ?_
            have hX := (Option.some.inj hX).symm; subst hX; exact V.iret dM_put_85 rfl rfl
          · replace hX := ip hX g9
            refine V.iloadn 3 dM_put_75 rfl rfl ?_
            refine V.i2s dM_put_76 rfl ?_
            refine V.i2l dM_put_77 rfl ?_
            refine V.goto 83 dM_put_78 rfl ?_
            obtain ⟨h12, hX⟩ := ob hX
            refine V.last 60 dM_put_83 (rfl : kd 60 = (8, 160)) h12 rfl ?_
            replace hX := nmx hX; generalize sL σ 60 (ix (((40 : Int32) * i1) + i2)) i3.toInt16.toInt32.toInt64 = σ13 at hX ⊢; try dsimp only at hX
            refine V.iconst (1 : Int32) dM_put_84 lc1 rfl ?_
            have hX := (Option.some.inj hX).symm; subst hX; exact V.iret dM_put_85 rfl rfl
        · replace hX := ip hX g7
          refine V.iloadn 3 dM_put_59 rfl rfl ?_
          refine V.i2b dM_put_60 rfl ?_
          refine V.i2l dM_put_61 rfl ?_
          refine V.goto 83 dM_put_62 rfl ?_
          obtain ⟨h14, hX⟩ := ob hX
          refine V.last 60 dM_put_83 (rfl : kd 60 = (8, 160)) h14 rfl ?_
          replace hX := nmx hX; generalize sL σ 60 (ix (((40 : Int32) * i1) + i2)) i3.toInt8.toInt32.toInt64 = σ15 at hX ⊢; try dsimp only at hX
          refine V.iconst (1 : Int32) dM_put_84 lc1 rfl ?_
          have hX := (Option.some.inj hX).symm; subst hX; exact V.iret dM_put_85 rfl rfl
      · replace hX := ip hX g5
        refine V.bipush (-12 : Int32) dM_put_37 lbm12 rfl ?_
        have hX := (Option.some.inj hX).symm; subst hX; exact V.iret dM_put_39 rfl rfl
    · replace hX := im hX g3
      refine V.bipush (-11 : Int32) dM_put_18 lbm11 rfl ?_
      have hX := (Option.some.inj hX).symm; subst hX; exact V.iret dM_put_20 rfl rfl
  · replace hX := ip hX g1
    refine V.iconst (-1 : Int32) dM_put_7 lcm1 rfl ?_
    have hX := (Option.some.inj hX).symm; subst hX; exact V.iret dM_put_8 rfl rfl
theorem kM_put {E : Ev} {σ σ2 : St} {i1 : Int32} {i2 : Int32} {i3 : Int32} {z : Int32} (h : fM_put σ i1 i2 i3 = some (z, σ2)) : Ct mM_put E [.ref 44, .int i1, .int i2, .int i3] σ (some (.int z), σ2) := Ct.of (by decide) (Nat.le_of_ble_eq_true rfl) (wM_put σ i1 i2 i3 h)
theorem dM_item_0 : decode mM_item.1 0 = .ok (.iload_n 1, 1) := by decide +kernel
theorem dM_item_1 : decode mM_item.1 1 = .ok (.invokestatic 276, 3) := by decide +kernel
theorem dM_item_4 : decode mM_item.1 4 = .ok (.ifCond .eq 12, 3) := by decide +kernel
theorem dM_item_7 : decode mM_item.1 7 = .ok (.iload_n 2, 1) := by decide +kernel
theorem dM_item_8 : decode mM_item.1 8 = .ok (.iconst 0, 1) := by decide +kernel
theorem dM_item_9 : decode mM_item.1 9 = .ok (.iconst 3, 1) := by decide +kernel
theorem dM_item_10 : decode mM_item.1 10 = .ok (.invokestatic 84, 3) := by decide +kernel
theorem dM_item_13 : decode mM_item.1 13 = .ok (.ifCond .ne 5, 3) := by decide +kernel
theorem dM_item_16 : decode mM_item.1 16 = .ok (.iconst (-1), 1) := by decide +kernel
theorem dM_item_17 : decode mM_item.1 17 = .ok (.ireturn, 1) := by decide +kernel
theorem dM_item_18 : decode mM_item.1 18 = .ok (.aload_n 0, 1) := by decide +kernel
theorem dM_item_19 : decode mM_item.1 19 = .ok (.iload_n 1, 1) := by decide +kernel
theorem dM_item_20 : decode mM_item.1 20 = .ok (.iload_n 2, 1) := by decide +kernel
theorem dM_item_21 : decode mM_item.1 21 = .ok (.invokevirtual 279, 3) := by decide +kernel
theorem dM_item_24 : decode mM_item.1 24 = .ok (.istore 4, 2) := by decide +kernel
theorem dM_item_26 : decode mM_item.1 26 = .ok (.iload 4, 2) := by decide +kernel
theorem dM_item_28 : decode mM_item.1 28 = .ok (.ifCond .eq 6, 3) := by decide +kernel
theorem dM_item_31 : decode mM_item.1 31 = .ok (.iload 4, 2) := by decide +kernel
theorem dM_item_33 : decode mM_item.1 33 = .ok (.ireturn, 1) := by decide +kernel
theorem dM_item_34 : decode mM_item.1 34 = .ok (.iload_n 3, 1) := by decide +kernel
theorem dM_item_35 : decode mM_item.1 35 = .ok (.iconst 0, 1) := by decide +kernel
theorem dM_item_36 : decode mM_item.1 36 = .ok (.aload_n 0, 1) := by decide +kernel
theorem dM_item_37 : decode mM_item.1 37 = .ok (.getfield 56, 3) := by decide +kernel
theorem dM_item_40 : decode mM_item.1 40 = .ok (.iload_n 1, 1) := by decide +kernel
theorem dM_item_41 : decode mM_item.1 41 = .ok (.iaload, 1) := by decide +kernel
theorem dM_item_42 : decode mM_item.1 42 = .ok (.iconst 1, 1) := by decide +kernel
theorem dM_item_43 : decode mM_item.1 43 = .ok (.isub, 1) := by decide +kernel
theorem dM_item_44 : decode mM_item.1 44 = .ok (.invokestatic 84, 3) := by decide +kernel
theorem dM_item_47 : decode mM_item.1 47 = .ok (.ifCond .eq 18, 3) := by decide +kernel
theorem dM_item_50 : decode mM_item.1 50 = .ok (.aload_n 0, 1) := by decide +kernel
theorem dM_item_51 : decode mM_item.1 51 = .ok (.getfield 59, 3) := by decide +kernel
theorem dM_item_54 : decode mM_item.1 54 = .ok (.bipush 40, 2) := by decide +kernel
theorem dM_item_56 : decode mM_item.1 56 = .ok (.iload_n 1, 1) := by decide +kernel
theorem dM_item_57 : decode mM_item.1 57 = .ok (.imul, 1) := by decide +kernel
theorem dM_item_58 : decode mM_item.1 58 = .ok (.iload_n 3, 1) := by decide +kernel
theorem dM_item_59 : decode mM_item.1 59 = .ok (.iadd, 1) := by decide +kernel
theorem dM_item_60 : decode mM_item.1 60 = .ok (.laload, 1) := by decide +kernel
theorem dM_item_61 : decode mM_item.1 61 = .ok (.l2i, 1) := by decide +kernel
theorem dM_item_62 : decode mM_item.1 62 = .ok (.goto 5, 3) := by decide +kernel
theorem dM_item_65 : decode mM_item.1 65 = .ok (.bipush (-12), 2) := by decide +kernel
theorem dM_item_67 : decode mM_item.1 67 = .ok (.ireturn, 1) := by decide +kernel
set_option maxRecDepth 4000 in
theorem wM_item {E : Ev} {z : Int32} (σ : St) (i1 : Int32) (i2 : Int32) (i3 : Int32) (hX : fM_item σ i1 i2 i3 = some z) : V E mM_item (FM E (some (.int z), σ)) 0 [(0, .ref 44), (1, .int i1), (2, .int i2), (3, .int i3)] [] σ := by
  unfold fM_item at hX
  refine V.iloadn 1 dM_item_0 rfl rfl ?_
  refine V.callsi [.int i1] dM_item_1 (kM_isShelf (σ := σ) i1) mlM_276 myM_isShelf mnM_isShelf ⟨rfl, rfl, by decide, by decide⟩ rfl (Nat.le_of_ble_eq_true rfl) ⟨Nat.zero_le _, Nat.zero_le _⟩ rfl ?_
  refine V.ifeq 16 dM_item_4 rfl rfl (fun g1 => ?_) (fun g1 => ?_)
  · replace hX := ip hX g1
    refine V.iconst (-1 : Int32) dM_item_16 lcm1 rfl ?_
    have hX := (Option.some.inj hX).symm; subst hX; exact V.iret dM_item_17 rfl rfl
  · replace hX := im hX g1
    refine V.iloadn 2 dM_item_7 rfl rfl ?_
    refine V.iconst (0 : Int32) dM_item_8 lc0 rfl ?_
    refine V.iconst (3 : Int32) dM_item_9 lc3 rfl ?_
    refine V.callsi [.int i2, .int (0 : Int32), .int (3 : Int32)] dM_item_10 (kM_in (σ := σ) i2 (0 : Int32) (3 : Int32)) mlM_84 myM_in mnM_in ⟨rfl, rfl, by decide, by decide⟩ rfl (Nat.le_of_ble_eq_true rfl) ⟨Nat.zero_le _, Nat.zero_le _⟩ rfl ?_
    refine V.ifne 18 dM_item_13 rfl rfl (fun g2 => ?_) (fun g2 => ?_)
    · replace hX := im hX g2
      refine V.aloadn 0 dM_item_18 rfl rfl ?_
      refine V.iloadn 1 dM_item_19 rfl rfl ?_
      refine V.iloadn 2 dM_item_20 rfl rfl ?_
      obtain ⟨q3, c4, hX⟩ := bd hX; try dsimp only at hX
      refine V.callvi 44 [.int i1, .int i2] dM_item_21 (kM_lacksSort c4) mlM_279 myM_lacksSort mnM_lacksSort ⟨rfl, rfl, by decide, by decide⟩ (rfl : kd 44 = (6, 0)) (by decide) rfl (Nat.le_of_ble_eq_true rfl) ⟨Nat.zero_le _, Nat.zero_le _⟩ rfl ?_
      refine V.istore _ dM_item_24 (by decide) rfl rfl ?_
      refine V.iload 0 dM_item_26 rfl rfl ?_
      refine V.ifeq 34 dM_item_28 rfl rfl (fun g5 => ?_) (fun g5 => ?_)
      · replace hX := ip hX g5
        refine V.iloadn 4 dM_item_34 rfl rfl ?_
        refine V.iconst (0 : Int32) dM_item_35 lc0 rfl ?_
        refine V.aloadn 1 dM_item_36 rfl rfl ?_
        refine V.getr 44 59 dM_item_37 flM_56 (rfl : kd 44 = (6, 0)) rfl rfl ?_
        refine V.iloadn 2 dM_item_40 rfl rfl ?_
        obtain ⟨h6, hX⟩ := ob hX
        refine V.iald 59 dM_item_41 (rfl : kd 59 = (7, 4)) h6 rfl ?_
        refine V.iconst (1 : Int32) dM_item_42 lc1 rfl ?_
        refine V.isub dM_item_43 rfl ?_
        refine V.callsi [.int i3, .int (0 : Int32), .int ((gI σ 59 (ix i1)) - (1 : Int32))] dM_item_44 (kM_in (σ := σ) i3 (0 : Int32) ((gI σ 59 (ix i1)) - (1 : Int32))) mlM_84 myM_in mnM_in ⟨rfl, rfl, by decide, by decide⟩ rfl (Nat.le_of_ble_eq_true rfl) ⟨Nat.zero_le _, Nat.zero_le _⟩ rfl ?_
        refine V.ifeq 65 dM_item_47 rfl rfl (fun g7 => ?_) (fun g7 => ?_)
        · replace hX := ip hX g7
          refine V.bipush (-12 : Int32) dM_item_65 lbm12 rfl ?_
          have hX := (Option.some.inj hX).symm; subst hX; exact V.iret dM_item_67 rfl rfl
        · replace hX := im hX g7
          refine V.aloadn 1 dM_item_50 rfl rfl ?_
          refine V.getr 44 60 dM_item_51 flM_59 (rfl : kd 44 = (6, 0)) rfl rfl ?_
          refine V.bipush (40 : Int32) dM_item_54 lb40 rfl ?_
          refine V.iloadn 2 dM_item_56 rfl rfl ?_
          refine V.imul dM_item_57 rfl ?_
          refine V.iloadn 4 dM_item_58 rfl rfl ?_
          refine V.iadd dM_item_59 rfl ?_
          obtain ⟨h8, hX⟩ := ob hX
          refine V.lald 60 dM_item_60 (rfl : kd 60 = (8, 160)) h8 rfl ?_
          refine V.l2i dM_item_61 rfl ?_
          refine V.goto 67 dM_item_62 rfl ?_
          have hX := (Option.some.inj hX).symm; subst hX; exact V.iret dM_item_67 rfl rfl
      · replace hX := im hX g5
        refine V.iload 0 dM_item_31 rfl rfl ?_
        have hX := (Option.some.inj hX).symm; subst hX; exact V.iret dM_item_33 rfl rfl
    · replace hX := ip hX g2
      refine V.iconst (-1 : Int32) dM_item_16 lcm1 rfl ?_
      have hX := (Option.some.inj hX).symm; subst hX; exact V.iret dM_item_17 rfl rfl
theorem kM_item {E : Ev} {σ : St} {i1 : Int32} {i2 : Int32} {i3 : Int32} {z : Int32} (h : fM_item σ i1 i2 i3 = some z) : Ct mM_item E [.ref 44, .int i1, .int i2, .int i3] σ (some (.int z), σ) := Ct.of (by decide) (Nat.le_of_ble_eq_true rfl) (wM_item σ i1 i2 i3 h)
theorem dM_isHeld_0 : decode mM_isHeld.1 0 = .ok (.iload_n 1, 1) := by decide +kernel
theorem dM_isHeld_1 : decode mM_isHeld.1 1 = .ok (.ifCond .ne 11, 3) := by decide +kernel
theorem dM_isHeld_4 : decode mM_isHeld.1 4 = .ok (.aload_n 0, 1) := by decide +kernel
theorem dM_isHeld_5 : decode mM_isHeld.1 5 = .ok (.iload_n 2, 1) := by decide +kernel
theorem dM_isHeld_6 : decode mM_isHeld.1 6 = .ok (.invokevirtual 223, 3) := by decide +kernel
theorem dM_isHeld_9 : decode mM_isHeld.1 9 = .ok (.goto 25, 3) := by decide +kernel
theorem dM_isHeld_12 : decode mM_isHeld.1 12 = .ok (.iload_n 1, 1) := by decide +kernel
theorem dM_isHeld_13 : decode mM_isHeld.1 13 = .ok (.iconst 1, 1) := by decide +kernel
theorem dM_isHeld_14 : decode mM_isHeld.1 14 = .ok (.if_icmp .ne 10, 3) := by decide +kernel
theorem dM_isHeld_17 : decode mM_isHeld.1 17 = .ok (.iload_n 2, 1) := by decide +kernel
theorem dM_isHeld_18 : decode mM_isHeld.1 18 = .ok (.invokestatic 276, 3) := by decide +kernel
theorem dM_isHeld_21 : decode mM_isHeld.1 21 = .ok (.goto 13, 3) := by decide +kernel
theorem dM_isHeld_24 : decode mM_isHeld.1 24 = .ok (.iload_n 1, 1) := by decide +kernel
theorem dM_isHeld_25 : decode mM_isHeld.1 25 = .ok (.iconst 2, 1) := by decide +kernel
theorem dM_isHeld_26 : decode mM_isHeld.1 26 = .ok (.if_icmp .ne 7, 3) := by decide +kernel
theorem dM_isHeld_29 : decode mM_isHeld.1 29 = .ok (.iconst 1, 1) := by decide +kernel
theorem dM_isHeld_30 : decode mM_isHeld.1 30 = .ok (.goto 4, 3) := by decide +kernel
theorem dM_isHeld_33 : decode mM_isHeld.1 33 = .ok (.iconst 0, 1) := by decide +kernel
theorem dM_isHeld_34 : decode mM_isHeld.1 34 = .ok (.ireturn, 1) := by decide +kernel
set_option maxRecDepth 4000 in
theorem wM_isHeld {E : Ev} {z : Int32} (σ : St) (i1 : Int32) (i2 : Int32) (hX : fM_isHeld σ i1 i2 = z) : V E mM_isHeld (FM E (some (.int z), σ)) 0 [(0, .ref 44), (1, .int i1), (2, .int i2)] [] σ := by
  unfold fM_isHeld at hX
  refine V.iloadn 1 dM_isHeld_0 rfl rfl ?_
  have JJ : V E mM_isHeld (FM E (some (.int z), σ)) 34 [(0, .ref 44), (1, .int i1), (2, .int i2)] [.int (if i1 = 0 then fM_isCoin σ i2 else (if i1 = (1 : Int32) then fM_isShelf i2 else (if i1 = (2 : Int32) then (1 : Int32) else (0 : Int32))))] σ := by
    subst hX; exact V.zret .boolean dM_isHeld_34 rfl (nz (b01_i (bM_isCoin σ i2) (b01_i (bM_isShelf i2) (b01_i b01_1 b01_0)))).1 rfl
  refine V.ifne 12 dM_isHeld_1 rfl rfl (fun g1 => ?_) (fun g1 => ?_)
  · refine V.iloadn 1 dM_isHeld_12 rfl rfl ?_
    refine V.iconst (1 : Int32) dM_isHeld_13 lc1 rfl ?_
    refine V.icmpne 24 dM_isHeld_14 rfl rfl (fun g2 => ?_) (fun g2 => ?_)
    · refine V.iloadn 1 dM_isHeld_24 rfl rfl ?_
      refine V.iconst (2 : Int32) dM_isHeld_25 lc2 rfl ?_
      refine V.icmpne 33 dM_isHeld_26 rfl rfl (fun g3 => ?_) (fun g3 => ?_)
      · refine V.iconst (0 : Int32) dM_isHeld_33 lc0 rfl ?_
        exact V.top (((if_neg g1).trans (if_neg g2)).trans (if_neg g3)).symm JJ
      · refine V.iconst (1 : Int32) dM_isHeld_29 lc1 rfl ?_
        refine V.goto 34 dM_isHeld_30 rfl ?_
        exact V.top (((if_neg g1).trans (if_neg g2)).trans (if_pos g3)).symm JJ
    · refine V.iloadn 2 dM_isHeld_17 rfl rfl ?_
      refine V.callsi [.int i2] dM_isHeld_18 (kM_isShelf (σ := σ) i2) mlM_276 myM_isShelf mnM_isShelf ⟨rfl, rfl, by decide, by decide⟩ rfl (Nat.le_of_ble_eq_true rfl) ⟨Nat.zero_le _, Nat.zero_le _⟩ rfl ?_
      refine V.goto 34 dM_isHeld_21 rfl ?_
      exact V.top ((if_neg g1).trans (if_pos g2)).symm JJ
  · refine V.aloadn 0 dM_isHeld_4 rfl rfl ?_
    refine V.iloadn 2 dM_isHeld_5 rfl rfl ?_
    refine V.callvi 44 [.int i2] dM_isHeld_6 (kM_isCoin (σ := σ) i2) mlM_223 myM_isCoin mnM_isCoin ⟨rfl, rfl, by decide, by decide⟩ (rfl : kd 44 = (6, 0)) (by decide) rfl (Nat.le_of_ble_eq_true rfl) ⟨Nat.zero_le _, Nat.zero_le _⟩ rfl ?_
    refine V.goto 34 dM_isHeld_9 rfl ?_
    exact V.top (if_pos g1).symm JJ
theorem kM_isHeld {E : Ev} {σ : St} (i1 : Int32) (i2 : Int32) : Ct mM_isHeld E [.ref 44, .int i1, .int i2] σ (some (.int (fM_isHeld σ i1 i2)), σ) := Ct.of (by decide) (Nat.le_of_ble_eq_true rfl) (wM_isHeld σ i1 i2 rfl)
theorem bM_isHeld (σ : St) (i1 : Int32) (i2 : Int32) : b01 (fM_isHeld σ i1 i2) := by
  unfold fM_isHeld
  exact (b01_i (bM_isCoin σ i2) (b01_i (bM_isShelf i2) (b01_i b01_1 b01_0)))
theorem dM_shelf_0 : decode mM_shelf.1 0 = .ok (.iload_n 1, 1) := by decide +kernel
theorem dM_shelf_1 : decode mM_shelf.1 1 = .ok (.invokestatic 276, 3) := by decide +kernel
theorem dM_shelf_4 : decode mM_shelf.1 4 = .ok (.ifCond .eq 12, 3) := by decide +kernel
theorem dM_shelf_7 : decode mM_shelf.1 7 = .ok (.aload_n 0, 1) := by decide +kernel
theorem dM_shelf_8 : decode mM_shelf.1 8 = .ok (.iload_n 2, 1) := by decide +kernel
theorem dM_shelf_9 : decode mM_shelf.1 9 = .ok (.iload_n 3, 1) := by decide +kernel
theorem dM_shelf_10 : decode mM_shelf.1 10 = .ok (.invokevirtual 284, 3) := by decide +kernel
theorem dM_shelf_13 : decode mM_shelf.1 13 = .ok (.ifCond .ne 5, 3) := by decide +kernel
theorem dM_shelf_16 : decode mM_shelf.1 16 = .ok (.iconst (-1), 1) := by decide +kernel
theorem dM_shelf_17 : decode mM_shelf.1 17 = .ok (.ireturn, 1) := by decide +kernel
theorem dM_shelf_18 : decode mM_shelf.1 18 = .ok (.aload_n 0, 1) := by decide +kernel
theorem dM_shelf_19 : decode mM_shelf.1 19 = .ok (.getfield 63, 3) := by decide +kernel
theorem dM_shelf_22 : decode mM_shelf.1 22 = .ok (.iload_n 1, 1) := by decide +kernel
theorem dM_shelf_23 : decode mM_shelf.1 23 = .ok (.iload_n 2, 1) := by decide +kernel
theorem dM_shelf_24 : decode mM_shelf.1 24 = .ok (.iconst 2, 1) := by decide +kernel
theorem dM_shelf_25 : decode mM_shelf.1 25 = .ok (.if_icmp .eq 17, 3) := by decide +kernel
theorem dM_shelf_28 : decode mM_shelf.1 28 = .ok (.iload_n 2, 1) := by decide +kernel
theorem dM_shelf_29 : decode mM_shelf.1 29 = .ok (.iconst 1, 1) := by decide +kernel
theorem dM_shelf_30 : decode mM_shelf.1 30 = .ok (.if_icmp .ne 16, 3) := by decide +kernel
theorem dM_shelf_33 : decode mM_shelf.1 33 = .ok (.aload_n 0, 1) := by decide +kernel
theorem dM_shelf_34 : decode mM_shelf.1 34 = .ok (.getfield 53, 3) := by decide +kernel
theorem dM_shelf_37 : decode mM_shelf.1 37 = .ok (.iload_n 3, 1) := by decide +kernel
theorem dM_shelf_38 : decode mM_shelf.1 38 = .ok (.iaload, 1) := by decide +kernel
theorem dM_shelf_39 : decode mM_shelf.1 39 = .ok (.ifCond .ge 7, 3) := by decide +kernel
theorem dM_shelf_42 : decode mM_shelf.1 42 = .ok (.iconst (-1), 1) := by decide +kernel
theorem dM_shelf_43 : decode mM_shelf.1 43 = .ok (.goto 4, 3) := by decide +kernel
theorem dM_shelf_46 : decode mM_shelf.1 46 = .ok (.iload_n 2, 1) := by decide +kernel
theorem dM_shelf_47 : decode mM_shelf.1 47 = .ok (.iastore, 1) := by decide +kernel
theorem dM_shelf_48 : decode mM_shelf.1 48 = .ok (.aload_n 0, 1) := by decide +kernel
theorem dM_shelf_49 : decode mM_shelf.1 49 = .ok (.getfield 66, 3) := by decide +kernel
theorem dM_shelf_52 : decode mM_shelf.1 52 = .ok (.iload_n 1, 1) := by decide +kernel
theorem dM_shelf_53 : decode mM_shelf.1 53 = .ok (.iload_n 2, 1) := by decide +kernel
theorem dM_shelf_54 : decode mM_shelf.1 54 = .ok (.iconst 1, 1) := by decide +kernel
theorem dM_shelf_55 : decode mM_shelf.1 55 = .ok (.if_icmp .ne 12, 3) := by decide +kernel
theorem dM_shelf_58 : decode mM_shelf.1 58 = .ok (.aload_n 0, 1) := by decide +kernel
theorem dM_shelf_59 : decode mM_shelf.1 59 = .ok (.getfield 53, 3) := by decide +kernel
theorem dM_shelf_62 : decode mM_shelf.1 62 = .ok (.iload_n 3, 1) := by decide +kernel
theorem dM_shelf_63 : decode mM_shelf.1 63 = .ok (.iaload, 1) := by decide +kernel
theorem dM_shelf_64 : decode mM_shelf.1 64 = .ok (.goto 4, 3) := by decide +kernel
theorem dM_shelf_67 : decode mM_shelf.1 67 = .ok (.iload_n 3, 1) := by decide +kernel
theorem dM_shelf_68 : decode mM_shelf.1 68 = .ok (.iastore, 1) := by decide +kernel
theorem dM_shelf_69 : decode mM_shelf.1 69 = .ok (.aload_n 0, 1) := by decide +kernel
theorem dM_shelf_70 : decode mM_shelf.1 70 = .ok (.getfield 69, 3) := by decide +kernel
theorem dM_shelf_73 : decode mM_shelf.1 73 = .ok (.iload_n 1, 1) := by decide +kernel
theorem dM_shelf_74 : decode mM_shelf.1 74 = .ok (.iload_n 2, 1) := by decide +kernel
theorem dM_shelf_75 : decode mM_shelf.1 75 = .ok (.iconst 1, 1) := by decide +kernel
theorem dM_shelf_76 : decode mM_shelf.1 76 = .ok (.if_icmp .ne 12, 3) := by decide +kernel
theorem dM_shelf_79 : decode mM_shelf.1 79 = .ok (.aload_n 0, 1) := by decide +kernel
theorem dM_shelf_80 : decode mM_shelf.1 80 = .ok (.getfield 56, 3) := by decide +kernel
theorem dM_shelf_83 : decode mM_shelf.1 83 = .ok (.iload_n 3, 1) := by decide +kernel
theorem dM_shelf_84 : decode mM_shelf.1 84 = .ok (.iaload, 1) := by decide +kernel
theorem dM_shelf_85 : decode mM_shelf.1 85 = .ok (.goto 4, 3) := by decide +kernel
theorem dM_shelf_88 : decode mM_shelf.1 88 = .ok (.iconst 0, 1) := by decide +kernel
theorem dM_shelf_89 : decode mM_shelf.1 89 = .ok (.iastore, 1) := by decide +kernel
theorem dM_shelf_90 : decode mM_shelf.1 90 = .ok (.iconst 1, 1) := by decide +kernel
theorem dM_shelf_91 : decode mM_shelf.1 91 = .ok (.ireturn, 1) := by decide +kernel
set_option maxRecDepth 4000 in
theorem wM_shelf_68 {E : Ev} {z : Int32 × St} (σ : St) (i1 : Int32) (i2 : Int32) (i3 : Int32) (is0 : Int32) (is1 : Int32) (hX : fM_shelf_68 σ i1 i2 i3 is0 is1 = some z) : V E mM_shelf (FM E (some (.int z.1), z.2)) 68 [(0, .ref 44), (1, .int i1), (2, .int i2), (3, .int i3)] [.int is0, .int is1, .ref 62] σ := by
  unfold fM_shelf_68 at hX
  obtain ⟨h7, hX⟩ := ob hX
  refine V.iast 62 dM_shelf_68 (rfl : kd 62 = (7, 4)) h7 rfl ?_
  replace hX := nmx hX; generalize sI σ 62 (ix is1) is0 = σ8 at hX ⊢; try dsimp only at hX
  refine V.aloadn 0 dM_shelf_69 rfl rfl ?_
  refine V.getr 44 63 dM_shelf_70 flM_69 (rfl : kd 44 = (6, 0)) rfl rfl ?_
  refine V.iloadn 1 dM_shelf_73 rfl rfl ?_
  refine V.iloadn 2 dM_shelf_74 rfl rfl ?_
  refine V.iconst (1 : Int32) dM_shelf_75 lc1 rfl ?_
  refine V.icmpne 88 dM_shelf_76 rfl rfl (fun g9 => ?_) (fun g9 => ?_)
  · replace hX := im hX g9
    refine V.iconst (0 : Int32) dM_shelf_88 lc0 rfl ?_
    obtain ⟨h10, hX⟩ := ob hX
    refine V.iast 63 dM_shelf_89 (rfl : kd 63 = (7, 4)) h10 rfl ?_
    replace hX := nmx hX; generalize sI σ8 63 (ix i1) (0 : Int32) = σ11 at hX ⊢; try dsimp only at hX
    refine V.iconst (1 : Int32) dM_shelf_90 lc1 rfl ?_
    have hX := (Option.some.inj hX).symm; subst hX; exact V.iret dM_shelf_91 rfl rfl
  · replace hX := ip hX g9
    refine V.aloadn 0 dM_shelf_79 rfl rfl ?_
    refine V.getr 44 59 dM_shelf_80 flM_56 (rfl : kd 44 = (6, 0)) rfl rfl ?_
    refine V.iloadn 3 dM_shelf_83 rfl rfl ?_
    obtain ⟨h12, hX⟩ := ob hX
    refine V.iald 59 dM_shelf_84 (rfl : kd 59 = (7, 4)) h12 rfl ?_
    refine V.goto 89 dM_shelf_85 rfl ?_
    obtain ⟨h13, hX⟩ := ob hX
    refine V.iast 63 dM_shelf_89 (rfl : kd 63 = (7, 4)) h13 rfl ?_
    replace hX := nmx hX; generalize sI σ8 63 (ix i1) (gI σ8 59 (ix i3)) = σ14 at hX ⊢; try dsimp only at hX
    refine V.iconst (1 : Int32) dM_shelf_90 lc1 rfl ?_
    have hX := (Option.some.inj hX).symm; subst hX; exact V.iret dM_shelf_91 rfl rfl
set_option maxRecDepth 4000 in
theorem wM_shelf_47 {E : Ev} {z : Int32 × St} (σ : St) (i1 : Int32) (i2 : Int32) (i3 : Int32) (is0 : Int32) (is1 : Int32) (hX : fM_shelf_47 σ i1 i2 i3 is0 is1 = some z) : V E mM_shelf (FM E (some (.int z.1), z.2)) 47 [(0, .ref 44), (1, .int i1), (2, .int i2), (3, .int i3)] [.int is0, .int is1, .ref 61] σ := by
  unfold fM_shelf_47 at hX
  obtain ⟨h4, hX⟩ := ob hX
  refine V.iast 61 dM_shelf_47 (rfl : kd 61 = (7, 4)) h4 rfl ?_
  replace hX := nmx hX; generalize sI σ 61 (ix is1) is0 = σ5 at hX ⊢; try dsimp only at hX
  refine V.aloadn 0 dM_shelf_48 rfl rfl ?_
  refine V.getr 44 62 dM_shelf_49 flM_66 (rfl : kd 44 = (6, 0)) rfl rfl ?_
  refine V.iloadn 1 dM_shelf_52 rfl rfl ?_
  refine V.iloadn 2 dM_shelf_53 rfl rfl ?_
  refine V.iconst (1 : Int32) dM_shelf_54 lc1 rfl ?_
  refine V.icmpne 67 dM_shelf_55 rfl rfl (fun g6 => ?_) (fun g6 => ?_)
  · replace hX := im hX g6
    refine V.iloadn 3 dM_shelf_67 rfl rfl ?_
    refine V.sub [0, 1, 2, 3] rfl ?_
    exact wM_shelf_68 σ5 i1 i2 i3 i3 i1 hX
  · replace hX := ip hX g6
    refine V.aloadn 0 dM_shelf_58 rfl rfl ?_
    refine V.getr 44 58 dM_shelf_59 flM_53 (rfl : kd 44 = (6, 0)) rfl rfl ?_
    refine V.iloadn 3 dM_shelf_62 rfl rfl ?_
    obtain ⟨h15, hX⟩ := ob hX
    refine V.iald 58 dM_shelf_63 (rfl : kd 58 = (7, 4)) h15 rfl ?_
    refine V.goto 68 dM_shelf_64 rfl ?_
    refine V.sub [0, 1, 2, 3] rfl ?_
    exact wM_shelf_68 σ5 i1 i2 i3 (gI σ5 58 (ix i3)) i1 hX
set_option maxRecDepth 4000 in
theorem wM_shelf_42 {E : Ev} {z : Int32 × St} (σ : St) (i1 : Int32) (i2 : Int32) (i3 : Int32) (is0 : Int32) (hX : fM_shelf_42 σ i1 i2 i3 is0 = some z) : V E mM_shelf (FM E (some (.int z.1), z.2)) 42 [(0, .ref 44), (1, .int i1), (2, .int i2), (3, .int i3)] [.int is0, .ref 61] σ := by
  unfold fM_shelf_42 at hX
  refine V.iconst (-1 : Int32) dM_shelf_42 lcm1 rfl ?_
  refine V.goto 47 dM_shelf_43 rfl ?_
  refine V.sub [0, 1, 2, 3] rfl ?_
  exact wM_shelf_47 σ i1 i2 i3 (-1 : Int32) is0 hX
set_option maxRecDepth 4000 in
theorem wM_shelf_46 {E : Ev} {z : Int32 × St} (σ : St) (i1 : Int32) (i2 : Int32) (i3 : Int32) (is0 : Int32) (hX : fM_shelf_46 σ i1 i2 i3 is0 = some z) : V E mM_shelf (FM E (some (.int z.1), z.2)) 46 [(0, .ref 44), (1, .int i1), (2, .int i2), (3, .int i3)] [.int is0, .ref 61] σ := by
  unfold fM_shelf_46 at hX
  refine V.iloadn 2 dM_shelf_46 rfl rfl ?_
  refine V.sub [0, 1, 2, 3] rfl ?_
  exact wM_shelf_47 σ i1 i2 i3 i2 is0 hX
set_option maxRecDepth 4000 in
theorem wM_shelf {E : Ev} {z : Int32 × St} (σ : St) (i1 : Int32) (i2 : Int32) (i3 : Int32) (hX : fM_shelf σ i1 i2 i3 = some z) : V E mM_shelf (FM E (some (.int z.1), z.2)) 0 [(0, .ref 44), (1, .int i1), (2, .int i2), (3, .int i3)] [] σ := by
  unfold fM_shelf at hX
  refine V.iloadn 1 dM_shelf_0 rfl rfl ?_
  refine V.callsi [.int i1] dM_shelf_1 (kM_isShelf (σ := σ) i1) mlM_276 myM_isShelf mnM_isShelf ⟨rfl, rfl, by decide, by decide⟩ rfl (Nat.le_of_ble_eq_true rfl) ⟨Nat.zero_le _, Nat.zero_le _⟩ rfl ?_
  refine V.ifeq 16 dM_shelf_4 rfl rfl (fun g1 => ?_) (fun g1 => ?_)
  · replace hX := ip hX g1
    refine V.iconst (-1 : Int32) dM_shelf_16 lcm1 rfl ?_
    have hX := (Option.some.inj hX).symm; subst hX; exact V.iret dM_shelf_17 rfl rfl
  · replace hX := im hX g1
    refine V.aloadn 0 dM_shelf_7 rfl rfl ?_
    refine V.iloadn 2 dM_shelf_8 rfl rfl ?_
    refine V.iloadn 3 dM_shelf_9 rfl rfl ?_
    refine V.callvi 44 [.int i2, .int i3] dM_shelf_10 (kM_isHeld (σ := σ) i2 i3) mlM_284 myM_isHeld mnM_isHeld ⟨rfl, rfl, by decide, by decide⟩ (rfl : kd 44 = (6, 0)) (by decide) rfl (Nat.le_of_ble_eq_true rfl) ⟨Nat.zero_le _, Nat.zero_le _⟩ rfl ?_
    refine V.ifne 18 dM_shelf_13 rfl rfl (fun g2 => ?_) (fun g2 => ?_)
    · replace hX := im hX g2
      refine V.aloadn 0 dM_shelf_18 rfl rfl ?_
      refine V.getr 44 61 dM_shelf_19 flM_63 (rfl : kd 44 = (6, 0)) rfl rfl ?_
      refine V.iloadn 1 dM_shelf_22 rfl rfl ?_
      refine V.iloadn 2 dM_shelf_23 rfl rfl ?_
      refine V.iconst (2 : Int32) dM_shelf_24 lc2 rfl ?_
      refine V.icmpeq 42 dM_shelf_25 rfl rfl (fun g3 => ?_) (fun g3 => ?_)
      · replace hX := ip hX g3
        refine V.sub [0, 1, 2, 3] rfl ?_
        exact wM_shelf_42 σ i1 i2 i3 i1 hX
      · replace hX := im hX g3
        refine V.iloadn 2 dM_shelf_28 rfl rfl ?_
        refine V.iconst (1 : Int32) dM_shelf_29 lc1 rfl ?_
        refine V.icmpne 46 dM_shelf_30 rfl rfl (fun g16 => ?_) (fun g16 => ?_)
        · replace hX := im hX g16
          refine V.sub [0, 1, 2, 3] rfl ?_
          exact wM_shelf_46 σ i1 i2 i3 i1 hX
        · replace hX := ip hX g16
          refine V.aloadn 0 dM_shelf_33 rfl rfl ?_
          refine V.getr 44 58 dM_shelf_34 flM_53 (rfl : kd 44 = (6, 0)) rfl rfl ?_
          refine V.iloadn 3 dM_shelf_37 rfl rfl ?_
          obtain ⟨h17, hX⟩ := ob hX
          refine V.iald 58 dM_shelf_38 (rfl : kd 58 = (7, 4)) h17 rfl ?_
          have JJ : V E mM_shelf (FM E (some (.int z.1), z.2)) 47 [(0, .ref 44), (1, .int i1), (2, .int i2), (3, .int i3)] [.int (if 0 ≤ (gI σ 58 (ix i3)) then i2 else (-1 : Int32)), .int i1, .ref 61] σ := by
            obtain ⟨h18, hX⟩ := ob hX
            refine V.iast 61 dM_shelf_47 (rfl : kd 61 = (7, 4)) h18 rfl ?_
            replace hX := nmx hX; generalize sI σ 61 (ix i1) (if 0 ≤ (gI σ 58 (ix i3)) then i2 else (-1 : Int32)) = σ19 at hX ⊢; try dsimp only at hX
            refine V.aloadn 0 dM_shelf_48 rfl rfl ?_
            refine V.getr 44 62 dM_shelf_49 flM_66 (rfl : kd 44 = (6, 0)) rfl rfl ?_
            refine V.iloadn 1 dM_shelf_52 rfl rfl ?_
            refine V.iloadn 2 dM_shelf_53 rfl rfl ?_
            refine V.iconst (1 : Int32) dM_shelf_54 lc1 rfl ?_
            refine V.icmpne 67 dM_shelf_55 rfl rfl (fun g20 => ?_) (fun g20 => ?_)
            · replace hX := im hX g20
              refine V.iloadn 3 dM_shelf_67 rfl rfl ?_
              refine V.sub [0, 1, 2, 3] rfl ?_
              exact wM_shelf_68 σ19 i1 i2 i3 i3 i1 hX
            · replace hX := ip hX g20
              refine V.aloadn 0 dM_shelf_58 rfl rfl ?_
              refine V.getr 44 58 dM_shelf_59 flM_53 (rfl : kd 44 = (6, 0)) rfl rfl ?_
              refine V.iloadn 3 dM_shelf_62 rfl rfl ?_
              obtain ⟨h21, hX⟩ := ob hX
              refine V.iald 58 dM_shelf_63 (rfl : kd 58 = (7, 4)) h21 rfl ?_
              refine V.goto 68 dM_shelf_64 rfl ?_
              refine V.sub [0, 1, 2, 3] rfl ?_
              exact wM_shelf_68 σ19 i1 i2 i3 (gI σ19 58 (ix i3)) i1 hX
          refine V.ifge 46 dM_shelf_39 rfl rfl (fun g22 => ?_) (fun g22 => ?_)
          · refine V.iloadn 2 dM_shelf_46 rfl rfl ?_
            exact V.top (if_pos g22).symm JJ
          · refine V.iconst (-1 : Int32) dM_shelf_42 lcm1 rfl ?_
            refine V.goto 47 dM_shelf_43 rfl ?_
            exact V.top (if_neg g22).symm JJ
    · replace hX := ip hX g2
      refine V.iconst (-1 : Int32) dM_shelf_16 lcm1 rfl ?_
      have hX := (Option.some.inj hX).symm; subst hX; exact V.iret dM_shelf_17 rfl rfl
theorem kM_shelf {E : Ev} {σ σ2 : St} {i1 : Int32} {i2 : Int32} {i3 : Int32} {z : Int32} (h : fM_shelf σ i1 i2 i3 = some (z, σ2)) : Ct mM_shelf E [.ref 44, .int i1, .int i2, .int i3] σ (some (.int z), σ2) := Ct.of (by decide) (Nat.le_of_ble_eq_true rfl) (wM_shelf σ i1 i2 i3 h)
theorem dM_kindOn_0 : decode mM_kindOn.1 0 = .ok (.aload_n 0, 1) := by decide +kernel
theorem dM_kindOn_1 : decode mM_kindOn.1 1 = .ok (.getfield 63, 3) := by decide +kernel
theorem dM_kindOn_4 : decode mM_kindOn.1 4 = .ok (.iload_n 1, 1) := by decide +kernel
theorem dM_kindOn_5 : decode mM_kindOn.1 5 = .ok (.iaload, 1) := by decide +kernel
theorem dM_kindOn_6 : decode mM_kindOn.1 6 = .ok (.ifCond .eq 19, 3) := by decide +kernel
theorem dM_kindOn_9 : decode mM_kindOn.1 9 = .ok (.aload_n 0, 1) := by decide +kernel
theorem dM_kindOn_10 : decode mM_kindOn.1 10 = .ok (.getfield 63, 3) := by decide +kernel
theorem dM_kindOn_13 : decode mM_kindOn.1 13 = .ok (.iload_n 1, 1) := by decide +kernel
theorem dM_kindOn_14 : decode mM_kindOn.1 14 = .ok (.iaload, 1) := by decide +kernel
theorem dM_kindOn_15 : decode mM_kindOn.1 15 = .ok (.ifCond .ge 7, 3) := by decide +kernel
theorem dM_kindOn_18 : decode mM_kindOn.1 18 = .ok (.iconst (-1), 1) := by decide +kernel
theorem dM_kindOn_19 : decode mM_kindOn.1 19 = .ok (.goto 5, 3) := by decide +kernel
theorem dM_kindOn_22 : decode mM_kindOn.1 22 = .ok (.bipush 9, 2) := by decide +kernel
theorem dM_kindOn_24 : decode mM_kindOn.1 24 = .ok (.ireturn, 1) := by decide +kernel
theorem dM_kindOn_25 : decode mM_kindOn.1 25 = .ok (.aload_n 0, 1) := by decide +kernel
theorem dM_kindOn_26 : decode mM_kindOn.1 26 = .ok (.aload_n 0, 1) := by decide +kernel
theorem dM_kindOn_27 : decode mM_kindOn.1 27 = .ok (.getfield 66, 3) := by decide +kernel
theorem dM_kindOn_30 : decode mM_kindOn.1 30 = .ok (.iload_n 1, 1) := by decide +kernel
theorem dM_kindOn_31 : decode mM_kindOn.1 31 = .ok (.iaload, 1) := by decide +kernel
theorem dM_kindOn_32 : decode mM_kindOn.1 32 = .ok (.invokevirtual 223, 3) := by decide +kernel
theorem dM_kindOn_35 : decode mM_kindOn.1 35 = .ok (.ifCond .eq 17, 3) := by decide +kernel
theorem dM_kindOn_38 : decode mM_kindOn.1 38 = .ok (.aload_n 0, 1) := by decide +kernel
theorem dM_kindOn_39 : decode mM_kindOn.1 39 = .ok (.aload_n 0, 1) := by decide +kernel
theorem dM_kindOn_40 : decode mM_kindOn.1 40 = .ok (.getfield 66, 3) := by decide +kernel
theorem dM_kindOn_43 : decode mM_kindOn.1 43 = .ok (.iload_n 1, 1) := by decide +kernel
theorem dM_kindOn_44 : decode mM_kindOn.1 44 = .ok (.iaload, 1) := by decide +kernel
theorem dM_kindOn_45 : decode mM_kindOn.1 45 = .ok (.iconst 0, 1) := by decide +kernel
theorem dM_kindOn_46 : decode mM_kindOn.1 46 = .ok (.invokevirtual 193, 3) := by decide +kernel
theorem dM_kindOn_49 : decode mM_kindOn.1 49 = .ok (.goto 4, 3) := by decide +kernel
theorem dM_kindOn_52 : decode mM_kindOn.1 52 = .ok (.iconst (-1), 1) := by decide +kernel
theorem dM_kindOn_53 : decode mM_kindOn.1 53 = .ok (.ireturn, 1) := by decide +kernel
set_option maxRecDepth 4000 in
theorem wM_kindOn {E : Ev} {z : Int32} (σ : St) (i1 : Int32) (hX : fM_kindOn σ i1 = some z) : V E mM_kindOn (FM E (some (.int z), σ)) 0 [(0, .ref 44), (1, .int i1)] [] σ := by
  unfold fM_kindOn at hX
  refine V.aloadn 0 dM_kindOn_0 rfl rfl ?_
  refine V.getr 44 61 dM_kindOn_1 flM_63 (rfl : kd 44 = (6, 0)) rfl rfl ?_
  refine V.iloadn 1 dM_kindOn_4 rfl rfl ?_
  obtain ⟨h1, hX⟩ := ob hX
  refine V.iald 61 dM_kindOn_5 (rfl : kd 61 = (7, 4)) h1 rfl ?_
  refine V.ifeq 25 dM_kindOn_6 rfl rfl (fun g2 => ?_) (fun g2 => ?_)
  · replace hX := ip hX g2
    refine V.aloadn 0 dM_kindOn_25 rfl rfl ?_
    refine V.aloadn 0 dM_kindOn_26 rfl rfl ?_
    refine V.getr 44 62 dM_kindOn_27 flM_66 (rfl : kd 44 = (6, 0)) rfl rfl ?_
    refine V.iloadn 1 dM_kindOn_30 rfl rfl ?_
    obtain ⟨h3, hX⟩ := ob hX
    refine V.iald 62 dM_kindOn_31 (rfl : kd 62 = (7, 4)) h3 rfl ?_
    refine V.callvi 44 [.int (gI σ 62 (ix i1))] dM_kindOn_32 (kM_isCoin (σ := σ) (gI σ 62 (ix i1))) mlM_223 myM_isCoin mnM_isCoin ⟨rfl, rfl, by decide, by decide⟩ (rfl : kd 44 = (6, 0)) (by decide) rfl (Nat.le_of_ble_eq_true rfl) ⟨Nat.zero_le _, Nat.zero_le _⟩ rfl ?_
    refine V.ifeq 52 dM_kindOn_35 rfl rfl (fun g4 => ?_) (fun g4 => ?_)
    · replace hX := ip hX g4
      refine V.iconst (-1 : Int32) dM_kindOn_52 lcm1 rfl ?_
      have hX := (Option.some.inj hX).symm; subst hX; exact V.iret dM_kindOn_53 rfl rfl
    · replace hX := im hX g4
      refine V.aloadn 0 dM_kindOn_38 rfl rfl ?_
      refine V.aloadn 0 dM_kindOn_39 rfl rfl ?_
      refine V.getr 44 62 dM_kindOn_40 flM_66 (rfl : kd 44 = (6, 0)) rfl rfl ?_
      refine V.iloadn 1 dM_kindOn_43 rfl rfl ?_
      obtain ⟨h5, hX⟩ := ob hX
      refine V.iald 62 dM_kindOn_44 (rfl : kd 62 = (7, 4)) h5 rfl ?_
      refine V.iconst (0 : Int32) dM_kindOn_45 lc0 rfl ?_
      obtain ⟨q6, c7, hX⟩ := bd hX; try dsimp only at hX
      refine V.callvi 44 [.int (gI σ 62 (ix i1)), .int (0 : Int32)] dM_kindOn_46 (kM_its c7) mlM_193 myM_its mnM_its ⟨rfl, rfl, by decide, by decide⟩ (rfl : kd 44 = (6, 0)) (by decide) rfl (Nat.le_of_ble_eq_true rfl) ⟨Nat.zero_le _, Nat.zero_le _⟩ rfl ?_
      refine V.goto 53 dM_kindOn_49 rfl ?_
      have hX := (Option.some.inj hX).symm; subst hX; exact V.iret dM_kindOn_53 rfl rfl
  · replace hX := im hX g2
    refine V.aloadn 0 dM_kindOn_9 rfl rfl ?_
    refine V.getr 44 61 dM_kindOn_10 flM_63 (rfl : kd 44 = (6, 0)) rfl rfl ?_
    refine V.iloadn 1 dM_kindOn_13 rfl rfl ?_
    obtain ⟨h8, hX⟩ := ob hX
    refine V.iald 61 dM_kindOn_14 (rfl : kd 61 = (7, 4)) h8 rfl ?_
    have JJ : V E mM_kindOn (FM E (some (.int z), σ)) 24 [(0, .ref 44), (1, .int i1)] [.int (if 0 ≤ (gI σ 61 (ix i1)) then (9 : Int32) else (-1 : Int32))] σ := by
      have hX := (Option.some.inj hX).symm; subst hX; exact V.iret dM_kindOn_24 rfl rfl
    refine V.ifge 22 dM_kindOn_15 rfl rfl (fun g9 => ?_) (fun g9 => ?_)
    · refine V.bipush (9 : Int32) dM_kindOn_22 lb9 rfl ?_
      exact V.top (if_pos g9).symm JJ
    · refine V.iconst (-1 : Int32) dM_kindOn_18 lcm1 rfl ?_
      refine V.goto 24 dM_kindOn_19 rfl ?_
      exact V.top (if_neg g9).symm JJ
theorem kM_kindOn {E : Ev} {σ : St} {i1 : Int32} {z : Int32} (h : fM_kindOn σ i1 = some z) : Ct mM_kindOn E [.ref 44, .int i1] σ (some (.int z), σ) := Ct.of (by decide) (Nat.le_of_ble_eq_true rfl) (wM_kindOn σ i1 h)
theorem dM_isUnder_0 : decode mM_isUnder.1 0 = .ok (.iload_n 1, 1) := by decide +kernel
theorem dM_isUnder_1 : decode mM_isUnder.1 1 = .ok (.ifCond .eq 28, 3) := by decide +kernel
theorem dM_isUnder_4 : decode mM_isUnder.1 4 = .ok (.iload_n 1, 1) := by decide +kernel
theorem dM_isUnder_5 : decode mM_isUnder.1 5 = .ok (.iload_n 0, 1) := by decide +kernel
theorem dM_isUnder_6 : decode mM_isUnder.1 6 = .ok (.if_icmp .eq 23, 3) := by decide +kernel
theorem dM_isUnder_9 : decode mM_isUnder.1 9 = .ok (.iload_n 1, 1) := by decide +kernel
theorem dM_isUnder_10 : decode mM_isUnder.1 10 = .ok (.iconst 1, 1) := by decide +kernel
theorem dM_isUnder_11 : decode mM_isUnder.1 11 = .ok (.if_icmp .ne 8, 3) := by decide +kernel
theorem dM_isUnder_14 : decode mM_isUnder.1 14 = .ok (.iload_n 0, 1) := by decide +kernel
theorem dM_isUnder_15 : decode mM_isUnder.1 15 = .ok (.iconst 3, 1) := by decide +kernel
theorem dM_isUnder_16 : decode mM_isUnder.1 16 = .ok (.if_icmp .eq 13, 3) := by decide +kernel
theorem dM_isUnder_19 : decode mM_isUnder.1 19 = .ok (.iload_n 1, 1) := by decide +kernel
theorem dM_isUnder_20 : decode mM_isUnder.1 20 = .ok (.iconst 2, 1) := by decide +kernel
theorem dM_isUnder_21 : decode mM_isUnder.1 21 = .ok (.if_icmp .ne 12, 3) := by decide +kernel
theorem dM_isUnder_24 : decode mM_isUnder.1 24 = .ok (.iload_n 0, 1) := by decide +kernel
theorem dM_isUnder_25 : decode mM_isUnder.1 25 = .ok (.iconst 4, 1) := by decide +kernel
theorem dM_isUnder_26 : decode mM_isUnder.1 26 = .ok (.if_icmp .ne 7, 3) := by decide +kernel
theorem dM_isUnder_29 : decode mM_isUnder.1 29 = .ok (.iconst 1, 1) := by decide +kernel
theorem dM_isUnder_30 : decode mM_isUnder.1 30 = .ok (.goto 4, 3) := by decide +kernel
theorem dM_isUnder_33 : decode mM_isUnder.1 33 = .ok (.iconst 0, 1) := by decide +kernel
theorem dM_isUnder_34 : decode mM_isUnder.1 34 = .ok (.ireturn, 1) := by decide +kernel
set_option maxRecDepth 4000 in
theorem wM_isUnder {E : Ev} {z : Int32} (σ : St) (i0 : Int32) (i1 : Int32) (hX : fM_isUnder i0 i1 = z) : V E mM_isUnder (FM E (some (.int z), σ)) 0 [(0, .int i0), (1, .int i1)] [] σ := by
  unfold fM_isUnder at hX
  refine V.iloadn 1 dM_isUnder_0 rfl rfl ?_
  have JJ : V E mM_isUnder (FM E (some (.int z), σ)) 34 [(0, .int i0), (1, .int i1)] [.int (if i1 = 0 then (1 : Int32) else (if i1 = i0 then (1 : Int32) else (if i1 = (1 : Int32) then (if i0 = (3 : Int32) then (1 : Int32) else (if i1 = (2 : Int32) then (if i0 = (4 : Int32) then (1 : Int32) else (0 : Int32)) else (0 : Int32))) else (if i1 = (2 : Int32) then (if i0 = (4 : Int32) then (1 : Int32) else (0 : Int32)) else (0 : Int32)))))] σ := by
    subst hX; exact V.zret .boolean dM_isUnder_34 rfl (nz (b01_i b01_1 (b01_i b01_1 (b01_i (b01_i b01_1 (b01_i (b01_i b01_1 b01_0) b01_0)) (b01_i (b01_i b01_1 b01_0) b01_0))))).1 rfl
  refine V.ifeq 29 dM_isUnder_1 rfl rfl (fun g1 => ?_) (fun g1 => ?_)
  · refine V.iconst (1 : Int32) dM_isUnder_29 lc1 rfl ?_
    refine V.goto 34 dM_isUnder_30 rfl ?_
    exact V.top (if_pos g1).symm JJ
  · refine V.iloadn 1 dM_isUnder_4 rfl rfl ?_
    refine V.iloadn 0 dM_isUnder_5 rfl rfl ?_
    refine V.icmpeq 29 dM_isUnder_6 rfl rfl (fun g2 => ?_) (fun g2 => ?_)
    · refine V.iconst (1 : Int32) dM_isUnder_29 lc1 rfl ?_
      refine V.goto 34 dM_isUnder_30 rfl ?_
      exact V.top ((if_neg g1).trans (if_pos g2)).symm JJ
    · refine V.iloadn 1 dM_isUnder_9 rfl rfl ?_
      refine V.iconst (1 : Int32) dM_isUnder_10 lc1 rfl ?_
      refine V.icmpne 19 dM_isUnder_11 rfl rfl (fun g3 => ?_) (fun g3 => ?_)
      · refine V.iloadn 1 dM_isUnder_19 rfl rfl ?_
        refine V.iconst (2 : Int32) dM_isUnder_20 lc2 rfl ?_
        refine V.icmpne 33 dM_isUnder_21 rfl rfl (fun g4 => ?_) (fun g4 => ?_)
        · refine V.iconst (0 : Int32) dM_isUnder_33 lc0 rfl ?_
          exact V.top ((((if_neg g1).trans (if_neg g2)).trans (if_neg g3)).trans (if_neg g4)).symm JJ
        · refine V.iloadn 0 dM_isUnder_24 rfl rfl ?_
          refine V.iconst (4 : Int32) dM_isUnder_25 lc4 rfl ?_
          refine V.icmpne 33 dM_isUnder_26 rfl rfl (fun g5 => ?_) (fun g5 => ?_)
          · refine V.iconst (0 : Int32) dM_isUnder_33 lc0 rfl ?_
            exact V.top (((((if_neg g1).trans (if_neg g2)).trans (if_neg g3)).trans (if_pos g4)).trans (if_neg g5)).symm JJ
          · refine V.iconst (1 : Int32) dM_isUnder_29 lc1 rfl ?_
            refine V.goto 34 dM_isUnder_30 rfl ?_
            exact V.top (((((if_neg g1).trans (if_neg g2)).trans (if_neg g3)).trans (if_pos g4)).trans (if_pos g5)).symm JJ
      · refine V.iloadn 0 dM_isUnder_14 rfl rfl ?_
        refine V.iconst (3 : Int32) dM_isUnder_15 lc3 rfl ?_
        refine V.icmpeq 29 dM_isUnder_16 rfl rfl (fun g6 => ?_) (fun g6 => ?_)
        · refine V.iconst (1 : Int32) dM_isUnder_29 lc1 rfl ?_
          refine V.goto 34 dM_isUnder_30 rfl ?_
          exact V.top ((((if_neg g1).trans (if_neg g2)).trans (if_pos g3)).trans (if_pos g6)).symm JJ
        · refine V.iloadn 1 dM_isUnder_19 rfl rfl ?_
          refine V.iconst (2 : Int32) dM_isUnder_20 lc2 rfl ?_
          refine V.icmpne 33 dM_isUnder_21 rfl rfl (fun g7 => ?_) (fun g7 => ?_)
          · refine V.iconst (0 : Int32) dM_isUnder_33 lc0 rfl ?_
            exact V.top (((((if_neg g1).trans (if_neg g2)).trans (if_pos g3)).trans (if_neg g6)).trans (if_neg g7)).symm JJ
          · refine V.iloadn 0 dM_isUnder_24 rfl rfl ?_
            refine V.iconst (4 : Int32) dM_isUnder_25 lc4 rfl ?_
            refine V.icmpne 33 dM_isUnder_26 rfl rfl (fun g8 => ?_) (fun g8 => ?_)
            · refine V.iconst (0 : Int32) dM_isUnder_33 lc0 rfl ?_
              exact V.top ((((((if_neg g1).trans (if_neg g2)).trans (if_pos g3)).trans (if_neg g6)).trans (if_pos g7)).trans (if_neg g8)).symm JJ
            · refine V.iconst (1 : Int32) dM_isUnder_29 lc1 rfl ?_
              refine V.goto 34 dM_isUnder_30 rfl ?_
              exact V.top ((((((if_neg g1).trans (if_neg g2)).trans (if_pos g3)).trans (if_neg g6)).trans (if_pos g7)).trans (if_pos g8)).symm JJ
theorem kM_isUnder {E : Ev} {σ : St} (i0 : Int32) (i1 : Int32) : Ct mM_isUnder E [.int i0, .int i1] σ (some (.int (fM_isUnder i0 i1)), σ) := Ct.of (by decide) (Nat.le_of_ble_eq_true rfl) (wM_isUnder σ i0 i1 rfl)
theorem bM_isUnder (i0 : Int32) (i1 : Int32) : b01 (fM_isUnder i0 i1) := by
  unfold fM_isUnder
  exact (b01_i b01_1 (b01_i b01_1 (b01_i (b01_i b01_1 (b01_i (b01_i b01_1 b01_0) b01_0)) (b01_i (b01_i b01_1 b01_0) b01_0))))
theorem dM_taken_0 : decode mM_taken.1 0 = .ok (.iload_n 1, 1) := by decide +kernel
theorem dM_taken_1 : decode mM_taken.1 1 = .ok (.invokestatic 276, 3) := by decide +kernel
theorem dM_taken_4 : decode mM_taken.1 4 = .ok (.ifCond .eq 23, 3) := by decide +kernel
theorem dM_taken_7 : decode mM_taken.1 7 = .ok (.iload_n 2, 1) := by decide +kernel
theorem dM_taken_8 : decode mM_taken.1 8 = .ok (.iconst 0, 1) := by decide +kernel
theorem dM_taken_9 : decode mM_taken.1 9 = .ok (.iconst 5, 1) := by decide +kernel
theorem dM_taken_10 : decode mM_taken.1 10 = .ok (.invokestatic 84, 3) := by decide +kernel
theorem dM_taken_13 : decode mM_taken.1 13 = .ok (.ifCond .ne 16, 3) := by decide +kernel
theorem dM_taken_16 : decode mM_taken.1 16 = .ok (.iload_n 2, 1) := by decide +kernel
theorem dM_taken_17 : decode mM_taken.1 17 = .ok (.bipush 10, 2) := by decide +kernel
theorem dM_taken_19 : decode mM_taken.1 19 = .ok (.bipush 13, 2) := by decide +kernel
theorem dM_taken_21 : decode mM_taken.1 21 = .ok (.invokestatic 84, 3) := by decide +kernel
theorem dM_taken_24 : decode mM_taken.1 24 = .ok (.ifCond .ne 5, 3) := by decide +kernel
theorem dM_taken_27 : decode mM_taken.1 27 = .ok (.iconst (-1), 1) := by decide +kernel
theorem dM_taken_28 : decode mM_taken.1 28 = .ok (.ireturn, 1) := by decide +kernel
theorem dM_taken_29 : decode mM_taken.1 29 = .ok (.aload_n 0, 1) := by decide +kernel
theorem dM_taken_30 : decode mM_taken.1 30 = .ok (.iload_n 1, 1) := by decide +kernel
theorem dM_taken_31 : decode mM_taken.1 31 = .ok (.invokevirtual 287, 3) := by decide +kernel
theorem dM_taken_34 : decode mM_taken.1 34 = .ok (.istore_n 3, 1) := by decide +kernel
theorem dM_taken_35 : decode mM_taken.1 35 = .ok (.iload_n 3, 1) := by decide +kernel
theorem dM_taken_36 : decode mM_taken.1 36 = .ok (.ifCond .ge 6, 3) := by decide +kernel
theorem dM_taken_39 : decode mM_taken.1 39 = .ok (.bipush (-11), 2) := by decide +kernel
theorem dM_taken_41 : decode mM_taken.1 41 = .ok (.ireturn, 1) := by decide +kernel
theorem dM_taken_42 : decode mM_taken.1 42 = .ok (.iload_n 3, 1) := by decide +kernel
theorem dM_taken_43 : decode mM_taken.1 43 = .ok (.bipush 9, 2) := by decide +kernel
theorem dM_taken_45 : decode mM_taken.1 45 = .ok (.if_icmp .ne 28, 3) := by decide +kernel
theorem dM_taken_48 : decode mM_taken.1 48 = .ok (.iload_n 2, 1) := by decide +kernel
theorem dM_taken_49 : decode mM_taken.1 49 = .ok (.bipush 10, 2) := by decide +kernel
theorem dM_taken_51 : decode mM_taken.1 51 = .ok (.aload_n 0, 1) := by decide +kernel
theorem dM_taken_52 : decode mM_taken.1 52 = .ok (.getfield 66, 3) := by decide +kernel
theorem dM_taken_55 : decode mM_taken.1 55 = .ok (.iload_n 1, 1) := by decide +kernel
theorem dM_taken_56 : decode mM_taken.1 56 = .ok (.iaload, 1) := by decide +kernel
theorem dM_taken_57 : decode mM_taken.1 57 = .ok (.iadd, 1) := by decide +kernel
theorem dM_taken_58 : decode mM_taken.1 58 = .ok (.if_icmp .ne 12, 3) := by decide +kernel
theorem dM_taken_61 : decode mM_taken.1 61 = .ok (.aload_n 0, 1) := by decide +kernel
theorem dM_taken_62 : decode mM_taken.1 62 = .ok (.getfield 69, 3) := by decide +kernel
theorem dM_taken_65 : decode mM_taken.1 65 = .ok (.iload_n 1, 1) := by decide +kernel
theorem dM_taken_66 : decode mM_taken.1 66 = .ok (.iaload, 1) := by decide +kernel
theorem dM_taken_67 : decode mM_taken.1 67 = .ok (.goto 5, 3) := by decide +kernel
theorem dM_taken_70 : decode mM_taken.1 70 = .ok (.bipush (-13), 2) := by decide +kernel
theorem dM_taken_72 : decode mM_taken.1 72 = .ok (.ireturn, 1) := by decide +kernel
theorem dM_taken_73 : decode mM_taken.1 73 = .ok (.iload_n 2, 1) := by decide +kernel
theorem dM_taken_74 : decode mM_taken.1 74 = .ok (.bipush 10, 2) := by decide +kernel
theorem dM_taken_76 : decode mM_taken.1 76 = .ok (.if_icmp .ge 20, 3) := by decide +kernel
theorem dM_taken_79 : decode mM_taken.1 79 = .ok (.iload_n 3, 1) := by decide +kernel
theorem dM_taken_80 : decode mM_taken.1 80 = .ok (.iload_n 2, 1) := by decide +kernel
theorem dM_taken_81 : decode mM_taken.1 81 = .ok (.invokestatic 290, 3) := by decide +kernel
theorem dM_taken_84 : decode mM_taken.1 84 = .ok (.ifCond .eq 12, 3) := by decide +kernel
theorem dM_taken_87 : decode mM_taken.1 87 = .ok (.aload_n 0, 1) := by decide +kernel
theorem dM_taken_88 : decode mM_taken.1 88 = .ok (.getfield 66, 3) := by decide +kernel
theorem dM_taken_91 : decode mM_taken.1 91 = .ok (.iload_n 1, 1) := by decide +kernel
theorem dM_taken_92 : decode mM_taken.1 92 = .ok (.iaload, 1) := by decide +kernel
theorem dM_taken_93 : decode mM_taken.1 93 = .ok (.goto 5, 3) := by decide +kernel
theorem dM_taken_96 : decode mM_taken.1 96 = .ok (.bipush (-13), 2) := by decide +kernel
theorem dM_taken_98 : decode mM_taken.1 98 = .ok (.ireturn, 1) := by decide +kernel
set_option maxRecDepth 4000 in
theorem wM_taken_29 {E : Ev} {z : Int32} (σ : St) (i1 : Int32) (i2 : Int32) (hX : fM_taken_29 σ i1 i2 = some z) : V E mM_taken (FM E (some (.int z), σ)) 29 [(0, .ref 44), (1, .int i1), (2, .int i2)] [] σ := by
  unfold fM_taken_29 at hX
  refine V.aloadn 0 dM_taken_29 rfl rfl ?_
  refine V.iloadn 1 dM_taken_30 rfl rfl ?_
  obtain ⟨q3, c4, hX⟩ := bd hX; try dsimp only at hX
  refine V.callvi 44 [.int i1] dM_taken_31 (kM_kindOn c4) mlM_287 myM_kindOn mnM_kindOn ⟨rfl, rfl, by decide, by decide⟩ (rfl : kd 44 = (6, 0)) (by decide) rfl (Nat.le_of_ble_eq_true rfl) ⟨Nat.zero_le _, Nat.zero_le _⟩ rfl ?_
  refine V.istoren _ dM_taken_34 (by decide) rfl rfl ?_
  refine V.iloadn 0 dM_taken_35 rfl rfl ?_
  refine V.ifge 42 dM_taken_36 rfl rfl (fun g5 => ?_) (fun g5 => ?_)
  · replace hX := ip hX g5
    refine V.iloadn 0 dM_taken_42 rfl rfl ?_
    refine V.bipush (9 : Int32) dM_taken_43 lb9 rfl ?_
    refine V.icmpne 73 dM_taken_45 rfl rfl (fun g6 => ?_) (fun g6 => ?_)
    · replace hX := im hX g6
      refine V.iloadn 3 dM_taken_73 rfl rfl ?_
      refine V.bipush (10 : Int32) dM_taken_74 lb10 rfl ?_
      refine V.icmpge 96 dM_taken_76 rfl rfl (fun g7 => ?_) (fun g7 => ?_)
      · replace hX := ip hX g7
        refine V.bipush (-13 : Int32) dM_taken_96 lbm13 rfl ?_
        have hX := (Option.some.inj hX).symm; subst hX; exact V.iret dM_taken_98 rfl rfl
      · replace hX := im hX g7
        refine V.iloadn 0 dM_taken_79 rfl rfl ?_
        refine V.iloadn 3 dM_taken_80 rfl rfl ?_
        refine V.callsi [.int q3, .int i2] dM_taken_81 (kM_isUnder (σ := σ) q3 i2) mlM_290 myM_isUnder mnM_isUnder ⟨rfl, rfl, by decide, by decide⟩ rfl (Nat.le_of_ble_eq_true rfl) ⟨Nat.zero_le _, Nat.zero_le _⟩ rfl ?_
        refine V.ifeq 96 dM_taken_84 rfl rfl (fun g8 => ?_) (fun g8 => ?_)
        · replace hX := ip hX g8
          refine V.bipush (-13 : Int32) dM_taken_96 lbm13 rfl ?_
          have hX := (Option.some.inj hX).symm; subst hX; exact V.iret dM_taken_98 rfl rfl
        · replace hX := im hX g8
          refine V.aloadn 1 dM_taken_87 rfl rfl ?_
          refine V.getr 44 62 dM_taken_88 flM_66 (rfl : kd 44 = (6, 0)) rfl rfl ?_
          refine V.iloadn 2 dM_taken_91 rfl rfl ?_
          obtain ⟨h9, hX⟩ := ob hX
          refine V.iald 62 dM_taken_92 (rfl : kd 62 = (7, 4)) h9 rfl ?_
          refine V.goto 98 dM_taken_93 rfl ?_
          have hX := (Option.some.inj hX).symm; subst hX; exact V.iret dM_taken_98 rfl rfl
    · replace hX := ip hX g6
      refine V.iloadn 3 dM_taken_48 rfl rfl ?_
      refine V.bipush (10 : Int32) dM_taken_49 lb10 rfl ?_
      refine V.aloadn 1 dM_taken_51 rfl rfl ?_
      refine V.getr 44 62 dM_taken_52 flM_66 (rfl : kd 44 = (6, 0)) rfl rfl ?_
      refine V.iloadn 2 dM_taken_55 rfl rfl ?_
      obtain ⟨h10, hX⟩ := ob hX
      refine V.iald 62 dM_taken_56 (rfl : kd 62 = (7, 4)) h10 rfl ?_
      refine V.iadd dM_taken_57 rfl ?_
      refine V.icmpne 70 dM_taken_58 rfl rfl (fun g11 => ?_) (fun g11 => ?_)
      · replace hX := im hX g11
        refine V.bipush (-13 : Int32) dM_taken_70 lbm13 rfl ?_
        have hX := (Option.some.inj hX).symm; subst hX; exact V.iret dM_taken_72 rfl rfl
      · replace hX := ip hX g11
        refine V.aloadn 1 dM_taken_61 rfl rfl ?_
        refine V.getr 44 63 dM_taken_62 flM_69 (rfl : kd 44 = (6, 0)) rfl rfl ?_
        refine V.iloadn 2 dM_taken_65 rfl rfl ?_
        obtain ⟨h12, hX⟩ := ob hX
        refine V.iald 63 dM_taken_66 (rfl : kd 63 = (7, 4)) h12 rfl ?_
        refine V.goto 72 dM_taken_67 rfl ?_
        have hX := (Option.some.inj hX).symm; subst hX; exact V.iret dM_taken_72 rfl rfl
  · replace hX := im hX g5
    refine V.bipush (-11 : Int32) dM_taken_39 lbm11 rfl ?_
    have hX := (Option.some.inj hX).symm; subst hX; exact V.iret dM_taken_41 rfl rfl
set_option maxRecDepth 4000 in
theorem wM_taken {E : Ev} {z : Int32} (σ : St) (i1 : Int32) (i2 : Int32) (hX : fM_taken σ i1 i2 = some z) : V E mM_taken (FM E (some (.int z), σ)) 0 [(0, .ref 44), (1, .int i1), (2, .int i2)] [] σ := by
  unfold fM_taken at hX
  refine V.iloadn 1 dM_taken_0 rfl rfl ?_
  refine V.callsi [.int i1] dM_taken_1 (kM_isShelf (σ := σ) i1) mlM_276 myM_isShelf mnM_isShelf ⟨rfl, rfl, by decide, by decide⟩ rfl (Nat.le_of_ble_eq_true rfl) ⟨Nat.zero_le _, Nat.zero_le _⟩ rfl ?_
  refine V.ifeq 27 dM_taken_4 rfl rfl (fun g1 => ?_) (fun g1 => ?_)
  · replace hX := ip hX g1
    refine V.iconst (-1 : Int32) dM_taken_27 lcm1 rfl ?_
    have hX := (Option.some.inj hX).symm; subst hX; exact V.iret dM_taken_28 rfl rfl
  · replace hX := im hX g1
    refine V.iloadn 2 dM_taken_7 rfl rfl ?_
    refine V.iconst (0 : Int32) dM_taken_8 lc0 rfl ?_
    refine V.iconst (5 : Int32) dM_taken_9 lc5 rfl ?_
    refine V.callsi [.int i2, .int (0 : Int32), .int (5 : Int32)] dM_taken_10 (kM_in (σ := σ) i2 (0 : Int32) (5 : Int32)) mlM_84 myM_in mnM_in ⟨rfl, rfl, by decide, by decide⟩ rfl (Nat.le_of_ble_eq_true rfl) ⟨Nat.zero_le _, Nat.zero_le _⟩ rfl ?_
    refine V.ifne 29 dM_taken_13 rfl rfl (fun g2 => ?_) (fun g2 => ?_)
    · replace hX := im hX g2
      refine V.sub [0, 1, 2] rfl ?_
      exact wM_taken_29 σ i1 i2 hX
    · replace hX := ip hX g2
      refine V.iloadn 2 dM_taken_16 rfl rfl ?_
      refine V.bipush (10 : Int32) dM_taken_17 lb10 rfl ?_
      refine V.bipush (13 : Int32) dM_taken_19 lb13 rfl ?_
      refine V.callsi [.int i2, .int (10 : Int32), .int (13 : Int32)] dM_taken_21 (kM_in (σ := σ) i2 (10 : Int32) (13 : Int32)) mlM_84 myM_in mnM_in ⟨rfl, rfl, by decide, by decide⟩ rfl (Nat.le_of_ble_eq_true rfl) ⟨Nat.zero_le _, Nat.zero_le _⟩ rfl ?_
      refine V.ifne 29 dM_taken_24 rfl rfl (fun g13 => ?_) (fun g13 => ?_)
      · replace hX := im hX g13
        refine V.sub [0, 1, 2] rfl ?_
        exact wM_taken_29 σ i1 i2 hX
      · replace hX := ip hX g13
        refine V.iconst (-1 : Int32) dM_taken_27 lcm1 rfl ?_
        have hX := (Option.some.inj hX).symm; subst hX; exact V.iret dM_taken_28 rfl rfl
theorem kM_taken {E : Ev} {σ : St} {i1 : Int32} {i2 : Int32} {z : Int32} (h : fM_taken σ i1 i2 = some z) : Ct mM_taken E [.ref 44, .int i1, .int i2] σ (some (.int z), σ) := Ct.of (by decide) (Nat.le_of_ble_eq_true rfl) (wM_taken σ i1 i2 h)
theorem dM_ran_0 : decode mM_ran.1 0 = .ok (.aload_n 0, 1) := by decide +kernel
theorem dM_ran_1 : decode mM_ran.1 1 = .ok (.getfield 293, 3) := by decide +kernel
theorem dM_ran_4 : decode mM_ran.1 4 = .ok (.bipush 30, 2) := by decide +kernel
theorem dM_ran_6 : decode mM_ran.1 6 = .ok (.if_icmp .ge 23, 3) := by decide +kernel
theorem dM_ran_9 : decode mM_ran.1 9 = .ok (.aload_n 0, 1) := by decide +kernel
theorem dM_ran_10 : decode mM_ran.1 10 = .ok (.getfield 72, 3) := by decide +kernel
theorem dM_ran_13 : decode mM_ran.1 13 = .ok (.aload_n 0, 1) := by decide +kernel
theorem dM_ran_14 : decode mM_ran.1 14 = .ok (.getfield 293, 3) := by decide +kernel
theorem dM_ran_17 : decode mM_ran.1 17 = .ok (.iload_n 1, 1) := by decide +kernel
theorem dM_ran_18 : decode mM_ran.1 18 = .ok (.iastore, 1) := by decide +kernel
theorem dM_ran_19 : decode mM_ran.1 19 = .ok (.aload_n 0, 1) := by decide +kernel
theorem dM_ran_20 : decode mM_ran.1 20 = .ok (.dup, 1) := by decide +kernel
theorem dM_ran_21 : decode mM_ran.1 21 = .ok (.getfield 293, 3) := by decide +kernel
theorem dM_ran_24 : decode mM_ran.1 24 = .ok (.iconst 1, 1) := by decide +kernel
theorem dM_ran_25 : decode mM_ran.1 25 = .ok (.iadd, 1) := by decide +kernel
theorem dM_ran_26 : decode mM_ran.1 26 = .ok (.putfield 293, 3) := by decide +kernel
theorem dM_ran_29 : decode mM_ran.1 29 = .ok (.return_, 1) := by decide +kernel
set_option maxRecDepth 4000 in
theorem wM_ran {E : Ev} {z : St} (σ : St) (i1 : Int32) (hX : fM_ran σ i1 = some z) : V E mM_ran (FM E (none, z)) 0 [(0, .ref 44), (1, .int i1)] [] σ := by
  unfold fM_ran at hX
  refine V.aloadn 0 dM_ran_0 rfl rfl ?_
  refine V.geti 44 dM_ran_1 flM_293 (rfl : kd 44 = (6, 0)) rfl ?_
  refine V.bipush (30 : Int32) dM_ran_4 lb30 rfl ?_
  refine V.icmpge 29 dM_ran_6 rfl rfl (fun g1 => ?_) (fun g1 => ?_)
  · replace hX := ip hX g1
    have hX := (Option.some.inj hX).symm; subst hX; exact V.vret dM_ran_29 rfl rfl
  · replace hX := im hX g1
    refine V.aloadn 0 dM_ran_9 rfl rfl ?_
    refine V.getr 44 64 dM_ran_10 flM_72 (rfl : kd 44 = (6, 0)) rfl rfl ?_
    refine V.aloadn 0 dM_ran_13 rfl rfl ?_
    refine V.geti 44 dM_ran_14 flM_293 (rfl : kd 44 = (6, 0)) rfl ?_
    refine V.iloadn 1 dM_ran_17 rfl rfl ?_
    obtain ⟨h2, hX⟩ := ob hX
    refine V.iast 64 dM_ran_18 (rfl : kd 64 = (7, 30)) h2 rfl ?_
    replace hX := nmx hX; generalize sI σ 64 (ix (gI σ 44 37)) i1 = σ3 at hX ⊢; try dsimp only at hX
    refine V.aloadn 0 dM_ran_19 rfl rfl ?_
    refine V.dup dM_ran_20 rfl rfl ?_
    refine V.geti 44 dM_ran_21 flM_293 (rfl : kd 44 = (6, 0)) rfl ?_
    refine V.iconst (1 : Int32) dM_ran_24 lc1 rfl ?_
    refine V.iadd dM_ran_25 rfl ?_
    refine V.puti 44 .int dM_ran_26 flM_293 fw6_37 (rfl : kd 44 = (6, 0)) ⟨rfl, rfl⟩ rfl ?_
    replace hX := nmx hX; generalize sI σ3 44 37 ((gI σ3 44 37) + (1 : Int32)) = σ4 at hX ⊢; try dsimp only at hX
    have hX := (Option.some.inj hX).symm; subst hX; exact V.vret dM_ran_29 rfl rfl
theorem kM_ran {E : Ev} {σ z : St} {i1 : Int32} (h : fM_ran σ i1 = some z) : Ct mM_ran E [.ref 44, .int i1] σ (none, z) := Ct.of (by decide) (Nat.le_of_ble_eq_true rfl) (wM_ran σ i1 h)
theorem dM_plainRings_0 : decode mM_plainRings.1 0 = .ok (.aload_n 0, 1) := by decide +kernel
theorem dM_plainRings_1 : decode mM_plainRings.1 1 = .ok (.bipush 10, 2) := by decide +kernel
theorem dM_plainRings_3 : decode mM_plainRings.1 3 = .ok (.invokevirtual 296, 3) := by decide +kernel
theorem dM_plainRings_6 : decode mM_plainRings.1 6 = .ok (.iload_n 1, 1) := by decide +kernel
theorem dM_plainRings_7 : decode mM_plainRings.1 7 = .ok (.aload_n 0, 1) := by decide +kernel
theorem dM_plainRings_8 : decode mM_plainRings.1 8 = .ok (.getfield 299, 3) := by decide +kernel
theorem dM_plainRings_11 : decode mM_plainRings.1 11 = .ok (.iadd, 1) := by decide +kernel
theorem dM_plainRings_12 : decode mM_plainRings.1 12 = .ok (.ireturn, 1) := by decide +kernel
set_option maxRecDepth 4000 in
theorem wM_plainRings {E : Ev} {z : Int32 × St} (σ : St) (i1 : Int32) (hX : fM_plainRings σ i1 = some z) : V E mM_plainRings (FM E (some (.int z.1), z.2)) 0 [(0, .ref 44), (1, .int i1)] [] σ := by
  unfold fM_plainRings at hX
  refine V.aloadn 0 dM_plainRings_0 rfl rfl ?_
  refine V.bipush (10 : Int32) dM_plainRings_1 lb10 rfl ?_
  obtain ⟨σ2, c1, hX⟩ := bd hX; try dsimp only at hX
  refine V.callv0 44 [.int (10 : Int32)] dM_plainRings_3 (kM_ran c1) mlM_296 myM_ran mnM_ran ⟨rfl, rfl, by decide, by decide⟩ (rfl : kd 44 = (6, 0)) (by decide) rfl (Nat.le_of_ble_eq_true rfl) ⟨Nat.zero_le _, Nat.zero_le _⟩ rfl ?_
  refine V.iloadn 1 dM_plainRings_6 rfl rfl ?_
  refine V.aloadn 0 dM_plainRings_7 rfl rfl ?_
  refine V.geti 44 dM_plainRings_8 flM_299 (rfl : kd 44 = (6, 0)) rfl ?_
  refine V.iadd dM_plainRings_11 rfl ?_
  have hX := (Option.some.inj hX).symm; subst hX; exact V.iret dM_plainRings_12 rfl rfl
theorem kM_plainRings {E : Ev} {σ σ2 : St} {i1 : Int32} {z : Int32} (h : fM_plainRings σ i1 = some (z, σ2)) : Ct mM_plainRings E [.ref 44, .int i1] σ (some (.int z), σ2) := Ct.of (by decide) (Nat.le_of_ble_eq_true rfl) (wM_plainRings σ i1 h)
theorem dM_crownRings_0 : decode mM_crownRings.1 0 = .ok (.aload_n 0, 1) := by decide +kernel
theorem dM_crownRings_1 : decode mM_crownRings.1 1 = .ok (.bipush 30, 2) := by decide +kernel
theorem dM_crownRings_3 : decode mM_crownRings.1 3 = .ok (.invokevirtual 296, 3) := by decide +kernel
theorem dM_crownRings_6 : decode mM_crownRings.1 6 = .ok (.aload_n 0, 1) := by decide +kernel
theorem dM_crownRings_7 : decode mM_crownRings.1 7 = .ok (.iload_n 1, 1) := by decide +kernel
theorem dM_crownRings_8 : decode mM_crownRings.1 8 = .ok (.invokevirtual 302, 3) := by decide +kernel
theorem dM_crownRings_11 : decode mM_crownRings.1 11 = .ok (.iconst 3, 1) := by decide +kernel
theorem dM_crownRings_12 : decode mM_crownRings.1 12 = .ok (.imul, 1) := by decide +kernel
theorem dM_crownRings_13 : decode mM_crownRings.1 13 = .ok (.ireturn, 1) := by decide +kernel
set_option maxRecDepth 4000 in
theorem wM_crownRings {E : Ev} {z : Int32 × St} (σ : St) (i1 : Int32) (hX : fM_crownRings σ i1 = some z) : V E mM_crownRings (FM E (some (.int z.1), z.2)) 0 [(0, .ref 44), (1, .int i1)] [] σ := by
  unfold fM_crownRings at hX
  refine V.aloadn 0 dM_crownRings_0 rfl rfl ?_
  refine V.bipush (30 : Int32) dM_crownRings_1 lb30 rfl ?_
  obtain ⟨σ2, c1, hX⟩ := bd hX; try dsimp only at hX
  refine V.callv0 44 [.int (30 : Int32)] dM_crownRings_3 (kM_ran c1) mlM_296 myM_ran mnM_ran ⟨rfl, rfl, by decide, by decide⟩ (rfl : kd 44 = (6, 0)) (by decide) rfl (Nat.le_of_ble_eq_true rfl) ⟨Nat.zero_le _, Nat.zero_le _⟩ rfl ?_
  refine V.aloadn 0 dM_crownRings_6 rfl rfl ?_
  refine V.iloadn 1 dM_crownRings_7 rfl rfl ?_
  obtain ⟨q4, σ4, c3, hX⟩ := bi2 hX; try dsimp only at hX
  refine V.callvi 44 [.int i1] dM_crownRings_8 (kM_plainRings c3) mlM_302 myM_plainRings mnM_plainRings ⟨rfl, rfl, by decide, by decide⟩ (rfl : kd 44 = (6, 0)) (by decide) rfl (Nat.le_of_ble_eq_true rfl) ⟨Nat.zero_le _, Nat.zero_le _⟩ rfl ?_
  refine V.iconst (3 : Int32) dM_crownRings_11 lc3 rfl ?_
  refine V.imul dM_crownRings_12 rfl ?_
  have hX := (Option.some.inj hX).symm; subst hX; exact V.iret dM_crownRings_13 rfl rfl
theorem kM_crownRings {E : Ev} {σ σ2 : St} {i1 : Int32} {z : Int32} (h : fM_crownRings σ i1 = some (z, σ2)) : Ct mM_crownRings E [.ref 44, .int i1] σ (some (.int z), σ2) := Ct.of (by decide) (Nat.le_of_ble_eq_true rfl) (wM_crownRings σ i1 h)
theorem dM_ringsIt_0 : decode mM_ringsIt.1 0 = .ok (.aload_n 0, 1) := by decide +kernel
theorem dM_ringsIt_1 : decode mM_ringsIt.1 1 = .ok (.getfield 305, 3) := by decide +kernel
theorem dM_ringsIt_4 : decode mM_ringsIt.1 4 = .ok (.tableswitch 65 2 4 #[28, 48, 34], 28) := by decide +kernel
theorem dM_ringsIt_32 : decode mM_ringsIt.1 32 = .ok (.aload_n 0, 1) := by decide +kernel
theorem dM_ringsIt_33 : decode mM_ringsIt.1 33 = .ok (.iload_n 1, 1) := by decide +kernel
theorem dM_ringsIt_34 : decode mM_ringsIt.1 34 = .ok (.invokevirtual 308, 3) := by decide +kernel
theorem dM_ringsIt_37 : decode mM_ringsIt.1 37 = .ok (.ireturn, 1) := by decide +kernel
theorem dM_ringsIt_38 : decode mM_ringsIt.1 38 = .ok (.aload_n 0, 1) := by decide +kernel
theorem dM_ringsIt_39 : decode mM_ringsIt.1 39 = .ok (.bipush 40, 2) := by decide +kernel
theorem dM_ringsIt_41 : decode mM_ringsIt.1 41 = .ok (.invokevirtual 296, 3) := by decide +kernel
theorem dM_ringsIt_44 : decode mM_ringsIt.1 44 = .ok (.iconst 0, 1) := by decide +kernel
theorem dM_ringsIt_45 : decode mM_ringsIt.1 45 = .ok (.aload_n 0, 1) := by decide +kernel
theorem dM_ringsIt_46 : decode mM_ringsIt.1 46 = .ok (.iload_n 1, 1) := by decide +kernel
theorem dM_ringsIt_47 : decode mM_ringsIt.1 47 = .ok (.invokevirtual 308, 3) := by decide +kernel
theorem dM_ringsIt_50 : decode mM_ringsIt.1 50 = .ok (.isub, 1) := by decide +kernel
theorem dM_ringsIt_51 : decode mM_ringsIt.1 51 = .ok (.ireturn, 1) := by decide +kernel
theorem dM_ringsIt_52 : decode mM_ringsIt.1 52 = .ok (.aload_n 0, 1) := by decide +kernel
theorem dM_ringsIt_53 : decode mM_ringsIt.1 53 = .ok (.bipush 51, 2) := by decide +kernel
theorem dM_ringsIt_55 : decode mM_ringsIt.1 55 = .ok (.invokevirtual 296, 3) := by decide +kernel
theorem dM_ringsIt_58 : decode mM_ringsIt.1 58 = .ok (.aload_n 0, 1) := by decide +kernel
theorem dM_ringsIt_59 : decode mM_ringsIt.1 59 = .ok (.iload_n 1, 1) := by decide +kernel
theorem dM_ringsIt_60 : decode mM_ringsIt.1 60 = .ok (.invokevirtual 302, 3) := by decide +kernel
theorem dM_ringsIt_63 : decode mM_ringsIt.1 63 = .ok (.aload_n 0, 1) := by decide +kernel
theorem dM_ringsIt_64 : decode mM_ringsIt.1 64 = .ok (.getfield 299, 3) := by decide +kernel
theorem dM_ringsIt_67 : decode mM_ringsIt.1 67 = .ok (.isub, 1) := by decide +kernel
theorem dM_ringsIt_68 : decode mM_ringsIt.1 68 = .ok (.ireturn, 1) := by decide +kernel
theorem dM_ringsIt_69 : decode mM_ringsIt.1 69 = .ok (.aload_n 0, 1) := by decide +kernel
theorem dM_ringsIt_70 : decode mM_ringsIt.1 70 = .ok (.iload_n 1, 1) := by decide +kernel
theorem dM_ringsIt_71 : decode mM_ringsIt.1 71 = .ok (.invokevirtual 302, 3) := by decide +kernel
theorem dM_ringsIt_74 : decode mM_ringsIt.1 74 = .ok (.ireturn, 1) := by decide +kernel
set_option maxRecDepth 4000 in
theorem wM_ringsIt {E : Ev} {z : Int32 × St} (σ : St) (i1 : Int32) (hX : fM_ringsIt σ i1 = some z) : V E mM_ringsIt (FM E (some (.int z.1), z.2)) 0 [(0, .ref 44), (1, .int i1)] [] σ := by
  unfold fM_ringsIt at hX
  refine V.aloadn 0 dM_ringsIt_0 rfl rfl ?_
  refine V.geti 44 dM_ringsIt_1 flM_305 (rfl : kd 44 = (6, 0)) rfl ?_
  by_cases g1 : (gI σ 44 33) = (2 : Int32)
  · replace hX := ip hX g1
    refine V.tabIn (off := 28) 32 dM_ringsIt_4 (by rw [g1]; decide) (by rw [g1]; decide) (by rw [g1]; rfl) rfl ?_
    refine V.aloadn 0 dM_ringsIt_32 rfl rfl ?_
    refine V.iloadn 1 dM_ringsIt_33 rfl rfl ?_
    obtain ⟨q3, σ3, c2, hX⟩ := bi2 hX; try dsimp only at hX
    refine V.callvi 44 [.int i1] dM_ringsIt_34 (kM_crownRings c2) mlM_308 myM_crownRings mnM_crownRings ⟨rfl, rfl, by decide, by decide⟩ (rfl : kd 44 = (6, 0)) (by decide) rfl (Nat.le_of_ble_eq_true rfl) ⟨Nat.zero_le _, Nat.zero_le _⟩ rfl ?_
    have hX := (Option.some.inj hX).symm; subst hX; exact V.iret dM_ringsIt_37 rfl rfl
  · replace hX := im hX g1
    by_cases g4 : (gI σ 44 33) = (3 : Int32)
    · replace hX := ip hX g4
      refine V.tabIn (off := 48) 52 dM_ringsIt_4 (by rw [g4]; decide) (by rw [g4]; decide) (by rw [g4]; rfl) rfl ?_
      refine V.aloadn 0 dM_ringsIt_52 rfl rfl ?_
      refine V.bipush (51 : Int32) dM_ringsIt_53 lb51 rfl ?_
      obtain ⟨σ6, c5, hX⟩ := bd hX; try dsimp only at hX
      refine V.callv0 44 [.int (51 : Int32)] dM_ringsIt_55 (kM_ran c5) mlM_296 myM_ran mnM_ran ⟨rfl, rfl, by decide, by decide⟩ (rfl : kd 44 = (6, 0)) (by decide) rfl (Nat.le_of_ble_eq_true rfl) ⟨Nat.zero_le _, Nat.zero_le _⟩ rfl ?_
      refine V.aloadn 0 dM_ringsIt_58 rfl rfl ?_
      refine V.iloadn 1 dM_ringsIt_59 rfl rfl ?_
      obtain ⟨q8, σ8, c7, hX⟩ := bi2 hX; try dsimp only at hX
      refine V.callvi 44 [.int i1] dM_ringsIt_60 (kM_plainRings c7) mlM_302 myM_plainRings mnM_plainRings ⟨rfl, rfl, by decide, by decide⟩ (rfl : kd 44 = (6, 0)) (by decide) rfl (Nat.le_of_ble_eq_true rfl) ⟨Nat.zero_le _, Nat.zero_le _⟩ rfl ?_
      refine V.aloadn 0 dM_ringsIt_63 rfl rfl ?_
      refine V.geti 44 dM_ringsIt_64 flM_299 (rfl : kd 44 = (6, 0)) rfl ?_
      refine V.isub dM_ringsIt_67 rfl ?_
      have hX := (Option.some.inj hX).symm; subst hX; exact V.iret dM_ringsIt_68 rfl rfl
    · replace hX := im hX g4
      by_cases g9 : (gI σ 44 33) = (4 : Int32)
      · replace hX := ip hX g9
        refine V.tabIn (off := 34) 38 dM_ringsIt_4 (by rw [g9]; decide) (by rw [g9]; decide) (by rw [g9]; rfl) rfl ?_
        refine V.aloadn 0 dM_ringsIt_38 rfl rfl ?_
        refine V.bipush (40 : Int32) dM_ringsIt_39 lb40 rfl ?_
        obtain ⟨σ11, c10, hX⟩ := bd hX; try dsimp only at hX
        refine V.callv0 44 [.int (40 : Int32)] dM_ringsIt_41 (kM_ran c10) mlM_296 myM_ran mnM_ran ⟨rfl, rfl, by decide, by decide⟩ (rfl : kd 44 = (6, 0)) (by decide) rfl (Nat.le_of_ble_eq_true rfl) ⟨Nat.zero_le _, Nat.zero_le _⟩ rfl ?_
        refine V.iconst (0 : Int32) dM_ringsIt_44 lc0 rfl ?_
        refine V.aloadn 0 dM_ringsIt_45 rfl rfl ?_
        refine V.iloadn 1 dM_ringsIt_46 rfl rfl ?_
        obtain ⟨q13, σ13, c12, hX⟩ := bi2 hX; try dsimp only at hX
        refine V.callvi 44 [.int i1] dM_ringsIt_47 (kM_crownRings c12) mlM_308 myM_crownRings mnM_crownRings ⟨rfl, rfl, by decide, by decide⟩ (rfl : kd 44 = (6, 0)) (by decide) rfl (Nat.le_of_ble_eq_true rfl) ⟨Nat.zero_le _, Nat.zero_le _⟩ rfl ?_
        refine V.isub dM_ringsIt_50 rfl ?_
        have hX := (Option.some.inj hX).symm; subst hX; exact V.iret dM_ringsIt_51 rfl rfl
      · replace hX := im hX g9
        refine V.tabOut 69 dM_ringsIt_4 (by have a0 := lv_neT g1 (a := 2) (by decide); have a1 := lv_neT g4 (a := 3) (by decide); have a2 := lv_neT g9 (a := 4) (by decide); omega) rfl ?_
        refine V.aloadn 0 dM_ringsIt_69 rfl rfl ?_
        refine V.iloadn 1 dM_ringsIt_70 rfl rfl ?_
        obtain ⟨q15, σ15, c14, hX⟩ := bi2 hX; try dsimp only at hX
        refine V.callvi 44 [.int i1] dM_ringsIt_71 (kM_plainRings c14) mlM_302 myM_plainRings mnM_plainRings ⟨rfl, rfl, by decide, by decide⟩ (rfl : kd 44 = (6, 0)) (by decide) rfl (Nat.le_of_ble_eq_true rfl) ⟨Nat.zero_le _, Nat.zero_le _⟩ rfl ?_
        have hX := (Option.some.inj hX).symm; subst hX; exact V.iret dM_ringsIt_74 rfl rfl
theorem kM_ringsIt {E : Ev} {σ σ2 : St} {i1 : Int32} {z : Int32} (h : fM_ringsIt σ i1 = some (z, σ2)) : Ct mM_ringsIt E [.ref 44, .int i1] σ (some (.int z), σ2) := Ct.of (by decide) (Nat.le_of_ble_eq_true rfl) (wM_ringsIt σ i1 h)
theorem dM_plainWeighs_0 : decode mM_plainWeighs.1 0 = .ok (.aload_n 0, 1) := by decide +kernel
theorem dM_plainWeighs_1 : decode mM_plainWeighs.1 1 = .ok (.bipush 11, 2) := by decide +kernel
theorem dM_plainWeighs_3 : decode mM_plainWeighs.1 3 = .ok (.invokevirtual 296, 3) := by decide +kernel
theorem dM_plainWeighs_6 : decode mM_plainWeighs.1 6 = .ok (.aload_n 0, 1) := by decide +kernel
theorem dM_plainWeighs_7 : decode mM_plainWeighs.1 7 = .ok (.iload_n 1, 1) := by decide +kernel
theorem dM_plainWeighs_8 : decode mM_plainWeighs.1 8 = .ok (.invokevirtual 311, 3) := by decide +kernel
theorem dM_plainWeighs_11 : decode mM_plainWeighs.1 11 = .ok (.iconst 2, 1) := by decide +kernel
theorem dM_plainWeighs_12 : decode mM_plainWeighs.1 12 = .ok (.imul, 1) := by decide +kernel
theorem dM_plainWeighs_13 : decode mM_plainWeighs.1 13 = .ok (.ireturn, 1) := by decide +kernel
set_option maxRecDepth 4000 in
theorem wM_plainWeighs {E : Ev} {z : Int32 × St} (σ : St) (i1 : Int32) (hX : fM_plainWeighs σ i1 = some z) : V E mM_plainWeighs (FM E (some (.int z.1), z.2)) 0 [(0, .ref 44), (1, .int i1)] [] σ := by
  unfold fM_plainWeighs at hX
  refine V.aloadn 0 dM_plainWeighs_0 rfl rfl ?_
  refine V.bipush (11 : Int32) dM_plainWeighs_1 lb11 rfl ?_
  obtain ⟨σ2, c1, hX⟩ := bd hX; try dsimp only at hX
  refine V.callv0 44 [.int (11 : Int32)] dM_plainWeighs_3 (kM_ran c1) mlM_296 myM_ran mnM_ran ⟨rfl, rfl, by decide, by decide⟩ (rfl : kd 44 = (6, 0)) (by decide) rfl (Nat.le_of_ble_eq_true rfl) ⟨Nat.zero_le _, Nat.zero_le _⟩ rfl ?_
  refine V.aloadn 0 dM_plainWeighs_6 rfl rfl ?_
  refine V.iloadn 1 dM_plainWeighs_7 rfl rfl ?_
  obtain ⟨q4, σ4, c3, hX⟩ := bi2 hX; try dsimp only at hX
  refine V.callvi 44 [.int i1] dM_plainWeighs_8 (kM_ringsIt c3) mlM_311 myM_ringsIt mnM_ringsIt ⟨rfl, rfl, by decide, by decide⟩ (rfl : kd 44 = (6, 0)) (by decide) rfl (Nat.le_of_ble_eq_true rfl) ⟨Nat.zero_le _, Nat.zero_le _⟩ rfl ?_
  refine V.iconst (2 : Int32) dM_plainWeighs_11 lc2 rfl ?_
  refine V.imul dM_plainWeighs_12 rfl ?_
  have hX := (Option.some.inj hX).symm; subst hX; exact V.iret dM_plainWeighs_13 rfl rfl
theorem kM_plainWeighs {E : Ev} {σ σ2 : St} {i1 : Int32} {z : Int32} (h : fM_plainWeighs σ i1 = some (z, σ2)) : Ct mM_plainWeighs E [.ref 44, .int i1] σ (some (.int z), σ2) := Ct.of (by decide) (Nat.le_of_ble_eq_true rfl) (wM_plainWeighs σ i1 h)
theorem dM_weighsIt_0 : decode mM_weighsIt.1 0 = .ok (.aload_n 0, 1) := by decide +kernel
theorem dM_weighsIt_1 : decode mM_weighsIt.1 1 = .ok (.getfield 305, 3) := by decide +kernel
theorem dM_weighsIt_4 : decode mM_weighsIt.1 4 = .ok (.iconst 1, 1) := by decide +kernel
theorem dM_weighsIt_5 : decode mM_weighsIt.1 5 = .ok (.if_icmp .eq 11, 3) := by decide +kernel
theorem dM_weighsIt_8 : decode mM_weighsIt.1 8 = .ok (.aload_n 0, 1) := by decide +kernel
theorem dM_weighsIt_9 : decode mM_weighsIt.1 9 = .ok (.getfield 305, 3) := by decide +kernel
theorem dM_weighsIt_12 : decode mM_weighsIt.1 12 = .ok (.iconst 3, 1) := by decide +kernel
theorem dM_weighsIt_13 : decode mM_weighsIt.1 13 = .ok (.if_icmp .ne 20, 3) := by decide +kernel
theorem dM_weighsIt_16 : decode mM_weighsIt.1 16 = .ok (.aload_n 0, 1) := by decide +kernel
theorem dM_weighsIt_17 : decode mM_weighsIt.1 17 = .ok (.bipush 20, 2) := by decide +kernel
theorem dM_weighsIt_19 : decode mM_weighsIt.1 19 = .ok (.invokevirtual 296, 3) := by decide +kernel
theorem dM_weighsIt_22 : decode mM_weighsIt.1 22 = .ok (.aload_n 0, 1) := by decide +kernel
theorem dM_weighsIt_23 : decode mM_weighsIt.1 23 = .ok (.iload_n 1, 1) := by decide +kernel
theorem dM_weighsIt_24 : decode mM_weighsIt.1 24 = .ok (.invokevirtual 314, 3) := by decide +kernel
theorem dM_weighsIt_27 : decode mM_weighsIt.1 27 = .ok (.aload_n 0, 1) := by decide +kernel
theorem dM_weighsIt_28 : decode mM_weighsIt.1 28 = .ok (.getfield 317, 3) := by decide +kernel
theorem dM_weighsIt_31 : decode mM_weighsIt.1 31 = .ok (.isub, 1) := by decide +kernel
theorem dM_weighsIt_32 : decode mM_weighsIt.1 32 = .ok (.ireturn, 1) := by decide +kernel
theorem dM_weighsIt_33 : decode mM_weighsIt.1 33 = .ok (.aload_n 0, 1) := by decide +kernel
theorem dM_weighsIt_34 : decode mM_weighsIt.1 34 = .ok (.getfield 305, 3) := by decide +kernel
theorem dM_weighsIt_37 : decode mM_weighsIt.1 37 = .ok (.iconst 4, 1) := by decide +kernel
theorem dM_weighsIt_38 : decode mM_weighsIt.1 38 = .ok (.if_icmp .ne 26, 3) := by decide +kernel
theorem dM_weighsIt_41 : decode mM_weighsIt.1 41 = .ok (.aload_n 0, 1) := by decide +kernel
theorem dM_weighsIt_42 : decode mM_weighsIt.1 42 = .ok (.bipush 41, 2) := by decide +kernel
theorem dM_weighsIt_44 : decode mM_weighsIt.1 44 = .ok (.invokevirtual 296, 3) := by decide +kernel
theorem dM_weighsIt_47 : decode mM_weighsIt.1 47 = .ok (.aload_n 0, 1) := by decide +kernel
theorem dM_weighsIt_48 : decode mM_weighsIt.1 48 = .ok (.iload_n 1, 1) := by decide +kernel
theorem dM_weighsIt_49 : decode mM_weighsIt.1 49 = .ok (.invokevirtual 314, 3) := by decide +kernel
theorem dM_weighsIt_52 : decode mM_weighsIt.1 52 = .ok (.istore_n 2, 1) := by decide +kernel
theorem dM_weighsIt_53 : decode mM_weighsIt.1 53 = .ok (.iload_n 2, 1) := by decide +kernel
theorem dM_weighsIt_54 : decode mM_weighsIt.1 54 = .ok (.aload_n 0, 1) := by decide +kernel
theorem dM_weighsIt_55 : decode mM_weighsIt.1 55 = .ok (.aload_n 0, 1) := by decide +kernel
theorem dM_weighsIt_56 : decode mM_weighsIt.1 56 = .ok (.getfield 299, 3) := by decide +kernel
theorem dM_weighsIt_59 : decode mM_weighsIt.1 59 = .ok (.invokevirtual 311, 3) := by decide +kernel
theorem dM_weighsIt_62 : decode mM_weighsIt.1 62 = .ok (.iadd, 1) := by decide +kernel
theorem dM_weighsIt_63 : decode mM_weighsIt.1 63 = .ok (.ireturn, 1) := by decide +kernel
theorem dM_weighsIt_64 : decode mM_weighsIt.1 64 = .ok (.aload_n 0, 1) := by decide +kernel
theorem dM_weighsIt_65 : decode mM_weighsIt.1 65 = .ok (.iload_n 1, 1) := by decide +kernel
theorem dM_weighsIt_66 : decode mM_weighsIt.1 66 = .ok (.invokevirtual 314, 3) := by decide +kernel
theorem dM_weighsIt_69 : decode mM_weighsIt.1 69 = .ok (.ireturn, 1) := by decide +kernel
set_option maxRecDepth 4000 in
theorem wM_weighsIt_16 {E : Ev} {z : Int32 × St} (σ : St) (i1 : Int32) (hX : fM_weighsIt_16 σ i1 = some z) : V E mM_weighsIt (FM E (some (.int z.1), z.2)) 16 [(0, .ref 44), (1, .int i1)] [] σ := by
  unfold fM_weighsIt_16 at hX
  refine V.aloadn 0 dM_weighsIt_16 rfl rfl ?_
  refine V.bipush (20 : Int32) dM_weighsIt_17 lb20 rfl ?_
  obtain ⟨σ3, c2, hX⟩ := bd hX; try dsimp only at hX
  refine V.callv0 44 [.int (20 : Int32)] dM_weighsIt_19 (kM_ran c2) mlM_296 myM_ran mnM_ran ⟨rfl, rfl, by decide, by decide⟩ (rfl : kd 44 = (6, 0)) (by decide) rfl (Nat.le_of_ble_eq_true rfl) ⟨Nat.zero_le _, Nat.zero_le _⟩ rfl ?_
  refine V.aloadn 0 dM_weighsIt_22 rfl rfl ?_
  refine V.iloadn 1 dM_weighsIt_23 rfl rfl ?_
  obtain ⟨q5, σ5, c4, hX⟩ := bi2 hX; try dsimp only at hX
  refine V.callvi 44 [.int i1] dM_weighsIt_24 (kM_plainWeighs c4) mlM_314 myM_plainWeighs mnM_plainWeighs ⟨rfl, rfl, by decide, by decide⟩ (rfl : kd 44 = (6, 0)) (by decide) rfl (Nat.le_of_ble_eq_true rfl) ⟨Nat.zero_le _, Nat.zero_le _⟩ rfl ?_
  refine V.aloadn 0 dM_weighsIt_27 rfl rfl ?_
  refine V.geti 44 dM_weighsIt_28 flM_317 (rfl : kd 44 = (6, 0)) rfl ?_
  refine V.isub dM_weighsIt_31 rfl ?_
  have hX := (Option.some.inj hX).symm; subst hX; exact V.iret dM_weighsIt_32 rfl rfl
set_option maxRecDepth 4000 in
theorem wM_weighsIt {E : Ev} {z : Int32 × St} (σ : St) (i1 : Int32) (hX : fM_weighsIt σ i1 = some z) : V E mM_weighsIt (FM E (some (.int z.1), z.2)) 0 [(0, .ref 44), (1, .int i1)] [] σ := by
  unfold fM_weighsIt at hX
  refine V.aloadn 0 dM_weighsIt_0 rfl rfl ?_
  refine V.geti 44 dM_weighsIt_1 flM_305 (rfl : kd 44 = (6, 0)) rfl ?_
  refine V.iconst (1 : Int32) dM_weighsIt_4 lc1 rfl ?_
  refine V.icmpeq 16 dM_weighsIt_5 rfl rfl (fun g1 => ?_) (fun g1 => ?_)
  · replace hX := ip hX g1
    refine V.sub [0, 1] rfl ?_
    exact wM_weighsIt_16 σ i1 hX
  · replace hX := im hX g1
    refine V.aloadn 0 dM_weighsIt_8 rfl rfl ?_
    refine V.geti 44 dM_weighsIt_9 flM_305 (rfl : kd 44 = (6, 0)) rfl ?_
    refine V.iconst (3 : Int32) dM_weighsIt_12 lc3 rfl ?_
    refine V.icmpne 33 dM_weighsIt_13 rfl rfl (fun g6 => ?_) (fun g6 => ?_)
    · replace hX := im hX g6
      refine V.aloadn 0 dM_weighsIt_33 rfl rfl ?_
      refine V.geti 44 dM_weighsIt_34 flM_305 (rfl : kd 44 = (6, 0)) rfl ?_
      refine V.iconst (4 : Int32) dM_weighsIt_37 lc4 rfl ?_
      refine V.icmpne 64 dM_weighsIt_38 rfl rfl (fun g7 => ?_) (fun g7 => ?_)
      · replace hX := im hX g7
        refine V.aloadn 0 dM_weighsIt_64 rfl rfl ?_
        refine V.iloadn 1 dM_weighsIt_65 rfl rfl ?_
        obtain ⟨q9, σ9, c8, hX⟩ := bi2 hX; try dsimp only at hX
        refine V.callvi 44 [.int i1] dM_weighsIt_66 (kM_plainWeighs c8) mlM_314 myM_plainWeighs mnM_plainWeighs ⟨rfl, rfl, by decide, by decide⟩ (rfl : kd 44 = (6, 0)) (by decide) rfl (Nat.le_of_ble_eq_true rfl) ⟨Nat.zero_le _, Nat.zero_le _⟩ rfl ?_
        have hX := (Option.some.inj hX).symm; subst hX; exact V.iret dM_weighsIt_69 rfl rfl
      · replace hX := ip hX g7
        refine V.aloadn 0 dM_weighsIt_41 rfl rfl ?_
        refine V.bipush (41 : Int32) dM_weighsIt_42 lb41 rfl ?_
        obtain ⟨σ11, c10, hX⟩ := bd hX; try dsimp only at hX
        refine V.callv0 44 [.int (41 : Int32)] dM_weighsIt_44 (kM_ran c10) mlM_296 myM_ran mnM_ran ⟨rfl, rfl, by decide, by decide⟩ (rfl : kd 44 = (6, 0)) (by decide) rfl (Nat.le_of_ble_eq_true rfl) ⟨Nat.zero_le _, Nat.zero_le _⟩ rfl ?_
        refine V.aloadn 0 dM_weighsIt_47 rfl rfl ?_
        refine V.iloadn 1 dM_weighsIt_48 rfl rfl ?_
        obtain ⟨q13, σ13, c12, hX⟩ := bi2 hX; try dsimp only at hX
        refine V.callvi 44 [.int i1] dM_weighsIt_49 (kM_plainWeighs c12) mlM_314 myM_plainWeighs mnM_plainWeighs ⟨rfl, rfl, by decide, by decide⟩ (rfl : kd 44 = (6, 0)) (by decide) rfl (Nat.le_of_ble_eq_true rfl) ⟨Nat.zero_le _, Nat.zero_le _⟩ rfl ?_
        refine V.istoren _ dM_weighsIt_52 (by decide) rfl rfl ?_
        refine V.iloadn 0 dM_weighsIt_53 rfl rfl ?_
        refine V.aloadn 1 dM_weighsIt_54 rfl rfl ?_
        refine V.aloadn 1 dM_weighsIt_55 rfl rfl ?_
        refine V.geti 44 dM_weighsIt_56 flM_299 (rfl : kd 44 = (6, 0)) rfl ?_
        obtain ⟨q15, σ15, c14, hX⟩ := bi2 hX; try dsimp only at hX
        refine V.callvi 44 [.int (gI σ13 44 34)] dM_weighsIt_59 (kM_ringsIt c14) mlM_311 myM_ringsIt mnM_ringsIt ⟨rfl, rfl, by decide, by decide⟩ (rfl : kd 44 = (6, 0)) (by decide) rfl (Nat.le_of_ble_eq_true rfl) ⟨Nat.zero_le _, Nat.zero_le _⟩ rfl ?_
        refine V.iadd dM_weighsIt_62 rfl ?_
        have hX := (Option.some.inj hX).symm; subst hX; exact V.iret dM_weighsIt_63 rfl rfl
    · replace hX := ip hX g6
      refine V.sub [0, 1] rfl ?_
      exact wM_weighsIt_16 σ i1 hX
theorem kM_weighsIt {E : Ev} {σ σ2 : St} {i1 : Int32} {z : Int32} (h : fM_weighsIt σ i1 = some (z, σ2)) : Ct mM_weighsIt E [.ref 44, .int i1] σ (some (.int z), σ2) := Ct.of (by decide) (Nat.le_of_ble_eq_true rfl) (wM_weighsIt σ i1 h)
theorem dM_plainShares_0 : decode mM_plainShares.1 0 = .ok (.aload_n 0, 1) := by decide +kernel
theorem dM_plainShares_1 : decode mM_plainShares.1 1 = .ok (.bipush 12, 2) := by decide +kernel
theorem dM_plainShares_3 : decode mM_plainShares.1 3 = .ok (.invokevirtual 296, 3) := by decide +kernel
theorem dM_plainShares_6 : decode mM_plainShares.1 6 = .ok (.aload_n 0, 1) := by decide +kernel
theorem dM_plainShares_7 : decode mM_plainShares.1 7 = .ok (.getfield 317, 3) := by decide +kernel
theorem dM_plainShares_10 : decode mM_plainShares.1 10 = .ok (.aload_n 0, 1) := by decide +kernel
theorem dM_plainShares_11 : decode mM_plainShares.1 11 = .ok (.getfield 299, 3) := by decide +kernel
theorem dM_plainShares_14 : decode mM_plainShares.1 14 = .ok (.if_icmp .ne 10, 3) := by decide +kernel
theorem dM_plainShares_17 : decode mM_plainShares.1 17 = .ok (.aload_n 0, 1) := by decide +kernel
theorem dM_plainShares_18 : decode mM_plainShares.1 18 = .ok (.iconst 1, 1) := by decide +kernel
theorem dM_plainShares_19 : decode mM_plainShares.1 19 = .ok (.putfield 320, 3) := by decide +kernel
theorem dM_plainShares_22 : decode mM_plainShares.1 22 = .ok (.iconst 0, 1) := by decide +kernel
theorem dM_plainShares_23 : decode mM_plainShares.1 23 = .ok (.ireturn, 1) := by decide +kernel
theorem dM_plainShares_24 : decode mM_plainShares.1 24 = .ok (.iload_n 1, 1) := by decide +kernel
theorem dM_plainShares_25 : decode mM_plainShares.1 25 = .ok (.aload_n 0, 1) := by decide +kernel
theorem dM_plainShares_26 : decode mM_plainShares.1 26 = .ok (.getfield 317, 3) := by decide +kernel
theorem dM_plainShares_29 : decode mM_plainShares.1 29 = .ok (.aload_n 0, 1) := by decide +kernel
theorem dM_plainShares_30 : decode mM_plainShares.1 30 = .ok (.getfield 299, 3) := by decide +kernel
theorem dM_plainShares_33 : decode mM_plainShares.1 33 = .ok (.isub, 1) := by decide +kernel
theorem dM_plainShares_34 : decode mM_plainShares.1 34 = .ok (.idiv, 1) := by decide +kernel
theorem dM_plainShares_35 : decode mM_plainShares.1 35 = .ok (.ireturn, 1) := by decide +kernel
set_option maxRecDepth 4000 in
theorem wM_plainShares {E : Ev} {z : Int32 × St} (σ : St) (i1 : Int32) (hX : fM_plainShares σ i1 = some z) : V E mM_plainShares (FM E (some (.int z.1), z.2)) 0 [(0, .ref 44), (1, .int i1)] [] σ := by
  unfold fM_plainShares at hX
  refine V.aloadn 0 dM_plainShares_0 rfl rfl ?_
  refine V.bipush (12 : Int32) dM_plainShares_1 lb12 rfl ?_
  obtain ⟨σ2, c1, hX⟩ := bd hX; try dsimp only at hX
  refine V.callv0 44 [.int (12 : Int32)] dM_plainShares_3 (kM_ran c1) mlM_296 myM_ran mnM_ran ⟨rfl, rfl, by decide, by decide⟩ (rfl : kd 44 = (6, 0)) (by decide) rfl (Nat.le_of_ble_eq_true rfl) ⟨Nat.zero_le _, Nat.zero_le _⟩ rfl ?_
  refine V.aloadn 0 dM_plainShares_6 rfl rfl ?_
  refine V.geti 44 dM_plainShares_7 flM_317 (rfl : kd 44 = (6, 0)) rfl ?_
  refine V.aloadn 0 dM_plainShares_10 rfl rfl ?_
  refine V.geti 44 dM_plainShares_11 flM_299 (rfl : kd 44 = (6, 0)) rfl ?_
  refine V.icmpne 24 dM_plainShares_14 rfl rfl (fun g3 => ?_) (fun g3 => ?_)
  · replace hX := im hX g3
    refine V.iloadn 1 dM_plainShares_24 rfl rfl ?_
    refine V.aloadn 0 dM_plainShares_25 rfl rfl ?_
    refine V.geti 44 dM_plainShares_26 flM_317 (rfl : kd 44 = (6, 0)) rfl ?_
    refine V.aloadn 0 dM_plainShares_29 rfl rfl ?_
    refine V.geti 44 dM_plainShares_30 flM_299 (rfl : kd 44 = (6, 0)) rfl ?_
    refine V.isub dM_plainShares_33 rfl ?_
    obtain ⟨h4, hX⟩ := ob hX
    refine V.idiv dM_plainShares_34 h4 rfl ?_
    have hX := (Option.some.inj hX).symm; subst hX; exact V.iret dM_plainShares_35 rfl rfl
  · replace hX := ip hX g3
    refine V.aloadn 0 dM_plainShares_17 rfl rfl ?_
    refine V.iconst (1 : Int32) dM_plainShares_18 lc1 rfl ?_
    refine V.puti 44 .boolean dM_plainShares_19 flM_320 fw6_38 (rfl : kd 44 = (6, 0)) (nz b01_1) rfl ?_
    replace hX := nmx hX; generalize sI σ2 44 38 (1 : Int32) = σ5 at hX ⊢; try dsimp only at hX
    refine V.iconst (0 : Int32) dM_plainShares_22 lc0 rfl ?_
    have hX := (Option.some.inj hX).symm; subst hX; exact V.iret dM_plainShares_23 rfl rfl
theorem kM_plainShares {E : Ev} {σ σ2 : St} {i1 : Int32} {z : Int32} (h : fM_plainShares σ i1 = some (z, σ2)) : Ct mM_plainShares E [.ref 44, .int i1] σ (some (.int z), σ2) := Ct.of (by decide) (Nat.le_of_ble_eq_true rfl) (wM_plainShares σ i1 h)
