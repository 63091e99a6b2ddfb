theorem dM_kindHere_0 : decode mM_kindHere.1 0 = .ok (.aload_n 0, 1) := by decide +kernel
theorem dM_kindHere_1 : decode mM_kindHere.1 1 = .ok (.ldc2_w 129, 3) := by decide +kernel
theorem dM_kindHere_4 : decode mM_kindHere.1 4 = .ok (.invokevirtual 131, 3) := by decide +kernel
theorem dM_kindHere_7 : decode mM_kindHere.1 7 = .ok (.ifCond .eq 7, 3) := by decide +kernel
theorem dM_kindHere_10 : decode mM_kindHere.1 10 = .ok (.iconst 0, 1) := by decide +kernel
theorem dM_kindHere_11 : decode mM_kindHere.1 11 = .ok (.goto 74, 3) := by decide +kernel
theorem dM_kindHere_14 : decode mM_kindHere.1 14 = .ok (.aload_n 0, 1) := by decide +kernel
theorem dM_kindHere_15 : decode mM_kindHere.1 15 = .ok (.ldc2_w 135, 3) := by decide +kernel
theorem dM_kindHere_18 : decode mM_kindHere.1 18 = .ok (.invokevirtual 131, 3) := by decide +kernel
theorem dM_kindHere_21 : decode mM_kindHere.1 21 = .ok (.ifCond .eq 7, 3) := by decide +kernel
theorem dM_kindHere_24 : decode mM_kindHere.1 24 = .ok (.iconst 1, 1) := by decide +kernel
theorem dM_kindHere_25 : decode mM_kindHere.1 25 = .ok (.goto 60, 3) := by decide +kernel
theorem dM_kindHere_28 : decode mM_kindHere.1 28 = .ok (.aload_n 0, 1) := by decide +kernel
theorem dM_kindHere_29 : decode mM_kindHere.1 29 = .ok (.ldc2_w 137, 3) := by decide +kernel
theorem dM_kindHere_32 : decode mM_kindHere.1 32 = .ok (.invokevirtual 131, 3) := by decide +kernel
theorem dM_kindHere_35 : decode mM_kindHere.1 35 = .ok (.ifCond .eq 7, 3) := by decide +kernel
theorem dM_kindHere_38 : decode mM_kindHere.1 38 = .ok (.iconst 2, 1) := by decide +kernel
theorem dM_kindHere_39 : decode mM_kindHere.1 39 = .ok (.goto 46, 3) := by decide +kernel
theorem dM_kindHere_42 : decode mM_kindHere.1 42 = .ok (.aload_n 0, 1) := by decide +kernel
theorem dM_kindHere_43 : decode mM_kindHere.1 43 = .ok (.ldc2_w 139, 3) := by decide +kernel
theorem dM_kindHere_46 : decode mM_kindHere.1 46 = .ok (.invokevirtual 131, 3) := by decide +kernel
theorem dM_kindHere_49 : decode mM_kindHere.1 49 = .ok (.ifCond .eq 7, 3) := by decide +kernel
theorem dM_kindHere_52 : decode mM_kindHere.1 52 = .ok (.iconst 3, 1) := by decide +kernel
theorem dM_kindHere_53 : decode mM_kindHere.1 53 = .ok (.goto 32, 3) := by decide +kernel
theorem dM_kindHere_56 : decode mM_kindHere.1 56 = .ok (.aload_n 0, 1) := by decide +kernel
theorem dM_kindHere_57 : decode mM_kindHere.1 57 = .ok (.ldc2_w 141, 3) := by decide +kernel
theorem dM_kindHere_60 : decode mM_kindHere.1 60 = .ok (.invokevirtual 131, 3) := by decide +kernel
theorem dM_kindHere_63 : decode mM_kindHere.1 63 = .ok (.ifCond .eq 7, 3) := by decide +kernel
theorem dM_kindHere_66 : decode mM_kindHere.1 66 = .ok (.iconst 4, 1) := by decide +kernel
theorem dM_kindHere_67 : decode mM_kindHere.1 67 = .ok (.goto 18, 3) := by decide +kernel
theorem dM_kindHere_70 : decode mM_kindHere.1 70 = .ok (.aload_n 0, 1) := by decide +kernel
theorem dM_kindHere_71 : decode mM_kindHere.1 71 = .ok (.ldc2_w 143, 3) := by decide +kernel
theorem dM_kindHere_74 : decode mM_kindHere.1 74 = .ok (.invokevirtual 131, 3) := by decide +kernel
theorem dM_kindHere_77 : decode mM_kindHere.1 77 = .ok (.ifCond .eq 7, 3) := by decide +kernel
theorem dM_kindHere_80 : decode mM_kindHere.1 80 = .ok (.iconst 5, 1) := by decide +kernel
theorem dM_kindHere_81 : decode mM_kindHere.1 81 = .ok (.goto 4, 3) := by decide +kernel
theorem dM_kindHere_84 : decode mM_kindHere.1 84 = .ok (.iconst (-1), 1) := by decide +kernel
theorem dM_kindHere_85 : decode mM_kindHere.1 85 = .ok (.ireturn, 1) := by decide +kernel
set_option maxRecDepth 4000 in
theorem wM_kindHere {E : Ev} {z : Int32} (σ : St) (hX : fM_kindHere σ = z) : V E mM_kindHere (FM E (some (.int z), σ)) 0 [(0, .ref 44)] [] σ := by
  unfold fM_kindHere at hX
  refine V.aloadn 0 dM_kindHere_0 rfl rfl ?_
  refine V.ldc2 (70241 : Int64) dM_kindHere_1 cM_129 rfl ?_
  refine V.callvi 44 [.long (70241 : Int64)] dM_kindHere_4 (kM_isWord (σ := σ) (70241 : Int64)) mlM_131 myM_isWord mnM_isWord ⟨rfl, rfl, by decide, by decide⟩ (rfl : kd 44 = (6, 0)) (by decide) rfl (Nat.le_of_ble_eq_true rfl) ⟨Nat.zero_le _, Nat.zero_le _⟩ rfl ?_
  have JJ : V E mM_kindHere (FM E (some (.int z), σ)) 85 [(0, .ref 44)] [.int (if (fM_isWord σ (70241 : Int64)) = 0 then (if (fM_isWord σ (158523 : Int64)) = 0 then (if (fM_isWord σ (1960187 : Int64)) = 0 then (if (fM_isWord σ (3217595 : Int64)) = 0 then (if (fM_isWord σ (950073034 : Int64)) = 0 then (if (fM_isWord σ (464144 : Int64)) = 0 then (-1 : Int32) else (5 : Int32)) else (4 : Int32)) else (3 : Int32)) else (2 : Int32)) else (1 : Int32)) else (0 : Int32))] σ := by
    subst hX; exact V.iret dM_kindHere_85 rfl rfl
  refine V.ifeq 14 dM_kindHere_7 rfl rfl (fun g1 => ?_) (fun g1 => ?_)
  · refine V.aloadn 0 dM_kindHere_14 rfl rfl ?_
    refine V.ldc2 (158523 : Int64) dM_kindHere_15 cM_135 rfl ?_
    refine V.callvi 44 [.long (158523 : Int64)] dM_kindHere_18 (kM_isWord (σ := σ) (158523 : Int64)) mlM_131 myM_isWord mnM_isWord ⟨rfl, rfl, by decide, by decide⟩ (rfl : kd 44 = (6, 0)) (by decide) rfl (Nat.le_of_ble_eq_true rfl) ⟨Nat.zero_le _, Nat.zero_le _⟩ rfl ?_
    refine V.ifeq 28 dM_kindHere_21 rfl rfl (fun g2 => ?_) (fun g2 => ?_)
    · refine V.aloadn 0 dM_kindHere_28 rfl rfl ?_
      refine V.ldc2 (1960187 : Int64) dM_kindHere_29 cM_137 rfl ?_
      refine V.callvi 44 [.long (1960187 : Int64)] dM_kindHere_32 (kM_isWord (σ := σ) (1960187 : Int64)) mlM_131 myM_isWord mnM_isWord ⟨rfl, rfl, by decide, by decide⟩ (rfl : kd 44 = (6, 0)) (by decide) rfl (Nat.le_of_ble_eq_true rfl) ⟨Nat.zero_le _, Nat.zero_le _⟩ rfl ?_
      refine V.ifeq 42 dM_kindHere_35 rfl rfl (fun g3 => ?_) (fun g3 => ?_)
      · refine V.aloadn 0 dM_kindHere_42 rfl rfl ?_
        refine V.ldc2 (3217595 : Int64) dM_kindHere_43 cM_139 rfl ?_
        refine V.callvi 44 [.long (3217595 : Int64)] dM_kindHere_46 (kM_isWord (σ := σ) (3217595 : Int64)) mlM_131 myM_isWord mnM_isWord ⟨rfl, rfl, by decide, by decide⟩ (rfl : kd 44 = (6, 0)) (by decide) rfl (Nat.le_of_ble_eq_true rfl) ⟨Nat.zero_le _, Nat.zero_le _⟩ rfl ?_
        refine V.ifeq 56 dM_kindHere_49 rfl rfl (fun g4 => ?_) (fun g4 => ?_)
        · refine V.aloadn 0 dM_kindHere_56 rfl rfl ?_
          refine V.ldc2 (950073034 : Int64) dM_kindHere_57 cM_141 rfl ?_
          refine V.callvi 44 [.long (950073034 : Int64)] dM_kindHere_60 (kM_isWord (σ := σ) (950073034 : Int64)) mlM_131 myM_isWord mnM_isWord ⟨rfl, rfl, by decide, by decide⟩ (rfl : kd 44 = (6, 0)) (by decide) rfl (Nat.le_of_ble_eq_true rfl) ⟨Nat.zero_le _, Nat.zero_le _⟩ rfl ?_
          refine V.ifeq 70 dM_kindHere_63 rfl rfl (fun g5 => ?_) (fun g5 => ?_)
          · refine V.aloadn 0 dM_kindHere_70 rfl rfl ?_
            refine V.ldc2 (464144 : Int64) dM_kindHere_71 cM_143 rfl ?_
            refine V.callvi 44 [.long (464144 : Int64)] dM_kindHere_74 (kM_isWord (σ := σ) (464144 : Int64)) mlM_131 myM_isWord mnM_isWord ⟨rfl, rfl, by decide, by decide⟩ (rfl : kd 44 = (6, 0)) (by decide) rfl (Nat.le_of_ble_eq_true rfl) ⟨Nat.zero_le _, Nat.zero_le _⟩ rfl ?_
            refine V.ifeq 84 dM_kindHere_77 rfl rfl (fun g6 => ?_) (fun g6 => ?_)
            · refine V.iconst (-1 : Int32) dM_kindHere_84 lcm1 rfl ?_
              exact V.top ((((((if_pos g1).trans (if_pos g2)).trans (if_pos g3)).trans (if_pos g4)).trans (if_pos g5)).trans (if_pos g6)).symm JJ
            · refine V.iconst (5 : Int32) dM_kindHere_80 lc5 rfl ?_
              refine V.goto 85 dM_kindHere_81 rfl ?_
              exact V.top ((((((if_pos g1).trans (if_pos g2)).trans (if_pos g3)).trans (if_pos g4)).trans (if_pos g5)).trans (if_neg g6)).symm JJ
          · refine V.iconst (4 : Int32) dM_kindHere_66 lc4 rfl ?_
            refine V.goto 85 dM_kindHere_67 rfl ?_
            exact V.top (((((if_pos g1).trans (if_pos g2)).trans (if_pos g3)).trans (if_pos g4)).trans (if_neg g5)).symm JJ
        · refine V.iconst (3 : Int32) dM_kindHere_52 lc3 rfl ?_
          refine V.goto 85 dM_kindHere_53 rfl ?_
          exact V.top ((((if_pos g1).trans (if_pos g2)).trans (if_pos g3)).trans (if_neg g4)).symm JJ
      · refine V.iconst (2 : Int32) dM_kindHere_38 lc2 rfl ?_
        refine V.goto 85 dM_kindHere_39 rfl ?_
        exact V.top (((if_pos g1).trans (if_pos g2)).trans (if_neg g3)).symm JJ
    · refine V.iconst (1 : Int32) dM_kindHere_24 lc1 rfl ?_
      refine V.goto 85 dM_kindHere_25 rfl ?_
      exact V.top ((if_pos g1).trans (if_neg g2)).symm JJ
  · refine V.iconst (0 : Int32) dM_kindHere_10 lc0 rfl ?_
    refine V.goto 85 dM_kindHere_11 rfl ?_
    exact V.top (if_neg g1).symm JJ
theorem kM_kindHere {E : Ev} {σ : St} : Ct mM_kindHere E [.ref 44] σ (some (.int (fM_kindHere σ)), σ) := Ct.of (by decide) (Nat.le_of_ble_eq_true rfl) (wM_kindHere σ rfl)
theorem dM_wantCoin_0 : decode mM_wantCoin.1 0 = .ok (.aload_n 0, 1) := by decide +kernel
theorem dM_wantCoin_1 : decode mM_wantCoin.1 1 = .ok (.aload_n 0, 1) := by decide +kernel
theorem dM_wantCoin_2 : decode mM_wantCoin.1 2 = .ok (.getfield 165, 3) := by decide +kernel
theorem dM_wantCoin_5 : decode mM_wantCoin.1 5 = .ok (.bipush 6, 2) := by decide +kernel
theorem dM_wantCoin_7 : decode mM_wantCoin.1 7 = .ok (.if_icmp .ge 7, 3) := by decide +kernel
theorem dM_wantCoin_10 : decode mM_wantCoin.1 10 = .ok (.iconst 1, 1) := by decide +kernel
theorem dM_wantCoin_11 : decode mM_wantCoin.1 11 = .ok (.goto 4, 3) := by decide +kernel
theorem dM_wantCoin_14 : decode mM_wantCoin.1 14 = .ok (.iconst 0, 1) := by decide +kernel
theorem dM_wantCoin_15 : decode mM_wantCoin.1 15 = .ok (.putfield 145, 3) := by decide +kernel
theorem dM_wantCoin_18 : decode mM_wantCoin.1 18 = .ok (.aload_n 0, 1) := by decide +kernel
theorem dM_wantCoin_19 : decode mM_wantCoin.1 19 = .ok (.getfield 145, 3) := by decide +kernel
theorem dM_wantCoin_22 : decode mM_wantCoin.1 22 = .ok (.ifCond .eq 7, 3) := by decide +kernel
theorem dM_wantCoin_25 : decode mM_wantCoin.1 25 = .ok (.aload_n 0, 1) := by decide +kernel
theorem dM_wantCoin_26 : decode mM_wantCoin.1 26 = .ok (.invokevirtual 149, 3) := by decide +kernel
theorem dM_wantCoin_29 : decode mM_wantCoin.1 29 = .ok (.aload_n 0, 1) := by decide +kernel
theorem dM_wantCoin_30 : decode mM_wantCoin.1 30 = .ok (.iconst 1, 1) := by decide +kernel
theorem dM_wantCoin_31 : decode mM_wantCoin.1 31 = .ok (.bipush 99, 2) := by decide +kernel
theorem dM_wantCoin_33 : decode mM_wantCoin.1 33 = .ok (.invokevirtual 158, 3) := by decide +kernel
theorem dM_wantCoin_36 : decode mM_wantCoin.1 36 = .ok (.istore_n 2, 1) := by decide +kernel
theorem dM_wantCoin_37 : decode mM_wantCoin.1 37 = .ok (.aload_n 0, 1) := by decide +kernel
theorem dM_wantCoin_38 : decode mM_wantCoin.1 38 = .ok (.aload_n 0, 1) := by decide +kernel
theorem dM_wantCoin_39 : decode mM_wantCoin.1 39 = .ok (.getfield 145, 3) := by decide +kernel
theorem dM_wantCoin_42 : decode mM_wantCoin.1 42 = .ok (.ifCond .eq 17, 3) := by decide +kernel
theorem dM_wantCoin_45 : decode mM_wantCoin.1 45 = .ok (.aload_n 0, 1) := by decide +kernel
theorem dM_wantCoin_46 : decode mM_wantCoin.1 46 = .ok (.ldc2_w 168, 3) := by decide +kernel
theorem dM_wantCoin_49 : decode mM_wantCoin.1 49 = .ok (.invokevirtual 131, 3) := by decide +kernel
theorem dM_wantCoin_52 : decode mM_wantCoin.1 52 = .ok (.ifCond .eq 7, 3) := by decide +kernel
theorem dM_wantCoin_55 : decode mM_wantCoin.1 55 = .ok (.iconst 1, 1) := by decide +kernel
theorem dM_wantCoin_56 : decode mM_wantCoin.1 56 = .ok (.goto 4, 3) := by decide +kernel
theorem dM_wantCoin_59 : decode mM_wantCoin.1 59 = .ok (.iconst 0, 1) := by decide +kernel
theorem dM_wantCoin_60 : decode mM_wantCoin.1 60 = .ok (.putfield 145, 3) := by decide +kernel
theorem dM_wantCoin_63 : decode mM_wantCoin.1 63 = .ok (.aload_n 0, 1) := by decide +kernel
theorem dM_wantCoin_64 : decode mM_wantCoin.1 64 = .ok (.getfield 145, 3) := by decide +kernel
theorem dM_wantCoin_67 : decode mM_wantCoin.1 67 = .ok (.ifCond .eq 7, 3) := by decide +kernel
theorem dM_wantCoin_70 : decode mM_wantCoin.1 70 = .ok (.aload_n 0, 1) := by decide +kernel
theorem dM_wantCoin_71 : decode mM_wantCoin.1 71 = .ok (.invokevirtual 149, 3) := by decide +kernel
theorem dM_wantCoin_74 : decode mM_wantCoin.1 74 = .ok (.aload_n 0, 1) := by decide +kernel
theorem dM_wantCoin_75 : decode mM_wantCoin.1 75 = .ok (.iconst 0, 1) := by decide +kernel
theorem dM_wantCoin_76 : decode mM_wantCoin.1 76 = .ok (.aload_n 0, 1) := by decide +kernel
theorem dM_wantCoin_77 : decode mM_wantCoin.1 77 = .ok (.getfield 155, 3) := by decide +kernel
theorem dM_wantCoin_80 : decode mM_wantCoin.1 80 = .ok (.iconst 1, 1) := by decide +kernel
theorem dM_wantCoin_81 : decode mM_wantCoin.1 81 = .ok (.isub, 1) := by decide +kernel
theorem dM_wantCoin_82 : decode mM_wantCoin.1 82 = .ok (.invokevirtual 158, 3) := by decide +kernel
theorem dM_wantCoin_85 : decode mM_wantCoin.1 85 = .ok (.istore_n 3, 1) := by decide +kernel
theorem dM_wantCoin_86 : decode mM_wantCoin.1 86 = .ok (.aload_n 0, 1) := by decide +kernel
theorem dM_wantCoin_87 : decode mM_wantCoin.1 87 = .ok (.getfield 145, 3) := by decide +kernel
theorem dM_wantCoin_90 : decode mM_wantCoin.1 90 = .ok (.ifCond .eq 9, 3) := by decide +kernel
theorem dM_wantCoin_93 : decode mM_wantCoin.1 93 = .ok (.iconst 1, 1) := by decide +kernel
theorem dM_wantCoin_94 : decode mM_wantCoin.1 94 = .ok (.iload_n 3, 1) := by decide +kernel
theorem dM_wantCoin_95 : decode mM_wantCoin.1 95 = .ok (.ishl, 1) := by decide +kernel
theorem dM_wantCoin_96 : decode mM_wantCoin.1 96 = .ok (.goto 4, 3) := by decide +kernel
theorem dM_wantCoin_99 : decode mM_wantCoin.1 99 = .ok (.iconst 0, 1) := by decide +kernel
theorem dM_wantCoin_100 : decode mM_wantCoin.1 100 = .ok (.istore 4, 2) := by decide +kernel
theorem dM_wantCoin_102 : decode mM_wantCoin.1 102 = .ok (.aload_n 0, 1) := by decide +kernel
theorem dM_wantCoin_103 : decode mM_wantCoin.1 103 = .ok (.getfield 145, 3) := by decide +kernel
theorem dM_wantCoin_106 : decode mM_wantCoin.1 106 = .ok (.ifCond .eq 17, 3) := by decide +kernel
theorem dM_wantCoin_109 : decode mM_wantCoin.1 109 = .ok (.aload_n 0, 1) := by decide +kernel
theorem dM_wantCoin_110 : decode mM_wantCoin.1 110 = .ok (.ldc2_w 170, 3) := by decide +kernel
theorem dM_wantCoin_113 : decode mM_wantCoin.1 113 = .ok (.invokevirtual 131, 3) := by decide +kernel
theorem dM_wantCoin_116 : decode mM_wantCoin.1 116 = .ok (.ifCond .eq 7, 3) := by decide +kernel
theorem dM_wantCoin_119 : decode mM_wantCoin.1 119 = .ok (.iconst 1, 1) := by decide +kernel
theorem dM_wantCoin_120 : decode mM_wantCoin.1 120 = .ok (.goto 4, 3) := by decide +kernel
theorem dM_wantCoin_123 : decode mM_wantCoin.1 123 = .ok (.iconst 0, 1) := by decide +kernel
theorem dM_wantCoin_124 : decode mM_wantCoin.1 124 = .ok (.istore 5, 2) := by decide +kernel
theorem dM_wantCoin_126 : decode mM_wantCoin.1 126 = .ok (.iload 5, 2) := by decide +kernel
theorem dM_wantCoin_128 : decode mM_wantCoin.1 128 = .ok (.ifCond .eq 66, 3) := by decide +kernel
theorem dM_wantCoin_131 : decode mM_wantCoin.1 131 = .ok (.aload_n 0, 1) := by decide +kernel
theorem dM_wantCoin_132 : decode mM_wantCoin.1 132 = .ok (.invokevirtual 149, 3) := by decide +kernel
theorem dM_wantCoin_135 : decode mM_wantCoin.1 135 = .ok (.aload_n 0, 1) := by decide +kernel
theorem dM_wantCoin_136 : decode mM_wantCoin.1 136 = .ok (.iconst 0, 1) := by decide +kernel
theorem dM_wantCoin_137 : decode mM_wantCoin.1 137 = .ok (.aload_n 0, 1) := by decide +kernel
theorem dM_wantCoin_138 : decode mM_wantCoin.1 138 = .ok (.getfield 155, 3) := by decide +kernel
theorem dM_wantCoin_141 : decode mM_wantCoin.1 141 = .ok (.iconst 1, 1) := by decide +kernel
theorem dM_wantCoin_142 : decode mM_wantCoin.1 142 = .ok (.isub, 1) := by decide +kernel
theorem dM_wantCoin_143 : decode mM_wantCoin.1 143 = .ok (.invokevirtual 158, 3) := by decide +kernel
theorem dM_wantCoin_146 : decode mM_wantCoin.1 146 = .ok (.istore 6, 2) := by decide +kernel
theorem dM_wantCoin_148 : decode mM_wantCoin.1 148 = .ok (.iload 4, 2) := by decide +kernel
theorem dM_wantCoin_150 : decode mM_wantCoin.1 150 = .ok (.aload_n 0, 1) := by decide +kernel
theorem dM_wantCoin_151 : decode mM_wantCoin.1 151 = .ok (.getfield 145, 3) := by decide +kernel
theorem dM_wantCoin_154 : decode mM_wantCoin.1 154 = .ok (.ifCond .eq 10, 3) := by decide +kernel
theorem dM_wantCoin_157 : decode mM_wantCoin.1 157 = .ok (.iconst 1, 1) := by decide +kernel
theorem dM_wantCoin_158 : decode mM_wantCoin.1 158 = .ok (.iload 6, 2) := by decide +kernel
theorem dM_wantCoin_160 : decode mM_wantCoin.1 160 = .ok (.ishl, 1) := by decide +kernel
theorem dM_wantCoin_161 : decode mM_wantCoin.1 161 = .ok (.goto 4, 3) := by decide +kernel
theorem dM_wantCoin_164 : decode mM_wantCoin.1 164 = .ok (.iconst 0, 1) := by decide +kernel
theorem dM_wantCoin_165 : decode mM_wantCoin.1 165 = .ok (.ior, 1) := by decide +kernel
theorem dM_wantCoin_166 : decode mM_wantCoin.1 166 = .ok (.istore 4, 2) := by decide +kernel
theorem dM_wantCoin_168 : decode mM_wantCoin.1 168 = .ok (.aload_n 0, 1) := by decide +kernel
theorem dM_wantCoin_169 : decode mM_wantCoin.1 169 = .ok (.getfield 145, 3) := by decide +kernel
theorem dM_wantCoin_172 : decode mM_wantCoin.1 172 = .ok (.ifCond .eq 16, 3) := by decide +kernel
theorem dM_wantCoin_175 : decode mM_wantCoin.1 175 = .ok (.aload_n 0, 1) := by decide +kernel
theorem dM_wantCoin_176 : decode mM_wantCoin.1 176 = .ok (.bipush 44, 2) := by decide +kernel
theorem dM_wantCoin_178 : decode mM_wantCoin.1 178 = .ok (.invokevirtual 152, 3) := by decide +kernel
theorem dM_wantCoin_181 : decode mM_wantCoin.1 181 = .ok (.ifCond .eq 7, 3) := by decide +kernel
theorem dM_wantCoin_184 : decode mM_wantCoin.1 184 = .ok (.iconst 1, 1) := by decide +kernel
theorem dM_wantCoin_185 : decode mM_wantCoin.1 185 = .ok (.goto 4, 3) := by decide +kernel
theorem dM_wantCoin_188 : decode mM_wantCoin.1 188 = .ok (.iconst 0, 1) := by decide +kernel
theorem dM_wantCoin_189 : decode mM_wantCoin.1 189 = .ok (.istore 5, 2) := by decide +kernel
theorem dM_wantCoin_191 : decode mM_wantCoin.1 191 = .ok (.goto (-65), 3) := by decide +kernel
theorem dM_wantCoin_194 : decode mM_wantCoin.1 194 = .ok (.aload_n 0, 1) := by decide +kernel
theorem dM_wantCoin_195 : decode mM_wantCoin.1 195 = .ok (.invokevirtual 162, 3) := by decide +kernel
theorem dM_wantCoin_198 : decode mM_wantCoin.1 198 = .ok (.aload_n 0, 1) := by decide +kernel
theorem dM_wantCoin_199 : decode mM_wantCoin.1 199 = .ok (.getfield 145, 3) := by decide +kernel
theorem dM_wantCoin_202 : decode mM_wantCoin.1 202 = .ok (.ifCond .eq 68, 3) := by decide +kernel
theorem dM_wantCoin_205 : decode mM_wantCoin.1 205 = .ok (.aload_n 0, 1) := by decide +kernel
theorem dM_wantCoin_206 : decode mM_wantCoin.1 206 = .ok (.getfield 35, 3) := by decide +kernel
theorem dM_wantCoin_209 : decode mM_wantCoin.1 209 = .ok (.iconst 4, 1) := by decide +kernel
theorem dM_wantCoin_210 : decode mM_wantCoin.1 210 = .ok (.aload_n 0, 1) := by decide +kernel
theorem dM_wantCoin_211 : decode mM_wantCoin.1 211 = .ok (.getfield 165, 3) := by decide +kernel
theorem dM_wantCoin_214 : decode mM_wantCoin.1 214 = .ok (.imul, 1) := by decide +kernel
theorem dM_wantCoin_215 : decode mM_wantCoin.1 215 = .ok (.iload_n 1, 1) := by decide +kernel
theorem dM_wantCoin_216 : decode mM_wantCoin.1 216 = .ok (.iastore, 1) := by decide +kernel
theorem dM_wantCoin_217 : decode mM_wantCoin.1 217 = .ok (.aload_n 0, 1) := by decide +kernel
theorem dM_wantCoin_218 : decode mM_wantCoin.1 218 = .ok (.getfield 35, 3) := by decide +kernel
theorem dM_wantCoin_221 : decode mM_wantCoin.1 221 = .ok (.iconst 4, 1) := by decide +kernel
theorem dM_wantCoin_222 : decode mM_wantCoin.1 222 = .ok (.aload_n 0, 1) := by decide +kernel
theorem dM_wantCoin_223 : decode mM_wantCoin.1 223 = .ok (.getfield 165, 3) := by decide +kernel
theorem dM_wantCoin_226 : decode mM_wantCoin.1 226 = .ok (.imul, 1) := by decide +kernel
theorem dM_wantCoin_227 : decode mM_wantCoin.1 227 = .ok (.iconst 1, 1) := by decide +kernel
theorem dM_wantCoin_228 : decode mM_wantCoin.1 228 = .ok (.iadd, 1) := by decide +kernel
theorem dM_wantCoin_229 : decode mM_wantCoin.1 229 = .ok (.iload_n 2, 1) := by decide +kernel
theorem dM_wantCoin_230 : decode mM_wantCoin.1 230 = .ok (.iastore, 1) := by decide +kernel
theorem dM_wantCoin_231 : decode mM_wantCoin.1 231 = .ok (.aload_n 0, 1) := by decide +kernel
theorem dM_wantCoin_232 : decode mM_wantCoin.1 232 = .ok (.getfield 35, 3) := by decide +kernel
theorem dM_wantCoin_235 : decode mM_wantCoin.1 235 = .ok (.iconst 4, 1) := by decide +kernel
theorem dM_wantCoin_236 : decode mM_wantCoin.1 236 = .ok (.aload_n 0, 1) := by decide +kernel
theorem dM_wantCoin_237 : decode mM_wantCoin.1 237 = .ok (.getfield 165, 3) := by decide +kernel
theorem dM_wantCoin_240 : decode mM_wantCoin.1 240 = .ok (.imul, 1) := by decide +kernel
theorem dM_wantCoin_241 : decode mM_wantCoin.1 241 = .ok (.iconst 2, 1) := by decide +kernel
theorem dM_wantCoin_242 : decode mM_wantCoin.1 242 = .ok (.iadd, 1) := by decide +kernel
theorem dM_wantCoin_243 : decode mM_wantCoin.1 243 = .ok (.iload_n 3, 1) := by decide +kernel
theorem dM_wantCoin_244 : decode mM_wantCoin.1 244 = .ok (.iastore, 1) := by decide +kernel
theorem dM_wantCoin_245 : decode mM_wantCoin.1 245 = .ok (.aload_n 0, 1) := by decide +kernel
theorem dM_wantCoin_246 : decode mM_wantCoin.1 246 = .ok (.getfield 35, 3) := by decide +kernel
theorem dM_wantCoin_249 : decode mM_wantCoin.1 249 = .ok (.iconst 4, 1) := by decide +kernel
theorem dM_wantCoin_250 : decode mM_wantCoin.1 250 = .ok (.aload_n 0, 1) := by decide +kernel
theorem dM_wantCoin_251 : decode mM_wantCoin.1 251 = .ok (.getfield 165, 3) := by decide +kernel
theorem dM_wantCoin_254 : decode mM_wantCoin.1 254 = .ok (.imul, 1) := by decide +kernel
theorem dM_wantCoin_255 : decode mM_wantCoin.1 255 = .ok (.iconst 3, 1) := by decide +kernel
theorem dM_wantCoin_256 : decode mM_wantCoin.1 256 = .ok (.iadd, 1) := by decide +kernel
theorem dM_wantCoin_257 : decode mM_wantCoin.1 257 = .ok (.iload 4, 2) := by decide +kernel
theorem dM_wantCoin_259 : decode mM_wantCoin.1 259 = .ok (.iastore, 1) := by decide +kernel
theorem dM_wantCoin_260 : decode mM_wantCoin.1 260 = .ok (.aload_n 0, 1) := by decide +kernel
theorem dM_wantCoin_261 : decode mM_wantCoin.1 261 = .ok (.dup, 1) := by decide +kernel
theorem dM_wantCoin_262 : decode mM_wantCoin.1 262 = .ok (.getfield 165, 3) := by decide +kernel
theorem dM_wantCoin_265 : decode mM_wantCoin.1 265 = .ok (.iconst 1, 1) := by decide +kernel
theorem dM_wantCoin_266 : decode mM_wantCoin.1 266 = .ok (.iadd, 1) := by decide +kernel
theorem dM_wantCoin_267 : decode mM_wantCoin.1 267 = .ok (.putfield 165, 3) := by decide +kernel
theorem dM_wantCoin_270 : decode mM_wantCoin.1 270 = .ok (.return_, 1) := by decide +kernel
set_option maxRecDepth 4000 in
theorem wM_wantCoin_194 {E : Ev} {z : St} (σ : St) (i1 : Int32) (i2 : Int32) (i3 : Int32) (i4 : Int32) (hX : fM_wantCoin_194 σ i1 i2 i3 i4 = some z) : V E mM_wantCoin (FM E (none, z)) 194 [(0, .ref 44), (1, .int i1), (2, .int i2), (3, .int i3), (4, .int i4)] [] σ := by
  unfold fM_wantCoin_194 at hX
  refine V.aloadn 0 dM_wantCoin_194 rfl rfl ?_
  obtain ⟨σ13, c12, hX⟩ := bd hX; try dsimp only at hX
  refine V.callv0 44 [] dM_wantCoin_195 (kM_wantEnd c12) mlM_162 myM_wantEnd mnM_wantEnd ⟨rfl, rfl, by decide, by decide⟩ (rfl : kd 44 = (6, 0)) (by decide) rfl (Nat.le_of_ble_eq_true rfl) ⟨Nat.zero_le _, Nat.zero_le _⟩ rfl ?_
  refine V.aloadn 0 dM_wantCoin_198 rfl rfl ?_
  refine V.geti 44 dM_wantCoin_199 flM_145 (rfl : kd 44 = (6, 0)) rfl ?_
  refine V.ifeq 270 dM_wantCoin_202 rfl rfl (fun g14 => ?_) (fun g14 => ?_)
  · replace hX := ip hX g14
    have hX := (Option.some.inj hX).symm; subst hX; exact V.vret dM_wantCoin_270 rfl rfl
  · replace hX := im hX g14
    refine V.aloadn 0 dM_wantCoin_205 rfl rfl ?_
    refine V.getr 44 52 dM_wantCoin_206 flM_35 (rfl : kd 44 = (6, 0)) rfl rfl ?_
    refine V.iconst (4 : Int32) dM_wantCoin_209 lc4 rfl ?_
    refine V.aloadn 0 dM_wantCoin_210 rfl rfl ?_
    refine V.geti 44 dM_wantCoin_211 flM_165 (rfl : kd 44 = (6, 0)) rfl ?_
    refine V.imul dM_wantCoin_214 rfl ?_
    refine V.iloadn 1 dM_wantCoin_215 rfl rfl ?_
    obtain ⟨h15, hX⟩ := ob hX
    refine V.iast 52 dM_wantCoin_216 (rfl : kd 52 = (7, 24)) h15 rfl ?_
    replace hX := nmx hX; generalize sI σ13 52 (ix ((4 : Int32) * (gI σ13 44 16))) i1 = σ16 at hX ⊢; try dsimp only at hX
    refine V.aloadn 0 dM_wantCoin_217 rfl rfl ?_
    refine V.getr 44 52 dM_wantCoin_218 flM_35 (rfl : kd 44 = (6, 0)) rfl rfl ?_
    refine V.iconst (4 : Int32) dM_wantCoin_221 lc4 rfl ?_
    refine V.aloadn 0 dM_wantCoin_222 rfl rfl ?_
    refine V.geti 44 dM_wantCoin_223 flM_165 (rfl : kd 44 = (6, 0)) rfl ?_
    refine V.imul dM_wantCoin_226 rfl ?_
    refine V.iconst (1 : Int32) dM_wantCoin_227 lc1 rfl ?_
    refine V.iadd dM_wantCoin_228 rfl ?_
    refine V.iloadn 2 dM_wantCoin_229 rfl rfl ?_
    obtain ⟨h17, hX⟩ := ob hX
    refine V.iast 52 dM_wantCoin_230 (rfl : kd 52 = (7, 24)) h17 rfl ?_
    replace hX := nmx hX; generalize sI σ16 52 (ix (((4 : Int32) * (gI σ16 44 16)) + (1 : Int32))) i2 = σ18 at hX ⊢; try dsimp only at hX
    refine V.aloadn 0 dM_wantCoin_231 rfl rfl ?_
    refine V.getr 44 52 dM_wantCoin_232 flM_35 (rfl : kd 44 = (6, 0)) rfl rfl ?_
    refine V.iconst (4 : Int32) dM_wantCoin_235 lc4 rfl ?_
    refine V.aloadn 0 dM_wantCoin_236 rfl rfl ?_
    refine V.geti 44 dM_wantCoin_237 flM_165 (rfl : kd 44 = (6, 0)) rfl ?_
    refine V.imul dM_wantCoin_240 rfl ?_
    refine V.iconst (2 : Int32) dM_wantCoin_241 lc2 rfl ?_
    refine V.iadd dM_wantCoin_242 rfl ?_
    refine V.iloadn 3 dM_wantCoin_243 rfl rfl ?_
    obtain ⟨h19, hX⟩ := ob hX
    refine V.iast 52 dM_wantCoin_244 (rfl : kd 52 = (7, 24)) h19 rfl ?_
    replace hX := nmx hX; generalize sI σ18 52 (ix (((4 : Int32) * (gI σ18 44 16)) + (2 : Int32))) i3 = σ20 at hX ⊢; try dsimp only at hX
    refine V.aloadn 0 dM_wantCoin_245 rfl rfl ?_
    refine V.getr 44 52 dM_wantCoin_246 flM_35 (rfl : kd 44 = (6, 0)) rfl rfl ?_
    refine V.iconst (4 : Int32) dM_wantCoin_249 lc4 rfl ?_
    refine V.aloadn 0 dM_wantCoin_250 rfl rfl ?_
    refine V.geti 44 dM_wantCoin_251 flM_165 (rfl : kd 44 = (6, 0)) rfl ?_
    refine V.imul dM_wantCoin_254 rfl ?_
    refine V.iconst (3 : Int32) dM_wantCoin_255 lc3 rfl ?_
    refine V.iadd dM_wantCoin_256 rfl ?_
    refine V.iload 4 dM_wantCoin_257 rfl rfl ?_
    obtain ⟨h21, hX⟩ := ob hX
    refine V.iast 52 dM_wantCoin_259 (rfl : kd 52 = (7, 24)) h21 rfl ?_
    replace hX := nmx hX; generalize sI σ20 52 (ix (((4 : Int32) * (gI σ20 44 16)) + (3 : Int32))) i4 = σ22 at hX ⊢; try dsimp only at hX
    refine V.aloadn 0 dM_wantCoin_260 rfl rfl ?_
    refine V.dup dM_wantCoin_261 rfl rfl ?_
    refine V.geti 44 dM_wantCoin_262 flM_165 (rfl : kd 44 = (6, 0)) rfl ?_
    refine V.iconst (1 : Int32) dM_wantCoin_265 lc1 rfl ?_
    refine V.iadd dM_wantCoin_266 rfl ?_
    refine V.puti 44 .int dM_wantCoin_267 flM_165 fw6_16 (rfl : kd 44 = (6, 0)) ⟨rfl, rfl⟩ rfl ?_
    replace hX := nmx hX; generalize sI σ22 44 16 ((gI σ22 44 16) + (1 : Int32)) = σ23 at hX ⊢; try dsimp only at hX
    have hX := (Option.some.inj hX).symm; subst hX; exact V.vret dM_wantCoin_270 rfl rfl
set_option maxRecDepth 4000 in
theorem wM_wantCoin_126 {E : Ev} {z : St} : ∀ (fu : Nat) (σ : St) (i1 : Int32) (i2 : Int32) (i3 : Int32) (i4 : Int32) (i5 : Int32), fM_wantCoin_126 fu σ i1 i2 i3 i4 i5 = some z → V E mM_wantCoin (FM E (none, z)) 126 [(0, .ref 44), (1, .int i1), (2, .int i2), (3, .int i3), (4, .int i4), (5, .int i5)] [] σ := by
  intro fu
  induction fu with
  | zero => intro σ i1 i2 i3 i4 i5 hX; cases hX
  | succ fu ih =>
    intro σ i1 i2 i3 i4 i5 hX
    rw [fM_wantCoin_126] at hX
    refine V.iload 5 dM_wantCoin_126 rfl rfl ?_
    refine V.ifeq 194 dM_wantCoin_128 rfl rfl (fun g11 => ?_) (fun g11 => ?_)
    · replace hX := ip hX g11
      refine V.sub [0, 1, 2, 3, 4] rfl ?_
      exact wM_wantCoin_194 σ i1 i2 i3 i4 hX
    · replace hX := im hX g11
      refine V.aloadn 0 dM_wantCoin_131 rfl rfl ?_
      obtain ⟨σ25, c24, hX⟩ := bd hX; try dsimp only at hX
      refine V.callv0 44 [] dM_wantCoin_132 (kM_advance c24) mlM_149 myM_advance mnM_advance ⟨rfl, rfl, by decide, by decide⟩ (rfl : kd 44 = (6, 0)) (by decide) rfl (Nat.le_of_ble_eq_true rfl) ⟨Nat.zero_le _, Nat.zero_le _⟩ rfl ?_
      refine V.aloadn 0 dM_wantCoin_135 rfl rfl ?_
      refine V.iconst (0 : Int32) dM_wantCoin_136 lc0 rfl ?_
      refine V.aloadn 0 dM_wantCoin_137 rfl rfl ?_
      refine V.geti 44 dM_wantCoin_138 flM_155 (rfl : kd 44 = (6, 0)) rfl ?_
      refine V.iconst (1 : Int32) dM_wantCoin_141 lc1 rfl ?_
      refine V.isub dM_wantCoin_142 rfl ?_
      obtain ⟨q27, σ27, c26, hX⟩ := bi2 hX; try dsimp only at hX
      refine V.callvi 44 [.int (0 : Int32), .int ((gI σ25 44 15) - (1 : Int32))] dM_wantCoin_143 (kM_wantNumber c26) mlM_158 myM_wantNumber mnM_wantNumber ⟨rfl, rfl, by decide, by decide⟩ (rfl : kd 44 = (6, 0)) (by decide) rfl (Nat.le_of_ble_eq_true rfl) ⟨Nat.zero_le _, Nat.zero_le _⟩ rfl ?_
      refine V.istore _ dM_wantCoin_146 (by decide) rfl rfl ?_
      refine V.iload 5 dM_wantCoin_148 rfl rfl ?_
      refine V.aloadn 1 dM_wantCoin_150 rfl rfl ?_
      refine V.geti 44 dM_wantCoin_151 flM_145 (rfl : kd 44 = (6, 0)) rfl ?_
      have JJ : V E mM_wantCoin (FM E (none, z)) 165 [(6, .int q27), (0, .ref 44), (1, .int i1), (2, .int i2), (3, .int i3), (4, .int i4), (5, .int i5)] [.int (if (gI σ27 44 14) = 0 then (0 : Int32) else (1 : Int32) <<< (q27 &&& 31)), .int i4] σ27 := by
        refine V.ior dM_wantCoin_165 rfl ?_
        refine V.istore _ dM_wantCoin_166 (by decide) rfl rfl ?_
        replace hX := nmx hX; generalize i4 ||| (if (gI σ27 44 14) = 0 then (0 : Int32) else (1 : Int32) <<< (q27 &&& 31)) = v28 at hX ⊢; try dsimp only at hX
        refine V.aloadn 2 dM_wantCoin_168 rfl rfl ?_
        refine V.geti 44 dM_wantCoin_169 flM_145 (rfl : kd 44 = (6, 0)) rfl ?_
        have JJ : V E mM_wantCoin (FM E (none, z)) 189 [(4, .int v28), (6, .int q27), (0, .ref 44), (1, .int i1), (2, .int i2), (3, .int i3), (5, .int i5)] [.int (if (gI σ27 44 14) = 0 then (0 : Int32) else (if (fM_isMark σ27 (44 : Int32)) = 0 then (0 : Int32) else (1 : Int32)))] σ27 := by
          refine V.istore _ dM_wantCoin_189 (by decide) rfl rfl ?_
          replace hX := nmx hX; generalize (if (gI σ27 44 14) = 0 then (0 : Int32) else (if (fM_isMark σ27 (44 : Int32)) = 0 then (0 : Int32) else (1 : Int32))) = v29 at hX ⊢; try dsimp only at hX
          refine V.goto 126 dM_wantCoin_191 rfl ?_
          refine V.sub [3, 4, 5, 6, 1, 0] rfl ?_
          exact ih σ27 i1 i2 i3 v28 v29 hX
        refine V.ifeq 188 dM_wantCoin_172 rfl rfl (fun g30 => ?_) (fun g30 => ?_)
        · refine V.iconst (0 : Int32) dM_wantCoin_188 lc0 rfl ?_
          exact V.top (if_pos g30).symm JJ
        · refine V.aloadn 2 dM_wantCoin_175 rfl rfl ?_
          refine V.bipush (44 : Int32) dM_wantCoin_176 lb44 rfl ?_
          refine V.callvi 44 [.int (44 : Int32)] dM_wantCoin_178 (kM_isMark (σ := σ27) (44 : Int32)) mlM_152 myM_isMark mnM_isMark ⟨rfl, rfl, by decide, by decide⟩ (rfl : kd 44 = (6, 0)) (by decide) rfl (Nat.le_of_ble_eq_true rfl) ⟨Nat.zero_le _, Nat.zero_le _⟩ rfl ?_
          refine V.ifeq 188 dM_wantCoin_181 rfl rfl (fun g31 => ?_) (fun g31 => ?_)
          · refine V.iconst (0 : Int32) dM_wantCoin_188 lc0 rfl ?_
            exact V.top ((if_neg g30).trans (if_pos g31)).symm JJ
          · refine V.iconst (1 : Int32) dM_wantCoin_184 lc1 rfl ?_
            refine V.goto 189 dM_wantCoin_185 rfl ?_
            exact V.top ((if_neg g30).trans (if_neg g31)).symm JJ
      refine V.ifeq 164 dM_wantCoin_154 rfl rfl (fun g32 => ?_) (fun g32 => ?_)
      · refine V.iconst (0 : Int32) dM_wantCoin_164 lc0 rfl ?_
        exact V.top (if_pos g32).symm JJ
      · refine V.iconst (1 : Int32) dM_wantCoin_157 lc1 rfl ?_
        refine V.iload 0 dM_wantCoin_158 rfl rfl ?_
        refine V.ishl dM_wantCoin_160 rfl ?_
        refine V.goto 165 dM_wantCoin_161 rfl ?_
        exact V.top (if_neg g32).symm JJ
set_option maxRecDepth 4000 in
theorem wM_wantCoin_74 {E : Ev} {z : St} (σ : St) (i1 : Int32) (i2 : Int32) (hX : fM_wantCoin_74 σ i1 i2 = some z) : V E mM_wantCoin (FM E (none, z)) 74 [(0, .ref 44), (1, .int i1), (2, .int i2)] [] σ := by
  unfold fM_wantCoin_74 at hX
  refine V.aloadn 0 dM_wantCoin_74 rfl rfl ?_
  refine V.iconst (0 : Int32) dM_wantCoin_75 lc0 rfl ?_
  refine V.aloadn 0 dM_wantCoin_76 rfl rfl ?_
  refine V.geti 44 dM_wantCoin_77 flM_155 (rfl : kd 44 = (6, 0)) rfl ?_
  refine V.iconst (1 : Int32) dM_wantCoin_80 lc1 rfl ?_
  refine V.isub dM_wantCoin_81 rfl ?_
  obtain ⟨q8, σ8, c7, hX⟩ := bi2 hX; try dsimp only at hX
  refine V.callvi 44 [.int (0 : Int32), .int ((gI σ 44 15) - (1 : Int32))] dM_wantCoin_82 (kM_wantNumber c7) mlM_158 myM_wantNumber mnM_wantNumber ⟨rfl, rfl, by decide, by decide⟩ (rfl : kd 44 = (6, 0)) (by decide) rfl (Nat.le_of_ble_eq_true rfl) ⟨Nat.zero_le _, Nat.zero_le _⟩ rfl ?_
  refine V.istoren _ dM_wantCoin_85 (by decide) rfl rfl ?_
  refine V.aloadn 1 dM_wantCoin_86 rfl rfl ?_
  refine V.geti 44 dM_wantCoin_87 flM_145 (rfl : kd 44 = (6, 0)) rfl ?_
  have JJ : V E mM_wantCoin (FM E (none, z)) 100 [(3, .int q8), (0, .ref 44), (1, .int i1), (2, .int i2)] [.int (if (gI σ8 44 14) = 0 then (0 : Int32) else (1 : Int32) <<< (q8 &&& 31))] σ8 := by
    refine V.istore _ dM_wantCoin_100 (by decide) rfl rfl ?_
    replace hX := nmx hX; generalize (if (gI σ8 44 14) = 0 then (0 : Int32) else (1 : Int32) <<< (q8 &&& 31)) = v9 at hX ⊢; try dsimp only at hX
    refine V.aloadn 2 dM_wantCoin_102 rfl rfl ?_
    refine V.geti 44 dM_wantCoin_103 flM_145 (rfl : kd 44 = (6, 0)) rfl ?_
    have JJ : V E mM_wantCoin (FM E (none, z)) 124 [(4, .int v9), (3, .int q8), (0, .ref 44), (1, .int i1), (2, .int i2)] [.int (if (gI σ8 44 14) = 0 then (0 : Int32) else (if (fM_isWord σ8 (5863 : Int64)) = 0 then (0 : Int32) else (1 : Int32)))] σ8 := by
      refine V.istore _ dM_wantCoin_124 (by decide) rfl rfl ?_
      replace hX := nmx hX; generalize (if (gI σ8 44 14) = 0 then (0 : Int32) else (if (fM_isWord σ8 (5863 : Int64)) = 0 then (0 : Int32) else (1 : Int32))) = v10 at hX ⊢; try dsimp only at hX
      refine V.sub [3, 4, 5, 2, 1, 0] rfl ?_
      exact wM_wantCoin_126 300 σ8 i1 i2 q8 v9 v10 hX
    refine V.ifeq 123 dM_wantCoin_106 rfl rfl (fun g33 => ?_) (fun g33 => ?_)
    · refine V.iconst (0 : Int32) dM_wantCoin_123 lc0 rfl ?_
      exact V.top (if_pos g33).symm JJ
    · refine V.aloadn 2 dM_wantCoin_109 rfl rfl ?_
      refine V.ldc2 (5863 : Int64) dM_wantCoin_110 cM_170 rfl ?_
      refine V.callvi 44 [.long (5863 : Int64)] dM_wantCoin_113 (kM_isWord (σ := σ8) (5863 : Int64)) mlM_131 myM_isWord mnM_isWord ⟨rfl, rfl, by decide, by decide⟩ (rfl : kd 44 = (6, 0)) (by decide) rfl (Nat.le_of_ble_eq_true rfl) ⟨Nat.zero_le _, Nat.zero_le _⟩ rfl ?_
      refine V.ifeq 123 dM_wantCoin_116 rfl rfl (fun g34 => ?_) (fun g34 => ?_)
      · refine V.iconst (0 : Int32) dM_wantCoin_123 lc0 rfl ?_
        exact V.top ((if_neg g33).trans (if_pos g34)).symm JJ
      · refine V.iconst (1 : Int32) dM_wantCoin_119 lc1 rfl ?_
        refine V.goto 124 dM_wantCoin_120 rfl ?_
        exact V.top ((if_neg g33).trans (if_neg g34)).symm JJ
  refine V.ifeq 99 dM_wantCoin_90 rfl rfl (fun g35 => ?_) (fun g35 => ?_)
  · refine V.iconst (0 : Int32) dM_wantCoin_99 lc0 rfl ?_
    exact V.top (if_pos g35).symm JJ
  · refine V.iconst (1 : Int32) dM_wantCoin_93 lc1 rfl ?_
    refine V.iloadn 0 dM_wantCoin_94 rfl rfl ?_
    refine V.ishl dM_wantCoin_95 rfl ?_
    refine V.goto 100 dM_wantCoin_96 rfl ?_
    exact V.top (if_neg g35).symm JJ
set_option maxRecDepth 4000 in
theorem wM_wantCoin_29 {E : Ev} {z : St} (σ : St) (i1 : Int32) (hX : fM_wantCoin_29 σ i1 = some z) : V E mM_wantCoin (FM E (none, z)) 29 [(0, .ref 44), (1, .int i1)] [] σ := by
  unfold fM_wantCoin_29 at hX
  refine V.aloadn 0 dM_wantCoin_29 rfl rfl ?_
  refine V.iconst (1 : Int32) dM_wantCoin_30 lc1 rfl ?_
  refine V.bipush (99 : Int32) dM_wantCoin_31 lb99 rfl ?_
  obtain ⟨q4, σ4, c3, hX⟩ := bi2 hX; try dsimp only at hX
  refine V.callvi 44 [.int (1 : Int32), .int (99 : Int32)] dM_wantCoin_33 (kM_wantNumber c3) mlM_158 myM_wantNumber mnM_wantNumber ⟨rfl, rfl, by decide, by decide⟩ (rfl : kd 44 = (6, 0)) (by decide) rfl (Nat.le_of_ble_eq_true rfl) ⟨Nat.zero_le _, Nat.zero_le _⟩ rfl ?_
  refine V.istoren _ dM_wantCoin_36 (by decide) rfl rfl ?_
  refine V.aloadn 1 dM_wantCoin_37 rfl rfl ?_
  refine V.aloadn 1 dM_wantCoin_38 rfl rfl ?_
  refine V.geti 44 dM_wantCoin_39 flM_145 (rfl : kd 44 = (6, 0)) rfl ?_
  have JJ : V E mM_wantCoin (FM E (none, z)) 60 [(2, .int q4), (0, .ref 44), (1, .int i1)] [.int (if (gI σ4 44 14) = 0 then (0 : Int32) else (if (fM_isWord σ4 (411 : Int64)) = 0 then (0 : Int32) else (1 : Int32))), .ref 44] σ4 := by
    refine V.puti 44 .boolean dM_wantCoin_60 flM_145 fw6_14 (rfl : kd 44 = (6, 0)) (nz (b01_i b01_0 (b01_i b01_0 b01_1))) rfl ?_
    replace hX := nmx hX; generalize sI σ4 44 14 (if (gI σ4 44 14) = 0 then (0 : Int32) else (if (fM_isWord σ4 (411 : Int64)) = 0 then (0 : Int32) else (1 : Int32))) = σ5 at hX ⊢; try dsimp only at hX
    refine V.aloadn 1 dM_wantCoin_63 rfl rfl ?_
    refine V.geti 44 dM_wantCoin_64 flM_145 (rfl : kd 44 = (6, 0)) rfl ?_
    refine V.ifeq 74 dM_wantCoin_67 rfl rfl (fun g6 => ?_) (fun g6 => ?_)
    · replace hX := ip hX g6
      refine V.sub [1, 2, 0] rfl ?_
      exact wM_wantCoin_74 σ5 i1 q4 hX
    · replace hX := im hX g6
      refine V.aloadn 1 dM_wantCoin_70 rfl rfl ?_
      obtain ⟨σ37, c36, hX⟩ := bd hX; try dsimp only at hX
      refine V.callv0 44 [] dM_wantCoin_71 (kM_advance c36) mlM_149 myM_advance mnM_advance ⟨rfl, rfl, by decide, by decide⟩ (rfl : kd 44 = (6, 0)) (by decide) rfl (Nat.le_of_ble_eq_true rfl) ⟨Nat.zero_le _, Nat.zero_le _⟩ rfl ?_
      refine V.sub [1, 2, 0] rfl ?_
      exact wM_wantCoin_74 σ37 i1 q4 hX
  refine V.ifeq 59 dM_wantCoin_42 rfl rfl (fun g38 => ?_) (fun g38 => ?_)
  · refine V.iconst (0 : Int32) dM_wantCoin_59 lc0 rfl ?_
    exact V.top (if_pos g38).symm JJ
  · refine V.aloadn 1 dM_wantCoin_45 rfl rfl ?_
    refine V.ldc2 (411 : Int64) dM_wantCoin_46 cM_168 rfl ?_
    refine V.callvi 44 [.long (411 : Int64)] dM_wantCoin_49 (kM_isWord (σ := σ4) (411 : Int64)) mlM_131 myM_isWord mnM_isWord ⟨rfl, rfl, by decide, by decide⟩ (rfl : kd 44 = (6, 0)) (by decide) rfl (Nat.le_of_ble_eq_true rfl) ⟨Nat.zero_le _, Nat.zero_le _⟩ rfl ?_
    refine V.ifeq 59 dM_wantCoin_52 rfl rfl (fun g39 => ?_) (fun g39 => ?_)
    · refine V.iconst (0 : Int32) dM_wantCoin_59 lc0 rfl ?_
      exact V.top ((if_neg g38).trans (if_pos g39)).symm JJ
    · refine V.iconst (1 : Int32) dM_wantCoin_55 lc1 rfl ?_
      refine V.goto 60 dM_wantCoin_56 rfl ?_
      exact V.top ((if_neg g38).trans (if_neg g39)).symm JJ
set_option maxRecDepth 4000 in
theorem wM_wantCoin {E : Ev} {z : St} (σ : St) (i1 : Int32) (hX : fM_wantCoin σ i1 = some z) : V E mM_wantCoin (FM E (none, z)) 0 [(0, .ref 44), (1, .int i1)] [] σ := by
  unfold fM_wantCoin at hX
  refine V.aloadn 0 dM_wantCoin_0 rfl rfl ?_
  refine V.aloadn 0 dM_wantCoin_1 rfl rfl ?_
  refine V.geti 44 dM_wantCoin_2 flM_165 (rfl : kd 44 = (6, 0)) rfl ?_
  refine V.bipush (6 : Int32) dM_wantCoin_5 lb6 rfl ?_
  have JJ : V E mM_wantCoin (FM E (none, z)) 15 [(0, .ref 44), (1, .int i1)] [.int (if (6 : Int32) ≤ (gI σ 44 16) then (0 : Int32) else (1 : Int32)), .ref 44] σ := by
    refine V.puti 44 .boolean dM_wantCoin_15 flM_145 fw6_14 (rfl : kd 44 = (6, 0)) (nz (b01_i b01_0 b01_1)) rfl ?_
    replace hX := nmx hX; generalize sI σ 44 14 (if (6 : Int32) ≤ (gI σ 44 16) then (0 : Int32) else (1 : Int32)) = σ1 at hX ⊢; try dsimp only at hX
    refine V.aloadn 0 dM_wantCoin_18 rfl rfl ?_
    refine V.geti 44 dM_wantCoin_19 flM_145 (rfl : kd 44 = (6, 0)) rfl ?_
    refine V.ifeq 29 dM_wantCoin_22 rfl rfl (fun g2 => ?_) (fun g2 => ?_)
    · replace hX := ip hX g2
      refine V.sub [0, 1] rfl ?_
      exact wM_wantCoin_29 σ1 i1 hX
    · replace hX := im hX g2
      refine V.aloadn 0 dM_wantCoin_25 rfl rfl ?_
      obtain ⟨σ41, c40, hX⟩ := bd hX; try dsimp only at hX
      refine V.callv0 44 [] dM_wantCoin_26 (kM_advance c40) mlM_149 myM_advance mnM_advance ⟨rfl, rfl, by decide, by decide⟩ (rfl : kd 44 = (6, 0)) (by decide) rfl (Nat.le_of_ble_eq_true rfl) ⟨Nat.zero_le _, Nat.zero_le _⟩ rfl ?_
      refine V.sub [0, 1] rfl ?_
      exact wM_wantCoin_29 σ41 i1 hX
  refine V.icmpge 14 dM_wantCoin_7 rfl rfl (fun g42 => ?_) (fun g42 => ?_)
  · refine V.iconst (0 : Int32) dM_wantCoin_14 lc0 rfl ?_
    exact V.top (if_pos g42).symm JJ
  · refine V.iconst (1 : Int32) dM_wantCoin_10 lc1 rfl ?_
    refine V.goto 15 dM_wantCoin_11 rfl ?_
    exact V.top (if_neg g42).symm JJ
theorem kM_wantCoin {E : Ev} {σ z : St} {i1 : Int32} (h : fM_wantCoin σ i1 = some z) : Ct mM_wantCoin E [.ref 44, .int i1] σ (none, z) := Ct.of (by decide) (Nat.le_of_ble_eq_true rfl) (wM_wantCoin σ i1 h)
theorem dM_town_0 : decode mM_town.1 0 = .ok (.aload_n 0, 1) := by decide +kernel
theorem dM_town_1 : decode mM_town.1 1 = .ok (.iconst 0, 1) := by decide +kernel
theorem dM_town_2 : decode mM_town.1 2 = .ok (.putfield 96, 3) := by decide +kernel
theorem dM_town_5 : decode mM_town.1 5 = .ok (.aload_n 0, 1) := by decide +kernel
theorem dM_town_6 : decode mM_town.1 6 = .ok (.iconst 1, 1) := by decide +kernel
theorem dM_town_7 : decode mM_town.1 7 = .ok (.putfield 145, 3) := by decide +kernel
theorem dM_town_10 : decode mM_town.1 10 = .ok (.aload_n 0, 1) := by decide +kernel
theorem dM_town_11 : decode mM_town.1 11 = .ok (.iconst 0, 1) := by decide +kernel
theorem dM_town_12 : decode mM_town.1 12 = .ok (.putfield 155, 3) := by decide +kernel
theorem dM_town_15 : decode mM_town.1 15 = .ok (.aload_n 0, 1) := by decide +kernel
theorem dM_town_16 : decode mM_town.1 16 = .ok (.iconst 0, 1) := by decide +kernel
theorem dM_town_17 : decode mM_town.1 17 = .ok (.putfield 165, 3) := by decide +kernel
theorem dM_town_20 : decode mM_town.1 20 = .ok (.aload_n 0, 1) := by decide +kernel
theorem dM_town_21 : decode mM_town.1 21 = .ok (.invokevirtual 149, 3) := by decide +kernel
theorem dM_town_24 : decode mM_town.1 24 = .ok (.aload_n 0, 1) := by decide +kernel
theorem dM_town_25 : decode mM_town.1 25 = .ok (.getfield 145, 3) := by decide +kernel
theorem dM_town_28 : decode mM_town.1 28 = .ok (.ifCond .eq 70, 3) := by decide +kernel
theorem dM_town_31 : decode mM_town.1 31 = .ok (.aload_n 0, 1) := by decide +kernel
theorem dM_town_32 : decode mM_town.1 32 = .ok (.getfield 113, 3) := by decide +kernel
theorem dM_town_35 : decode mM_town.1 35 = .ok (.ifCond .eq 63, 3) := by decide +kernel
theorem dM_town_38 : decode mM_town.1 38 = .ok (.aload_n 0, 1) := by decide +kernel
theorem dM_town_39 : decode mM_town.1 39 = .ok (.ldc2_w 172, 3) := by decide +kernel
theorem dM_town_42 : decode mM_town.1 42 = .ok (.invokevirtual 131, 3) := by decide +kernel
theorem dM_town_45 : decode mM_town.1 45 = .ok (.ifCond .eq 10, 3) := by decide +kernel
theorem dM_town_48 : decode mM_town.1 48 = .ok (.aload_n 0, 1) := by decide +kernel
theorem dM_town_49 : decode mM_town.1 49 = .ok (.invokevirtual 174, 3) := by decide +kernel
theorem dM_town_52 : decode mM_town.1 52 = .ok (.goto (-28), 3) := by decide +kernel
theorem dM_town_55 : decode mM_town.1 55 = .ok (.aload_n 0, 1) := by decide +kernel
theorem dM_town_56 : decode mM_town.1 56 = .ok (.ldc2_w 177, 3) := by decide +kernel
theorem dM_town_59 : decode mM_town.1 59 = .ok (.invokevirtual 131, 3) := by decide +kernel
theorem dM_town_62 : decode mM_town.1 62 = .ok (.ifCond .eq 10, 3) := by decide +kernel
theorem dM_town_65 : decode mM_town.1 65 = .ok (.aload_n 0, 1) := by decide +kernel
theorem dM_town_66 : decode mM_town.1 66 = .ok (.invokevirtual 179, 3) := by decide +kernel
theorem dM_town_69 : decode mM_town.1 69 = .ok (.goto (-45), 3) := by decide +kernel
theorem dM_town_72 : decode mM_town.1 72 = .ok (.aload_n 0, 1) := by decide +kernel
theorem dM_town_73 : decode mM_town.1 73 = .ok (.invokevirtual 182, 3) := by decide +kernel
theorem dM_town_76 : decode mM_town.1 76 = .ok (.ifCond .lt 14, 3) := by decide +kernel
theorem dM_town_79 : decode mM_town.1 79 = .ok (.aload_n 0, 1) := by decide +kernel
theorem dM_town_80 : decode mM_town.1 80 = .ok (.aload_n 0, 1) := by decide +kernel
theorem dM_town_81 : decode mM_town.1 81 = .ok (.invokevirtual 182, 3) := by decide +kernel
theorem dM_town_84 : decode mM_town.1 84 = .ok (.invokevirtual 186, 3) := by decide +kernel
theorem dM_town_87 : decode mM_town.1 87 = .ok (.goto (-63), 3) := by decide +kernel
theorem dM_town_90 : decode mM_town.1 90 = .ok (.aload_n 0, 1) := by decide +kernel
theorem dM_town_91 : decode mM_town.1 91 = .ok (.iconst 0, 1) := by decide +kernel
theorem dM_town_92 : decode mM_town.1 92 = .ok (.putfield 145, 3) := by decide +kernel
theorem dM_town_95 : decode mM_town.1 95 = .ok (.goto (-71), 3) := by decide +kernel
theorem dM_town_98 : decode mM_town.1 98 = .ok (.aload_n 0, 1) := by decide +kernel
theorem dM_town_99 : decode mM_town.1 99 = .ok (.iconst 0, 1) := by decide +kernel
theorem dM_town_100 : decode mM_town.1 100 = .ok (.putfield 91, 3) := by decide +kernel
theorem dM_town_103 : decode mM_town.1 103 = .ok (.aload_n 0, 1) := by decide +kernel
theorem dM_town_104 : decode mM_town.1 104 = .ok (.getfield 145, 3) := by decide +kernel
theorem dM_town_107 : decode mM_town.1 107 = .ok (.ifCond .ne 11, 3) := by decide +kernel
theorem dM_town_110 : decode mM_town.1 110 = .ok (.bipush (-100), 2) := by decide +kernel
theorem dM_town_112 : decode mM_town.1 112 = .ok (.aload_n 0, 1) := by decide +kernel
theorem dM_town_113 : decode mM_town.1 113 = .ok (.getfield 99, 3) := by decide +kernel
theorem dM_town_116 : decode mM_town.1 116 = .ok (.isub, 1) := by decide +kernel
theorem dM_town_117 : decode mM_town.1 117 = .ok (.ireturn, 1) := by decide +kernel
theorem dM_town_118 : decode mM_town.1 118 = .ok (.aload_n 0, 1) := by decide +kernel
theorem dM_town_119 : decode mM_town.1 119 = .ok (.aload_n 0, 1) := by decide +kernel
theorem dM_town_120 : decode mM_town.1 120 = .ok (.getfield 155, 3) := by decide +kernel
theorem dM_town_123 : decode mM_town.1 123 = .ok (.putfield 81, 3) := by decide +kernel
theorem dM_town_126 : decode mM_town.1 126 = .ok (.aload_n 0, 1) := by decide +kernel
theorem dM_town_127 : decode mM_town.1 127 = .ok (.aload_n 0, 1) := by decide +kernel
theorem dM_town_128 : decode mM_town.1 128 = .ok (.getfield 165, 3) := by decide +kernel
theorem dM_town_131 : decode mM_town.1 131 = .ok (.putfield 88, 3) := by decide +kernel
theorem dM_town_134 : decode mM_town.1 134 = .ok (.iconst 0, 1) := by decide +kernel
theorem dM_town_135 : decode mM_town.1 135 = .ok (.istore_n 1, 1) := by decide +kernel
theorem dM_town_136 : decode mM_town.1 136 = .ok (.iload_n 1, 1) := by decide +kernel
theorem dM_town_137 : decode mM_town.1 137 = .ok (.bipush 7, 2) := by decide +kernel
theorem dM_town_139 : decode mM_town.1 139 = .ok (.if_icmp .ge 40, 3) := by decide +kernel
theorem dM_town_142 : decode mM_town.1 142 = .ok (.aload_n 0, 1) := by decide +kernel
theorem dM_town_143 : decode mM_town.1 143 = .ok (.getfield 7, 3) := by decide +kernel
theorem dM_town_146 : decode mM_town.1 146 = .ok (.iload_n 1, 1) := by decide +kernel
theorem dM_town_147 : decode mM_town.1 147 = .ok (.aload_n 0, 1) := by decide +kernel
theorem dM_town_148 : decode mM_town.1 148 = .ok (.getfield 29, 3) := by decide +kernel
theorem dM_town_151 : decode mM_town.1 151 = .ok (.iload_n 1, 1) := by decide +kernel
theorem dM_town_152 : decode mM_town.1 152 = .ok (.iaload, 1) := by decide +kernel
theorem dM_town_153 : decode mM_town.1 153 = .ok (.iastore, 1) := by decide +kernel
theorem dM_town_154 : decode mM_town.1 154 = .ok (.aload_n 0, 1) := by decide +kernel
theorem dM_town_155 : decode mM_town.1 155 = .ok (.getfield 16, 3) := by decide +kernel
theorem dM_town_158 : decode mM_town.1 158 = .ok (.iload_n 1, 1) := by decide +kernel
theorem dM_town_159 : decode mM_town.1 159 = .ok (.aload_n 0, 1) := by decide +kernel
theorem dM_town_160 : decode mM_town.1 160 = .ok (.getfield 32, 3) := by decide +kernel
theorem dM_town_163 : decode mM_town.1 163 = .ok (.iload_n 1, 1) := by decide +kernel
theorem dM_town_164 : decode mM_town.1 164 = .ok (.iaload, 1) := by decide +kernel
theorem dM_town_165 : decode mM_town.1 165 = .ok (.iastore, 1) := by decide +kernel
theorem dM_town_166 : decode mM_town.1 166 = .ok (.aload_n 0, 1) := by decide +kernel
theorem dM_town_167 : decode mM_town.1 167 = .ok (.getfield 13, 3) := by decide +kernel
theorem dM_town_170 : decode mM_town.1 170 = .ok (.iload_n 1, 1) := by decide +kernel
theorem dM_town_171 : decode mM_town.1 171 = .ok (.iconst 0, 1) := by decide +kernel
theorem dM_town_172 : decode mM_town.1 172 = .ok (.iastore, 1) := by decide +kernel
theorem dM_town_173 : decode mM_town.1 173 = .ok (.iinc 1 1, 3) := by decide +kernel
theorem dM_town_176 : decode mM_town.1 176 = .ok (.goto (-40), 3) := by decide +kernel
theorem dM_town_179 : decode mM_town.1 179 = .ok (.iconst 0, 1) := by decide +kernel
theorem dM_town_180 : decode mM_town.1 180 = .ok (.istore_n 1, 1) := by decide +kernel
theorem dM_town_181 : decode mM_town.1 181 = .ok (.iload_n 1, 1) := by decide +kernel
theorem dM_town_182 : decode mM_town.1 182 = .ok (.bipush 24, 2) := by decide +kernel
theorem dM_town_184 : decode mM_town.1 184 = .ok (.if_icmp .ge 21, 3) := by decide +kernel
theorem dM_town_187 : decode mM_town.1 187 = .ok (.aload_n 0, 1) := by decide +kernel
theorem dM_town_188 : decode mM_town.1 188 = .ok (.getfield 19, 3) := by decide +kernel
theorem dM_town_191 : decode mM_town.1 191 = .ok (.iload_n 1, 1) := by decide +kernel
theorem dM_town_192 : decode mM_town.1 192 = .ok (.aload_n 0, 1) := by decide +kernel
theorem dM_town_193 : decode mM_town.1 193 = .ok (.getfield 35, 3) := by decide +kernel
theorem dM_town_196 : decode mM_town.1 196 = .ok (.iload_n 1, 1) := by decide +kernel
theorem dM_town_197 : decode mM_town.1 197 = .ok (.iaload, 1) := by decide +kernel
theorem dM_town_198 : decode mM_town.1 198 = .ok (.iastore, 1) := by decide +kernel
theorem dM_town_199 : decode mM_town.1 199 = .ok (.iinc 1 1, 3) := by decide +kernel
theorem dM_town_202 : decode mM_town.1 202 = .ok (.goto (-21), 3) := by decide +kernel
theorem dM_town_205 : decode mM_town.1 205 = .ok (.aload_n 0, 1) := by decide +kernel
theorem dM_town_206 : decode mM_town.1 206 = .ok (.iconst 0, 1) := by decide +kernel
theorem dM_town_207 : decode mM_town.1 207 = .ok (.putfield 190, 3) := by decide +kernel
theorem dM_town_210 : decode mM_town.1 210 = .ok (.aload_n 0, 1) := by decide +kernel
theorem dM_town_211 : decode mM_town.1 211 = .ok (.getfield 81, 3) := by decide +kernel
theorem dM_town_214 : decode mM_town.1 214 = .ok (.ireturn, 1) := by decide +kernel
set_option maxRecDepth 4000 in
theorem wM_town_181 {E : Ev} {z : Int32 × St} : ∀ (fu : Nat) (σ : St) (i1 : Int32), fM_town_181 fu σ i1 = some z → V E mM_town (FM E (some (.int z.1), z.2)) 181 [(0, .ref 44), (1, .int i1)] [] σ := by
  intro fu
  induction fu with
  | zero => intro σ i1 hX; cases hX
  | succ fu ih =>
    intro σ i1 hX
    rw [fM_town_181] at hX
    refine V.iloadn 1 dM_town_181 rfl rfl ?_
    refine V.bipush (24 : Int32) dM_town_182 lb24 rfl ?_
    refine V.icmpge 205 dM_town_184 rfl rfl (fun g13 => ?_) (fun g13 => ?_)
    · replace hX := ip hX g13
      refine V.aloadn 0 dM_town_205 rfl rfl ?_
      refine V.iconst (0 : Int32) dM_town_206 lc0 rfl ?_
      refine V.puti 44 .int dM_town_207 flM_190 fw6_26 (rfl : kd 44 = (6, 0)) ⟨rfl, rfl⟩ rfl ?_
      replace hX := nmx hX; generalize sI σ 44 26 (0 : Int32) = σ14 at hX ⊢; try dsimp only at hX
      refine V.aloadn 0 dM_town_210 rfl rfl ?_
      refine V.geti 44 dM_town_211 flM_81 (rfl : kd 44 = (6, 0)) rfl ?_
      have hX := (Option.some.inj hX).symm; subst hX; exact V.iret dM_town_214 rfl rfl
    · replace hX := im hX g13
      refine V.aloadn 0 dM_town_187 rfl rfl ?_
      refine V.getr 44 48 dM_town_188 flM_19 (rfl : kd 44 = (6, 0)) rfl rfl ?_
      refine V.iloadn 1 dM_town_191 rfl rfl ?_
      refine V.aloadn 0 dM_town_192 rfl rfl ?_
      refine V.getr 44 52 dM_town_193 flM_35 (rfl : kd 44 = (6, 0)) rfl rfl ?_
      refine V.iloadn 1 dM_town_196 rfl rfl ?_
      obtain ⟨h15, hX⟩ := ob hX
      refine V.iald 52 dM_town_197 (rfl : kd 52 = (7, 24)) h15 rfl ?_
      obtain ⟨h16, hX⟩ := ob hX
      refine V.iast 48 dM_town_198 (rfl : kd 48 = (7, 24)) h16 rfl ?_
      replace hX := nmx hX; generalize sI σ 48 (ix i1) (gI σ 52 (ix i1)) = σ17 at hX ⊢; try dsimp only at hX
      refine V.iinc 1 (1 : Int32) _ dM_town_199 rfl lc1 (by decide) rfl rfl ?_
      replace hX := nmx hX; generalize i1 + (1 : Int32) = v18 at hX ⊢; try dsimp only at hX
      refine V.goto 181 dM_town_202 rfl ?_
      refine V.sub [1, 0] rfl ?_
      exact ih σ17 v18 hX
set_option maxRecDepth 4000 in
theorem wM_town_179 {E : Ev} {z : Int32 × St} (σ : St) (hX : fM_town_179 σ = some z) : V E mM_town (FM E (some (.int z.1), z.2)) 179 [(0, .ref 44)] [] σ := by
  unfold fM_town_179 at hX
  refine V.iconst (0 : Int32) dM_town_179 lc0 rfl ?_
  refine V.istoren _ dM_town_180 (by decide) rfl rfl ?_
  refine V.sub [1, 0] rfl ?_
  exact wM_town_181 300 σ (0 : Int32) hX
set_option maxRecDepth 4000 in
theorem wM_town_136 {E : Ev} {z : Int32 × St} : ∀ (fu : Nat) (σ : St) (i1 : Int32), fM_town_136 fu σ i1 = some z → V E mM_town (FM E (some (.int z.1), z.2)) 136 [(0, .ref 44), (1, .int i1)] [] σ := by
  intro fu
  induction fu with
  | zero => intro σ i1 hX; cases hX
  | succ fu ih =>
    intro σ i1 hX
    rw [fM_town_136] at hX
    refine V.iloadn 1 dM_town_136 rfl rfl ?_
    refine V.bipush (7 : Int32) dM_town_137 lb7 rfl ?_
    refine V.icmpge 179 dM_town_139 rfl rfl (fun g12 => ?_) (fun g12 => ?_)
    · replace hX := ip hX g12
      refine V.sub [0] rfl ?_
      exact wM_town_179 σ hX
    · replace hX := im hX g12
      refine V.aloadn 0 dM_town_142 rfl rfl ?_
      refine V.getr 44 45 dM_town_143 flM_7 (rfl : kd 44 = (6, 0)) rfl rfl ?_
      refine V.iloadn 1 dM_town_146 rfl rfl ?_
      refine V.aloadn 0 dM_town_147 rfl rfl ?_
      refine V.getr 44 50 dM_town_148 flM_29 (rfl : kd 44 = (6, 0)) rfl rfl ?_
      refine V.iloadn 1 dM_town_151 rfl rfl ?_
      obtain ⟨h19, hX⟩ := ob hX
      refine V.iald 50 dM_town_152 (rfl : kd 50 = (7, 7)) h19 rfl ?_
      obtain ⟨h20, hX⟩ := ob hX
      refine V.iast 45 dM_town_153 (rfl : kd 45 = (7, 7)) h20 rfl ?_
      replace hX := nmx hX; generalize sI σ 45 (ix i1) (gI σ 50 (ix i1)) = σ21 at hX ⊢; try dsimp only at hX
      refine V.aloadn 0 dM_town_154 rfl rfl ?_
      refine V.getr 44 47 dM_town_155 flM_16 (rfl : kd 44 = (6, 0)) rfl rfl ?_
      refine V.iloadn 1 dM_town_158 rfl rfl ?_
      refine V.aloadn 0 dM_town_159 rfl rfl ?_
      refine V.getr 44 51 dM_town_160 flM_32 (rfl : kd 44 = (6, 0)) rfl rfl ?_
      refine V.iloadn 1 dM_town_163 rfl rfl ?_
      obtain ⟨h22, hX⟩ := ob hX
      refine V.iald 51 dM_town_164 (rfl : kd 51 = (7, 7)) h22 rfl ?_
      obtain ⟨h23, hX⟩ := ob hX
      refine V.iast 47 dM_town_165 (rfl : kd 47 = (7, 7)) h23 rfl ?_
      replace hX := nmx hX; generalize sI σ21 47 (ix i1) (gI σ21 51 (ix i1)) = σ24 at hX ⊢; try dsimp only at hX
      refine V.aloadn 0 dM_town_166 rfl rfl ?_
      refine V.getr 44 46 dM_town_167 flM_13 (rfl : kd 44 = (6, 0)) rfl rfl ?_
      refine V.iloadn 1 dM_town_170 rfl rfl ?_
      refine V.iconst (0 : Int32) dM_town_171 lc0 rfl ?_
      obtain ⟨h25, hX⟩ := ob hX
      refine V.iast 46 dM_town_172 (rfl : kd 46 = (7, 7)) h25 rfl ?_
      replace hX := nmx hX; generalize sI σ24 46 (ix i1) (0 : Int32) = σ26 at hX ⊢; try dsimp only at hX
      refine V.iinc 1 (1 : Int32) _ dM_town_173 rfl lc1 (by decide) rfl rfl ?_
      replace hX := nmx hX; generalize i1 + (1 : Int32) = v27 at hX ⊢; try dsimp only at hX
      refine V.goto 136 dM_town_176 rfl ?_
      refine V.sub [1, 0] rfl ?_
      exact ih σ26 v27 hX
set_option maxRecDepth 4000 in
theorem wM_town_98 {E : Ev} {z : Int32 × St} (σ : St) (hX : fM_town_98 σ = some z) : V E mM_town (FM E (some (.int z.1), z.2)) 98 [(0, .ref 44)] [] σ := by
  unfold fM_town_98 at hX
  refine V.aloadn 0 dM_town_98 rfl rfl ?_
  refine V.iconst (0 : Int32) dM_town_99 lc0 rfl ?_
  refine V.puti 44 .int dM_town_100 flM_91 fw6_8 (rfl : kd 44 = (6, 0)) ⟨rfl, rfl⟩ rfl ?_
  replace hX := nmx hX; generalize sI σ 44 8 (0 : Int32) = σ8 at hX ⊢; try dsimp only at hX
  refine V.aloadn 0 dM_town_103 rfl rfl ?_
  refine V.geti 44 dM_town_104 flM_145 (rfl : kd 44 = (6, 0)) rfl ?_
  refine V.ifne 118 dM_town_107 rfl rfl (fun g9 => ?_) (fun g9 => ?_)
  · replace hX := im hX g9
    refine V.aloadn 0 dM_town_118 rfl rfl ?_
    refine V.aloadn 0 dM_town_119 rfl rfl ?_
    refine V.geti 44 dM_town_120 flM_155 (rfl : kd 44 = (6, 0)) rfl ?_
    refine V.puti 44 .int dM_town_123 flM_81 fw6_0 (rfl : kd 44 = (6, 0)) ⟨rfl, rfl⟩ rfl ?_
    replace hX := nmx hX; generalize sI σ8 44 0 (gI σ8 44 15) = σ10 at hX ⊢; try dsimp only at hX
    refine V.aloadn 0 dM_town_126 rfl rfl ?_
    refine V.aloadn 0 dM_town_127 rfl rfl ?_
    refine V.geti 44 dM_town_128 flM_165 (rfl : kd 44 = (6, 0)) rfl ?_
    refine V.puti 44 .int dM_town_131 flM_88 fw6_4 (rfl : kd 44 = (6, 0)) ⟨rfl, rfl⟩ rfl ?_
    replace hX := nmx hX; generalize sI σ10 44 4 (gI σ10 44 16) = σ11 at hX ⊢; try dsimp only at hX
    refine V.iconst (0 : Int32) dM_town_134 lc0 rfl ?_
    refine V.istoren _ dM_town_135 (by decide) rfl rfl ?_
    refine V.sub [1, 0] rfl ?_
    exact wM_town_136 300 σ11 (0 : Int32) hX
  · replace hX := ip hX g9
    refine V.bipush (-100 : Int32) dM_town_110 lbm100 rfl ?_
    refine V.aloadn 0 dM_town_112 rfl rfl ?_
    refine V.geti 44 dM_town_113 flM_99 (rfl : kd 44 = (6, 0)) rfl ?_
    refine V.isub dM_town_116 rfl ?_
    have hX := (Option.some.inj hX).symm; subst hX; exact V.iret dM_town_117 rfl rfl
set_option maxRecDepth 4000 in
theorem wM_town_24 {E : Ev} {z : Int32 × St} : ∀ (fu : Nat) (σ : St), fM_town_24 fu σ = some z → V E mM_town (FM E (some (.int z.1), z.2)) 24 [(0, .ref 44)] [] σ := by
  intro fu
  induction fu with
  | zero => intro σ hX; cases hX
  | succ fu ih =>
    intro σ hX
    rw [fM_town_24] at hX
    refine V.aloadn 0 dM_town_24 rfl rfl ?_
    refine V.geti 44 dM_town_25 flM_145 (rfl : kd 44 = (6, 0)) rfl ?_
    refine V.ifeq 98 dM_town_28 rfl rfl (fun g7 => ?_) (fun g7 => ?_)
    · replace hX := ip hX g7
      refine V.sub [0] rfl ?_
      exact wM_town_98 σ hX
    · replace hX := im hX g7
      refine V.aloadn 0 dM_town_31 rfl rfl ?_
      refine V.geti 44 dM_town_32 flM_113 (rfl : kd 44 = (6, 0)) rfl ?_
      refine V.ifeq 98 dM_town_35 rfl rfl (fun g28 => ?_) (fun g28 => ?_)
      · replace hX := ip hX g28
        refine V.sub [0] rfl ?_
        exact wM_town_98 σ hX
      · replace hX := im hX g28
        refine V.aloadn 0 dM_town_38 rfl rfl ?_
        refine V.ldc2 (232608281 : Int64) dM_town_39 cM_172 rfl ?_
        refine V.callvi 44 [.long (232608281 : Int64)] dM_town_42 (kM_isWord (σ := σ) (232608281 : Int64)) mlM_131 myM_isWord mnM_isWord ⟨rfl, rfl, by decide, by decide⟩ (rfl : kd 44 = (6, 0)) (by decide) rfl (Nat.le_of_ble_eq_true rfl) ⟨Nat.zero_le _, Nat.zero_le _⟩ rfl ?_
        refine V.ifeq 55 dM_town_45 rfl rfl (fun g29 => ?_) (fun g29 => ?_)
        · replace hX := ip hX g29
          refine V.aloadn 0 dM_town_55 rfl rfl ?_
          refine V.ldc2 (227147 : Int64) dM_town_56 cM_177 rfl ?_
          refine V.callvi 44 [.long (227147 : Int64)] dM_town_59 (kM_isWord (σ := σ) (227147 : Int64)) mlM_131 myM_isWord mnM_isWord ⟨rfl, rfl, by decide, by decide⟩ (rfl : kd 44 = (6, 0)) (by decide) rfl (Nat.le_of_ble_eq_true rfl) ⟨Nat.zero_le _, Nat.zero_le _⟩ rfl ?_
          refine V.ifeq 72 dM_town_62 rfl rfl (fun g30 => ?_) (fun g30 => ?_)
          · replace hX := ip hX g30
            refine V.aloadn 0 dM_town_72 rfl rfl ?_
            refine V.callvi 44 [] dM_town_73 (kM_kindHere (σ := σ)) mlM_182 myM_kindHere mnM_kindHere ⟨rfl, rfl, by decide, by decide⟩ (rfl : kd 44 = (6, 0)) (by decide) rfl (Nat.le_of_ble_eq_true rfl) ⟨Nat.zero_le _, Nat.zero_le _⟩ rfl ?_
            refine V.iflt 90 dM_town_76 rfl rfl (fun g31 => ?_) (fun g31 => ?_)
            · replace hX := ip hX g31
              refine V.aloadn 0 dM_town_90 rfl rfl ?_
              refine V.iconst (0 : Int32) dM_town_91 lc0 rfl ?_
              refine V.puti 44 .boolean dM_town_92 flM_145 fw6_14 (rfl : kd 44 = (6, 0)) (nz b01_0) rfl ?_
              replace hX := nmx hX; generalize sI σ 44 14 (0 : Int32) = σ32 at hX ⊢; try dsimp only at hX
              refine V.goto 24 dM_town_95 rfl ?_
              refine V.sub [0] rfl ?_
              exact ih σ32 hX
            · replace hX := im hX g31
              refine V.aloadn 0 dM_town_79 rfl rfl ?_
              refine V.aloadn 0 dM_town_80 rfl rfl ?_
              refine V.callvi 44 [] dM_town_81 (kM_kindHere (σ := σ)) mlM_182 myM_kindHere mnM_kindHere ⟨rfl, rfl, by decide, by decide⟩ (rfl : kd 44 = (6, 0)) (by decide) rfl (Nat.le_of_ble_eq_true rfl) ⟨Nat.zero_le _, Nat.zero_le _⟩ rfl ?_
              obtain ⟨σ34, c33, hX⟩ := bd hX; try dsimp only at hX
              refine V.callv0 44 [.int (fM_kindHere σ)] dM_town_84 (kM_wantCoin c33) mlM_186 myM_wantCoin mnM_wantCoin ⟨rfl, rfl, by decide, by decide⟩ (rfl : kd 44 = (6, 0)) (by decide) rfl (Nat.le_of_ble_eq_true rfl) ⟨Nat.zero_le _, Nat.zero_le _⟩ rfl ?_
              refine V.goto 24 dM_town_87 rfl ?_
              refine V.sub [0] rfl ?_
              exact ih σ34 hX
          · replace hX := im hX g30
            refine V.aloadn 0 dM_town_65 rfl rfl ?_
            obtain ⟨σ36, c35, hX⟩ := bd hX; try dsimp only at hX
            refine V.callv0 44 [] dM_town_66 (kM_wantKnow c35) mlM_179 myM_wantKnow mnM_wantKnow ⟨rfl, rfl, by decide, by decide⟩ (rfl : kd 44 = (6, 0)) (by decide) rfl (Nat.le_of_ble_eq_true rfl) ⟨Nat.zero_le _, Nat.zero_le _⟩ rfl ?_
            refine V.goto 24 dM_town_69 rfl ?_
            refine V.sub [0] rfl ?_
            exact ih σ36 hX
        · replace hX := im hX g29
          refine V.aloadn 0 dM_town_48 rfl rfl ?_
          obtain ⟨σ38, c37, hX⟩ := bd hX; try dsimp only at hX
          refine V.callv0 44 [] dM_town_49 (kM_wantPerson c37) mlM_174 myM_wantPerson mnM_wantPerson ⟨rfl, rfl, by decide, by decide⟩ (rfl : kd 44 = (6, 0)) (by decide) rfl (Nat.le_of_ble_eq_true rfl) ⟨Nat.zero_le _, Nat.zero_le _⟩ rfl ?_
          refine V.goto 24 dM_town_52 rfl ?_
          refine V.sub [0] rfl ?_
          exact ih σ38 hX
set_option maxRecDepth 4000 in
theorem wM_town {E : Ev} {z : Int32 × St} (σ : St) (hX : fM_town σ = some z) : V E mM_town (FM E (some (.int z.1), z.2)) 0 [(0, .ref 44)] [] σ := by
  unfold fM_town at hX
  refine V.aloadn 0 dM_town_0 rfl rfl ?_
  refine V.iconst (0 : Int32) dM_town_1 lc0 rfl ?_
  refine V.puti 44 .int dM_town_2 flM_96 fw6_11 (rfl : kd 44 = (6, 0)) ⟨rfl, rfl⟩ rfl ?_
  replace hX := nmx hX; generalize sI σ 44 11 (0 : Int32) = σ1 at hX ⊢; try dsimp only at hX
  refine V.aloadn 0 dM_town_5 rfl rfl ?_
  refine V.iconst (1 : Int32) dM_town_6 lc1 rfl ?_
  refine V.puti 44 .boolean dM_town_7 flM_145 fw6_14 (rfl : kd 44 = (6, 0)) (nz b01_1) rfl ?_
  replace hX := nmx hX; generalize sI σ1 44 14 (1 : Int32) = σ2 at hX ⊢; try dsimp only at hX
  refine V.aloadn 0 dM_town_10 rfl rfl ?_
  refine V.iconst (0 : Int32) dM_town_11 lc0 rfl ?_
  refine V.puti 44 .int dM_town_12 flM_155 fw6_15 (rfl : kd 44 = (6, 0)) ⟨rfl, rfl⟩ rfl ?_
  replace hX := nmx hX; generalize sI σ2 44 15 (0 : Int32) = σ3 at hX ⊢; try dsimp only at hX
  refine V.aloadn 0 dM_town_15 rfl rfl ?_
  refine V.iconst (0 : Int32) dM_town_16 lc0 rfl ?_
  refine V.puti 44 .int dM_town_17 flM_165 fw6_16 (rfl : kd 44 = (6, 0)) ⟨rfl, rfl⟩ rfl ?_
  replace hX := nmx hX; generalize sI σ3 44 16 (0 : Int32) = σ4 at hX ⊢; try dsimp only at hX
  refine V.aloadn 0 dM_town_20 rfl rfl ?_
  obtain ⟨σ6, c5, hX⟩ := bd hX; try dsimp only at hX
  refine V.callv0 44 [] dM_town_21 (kM_advance c5) mlM_149 myM_advance mnM_advance ⟨rfl, rfl, by decide, by decide⟩ (rfl : kd 44 = (6, 0)) (by decide) rfl (Nat.le_of_ble_eq_true rfl) ⟨Nat.zero_le _, Nat.zero_le _⟩ rfl ?_
  refine V.sub [0] rfl ?_
  exact wM_town_24 300 σ6 hX
theorem kM_town {E : Ev} {σ σ2 : St} {z : Int32} (h : fM_town σ = some (z, σ2)) : Ct mM_town E [.ref 44] σ (some (.int z), σ2) := Ct.of (by decide) (Nat.le_of_ble_eq_true rfl) (wM_town σ h)
theorem dM_person_0 : decode mM_person.1 0 = .ok (.iload_n 1, 1) := by decide +kernel
theorem dM_person_1 : decode mM_person.1 1 = .ok (.iconst 0, 1) := by decide +kernel
theorem dM_person_2 : decode mM_person.1 2 = .ok (.bipush 9, 2) := by decide +kernel
theorem dM_person_4 : decode mM_person.1 4 = .ok (.invokestatic 84, 3) := by decide +kernel
theorem dM_person_7 : decode mM_person.1 7 = .ok (.ifCond .ne 5, 3) := by decide +kernel
theorem dM_person_10 : decode mM_person.1 10 = .ok (.iconst (-1), 1) := by decide +kernel
theorem dM_person_11 : decode mM_person.1 11 = .ok (.ireturn, 1) := by decide +kernel
theorem dM_person_12 : decode mM_person.1 12 = .ok (.aload_n 0, 1) := by decide +kernel
theorem dM_person_13 : decode mM_person.1 13 = .ok (.getfield 81, 3) := by decide +kernel
theorem dM_person_16 : decode mM_person.1 16 = .ok (.bipush 7, 2) := by decide +kernel
theorem dM_person_18 : decode mM_person.1 18 = .ok (.if_icmp .ne 6, 3) := by decide +kernel
theorem dM_person_21 : decode mM_person.1 21 = .ok (.bipush (-2), 2) := by decide +kernel
theorem dM_person_23 : decode mM_person.1 23 = .ok (.ireturn, 1) := by decide +kernel
theorem dM_person_24 : decode mM_person.1 24 = .ok (.aload_n 0, 1) := by decide +kernel
theorem dM_person_25 : decode mM_person.1 25 = .ok (.getfield 7, 3) := by decide +kernel
theorem dM_person_28 : decode mM_person.1 28 = .ok (.aload_n 0, 1) := by decide +kernel
theorem dM_person_29 : decode mM_person.1 29 = .ok (.getfield 81, 3) := by decide +kernel
theorem dM_person_32 : decode mM_person.1 32 = .ok (.iload_n 1, 1) := by decide +kernel
theorem dM_person_33 : decode mM_person.1 33 = .ok (.iastore, 1) := by decide +kernel
theorem dM_person_34 : decode mM_person.1 34 = .ok (.aload_n 0, 1) := by decide +kernel
theorem dM_person_35 : decode mM_person.1 35 = .ok (.getfield 13, 3) := by decide +kernel
theorem dM_person_38 : decode mM_person.1 38 = .ok (.aload_n 0, 1) := by decide +kernel
theorem dM_person_39 : decode mM_person.1 39 = .ok (.getfield 81, 3) := by decide +kernel
theorem dM_person_42 : decode mM_person.1 42 = .ok (.iconst 0, 1) := by decide +kernel
theorem dM_person_43 : decode mM_person.1 43 = .ok (.iastore, 1) := by decide +kernel
theorem dM_person_44 : decode mM_person.1 44 = .ok (.aload_n 0, 1) := by decide +kernel
theorem dM_person_45 : decode mM_person.1 45 = .ok (.getfield 16, 3) := by decide +kernel
theorem dM_person_48 : decode mM_person.1 48 = .ok (.aload_n 0, 1) := by decide +kernel
theorem dM_person_49 : decode mM_person.1 49 = .ok (.getfield 81, 3) := by decide +kernel
theorem dM_person_52 : decode mM_person.1 52 = .ok (.iconst 0, 1) := by decide +kernel
theorem dM_person_53 : decode mM_person.1 53 = .ok (.iastore, 1) := by decide +kernel
theorem dM_person_54 : decode mM_person.1 54 = .ok (.aload_n 0, 1) := by decide +kernel
theorem dM_person_55 : decode mM_person.1 55 = .ok (.dup, 1) := by decide +kernel
theorem dM_person_56 : decode mM_person.1 56 = .ok (.getfield 81, 3) := by decide +kernel
theorem dM_person_59 : decode mM_person.1 59 = .ok (.iconst 1, 1) := by decide +kernel
theorem dM_person_60 : decode mM_person.1 60 = .ok (.iadd, 1) := by decide +kernel
theorem dM_person_61 : decode mM_person.1 61 = .ok (.putfield 81, 3) := by decide +kernel
theorem dM_person_64 : decode mM_person.1 64 = .ok (.aload_n 0, 1) := by decide +kernel
theorem dM_person_65 : decode mM_person.1 65 = .ok (.getfield 81, 3) := by decide +kernel
theorem dM_person_68 : decode mM_person.1 68 = .ok (.iconst 1, 1) := by decide +kernel
theorem dM_person_69 : decode mM_person.1 69 = .ok (.isub, 1) := by decide +kernel
theorem dM_person_70 : decode mM_person.1 70 = .ok (.ireturn, 1) := by decide +kernel
set_option maxRecDepth 4000 in
theorem wM_person {E : Ev} {z : Int32 × St} (σ : St) (i1 : Int32) (hX : fM_person σ i1 = some z) : V E mM_person (FM E (some (.int z.1), z.2)) 0 [(0, .ref 44), (1, .int i1)] [] σ := by
  unfold fM_person at hX
  refine V.iloadn 1 dM_person_0 rfl rfl ?_
  refine V.iconst (0 : Int32) dM_person_1 lc0 rfl ?_
  refine V.bipush (9 : Int32) dM_person_2 lb9 rfl ?_
  refine V.callsi [.int i1, .int (0 : Int32), .int (9 : Int32)] dM_person_4 (kM_in (σ := σ) i1 (0 : Int32) (9 : Int32)) mlM_84 myM_in mnM_in ⟨rfl, rfl, by decide, by decide⟩ rfl (Nat.le_of_ble_eq_true rfl) ⟨Nat.zero_le _, Nat.zero_le _⟩ rfl ?_
  refine V.ifne 12 dM_person_7 rfl rfl (fun g1 => ?_) (fun g1 => ?_)
  · replace hX := im hX g1
    refine V.aloadn 0 dM_person_12 rfl rfl ?_
    refine V.geti 44 dM_person_13 flM_81 (rfl : kd 44 = (6, 0)) rfl ?_
    refine V.bipush (7 : Int32) dM_person_16 lb7 rfl ?_
    refine V.icmpne 24 dM_person_18 rfl rfl (fun g2 => ?_) (fun g2 => ?_)
    · replace hX := im hX g2
      refine V.aloadn 0 dM_person_24 rfl rfl ?_
      refine V.getr 44 45 dM_person_25 flM_7 (rfl : kd 44 = (6, 0)) rfl rfl ?_
      refine V.aloadn 0 dM_person_28 rfl rfl ?_
      refine V.geti 44 dM_person_29 flM_81 (rfl : kd 44 = (6, 0)) rfl ?_
      refine V.iloadn 1 dM_person_32 rfl rfl ?_
      obtain ⟨h3, hX⟩ := ob hX
      refine V.iast 45 dM_person_33 (rfl : kd 45 = (7, 7)) h3 rfl ?_
      replace hX := nmx hX; generalize sI σ 45 (ix (gI σ 44 0)) i1 = σ4 at hX ⊢; try dsimp only at hX
      refine V.aloadn 0 dM_person_34 rfl rfl ?_
      refine V.getr 44 46 dM_person_35 flM_13 (rfl : kd 44 = (6, 0)) rfl rfl ?_
      refine V.aloadn 0 dM_person_38 rfl rfl ?_
      refine V.geti 44 dM_person_39 flM_81 (rfl : kd 44 = (6, 0)) rfl ?_
      refine V.iconst (0 : Int32) dM_person_42 lc0 rfl ?_
      obtain ⟨h5, hX⟩ := ob hX
      refine V.iast 46 dM_person_43 (rfl : kd 46 = (7, 7)) h5 rfl ?_
      replace hX := nmx hX; generalize sI σ4 46 (ix (gI σ4 44 0)) (0 : Int32) = σ6 at hX ⊢; try dsimp only at hX
      refine V.aloadn 0 dM_person_44 rfl rfl ?_
      refine V.getr 44 47 dM_person_45 flM_16 (rfl : kd 44 = (6, 0)) rfl rfl ?_
      refine V.aloadn 0 dM_person_48 rfl rfl ?_
      refine V.geti 44 dM_person_49 flM_81 (rfl : kd 44 = (6, 0)) rfl ?_
      refine V.iconst (0 : Int32) dM_person_52 lc0 rfl ?_
      obtain ⟨h7, hX⟩ := ob hX
      refine V.iast 47 dM_person_53 (rfl : kd 47 = (7, 7)) h7 rfl ?_
      replace hX := nmx hX; generalize sI σ6 47 (ix (gI σ6 44 0)) (0 : Int32) = σ8 at hX ⊢; try dsimp only at hX
      refine V.aloadn 0 dM_person_54 rfl rfl ?_
      refine V.dup dM_person_55 rfl rfl ?_
      refine V.geti 44 dM_person_56 flM_81 (rfl : kd 44 = (6, 0)) rfl ?_
      refine V.iconst (1 : Int32) dM_person_59 lc1 rfl ?_
      refine V.iadd dM_person_60 rfl ?_
      refine V.puti 44 .int dM_person_61 flM_81 fw6_0 (rfl : kd 44 = (6, 0)) ⟨rfl, rfl⟩ rfl ?_
      replace hX := nmx hX; generalize sI σ8 44 0 ((gI σ8 44 0) + (1 : Int32)) = σ9 at hX ⊢; try dsimp only at hX
      refine V.aloadn 0 dM_person_64 rfl rfl ?_
      refine V.geti 44 dM_person_65 flM_81 (rfl : kd 44 = (6, 0)) rfl ?_
      refine V.iconst (1 : Int32) dM_person_68 lc1 rfl ?_
      refine V.isub dM_person_69 rfl ?_
      have hX := (Option.some.inj hX).symm; subst hX; exact V.iret dM_person_70 rfl rfl
    · replace hX := ip hX g2
      refine V.bipush (-2 : Int32) dM_person_21 lbm2 rfl ?_
      have hX := (Option.some.inj hX).symm; subst hX; exact V.iret dM_person_23 rfl rfl
  · replace hX := ip hX g1
    refine V.iconst (-1 : Int32) dM_person_10 lcm1 rfl ?_
    have hX := (Option.some.inj hX).symm; subst hX; exact V.iret dM_person_11 rfl rfl
theorem kM_person {E : Ev} {σ σ2 : St} {i1 : Int32} {z : Int32} (h : fM_person σ i1 = some (z, σ2)) : Ct mM_person E [.ref 44, .int i1] σ (some (.int z), σ2) := Ct.of (by decide) (Nat.le_of_ble_eq_true rfl) (wM_person σ i1 h)
theorem dM_isPerson_0 : decode mM_isPerson.1 0 = .ok (.iload_n 1, 1) := by decide +kernel
theorem dM_isPerson_1 : decode mM_isPerson.1 1 = .ok (.iconst 0, 1) := by decide +kernel
theorem dM_isPerson_2 : decode mM_isPerson.1 2 = .ok (.aload_n 0, 1) := by decide +kernel
theorem dM_isPerson_3 : decode mM_isPerson.1 3 = .ok (.getfield 81, 3) := by decide +kernel
theorem dM_isPerson_6 : decode mM_isPerson.1 6 = .ok (.iconst 1, 1) := by decide +kernel
theorem dM_isPerson_7 : decode mM_isPerson.1 7 = .ok (.isub, 1) := by decide +kernel
theorem dM_isPerson_8 : decode mM_isPerson.1 8 = .ok (.invokestatic 84, 3) := by decide +kernel
theorem dM_isPerson_11 : decode mM_isPerson.1 11 = .ok (.ireturn, 1) := by decide +kernel
set_option maxRecDepth 4000 in
theorem wM_isPerson {E : Ev} {z : Int32} (σ : St) (i1 : Int32) (hX : fM_isPerson σ i1 = z) : V E mM_isPerson (FM E (some (.int z), σ)) 0 [(0, .ref 44), (1, .int i1)] [] σ := by
  unfold fM_isPerson at hX
  refine V.iloadn 1 dM_isPerson_0 rfl rfl ?_
  refine V.iconst (0 : Int32) dM_isPerson_1 lc0 rfl ?_
  refine V.aloadn 0 dM_isPerson_2 rfl rfl ?_
  refine V.geti 44 dM_isPerson_3 flM_81 (rfl : kd 44 = (6, 0)) rfl ?_
  refine V.iconst (1 : Int32) dM_isPerson_6 lc1 rfl ?_
  refine V.isub dM_isPerson_7 rfl ?_
  refine V.callsi [.int i1, .int (0 : Int32), .int ((gI σ 44 0) - (1 : Int32))] dM_isPerson_8 (kM_in (σ := σ) i1 (0 : Int32) ((gI σ 44 0) - (1 : Int32))) mlM_84 myM_in mnM_in ⟨rfl, rfl, by decide, by decide⟩ rfl (Nat.le_of_ble_eq_true rfl) ⟨Nat.zero_le _, Nat.zero_le _⟩ rfl ?_
  subst hX; exact V.zret .boolean dM_isPerson_11 rfl (nz (bM_in i1 (0 : Int32) ((gI σ 44 0) - (1 : Int32)))).1 rfl
theorem kM_isPerson {E : Ev} {σ : St} (i1 : Int32) : Ct mM_isPerson E [.ref 44, .int i1] σ (some (.int (fM_isPerson σ i1)), σ) := Ct.of (by decide) (Nat.le_of_ble_eq_true rfl) (wM_isPerson σ i1 rfl)
theorem bM_isPerson (σ : St) (i1 : Int32) : b01 (fM_isPerson σ i1) := by
  unfold fM_isPerson
  exact (bM_in i1 (0 : Int32) ((gI σ 44 0) - (1 : Int32)))
theorem dM_its_0 : decode mM_its.1 0 = .ok (.aload_n 0, 1) := by decide +kernel
theorem dM_its_1 : decode mM_its.1 1 = .ok (.getfield 19, 3) := by decide +kernel
theorem dM_its_4 : decode mM_its.1 4 = .ok (.iconst 4, 1) := by decide +kernel
theorem dM_its_5 : decode mM_its.1 5 = .ok (.iload_n 1, 1) := by decide +kernel
theorem dM_its_6 : decode mM_its.1 6 = .ok (.imul, 1) := by decide +kernel
theorem dM_its_7 : decode mM_its.1 7 = .ok (.iload_n 2, 1) := by decide +kernel
theorem dM_its_8 : decode mM_its.1 8 = .ok (.iadd, 1) := by decide +kernel
theorem dM_its_9 : decode mM_its.1 9 = .ok (.iaload, 1) := by decide +kernel
theorem dM_its_10 : decode mM_its.1 10 = .ok (.ireturn, 1) := by decide +kernel
set_option maxRecDepth 4000 in
theorem wM_its {E : Ev} {z : Int32} (σ : St) (i1 : Int32) (i2 : Int32) (hX : fM_its σ i1 i2 = some z) : V E mM_its (FM E (some (.int z), σ)) 0 [(0, .ref 44), (1, .int i1), (2, .int i2)] [] σ := by
  unfold fM_its at hX
  refine V.aloadn 0 dM_its_0 rfl rfl ?_
  refine V.getr 44 48 dM_its_1 flM_19 (rfl : kd 44 = (6, 0)) rfl rfl ?_
  refine V.iconst (4 : Int32) dM_its_4 lc4 rfl ?_
  refine V.iloadn 1 dM_its_5 rfl rfl ?_
  refine V.imul dM_its_6 rfl ?_
  refine V.iloadn 2 dM_its_7 rfl rfl ?_
  refine V.iadd dM_its_8 rfl ?_
  obtain ⟨h1, hX⟩ := ob hX
  refine V.iald 48 dM_its_9 (rfl : kd 48 = (7, 24)) h1 rfl ?_
  have hX := (Option.some.inj hX).symm; subst hX; exact V.iret dM_its_10 rfl rfl
theorem kM_its {E : Ev} {σ : St} {i1 : Int32} {i2 : Int32} {z : Int32} (h : fM_its σ i1 i2 = some z) : Ct mM_its E [.ref 44, .int i1, .int i2] σ (some (.int z), σ) := Ct.of (by decide) (Nat.le_of_ble_eq_true rfl) (wM_its σ i1 i2 h)
theorem dM_heldBy_0 : decode mM_heldBy.1 0 = .ok (.iconst 0, 1) := by decide +kernel
theorem dM_heldBy_1 : decode mM_heldBy.1 1 = .ok (.istore_n 2, 1) := by decide +kernel
theorem dM_heldBy_2 : decode mM_heldBy.1 2 = .ok (.iconst 0, 1) := by decide +kernel
theorem dM_heldBy_3 : decode mM_heldBy.1 3 = .ok (.istore_n 3, 1) := by decide +kernel
theorem dM_heldBy_4 : decode mM_heldBy.1 4 = .ok (.iload_n 3, 1) := by decide +kernel
theorem dM_heldBy_5 : decode mM_heldBy.1 5 = .ok (.aload_n 0, 1) := by decide +kernel
theorem dM_heldBy_6 : decode mM_heldBy.1 6 = .ok (.getfield 88, 3) := by decide +kernel
theorem dM_heldBy_9 : decode mM_heldBy.1 9 = .ok (.if_icmp .ge 29, 3) := by decide +kernel
theorem dM_heldBy_12 : decode mM_heldBy.1 12 = .ok (.iload_n 2, 1) := by decide +kernel
theorem dM_heldBy_13 : decode mM_heldBy.1 13 = .ok (.aload_n 0, 1) := by decide +kernel
theorem dM_heldBy_14 : decode mM_heldBy.1 14 = .ok (.iload_n 3, 1) := by decide +kernel
theorem dM_heldBy_15 : decode mM_heldBy.1 15 = .ok (.iconst 2, 1) := by decide +kernel
theorem dM_heldBy_16 : decode mM_heldBy.1 16 = .ok (.invokevirtual 193, 3) := by decide +kernel
theorem dM_heldBy_19 : decode mM_heldBy.1 19 = .ok (.iload_n 1, 1) := by decide +kernel
theorem dM_heldBy_20 : decode mM_heldBy.1 20 = .ok (.if_icmp .ne 9, 3) := by decide +kernel
theorem dM_heldBy_23 : decode mM_heldBy.1 23 = .ok (.iconst 1, 1) := by decide +kernel
theorem dM_heldBy_24 : decode mM_heldBy.1 24 = .ok (.iload_n 3, 1) := by decide +kernel
theorem dM_heldBy_25 : decode mM_heldBy.1 25 = .ok (.ishl, 1) := by decide +kernel
theorem dM_heldBy_26 : decode mM_heldBy.1 26 = .ok (.goto 4, 3) := by decide +kernel
theorem dM_heldBy_29 : decode mM_heldBy.1 29 = .ok (.iconst 0, 1) := by decide +kernel
theorem dM_heldBy_30 : decode mM_heldBy.1 30 = .ok (.ior, 1) := by decide +kernel
theorem dM_heldBy_31 : decode mM_heldBy.1 31 = .ok (.istore_n 2, 1) := by decide +kernel
theorem dM_heldBy_32 : decode mM_heldBy.1 32 = .ok (.iinc 3 1, 3) := by decide +kernel
theorem dM_heldBy_35 : decode mM_heldBy.1 35 = .ok (.goto (-31), 3) := by decide +kernel
theorem dM_heldBy_38 : decode mM_heldBy.1 38 = .ok (.iload_n 2, 1) := by decide +kernel
theorem dM_heldBy_39 : decode mM_heldBy.1 39 = .ok (.ireturn, 1) := by decide +kernel
set_option maxRecDepth 4000 in
theorem wM_heldBy_4 {E : Ev} {z : Int32} : ∀ (fu : Nat) (σ : St) (i1 : Int32) (i2 : Int32) (i3 : Int32), fM_heldBy_4 fu σ i1 i2 i3 = some z → V E mM_heldBy (FM E (some (.int z), σ)) 4 [(0, .ref 44), (1, .int i1), (2, .int i2), (3, .int i3)] [] σ := by
  intro fu
  induction fu with
  | zero => intro σ i1 i2 i3 hX; cases hX
  | succ fu ih =>
    intro σ i1 i2 i3 hX
    rw [fM_heldBy_4] at hX
    refine V.iloadn 3 dM_heldBy_4 rfl rfl ?_
    refine V.aloadn 0 dM_heldBy_5 rfl rfl ?_
    refine V.geti 44 dM_heldBy_6 flM_88 (rfl : kd 44 = (6, 0)) rfl ?_
    refine V.icmpge 38 dM_heldBy_9 rfl rfl (fun g1 => ?_) (fun g1 => ?_)
    · replace hX := ip hX g1
      refine V.iloadn 2 dM_heldBy_38 rfl rfl ?_
      have hX := (Option.some.inj hX).symm; subst hX; exact V.iret dM_heldBy_39 rfl rfl
    · replace hX := im hX g1
      refine V.iloadn 2 dM_heldBy_12 rfl rfl ?_
      refine V.aloadn 0 dM_heldBy_13 rfl rfl ?_
      refine V.iloadn 3 dM_heldBy_14 rfl rfl ?_
      refine V.iconst (2 : Int32) dM_heldBy_15 lc2 rfl ?_
      obtain ⟨q2, c3, hX⟩ := bd hX; try dsimp only at hX
      refine V.callvi 44 [.int i3, .int (2 : Int32)] dM_heldBy_16 (kM_its c3) mlM_193 myM_its mnM_its ⟨rfl, rfl, by decide, by decide⟩ (rfl : kd 44 = (6, 0)) (by decide) rfl (Nat.le_of_ble_eq_true rfl) ⟨Nat.zero_le _, Nat.zero_le _⟩ rfl ?_
      refine V.iloadn 1 dM_heldBy_19 rfl rfl ?_
      have JJ : V E mM_heldBy (FM E (some (.int z), σ)) 30 [(0, .ref 44), (1, .int i1), (2, .int i2), (3, .int i3)] [.int (if q2 = i1 then (1 : Int32) <<< (i3 &&& 31) else (0 : Int32)), .int i2] σ := by
        refine V.ior dM_heldBy_30 rfl ?_
        refine V.istoren _ dM_heldBy_31 (by decide) rfl rfl ?_
        replace hX := nmx hX; generalize i2 ||| (if q2 = i1 then (1 : Int32) <<< (i3 &&& 31) else (0 : Int32)) = v4 at hX ⊢; try dsimp only at hX
        refine V.iinc 3 (1 : Int32) _ dM_heldBy_32 rfl lc1 (by decide) rfl rfl ?_
        replace hX := nmx hX; generalize i3 + (1 : Int32) = v5 at hX ⊢; try dsimp only at hX
        refine V.goto 4 dM_heldBy_35 rfl ?_
        refine V.sub [2, 3, 1, 0] rfl ?_
        exact ih σ i1 v4 v5 hX
      refine V.icmpne 29 dM_heldBy_20 rfl rfl (fun g6 => ?_) (fun g6 => ?_)
      · refine V.iconst (0 : Int32) dM_heldBy_29 lc0 rfl ?_
        exact V.top (if_neg g6).symm JJ
      · refine V.iconst (1 : Int32) dM_heldBy_23 lc1 rfl ?_
        refine V.iloadn 3 dM_heldBy_24 rfl rfl ?_
        refine V.ishl dM_heldBy_25 rfl ?_
        refine V.goto 30 dM_heldBy_26 rfl ?_
        exact V.top (if_pos g6).symm JJ
set_option maxRecDepth 4000 in
theorem wM_heldBy {E : Ev} {z : Int32} (σ : St) (i1 : Int32) (hX : fM_heldBy σ i1 = some z) : V E mM_heldBy (FM E (some (.int z), σ)) 0 [(0, .ref 44), (1, .int i1)] [] σ := by
  unfold fM_heldBy at hX
  refine V.iconst (0 : Int32) dM_heldBy_0 lc0 rfl ?_
  refine V.istoren _ dM_heldBy_1 (by decide) rfl rfl ?_
  refine V.iconst (0 : Int32) dM_heldBy_2 lc0 rfl ?_
  refine V.istoren _ dM_heldBy_3 (by decide) rfl rfl ?_
  refine V.sub [2, 3, 1, 0] rfl ?_
  exact wM_heldBy_4 300 σ i1 (0 : Int32) (0 : Int32) hX
theorem kM_heldBy {E : Ev} {σ : St} {i1 : Int32} {z : Int32} (h : fM_heldBy σ i1 = some z) : Ct mM_heldBy E [.ref 44, .int i1] σ (some (.int z), σ) := Ct.of (by decide) (Nat.le_of_ble_eq_true rfl) (wM_heldBy σ i1 h)
theorem dM_has_0 : decode mM_has.1 0 = .ok (.iload_n 0, 1) := by decide +kernel
theorem dM_has_1 : decode mM_has.1 1 = .ok (.iload_n 1, 1) := by decide +kernel
theorem dM_has_2 : decode mM_has.1 2 = .ok (.ishr, 1) := by decide +kernel
theorem dM_has_3 : decode mM_has.1 3 = .ok (.iconst 1, 1) := by decide +kernel
theorem dM_has_4 : decode mM_has.1 4 = .ok (.iand, 1) := by decide +kernel
theorem dM_has_5 : decode mM_has.1 5 = .ok (.iconst 1, 1) := by decide +kernel
theorem dM_has_6 : decode mM_has.1 6 = .ok (.if_icmp .ne 7, 3) := by decide +kernel
theorem dM_has_9 : decode mM_has.1 9 = .ok (.iconst 1, 1) := by decide +kernel
theorem dM_has_10 : decode mM_has.1 10 = .ok (.goto 4, 3) := by decide +kernel
theorem dM_has_13 : decode mM_has.1 13 = .ok (.iconst 0, 1) := by decide +kernel
theorem dM_has_14 : decode mM_has.1 14 = .ok (.ireturn, 1) := by decide +kernel
set_option maxRecDepth 4000 in
theorem wM_has {E : Ev} {z : Int32} (σ : St) (i0 : Int32) (i1 : Int32) (hX : fM_has i0 i1 = z) : V E mM_has (FM E (some (.int z), σ)) 0 [(0, .int i0), (1, .int i1)] [] σ := by
  unfold fM_has at hX
  refine V.iloadn 0 dM_has_0 rfl rfl ?_
  refine V.iloadn 1 dM_has_1 rfl rfl ?_
  refine V.ishr dM_has_2 rfl ?_
  refine V.iconst (1 : Int32) dM_has_3 lc1 rfl ?_
  refine V.iand dM_has_4 rfl ?_
  refine V.iconst (1 : Int32) dM_has_5 lc1 rfl ?_
  have JJ : V E mM_has (FM E (some (.int z), σ)) 14 [(0, .int i0), (1, .int i1)] [.int (if ((i0 >>> (i1 &&& 31)) &&& (1 : Int32)) = (1 : Int32) then (1 : Int32) else (0 : Int32))] σ := by
    subst hX; exact V.zret .boolean dM_has_14 rfl (nz (b01_i b01_1 b01_0)).1 rfl
  refine V.icmpne 13 dM_has_6 rfl rfl (fun g1 => ?_) (fun g1 => ?_)
  · refine V.iconst (0 : Int32) dM_has_13 lc0 rfl ?_
    exact V.top (if_neg g1).symm JJ
  · refine V.iconst (1 : Int32) dM_has_9 lc1 rfl ?_
    refine V.goto 14 dM_has_10 rfl ?_
    exact V.top (if_pos g1).symm JJ
theorem kM_has {E : Ev} {σ : St} (i0 : Int32) (i1 : Int32) : Ct mM_has E [.int i0, .int i1] σ (some (.int (fM_has i0 i1)), σ) := Ct.of (by decide) (Nat.le_of_ble_eq_true rfl) (wM_has σ i0 i1 rfl)
theorem bM_has (i0 : Int32) (i1 : Int32) : b01 (fM_has i0 i1) := by
  unfold fM_has
  exact (b01_i b01_1 b01_0)
theorem dM_worth_0 : decode mM_worth.1 0 = .ok (.aload_n 0, 1) := by decide +kernel
theorem dM_worth_1 : decode mM_worth.1 1 = .ok (.iload_n 1, 1) := by decide +kernel
theorem dM_worth_2 : decode mM_worth.1 2 = .ok (.iconst 1, 1) := by decide +kernel
theorem dM_worth_3 : decode mM_worth.1 3 = .ok (.invokevirtual 193, 3) := by decide +kernel
theorem dM_worth_6 : decode mM_worth.1 6 = .ok (.istore_n 2, 1) := by decide +kernel
theorem dM_worth_7 : decode mM_worth.1 7 = .ok (.aload_n 0, 1) := by decide +kernel
theorem dM_worth_8 : decode mM_worth.1 8 = .ok (.iload_n 1, 1) := by decide +kernel
theorem dM_worth_9 : decode mM_worth.1 9 = .ok (.iconst 0, 1) := by decide +kernel
theorem dM_worth_10 : decode mM_worth.1 10 = .ok (.invokevirtual 193, 3) := by decide +kernel
theorem dM_worth_13 : decode mM_worth.1 13 = .ok (.tableswitch 69 1 5 #[35, 39, 43, 59, 65], 35) := by decide +kernel
theorem dM_worth_48 : decode mM_worth.1 48 = .ok (.iload_n 2, 1) := by decide +kernel
theorem dM_worth_49 : decode mM_worth.1 49 = .ok (.iconst 2, 1) := by decide +kernel
theorem dM_worth_50 : decode mM_worth.1 50 = .ok (.idiv, 1) := by decide +kernel
theorem dM_worth_51 : decode mM_worth.1 51 = .ok (.ireturn, 1) := by decide +kernel
theorem dM_worth_52 : decode mM_worth.1 52 = .ok (.iconst 2, 1) := by decide +kernel
theorem dM_worth_53 : decode mM_worth.1 53 = .ok (.iload_n 2, 1) := by decide +kernel
theorem dM_worth_54 : decode mM_worth.1 54 = .ok (.imul, 1) := by decide +kernel
theorem dM_worth_55 : decode mM_worth.1 55 = .ok (.ireturn, 1) := by decide +kernel
theorem dM_worth_56 : decode mM_worth.1 56 = .ok (.iload_n 2, 1) := by decide +kernel
theorem dM_worth_57 : decode mM_worth.1 57 = .ok (.iconst 2, 1) := by decide +kernel
theorem dM_worth_58 : decode mM_worth.1 58 = .ok (.idiv, 1) := by decide +kernel
theorem dM_worth_59 : decode mM_worth.1 59 = .ok (.bipush 10, 2) := by decide +kernel
theorem dM_worth_61 : decode mM_worth.1 61 = .ok (.if_icmp .ge 7, 3) := by decide +kernel
theorem dM_worth_64 : decode mM_worth.1 64 = .ok (.iconst 0, 1) := by decide +kernel
theorem dM_worth_65 : decode mM_worth.1 65 = .ok (.goto 6, 3) := by decide +kernel
theorem dM_worth_68 : decode mM_worth.1 68 = .ok (.iload_n 2, 1) := by decide +kernel
theorem dM_worth_69 : decode mM_worth.1 69 = .ok (.iconst 2, 1) := by decide +kernel
theorem dM_worth_70 : decode mM_worth.1 70 = .ok (.idiv, 1) := by decide +kernel
theorem dM_worth_71 : decode mM_worth.1 71 = .ok (.ireturn, 1) := by decide +kernel
theorem dM_worth_72 : decode mM_worth.1 72 = .ok (.iconst 2, 1) := by decide +kernel
theorem dM_worth_73 : decode mM_worth.1 73 = .ok (.iload_n 2, 1) := by decide +kernel
theorem dM_worth_74 : decode mM_worth.1 74 = .ok (.imul, 1) := by decide +kernel
theorem dM_worth_75 : decode mM_worth.1 75 = .ok (.iconst 3, 1) := by decide +kernel
theorem dM_worth_76 : decode mM_worth.1 76 = .ok (.iadd, 1) := by decide +kernel
theorem dM_worth_77 : decode mM_worth.1 77 = .ok (.ireturn, 1) := by decide +kernel
theorem dM_worth_78 : decode mM_worth.1 78 = .ok (.iload_n 2, 1) := by decide +kernel
theorem dM_worth_79 : decode mM_worth.1 79 = .ok (.iconst 1, 1) := by decide +kernel
theorem dM_worth_80 : decode mM_worth.1 80 = .ok (.isub, 1) := by decide +kernel
theorem dM_worth_81 : decode mM_worth.1 81 = .ok (.ireturn, 1) := by decide +kernel
theorem dM_worth_82 : decode mM_worth.1 82 = .ok (.iload_n 2, 1) := by decide +kernel
theorem dM_worth_83 : decode mM_worth.1 83 = .ok (.ireturn, 1) := by decide +kernel
set_option maxRecDepth 4000 in
theorem wM_worth {E : Ev} {z : Int32} (σ : St) (i1 : Int32) (hX : fM_worth σ i1 = some z) : V E mM_worth (FM E (some (.int z), σ)) 0 [(0, .ref 44), (1, .int i1)] [] σ := by
  unfold fM_worth at hX
  refine V.aloadn 0 dM_worth_0 rfl rfl ?_
  refine V.iloadn 1 dM_worth_1 rfl rfl ?_
  refine V.iconst (1 : Int32) dM_worth_2 lc1 rfl ?_
  obtain ⟨q1, c2, hX⟩ := bd hX; try dsimp only at hX
  refine V.callvi 44 [.int i1, .int (1 : Int32)] dM_worth_3 (kM_its c2) mlM_193 myM_its mnM_its ⟨rfl, rfl, by decide, by decide⟩ (rfl : kd 44 = (6, 0)) (by decide) rfl (Nat.le_of_ble_eq_true rfl) ⟨Nat.zero_le _, Nat.zero_le _⟩ rfl ?_
  refine V.istoren _ dM_worth_6 (by decide) rfl rfl ?_
  refine V.aloadn 1 dM_worth_7 rfl rfl ?_
  refine V.iloadn 2 dM_worth_8 rfl rfl ?_
  refine V.iconst (0 : Int32) dM_worth_9 lc0 rfl ?_
  obtain ⟨q3, c4, hX⟩ := bd hX; try dsimp only at hX
  refine V.callvi 44 [.int i1, .int (0 : Int32)] dM_worth_10 (kM_its c4) mlM_193 myM_its mnM_its ⟨rfl, rfl, by decide, by decide⟩ (rfl : kd 44 = (6, 0)) (by decide) rfl (Nat.le_of_ble_eq_true rfl) ⟨Nat.zero_le _, Nat.zero_le _⟩ rfl ?_
  by_cases g5 : q3 = (1 : Int32)
  · replace hX := ip hX g5
    refine V.tabIn (off := 35) 48 dM_worth_13 (by rw [g5]; decide) (by rw [g5]; decide) (by rw [g5]; rfl) rfl ?_
    refine V.iloadn 0 dM_worth_48 rfl rfl ?_
    refine V.iconst (2 : Int32) dM_worth_49 lc2 rfl ?_
    refine V.idiv dM_worth_50 (by decide) rfl ?_
    have hX := (Option.some.inj hX).symm; subst hX; exact V.iret dM_worth_51 rfl rfl
  · replace hX := im hX g5
    by_cases g6 : q3 = (2 : Int32)
    · replace hX := ip hX g6
      refine V.tabIn (off := 39) 52 dM_worth_13 (by rw [g6]; decide) (by rw [g6]; decide) (by rw [g6]; rfl) rfl ?_
      refine V.iconst (2 : Int32) dM_worth_52 lc2 rfl ?_
      refine V.iloadn 0 dM_worth_53 rfl rfl ?_
      refine V.imul dM_worth_54 rfl ?_
      have hX := (Option.some.inj hX).symm; subst hX; exact V.iret dM_worth_55 rfl rfl
    · replace hX := im hX g6
      by_cases g7 : q3 = (3 : Int32)
      · replace hX := ip hX g7
        refine V.tabIn (off := 43) 56 dM_worth_13 (by rw [g7]; decide) (by rw [g7]; decide) (by rw [g7]; rfl) rfl ?_
        refine V.iloadn 0 dM_worth_56 rfl rfl ?_
        refine V.iconst (2 : Int32) dM_worth_57 lc2 rfl ?_
        refine V.idiv dM_worth_58 (by decide) rfl ?_
        refine V.bipush (10 : Int32) dM_worth_59 lb10 rfl ?_
        refine V.icmpge 68 dM_worth_61 rfl rfl (fun g8 => ?_) (fun g8 => ?_)
        · replace hX := ip hX g8
          refine V.iloadn 0 dM_worth_68 rfl rfl ?_
          refine V.iconst (2 : Int32) dM_worth_69 lc2 rfl ?_
          refine V.idiv dM_worth_70 (by decide) rfl ?_
          have hX := (Option.some.inj hX).symm; subst hX; exact V.iret dM_worth_71 rfl rfl
        · replace hX := im hX g8
          refine V.iconst (0 : Int32) dM_worth_64 lc0 rfl ?_
          refine V.goto 71 dM_worth_65 rfl ?_
          have hX := (Option.some.inj hX).symm; subst hX; exact V.iret dM_worth_71 rfl rfl
      · replace hX := im hX g7
        by_cases g9 : q3 = (4 : Int32)
        · replace hX := ip hX g9
          refine V.tabIn (off := 59) 72 dM_worth_13 (by rw [g9]; decide) (by rw [g9]; decide) (by rw [g9]; rfl) rfl ?_
          refine V.iconst (2 : Int32) dM_worth_72 lc2 rfl ?_
          refine V.iloadn 0 dM_worth_73 rfl rfl ?_
          refine V.imul dM_worth_74 rfl ?_
          refine V.iconst (3 : Int32) dM_worth_75 lc3 rfl ?_
          refine V.iadd dM_worth_76 rfl ?_
          have hX := (Option.some.inj hX).symm; subst hX; exact V.iret dM_worth_77 rfl rfl
        · replace hX := im hX g9
          by_cases g10 : q3 = (5 : Int32)
          · replace hX := ip hX g10
            refine V.tabIn (off := 65) 78 dM_worth_13 (by rw [g10]; decide) (by rw [g10]; decide) (by rw [g10]; rfl) rfl ?_
            refine V.iloadn 0 dM_worth_78 rfl rfl ?_
            refine V.iconst (1 : Int32) dM_worth_79 lc1 rfl ?_
            refine V.isub dM_worth_80 rfl ?_
            have hX := (Option.some.inj hX).symm; subst hX; exact V.iret dM_worth_81 rfl rfl
          · replace hX := im hX g10
            refine V.tabOut 82 dM_worth_13 (by have a0 := lv_neT g5 (a := 1) (by decide); have a1 := lv_neT g6 (a := 2) (by decide); have a2 := lv_neT g7 (a := 3) (by decide); have a3 := lv_neT g9 (a := 4) (by decide); have a4 := lv_neT g10 (a := 5) (by decide); omega) rfl ?_
            refine V.iloadn 0 dM_worth_82 rfl rfl ?_
            have hX := (Option.some.inj hX).symm; subst hX; exact V.iret dM_worth_83 rfl rfl
theorem kM_worth {E : Ev} {σ : St} {i1 : Int32} {z : Int32} (h : fM_worth σ i1 = some z) : Ct mM_worth E [.ref 44, .int i1] σ (some (.int z), σ) := Ct.of (by decide) (Nat.le_of_ble_eq_true rfl) (wM_worth σ i1 h)
theorem dM_worthOf_0 : decode mM_worthOf.1 0 = .ok (.iconst 0, 1) := by decide +kernel
theorem dM_worthOf_1 : decode mM_worthOf.1 1 = .ok (.istore_n 2, 1) := by decide +kernel
theorem dM_worthOf_2 : decode mM_worthOf.1 2 = .ok (.iconst 0, 1) := by decide +kernel
theorem dM_worthOf_3 : decode mM_worthOf.1 3 = .ok (.istore_n 3, 1) := by decide +kernel
theorem dM_worthOf_4 : decode mM_worthOf.1 4 = .ok (.iload_n 3, 1) := by decide +kernel
theorem dM_worthOf_5 : decode mM_worthOf.1 5 = .ok (.aload_n 0, 1) := by decide +kernel
theorem dM_worthOf_6 : decode mM_worthOf.1 6 = .ok (.getfield 88, 3) := by decide +kernel
theorem dM_worthOf_9 : decode mM_worthOf.1 9 = .ok (.if_icmp .ge 29, 3) := by decide +kernel
theorem dM_worthOf_12 : decode mM_worthOf.1 12 = .ok (.iload_n 2, 1) := by decide +kernel
theorem dM_worthOf_13 : decode mM_worthOf.1 13 = .ok (.iload_n 1, 1) := by decide +kernel
theorem dM_worthOf_14 : decode mM_worthOf.1 14 = .ok (.iload_n 3, 1) := by decide +kernel
theorem dM_worthOf_15 : decode mM_worthOf.1 15 = .ok (.invokestatic 196, 3) := by decide +kernel
theorem dM_worthOf_18 : decode mM_worthOf.1 18 = .ok (.ifCond .eq 11, 3) := by decide +kernel
theorem dM_worthOf_21 : decode mM_worthOf.1 21 = .ok (.aload_n 0, 1) := by decide +kernel
theorem dM_worthOf_22 : decode mM_worthOf.1 22 = .ok (.iload_n 3, 1) := by decide +kernel
theorem dM_worthOf_23 : decode mM_worthOf.1 23 = .ok (.invokevirtual 200, 3) := by decide +kernel
theorem dM_worthOf_26 : decode mM_worthOf.1 26 = .ok (.goto 4, 3) := by decide +kernel
theorem dM_worthOf_29 : decode mM_worthOf.1 29 = .ok (.iconst 0, 1) := by decide +kernel
theorem dM_worthOf_30 : decode mM_worthOf.1 30 = .ok (.iadd, 1) := by decide +kernel
theorem dM_worthOf_31 : decode mM_worthOf.1 31 = .ok (.istore_n 2, 1) := by decide +kernel
theorem dM_worthOf_32 : decode mM_worthOf.1 32 = .ok (.iinc 3 1, 3) := by decide +kernel
theorem dM_worthOf_35 : decode mM_worthOf.1 35 = .ok (.goto (-31), 3) := by decide +kernel
theorem dM_worthOf_38 : decode mM_worthOf.1 38 = .ok (.iload_n 2, 1) := by decide +kernel
theorem dM_worthOf_39 : decode mM_worthOf.1 39 = .ok (.ireturn, 1) := by decide +kernel
set_option maxRecDepth 4000 in
theorem wM_worthOf_4 {E : Ev} {z : Int32} : ∀ (fu : Nat) (σ : St) (i1 : Int32) (i2 : Int32) (i3 : Int32), fM_worthOf_4 fu σ i1 i2 i3 = some z → V E mM_worthOf (FM E (some (.int z), σ)) 4 [(0, .ref 44), (1, .int i1), (2, .int i2), (3, .int i3)] [] σ := by
  intro fu
  induction fu with
  | zero => intro σ i1 i2 i3 hX; cases hX
  | succ fu ih =>
    intro σ i1 i2 i3 hX
    rw [fM_worthOf_4] at hX
    refine V.iloadn 3 dM_worthOf_4 rfl rfl ?_
    refine V.aloadn 0 dM_worthOf_5 rfl rfl ?_
    refine V.geti 44 dM_worthOf_6 flM_88 (rfl : kd 44 = (6, 0)) rfl ?_
    refine V.icmpge 38 dM_worthOf_9 rfl rfl (fun g1 => ?_) (fun g1 => ?_)
    · replace hX := ip hX g1
      refine V.iloadn 2 dM_worthOf_38 rfl rfl ?_
      have hX := (Option.some.inj hX).symm; subst hX; exact V.iret dM_worthOf_39 rfl rfl
    · replace hX := im hX g1
      refine V.iloadn 2 dM_worthOf_12 rfl rfl ?_
      refine V.iloadn 1 dM_worthOf_13 rfl rfl ?_
      refine V.iloadn 3 dM_worthOf_14 rfl rfl ?_
      refine V.callsi [.int i1, .int i3] dM_worthOf_15 (kM_has (σ := σ) i1 i3) mlM_196 myM_has mnM_has ⟨rfl, rfl, by decide, by decide⟩ rfl (Nat.le_of_ble_eq_true rfl) ⟨Nat.zero_le _, Nat.zero_le _⟩ rfl ?_
      refine V.ifeq 29 dM_worthOf_18 rfl rfl (fun g2 => ?_) (fun g2 => ?_)
      · replace hX := ip hX g2
        refine V.iconst (0 : Int32) dM_worthOf_29 lc0 rfl ?_
        refine V.iadd dM_worthOf_30 rfl ?_
        refine V.istoren _ dM_worthOf_31 (by decide) rfl rfl ?_
        replace hX := nmx hX; generalize i2 + (0 : Int32) = v3 at hX ⊢; try dsimp only at hX
        refine V.iinc 3 (1 : Int32) _ dM_worthOf_32 rfl lc1 (by decide) rfl rfl ?_
        replace hX := nmx hX; generalize i3 + (1 : Int32) = v4 at hX ⊢; try dsimp only at hX
        refine V.goto 4 dM_worthOf_35 rfl ?_
        refine V.sub [2, 3, 1, 0] rfl ?_
        exact ih σ i1 v3 v4 hX
      · replace hX := im hX g2
        refine V.aloadn 0 dM_worthOf_21 rfl rfl ?_
        refine V.iloadn 3 dM_worthOf_22 rfl rfl ?_
        obtain ⟨q5, c6, hX⟩ := bd hX; try dsimp only at hX
        refine V.callvi 44 [.int i3] dM_worthOf_23 (kM_worth c6) mlM_200 myM_worth mnM_worth ⟨rfl, rfl, by decide, by decide⟩ (rfl : kd 44 = (6, 0)) (by decide) rfl (Nat.le_of_ble_eq_true rfl) ⟨Nat.zero_le _, Nat.zero_le _⟩ rfl ?_
        refine V.goto 30 dM_worthOf_26 rfl ?_
        refine V.iadd dM_worthOf_30 rfl ?_
        refine V.istoren _ dM_worthOf_31 (by decide) rfl rfl ?_
        replace hX := nmx hX; generalize i2 + q5 = v7 at hX ⊢; try dsimp only at hX
        refine V.iinc 3 (1 : Int32) _ dM_worthOf_32 rfl lc1 (by decide) rfl rfl ?_
        replace hX := nmx hX; generalize i3 + (1 : Int32) = v8 at hX ⊢; try dsimp only at hX
        refine V.goto 4 dM_worthOf_35 rfl ?_
        refine V.sub [2, 3, 1, 0] rfl ?_
        exact ih σ i1 v7 v8 hX
set_option maxRecDepth 4000 in
theorem wM_worthOf {E : Ev} {z : Int32} (σ : St) (i1 : Int32) (hX : fM_worthOf σ i1 = some z) : V E mM_worthOf (FM E (some (.int z), σ)) 0 [(0, .ref 44), (1, .int i1)] [] σ := by
  unfold fM_worthOf at hX
  refine V.iconst (0 : Int32) dM_worthOf_0 lc0 rfl ?_
  refine V.istoren _ dM_worthOf_1 (by decide) rfl rfl ?_
  refine V.iconst (0 : Int32) dM_worthOf_2 lc0 rfl ?_
  refine V.istoren _ dM_worthOf_3 (by decide) rfl rfl ?_
  refine V.sub [2, 3, 1, 0] rfl ?_
  exact wM_worthOf_4 300 σ i1 (0 : Int32) (0 : Int32) hX
theorem kM_worthOf {E : Ev} {σ : St} {i1 : Int32} {z : Int32} (h : fM_worthOf σ i1 = some z) : Ct mM_worthOf E [.ref 44, .int i1] σ (some (.int z), σ) := Ct.of (by decide) (Nat.le_of_ble_eq_true rfl) (wM_worthOf σ i1 h)
theorem dM_personOf_0 : decode mM_personOf.1 0 = .ok (.aload_n 0, 1) := by decide +kernel
theorem dM_personOf_1 : decode mM_personOf.1 1 = .ok (.iload_n 1, 1) := by decide +kernel
theorem dM_personOf_2 : decode mM_personOf.1 2 = .ok (.invokevirtual 203, 3) := by decide +kernel
theorem dM_personOf_5 : decode mM_personOf.1 5 = .ok (.ifCond .eq 12, 3) := by decide +kernel
theorem dM_personOf_8 : decode mM_personOf.1 8 = .ok (.iload_n 2, 1) := by decide +kernel
theorem dM_personOf_9 : decode mM_personOf.1 9 = .ok (.iconst 0, 1) := by decide +kernel
theorem dM_personOf_10 : decode mM_personOf.1 10 = .ok (.iconst 4, 1) := by decide +kernel
theorem dM_personOf_11 : decode mM_personOf.1 11 = .ok (.invokestatic 84, 3) := by decide +kernel
theorem dM_personOf_14 : decode mM_personOf.1 14 = .ok (.ifCond .ne 5, 3) := by decide +kernel
theorem dM_personOf_17 : decode mM_personOf.1 17 = .ok (.iconst (-1), 1) := by decide +kernel
theorem dM_personOf_18 : decode mM_personOf.1 18 = .ok (.ireturn, 1) := by decide +kernel
theorem dM_personOf_19 : decode mM_personOf.1 19 = .ok (.iload_n 2, 1) := by decide +kernel
theorem dM_personOf_20 : decode mM_personOf.1 20 = .ok (.tableswitch 69 0 3 #[32, 39, 46, 63], 32) := by decide +kernel
theorem dM_personOf_52 : decode mM_personOf.1 52 = .ok (.aload_n 0, 1) := by decide +kernel
theorem dM_personOf_53 : decode mM_personOf.1 53 = .ok (.getfield 7, 3) := by decide +kernel
theorem dM_personOf_56 : decode mM_personOf.1 56 = .ok (.iload_n 1, 1) := by decide +kernel
theorem dM_personOf_57 : decode mM_personOf.1 57 = .ok (.iaload, 1) := by decide +kernel
theorem dM_personOf_58 : decode mM_personOf.1 58 = .ok (.ireturn, 1) := by decide +kernel
theorem dM_personOf_59 : decode mM_personOf.1 59 = .ok (.aload_n 0, 1) := by decide +kernel
theorem dM_personOf_60 : decode mM_personOf.1 60 = .ok (.getfield 13, 3) := by decide +kernel
theorem dM_personOf_63 : decode mM_personOf.1 63 = .ok (.iload_n 1, 1) := by decide +kernel
theorem dM_personOf_64 : decode mM_personOf.1 64 = .ok (.iaload, 1) := by decide +kernel
theorem dM_personOf_65 : decode mM_personOf.1 65 = .ok (.ireturn, 1) := by decide +kernel
theorem dM_personOf_66 : decode mM_personOf.1 66 = .ok (.aload_n 0, 1) := by decide +kernel
theorem dM_personOf_67 : decode mM_personOf.1 67 = .ok (.getfield 13, 3) := by decide +kernel
theorem dM_personOf_70 : decode mM_personOf.1 70 = .ok (.iload_n 1, 1) := by decide +kernel
theorem dM_personOf_71 : decode mM_personOf.1 71 = .ok (.iaload, 1) := by decide +kernel
theorem dM_personOf_72 : decode mM_personOf.1 72 = .ok (.aload_n 0, 1) := by decide +kernel
theorem dM_personOf_73 : decode mM_personOf.1 73 = .ok (.aload_n 0, 1) := by decide +kernel
theorem dM_personOf_74 : decode mM_personOf.1 74 = .ok (.iload_n 1, 1) := by decide +kernel
theorem dM_personOf_75 : decode mM_personOf.1 75 = .ok (.invokevirtual 206, 3) := by decide +kernel
theorem dM_personOf_78 : decode mM_personOf.1 78 = .ok (.invokevirtual 209, 3) := by decide +kernel
theorem dM_personOf_81 : decode mM_personOf.1 81 = .ok (.iadd, 1) := by decide +kernel
theorem dM_personOf_82 : decode mM_personOf.1 82 = .ok (.ireturn, 1) := by decide +kernel
theorem dM_personOf_83 : decode mM_personOf.1 83 = .ok (.aload_n 0, 1) := by decide +kernel
theorem dM_personOf_84 : decode mM_personOf.1 84 = .ok (.iload_n 1, 1) := by decide +kernel
theorem dM_personOf_85 : decode mM_personOf.1 85 = .ok (.invokevirtual 206, 3) := by decide +kernel
theorem dM_personOf_88 : decode mM_personOf.1 88 = .ok (.ireturn, 1) := by decide +kernel
theorem dM_personOf_89 : decode mM_personOf.1 89 = .ok (.aload_n 0, 1) := by decide +kernel
theorem dM_personOf_90 : decode mM_personOf.1 90 = .ok (.getfield 16, 3) := by decide +kernel
theorem dM_personOf_93 : decode mM_personOf.1 93 = .ok (.iload_n 1, 1) := by decide +kernel
theorem dM_personOf_94 : decode mM_personOf.1 94 = .ok (.iaload, 1) := by decide +kernel
theorem dM_personOf_95 : decode mM_personOf.1 95 = .ok (.ireturn, 1) := by decide +kernel
set_option maxRecDepth 4000 in
theorem wM_personOf {E : Ev} {z : Int32} (σ : St) (i1 : Int32) (i2 : Int32) (hX : fM_personOf σ i1 i2 = some z) : V E mM_personOf (FM E (some (.int z), σ)) 0 [(0, .ref 44), (1, .int i1), (2, .int i2)] [] σ := by
  unfold fM_personOf at hX
  refine V.aloadn 0 dM_personOf_0 rfl rfl ?_
  refine V.iloadn 1 dM_personOf_1 rfl rfl ?_
  refine V.callvi 44 [.int i1] dM_personOf_2 (kM_isPerson (σ := σ) i1) mlM_203 myM_isPerson mnM_isPerson ⟨rfl, rfl, by decide, by decide⟩ (rfl : kd 44 = (6, 0)) (by decide) rfl (Nat.le_of_ble_eq_true rfl) ⟨Nat.zero_le _, Nat.zero_le _⟩ rfl ?_
  refine V.ifeq 17 dM_personOf_5 rfl rfl (fun g1 => ?_) (fun g1 => ?_)
  · replace hX := ip hX g1
    refine V.iconst (-1 : Int32) dM_personOf_17 lcm1 rfl ?_
    have hX := (Option.some.inj hX).symm; subst hX; exact V.iret dM_personOf_18 rfl rfl
  · replace hX := im hX g1
    refine V.iloadn 2 dM_personOf_8 rfl rfl ?_
    refine V.iconst (0 : Int32) dM_personOf_9 lc0 rfl ?_
    refine V.iconst (4 : Int32) dM_personOf_10 lc4 rfl ?_
    refine V.callsi [.int i2, .int (0 : Int32), .int (4 : Int32)] dM_personOf_11 (kM_in (σ := σ) i2 (0 : Int32) (4 : Int32)) mlM_84 myM_in mnM_in ⟨rfl, rfl, by decide, by decide⟩ rfl (Nat.le_of_ble_eq_true rfl) ⟨Nat.zero_le _, Nat.zero_le _⟩ rfl ?_
    refine V.ifne 19 dM_personOf_14 rfl rfl (fun g2 => ?_) (fun g2 => ?_)
    · replace hX := im hX g2
      refine V.iloadn 2 dM_personOf_19 rfl rfl ?_
      by_cases g3 : i2 = (0 : Int32)
      · replace hX := ip hX g3
        refine V.tabIn (off := 32) 52 dM_personOf_20 (by rw [g3]; decide) (by rw [g3]; decide) (by rw [g3]; rfl) rfl ?_
        refine V.aloadn 0 dM_personOf_52 rfl rfl ?_
        refine V.getr 44 45 dM_personOf_53 flM_7 (rfl : kd 44 = (6, 0)) rfl rfl ?_
        refine V.iloadn 1 dM_personOf_56 rfl rfl ?_
        obtain ⟨h4, hX⟩ := ob hX
        refine V.iald 45 dM_personOf_57 (rfl : kd 45 = (7, 7)) h4 rfl ?_
        have hX := (Option.some.inj hX).symm; subst hX; exact V.iret dM_personOf_58 rfl rfl
      · replace hX := im hX g3
        by_cases g5 : i2 = (1 : Int32)
        · replace hX := ip hX g5
          refine V.tabIn (off := 39) 59 dM_personOf_20 (by rw [g5]; decide) (by rw [g5]; decide) (by rw [g5]; rfl) rfl ?_
          refine V.aloadn 0 dM_personOf_59 rfl rfl ?_
          refine V.getr 44 46 dM_personOf_60 flM_13 (rfl : kd 44 = (6, 0)) rfl rfl ?_
          refine V.iloadn 1 dM_personOf_63 rfl rfl ?_
          obtain ⟨h6, hX⟩ := ob hX
          refine V.iald 46 dM_personOf_64 (rfl : kd 46 = (7, 7)) h6 rfl ?_
          have hX := (Option.some.inj hX).symm; subst hX; exact V.iret dM_personOf_65 rfl rfl
        · replace hX := im hX g5
          by_cases g7 : i2 = (2 : Int32)
          · replace hX := ip hX g7
            refine V.tabIn (off := 46) 66 dM_personOf_20 (by rw [g7]; decide) (by rw [g7]; decide) (by rw [g7]; rfl) rfl ?_
            refine V.aloadn 0 dM_personOf_66 rfl rfl ?_
            refine V.getr 44 46 dM_personOf_67 flM_13 (rfl : kd 44 = (6, 0)) rfl rfl ?_
            refine V.iloadn 1 dM_personOf_70 rfl rfl ?_
            obtain ⟨h8, hX⟩ := ob hX
            refine V.iald 46 dM_personOf_71 (rfl : kd 46 = (7, 7)) h8 rfl ?_
            refine V.aloadn 0 dM_personOf_72 rfl rfl ?_
            refine V.aloadn 0 dM_personOf_73 rfl rfl ?_
            refine V.iloadn 1 dM_personOf_74 rfl rfl ?_
            obtain ⟨q9, c10, hX⟩ := bd hX; try dsimp only at hX
            refine V.callvi 44 [.int i1] dM_personOf_75 (kM_heldBy c10) mlM_206 myM_heldBy mnM_heldBy ⟨rfl, rfl, by decide, by decide⟩ (rfl : kd 44 = (6, 0)) (by decide) rfl (Nat.le_of_ble_eq_true rfl) ⟨Nat.zero_le _, Nat.zero_le _⟩ rfl ?_
            obtain ⟨q11, c12, hX⟩ := bd hX; try dsimp only at hX
            refine V.callvi 44 [.int q9] dM_personOf_78 (kM_worthOf c12) mlM_209 myM_worthOf mnM_worthOf ⟨rfl, rfl, by decide, by decide⟩ (rfl : kd 44 = (6, 0)) (by decide) rfl (Nat.le_of_ble_eq_true rfl) ⟨Nat.zero_le _, Nat.zero_le _⟩ rfl ?_
            refine V.iadd dM_personOf_81 rfl ?_
            have hX := (Option.some.inj hX).symm; subst hX; exact V.iret dM_personOf_82 rfl rfl
          · replace hX := im hX g7
            by_cases g13 : i2 = (3 : Int32)
            · replace hX := ip hX g13
              refine V.tabIn (off := 63) 83 dM_personOf_20 (by rw [g13]; decide) (by rw [g13]; decide) (by rw [g13]; rfl) rfl ?_
              refine V.aloadn 0 dM_personOf_83 rfl rfl ?_
              refine V.iloadn 1 dM_personOf_84 rfl rfl ?_
              obtain ⟨q14, c15, hX⟩ := bd hX; try dsimp only at hX
              refine V.callvi 44 [.int i1] dM_personOf_85 (kM_heldBy c15) mlM_206 myM_heldBy mnM_heldBy ⟨rfl, rfl, by decide, by decide⟩ (rfl : kd 44 = (6, 0)) (by decide) rfl (Nat.le_of_ble_eq_true rfl) ⟨Nat.zero_le _, Nat.zero_le _⟩ rfl ?_
              have hX := (Option.some.inj hX).symm; subst hX; exact V.iret dM_personOf_88 rfl rfl
            · replace hX := im hX g13
              refine V.tabOut 89 dM_personOf_20 (by have a0 := lv_neT g3 (a := 0) (by decide); have a1 := lv_neT g5 (a := 1) (by decide); have a2 := lv_neT g7 (a := 2) (by decide); have a3 := lv_neT g13 (a := 3) (by decide); omega) rfl ?_
              refine V.aloadn 0 dM_personOf_89 rfl rfl ?_
              refine V.getr 44 47 dM_personOf_90 flM_16 (rfl : kd 44 = (6, 0)) rfl rfl ?_
              refine V.iloadn 1 dM_personOf_93 rfl rfl ?_
              obtain ⟨h16, hX⟩ := ob hX
              refine V.iald 47 dM_personOf_94 (rfl : kd 47 = (7, 7)) h16 rfl ?_
              have hX := (Option.some.inj hX).symm; subst hX; exact V.iret dM_personOf_95 rfl rfl
    · replace hX := ip hX g2
      refine V.iconst (-1 : Int32) dM_personOf_17 lcm1 rfl ?_
      have hX := (Option.some.inj hX).symm; subst hX; exact V.iret dM_personOf_18 rfl rfl
theorem kM_personOf {E : Ev} {σ : St} {i1 : Int32} {i2 : Int32} {z : Int32} (h : fM_personOf σ i1 i2 = some z) : Ct mM_personOf E [.ref 44, .int i1, .int i2] σ (some (.int z), σ) := Ct.of (by decide) (Nat.le_of_ble_eq_true rfl) (wM_personOf σ i1 i2 h)
theorem dM_rank_0 : decode mM_rank.1 0 = .ok (.aload_n 0, 1) := by decide +kernel
theorem dM_rank_1 : decode mM_rank.1 1 = .ok (.iload_n 1, 1) := by decide +kernel
theorem dM_rank_2 : decode mM_rank.1 2 = .ok (.invokevirtual 203, 3) := by decide +kernel
theorem dM_rank_5 : decode mM_rank.1 5 = .ok (.ifCond .eq 13, 3) := by decide +kernel
theorem dM_rank_8 : decode mM_rank.1 8 = .ok (.iload_n 2, 1) := by decide +kernel
theorem dM_rank_9 : decode mM_rank.1 9 = .ok (.iconst 0, 1) := by decide +kernel
theorem dM_rank_10 : decode mM_rank.1 10 = .ok (.bipush 9, 2) := by decide +kernel
theorem dM_rank_12 : decode mM_rank.1 12 = .ok (.invokestatic 84, 3) := by decide +kernel
theorem dM_rank_15 : decode mM_rank.1 15 = .ok (.ifCond .ne 5, 3) := by decide +kernel
theorem dM_rank_18 : decode mM_rank.1 18 = .ok (.iconst (-1), 1) := by decide +kernel
theorem dM_rank_19 : decode mM_rank.1 19 = .ok (.ireturn, 1) := by decide +kernel
theorem dM_rank_20 : decode mM_rank.1 20 = .ok (.aload_n 0, 1) := by decide +kernel
theorem dM_rank_21 : decode mM_rank.1 21 = .ok (.getfield 7, 3) := by decide +kernel
theorem dM_rank_24 : decode mM_rank.1 24 = .ok (.iload_n 1, 1) := by decide +kernel
theorem dM_rank_25 : decode mM_rank.1 25 = .ok (.iaload, 1) := by decide +kernel
theorem dM_rank_26 : decode mM_rank.1 26 = .ok (.istore_n 3, 1) := by decide +kernel
theorem dM_rank_27 : decode mM_rank.1 27 = .ok (.aload_n 0, 1) := by decide +kernel
theorem dM_rank_28 : decode mM_rank.1 28 = .ok (.getfield 7, 3) := by decide +kernel
theorem dM_rank_31 : decode mM_rank.1 31 = .ok (.iload_n 1, 1) := by decide +kernel
theorem dM_rank_32 : decode mM_rank.1 32 = .ok (.iload_n 2, 1) := by decide +kernel
theorem dM_rank_33 : decode mM_rank.1 33 = .ok (.iastore, 1) := by decide +kernel
theorem dM_rank_34 : decode mM_rank.1 34 = .ok (.iload_n 3, 1) := by decide +kernel
theorem dM_rank_35 : decode mM_rank.1 35 = .ok (.ireturn, 1) := by decide +kernel
set_option maxRecDepth 4000 in
theorem wM_rank {E : Ev} {z : Int32 × St} (σ : St) (i1 : Int32) (i2 : Int32) (hX : fM_rank σ i1 i2 = some z) : V E mM_rank (FM E (some (.int z.1), z.2)) 0 [(0, .ref 44), (1, .int i1), (2, .int i2)] [] σ := by
  unfold fM_rank at hX
  refine V.aloadn 0 dM_rank_0 rfl rfl ?_
  refine V.iloadn 1 dM_rank_1 rfl rfl ?_
  refine V.callvi 44 [.int i1] dM_rank_2 (kM_isPerson (σ := σ) i1) mlM_203 myM_isPerson mnM_isPerson ⟨rfl, rfl, by decide, by decide⟩ (rfl : kd 44 = (6, 0)) (by decide) rfl (Nat.le_of_ble_eq_true rfl) ⟨Nat.zero_le _, Nat.zero_le _⟩ rfl ?_
  refine V.ifeq 18 dM_rank_5 rfl rfl (fun g1 => ?_) (fun g1 => ?_)
  · replace hX := ip hX g1
    refine V.iconst (-1 : Int32) dM_rank_18 lcm1 rfl ?_
    have hX := (Option.some.inj hX).symm; subst hX; exact V.iret dM_rank_19 rfl rfl
  · replace hX := im hX g1
    refine V.iloadn 2 dM_rank_8 rfl rfl ?_
    refine V.iconst (0 : Int32) dM_rank_9 lc0 rfl ?_
    refine V.bipush (9 : Int32) dM_rank_10 lb9 rfl ?_
    refine V.callsi [.int i2, .int (0 : Int32), .int (9 : Int32)] dM_rank_12 (kM_in (σ := σ) i2 (0 : Int32) (9 : Int32)) mlM_84 myM_in mnM_in ⟨rfl, rfl, by decide, by decide⟩ rfl (Nat.le_of_ble_eq_true rfl) ⟨Nat.zero_le _, Nat.zero_le _⟩ rfl ?_
    refine V.ifne 20 dM_rank_15 rfl rfl (fun g2 => ?_) (fun g2 => ?_)
    · replace hX := im hX g2
      refine V.aloadn 0 dM_rank_20 rfl rfl ?_
      refine V.getr 44 45 dM_rank_21 flM_7 (rfl : kd 44 = (6, 0)) rfl rfl ?_
      refine V.iloadn 1 dM_rank_24 rfl rfl ?_
      obtain ⟨h3, hX⟩ := ob hX
      refine V.iald 45 dM_rank_25 (rfl : kd 45 = (7, 7)) h3 rfl ?_
      refine V.istoren _ dM_rank_26 (by decide) rfl rfl ?_
      replace hX := nmx hX; generalize gI σ 45 (ix i1) = v4 at hX ⊢; try dsimp only at hX
      refine V.aloadn 1 dM_rank_27 rfl rfl ?_
      refine V.getr 44 45 dM_rank_28 flM_7 (rfl : kd 44 = (6, 0)) rfl rfl ?_
      refine V.iloadn 2 dM_rank_31 rfl rfl ?_
      refine V.iloadn 3 dM_rank_32 rfl rfl ?_
      obtain ⟨h5, hX⟩ := ob hX
      refine V.iast 45 dM_rank_33 (rfl : kd 45 = (7, 7)) h5 rfl ?_
      replace hX := nmx hX; generalize sI σ 45 (ix i1) i2 = σ6 at hX ⊢; try dsimp only at hX
      refine V.iloadn 0 dM_rank_34 rfl rfl ?_
      have hX := (Option.some.inj hX).symm; subst hX; exact V.iret dM_rank_35 rfl rfl
    · replace hX := ip hX g2
      refine V.iconst (-1 : Int32) dM_rank_18 lcm1 rfl ?_
      have hX := (Option.some.inj hX).symm; subst hX; exact V.iret dM_rank_19 rfl rfl
theorem kM_rank {E : Ev} {σ σ2 : St} {i1 : Int32} {i2 : Int32} {z : Int32} (h : fM_rank σ i1 i2 = some (z, σ2)) : Ct mM_rank E [.ref 44, .int i1, .int i2] σ (some (.int z), σ2) := Ct.of (by decide) (Nat.le_of_ble_eq_true rfl) (wM_rank σ i1 i2 h)
theorem dM_swapsKnow_0 : decode mM_swapsKnow.1 0 = .ok (.aload_n 0, 1) := by decide +kernel
theorem dM_swapsKnow_1 : decode mM_swapsKnow.1 1 = .ok (.getfield 16, 3) := by decide +kernel
theorem dM_swapsKnow_4 : decode mM_swapsKnow.1 4 = .ok (.iload_n 1, 1) := by decide +kernel
theorem dM_swapsKnow_5 : decode mM_swapsKnow.1 5 = .ok (.dup2, 1) := by decide +kernel
theorem dM_swapsKnow_6 : decode mM_swapsKnow.1 6 = .ok (.iaload, 1) := by decide +kernel
theorem dM_swapsKnow_7 : decode mM_swapsKnow.1 7 = .ok (.iconst 1, 1) := by decide +kernel
theorem dM_swapsKnow_8 : decode mM_swapsKnow.1 8 = .ok (.iload_n 2, 1) := by decide +kernel
theorem dM_swapsKnow_9 : decode mM_swapsKnow.1 9 = .ok (.ishl, 1) := by decide +kernel
theorem dM_swapsKnow_10 : decode mM_swapsKnow.1 10 = .ok (.ixor, 1) := by decide +kernel
theorem dM_swapsKnow_11 : decode mM_swapsKnow.1 11 = .ok (.iastore, 1) := by decide +kernel
theorem dM_swapsKnow_12 : decode mM_swapsKnow.1 12 = .ok (.aload_n 0, 1) := by decide +kernel
theorem dM_swapsKnow_13 : decode mM_swapsKnow.1 13 = .ok (.getfield 16, 3) := by decide +kernel
theorem dM_swapsKnow_16 : decode mM_swapsKnow.1 16 = .ok (.iload_n 2, 1) := by decide +kernel
theorem dM_swapsKnow_17 : decode mM_swapsKnow.1 17 = .ok (.dup2, 1) := by decide +kernel
theorem dM_swapsKnow_18 : decode mM_swapsKnow.1 18 = .ok (.iaload, 1) := by decide +kernel
theorem dM_swapsKnow_19 : decode mM_swapsKnow.1 19 = .ok (.iconst 1, 1) := by decide +kernel
theorem dM_swapsKnow_20 : decode mM_swapsKnow.1 20 = .ok (.iload_n 1, 1) := by decide +kernel
theorem dM_swapsKnow_21 : decode mM_swapsKnow.1 21 = .ok (.ishl, 1) := by decide +kernel
theorem dM_swapsKnow_22 : decode mM_swapsKnow.1 22 = .ok (.ixor, 1) := by decide +kernel
theorem dM_swapsKnow_23 : decode mM_swapsKnow.1 23 = .ok (.iastore, 1) := by decide +kernel
theorem dM_swapsKnow_24 : decode mM_swapsKnow.1 24 = .ok (.return_, 1) := by decide +kernel
set_option maxRecDepth 4000 in
theorem wM_swapsKnow {E : Ev} {z : St} (σ : St) (i1 : Int32) (i2 : Int32) (hX : fM_swapsKnow σ i1 i2 = some z) : V E mM_swapsKnow (FM E (none, z)) 0 [(0, .ref 44), (1, .int i1), (2, .int i2)] [] σ := by
  unfold fM_swapsKnow at hX
  refine V.aloadn 0 dM_swapsKnow_0 rfl rfl ?_
  refine V.getr 44 47 dM_swapsKnow_1 flM_16 (rfl : kd 44 = (6, 0)) rfl rfl ?_
  refine V.iloadn 1 dM_swapsKnow_4 rfl rfl ?_
  refine V.dup2 dM_swapsKnow_5 rfl rfl rfl ?_
  obtain ⟨h1, hX⟩ := ob hX
  refine V.iald 47 dM_swapsKnow_6 (rfl : kd 47 = (7, 7)) h1 rfl ?_
  refine V.iconst (1 : Int32) dM_swapsKnow_7 lc1 rfl ?_
  refine V.iloadn 2 dM_swapsKnow_8 rfl rfl ?_
  refine V.ishl dM_swapsKnow_9 rfl ?_
  refine V.ixor dM_swapsKnow_10 rfl ?_
  obtain ⟨h2, hX⟩ := ob hX
  refine V.iast 47 dM_swapsKnow_11 (rfl : kd 47 = (7, 7)) h2 rfl ?_
  replace hX := nmx hX; generalize sI σ 47 (ix i1) ((gI σ 47 (ix i1)) ^^^ ((1 : Int32) <<< (i2 &&& 31))) = σ3 at hX ⊢; try dsimp only at hX
  refine V.aloadn 0 dM_swapsKnow_12 rfl rfl ?_
  refine V.getr 44 47 dM_swapsKnow_13 flM_16 (rfl : kd 44 = (6, 0)) rfl rfl ?_
  refine V.iloadn 2 dM_swapsKnow_16 rfl rfl ?_
  refine V.dup2 dM_swapsKnow_17 rfl rfl rfl ?_
  obtain ⟨h4, hX⟩ := ob hX
  refine V.iald 47 dM_swapsKnow_18 (rfl : kd 47 = (7, 7)) h4 rfl ?_
  refine V.iconst (1 : Int32) dM_swapsKnow_19 lc1 rfl ?_
  refine V.iloadn 1 dM_swapsKnow_20 rfl rfl ?_
  refine V.ishl dM_swapsKnow_21 rfl ?_
  refine V.ixor dM_swapsKnow_22 rfl ?_
  obtain ⟨h5, hX⟩ := ob hX
  refine V.iast 47 dM_swapsKnow_23 (rfl : kd 47 = (7, 7)) h5 rfl ?_
  replace hX := nmx hX; generalize sI σ3 47 (ix i2) ((gI σ3 47 (ix i2)) ^^^ ((1 : Int32) <<< (i1 &&& 31))) = σ6 at hX ⊢; try dsimp only at hX
  have hX := (Option.some.inj hX).symm; subst hX; exact V.vret dM_swapsKnow_24 rfl rfl
theorem kM_swapsKnow {E : Ev} {σ z : St} {i1 : Int32} {i2 : Int32} (h : fM_swapsKnow σ i1 i2 = some z) : Ct mM_swapsKnow E [.ref 44, .int i1, .int i2] σ (none, z) := Ct.of (by decide) (Nat.le_of_ble_eq_true rfl) (wM_swapsKnow σ i1 i2 h)
theorem dM_know_0 : decode mM_know.1 0 = .ok (.aload_n 0, 1) := by decide +kernel
theorem dM_know_1 : decode mM_know.1 1 = .ok (.iload_n 1, 1) := by decide +kernel
theorem dM_know_2 : decode mM_know.1 2 = .ok (.invokevirtual 203, 3) := by decide +kernel
theorem dM_know_5 : decode mM_know.1 5 = .ok (.ifCond .eq 16, 3) := by decide +kernel
theorem dM_know_8 : decode mM_know.1 8 = .ok (.aload_n 0, 1) := by decide +kernel
theorem dM_know_9 : decode mM_know.1 9 = .ok (.iload_n 2, 1) := by decide +kernel
theorem dM_know_10 : decode mM_know.1 10 = .ok (.invokevirtual 203, 3) := by decide +kernel
theorem dM_know_13 : decode mM_know.1 13 = .ok (.ifCond .eq 8, 3) := by decide +kernel
theorem dM_know_16 : decode mM_know.1 16 = .ok (.iload_n 1, 1) := by decide +kernel
theorem dM_know_17 : decode mM_know.1 17 = .ok (.iload_n 2, 1) := by decide +kernel
theorem dM_know_18 : decode mM_know.1 18 = .ok (.if_icmp .ne 5, 3) := by decide +kernel
theorem dM_know_21 : decode mM_know.1 21 = .ok (.iconst (-1), 1) := by decide +kernel
theorem dM_know_22 : decode mM_know.1 22 = .ok (.ireturn, 1) := by decide +kernel
theorem dM_know_23 : decode mM_know.1 23 = .ok (.aload_n 0, 1) := by decide +kernel
theorem dM_know_24 : decode mM_know.1 24 = .ok (.getfield 16, 3) := by decide +kernel
theorem dM_know_27 : decode mM_know.1 27 = .ok (.iload_n 1, 1) := by decide +kernel
theorem dM_know_28 : decode mM_know.1 28 = .ok (.iaload, 1) := by decide +kernel
theorem dM_know_29 : decode mM_know.1 29 = .ok (.iload_n 2, 1) := by decide +kernel
theorem dM_know_30 : decode mM_know.1 30 = .ok (.invokestatic 196, 3) := by decide +kernel
theorem dM_know_33 : decode mM_know.1 33 = .ok (.iload_n 3, 1) := by decide +kernel
theorem dM_know_34 : decode mM_know.1 34 = .ok (.if_icmp .ne 5, 3) := by decide +kernel
theorem dM_know_37 : decode mM_know.1 37 = .ok (.iconst 0, 1) := by decide +kernel
theorem dM_know_38 : decode mM_know.1 38 = .ok (.ireturn, 1) := by decide +kernel
theorem dM_know_39 : decode mM_know.1 39 = .ok (.aload_n 0, 1) := by decide +kernel
theorem dM_know_40 : decode mM_know.1 40 = .ok (.iload_n 1, 1) := by decide +kernel
theorem dM_know_41 : decode mM_know.1 41 = .ok (.iload_n 2, 1) := by decide +kernel
theorem dM_know_42 : decode mM_know.1 42 = .ok (.invokevirtual 212, 3) := by decide +kernel
theorem dM_know_45 : decode mM_know.1 45 = .ok (.iconst 1, 1) := by decide +kernel
theorem dM_know_46 : decode mM_know.1 46 = .ok (.ireturn, 1) := by decide +kernel
set_option maxRecDepth 4000 in
theorem wM_know {E : Ev} {z : Int32 × St} (σ : St) (i1 : Int32) (i2 : Int32) (i3 : Int32) (hX : fM_know σ i1 i2 i3 = some z) : V E mM_know (FM E (some (.int z.1), z.2)) 0 [(0, .ref 44), (1, .int i1), (2, .int i2), (3, .int i3)] [] σ := by
  unfold fM_know at hX
  refine V.aloadn 0 dM_know_0 rfl rfl ?_
  refine V.iloadn 1 dM_know_1 rfl rfl ?_
  refine V.callvi 44 [.int i1] dM_know_2 (kM_isPerson (σ := σ) i1) mlM_203 myM_isPerson mnM_isPerson ⟨rfl, rfl, by decide, by decide⟩ (rfl : kd 44 = (6, 0)) (by decide) rfl (Nat.le_of_ble_eq_true rfl) ⟨Nat.zero_le _, Nat.zero_le _⟩ rfl ?_
  refine V.ifeq 21 dM_know_5 rfl rfl (fun g1 => ?_) (fun g1 => ?_)
  · replace hX := ip hX g1
    refine V.iconst (-1 : Int32) dM_know_21 lcm1 rfl ?_
    have hX := (Option.some.inj hX).symm; subst hX; exact V.iret dM_know_22 rfl rfl
  · replace hX := im hX g1
    refine V.aloadn 0 dM_know_8 rfl rfl ?_
    refine V.iloadn 2 dM_know_9 rfl rfl ?_
    refine V.callvi 44 [.int i2] dM_know_10 (kM_isPerson (σ := σ) i2) mlM_203 myM_isPerson mnM_isPerson ⟨rfl, rfl, by decide, by decide⟩ (rfl : kd 44 = (6, 0)) (by decide) rfl (Nat.le_of_ble_eq_true rfl) ⟨Nat.zero_le _, Nat.zero_le _⟩ rfl ?_
    refine V.ifeq 21 dM_know_13 rfl rfl (fun g2 => ?_) (fun g2 => ?_)
    · replace hX := ip hX g2
      refine V.iconst (-1 : Int32) dM_know_21 lcm1 rfl ?_
      have hX := (Option.some.inj hX).symm; subst hX; exact V.iret dM_know_22 rfl rfl
    · replace hX := im hX g2
      refine V.iloadn 1 dM_know_16 rfl rfl ?_
      refine V.iloadn 2 dM_know_17 rfl rfl ?_
      refine V.icmpne 23 dM_know_18 rfl rfl (fun g3 => ?_) (fun g3 => ?_)
      · replace hX := im hX g3
        refine V.aloadn 0 dM_know_23 rfl rfl ?_
        refine V.getr 44 47 dM_know_24 flM_16 (rfl : kd 44 = (6, 0)) rfl rfl ?_
        refine V.iloadn 1 dM_know_27 rfl rfl ?_
        obtain ⟨h4, hX⟩ := ob hX
        refine V.iald 47 dM_know_28 (rfl : kd 47 = (7, 7)) h4 rfl ?_
        refine V.iloadn 2 dM_know_29 rfl rfl ?_
        refine V.callsi [.int (gI σ 47 (ix i1)), .int i2] dM_know_30 (kM_has (σ := σ) (gI σ 47 (ix i1)) i2) mlM_196 myM_has mnM_has ⟨rfl, rfl, by decide, by decide⟩ rfl (Nat.le_of_ble_eq_true rfl) ⟨Nat.zero_le _, Nat.zero_le _⟩ rfl ?_
        refine V.iloadn 3 dM_know_33 rfl rfl ?_
        refine V.icmpne 39 dM_know_34 rfl rfl (fun g5 => ?_) (fun g5 => ?_)
        · replace hX := im hX g5
          refine V.aloadn 0 dM_know_39 rfl rfl ?_
          refine V.iloadn 1 dM_know_40 rfl rfl ?_
          refine V.iloadn 2 dM_know_41 rfl rfl ?_
          obtain ⟨σ7, c6, hX⟩ := bd hX; try dsimp only at hX
          refine V.callv0 44 [.int i1, .int i2] dM_know_42 (kM_swapsKnow c6) mlM_212 myM_swapsKnow mnM_swapsKnow ⟨rfl, rfl, by decide, by decide⟩ (rfl : kd 44 = (6, 0)) (by decide) rfl (Nat.le_of_ble_eq_true rfl) ⟨Nat.zero_le _, Nat.zero_le _⟩ rfl ?_
          refine V.iconst (1 : Int32) dM_know_45 lc1 rfl ?_
          have hX := (Option.some.inj hX).symm; subst hX; exact V.iret dM_know_46 rfl rfl
        · replace hX := ip hX g5
          refine V.iconst (0 : Int32) dM_know_37 lc0 rfl ?_
          have hX := (Option.some.inj hX).symm; subst hX; exact V.iret dM_know_38 rfl rfl
      · replace hX := ip hX g3
        refine V.iconst (-1 : Int32) dM_know_21 lcm1 rfl ?_
        have hX := (Option.some.inj hX).symm; subst hX; exact V.iret dM_know_22 rfl rfl
theorem kM_know {E : Ev} {σ σ2 : St} {i1 : Int32} {i2 : Int32} {i3 : Int32} {z : Int32} (h : fM_know σ i1 i2 i3 = some (z, σ2)) : Ct mM_know E [.ref 44, .int i1, .int i2, .int i3] σ (some (.int z), σ2) := Ct.of (by decide) (Nat.le_of_ble_eq_true rfl) (wM_know σ i1 i2 i3 h)
