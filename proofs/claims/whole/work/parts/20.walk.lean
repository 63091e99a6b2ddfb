theorem dE_feed_0 : decode mE_feed.1 0 = .ok (.iload_n 3, 1) := by decide +kernel
theorem dE_feed_1 : decode mE_feed.1 1 = .ok (.iconst 1, 1) := by decide +kernel
theorem dE_feed_2 : decode mE_feed.1 2 = .ok (.if_icmp .lt 9, 3) := by decide +kernel
theorem dE_feed_5 : decode mE_feed.1 5 = .ok (.iload_n 3, 1) := by decide +kernel
theorem dE_feed_6 : decode mE_feed.1 6 = .ok (.bipush 8, 2) := by decide +kernel
theorem dE_feed_8 : decode mE_feed.1 8 = .ok (.if_icmp .le 5, 3) := by decide +kernel
theorem dE_feed_11 : decode mE_feed.1 11 = .ok (.iconst (-1), 1) := by decide +kernel
theorem dE_feed_12 : decode mE_feed.1 12 = .ok (.ireturn, 1) := by decide +kernel
theorem dE_feed_13 : decode mE_feed.1 13 = .ok (.aload_n 0, 1) := by decide +kernel
theorem dE_feed_14 : decode mE_feed.1 14 = .ok (.getfield 29, 3) := by decide +kernel
theorem dE_feed_17 : decode mE_feed.1 17 = .ok (.getfield 62, 3) := by decide +kernel
theorem dE_feed_20 : decode mE_feed.1 20 = .ok (.iload_n 3, 1) := by decide +kernel
theorem dE_feed_21 : decode mE_feed.1 21 = .ok (.iadd, 1) := by decide +kernel
theorem dE_feed_22 : decode mE_feed.1 22 = .ok (.sipush 200, 3) := by decide +kernel
theorem dE_feed_25 : decode mE_feed.1 25 = .ok (.if_icmp .le 6, 3) := by decide +kernel
theorem dE_feed_28 : decode mE_feed.1 28 = .ok (.bipush (-2), 2) := by decide +kernel
theorem dE_feed_30 : decode mE_feed.1 30 = .ok (.ireturn, 1) := by decide +kernel
theorem dE_feed_31 : decode mE_feed.1 31 = .ok (.iconst 0, 1) := by decide +kernel
theorem dE_feed_32 : decode mE_feed.1 32 = .ok (.istore 4, 2) := by decide +kernel
theorem dE_feed_34 : decode mE_feed.1 34 = .ok (.iload 4, 2) := by decide +kernel
theorem dE_feed_36 : decode mE_feed.1 36 = .ok (.iload_n 3, 1) := by decide +kernel
theorem dE_feed_37 : decode mE_feed.1 37 = .ok (.if_icmp .ge 49, 3) := by decide +kernel
theorem dE_feed_40 : decode mE_feed.1 40 = .ok (.aload_n 0, 1) := by decide +kernel
theorem dE_feed_41 : decode mE_feed.1 41 = .ok (.getfield 29, 3) := by decide +kernel
theorem dE_feed_44 : decode mE_feed.1 44 = .ok (.getfield 65, 3) := by decide +kernel
theorem dE_feed_47 : decode mE_feed.1 47 = .ok (.aload_n 0, 1) := by decide +kernel
theorem dE_feed_48 : decode mE_feed.1 48 = .ok (.getfield 29, 3) := by decide +kernel
theorem dE_feed_51 : decode mE_feed.1 51 = .ok (.getfield 62, 3) := by decide +kernel
theorem dE_feed_54 : decode mE_feed.1 54 = .ok (.lload_n 1, 1) := by decide +kernel
theorem dE_feed_55 : decode mE_feed.1 55 = .ok (.bipush 8, 2) := by decide +kernel
theorem dE_feed_57 : decode mE_feed.1 57 = .ok (.iload 4, 2) := by decide +kernel
theorem dE_feed_59 : decode mE_feed.1 59 = .ok (.imul, 1) := by decide +kernel
theorem dE_feed_60 : decode mE_feed.1 60 = .ok (.lushr, 1) := by decide +kernel
theorem dE_feed_61 : decode mE_feed.1 61 = .ok (.l2i, 1) := by decide +kernel
theorem dE_feed_62 : decode mE_feed.1 62 = .ok (.sipush 255, 3) := by decide +kernel
theorem dE_feed_65 : decode mE_feed.1 65 = .ok (.iand, 1) := by decide +kernel
theorem dE_feed_66 : decode mE_feed.1 66 = .ok (.iastore, 1) := by decide +kernel
theorem dE_feed_67 : decode mE_feed.1 67 = .ok (.aload_n 0, 1) := by decide +kernel
theorem dE_feed_68 : decode mE_feed.1 68 = .ok (.getfield 29, 3) := by decide +kernel
theorem dE_feed_71 : decode mE_feed.1 71 = .ok (.dup, 1) := by decide +kernel
theorem dE_feed_72 : decode mE_feed.1 72 = .ok (.getfield 62, 3) := by decide +kernel
theorem dE_feed_75 : decode mE_feed.1 75 = .ok (.iconst 1, 1) := by decide +kernel
theorem dE_feed_76 : decode mE_feed.1 76 = .ok (.iadd, 1) := by decide +kernel
theorem dE_feed_77 : decode mE_feed.1 77 = .ok (.putfield 62, 3) := by decide +kernel
theorem dE_feed_80 : decode mE_feed.1 80 = .ok (.iinc 4 1, 3) := by decide +kernel
theorem dE_feed_83 : decode mE_feed.1 83 = .ok (.goto (-49), 3) := by decide +kernel
theorem dE_feed_86 : decode mE_feed.1 86 = .ok (.aload_n 0, 1) := by decide +kernel
theorem dE_feed_87 : decode mE_feed.1 87 = .ok (.getfield 29, 3) := by decide +kernel
theorem dE_feed_90 : decode mE_feed.1 90 = .ok (.getfield 62, 3) := by decide +kernel
theorem dE_feed_93 : decode mE_feed.1 93 = .ok (.ireturn, 1) := by decide +kernel
set_option maxRecDepth 4000 in
theorem wE_feed_34 {E : Ev} {z : Int32 × St} : ∀ (fu : Nat) (σ : St) (l1 : Int64) (i3 : Int32) (i4 : Int32), fE_feed_34 fu σ l1 i3 i4 = some z → V E mE_feed (FM E (some (.int z.1), z.2)) 34 [(0, .ref 0), (1, .long l1), (3, .int i3), (4, .int i4)] [] σ := by
  intro fu
  induction fu with
  | zero => intro σ l1 i3 i4 hX; cases hX
  | succ fu ih =>
    intro σ l1 i3 i4 hX
    rw [fE_feed_34] at hX
    refine V.iload 3 dE_feed_34 rfl rfl ?_
    refine V.iloadn 2 dE_feed_36 rfl rfl ?_
    refine V.icmpge 86 dE_feed_37 rfl rfl (fun g4 => ?_) (fun g4 => ?_)
    · replace hX := ip hX g4
      refine V.aloadn 0 dE_feed_86 rfl rfl ?_
      refine V.getr 0 25 dE_feed_87 flE_29 (rfl : kd 0 = (5, 0)) rfl rfl ?_
      refine V.geti 25 dE_feed_90 flE_62 (rfl : kd 25 = (3, 0)) rfl ?_
      have hX := (Option.some.inj hX).symm; subst hX; exact V.iret dE_feed_93 rfl rfl
    · replace hX := im hX g4
      refine V.aloadn 0 dE_feed_40 rfl rfl ?_
      refine V.getr 0 25 dE_feed_41 flE_29 (rfl : kd 0 = (5, 0)) rfl rfl ?_
      refine V.getr 25 26 dE_feed_44 flE_65 (rfl : kd 25 = (3, 0)) rfl rfl ?_
      refine V.aloadn 0 dE_feed_47 rfl rfl ?_
      refine V.getr 0 25 dE_feed_48 flE_29 (rfl : kd 0 = (5, 0)) rfl rfl ?_
      refine V.geti 25 dE_feed_51 flE_62 (rfl : kd 25 = (3, 0)) rfl ?_
      refine V.lloadn 1 dE_feed_54 rfl rfl ?_
      refine V.bipush (8 : Int32) dE_feed_55 lb8 rfl ?_
      refine V.iload 3 dE_feed_57 rfl rfl ?_
      refine V.imul dE_feed_59 rfl ?_
      refine V.lushr dE_feed_60 rfl ?_
      refine V.l2i dE_feed_61 rfl ?_
      refine V.sipush (255 : Int32) dE_feed_62 ls255 rfl ?_
      refine V.iand dE_feed_65 rfl ?_
      obtain ⟨h5, hX⟩ := ob hX
      refine V.iast 26 dE_feed_66 (rfl : kd 26 = (7, 200)) h5 rfl ?_
      replace hX := nmx hX; generalize sI σ 26 (ix (gI σ 25 1)) (((ushL l1 ((8 : Int32) * i4)).toInt32) &&& (255 : Int32)) = σ6 at hX ⊢; try dsimp only at hX
      refine V.aloadn 0 dE_feed_67 rfl rfl ?_
      refine V.getr 0 25 dE_feed_68 flE_29 (rfl : kd 0 = (5, 0)) rfl rfl ?_
      refine V.dup dE_feed_71 rfl rfl ?_
      refine V.geti 25 dE_feed_72 flE_62 (rfl : kd 25 = (3, 0)) rfl ?_
      refine V.iconst (1 : Int32) dE_feed_75 lc1 rfl ?_
      refine V.iadd dE_feed_76 rfl ?_
      refine V.puti 25 .int dE_feed_77 flE_62 fw3_1 (rfl : kd 25 = (3, 0)) ⟨rfl, rfl⟩ rfl ?_
      replace hX := nmx hX; generalize sI σ6 25 1 ((gI σ6 25 1) + (1 : Int32)) = σ7 at hX ⊢; try dsimp only at hX
      refine V.iinc 3 (1 : Int32) _ dE_feed_80 rfl lc1 (by decide) rfl rfl ?_
      replace hX := nmx hX; generalize i4 + (1 : Int32) = v8 at hX ⊢; try dsimp only at hX
      refine V.goto 34 dE_feed_83 rfl ?_
      refine V.sub [1, 2, 3, 0] rfl ?_
      exact ih σ7 l1 i3 v8 hX
set_option maxRecDepth 4000 in
theorem wE_feed {E : Ev} {z : Int32 × St} (σ : St) (l1 : Int64) (i3 : Int32) (hX : fE_feed σ l1 i3 = some z) : V E mE_feed (FM E (some (.int z.1), z.2)) 0 [(0, .ref 0), (1, .long l1), (3, .int i3)] [] σ := by
  unfold fE_feed at hX
  refine V.iloadn 2 dE_feed_0 rfl rfl ?_
  refine V.iconst (1 : Int32) dE_feed_1 lc1 rfl ?_
  refine V.icmplt 11 dE_feed_2 rfl rfl (fun g1 => ?_) (fun g1 => ?_)
  · replace hX := ip hX g1
    refine V.iconst (-1 : Int32) dE_feed_11 lcm1 rfl ?_
    have hX := (Option.some.inj hX).symm; subst hX; exact V.iret dE_feed_12 rfl rfl
  · replace hX := im hX g1
    refine V.iloadn 2 dE_feed_5 rfl rfl ?_
    refine V.bipush (8 : Int32) dE_feed_6 lb8 rfl ?_
    refine V.icmple 13 dE_feed_8 rfl rfl (fun g2 => ?_) (fun g2 => ?_)
    · replace hX := ip hX g2
      refine V.aloadn 0 dE_feed_13 rfl rfl ?_
      refine V.getr 0 25 dE_feed_14 flE_29 (rfl : kd 0 = (5, 0)) rfl rfl ?_
      refine V.geti 25 dE_feed_17 flE_62 (rfl : kd 25 = (3, 0)) rfl ?_
      refine V.iloadn 2 dE_feed_20 rfl rfl ?_
      refine V.iadd dE_feed_21 rfl ?_
      refine V.sipush (200 : Int32) dE_feed_22 ls200 rfl ?_
      refine V.icmple 31 dE_feed_25 rfl rfl (fun g3 => ?_) (fun g3 => ?_)
      · replace hX := ip hX g3
        refine V.iconst (0 : Int32) dE_feed_31 lc0 rfl ?_
        refine V.istore _ dE_feed_32 (by decide) rfl rfl ?_
        refine V.sub [1, 2, 3, 0] rfl ?_
        exact wE_feed_34 300 σ l1 i3 (0 : Int32) hX
      · replace hX := im hX g3
        refine V.bipush (-2 : Int32) dE_feed_28 lbm2 rfl ?_
        have hX := (Option.some.inj hX).symm; subst hX; exact V.iret dE_feed_30 rfl rfl
    · replace hX := im hX g2
      refine V.iconst (-1 : Int32) dE_feed_11 lcm1 rfl ?_
      have hX := (Option.some.inj hX).symm; subst hX; exact V.iret dE_feed_12 rfl rfl
theorem kE_feed {E : Ev} {σ σ2 : St} {l1 : Int64} {i3 : Int32} {z : Int32} (h : fE_feed σ l1 i3 = some (z, σ2)) : Ct mE_feed E [.ref 0, .long l1, .int i3] σ (some (.int z), σ2) := Ct.of (by decide) (Nat.le_of_ble_eq_true rfl) (wE_feed σ l1 i3 h)
theorem dT_empty_0 : decode mT_empty.1 0 = .ok (.aload_n 0, 1) := by decide +kernel
theorem dT_empty_1 : decode mT_empty.1 1 = .ok (.iconst 0, 1) := by decide +kernel
theorem dT_empty_2 : decode mT_empty.1 2 = .ok (.putfield 9, 3) := by decide +kernel
theorem dT_empty_5 : decode mT_empty.1 5 = .ok (.aload_n 0, 1) := by decide +kernel
theorem dT_empty_6 : decode mT_empty.1 6 = .ok (.iconst 0, 1) := by decide +kernel
theorem dT_empty_7 : decode mT_empty.1 7 = .ok (.putfield 15, 3) := by decide +kernel
theorem dT_empty_10 : decode mT_empty.1 10 = .ok (.return_, 1) := by decide +kernel
set_option maxRecDepth 4000 in
theorem wT_empty {E : Ev} {z : St} (σ : St) (r0 : Nat) (ht_r0 : isTb r0 = true) (hX : fT_empty σ r0 = some z) : V E mT_empty (FM E (none, z)) 0 [(0, .ref r0)] [] σ := by
  unfold fT_empty at hX
  refine V.aloadn 0 dT_empty_0 rfl rfl ?_
  refine V.iconst (0 : Int32) dT_empty_1 lc0 rfl ?_
  refine V.puti r0 .int dT_empty_2 flT_9 fw2_0 (tk0 ht_r0) ⟨rfl, rfl⟩ rfl ?_
  replace hX := nmx hX; generalize sI σ r0 0 (0 : Int32) = σ1 at hX ⊢; try dsimp only at hX
  refine V.aloadn 0 dT_empty_5 rfl rfl ?_
  refine V.iconst (0 : Int32) dT_empty_6 lc0 rfl ?_
  refine V.puti r0 .int dT_empty_7 flT_15 fw2_1 (tk0 ht_r0) ⟨rfl, rfl⟩ rfl ?_
  replace hX := nmx hX; generalize sI σ1 r0 1 (0 : Int32) = σ2 at hX ⊢; try dsimp only at hX
  have hX := (Option.some.inj hX).symm; subst hX; exact V.vret dT_empty_10 rfl rfl
theorem kT_empty {E : Ev} {σ z : St} {r0 : Nat} (ht_r0 : isTb r0 = true) (h : fT_empty σ r0 = some z) : Ct mT_empty E [.ref r0] σ (none, z) := Ct.of (by decide) (Nat.le_of_ble_eq_true rfl) (wT_empty σ r0 ht_r0 h)
theorem dX_isLetter_0 : decode mX_isLetter.1 0 = .ok (.aload_n 0, 1) := by decide +kernel
theorem dX_isLetter_1 : decode mX_isLetter.1 1 = .ok (.getfield 9, 3) := by decide +kernel
theorem dX_isLetter_4 : decode mX_isLetter.1 4 = .ok (.iload_n 1, 1) := by decide +kernel
theorem dX_isLetter_5 : decode mX_isLetter.1 5 = .ok (.iaload, 1) := by decide +kernel
theorem dX_isLetter_6 : decode mX_isLetter.1 6 = .ok (.bipush 97, 2) := by decide +kernel
theorem dX_isLetter_8 : decode mX_isLetter.1 8 = .ok (.if_icmp .lt 18, 3) := by decide +kernel
theorem dX_isLetter_11 : decode mX_isLetter.1 11 = .ok (.aload_n 0, 1) := by decide +kernel
theorem dX_isLetter_12 : decode mX_isLetter.1 12 = .ok (.getfield 9, 3) := by decide +kernel
theorem dX_isLetter_15 : decode mX_isLetter.1 15 = .ok (.iload_n 1, 1) := by decide +kernel
theorem dX_isLetter_16 : decode mX_isLetter.1 16 = .ok (.iaload, 1) := by decide +kernel
theorem dX_isLetter_17 : decode mX_isLetter.1 17 = .ok (.bipush 122, 2) := by decide +kernel
theorem dX_isLetter_19 : decode mX_isLetter.1 19 = .ok (.if_icmp .gt 7, 3) := by decide +kernel
theorem dX_isLetter_22 : decode mX_isLetter.1 22 = .ok (.iconst 1, 1) := by decide +kernel
theorem dX_isLetter_23 : decode mX_isLetter.1 23 = .ok (.goto 4, 3) := by decide +kernel
theorem dX_isLetter_26 : decode mX_isLetter.1 26 = .ok (.iconst 0, 1) := by decide +kernel
theorem dX_isLetter_27 : decode mX_isLetter.1 27 = .ok (.ireturn, 1) := by decide +kernel
set_option maxRecDepth 4000 in
theorem wX_isLetter {E : Ev} {z : Int32} (σ : St) (i1 : Int32) (hX : fX_isLetter σ i1 = some z) : V E mX_isLetter (FM E (some (.int z), σ)) 0 [(0, .ref 25), (1, .int i1)] [] σ := by
  unfold fX_isLetter at hX
  refine V.aloadn 0 dX_isLetter_0 rfl rfl ?_
  refine V.getr 25 26 dX_isLetter_1 flX_9 (rfl : kd 25 = (3, 0)) rfl rfl ?_
  refine V.iloadn 1 dX_isLetter_4 rfl rfl ?_
  obtain ⟨h1, hX⟩ := ob hX
  refine V.iald 26 dX_isLetter_5 (rfl : kd 26 = (7, 200)) h1 rfl ?_
  refine V.bipush (97 : Int32) dX_isLetter_6 lb97 rfl ?_
  refine V.icmplt 26 dX_isLetter_8 rfl rfl (fun g2 => ?_) (fun g2 => ?_)
  · replace hX := ip hX g2
    refine V.iconst (0 : Int32) dX_isLetter_26 lc0 rfl ?_
    have hX := (Option.some.inj hX).symm; subst hX; exact V.zret .boolean dX_isLetter_27 rfl (nz b01_0).1 rfl
  · replace hX := im hX g2
    refine V.aloadn 0 dX_isLetter_11 rfl rfl ?_
    refine V.getr 25 26 dX_isLetter_12 flX_9 (rfl : kd 25 = (3, 0)) rfl rfl ?_
    refine V.iloadn 1 dX_isLetter_15 rfl rfl ?_
    obtain ⟨h3, hX⟩ := ob hX
    refine V.iald 26 dX_isLetter_16 (rfl : kd 26 = (7, 200)) h3 rfl ?_
    refine V.bipush (122 : Int32) dX_isLetter_17 lb122 rfl ?_
    have JJ : V E mX_isLetter (FM E (some (.int z), σ)) 27 [(0, .ref 25), (1, .int i1)] [.int (if (122 : Int32) < (gI σ 26 (ix i1)) then (0 : Int32) else (1 : Int32))] σ := by
      have hX := (Option.some.inj hX).symm; subst hX; exact V.zret .boolean dX_isLetter_27 rfl (nz (b01_i b01_0 b01_1)).1 rfl
    refine V.icmpgt 26 dX_isLetter_19 rfl rfl (fun g4 => ?_) (fun g4 => ?_)
    · refine V.iconst (0 : Int32) dX_isLetter_26 lc0 rfl ?_
      exact V.top (if_pos g4).symm JJ
    · refine V.iconst (1 : Int32) dX_isLetter_22 lc1 rfl ?_
      refine V.goto 27 dX_isLetter_23 rfl ?_
      exact V.top (if_neg g4).symm JJ
theorem kX_isLetter {E : Ev} {σ : St} {i1 : Int32} {z : Int32} (h : fX_isLetter σ i1 = some z) : Ct mX_isLetter E [.ref 25, .int i1] σ (some (.int z), σ) := Ct.of (by decide) (Nat.le_of_ble_eq_true rfl) (wX_isLetter σ i1 h)
theorem dX_isDigit_0 : decode mX_isDigit.1 0 = .ok (.aload_n 0, 1) := by decide +kernel
theorem dX_isDigit_1 : decode mX_isDigit.1 1 = .ok (.getfield 9, 3) := by decide +kernel
theorem dX_isDigit_4 : decode mX_isDigit.1 4 = .ok (.iload_n 1, 1) := by decide +kernel
theorem dX_isDigit_5 : decode mX_isDigit.1 5 = .ok (.iaload, 1) := by decide +kernel
theorem dX_isDigit_6 : decode mX_isDigit.1 6 = .ok (.bipush 48, 2) := by decide +kernel
theorem dX_isDigit_8 : decode mX_isDigit.1 8 = .ok (.if_icmp .lt 18, 3) := by decide +kernel
theorem dX_isDigit_11 : decode mX_isDigit.1 11 = .ok (.aload_n 0, 1) := by decide +kernel
theorem dX_isDigit_12 : decode mX_isDigit.1 12 = .ok (.getfield 9, 3) := by decide +kernel
theorem dX_isDigit_15 : decode mX_isDigit.1 15 = .ok (.iload_n 1, 1) := by decide +kernel
theorem dX_isDigit_16 : decode mX_isDigit.1 16 = .ok (.iaload, 1) := by decide +kernel
theorem dX_isDigit_17 : decode mX_isDigit.1 17 = .ok (.bipush 57, 2) := by decide +kernel
theorem dX_isDigit_19 : decode mX_isDigit.1 19 = .ok (.if_icmp .gt 7, 3) := by decide +kernel
theorem dX_isDigit_22 : decode mX_isDigit.1 22 = .ok (.iconst 1, 1) := by decide +kernel
theorem dX_isDigit_23 : decode mX_isDigit.1 23 = .ok (.goto 4, 3) := by decide +kernel
theorem dX_isDigit_26 : decode mX_isDigit.1 26 = .ok (.iconst 0, 1) := by decide +kernel
theorem dX_isDigit_27 : decode mX_isDigit.1 27 = .ok (.ireturn, 1) := by decide +kernel
set_option maxRecDepth 4000 in
theorem wX_isDigit {E : Ev} {z : Int32} (σ : St) (i1 : Int32) (hX : fX_isDigit σ i1 = some z) : V E mX_isDigit (FM E (some (.int z), σ)) 0 [(0, .ref 25), (1, .int i1)] [] σ := by
  unfold fX_isDigit at hX
  refine V.aloadn 0 dX_isDigit_0 rfl rfl ?_
  refine V.getr 25 26 dX_isDigit_1 flX_9 (rfl : kd 25 = (3, 0)) rfl rfl ?_
  refine V.iloadn 1 dX_isDigit_4 rfl rfl ?_
  obtain ⟨h1, hX⟩ := ob hX
  refine V.iald 26 dX_isDigit_5 (rfl : kd 26 = (7, 200)) h1 rfl ?_
  refine V.bipush (48 : Int32) dX_isDigit_6 lb48 rfl ?_
  refine V.icmplt 26 dX_isDigit_8 rfl rfl (fun g2 => ?_) (fun g2 => ?_)
  · replace hX := ip hX g2
    refine V.iconst (0 : Int32) dX_isDigit_26 lc0 rfl ?_
    have hX := (Option.some.inj hX).symm; subst hX; exact V.zret .boolean dX_isDigit_27 rfl (nz b01_0).1 rfl
  · replace hX := im hX g2
    refine V.aloadn 0 dX_isDigit_11 rfl rfl ?_
    refine V.getr 25 26 dX_isDigit_12 flX_9 (rfl : kd 25 = (3, 0)) rfl rfl ?_
    refine V.iloadn 1 dX_isDigit_15 rfl rfl ?_
    obtain ⟨h3, hX⟩ := ob hX
    refine V.iald 26 dX_isDigit_16 (rfl : kd 26 = (7, 200)) h3 rfl ?_
    refine V.bipush (57 : Int32) dX_isDigit_17 lb57 rfl ?_
    have JJ : V E mX_isDigit (FM E (some (.int z), σ)) 27 [(0, .ref 25), (1, .int i1)] [.int (if (57 : Int32) < (gI σ 26 (ix i1)) then (0 : Int32) else (1 : Int32))] σ := by
      have hX := (Option.some.inj hX).symm; subst hX; exact V.zret .boolean dX_isDigit_27 rfl (nz (b01_i b01_0 b01_1)).1 rfl
    refine V.icmpgt 26 dX_isDigit_19 rfl rfl (fun g4 => ?_) (fun g4 => ?_)
    · refine V.iconst (0 : Int32) dX_isDigit_26 lc0 rfl ?_
      exact V.top (if_pos g4).symm JJ
    · refine V.iconst (1 : Int32) dX_isDigit_22 lc1 rfl ?_
      refine V.goto 27 dX_isDigit_23 rfl ?_
      exact V.top (if_neg g4).symm JJ
theorem kX_isDigit {E : Ev} {σ : St} {i1 : Int32} {z : Int32} (h : fX_isDigit σ i1 = some z) : Ct mX_isDigit E [.ref 25, .int i1] σ (some (.int z), σ) := Ct.of (by decide) (Nat.le_of_ble_eq_true rfl) (wX_isDigit σ i1 h)
theorem dX_step_0 : decode mX_step.1 0 = .ok (.aload_n 0, 1) := by decide +kernel
theorem dX_step_1 : decode mX_step.1 1 = .ok (.aload_n 0, 1) := by decide +kernel
theorem dX_step_2 : decode mX_step.1 2 = .ok (.getfield 22, 3) := by decide +kernel
theorem dX_step_5 : decode mX_step.1 5 = .ok (.putfield 19, 3) := by decide +kernel
theorem dX_step_8 : decode mX_step.1 8 = .ok (.aload_n 0, 1) := by decide +kernel
theorem dX_step_9 : decode mX_step.1 9 = .ok (.getfield 19, 3) := by decide +kernel
theorem dX_step_12 : decode mX_step.1 12 = .ok (.aload_n 0, 1) := by decide +kernel
theorem dX_step_13 : decode mX_step.1 13 = .ok (.getfield 15, 3) := by decide +kernel
theorem dX_step_16 : decode mX_step.1 16 = .ok (.if_icmp .ge 30, 3) := by decide +kernel
theorem dX_step_19 : decode mX_step.1 19 = .ok (.aload_n 0, 1) := by decide +kernel
theorem dX_step_20 : decode mX_step.1 20 = .ok (.getfield 9, 3) := by decide +kernel
theorem dX_step_23 : decode mX_step.1 23 = .ok (.aload_n 0, 1) := by decide +kernel
theorem dX_step_24 : decode mX_step.1 24 = .ok (.getfield 19, 3) := by decide +kernel
theorem dX_step_27 : decode mX_step.1 27 = .ok (.iaload, 1) := by decide +kernel
theorem dX_step_28 : decode mX_step.1 28 = .ok (.bipush 32, 2) := by decide +kernel
theorem dX_step_30 : decode mX_step.1 30 = .ok (.if_icmp .ne 16, 3) := by decide +kernel
theorem dX_step_33 : decode mX_step.1 33 = .ok (.aload_n 0, 1) := by decide +kernel
theorem dX_step_34 : decode mX_step.1 34 = .ok (.dup, 1) := by decide +kernel
theorem dX_step_35 : decode mX_step.1 35 = .ok (.getfield 19, 3) := by decide +kernel
theorem dX_step_38 : decode mX_step.1 38 = .ok (.iconst 1, 1) := by decide +kernel
theorem dX_step_39 : decode mX_step.1 39 = .ok (.iadd, 1) := by decide +kernel
theorem dX_step_40 : decode mX_step.1 40 = .ok (.putfield 19, 3) := by decide +kernel
theorem dX_step_43 : decode mX_step.1 43 = .ok (.goto (-35), 3) := by decide +kernel
theorem dX_step_46 : decode mX_step.1 46 = .ok (.aload_n 0, 1) := by decide +kernel
theorem dX_step_47 : decode mX_step.1 47 = .ok (.aload_n 0, 1) := by decide +kernel
theorem dX_step_48 : decode mX_step.1 48 = .ok (.getfield 19, 3) := by decide +kernel
theorem dX_step_51 : decode mX_step.1 51 = .ok (.iconst 1, 1) := by decide +kernel
theorem dX_step_52 : decode mX_step.1 52 = .ok (.iadd, 1) := by decide +kernel
theorem dX_step_53 : decode mX_step.1 53 = .ok (.aload_n 0, 1) := by decide +kernel
theorem dX_step_54 : decode mX_step.1 54 = .ok (.getfield 15, 3) := by decide +kernel
theorem dX_step_57 : decode mX_step.1 57 = .ok (.invokestatic 123, 3) := by decide +kernel
theorem dX_step_60 : decode mX_step.1 60 = .ok (.putfield 22, 3) := by decide +kernel
theorem dX_step_63 : decode mX_step.1 63 = .ok (.aload_n 0, 1) := by decide +kernel
theorem dX_step_64 : decode mX_step.1 64 = .ok (.getfield 19, 3) := by decide +kernel
theorem dX_step_67 : decode mX_step.1 67 = .ok (.aload_n 0, 1) := by decide +kernel
theorem dX_step_68 : decode mX_step.1 68 = .ok (.getfield 15, 3) := by decide +kernel
theorem dX_step_71 : decode mX_step.1 71 = .ok (.if_icmp .ge 49, 3) := by decide +kernel
theorem dX_step_74 : decode mX_step.1 74 = .ok (.aload_n 0, 1) := by decide +kernel
theorem dX_step_75 : decode mX_step.1 75 = .ok (.aload_n 0, 1) := by decide +kernel
theorem dX_step_76 : decode mX_step.1 76 = .ok (.getfield 19, 3) := by decide +kernel
theorem dX_step_79 : decode mX_step.1 79 = .ok (.invokevirtual 128, 3) := by decide +kernel
theorem dX_step_82 : decode mX_step.1 82 = .ok (.ifCond .eq 38, 3) := by decide +kernel
theorem dX_step_85 : decode mX_step.1 85 = .ok (.aload_n 0, 1) := by decide +kernel
theorem dX_step_86 : decode mX_step.1 86 = .ok (.getfield 22, 3) := by decide +kernel
theorem dX_step_89 : decode mX_step.1 89 = .ok (.aload_n 0, 1) := by decide +kernel
theorem dX_step_90 : decode mX_step.1 90 = .ok (.getfield 15, 3) := by decide +kernel
theorem dX_step_93 : decode mX_step.1 93 = .ok (.if_icmp .ge 84, 3) := by decide +kernel
theorem dX_step_96 : decode mX_step.1 96 = .ok (.aload_n 0, 1) := by decide +kernel
theorem dX_step_97 : decode mX_step.1 97 = .ok (.aload_n 0, 1) := by decide +kernel
theorem dX_step_98 : decode mX_step.1 98 = .ok (.getfield 22, 3) := by decide +kernel
theorem dX_step_101 : decode mX_step.1 101 = .ok (.invokevirtual 128, 3) := by decide +kernel
theorem dX_step_104 : decode mX_step.1 104 = .ok (.ifCond .eq 73, 3) := by decide +kernel
theorem dX_step_107 : decode mX_step.1 107 = .ok (.aload_n 0, 1) := by decide +kernel
theorem dX_step_108 : decode mX_step.1 108 = .ok (.dup, 1) := by decide +kernel
theorem dX_step_109 : decode mX_step.1 109 = .ok (.getfield 22, 3) := by decide +kernel
theorem dX_step_112 : decode mX_step.1 112 = .ok (.iconst 1, 1) := by decide +kernel
theorem dX_step_113 : decode mX_step.1 113 = .ok (.iadd, 1) := by decide +kernel
theorem dX_step_114 : decode mX_step.1 114 = .ok (.putfield 22, 3) := by decide +kernel
theorem dX_step_117 : decode mX_step.1 117 = .ok (.goto (-32), 3) := by decide +kernel
theorem dX_step_120 : decode mX_step.1 120 = .ok (.aload_n 0, 1) := by decide +kernel
theorem dX_step_121 : decode mX_step.1 121 = .ok (.getfield 19, 3) := by decide +kernel
theorem dX_step_124 : decode mX_step.1 124 = .ok (.aload_n 0, 1) := by decide +kernel
theorem dX_step_125 : decode mX_step.1 125 = .ok (.getfield 15, 3) := by decide +kernel
theorem dX_step_128 : decode mX_step.1 128 = .ok (.if_icmp .ge 49, 3) := by decide +kernel
theorem dX_step_131 : decode mX_step.1 131 = .ok (.aload_n 0, 1) := by decide +kernel
theorem dX_step_132 : decode mX_step.1 132 = .ok (.aload_n 0, 1) := by decide +kernel
theorem dX_step_133 : decode mX_step.1 133 = .ok (.getfield 19, 3) := by decide +kernel
theorem dX_step_136 : decode mX_step.1 136 = .ok (.invokevirtual 98, 3) := by decide +kernel
theorem dX_step_139 : decode mX_step.1 139 = .ok (.ifCond .eq 38, 3) := by decide +kernel
theorem dX_step_142 : decode mX_step.1 142 = .ok (.aload_n 0, 1) := by decide +kernel
theorem dX_step_143 : decode mX_step.1 143 = .ok (.getfield 22, 3) := by decide +kernel
theorem dX_step_146 : decode mX_step.1 146 = .ok (.aload_n 0, 1) := by decide +kernel
theorem dX_step_147 : decode mX_step.1 147 = .ok (.getfield 15, 3) := by decide +kernel
theorem dX_step_150 : decode mX_step.1 150 = .ok (.if_icmp .ge 27, 3) := by decide +kernel
theorem dX_step_153 : decode mX_step.1 153 = .ok (.aload_n 0, 1) := by decide +kernel
theorem dX_step_154 : decode mX_step.1 154 = .ok (.aload_n 0, 1) := by decide +kernel
theorem dX_step_155 : decode mX_step.1 155 = .ok (.getfield 22, 3) := by decide +kernel
theorem dX_step_158 : decode mX_step.1 158 = .ok (.invokevirtual 98, 3) := by decide +kernel
theorem dX_step_161 : decode mX_step.1 161 = .ok (.ifCond .eq 16, 3) := by decide +kernel
theorem dX_step_164 : decode mX_step.1 164 = .ok (.aload_n 0, 1) := by decide +kernel
theorem dX_step_165 : decode mX_step.1 165 = .ok (.dup, 1) := by decide +kernel
theorem dX_step_166 : decode mX_step.1 166 = .ok (.getfield 22, 3) := by decide +kernel
theorem dX_step_169 : decode mX_step.1 169 = .ok (.iconst 1, 1) := by decide +kernel
theorem dX_step_170 : decode mX_step.1 170 = .ok (.iadd, 1) := by decide +kernel
theorem dX_step_171 : decode mX_step.1 171 = .ok (.putfield 22, 3) := by decide +kernel
theorem dX_step_174 : decode mX_step.1 174 = .ok (.goto (-32), 3) := by decide +kernel
theorem dX_step_177 : decode mX_step.1 177 = .ok (.return_, 1) := by decide +kernel
set_option maxRecDepth 4000 in
theorem wX_step_142 {E : Ev} {z : St} : ∀ (fu : Nat) (σ : St), fX_step_142 fu σ = some z → V E mX_step (FM E (none, z)) 142 [(0, .ref 25)] [] σ := by
  intro fu
  induction fu with
  | zero => intro σ hX; cases hX
  | succ fu ih =>
    intro σ hX
    rw [fX_step_142] at hX
    refine V.aloadn 0 dX_step_142 rfl rfl ?_
    refine V.geti 25 dX_step_143 flX_22 (rfl : kd 25 = (3, 0)) rfl ?_
    refine V.aloadn 0 dX_step_146 rfl rfl ?_
    refine V.geti 25 dX_step_147 flX_15 (rfl : kd 25 = (3, 0)) rfl ?_
    refine V.icmpge 177 dX_step_150 rfl rfl (fun g9 => ?_) (fun g9 => ?_)
    · replace hX := ip hX g9
      have hX := (Option.some.inj hX).symm; subst hX; exact V.vret dX_step_177 rfl rfl
    · replace hX := im hX g9
      refine V.aloadn 0 dX_step_153 rfl rfl ?_
      refine V.aloadn 0 dX_step_154 rfl rfl ?_
      refine V.geti 25 dX_step_155 flX_22 (rfl : kd 25 = (3, 0)) rfl ?_
      obtain ⟨q10, c11, hX⟩ := bd hX; try dsimp only at hX
      refine V.callvi 25 [.int (gI σ 25 3)] dX_step_158 (kX_isDigit c11) mlX_98 myX_isDigit mnX_isDigit ⟨rfl, rfl, by decide, by decide⟩ (rfl : kd 25 = (3, 0)) (by decide) rfl (Nat.le_of_ble_eq_true rfl) ⟨Nat.zero_le _, Nat.zero_le _⟩ rfl ?_
      refine V.ifeq 177 dX_step_161 rfl rfl (fun g12 => ?_) (fun g12 => ?_)
      · replace hX := ip hX g12
        have hX := (Option.some.inj hX).symm; subst hX; exact V.vret dX_step_177 rfl rfl
      · replace hX := im hX g12
        refine V.aloadn 0 dX_step_164 rfl rfl ?_
        refine V.dup dX_step_165 rfl rfl ?_
        refine V.geti 25 dX_step_166 flX_22 (rfl : kd 25 = (3, 0)) rfl ?_
        refine V.iconst (1 : Int32) dX_step_169 lc1 rfl ?_
        refine V.iadd dX_step_170 rfl ?_
        refine V.puti 25 .int dX_step_171 flX_22 fw3_3 (rfl : kd 25 = (3, 0)) ⟨rfl, rfl⟩ rfl ?_
        replace hX := nmx hX; generalize sI σ 25 3 ((gI σ 25 3) + (1 : Int32)) = σ13 at hX ⊢; try dsimp only at hX
        refine V.goto 142 dX_step_174 rfl ?_
        refine V.sub [0] rfl ?_
        exact ih σ13 hX
set_option maxRecDepth 4000 in
theorem wX_step_120 {E : Ev} {z : St} (σ : St) (hX : fX_step_120 σ = some z) : V E mX_step (FM E (none, z)) 120 [(0, .ref 25)] [] σ := by
  unfold fX_step_120 at hX
  refine V.aloadn 0 dX_step_120 rfl rfl ?_
  refine V.geti 25 dX_step_121 flX_19 (rfl : kd 25 = (3, 0)) rfl ?_
  refine V.aloadn 0 dX_step_124 rfl rfl ?_
  refine V.geti 25 dX_step_125 flX_15 (rfl : kd 25 = (3, 0)) rfl ?_
  refine V.icmpge 177 dX_step_128 rfl rfl (fun g5 => ?_) (fun g5 => ?_)
  · replace hX := ip hX g5
    have hX := (Option.some.inj hX).symm; subst hX; exact V.vret dX_step_177 rfl rfl
  · replace hX := im hX g5
    refine V.aloadn 0 dX_step_131 rfl rfl ?_
    refine V.aloadn 0 dX_step_132 rfl rfl ?_
    refine V.geti 25 dX_step_133 flX_19 (rfl : kd 25 = (3, 0)) rfl ?_
    obtain ⟨q6, c7, hX⟩ := bd hX; try dsimp only at hX
    refine V.callvi 25 [.int (gI σ 25 2)] dX_step_136 (kX_isDigit c7) mlX_98 myX_isDigit mnX_isDigit ⟨rfl, rfl, by decide, by decide⟩ (rfl : kd 25 = (3, 0)) (by decide) rfl (Nat.le_of_ble_eq_true rfl) ⟨Nat.zero_le _, Nat.zero_le _⟩ rfl ?_
    refine V.ifeq 177 dX_step_139 rfl rfl (fun g8 => ?_) (fun g8 => ?_)
    · replace hX := ip hX g8
      have hX := (Option.some.inj hX).symm; subst hX; exact V.vret dX_step_177 rfl rfl
    · replace hX := im hX g8
      refine V.sub [0] rfl ?_
      exact wX_step_142 300 σ hX
set_option maxRecDepth 4000 in
theorem wX_step_85 {E : Ev} {z : St} : ∀ (fu : Nat) (σ : St), fX_step_85 fu σ = some z → V E mX_step (FM E (none, z)) 85 [(0, .ref 25)] [] σ := by
  intro fu
  induction fu with
  | zero => intro σ hX; cases hX
  | succ fu ih =>
    intro σ hX
    rw [fX_step_85] at hX
    refine V.aloadn 0 dX_step_85 rfl rfl ?_
    refine V.geti 25 dX_step_86 flX_22 (rfl : kd 25 = (3, 0)) rfl ?_
    refine V.aloadn 0 dX_step_89 rfl rfl ?_
    refine V.geti 25 dX_step_90 flX_15 (rfl : kd 25 = (3, 0)) rfl ?_
    refine V.icmpge 177 dX_step_93 rfl rfl (fun g17 => ?_) (fun g17 => ?_)
    · replace hX := ip hX g17
      have hX := (Option.some.inj hX).symm; subst hX; exact V.vret dX_step_177 rfl rfl
    · replace hX := im hX g17
      refine V.aloadn 0 dX_step_96 rfl rfl ?_
      refine V.aloadn 0 dX_step_97 rfl rfl ?_
      refine V.geti 25 dX_step_98 flX_22 (rfl : kd 25 = (3, 0)) rfl ?_
      obtain ⟨q18, c19, hX⟩ := bd hX; try dsimp only at hX
      refine V.callvi 25 [.int (gI σ 25 3)] dX_step_101 (kX_isLetter c19) mlX_128 myX_isLetter mnX_isLetter ⟨rfl, rfl, by decide, by decide⟩ (rfl : kd 25 = (3, 0)) (by decide) rfl (Nat.le_of_ble_eq_true rfl) ⟨Nat.zero_le _, Nat.zero_le _⟩ rfl ?_
      refine V.ifeq 177 dX_step_104 rfl rfl (fun g20 => ?_) (fun g20 => ?_)
      · replace hX := ip hX g20
        have hX := (Option.some.inj hX).symm; subst hX; exact V.vret dX_step_177 rfl rfl
      · replace hX := im hX g20
        refine V.aloadn 0 dX_step_107 rfl rfl ?_
        refine V.dup dX_step_108 rfl rfl ?_
        refine V.geti 25 dX_step_109 flX_22 (rfl : kd 25 = (3, 0)) rfl ?_
        refine V.iconst (1 : Int32) dX_step_112 lc1 rfl ?_
        refine V.iadd dX_step_113 rfl ?_
        refine V.puti 25 .int dX_step_114 flX_22 fw3_3 (rfl : kd 25 = (3, 0)) ⟨rfl, rfl⟩ rfl ?_
        replace hX := nmx hX; generalize sI σ 25 3 ((gI σ 25 3) + (1 : Int32)) = σ21 at hX ⊢; try dsimp only at hX
        refine V.goto 85 dX_step_117 rfl ?_
        refine V.sub [0] rfl ?_
        exact ih σ21 hX
set_option maxRecDepth 4000 in
theorem wX_step_46 {E : Ev} {z : St} (σ : St) (hX : fX_step_46 σ = some z) : V E mX_step (FM E (none, z)) 46 [(0, .ref 25)] [] σ := by
  unfold fX_step_46 at hX
  refine V.aloadn 0 dX_step_46 rfl rfl ?_
  refine V.aloadn 0 dX_step_47 rfl rfl ?_
  refine V.geti 25 dX_step_48 flX_19 (rfl : kd 25 = (3, 0)) rfl ?_
  refine V.iconst (1 : Int32) dX_step_51 lc1 rfl ?_
  refine V.iadd dX_step_52 rfl ?_
  refine V.aloadn 0 dX_step_53 rfl rfl ?_
  refine V.geti 25 dX_step_54 flX_15 (rfl : kd 25 = (3, 0)) rfl ?_
  refine V.mmin dX_step_57 mwX_123 ⟨by decide, (Nat.le_of_ble_eq_true rfl)⟩ ⟨Nat.zero_le _, Nat.zero_le _⟩ rfl ?_
  refine V.puti 25 .int dX_step_60 flX_22 fw3_3 (rfl : kd 25 = (3, 0)) ⟨rfl, rfl⟩ rfl ?_
  replace hX := nmx hX; generalize sI σ 25 3 (mmin ((gI σ 25 2) + (1 : Int32)) (gI σ 25 1)) = σ3 at hX ⊢; try dsimp only at hX
  refine V.aloadn 0 dX_step_63 rfl rfl ?_
  refine V.geti 25 dX_step_64 flX_19 (rfl : kd 25 = (3, 0)) rfl ?_
  refine V.aloadn 0 dX_step_67 rfl rfl ?_
  refine V.geti 25 dX_step_68 flX_15 (rfl : kd 25 = (3, 0)) rfl ?_
  refine V.icmpge 120 dX_step_71 rfl rfl (fun g4 => ?_) (fun g4 => ?_)
  · replace hX := ip hX g4
    refine V.sub [0] rfl ?_
    exact wX_step_120 σ3 hX
  · replace hX := im hX g4
    refine V.aloadn 0 dX_step_74 rfl rfl ?_
    refine V.aloadn 0 dX_step_75 rfl rfl ?_
    refine V.geti 25 dX_step_76 flX_19 (rfl : kd 25 = (3, 0)) rfl ?_
    obtain ⟨q14, c15, hX⟩ := bd hX; try dsimp only at hX
    refine V.callvi 25 [.int (gI σ3 25 2)] dX_step_79 (kX_isLetter c15) mlX_128 myX_isLetter mnX_isLetter ⟨rfl, rfl, by decide, by decide⟩ (rfl : kd 25 = (3, 0)) (by decide) rfl (Nat.le_of_ble_eq_true rfl) ⟨Nat.zero_le _, Nat.zero_le _⟩ rfl ?_
    refine V.ifeq 120 dX_step_82 rfl rfl (fun g16 => ?_) (fun g16 => ?_)
    · replace hX := ip hX g16
      refine V.sub [0] rfl ?_
      exact wX_step_120 σ3 hX
    · replace hX := im hX g16
      refine V.sub [0] rfl ?_
      exact wX_step_85 300 σ3 hX
set_option maxRecDepth 4000 in
theorem wX_step_8 {E : Ev} {z : St} : ∀ (fu : Nat) (σ : St), fX_step_8 fu σ = some z → V E mX_step (FM E (none, z)) 8 [(0, .ref 25)] [] σ := by
  intro fu
  induction fu with
  | zero => intro σ hX; cases hX
  | succ fu ih =>
    intro σ hX
    rw [fX_step_8] at hX
    refine V.aloadn 0 dX_step_8 rfl rfl ?_
    refine V.geti 25 dX_step_9 flX_19 (rfl : kd 25 = (3, 0)) rfl ?_
    refine V.aloadn 0 dX_step_12 rfl rfl ?_
    refine V.geti 25 dX_step_13 flX_15 (rfl : kd 25 = (3, 0)) rfl ?_
    refine V.icmpge 46 dX_step_16 rfl rfl (fun g2 => ?_) (fun g2 => ?_)
    · replace hX := ip hX g2
      refine V.sub [0] rfl ?_
      exact wX_step_46 σ hX
    · replace hX := im hX g2
      refine V.aloadn 0 dX_step_19 rfl rfl ?_
      refine V.getr 25 26 dX_step_20 flX_9 (rfl : kd 25 = (3, 0)) rfl rfl ?_
      refine V.aloadn 0 dX_step_23 rfl rfl ?_
      refine V.geti 25 dX_step_24 flX_19 (rfl : kd 25 = (3, 0)) rfl ?_
      obtain ⟨h22, hX⟩ := ob hX
      refine V.iald 26 dX_step_27 (rfl : kd 26 = (7, 200)) h22 rfl ?_
      refine V.bipush (32 : Int32) dX_step_28 lb32 rfl ?_
      refine V.icmpne 46 dX_step_30 rfl rfl (fun g23 => ?_) (fun g23 => ?_)
      · replace hX := im hX g23
        refine V.sub [0] rfl ?_
        exact wX_step_46 σ hX
      · replace hX := ip hX g23
        refine V.aloadn 0 dX_step_33 rfl rfl ?_
        refine V.dup dX_step_34 rfl rfl ?_
        refine V.geti 25 dX_step_35 flX_19 (rfl : kd 25 = (3, 0)) rfl ?_
        refine V.iconst (1 : Int32) dX_step_38 lc1 rfl ?_
        refine V.iadd dX_step_39 rfl ?_
        refine V.puti 25 .int dX_step_40 flX_19 fw3_2 (rfl : kd 25 = (3, 0)) ⟨rfl, rfl⟩ rfl ?_
        replace hX := nmx hX; generalize sI σ 25 2 ((gI σ 25 2) + (1 : Int32)) = σ24 at hX ⊢; try dsimp only at hX
        refine V.goto 8 dX_step_43 rfl ?_
        refine V.sub [0] rfl ?_
        exact ih σ24 hX
set_option maxRecDepth 4000 in
theorem wX_step {E : Ev} {z : St} (σ : St) (hX : fX_step σ = some z) : V E mX_step (FM E (none, z)) 0 [(0, .ref 25)] [] σ := by
  unfold fX_step at hX
  refine V.aloadn 0 dX_step_0 rfl rfl ?_
  refine V.aloadn 0 dX_step_1 rfl rfl ?_
  refine V.geti 25 dX_step_2 flX_22 (rfl : kd 25 = (3, 0)) rfl ?_
  refine V.puti 25 .int dX_step_5 flX_19 fw3_2 (rfl : kd 25 = (3, 0)) ⟨rfl, rfl⟩ rfl ?_
  replace hX := nmx hX; generalize sI σ 25 2 (gI σ 25 3) = σ1 at hX ⊢; try dsimp only at hX
  refine V.sub [0] rfl ?_
  exact wX_step_8 300 σ1 hX
theorem kX_step {E : Ev} {σ z : St} (h : fX_step σ = some z) : Ct mX_step E [.ref 25] σ (none, z) := Ct.of (by decide) (Nat.le_of_ble_eq_true rfl) (wX_step σ h)
theorem dX_reads_0 : decode mX_reads.1 0 = .ok (.aload_n 0, 1) := by decide +kernel
theorem dX_reads_1 : decode mX_reads.1 1 = .ok (.getfield 22, 3) := by decide +kernel
theorem dX_reads_4 : decode mX_reads.1 4 = .ok (.aload_n 0, 1) := by decide +kernel
theorem dX_reads_5 : decode mX_reads.1 5 = .ok (.getfield 19, 3) := by decide +kernel
theorem dX_reads_8 : decode mX_reads.1 8 = .ok (.isub, 1) := by decide +kernel
theorem dX_reads_9 : decode mX_reads.1 9 = .ok (.aload_n 1, 1) := by decide +kernel
theorem dX_reads_10 : decode mX_reads.1 10 = .ok (.invokevirtual 114, 3) := by decide +kernel
theorem dX_reads_13 : decode mX_reads.1 13 = .ok (.if_icmp .eq 5, 3) := by decide +kernel
theorem dX_reads_16 : decode mX_reads.1 16 = .ok (.iconst 0, 1) := by decide +kernel
theorem dX_reads_17 : decode mX_reads.1 17 = .ok (.ireturn, 1) := by decide +kernel
theorem dX_reads_18 : decode mX_reads.1 18 = .ok (.iconst 0, 1) := by decide +kernel
theorem dX_reads_19 : decode mX_reads.1 19 = .ok (.istore_n 2, 1) := by decide +kernel
theorem dX_reads_20 : decode mX_reads.1 20 = .ok (.iload_n 2, 1) := by decide +kernel
theorem dX_reads_21 : decode mX_reads.1 21 = .ok (.aload_n 1, 1) := by decide +kernel
theorem dX_reads_22 : decode mX_reads.1 22 = .ok (.invokevirtual 114, 3) := by decide +kernel
theorem dX_reads_25 : decode mX_reads.1 25 = .ok (.if_icmp .ge 30, 3) := by decide +kernel
theorem dX_reads_28 : decode mX_reads.1 28 = .ok (.aload_n 0, 1) := by decide +kernel
theorem dX_reads_29 : decode mX_reads.1 29 = .ok (.getfield 9, 3) := by decide +kernel
theorem dX_reads_32 : decode mX_reads.1 32 = .ok (.aload_n 0, 1) := by decide +kernel
theorem dX_reads_33 : decode mX_reads.1 33 = .ok (.getfield 19, 3) := by decide +kernel
theorem dX_reads_36 : decode mX_reads.1 36 = .ok (.iload_n 2, 1) := by decide +kernel
theorem dX_reads_37 : decode mX_reads.1 37 = .ok (.iadd, 1) := by decide +kernel
theorem dX_reads_38 : decode mX_reads.1 38 = .ok (.iaload, 1) := by decide +kernel
theorem dX_reads_39 : decode mX_reads.1 39 = .ok (.aload_n 1, 1) := by decide +kernel
theorem dX_reads_40 : decode mX_reads.1 40 = .ok (.iload_n 2, 1) := by decide +kernel
theorem dX_reads_41 : decode mX_reads.1 41 = .ok (.invokevirtual 119, 3) := by decide +kernel
theorem dX_reads_44 : decode mX_reads.1 44 = .ok (.if_icmp .eq 5, 3) := by decide +kernel
theorem dX_reads_47 : decode mX_reads.1 47 = .ok (.iconst 0, 1) := by decide +kernel
theorem dX_reads_48 : decode mX_reads.1 48 = .ok (.ireturn, 1) := by decide +kernel
theorem dX_reads_49 : decode mX_reads.1 49 = .ok (.iinc 2 1, 3) := by decide +kernel
theorem dX_reads_52 : decode mX_reads.1 52 = .ok (.goto (-32), 3) := by decide +kernel
theorem dX_reads_55 : decode mX_reads.1 55 = .ok (.iconst 1, 1) := by decide +kernel
theorem dX_reads_56 : decode mX_reads.1 56 = .ok (.ireturn, 1) := by decide +kernel
set_option maxRecDepth 4000 in
theorem wX_reads_20 {E : Ev} {z : Int32} : ∀ (fu : Nat) (σ : St) (r1 : Nat) (i2 : Int32) (hs_r1 : isSb r1 = true), fX_reads_20 fu σ r1 i2 = some z → V E mX_reads (FM E (some (.int z), σ)) 20 [(0, .ref 25), (1, .ref r1), (2, .int i2)] [] σ := by
  intro fu
  induction fu with
  | zero => intro σ r1 i2 hs_r1 hX; cases hX
  | succ fu ih =>
    intro σ r1 i2 hs_r1 hX
    rw [fX_reads_20] at hX
    refine V.iloadn 2 dX_reads_20 rfl rfl ?_
    refine V.aloadn 1 dX_reads_21 rfl rfl ?_
    refine V.callT r1 [] dX_reads_22 (kJS_length hs_r1) mlX_114 myJS_length mnJS_length ⟨rfl, rfl, by decide, by decide⟩ ⟨hs_r1, rfl⟩ rfl (Nat.le_of_ble_eq_true rfl) ⟨Nat.zero_le _, Nat.zero_le _⟩ rfl ?_
    refine V.icmpge 55 dX_reads_25 rfl rfl (fun g2 => ?_) (fun g2 => ?_)
    · replace hX := ip hX g2
      refine V.iconst (1 : Int32) dX_reads_55 lc1 rfl ?_
      have hX := (Option.some.inj hX).symm; subst hX; exact V.zret .boolean dX_reads_56 rfl (nz b01_1).1 rfl
    · replace hX := im hX g2
      refine V.aloadn 0 dX_reads_28 rfl rfl ?_
      refine V.getr 25 26 dX_reads_29 flX_9 (rfl : kd 25 = (3, 0)) rfl rfl ?_
      refine V.aloadn 0 dX_reads_32 rfl rfl ?_
      refine V.geti 25 dX_reads_33 flX_19 (rfl : kd 25 = (3, 0)) rfl ?_
      refine V.iloadn 2 dX_reads_36 rfl rfl ?_
      refine V.iadd dX_reads_37 rfl ?_
      obtain ⟨h3, hX⟩ := ob hX
      refine V.iald 26 dX_reads_38 (rfl : kd 26 = (7, 200)) h3 rfl ?_
      refine V.aloadn 1 dX_reads_39 rfl rfl ?_
      refine V.iloadn 2 dX_reads_40 rfl rfl ?_
      obtain ⟨q4, c5, hX⟩ := bd hX; try dsimp only at hX
      refine V.callT r1 [.int i2] dX_reads_41 (kJS_charAt hs_r1 c5) mlX_119 myJS_charAt mnJS_charAt ⟨rfl, rfl, by decide, by decide⟩ ⟨hs_r1, rfl⟩ rfl (Nat.le_of_ble_eq_true rfl) ⟨Nat.zero_le _, Nat.zero_le _⟩ rfl ?_
      refine V.icmpeq 49 dX_reads_44 rfl rfl (fun g6 => ?_) (fun g6 => ?_)
      · replace hX := ip hX g6
        refine V.iinc 2 (1 : Int32) _ dX_reads_49 rfl lc1 (by decide) rfl rfl ?_
        replace hX := nmx hX; generalize i2 + (1 : Int32) = v7 at hX ⊢; try dsimp only at hX
        refine V.goto 20 dX_reads_52 rfl ?_
        refine V.sub [1, 2, 0] rfl ?_
        exact ih σ r1 v7 hs_r1 hX
      · replace hX := im hX g6
        refine V.iconst (0 : Int32) dX_reads_47 lc0 rfl ?_
        have hX := (Option.some.inj hX).symm; subst hX; exact V.zret .boolean dX_reads_48 rfl (nz b01_0).1 rfl
set_option maxRecDepth 4000 in
theorem wX_reads {E : Ev} {z : Int32} (σ : St) (r1 : Nat) (hs_r1 : isSb r1 = true) (hX : fX_reads σ r1 = some z) : V E mX_reads (FM E (some (.int z), σ)) 0 [(0, .ref 25), (1, .ref r1)] [] σ := by
  unfold fX_reads at hX
  refine V.aloadn 0 dX_reads_0 rfl rfl ?_
  refine V.geti 25 dX_reads_1 flX_22 (rfl : kd 25 = (3, 0)) rfl ?_
  refine V.aloadn 0 dX_reads_4 rfl rfl ?_
  refine V.geti 25 dX_reads_5 flX_19 (rfl : kd 25 = (3, 0)) rfl ?_
  refine V.isub dX_reads_8 rfl ?_
  refine V.aloadn 1 dX_reads_9 rfl rfl ?_
  refine V.callT r1 [] dX_reads_10 (kJS_length hs_r1) mlX_114 myJS_length mnJS_length ⟨rfl, rfl, by decide, by decide⟩ ⟨hs_r1, rfl⟩ rfl (Nat.le_of_ble_eq_true rfl) ⟨Nat.zero_le _, Nat.zero_le _⟩ rfl ?_
  refine V.icmpeq 18 dX_reads_13 rfl rfl (fun g1 => ?_) (fun g1 => ?_)
  · replace hX := ip hX g1
    refine V.iconst (0 : Int32) dX_reads_18 lc0 rfl ?_
    refine V.istoren _ dX_reads_19 (by decide) rfl rfl ?_
    refine V.sub [1, 2, 0] rfl ?_
    exact wX_reads_20 300 σ r1 (0 : Int32) hs_r1 hX
  · replace hX := im hX g1
    refine V.iconst (0 : Int32) dX_reads_16 lc0 rfl ?_
    have hX := (Option.some.inj hX).symm; subst hX; exact V.zret .boolean dX_reads_17 rfl (nz b01_0).1 rfl
theorem kX_reads {E : Ev} {σ : St} {r1 : Nat} {z : Int32} (hs_r1 : isSb r1 = true) (h : fX_reads σ r1 = some z) : Ct mX_reads E [.ref 25, .ref r1] σ (some (.int z), σ) := Ct.of (by decide) (Nat.le_of_ble_eq_true rfl) (wX_reads σ r1 hs_r1 h)
theorem dX_readNumber_0 : decode mX_readNumber.1 0 = .ok (.aload_n 0, 1) := by decide +kernel
theorem dX_readNumber_1 : decode mX_readNumber.1 1 = .ok (.invokevirtual 30, 3) := by decide +kernel
theorem dX_readNumber_4 : decode mX_readNumber.1 4 = .ok (.aload_n 0, 1) := by decide +kernel
theorem dX_readNumber_5 : decode mX_readNumber.1 5 = .ok (.getfield 19, 3) := by decide +kernel
theorem dX_readNumber_8 : decode mX_readNumber.1 8 = .ok (.aload_n 0, 1) := by decide +kernel
theorem dX_readNumber_9 : decode mX_readNumber.1 9 = .ok (.getfield 15, 3) := by decide +kernel
theorem dX_readNumber_12 : decode mX_readNumber.1 12 = .ok (.if_icmp .ge 27, 3) := by decide +kernel
theorem dX_readNumber_15 : decode mX_readNumber.1 15 = .ok (.aload_n 0, 1) := by decide +kernel
theorem dX_readNumber_16 : decode mX_readNumber.1 16 = .ok (.aload_n 0, 1) := by decide +kernel
theorem dX_readNumber_17 : decode mX_readNumber.1 17 = .ok (.getfield 19, 3) := by decide +kernel
theorem dX_readNumber_20 : decode mX_readNumber.1 20 = .ok (.invokevirtual 98, 3) := by decide +kernel
theorem dX_readNumber_23 : decode mX_readNumber.1 23 = .ok (.ifCond .eq 16, 3) := by decide +kernel
theorem dX_readNumber_26 : decode mX_readNumber.1 26 = .ok (.aload_n 0, 1) := by decide +kernel
theorem dX_readNumber_27 : decode mX_readNumber.1 27 = .ok (.getfield 22, 3) := by decide +kernel
theorem dX_readNumber_30 : decode mX_readNumber.1 30 = .ok (.aload_n 0, 1) := by decide +kernel
theorem dX_readNumber_31 : decode mX_readNumber.1 31 = .ok (.getfield 19, 3) := by decide +kernel
theorem dX_readNumber_34 : decode mX_readNumber.1 34 = .ok (.isub, 1) := by decide +kernel
theorem dX_readNumber_35 : decode mX_readNumber.1 35 = .ok (.iconst 2, 1) := by decide +kernel
theorem dX_readNumber_36 : decode mX_readNumber.1 36 = .ok (.if_icmp .le 5, 3) := by decide +kernel
theorem dX_readNumber_39 : decode mX_readNumber.1 39 = .ok (.iconst (-1), 1) := by decide +kernel
theorem dX_readNumber_40 : decode mX_readNumber.1 40 = .ok (.ireturn, 1) := by decide +kernel
theorem dX_readNumber_41 : decode mX_readNumber.1 41 = .ok (.iconst 0, 1) := by decide +kernel
theorem dX_readNumber_42 : decode mX_readNumber.1 42 = .ok (.istore_n 3, 1) := by decide +kernel
theorem dX_readNumber_43 : decode mX_readNumber.1 43 = .ok (.aload_n 0, 1) := by decide +kernel
theorem dX_readNumber_44 : decode mX_readNumber.1 44 = .ok (.getfield 19, 3) := by decide +kernel
theorem dX_readNumber_47 : decode mX_readNumber.1 47 = .ok (.istore 4, 2) := by decide +kernel
theorem dX_readNumber_49 : decode mX_readNumber.1 49 = .ok (.iload 4, 2) := by decide +kernel
theorem dX_readNumber_51 : decode mX_readNumber.1 51 = .ok (.aload_n 0, 1) := by decide +kernel
theorem dX_readNumber_52 : decode mX_readNumber.1 52 = .ok (.getfield 22, 3) := by decide +kernel
theorem dX_readNumber_55 : decode mX_readNumber.1 55 = .ok (.if_icmp .ge 25, 3) := by decide +kernel
theorem dX_readNumber_58 : decode mX_readNumber.1 58 = .ok (.bipush 10, 2) := by decide +kernel
theorem dX_readNumber_60 : decode mX_readNumber.1 60 = .ok (.iload_n 3, 1) := by decide +kernel
theorem dX_readNumber_61 : decode mX_readNumber.1 61 = .ok (.imul, 1) := by decide +kernel
theorem dX_readNumber_62 : decode mX_readNumber.1 62 = .ok (.aload_n 0, 1) := by decide +kernel
theorem dX_readNumber_63 : decode mX_readNumber.1 63 = .ok (.getfield 9, 3) := by decide +kernel
theorem dX_readNumber_66 : decode mX_readNumber.1 66 = .ok (.iload 4, 2) := by decide +kernel
theorem dX_readNumber_68 : decode mX_readNumber.1 68 = .ok (.iaload, 1) := by decide +kernel
theorem dX_readNumber_69 : decode mX_readNumber.1 69 = .ok (.iadd, 1) := by decide +kernel
theorem dX_readNumber_70 : decode mX_readNumber.1 70 = .ok (.bipush 48, 2) := by decide +kernel
theorem dX_readNumber_72 : decode mX_readNumber.1 72 = .ok (.isub, 1) := by decide +kernel
theorem dX_readNumber_73 : decode mX_readNumber.1 73 = .ok (.istore_n 3, 1) := by decide +kernel
theorem dX_readNumber_74 : decode mX_readNumber.1 74 = .ok (.iinc 4 1, 3) := by decide +kernel
theorem dX_readNumber_77 : decode mX_readNumber.1 77 = .ok (.goto (-28), 3) := by decide +kernel
theorem dX_readNumber_80 : decode mX_readNumber.1 80 = .ok (.iload_n 3, 1) := by decide +kernel
theorem dX_readNumber_81 : decode mX_readNumber.1 81 = .ok (.iload_n 1, 1) := by decide +kernel
theorem dX_readNumber_82 : decode mX_readNumber.1 82 = .ok (.if_icmp .lt 12, 3) := by decide +kernel
theorem dX_readNumber_85 : decode mX_readNumber.1 85 = .ok (.iload_n 3, 1) := by decide +kernel
theorem dX_readNumber_86 : decode mX_readNumber.1 86 = .ok (.iload_n 2, 1) := by decide +kernel
theorem dX_readNumber_87 : decode mX_readNumber.1 87 = .ok (.if_icmp .gt 7, 3) := by decide +kernel
theorem dX_readNumber_90 : decode mX_readNumber.1 90 = .ok (.iload_n 3, 1) := by decide +kernel
theorem dX_readNumber_91 : decode mX_readNumber.1 91 = .ok (.goto 4, 3) := by decide +kernel
theorem dX_readNumber_94 : decode mX_readNumber.1 94 = .ok (.iconst (-1), 1) := by decide +kernel
theorem dX_readNumber_95 : decode mX_readNumber.1 95 = .ok (.ireturn, 1) := by decide +kernel
set_option maxRecDepth 4000 in
theorem wX_readNumber_80 {E : Ev} {z : Int32 × St} (σ : St) (i1 : Int32) (i2 : Int32) (i3 : Int32) (hX : fX_readNumber_80 σ i1 i2 i3 = some z) : V E mX_readNumber (FM E (some (.int z.1), z.2)) 80 [(1, .int i1), (2, .int i2), (3, .int i3)] [] σ := by
  unfold fX_readNumber_80 at hX
  refine V.iloadn 2 dX_readNumber_80 rfl rfl ?_
  refine V.iloadn 0 dX_readNumber_81 rfl rfl ?_
  have JJ : V E mX_readNumber (FM E (some (.int z.1), z.2)) 95 [(1, .int i1), (2, .int i2), (3, .int i3)] [.int (if i3 < i1 then (-1 : Int32) else (if i2 < i3 then (-1 : Int32) else i3))] σ := by
    have hX := (Option.some.inj hX).symm; subst hX; exact V.iret dX_readNumber_95 rfl rfl
  refine V.icmplt 94 dX_readNumber_82 rfl rfl (fun g10 => ?_) (fun g10 => ?_)
  · refine V.iconst (-1 : Int32) dX_readNumber_94 lcm1 rfl ?_
    exact V.top (if_pos g10).symm JJ
  · refine V.iloadn 2 dX_readNumber_85 rfl rfl ?_
    refine V.iloadn 1 dX_readNumber_86 rfl rfl ?_
    refine V.icmpgt 94 dX_readNumber_87 rfl rfl (fun g11 => ?_) (fun g11 => ?_)
    · refine V.iconst (-1 : Int32) dX_readNumber_94 lcm1 rfl ?_
      exact V.top ((if_neg g10).trans (if_pos g11)).symm JJ
    · refine V.iloadn 2 dX_readNumber_90 rfl rfl ?_
      refine V.goto 95 dX_readNumber_91 rfl ?_
      exact V.top ((if_neg g10).trans (if_neg g11)).symm JJ
set_option maxRecDepth 4000 in
theorem wX_readNumber_49 {E : Ev} {z : Int32 × St} : ∀ (fu : Nat) (σ : St) (i1 : Int32) (i2 : Int32) (i3 : Int32) (i4 : Int32), fX_readNumber_49 fu σ i1 i2 i3 i4 = some z → V E mX_readNumber (FM E (some (.int z.1), z.2)) 49 [(0, .ref 25), (1, .int i1), (2, .int i2), (3, .int i3), (4, .int i4)] [] σ := by
  intro fu
  induction fu with
  | zero => intro σ i1 i2 i3 i4 hX; cases hX
  | succ fu ih =>
    intro σ i1 i2 i3 i4 hX
    rw [fX_readNumber_49] at hX
    refine V.iload 4 dX_readNumber_49 rfl rfl ?_
    refine V.aloadn 0 dX_readNumber_51 rfl rfl ?_
    refine V.geti 25 dX_readNumber_52 flX_22 (rfl : kd 25 = (3, 0)) rfl ?_
    refine V.icmpge 80 dX_readNumber_55 rfl rfl (fun g9 => ?_) (fun g9 => ?_)
    · replace hX := ip hX g9
      refine V.sub [1, 2, 3] rfl ?_
      exact wX_readNumber_80 σ i1 i2 i3 hX
    · replace hX := im hX g9
      refine V.bipush (10 : Int32) dX_readNumber_58 lb10 rfl ?_
      refine V.iloadn 3 dX_readNumber_60 rfl rfl ?_
      refine V.imul dX_readNumber_61 rfl ?_
      refine V.aloadn 0 dX_readNumber_62 rfl rfl ?_
      refine V.getr 25 26 dX_readNumber_63 flX_9 (rfl : kd 25 = (3, 0)) rfl rfl ?_
      refine V.iload 4 dX_readNumber_66 rfl rfl ?_
      obtain ⟨h12, hX⟩ := ob hX
      refine V.iald 26 dX_readNumber_68 (rfl : kd 26 = (7, 200)) h12 rfl ?_
      refine V.iadd dX_readNumber_69 rfl ?_
      refine V.bipush (48 : Int32) dX_readNumber_70 lb48 rfl ?_
      refine V.isub dX_readNumber_72 rfl ?_
      refine V.istoren _ dX_readNumber_73 (by decide) rfl rfl ?_
      replace hX := nmx hX; generalize (((10 : Int32) * i3) + (gI σ 26 (ix i4))) - (48 : Int32) = v13 at hX ⊢; try dsimp only at hX
      refine V.iinc 4 (1 : Int32) _ dX_readNumber_74 rfl lc1 (by decide) rfl rfl ?_
      replace hX := nmx hX; generalize i4 + (1 : Int32) = v14 at hX ⊢; try dsimp only at hX
      refine V.goto 49 dX_readNumber_77 rfl ?_
      refine V.sub [2, 3, 4, 1, 0] rfl ?_
      exact ih σ i1 i2 v13 v14 hX
set_option maxRecDepth 4000 in
theorem wX_readNumber {E : Ev} {z : Int32 × St} (σ : St) (i1 : Int32) (i2 : Int32) (hX : fX_readNumber σ i1 i2 = some z) : V E mX_readNumber (FM E (some (.int z.1), z.2)) 0 [(0, .ref 25), (1, .int i1), (2, .int i2)] [] σ := by
  unfold fX_readNumber at hX
  refine V.aloadn 0 dX_readNumber_0 rfl rfl ?_
  obtain ⟨σ2, c1, hX⟩ := bd hX; try dsimp only at hX
  refine V.callv0 25 [] dX_readNumber_1 (kX_step c1) mlX_30 myX_step mnX_step ⟨rfl, rfl, by decide, by decide⟩ (rfl : kd 25 = (3, 0)) (by decide) rfl (Nat.le_of_ble_eq_true rfl) ⟨Nat.zero_le _, Nat.zero_le _⟩ rfl ?_
  refine V.aloadn 0 dX_readNumber_4 rfl rfl ?_
  refine V.geti 25 dX_readNumber_5 flX_19 (rfl : kd 25 = (3, 0)) rfl ?_
  refine V.aloadn 0 dX_readNumber_8 rfl rfl ?_
  refine V.geti 25 dX_readNumber_9 flX_15 (rfl : kd 25 = (3, 0)) rfl ?_
  refine V.icmpge 39 dX_readNumber_12 rfl rfl (fun g3 => ?_) (fun g3 => ?_)
  · replace hX := ip hX g3
    refine V.iconst (-1 : Int32) dX_readNumber_39 lcm1 rfl ?_
    have hX := (Option.some.inj hX).symm; subst hX; exact V.iret dX_readNumber_40 rfl rfl
  · replace hX := im hX g3
    refine V.aloadn 0 dX_readNumber_15 rfl rfl ?_
    refine V.aloadn 0 dX_readNumber_16 rfl rfl ?_
    refine V.geti 25 dX_readNumber_17 flX_19 (rfl : kd 25 = (3, 0)) rfl ?_
    obtain ⟨q4, c5, hX⟩ := bd hX; try dsimp only at hX
    refine V.callvi 25 [.int (gI σ2 25 2)] dX_readNumber_20 (kX_isDigit c5) mlX_98 myX_isDigit mnX_isDigit ⟨rfl, rfl, by decide, by decide⟩ (rfl : kd 25 = (3, 0)) (by decide) rfl (Nat.le_of_ble_eq_true rfl) ⟨Nat.zero_le _, Nat.zero_le _⟩ rfl ?_
    refine V.ifeq 39 dX_readNumber_23 rfl rfl (fun g6 => ?_) (fun g6 => ?_)
    · replace hX := ip hX g6
      refine V.iconst (-1 : Int32) dX_readNumber_39 lcm1 rfl ?_
      have hX := (Option.some.inj hX).symm; subst hX; exact V.iret dX_readNumber_40 rfl rfl
    · replace hX := im hX g6
      refine V.aloadn 0 dX_readNumber_26 rfl rfl ?_
      refine V.geti 25 dX_readNumber_27 flX_22 (rfl : kd 25 = (3, 0)) rfl ?_
      refine V.aloadn 0 dX_readNumber_30 rfl rfl ?_
      refine V.geti 25 dX_readNumber_31 flX_19 (rfl : kd 25 = (3, 0)) rfl ?_
      refine V.isub dX_readNumber_34 rfl ?_
      refine V.iconst (2 : Int32) dX_readNumber_35 lc2 rfl ?_
      refine V.icmple 41 dX_readNumber_36 rfl rfl (fun g7 => ?_) (fun g7 => ?_)
      · replace hX := ip hX g7
        refine V.iconst (0 : Int32) dX_readNumber_41 lc0 rfl ?_
        refine V.istoren _ dX_readNumber_42 (by decide) rfl rfl ?_
        refine V.aloadn 1 dX_readNumber_43 rfl rfl ?_
        refine V.geti 25 dX_readNumber_44 flX_19 (rfl : kd 25 = (3, 0)) rfl ?_
        refine V.istore _ dX_readNumber_47 (by decide) rfl rfl ?_
        replace hX := nmx hX; generalize gI σ2 25 2 = v8 at hX ⊢; try dsimp only at hX
        refine V.sub [2, 3, 4, 1, 0] rfl ?_
        exact wX_readNumber_49 300 σ2 i1 i2 (0 : Int32) v8 hX
      · replace hX := im hX g7
        refine V.iconst (-1 : Int32) dX_readNumber_39 lcm1 rfl ?_
        have hX := (Option.some.inj hX).symm; subst hX; exact V.iret dX_readNumber_40 rfl rfl
theorem kX_readNumber {E : Ev} {σ σ2 : St} {i1 : Int32} {i2 : Int32} {z : Int32} (h : fX_readNumber σ i1 i2 = some (z, σ2)) : Ct mX_readNumber E [.ref 25, .int i1, .int i2] σ (some (.int z), σ2) := Ct.of (by decide) (Nat.le_of_ble_eq_true rfl) (wX_readNumber σ i1 i2 h)
theorem dT_addPerson_0 : decode mT_addPerson.1 0 = .ok (.aload_n 0, 1) := by decide +kernel
theorem dT_addPerson_1 : decode mT_addPerson.1 1 = .ok (.getfield 21, 3) := by decide +kernel
theorem dT_addPerson_4 : decode mT_addPerson.1 4 = .ok (.aload_n 0, 1) := by decide +kernel
theorem dT_addPerson_5 : decode mT_addPerson.1 5 = .ok (.getfield 9, 3) := by decide +kernel
theorem dT_addPerson_8 : decode mT_addPerson.1 8 = .ok (.iload_n 1, 1) := by decide +kernel
theorem dT_addPerson_9 : decode mT_addPerson.1 9 = .ok (.iastore, 1) := by decide +kernel
theorem dT_addPerson_10 : decode mT_addPerson.1 10 = .ok (.aload_n 0, 1) := by decide +kernel
theorem dT_addPerson_11 : decode mT_addPerson.1 11 = .ok (.getfield 25, 3) := by decide +kernel
theorem dT_addPerson_14 : decode mT_addPerson.1 14 = .ok (.aload_n 0, 1) := by decide +kernel
theorem dT_addPerson_15 : decode mT_addPerson.1 15 = .ok (.getfield 9, 3) := by decide +kernel
theorem dT_addPerson_18 : decode mT_addPerson.1 18 = .ok (.iconst 0, 1) := by decide +kernel
theorem dT_addPerson_19 : decode mT_addPerson.1 19 = .ok (.iastore, 1) := by decide +kernel
theorem dT_addPerson_20 : decode mT_addPerson.1 20 = .ok (.aload_n 0, 1) := by decide +kernel
theorem dT_addPerson_21 : decode mT_addPerson.1 21 = .ok (.getfield 28, 3) := by decide +kernel
theorem dT_addPerson_24 : decode mT_addPerson.1 24 = .ok (.aload_n 0, 1) := by decide +kernel
theorem dT_addPerson_25 : decode mT_addPerson.1 25 = .ok (.getfield 9, 3) := by decide +kernel
theorem dT_addPerson_28 : decode mT_addPerson.1 28 = .ok (.iconst 0, 1) := by decide +kernel
theorem dT_addPerson_29 : decode mT_addPerson.1 29 = .ok (.iastore, 1) := by decide +kernel
theorem dT_addPerson_30 : decode mT_addPerson.1 30 = .ok (.aload_n 0, 1) := by decide +kernel
theorem dT_addPerson_31 : decode mT_addPerson.1 31 = .ok (.dup, 1) := by decide +kernel
theorem dT_addPerson_32 : decode mT_addPerson.1 32 = .ok (.getfield 9, 3) := by decide +kernel
theorem dT_addPerson_35 : decode mT_addPerson.1 35 = .ok (.iconst 1, 1) := by decide +kernel
theorem dT_addPerson_36 : decode mT_addPerson.1 36 = .ok (.iadd, 1) := by decide +kernel
theorem dT_addPerson_37 : decode mT_addPerson.1 37 = .ok (.putfield 9, 3) := by decide +kernel
theorem dT_addPerson_40 : decode mT_addPerson.1 40 = .ok (.aload_n 0, 1) := by decide +kernel
theorem dT_addPerson_41 : decode mT_addPerson.1 41 = .ok (.getfield 9, 3) := by decide +kernel
theorem dT_addPerson_44 : decode mT_addPerson.1 44 = .ok (.iconst 1, 1) := by decide +kernel
theorem dT_addPerson_45 : decode mT_addPerson.1 45 = .ok (.isub, 1) := by decide +kernel
theorem dT_addPerson_46 : decode mT_addPerson.1 46 = .ok (.ireturn, 1) := by decide +kernel
set_option maxRecDepth 4000 in
theorem wT_addPerson {E : Ev} {z : Int32 × St} (σ : St) (r0 : Nat) (i1 : Int32) (ht_r0 : isTb r0 = true) (hX : fT_addPerson σ r0 i1 = some z) : V E mT_addPerson (FM E (some (.int z.1), z.2)) 0 [(0, .ref r0), (1, .int i1)] [] σ := by
  unfold fT_addPerson at hX
  refine V.aloadn 0 dT_addPerson_0 rfl rfl ?_
  refine V.getr r0 (r0 + 1) dT_addPerson_1 flT_21 (tk0 ht_r0) rfl rfl ?_
  refine V.aloadn 0 dT_addPerson_4 rfl rfl ?_
  refine V.geti r0 dT_addPerson_5 flT_9 (tk0 ht_r0) rfl ?_
  refine V.iloadn 1 dT_addPerson_8 rfl rfl ?_
  obtain ⟨h1, hX⟩ := ob hX
  refine V.iast (r0 + 1) dT_addPerson_9 (tk1 ht_r0) h1 rfl ?_
  replace hX := nmx hX; generalize sI σ (r0 + 1) (ix (gI σ r0 0)) i1 = σ2 at hX ⊢; try dsimp only at hX
  refine V.aloadn 0 dT_addPerson_10 rfl rfl ?_
  refine V.getr r0 (r0 + 2) dT_addPerson_11 flT_25 (tk0 ht_r0) rfl rfl ?_
  refine V.aloadn 0 dT_addPerson_14 rfl rfl ?_
  refine V.geti r0 dT_addPerson_15 flT_9 (tk0 ht_r0) rfl ?_
  refine V.iconst (0 : Int32) dT_addPerson_18 lc0 rfl ?_
  obtain ⟨h3, hX⟩ := ob hX
  refine V.iast (r0 + 2) dT_addPerson_19 (tk2 ht_r0) h3 rfl ?_
  replace hX := nmx hX; generalize sI σ2 (r0 + 2) (ix (gI σ2 r0 0)) (0 : Int32) = σ4 at hX ⊢; try dsimp only at hX
  refine V.aloadn 0 dT_addPerson_20 rfl rfl ?_
  refine V.getr r0 (r0 + 3) dT_addPerson_21 flT_28 (tk0 ht_r0) rfl rfl ?_
  refine V.aloadn 0 dT_addPerson_24 rfl rfl ?_
  refine V.geti r0 dT_addPerson_25 flT_9 (tk0 ht_r0) rfl ?_
  refine V.iconst (0 : Int32) dT_addPerson_28 lc0 rfl ?_
  obtain ⟨h5, hX⟩ := ob hX
  refine V.iast (r0 + 3) dT_addPerson_29 (tk3 ht_r0) h5 rfl ?_
  replace hX := nmx hX; generalize sI σ4 (r0 + 3) (ix (gI σ4 r0 0)) (0 : Int32) = σ6 at hX ⊢; try dsimp only at hX
  refine V.aloadn 0 dT_addPerson_30 rfl rfl ?_
  refine V.dup dT_addPerson_31 rfl rfl ?_
  refine V.geti r0 dT_addPerson_32 flT_9 (tk0 ht_r0) rfl ?_
  refine V.iconst (1 : Int32) dT_addPerson_35 lc1 rfl ?_
  refine V.iadd dT_addPerson_36 rfl ?_
  refine V.puti r0 .int dT_addPerson_37 flT_9 fw2_0 (tk0 ht_r0) ⟨rfl, rfl⟩ rfl ?_
  replace hX := nmx hX; generalize sI σ6 r0 0 ((gI σ6 r0 0) + (1 : Int32)) = σ7 at hX ⊢; try dsimp only at hX
  refine V.aloadn 0 dT_addPerson_40 rfl rfl ?_
  refine V.geti r0 dT_addPerson_41 flT_9 (tk0 ht_r0) rfl ?_
  refine V.iconst (1 : Int32) dT_addPerson_44 lc1 rfl ?_
  refine V.isub dT_addPerson_45 rfl ?_
  have hX := (Option.some.inj hX).symm; subst hX; exact V.iret dT_addPerson_46 rfl rfl
theorem kT_addPerson {E : Ev} {σ σ2 : St} {r0 : Nat} {i1 : Int32} {z : Int32} (ht_r0 : isTb r0 = true) (h : fT_addPerson σ r0 i1 = some (z, σ2)) : Ct mT_addPerson E [.ref r0, .int i1] σ (some (.int z), σ2) := Ct.of (by decide) (Nat.le_of_ble_eq_true rfl) (wT_addPerson σ r0 i1 ht_r0 h)
theorem dX_readEnd_0 : decode mX_readEnd.1 0 = .ok (.aload_n 0, 1) := by decide +kernel
theorem dX_readEnd_1 : decode mX_readEnd.1 1 = .ok (.invokevirtual 30, 3) := by decide +kernel
theorem dX_readEnd_4 : decode mX_readEnd.1 4 = .ok (.aload_n 0, 1) := by decide +kernel
theorem dX_readEnd_5 : decode mX_readEnd.1 5 = .ok (.ldc 92, 2) := by decide +kernel
theorem dX_readEnd_7 : decode mX_readEnd.1 7 = .ok (.invokevirtual 39, 3) := by decide +kernel
theorem dX_readEnd_10 : decode mX_readEnd.1 10 = .ok (.ireturn, 1) := by decide +kernel
set_option maxRecDepth 4000 in
theorem wX_readEnd {E : Ev} {z : Int32 × St} (σ : St) (hX : fX_readEnd σ = some z) : V E mX_readEnd (FM E (some (.int z.1), z.2)) 0 [(0, .ref 25)] [] σ := by
  unfold fX_readEnd at hX
  refine V.aloadn 0 dX_readEnd_0 rfl rfl ?_
  obtain ⟨σ2, c1, hX⟩ := bd hX; try dsimp only at hX
  refine V.callv0 25 [] dX_readEnd_1 (kX_step c1) mlX_30 myX_step mnX_step ⟨rfl, rfl, by decide, by decide⟩ (rfl : kd 25 = (3, 0)) (by decide) rfl (Nat.le_of_ble_eq_true rfl) ⟨Nat.zero_le _, Nat.zero_le _⟩ rfl ?_
  refine V.aloadn 0 dX_readEnd_4 rfl rfl ?_
  refine V.ldcS 1 (by decide) rfl rfl dX_readEnd_5 rfl ?_
  obtain ⟨q3, c4, hX⟩ := bd hX; try dsimp only at hX
  refine V.callvi 25 [.ref 101] dX_readEnd_7 (kX_reads (rfl : isSb 101 = true) c4) mlX_39 myX_reads mnX_reads ⟨rfl, rfl, by decide, by decide⟩ (rfl : kd 25 = (3, 0)) (by decide) rfl (Nat.le_of_ble_eq_true rfl) ⟨Nat.zero_le _, Nat.zero_le _⟩ rfl ?_
  obtain ⟨h5, hX⟩ := ob hX
  have hX := (Option.some.inj hX).symm; subst hX; exact V.zret .boolean dX_readEnd_10 rfl (nz h5).1 rfl
theorem kX_readEnd {E : Ev} {σ σ2 : St} {z : Int32} (h : fX_readEnd σ = some (z, σ2)) : Ct mX_readEnd E [.ref 25] σ (some (.int z), σ2) := Ct.of (by decide) (Nat.le_of_ble_eq_true rfl) (wX_readEnd σ h)
theorem dX_readPerson_0 : decode mX_readPerson.1 0 = .ok (.aload_n 1, 1) := by decide +kernel
theorem dX_readPerson_1 : decode mX_readPerson.1 1 = .ok (.getfield 59, 3) := by decide +kernel
theorem dX_readPerson_4 : decode mX_readPerson.1 4 = .ok (.bipush 7, 2) := by decide +kernel
theorem dX_readPerson_6 : decode mX_readPerson.1 6 = .ok (.if_icmp .lt 5, 3) := by decide +kernel
theorem dX_readPerson_9 : decode mX_readPerson.1 9 = .ok (.iconst 0, 1) := by decide +kernel
theorem dX_readPerson_10 : decode mX_readPerson.1 10 = .ok (.ireturn, 1) := by decide +kernel
theorem dX_readPerson_11 : decode mX_readPerson.1 11 = .ok (.aload_n 0, 1) := by decide +kernel
theorem dX_readPerson_12 : decode mX_readPerson.1 12 = .ok (.iconst 0, 1) := by decide +kernel
theorem dX_readPerson_13 : decode mX_readPerson.1 13 = .ok (.bipush 9, 2) := by decide +kernel
theorem dX_readPerson_15 : decode mX_readPerson.1 15 = .ok (.invokevirtual 62, 3) := by decide +kernel
theorem dX_readPerson_18 : decode mX_readPerson.1 18 = .ok (.istore_n 2, 1) := by decide +kernel
theorem dX_readPerson_19 : decode mX_readPerson.1 19 = .ok (.iload_n 2, 1) := by decide +kernel
theorem dX_readPerson_20 : decode mX_readPerson.1 20 = .ok (.ifCond .ge 5, 3) := by decide +kernel
theorem dX_readPerson_23 : decode mX_readPerson.1 23 = .ok (.iconst 0, 1) := by decide +kernel
theorem dX_readPerson_24 : decode mX_readPerson.1 24 = .ok (.ireturn, 1) := by decide +kernel
theorem dX_readPerson_25 : decode mX_readPerson.1 25 = .ok (.aload_n 1, 1) := by decide +kernel
theorem dX_readPerson_26 : decode mX_readPerson.1 26 = .ok (.iload_n 2, 1) := by decide +kernel
theorem dX_readPerson_27 : decode mX_readPerson.1 27 = .ok (.invokevirtual 66, 3) := by decide +kernel
theorem dX_readPerson_30 : decode mX_readPerson.1 30 = .ok (.pop, 1) := by decide +kernel
theorem dX_readPerson_31 : decode mX_readPerson.1 31 = .ok (.aload_n 0, 1) := by decide +kernel
theorem dX_readPerson_32 : decode mX_readPerson.1 32 = .ok (.invokevirtual 70, 3) := by decide +kernel
theorem dX_readPerson_35 : decode mX_readPerson.1 35 = .ok (.ireturn, 1) := by decide +kernel
set_option maxRecDepth 4000 in
theorem wX_readPerson {E : Ev} {z : Int32 × St} (σ : St) (r1 : Nat) (ht_r1 : isTb r1 = true) (hX : fX_readPerson σ r1 = some z) : V E mX_readPerson (FM E (some (.int z.1), z.2)) 0 [(0, .ref 25), (1, .ref r1)] [] σ := by
  unfold fX_readPerson at hX
  refine V.aloadn 1 dX_readPerson_0 rfl rfl ?_
  refine V.geti r1 dX_readPerson_1 flX_59 (tk0 ht_r1) rfl ?_
  refine V.bipush (7 : Int32) dX_readPerson_4 lb7 rfl ?_
  refine V.icmplt 11 dX_readPerson_6 rfl rfl (fun g1 => ?_) (fun g1 => ?_)
  · replace hX := ip hX g1
    refine V.aloadn 0 dX_readPerson_11 rfl rfl ?_
    refine V.iconst (0 : Int32) dX_readPerson_12 lc0 rfl ?_
    refine V.bipush (9 : Int32) dX_readPerson_13 lb9 rfl ?_
    obtain ⟨q3, σ3, c2, hX⟩ := bi2 hX; try dsimp only at hX
    refine V.callvi 25 [.int (0 : Int32), .int (9 : Int32)] dX_readPerson_15 (kX_readNumber c2) mlX_62 myX_readNumber mnX_readNumber ⟨rfl, rfl, by decide, by decide⟩ (rfl : kd 25 = (3, 0)) (by decide) rfl (Nat.le_of_ble_eq_true rfl) ⟨Nat.zero_le _, Nat.zero_le _⟩ rfl ?_
    refine V.istoren _ dX_readPerson_18 (by decide) rfl rfl ?_
    refine V.iloadn 0 dX_readPerson_19 rfl rfl ?_
    refine V.ifge 25 dX_readPerson_20 rfl rfl (fun g4 => ?_) (fun g4 => ?_)
    · replace hX := ip hX g4
      refine V.aloadn 2 dX_readPerson_25 rfl rfl ?_
      refine V.iloadn 0 dX_readPerson_26 rfl rfl ?_
      obtain ⟨q6, σ6, c5, hX⟩ := bi2 hX; try dsimp only at hX
      refine V.callvi r1 [.int q3] dX_readPerson_27 (kT_addPerson ht_r1 c5) mlX_66 myT_addPerson mnT_addPerson ⟨rfl, rfl, by decide, by decide⟩ (tk0 ht_r1) (by decide) rfl (Nat.le_of_ble_eq_true rfl) ⟨Nat.zero_le _, Nat.zero_le _⟩ rfl ?_
      refine V.pop dX_readPerson_30 rfl rfl ?_
      refine V.aloadn 1 dX_readPerson_31 rfl rfl ?_
      obtain ⟨q8, σ8, c7, hX⟩ := bi2 hX; try dsimp only at hX
      refine V.callvi 25 [] dX_readPerson_32 (kX_readEnd c7) mlX_70 myX_readEnd mnX_readEnd ⟨rfl, rfl, by decide, by decide⟩ (rfl : kd 25 = (3, 0)) (by decide) rfl (Nat.le_of_ble_eq_true rfl) ⟨Nat.zero_le _, Nat.zero_le _⟩ rfl ?_
      obtain ⟨h9, hX⟩ := ob hX
      have hX := (Option.some.inj hX).symm; subst hX; exact V.zret .boolean dX_readPerson_35 rfl (nz h9).1 rfl
    · replace hX := im hX g4
      refine V.iconst (0 : Int32) dX_readPerson_23 lc0 rfl ?_
      have hX := (Option.some.inj hX).symm; subst hX; exact V.zret .boolean dX_readPerson_24 rfl (nz b01_0).1 rfl
  · replace hX := im hX g1
    refine V.iconst (0 : Int32) dX_readPerson_9 lc0 rfl ?_
    have hX := (Option.some.inj hX).symm; subst hX; exact V.zret .boolean dX_readPerson_10 rfl (nz b01_0).1 rfl
theorem kX_readPerson {E : Ev} {σ σ2 : St} {r1 : Nat} {z : Int32} (ht_r1 : isTb r1 = true) (h : fX_readPerson σ r1 = some (z, σ2)) : Ct mX_readPerson E [.ref 25, .ref r1] σ (some (.int z), σ2) := Ct.of (by decide) (Nat.le_of_ble_eq_true rfl) (wX_readPerson σ r1 ht_r1 h)
theorem dT_acquaint_0 : decode mT_acquaint.1 0 = .ok (.aload_n 0, 1) := by decide +kernel
theorem dT_acquaint_1 : decode mT_acquaint.1 1 = .ok (.getfield 28, 3) := by decide +kernel
theorem dT_acquaint_4 : decode mT_acquaint.1 4 = .ok (.iload_n 1, 1) := by decide +kernel
theorem dT_acquaint_5 : decode mT_acquaint.1 5 = .ok (.iload_n 3, 1) := by decide +kernel
theorem dT_acquaint_6 : decode mT_acquaint.1 6 = .ok (.ifCond .eq 16, 3) := by decide +kernel
theorem dT_acquaint_9 : decode mT_acquaint.1 9 = .ok (.aload_n 0, 1) := by decide +kernel
theorem dT_acquaint_10 : decode mT_acquaint.1 10 = .ok (.getfield 28, 3) := by decide +kernel
theorem dT_acquaint_13 : decode mT_acquaint.1 13 = .ok (.iload_n 1, 1) := by decide +kernel
theorem dT_acquaint_14 : decode mT_acquaint.1 14 = .ok (.iaload, 1) := by decide +kernel
theorem dT_acquaint_15 : decode mT_acquaint.1 15 = .ok (.iconst 1, 1) := by decide +kernel
theorem dT_acquaint_16 : decode mT_acquaint.1 16 = .ok (.iload_n 2, 1) := by decide +kernel
theorem dT_acquaint_17 : decode mT_acquaint.1 17 = .ok (.ishl, 1) := by decide +kernel
theorem dT_acquaint_18 : decode mT_acquaint.1 18 = .ok (.ior, 1) := by decide +kernel
theorem dT_acquaint_19 : decode mT_acquaint.1 19 = .ok (.goto 15, 3) := by decide +kernel
theorem dT_acquaint_22 : decode mT_acquaint.1 22 = .ok (.aload_n 0, 1) := by decide +kernel
theorem dT_acquaint_23 : decode mT_acquaint.1 23 = .ok (.getfield 28, 3) := by decide +kernel
theorem dT_acquaint_26 : decode mT_acquaint.1 26 = .ok (.iload_n 1, 1) := by decide +kernel
theorem dT_acquaint_27 : decode mT_acquaint.1 27 = .ok (.iaload, 1) := by decide +kernel
theorem dT_acquaint_28 : decode mT_acquaint.1 28 = .ok (.iconst 1, 1) := by decide +kernel
theorem dT_acquaint_29 : decode mT_acquaint.1 29 = .ok (.iload_n 2, 1) := by decide +kernel
theorem dT_acquaint_30 : decode mT_acquaint.1 30 = .ok (.ishl, 1) := by decide +kernel
theorem dT_acquaint_31 : decode mT_acquaint.1 31 = .ok (.iconst (-1), 1) := by decide +kernel
theorem dT_acquaint_32 : decode mT_acquaint.1 32 = .ok (.ixor, 1) := by decide +kernel
theorem dT_acquaint_33 : decode mT_acquaint.1 33 = .ok (.iand, 1) := by decide +kernel
theorem dT_acquaint_34 : decode mT_acquaint.1 34 = .ok (.iastore, 1) := by decide +kernel
theorem dT_acquaint_35 : decode mT_acquaint.1 35 = .ok (.aload_n 0, 1) := by decide +kernel
theorem dT_acquaint_36 : decode mT_acquaint.1 36 = .ok (.getfield 28, 3) := by decide +kernel
theorem dT_acquaint_39 : decode mT_acquaint.1 39 = .ok (.iload_n 2, 1) := by decide +kernel
theorem dT_acquaint_40 : decode mT_acquaint.1 40 = .ok (.iload_n 3, 1) := by decide +kernel
theorem dT_acquaint_41 : decode mT_acquaint.1 41 = .ok (.ifCond .eq 16, 3) := by decide +kernel
theorem dT_acquaint_44 : decode mT_acquaint.1 44 = .ok (.aload_n 0, 1) := by decide +kernel
theorem dT_acquaint_45 : decode mT_acquaint.1 45 = .ok (.getfield 28, 3) := by decide +kernel
theorem dT_acquaint_48 : decode mT_acquaint.1 48 = .ok (.iload_n 2, 1) := by decide +kernel
theorem dT_acquaint_49 : decode mT_acquaint.1 49 = .ok (.iaload, 1) := by decide +kernel
theorem dT_acquaint_50 : decode mT_acquaint.1 50 = .ok (.iconst 1, 1) := by decide +kernel
theorem dT_acquaint_51 : decode mT_acquaint.1 51 = .ok (.iload_n 1, 1) := by decide +kernel
theorem dT_acquaint_52 : decode mT_acquaint.1 52 = .ok (.ishl, 1) := by decide +kernel
theorem dT_acquaint_53 : decode mT_acquaint.1 53 = .ok (.ior, 1) := by decide +kernel
theorem dT_acquaint_54 : decode mT_acquaint.1 54 = .ok (.goto 15, 3) := by decide +kernel
theorem dT_acquaint_57 : decode mT_acquaint.1 57 = .ok (.aload_n 0, 1) := by decide +kernel
theorem dT_acquaint_58 : decode mT_acquaint.1 58 = .ok (.getfield 28, 3) := by decide +kernel
theorem dT_acquaint_61 : decode mT_acquaint.1 61 = .ok (.iload_n 2, 1) := by decide +kernel
theorem dT_acquaint_62 : decode mT_acquaint.1 62 = .ok (.iaload, 1) := by decide +kernel
theorem dT_acquaint_63 : decode mT_acquaint.1 63 = .ok (.iconst 1, 1) := by decide +kernel
theorem dT_acquaint_64 : decode mT_acquaint.1 64 = .ok (.iload_n 1, 1) := by decide +kernel
theorem dT_acquaint_65 : decode mT_acquaint.1 65 = .ok (.ishl, 1) := by decide +kernel
theorem dT_acquaint_66 : decode mT_acquaint.1 66 = .ok (.iconst (-1), 1) := by decide +kernel
theorem dT_acquaint_67 : decode mT_acquaint.1 67 = .ok (.ixor, 1) := by decide +kernel
theorem dT_acquaint_68 : decode mT_acquaint.1 68 = .ok (.iand, 1) := by decide +kernel
theorem dT_acquaint_69 : decode mT_acquaint.1 69 = .ok (.iastore, 1) := by decide +kernel
theorem dT_acquaint_70 : decode mT_acquaint.1 70 = .ok (.return_, 1) := by decide +kernel
set_option maxRecDepth 4000 in
theorem wT_acquaint_34 {E : Ev} {z : St} (σ : St) (r0 : Nat) (i1 : Int32) (i2 : Int32) (i3 : Int32) (is0 : Int32) (is1 : Int32) (sr2 : Nat) (ht_r0 : isTb r0 = true) (hk_sr2 : kd sr2 = (7, 7)) (hX : fT_acquaint_34 σ r0 i1 i2 i3 is0 is1 sr2 = some z) : V E mT_acquaint (FM E (none, z)) 34 [(0, .ref r0), (1, .int i1), (2, .int i2), (3, .int i3)] [.int is0, .int is1, .ref sr2] σ := by
  unfold fT_acquaint_34 at hX
  obtain ⟨h3, hX⟩ := ob hX
  refine V.iast sr2 dT_acquaint_34 hk_sr2 h3 rfl ?_
  replace hX := nmx hX; generalize sI σ sr2 (ix is1) is0 = σ4 at hX ⊢; try dsimp only at hX
  refine V.aloadn 0 dT_acquaint_35 rfl rfl ?_
  refine V.getr r0 (r0 + 3) dT_acquaint_36 flT_28 (tk0 ht_r0) rfl rfl ?_
  refine V.iloadn 2 dT_acquaint_39 rfl rfl ?_
  refine V.iloadn 3 dT_acquaint_40 rfl rfl ?_
  refine V.ifeq 57 dT_acquaint_41 rfl rfl (fun g5 => ?_) (fun g5 => ?_)
  · replace hX := ip hX g5
    refine V.aloadn 0 dT_acquaint_57 rfl rfl ?_
    refine V.getr r0 (r0 + 3) dT_acquaint_58 flT_28 (tk0 ht_r0) rfl rfl ?_
    refine V.iloadn 2 dT_acquaint_61 rfl rfl ?_
    obtain ⟨h6, hX⟩ := ob hX
    refine V.iald (r0 + 3) dT_acquaint_62 (tk3 ht_r0) h6 rfl ?_
    refine V.iconst (1 : Int32) dT_acquaint_63 lc1 rfl ?_
    refine V.iloadn 1 dT_acquaint_64 rfl rfl ?_
    refine V.ishl dT_acquaint_65 rfl ?_
    refine V.iconst (-1 : Int32) dT_acquaint_66 lcm1 rfl ?_
    refine V.ixor dT_acquaint_67 rfl ?_
    refine V.iand dT_acquaint_68 rfl ?_
    obtain ⟨h7, hX⟩ := ob hX
    refine V.iast (r0 + 3) dT_acquaint_69 (tk3 ht_r0) h7 rfl ?_
    replace hX := nmx hX; generalize sI σ4 (r0 + 3) (ix i2) ((gI σ4 (r0 + 3) (ix i2)) &&& (((1 : Int32) <<< (i1 &&& 31)) ^^^ (-1 : Int32))) = σ8 at hX ⊢; try dsimp only at hX
    have hX := (Option.some.inj hX).symm; subst hX; exact V.vret dT_acquaint_70 rfl rfl
  · replace hX := im hX g5
    refine V.aloadn 0 dT_acquaint_44 rfl rfl ?_
    refine V.getr r0 (r0 + 3) dT_acquaint_45 flT_28 (tk0 ht_r0) rfl rfl ?_
    refine V.iloadn 2 dT_acquaint_48 rfl rfl ?_
    obtain ⟨h9, hX⟩ := ob hX
    refine V.iald (r0 + 3) dT_acquaint_49 (tk3 ht_r0) h9 rfl ?_
    refine V.iconst (1 : Int32) dT_acquaint_50 lc1 rfl ?_
    refine V.iloadn 1 dT_acquaint_51 rfl rfl ?_
    refine V.ishl dT_acquaint_52 rfl ?_
    refine V.ior dT_acquaint_53 rfl ?_
    refine V.goto 69 dT_acquaint_54 rfl ?_
    obtain ⟨h10, hX⟩ := ob hX
    refine V.iast (r0 + 3) dT_acquaint_69 (tk3 ht_r0) h10 rfl ?_
    replace hX := nmx hX; generalize sI σ4 (r0 + 3) (ix i2) ((gI σ4 (r0 + 3) (ix i2)) ||| ((1 : Int32) <<< (i1 &&& 31))) = σ11 at hX ⊢; try dsimp only at hX
    have hX := (Option.some.inj hX).symm; subst hX; exact V.vret dT_acquaint_70 rfl rfl
set_option maxRecDepth 4000 in
theorem wT_acquaint {E : Ev} {z : St} (σ : St) (r0 : Nat) (i1 : Int32) (i2 : Int32) (i3 : Int32) (ht_r0 : isTb r0 = true) (hX : fT_acquaint σ r0 i1 i2 i3 = some z) : V E mT_acquaint (FM E (none, z)) 0 [(0, .ref r0), (1, .int i1), (2, .int i2), (3, .int i3)] [] σ := by
  unfold fT_acquaint at hX
  refine V.aloadn 0 dT_acquaint_0 rfl rfl ?_
  refine V.getr r0 (r0 + 3) dT_acquaint_1 flT_28 (tk0 ht_r0) rfl rfl ?_
  refine V.iloadn 1 dT_acquaint_4 rfl rfl ?_
  refine V.iloadn 3 dT_acquaint_5 rfl rfl ?_
  refine V.ifeq 22 dT_acquaint_6 rfl rfl (fun g1 => ?_) (fun g1 => ?_)
  · replace hX := ip hX g1
    refine V.aloadn 0 dT_acquaint_22 rfl rfl ?_
    refine V.getr r0 (r0 + 3) dT_acquaint_23 flT_28 (tk0 ht_r0) rfl rfl ?_
    refine V.iloadn 1 dT_acquaint_26 rfl rfl ?_
    obtain ⟨h2, hX⟩ := ob hX
    refine V.iald (r0 + 3) dT_acquaint_27 (tk3 ht_r0) h2 rfl ?_
    refine V.iconst (1 : Int32) dT_acquaint_28 lc1 rfl ?_
    refine V.iloadn 2 dT_acquaint_29 rfl rfl ?_
    refine V.ishl dT_acquaint_30 rfl ?_
    refine V.iconst (-1 : Int32) dT_acquaint_31 lcm1 rfl ?_
    refine V.ixor dT_acquaint_32 rfl ?_
    refine V.iand dT_acquaint_33 rfl ?_
    refine V.sub [0, 1, 2, 3] rfl ?_
    exact wT_acquaint_34 σ r0 i1 i2 i3 ((gI σ (r0 + 3) (ix i1)) &&& (((1 : Int32) <<< (i2 &&& 31)) ^^^ (-1 : Int32))) i1 (r0 + 3) ht_r0 (tk3 ht_r0) hX
  · replace hX := im hX g1
    refine V.aloadn 0 dT_acquaint_9 rfl rfl ?_
    refine V.getr r0 (r0 + 3) dT_acquaint_10 flT_28 (tk0 ht_r0) rfl rfl ?_
    refine V.iloadn 1 dT_acquaint_13 rfl rfl ?_
    obtain ⟨h12, hX⟩ := ob hX
    refine V.iald (r0 + 3) dT_acquaint_14 (tk3 ht_r0) h12 rfl ?_
    refine V.iconst (1 : Int32) dT_acquaint_15 lc1 rfl ?_
    refine V.iloadn 2 dT_acquaint_16 rfl rfl ?_
    refine V.ishl dT_acquaint_17 rfl ?_
    refine V.ior dT_acquaint_18 rfl ?_
    refine V.goto 34 dT_acquaint_19 rfl ?_
    refine V.sub [0, 1, 2, 3] rfl ?_
    exact wT_acquaint_34 σ r0 i1 i2 i3 ((gI σ (r0 + 3) (ix i1)) ||| ((1 : Int32) <<< (i2 &&& 31))) i1 (r0 + 3) ht_r0 (tk3 ht_r0) hX
theorem kT_acquaint {E : Ev} {σ z : St} {r0 : Nat} {i1 : Int32} {i2 : Int32} {i3 : Int32} (ht_r0 : isTb r0 = true) (h : fT_acquaint σ r0 i1 i2 i3 = some z) : Ct mT_acquaint E [.ref r0, .int i1, .int i2, .int i3] σ (none, z) := Ct.of (by decide) (Nat.le_of_ble_eq_true rfl) (wT_acquaint σ r0 i1 i2 i3 ht_r0 h)
theorem dX_readKnow_0 : decode mX_readKnow.1 0 = .ok (.aload_n 0, 1) := by decide +kernel
theorem dX_readKnow_1 : decode mX_readKnow.1 1 = .ok (.iconst 0, 1) := by decide +kernel
theorem dX_readKnow_2 : decode mX_readKnow.1 2 = .ok (.aload_n 1, 1) := by decide +kernel
theorem dX_readKnow_3 : decode mX_readKnow.1 3 = .ok (.getfield 59, 3) := by decide +kernel
theorem dX_readKnow_6 : decode mX_readKnow.1 6 = .ok (.iconst 1, 1) := by decide +kernel
theorem dX_readKnow_7 : decode mX_readKnow.1 7 = .ok (.isub, 1) := by decide +kernel
theorem dX_readKnow_8 : decode mX_readKnow.1 8 = .ok (.invokevirtual 62, 3) := by decide +kernel
theorem dX_readKnow_11 : decode mX_readKnow.1 11 = .ok (.istore_n 2, 1) := by decide +kernel
theorem dX_readKnow_12 : decode mX_readKnow.1 12 = .ok (.iload_n 2, 1) := by decide +kernel
theorem dX_readKnow_13 : decode mX_readKnow.1 13 = .ok (.ifCond .ge 5, 3) := by decide +kernel
theorem dX_readKnow_16 : decode mX_readKnow.1 16 = .ok (.iconst 0, 1) := by decide +kernel
theorem dX_readKnow_17 : decode mX_readKnow.1 17 = .ok (.ireturn, 1) := by decide +kernel
theorem dX_readKnow_18 : decode mX_readKnow.1 18 = .ok (.aload_n 0, 1) := by decide +kernel
theorem dX_readKnow_19 : decode mX_readKnow.1 19 = .ok (.iconst 0, 1) := by decide +kernel
theorem dX_readKnow_20 : decode mX_readKnow.1 20 = .ok (.aload_n 1, 1) := by decide +kernel
theorem dX_readKnow_21 : decode mX_readKnow.1 21 = .ok (.getfield 59, 3) := by decide +kernel
theorem dX_readKnow_24 : decode mX_readKnow.1 24 = .ok (.iconst 1, 1) := by decide +kernel
theorem dX_readKnow_25 : decode mX_readKnow.1 25 = .ok (.isub, 1) := by decide +kernel
theorem dX_readKnow_26 : decode mX_readKnow.1 26 = .ok (.invokevirtual 62, 3) := by decide +kernel
theorem dX_readKnow_29 : decode mX_readKnow.1 29 = .ok (.istore_n 3, 1) := by decide +kernel
theorem dX_readKnow_30 : decode mX_readKnow.1 30 = .ok (.iload_n 3, 1) := by decide +kernel
theorem dX_readKnow_31 : decode mX_readKnow.1 31 = .ok (.ifCond .lt 8, 3) := by decide +kernel
theorem dX_readKnow_34 : decode mX_readKnow.1 34 = .ok (.iload_n 3, 1) := by decide +kernel
theorem dX_readKnow_35 : decode mX_readKnow.1 35 = .ok (.iload_n 2, 1) := by decide +kernel
theorem dX_readKnow_36 : decode mX_readKnow.1 36 = .ok (.if_icmp .ne 5, 3) := by decide +kernel
theorem dX_readKnow_39 : decode mX_readKnow.1 39 = .ok (.iconst 0, 1) := by decide +kernel
theorem dX_readKnow_40 : decode mX_readKnow.1 40 = .ok (.ireturn, 1) := by decide +kernel
theorem dX_readKnow_41 : decode mX_readKnow.1 41 = .ok (.aload_n 1, 1) := by decide +kernel
theorem dX_readKnow_42 : decode mX_readKnow.1 42 = .ok (.iload_n 2, 1) := by decide +kernel
theorem dX_readKnow_43 : decode mX_readKnow.1 43 = .ok (.iload_n 3, 1) := by decide +kernel
theorem dX_readKnow_44 : decode mX_readKnow.1 44 = .ok (.iconst 1, 1) := by decide +kernel
theorem dX_readKnow_45 : decode mX_readKnow.1 45 = .ok (.invokevirtual 74, 3) := by decide +kernel
theorem dX_readKnow_48 : decode mX_readKnow.1 48 = .ok (.aload_n 0, 1) := by decide +kernel
theorem dX_readKnow_49 : decode mX_readKnow.1 49 = .ok (.invokevirtual 70, 3) := by decide +kernel
theorem dX_readKnow_52 : decode mX_readKnow.1 52 = .ok (.ireturn, 1) := by decide +kernel
set_option maxRecDepth 4000 in
theorem wX_readKnow {E : Ev} {z : Int32 × St} (σ : St) (r1 : Nat) (ht_r1 : isTb r1 = true) (hX : fX_readKnow σ r1 = some z) : V E mX_readKnow (FM E (some (.int z.1), z.2)) 0 [(0, .ref 25), (1, .ref r1)] [] σ := by
  unfold fX_readKnow at hX
  refine V.aloadn 0 dX_readKnow_0 rfl rfl ?_
  refine V.iconst (0 : Int32) dX_readKnow_1 lc0 rfl ?_
  refine V.aloadn 1 dX_readKnow_2 rfl rfl ?_
  refine V.geti r1 dX_readKnow_3 flX_59 (tk0 ht_r1) rfl ?_
  refine V.iconst (1 : Int32) dX_readKnow_6 lc1 rfl ?_
  refine V.isub dX_readKnow_7 rfl ?_
  obtain ⟨q2, σ2, c1, hX⟩ := bi2 hX; try dsimp only at hX
  refine V.callvi 25 [.int (0 : Int32), .int ((gI σ r1 0) - (1 : Int32))] dX_readKnow_8 (kX_readNumber c1) mlX_62 myX_readNumber mnX_readNumber ⟨rfl, rfl, by decide, by decide⟩ (rfl : kd 25 = (3, 0)) (by decide) rfl (Nat.le_of_ble_eq_true rfl) ⟨Nat.zero_le _, Nat.zero_le _⟩ rfl ?_
  refine V.istoren _ dX_readKnow_11 (by decide) rfl rfl ?_
  refine V.iloadn 0 dX_readKnow_12 rfl rfl ?_
  refine V.ifge 18 dX_readKnow_13 rfl rfl (fun g3 => ?_) (fun g3 => ?_)
  · replace hX := ip hX g3
    refine V.aloadn 1 dX_readKnow_18 rfl rfl ?_
    refine V.iconst (0 : Int32) dX_readKnow_19 lc0 rfl ?_
    refine V.aloadn 2 dX_readKnow_20 rfl rfl ?_
    refine V.geti r1 dX_readKnow_21 flX_59 (tk0 ht_r1) rfl ?_
    refine V.iconst (1 : Int32) dX_readKnow_24 lc1 rfl ?_
    refine V.isub dX_readKnow_25 rfl ?_
    obtain ⟨q5, σ5, c4, hX⟩ := bi2 hX; try dsimp only at hX
    refine V.callvi 25 [.int (0 : Int32), .int ((gI σ2 r1 0) - (1 : Int32))] dX_readKnow_26 (kX_readNumber c4) mlX_62 myX_readNumber mnX_readNumber ⟨rfl, rfl, by decide, by decide⟩ (rfl : kd 25 = (3, 0)) (by decide) rfl (Nat.le_of_ble_eq_true rfl) ⟨Nat.zero_le _, Nat.zero_le _⟩ rfl ?_
    refine V.istoren _ dX_readKnow_29 (by decide) rfl rfl ?_
    refine V.iloadn 0 dX_readKnow_30 rfl rfl ?_
    refine V.iflt 39 dX_readKnow_31 rfl rfl (fun g6 => ?_) (fun g6 => ?_)
    · replace hX := ip hX g6
      refine V.iconst (0 : Int32) dX_readKnow_39 lc0 rfl ?_
      have hX := (Option.some.inj hX).symm; subst hX; exact V.zret .boolean dX_readKnow_40 rfl (nz b01_0).1 rfl
    · replace hX := im hX g6
      refine V.iloadn 0 dX_readKnow_34 rfl rfl ?_
      refine V.iloadn 1 dX_readKnow_35 rfl rfl ?_
      refine V.icmpne 41 dX_readKnow_36 rfl rfl (fun g7 => ?_) (fun g7 => ?_)
      · replace hX := im hX g7
        refine V.aloadn 3 dX_readKnow_41 rfl rfl ?_
        refine V.iloadn 1 dX_readKnow_42 rfl rfl ?_
        refine V.iloadn 0 dX_readKnow_43 rfl rfl ?_
        refine V.iconst (1 : Int32) dX_readKnow_44 lc1 rfl ?_
        obtain ⟨σ9, c8, hX⟩ := bd hX; try dsimp only at hX
        refine V.callv0 r1 [.int q2, .int q5, .int (1 : Int32)] dX_readKnow_45 (kT_acquaint ht_r1 c8) mlX_74 myT_acquaint mnT_acquaint ⟨rfl, rfl, by decide, by decide⟩ (tk0 ht_r1) (by decide) rfl (Nat.le_of_ble_eq_true rfl) ⟨Nat.zero_le _, Nat.zero_le _⟩ rfl ?_
        refine V.aloadn 2 dX_readKnow_48 rfl rfl ?_
        obtain ⟨q11, σ11, c10, hX⟩ := bi2 hX; try dsimp only at hX
        refine V.callvi 25 [] dX_readKnow_49 (kX_readEnd c10) mlX_70 myX_readEnd mnX_readEnd ⟨rfl, rfl, by decide, by decide⟩ (rfl : kd 25 = (3, 0)) (by decide) rfl (Nat.le_of_ble_eq_true rfl) ⟨Nat.zero_le _, Nat.zero_le _⟩ rfl ?_
        obtain ⟨h12, hX⟩ := ob hX
        have hX := (Option.some.inj hX).symm; subst hX; exact V.zret .boolean dX_readKnow_52 rfl (nz h12).1 rfl
      · replace hX := ip hX g7
        refine V.iconst (0 : Int32) dX_readKnow_39 lc0 rfl ?_
        have hX := (Option.some.inj hX).symm; subst hX; exact V.zret .boolean dX_readKnow_40 rfl (nz b01_0).1 rfl
  · replace hX := im hX g3
    refine V.iconst (0 : Int32) dX_readKnow_16 lc0 rfl ?_
    have hX := (Option.some.inj hX).symm; subst hX; exact V.zret .boolean dX_readKnow_17 rfl (nz b01_0).1 rfl
theorem kX_readKnow {E : Ev} {σ σ2 : St} {r1 : Nat} {z : Int32} (ht_r1 : isTb r1 = true) (h : fX_readKnow σ r1 = some (z, σ2)) : Ct mX_readKnow E [.ref 25, .ref r1] σ (some (.int z), σ2) := Ct.of (by decide) (Nat.le_of_ble_eq_true rfl) (wX_readKnow σ r1 ht_r1 h)
theorem dX_kindRead_0 : decode mX_kindRead.1 0 = .ok (.aload_n 0, 1) := by decide +kernel
theorem dX_kindRead_1 : decode mX_kindRead.1 1 = .ok (.ldc 102, 2) := by decide +kernel
theorem dX_kindRead_3 : decode mX_kindRead.1 3 = .ok (.invokevirtual 39, 3) := by decide +kernel
theorem dX_kindRead_6 : decode mX_kindRead.1 6 = .ok (.ifCond .eq 5, 3) := by decide +kernel
theorem dX_kindRead_9 : decode mX_kindRead.1 9 = .ok (.iconst 0, 1) := by decide +kernel
theorem dX_kindRead_10 : decode mX_kindRead.1 10 = .ok (.ireturn, 1) := by decide +kernel
theorem dX_kindRead_11 : decode mX_kindRead.1 11 = .ok (.aload_n 0, 1) := by decide +kernel
theorem dX_kindRead_12 : decode mX_kindRead.1 12 = .ok (.ldc 104, 2) := by decide +kernel
theorem dX_kindRead_14 : decode mX_kindRead.1 14 = .ok (.invokevirtual 39, 3) := by decide +kernel
theorem dX_kindRead_17 : decode mX_kindRead.1 17 = .ok (.ifCond .eq 5, 3) := by decide +kernel
theorem dX_kindRead_20 : decode mX_kindRead.1 20 = .ok (.iconst 1, 1) := by decide +kernel
theorem dX_kindRead_21 : decode mX_kindRead.1 21 = .ok (.ireturn, 1) := by decide +kernel
theorem dX_kindRead_22 : decode mX_kindRead.1 22 = .ok (.aload_n 0, 1) := by decide +kernel
theorem dX_kindRead_23 : decode mX_kindRead.1 23 = .ok (.ldc 106, 2) := by decide +kernel
theorem dX_kindRead_25 : decode mX_kindRead.1 25 = .ok (.invokevirtual 39, 3) := by decide +kernel
theorem dX_kindRead_28 : decode mX_kindRead.1 28 = .ok (.ifCond .eq 5, 3) := by decide +kernel
theorem dX_kindRead_31 : decode mX_kindRead.1 31 = .ok (.iconst 2, 1) := by decide +kernel
theorem dX_kindRead_32 : decode mX_kindRead.1 32 = .ok (.ireturn, 1) := by decide +kernel
theorem dX_kindRead_33 : decode mX_kindRead.1 33 = .ok (.aload_n 0, 1) := by decide +kernel
theorem dX_kindRead_34 : decode mX_kindRead.1 34 = .ok (.ldc 108, 2) := by decide +kernel
theorem dX_kindRead_36 : decode mX_kindRead.1 36 = .ok (.invokevirtual 39, 3) := by decide +kernel
theorem dX_kindRead_39 : decode mX_kindRead.1 39 = .ok (.ifCond .eq 5, 3) := by decide +kernel
theorem dX_kindRead_42 : decode mX_kindRead.1 42 = .ok (.iconst 3, 1) := by decide +kernel
theorem dX_kindRead_43 : decode mX_kindRead.1 43 = .ok (.ireturn, 1) := by decide +kernel
theorem dX_kindRead_44 : decode mX_kindRead.1 44 = .ok (.aload_n 0, 1) := by decide +kernel
theorem dX_kindRead_45 : decode mX_kindRead.1 45 = .ok (.ldc 110, 2) := by decide +kernel
theorem dX_kindRead_47 : decode mX_kindRead.1 47 = .ok (.invokevirtual 39, 3) := by decide +kernel
theorem dX_kindRead_50 : decode mX_kindRead.1 50 = .ok (.ifCond .eq 5, 3) := by decide +kernel
theorem dX_kindRead_53 : decode mX_kindRead.1 53 = .ok (.iconst 4, 1) := by decide +kernel
theorem dX_kindRead_54 : decode mX_kindRead.1 54 = .ok (.ireturn, 1) := by decide +kernel
theorem dX_kindRead_55 : decode mX_kindRead.1 55 = .ok (.aload_n 0, 1) := by decide +kernel
theorem dX_kindRead_56 : decode mX_kindRead.1 56 = .ok (.ldc 112, 2) := by decide +kernel
theorem dX_kindRead_58 : decode mX_kindRead.1 58 = .ok (.invokevirtual 39, 3) := by decide +kernel
theorem dX_kindRead_61 : decode mX_kindRead.1 61 = .ok (.ifCond .eq 7, 3) := by decide +kernel
theorem dX_kindRead_64 : decode mX_kindRead.1 64 = .ok (.iconst 5, 1) := by decide +kernel
theorem dX_kindRead_65 : decode mX_kindRead.1 65 = .ok (.goto 4, 3) := by decide +kernel
theorem dX_kindRead_68 : decode mX_kindRead.1 68 = .ok (.iconst (-1), 1) := by decide +kernel
theorem dX_kindRead_69 : decode mX_kindRead.1 69 = .ok (.ireturn, 1) := by decide +kernel
set_option maxRecDepth 4000 in
theorem wX_kindRead {E : Ev} {z : Int32} (σ : St) (hX : fX_kindRead σ = some z) : V E mX_kindRead (FM E (some (.int z), σ)) 0 [(0, .ref 25)] [] σ := by
  unfold fX_kindRead at hX
  refine V.aloadn 0 dX_kindRead_0 rfl rfl ?_
  refine V.ldcS 3 (by decide) rfl rfl dX_kindRead_1 rfl ?_
  obtain ⟨q1, c2, hX⟩ := bd hX; try dsimp only at hX
  refine V.callvi 25 [.ref 103] dX_kindRead_3 (kX_reads (rfl : isSb 103 = true) c2) mlX_39 myX_reads mnX_reads ⟨rfl, rfl, by decide, by decide⟩ (rfl : kd 25 = (3, 0)) (by decide) rfl (Nat.le_of_ble_eq_true rfl) ⟨Nat.zero_le _, Nat.zero_le _⟩ rfl ?_
  refine V.ifeq 11 dX_kindRead_6 rfl rfl (fun g3 => ?_) (fun g3 => ?_)
  · replace hX := ip hX g3
    refine V.aloadn 0 dX_kindRead_11 rfl rfl ?_
    refine V.ldcS 4 (by decide) rfl rfl dX_kindRead_12 rfl ?_
    obtain ⟨q4, c5, hX⟩ := bd hX; try dsimp only at hX
    refine V.callvi 25 [.ref 104] dX_kindRead_14 (kX_reads (rfl : isSb 104 = true) c5) mlX_39 myX_reads mnX_reads ⟨rfl, rfl, by decide, by decide⟩ (rfl : kd 25 = (3, 0)) (by decide) rfl (Nat.le_of_ble_eq_true rfl) ⟨Nat.zero_le _, Nat.zero_le _⟩ rfl ?_
    refine V.ifeq 22 dX_kindRead_17 rfl rfl (fun g6 => ?_) (fun g6 => ?_)
    · replace hX := ip hX g6
      refine V.aloadn 0 dX_kindRead_22 rfl rfl ?_
      refine V.ldcS 5 (by decide) rfl rfl dX_kindRead_23 rfl ?_
      obtain ⟨q7, c8, hX⟩ := bd hX; try dsimp only at hX
      refine V.callvi 25 [.ref 105] dX_kindRead_25 (kX_reads (rfl : isSb 105 = true) c8) mlX_39 myX_reads mnX_reads ⟨rfl, rfl, by decide, by decide⟩ (rfl : kd 25 = (3, 0)) (by decide) rfl (Nat.le_of_ble_eq_true rfl) ⟨Nat.zero_le _, Nat.zero_le _⟩ rfl ?_
      refine V.ifeq 33 dX_kindRead_28 rfl rfl (fun g9 => ?_) (fun g9 => ?_)
      · replace hX := ip hX g9
        refine V.aloadn 0 dX_kindRead_33 rfl rfl ?_
        refine V.ldcS 6 (by decide) rfl rfl dX_kindRead_34 rfl ?_
        obtain ⟨q10, c11, hX⟩ := bd hX; try dsimp only at hX
        refine V.callvi 25 [.ref 106] dX_kindRead_36 (kX_reads (rfl : isSb 106 = true) c11) mlX_39 myX_reads mnX_reads ⟨rfl, rfl, by decide, by decide⟩ (rfl : kd 25 = (3, 0)) (by decide) rfl (Nat.le_of_ble_eq_true rfl) ⟨Nat.zero_le _, Nat.zero_le _⟩ rfl ?_
        refine V.ifeq 44 dX_kindRead_39 rfl rfl (fun g12 => ?_) (fun g12 => ?_)
        · replace hX := ip hX g12
          refine V.aloadn 0 dX_kindRead_44 rfl rfl ?_
          refine V.ldcS 7 (by decide) rfl rfl dX_kindRead_45 rfl ?_
          obtain ⟨q13, c14, hX⟩ := bd hX; try dsimp only at hX
          refine V.callvi 25 [.ref 107] dX_kindRead_47 (kX_reads (rfl : isSb 107 = true) c14) mlX_39 myX_reads mnX_reads ⟨rfl, rfl, by decide, by decide⟩ (rfl : kd 25 = (3, 0)) (by decide) rfl (Nat.le_of_ble_eq_true rfl) ⟨Nat.zero_le _, Nat.zero_le _⟩ rfl ?_
          refine V.ifeq 55 dX_kindRead_50 rfl rfl (fun g15 => ?_) (fun g15 => ?_)
          · replace hX := ip hX g15
            refine V.aloadn 0 dX_kindRead_55 rfl rfl ?_
            refine V.ldcS 8 (by decide) rfl rfl dX_kindRead_56 rfl ?_
            obtain ⟨q16, c17, hX⟩ := bd hX; try dsimp only at hX
            refine V.callvi 25 [.ref 108] dX_kindRead_58 (kX_reads (rfl : isSb 108 = true) c17) mlX_39 myX_reads mnX_reads ⟨rfl, rfl, by decide, by decide⟩ (rfl : kd 25 = (3, 0)) (by decide) rfl (Nat.le_of_ble_eq_true rfl) ⟨Nat.zero_le _, Nat.zero_le _⟩ rfl ?_
            have JJ : V E mX_kindRead (FM E (some (.int z), σ)) 69 [(0, .ref 25)] [.int (if q16 = 0 then (-1 : Int32) else (5 : Int32))] σ := by
              have hX := (Option.some.inj hX).symm; subst hX; exact V.iret dX_kindRead_69 rfl rfl
            refine V.ifeq 68 dX_kindRead_61 rfl rfl (fun g18 => ?_) (fun g18 => ?_)
            · refine V.iconst (-1 : Int32) dX_kindRead_68 lcm1 rfl ?_
              exact V.top (if_pos g18).symm JJ
            · refine V.iconst (5 : Int32) dX_kindRead_64 lc5 rfl ?_
              refine V.goto 69 dX_kindRead_65 rfl ?_
              exact V.top (if_neg g18).symm JJ
          · replace hX := im hX g15
            refine V.iconst (4 : Int32) dX_kindRead_53 lc4 rfl ?_
            have hX := (Option.some.inj hX).symm; subst hX; exact V.iret dX_kindRead_54 rfl rfl
        · replace hX := im hX g12
          refine V.iconst (3 : Int32) dX_kindRead_42 lc3 rfl ?_
          have hX := (Option.some.inj hX).symm; subst hX; exact V.iret dX_kindRead_43 rfl rfl
      · replace hX := im hX g9
        refine V.iconst (2 : Int32) dX_kindRead_31 lc2 rfl ?_
        have hX := (Option.some.inj hX).symm; subst hX; exact V.iret dX_kindRead_32 rfl rfl
    · replace hX := im hX g6
      refine V.iconst (1 : Int32) dX_kindRead_20 lc1 rfl ?_
      have hX := (Option.some.inj hX).symm; subst hX; exact V.iret dX_kindRead_21 rfl rfl
  · replace hX := im hX g3
    refine V.iconst (0 : Int32) dX_kindRead_9 lc0 rfl ?_
    have hX := (Option.some.inj hX).symm; subst hX; exact V.iret dX_kindRead_10 rfl rfl
theorem kX_kindRead {E : Ev} {σ : St} {z : Int32} (h : fX_kindRead σ = some z) : Ct mX_kindRead E [.ref 25] σ (some (.int z), σ) := Ct.of (by decide) (Nat.le_of_ble_eq_true rfl) (wX_kindRead σ h)
theorem dT_addCoin_0 : decode mT_addCoin.1 0 = .ok (.aload_n 0, 1) := by decide +kernel
theorem dT_addCoin_1 : decode mT_addCoin.1 1 = .ok (.getfield 31, 3) := by decide +kernel
theorem dT_addCoin_4 : decode mT_addCoin.1 4 = .ok (.aload_n 0, 1) := by decide +kernel
theorem dT_addCoin_5 : decode mT_addCoin.1 5 = .ok (.getfield 15, 3) := by decide +kernel
theorem dT_addCoin_8 : decode mT_addCoin.1 8 = .ok (.iload_n 1, 1) := by decide +kernel
theorem dT_addCoin_9 : decode mT_addCoin.1 9 = .ok (.iastore, 1) := by decide +kernel
theorem dT_addCoin_10 : decode mT_addCoin.1 10 = .ok (.aload_n 0, 1) := by decide +kernel
theorem dT_addCoin_11 : decode mT_addCoin.1 11 = .ok (.getfield 34, 3) := by decide +kernel
theorem dT_addCoin_14 : decode mT_addCoin.1 14 = .ok (.aload_n 0, 1) := by decide +kernel
theorem dT_addCoin_15 : decode mT_addCoin.1 15 = .ok (.getfield 15, 3) := by decide +kernel
theorem dT_addCoin_18 : decode mT_addCoin.1 18 = .ok (.iload_n 2, 1) := by decide +kernel
theorem dT_addCoin_19 : decode mT_addCoin.1 19 = .ok (.iastore, 1) := by decide +kernel
theorem dT_addCoin_20 : decode mT_addCoin.1 20 = .ok (.aload_n 0, 1) := by decide +kernel
theorem dT_addCoin_21 : decode mT_addCoin.1 21 = .ok (.getfield 37, 3) := by decide +kernel
theorem dT_addCoin_24 : decode mT_addCoin.1 24 = .ok (.aload_n 0, 1) := by decide +kernel
theorem dT_addCoin_25 : decode mT_addCoin.1 25 = .ok (.getfield 15, 3) := by decide +kernel
theorem dT_addCoin_28 : decode mT_addCoin.1 28 = .ok (.iload_n 3, 1) := by decide +kernel
theorem dT_addCoin_29 : decode mT_addCoin.1 29 = .ok (.iastore, 1) := by decide +kernel
theorem dT_addCoin_30 : decode mT_addCoin.1 30 = .ok (.aload_n 0, 1) := by decide +kernel
theorem dT_addCoin_31 : decode mT_addCoin.1 31 = .ok (.getfield 40, 3) := by decide +kernel
theorem dT_addCoin_34 : decode mT_addCoin.1 34 = .ok (.aload_n 0, 1) := by decide +kernel
theorem dT_addCoin_35 : decode mT_addCoin.1 35 = .ok (.getfield 15, 3) := by decide +kernel
theorem dT_addCoin_38 : decode mT_addCoin.1 38 = .ok (.iconst 1, 1) := by decide +kernel
theorem dT_addCoin_39 : decode mT_addCoin.1 39 = .ok (.iload_n 3, 1) := by decide +kernel
theorem dT_addCoin_40 : decode mT_addCoin.1 40 = .ok (.ishl, 1) := by decide +kernel
theorem dT_addCoin_41 : decode mT_addCoin.1 41 = .ok (.iastore, 1) := by decide +kernel
theorem dT_addCoin_42 : decode mT_addCoin.1 42 = .ok (.aload_n 0, 1) := by decide +kernel
theorem dT_addCoin_43 : decode mT_addCoin.1 43 = .ok (.dup, 1) := by decide +kernel
theorem dT_addCoin_44 : decode mT_addCoin.1 44 = .ok (.getfield 15, 3) := by decide +kernel
theorem dT_addCoin_47 : decode mT_addCoin.1 47 = .ok (.iconst 1, 1) := by decide +kernel
theorem dT_addCoin_48 : decode mT_addCoin.1 48 = .ok (.iadd, 1) := by decide +kernel
theorem dT_addCoin_49 : decode mT_addCoin.1 49 = .ok (.putfield 15, 3) := by decide +kernel
theorem dT_addCoin_52 : decode mT_addCoin.1 52 = .ok (.aload_n 0, 1) := by decide +kernel
theorem dT_addCoin_53 : decode mT_addCoin.1 53 = .ok (.getfield 15, 3) := by decide +kernel
theorem dT_addCoin_56 : decode mT_addCoin.1 56 = .ok (.iconst 1, 1) := by decide +kernel
theorem dT_addCoin_57 : decode mT_addCoin.1 57 = .ok (.isub, 1) := by decide +kernel
theorem dT_addCoin_58 : decode mT_addCoin.1 58 = .ok (.ireturn, 1) := by decide +kernel
set_option maxRecDepth 4000 in
theorem wT_addCoin {E : Ev} {z : Int32 × St} (σ : St) (r0 : Nat) (i1 : Int32) (i2 : Int32) (i3 : Int32) (ht_r0 : isTb r0 = true) (hX : fT_addCoin σ r0 i1 i2 i3 = some z) : V E mT_addCoin (FM E (some (.int z.1), z.2)) 0 [(0, .ref r0), (1, .int i1), (2, .int i2), (3, .int i3)] [] σ := by
  unfold fT_addCoin at hX
  refine V.aloadn 0 dT_addCoin_0 rfl rfl ?_
  refine V.getr r0 (r0 + 4) dT_addCoin_1 flT_31 (tk0 ht_r0) rfl rfl ?_
  refine V.aloadn 0 dT_addCoin_4 rfl rfl ?_
  refine V.geti r0 dT_addCoin_5 flT_15 (tk0 ht_r0) rfl ?_
  refine V.iloadn 1 dT_addCoin_8 rfl rfl ?_
  obtain ⟨h1, hX⟩ := ob hX
  refine V.iast (r0 + 4) dT_addCoin_9 (tk4 ht_r0) h1 rfl ?_
  replace hX := nmx hX; generalize sI σ (r0 + 4) (ix (gI σ r0 1)) i1 = σ2 at hX ⊢; try dsimp only at hX
  refine V.aloadn 0 dT_addCoin_10 rfl rfl ?_
  refine V.getr r0 (r0 + 5) dT_addCoin_11 flT_34 (tk0 ht_r0) rfl rfl ?_
  refine V.aloadn 0 dT_addCoin_14 rfl rfl ?_
  refine V.geti r0 dT_addCoin_15 flT_15 (tk0 ht_r0) rfl ?_
  refine V.iloadn 2 dT_addCoin_18 rfl rfl ?_
  obtain ⟨h3, hX⟩ := ob hX
  refine V.iast (r0 + 5) dT_addCoin_19 (tk5 ht_r0) h3 rfl ?_
  replace hX := nmx hX; generalize sI σ2 (r0 + 5) (ix (gI σ2 r0 1)) i2 = σ4 at hX ⊢; try dsimp only at hX
  refine V.aloadn 0 dT_addCoin_20 rfl rfl ?_
  refine V.getr r0 (r0 + 6) dT_addCoin_21 flT_37 (tk0 ht_r0) rfl rfl ?_
  refine V.aloadn 0 dT_addCoin_24 rfl rfl ?_
  refine V.geti r0 dT_addCoin_25 flT_15 (tk0 ht_r0) rfl ?_
  refine V.iloadn 3 dT_addCoin_28 rfl rfl ?_
  obtain ⟨h5, hX⟩ := ob hX
  refine V.iast (r0 + 6) dT_addCoin_29 (tk6 ht_r0) h5 rfl ?_
  replace hX := nmx hX; generalize sI σ4 (r0 + 6) (ix (gI σ4 r0 1)) i3 = σ6 at hX ⊢; try dsimp only at hX
  refine V.aloadn 0 dT_addCoin_30 rfl rfl ?_
  refine V.getr r0 (r0 + 7) dT_addCoin_31 flT_40 (tk0 ht_r0) rfl rfl ?_
  refine V.aloadn 0 dT_addCoin_34 rfl rfl ?_
  refine V.geti r0 dT_addCoin_35 flT_15 (tk0 ht_r0) rfl ?_
  refine V.iconst (1 : Int32) dT_addCoin_38 lc1 rfl ?_
  refine V.iloadn 3 dT_addCoin_39 rfl rfl ?_
  refine V.ishl dT_addCoin_40 rfl ?_
  obtain ⟨h7, hX⟩ := ob hX
  refine V.iast (r0 + 7) dT_addCoin_41 (tk7 ht_r0) h7 rfl ?_
  replace hX := nmx hX; generalize sI σ6 (r0 + 7) (ix (gI σ6 r0 1)) ((1 : Int32) <<< (i3 &&& 31)) = σ8 at hX ⊢; try dsimp only at hX
  refine V.aloadn 0 dT_addCoin_42 rfl rfl ?_
  refine V.dup dT_addCoin_43 rfl rfl ?_
  refine V.geti r0 dT_addCoin_44 flT_15 (tk0 ht_r0) rfl ?_
  refine V.iconst (1 : Int32) dT_addCoin_47 lc1 rfl ?_
  refine V.iadd dT_addCoin_48 rfl ?_
  refine V.puti r0 .int dT_addCoin_49 flT_15 fw2_1 (tk0 ht_r0) ⟨rfl, rfl⟩ rfl ?_
  replace hX := nmx hX; generalize sI σ8 r0 1 ((gI σ8 r0 1) + (1 : Int32)) = σ9 at hX ⊢; try dsimp only at hX
  refine V.aloadn 0 dT_addCoin_52 rfl rfl ?_
  refine V.geti r0 dT_addCoin_53 flT_15 (tk0 ht_r0) rfl ?_
  refine V.iconst (1 : Int32) dT_addCoin_56 lc1 rfl ?_
  refine V.isub dT_addCoin_57 rfl ?_
  have hX := (Option.some.inj hX).symm; subst hX; exact V.iret dT_addCoin_58 rfl rfl
theorem kT_addCoin {E : Ev} {σ σ2 : St} {r0 : Nat} {i1 : Int32} {i2 : Int32} {i3 : Int32} {z : Int32} (ht_r0 : isTb r0 = true) (h : fT_addCoin σ r0 i1 i2 i3 = some (z, σ2)) : Ct mT_addCoin E [.ref r0, .int i1, .int i2, .int i3] σ (some (.int z), σ2) := Ct.of (by decide) (Nat.le_of_ble_eq_true rfl) (wT_addCoin σ r0 i1 i2 i3 ht_r0 h)
theorem dX_readHad_0 : decode mX_readHad.1 0 = .ok (.iconst 0, 1) := by decide +kernel
theorem dX_readHad_1 : decode mX_readHad.1 1 = .ok (.istore_n 3, 1) := by decide +kernel
theorem dX_readHad_2 : decode mX_readHad.1 2 = .ok (.iload_n 3, 1) := by decide +kernel
theorem dX_readHad_3 : decode mX_readHad.1 3 = .ok (.sipush 200, 3) := by decide +kernel
theorem dX_readHad_6 : decode mX_readHad.1 6 = .ok (.if_icmp .ge 62, 3) := by decide +kernel
theorem dX_readHad_9 : decode mX_readHad.1 9 = .ok (.aload_n 0, 1) := by decide +kernel
theorem dX_readHad_10 : decode mX_readHad.1 10 = .ok (.iconst 0, 1) := by decide +kernel
theorem dX_readHad_11 : decode mX_readHad.1 11 = .ok (.aload_n 1, 1) := by decide +kernel
theorem dX_readHad_12 : decode mX_readHad.1 12 = .ok (.getfield 59, 3) := by decide +kernel
theorem dX_readHad_15 : decode mX_readHad.1 15 = .ok (.iconst 1, 1) := by decide +kernel
theorem dX_readHad_16 : decode mX_readHad.1 16 = .ok (.isub, 1) := by decide +kernel
theorem dX_readHad_17 : decode mX_readHad.1 17 = .ok (.invokevirtual 62, 3) := by decide +kernel
theorem dX_readHad_20 : decode mX_readHad.1 20 = .ok (.istore 4, 2) := by decide +kernel
theorem dX_readHad_22 : decode mX_readHad.1 22 = .ok (.iload 4, 2) := by decide +kernel
theorem dX_readHad_24 : decode mX_readHad.1 24 = .ok (.ifCond .ge 5, 3) := by decide +kernel
theorem dX_readHad_27 : decode mX_readHad.1 27 = .ok (.iconst 0, 1) := by decide +kernel
theorem dX_readHad_28 : decode mX_readHad.1 28 = .ok (.ireturn, 1) := by decide +kernel
theorem dX_readHad_29 : decode mX_readHad.1 29 = .ok (.aload_n 1, 1) := by decide +kernel
theorem dX_readHad_30 : decode mX_readHad.1 30 = .ok (.getfield 94, 3) := by decide +kernel
theorem dX_readHad_33 : decode mX_readHad.1 33 = .ok (.iload_n 2, 1) := by decide +kernel
theorem dX_readHad_34 : decode mX_readHad.1 34 = .ok (.dup2, 1) := by decide +kernel
theorem dX_readHad_35 : decode mX_readHad.1 35 = .ok (.iaload, 1) := by decide +kernel
theorem dX_readHad_36 : decode mX_readHad.1 36 = .ok (.iconst 1, 1) := by decide +kernel
theorem dX_readHad_37 : decode mX_readHad.1 37 = .ok (.iload 4, 2) := by decide +kernel
theorem dX_readHad_39 : decode mX_readHad.1 39 = .ok (.ishl, 1) := by decide +kernel
theorem dX_readHad_40 : decode mX_readHad.1 40 = .ok (.ior, 1) := by decide +kernel
theorem dX_readHad_41 : decode mX_readHad.1 41 = .ok (.iastore, 1) := by decide +kernel
theorem dX_readHad_42 : decode mX_readHad.1 42 = .ok (.aload_n 0, 1) := by decide +kernel
theorem dX_readHad_43 : decode mX_readHad.1 43 = .ok (.invokevirtual 30, 3) := by decide +kernel
theorem dX_readHad_46 : decode mX_readHad.1 46 = .ok (.aload_n 0, 1) := by decide +kernel
theorem dX_readHad_47 : decode mX_readHad.1 47 = .ok (.ldc 96, 2) := by decide +kernel
theorem dX_readHad_49 : decode mX_readHad.1 49 = .ok (.invokevirtual 39, 3) := by decide +kernel
theorem dX_readHad_52 : decode mX_readHad.1 52 = .ok (.ifCond .ne 10, 3) := by decide +kernel
theorem dX_readHad_55 : decode mX_readHad.1 55 = .ok (.aload_n 0, 1) := by decide +kernel
theorem dX_readHad_56 : decode mX_readHad.1 56 = .ok (.ldc 92, 2) := by decide +kernel
theorem dX_readHad_58 : decode mX_readHad.1 58 = .ok (.invokevirtual 39, 3) := by decide +kernel
theorem dX_readHad_61 : decode mX_readHad.1 61 = .ok (.ireturn, 1) := by decide +kernel
theorem dX_readHad_62 : decode mX_readHad.1 62 = .ok (.iinc 3 1, 3) := by decide +kernel
theorem dX_readHad_65 : decode mX_readHad.1 65 = .ok (.goto (-63), 3) := by decide +kernel
theorem dX_readHad_68 : decode mX_readHad.1 68 = .ok (.iconst 0, 1) := by decide +kernel
theorem dX_readHad_69 : decode mX_readHad.1 69 = .ok (.ireturn, 1) := by decide +kernel
set_option maxRecDepth 4000 in
theorem wX_readHad_55 {E : Ev} {z : Int32 × St} (σ : St) (hX : fX_readHad_55 σ = some z) : V E mX_readHad (FM E (some (.int z.1), z.2)) 55 [(0, .ref 25)] [] σ := by
  unfold fX_readHad_55 at hX
  refine V.aloadn 0 dX_readHad_55 rfl rfl ?_
  refine V.ldcS 1 (by decide) rfl rfl dX_readHad_56 rfl ?_
  obtain ⟨q14, c15, hX⟩ := bd hX; try dsimp only at hX
  refine V.callvi 25 [.ref 101] dX_readHad_58 (kX_reads (rfl : isSb 101 = true) c15) mlX_39 myX_reads mnX_reads ⟨rfl, rfl, by decide, by decide⟩ (rfl : kd 25 = (3, 0)) (by decide) rfl (Nat.le_of_ble_eq_true rfl) ⟨Nat.zero_le _, Nat.zero_le _⟩ rfl ?_
  obtain ⟨h16, hX⟩ := ob hX
  have hX := (Option.some.inj hX).symm; subst hX; exact V.zret .boolean dX_readHad_61 rfl (nz h16).1 rfl
set_option maxRecDepth 4000 in
theorem wX_readHad_2 {E : Ev} {z : Int32 × St} : ∀ (fu : Nat) (σ : St) (r1 : Nat) (i2 : Int32) (i3 : Int32) (ht_r1 : isTb r1 = true), fX_readHad_2 fu σ r1 i2 i3 = some z → V E mX_readHad (FM E (some (.int z.1), z.2)) 2 [(0, .ref 25), (1, .ref r1), (2, .int i2), (3, .int i3)] [] σ := by
  intro fu
  induction fu with
  | zero => intro σ r1 i2 i3 ht_r1 hX; cases hX
  | succ fu ih =>
    intro σ r1 i2 i3 ht_r1 hX
    rw [fX_readHad_2] at hX
    refine V.iloadn 3 dX_readHad_2 rfl rfl ?_
    refine V.sipush (200 : Int32) dX_readHad_3 ls200 rfl ?_
    refine V.icmpge 68 dX_readHad_6 rfl rfl (fun g1 => ?_) (fun g1 => ?_)
    · replace hX := ip hX g1
      refine V.iconst (0 : Int32) dX_readHad_68 lc0 rfl ?_
      have hX := (Option.some.inj hX).symm; subst hX; exact V.zret .boolean dX_readHad_69 rfl (nz b01_0).1 rfl
    · replace hX := im hX g1
      refine V.aloadn 0 dX_readHad_9 rfl rfl ?_
      refine V.iconst (0 : Int32) dX_readHad_10 lc0 rfl ?_
      refine V.aloadn 1 dX_readHad_11 rfl rfl ?_
      refine V.geti r1 dX_readHad_12 flX_59 (tk0 ht_r1) rfl ?_
      refine V.iconst (1 : Int32) dX_readHad_15 lc1 rfl ?_
      refine V.isub dX_readHad_16 rfl ?_
      obtain ⟨q3, σ3, c2, hX⟩ := bi2 hX; try dsimp only at hX
      refine V.callvi 25 [.int (0 : Int32), .int ((gI σ r1 0) - (1 : Int32))] dX_readHad_17 (kX_readNumber c2) mlX_62 myX_readNumber mnX_readNumber ⟨rfl, rfl, by decide, by decide⟩ (rfl : kd 25 = (3, 0)) (by decide) rfl (Nat.le_of_ble_eq_true rfl) ⟨Nat.zero_le _, Nat.zero_le _⟩ rfl ?_
      refine V.istore _ dX_readHad_20 (by decide) rfl rfl ?_
      refine V.iload 0 dX_readHad_22 rfl rfl ?_
      refine V.ifge 29 dX_readHad_24 rfl rfl (fun g4 => ?_) (fun g4 => ?_)
      · replace hX := ip hX g4
        refine V.aloadn 2 dX_readHad_29 rfl rfl ?_
        refine V.getr r1 (r1 + 7) dX_readHad_30 flX_94 (tk0 ht_r1) rfl rfl ?_
        refine V.iloadn 3 dX_readHad_33 rfl rfl ?_
        refine V.dup2 dX_readHad_34 rfl rfl rfl ?_
        obtain ⟨h5, hX⟩ := ob hX
        refine V.iald (r1 + 7) dX_readHad_35 (tk7 ht_r1) h5 rfl ?_
        refine V.iconst (1 : Int32) dX_readHad_36 lc1 rfl ?_
        refine V.iload 0 dX_readHad_37 rfl rfl ?_
        refine V.ishl dX_readHad_39 rfl ?_
        refine V.ior dX_readHad_40 rfl ?_
        obtain ⟨h6, hX⟩ := ob hX
        refine V.iast (r1 + 7) dX_readHad_41 (tk7 ht_r1) h6 rfl ?_
        replace hX := nmx hX; generalize sI σ3 (r1 + 7) (ix i2) ((gI σ3 (r1 + 7) (ix i2)) ||| ((1 : Int32) <<< (q3 &&& 31))) = σ7 at hX ⊢; try dsimp only at hX
        refine V.aloadn 1 dX_readHad_42 rfl rfl ?_
        obtain ⟨σ9, c8, hX⟩ := bd hX; try dsimp only at hX
        refine V.callv0 25 [] dX_readHad_43 (kX_step c8) mlX_30 myX_step mnX_step ⟨rfl, rfl, by decide, by decide⟩ (rfl : kd 25 = (3, 0)) (by decide) rfl (Nat.le_of_ble_eq_true rfl) ⟨Nat.zero_le _, Nat.zero_le _⟩ rfl ?_
        refine V.aloadn 1 dX_readHad_46 rfl rfl ?_
        refine V.ldcS 11 (by decide) rfl rfl dX_readHad_47 rfl ?_
        obtain ⟨q10, c11, hX⟩ := bd hX; try dsimp only at hX
        refine V.callvi 25 [.ref 111] dX_readHad_49 (kX_reads (rfl : isSb 111 = true) c11) mlX_39 myX_reads mnX_reads ⟨rfl, rfl, by decide, by decide⟩ (rfl : kd 25 = (3, 0)) (by decide) rfl (Nat.le_of_ble_eq_true rfl) ⟨Nat.zero_le _, Nat.zero_le _⟩ rfl ?_
        refine V.ifne 62 dX_readHad_52 rfl rfl (fun g12 => ?_) (fun g12 => ?_)
        · replace hX := im hX g12
          refine V.iinc 4 (1 : Int32) _ dX_readHad_62 rfl lc1 (by decide) rfl rfl ?_
          replace hX := nmx hX; generalize i3 + (1 : Int32) = v13 at hX ⊢; try dsimp only at hX
          refine V.goto 2 dX_readHad_65 rfl ?_
          refine V.sub [2, 3, 4, 0] rfl ?_
          exact ih σ9 r1 i2 v13 ht_r1 hX
        · replace hX := ip hX g12
          refine V.sub [1] rfl ?_
          exact wX_readHad_55 σ9 hX
      · replace hX := im hX g4
        refine V.iconst (0 : Int32) dX_readHad_27 lc0 rfl ?_
        have hX := (Option.some.inj hX).symm; subst hX; exact V.zret .boolean dX_readHad_28 rfl (nz b01_0).1 rfl
set_option maxRecDepth 4000 in
theorem wX_readHad {E : Ev} {z : Int32 × St} (σ : St) (r1 : Nat) (i2 : Int32) (ht_r1 : isTb r1 = true) (hX : fX_readHad σ r1 i2 = some z) : V E mX_readHad (FM E (some (.int z.1), z.2)) 0 [(0, .ref 25), (1, .ref r1), (2, .int i2)] [] σ := by
  unfold fX_readHad at hX
  refine V.iconst (0 : Int32) dX_readHad_0 lc0 rfl ?_
  refine V.istoren _ dX_readHad_1 (by decide) rfl rfl ?_
  refine V.sub [1, 2, 3, 0] rfl ?_
  exact wX_readHad_2 300 σ r1 i2 (0 : Int32) ht_r1 hX
theorem kX_readHad {E : Ev} {σ σ2 : St} {r1 : Nat} {i2 : Int32} {z : Int32} (ht_r1 : isTb r1 = true) (h : fX_readHad σ r1 i2 = some (z, σ2)) : Ct mX_readHad E [.ref 25, .ref r1, .int i2] σ (some (.int z), σ2) := Ct.of (by decide) (Nat.le_of_ble_eq_true rfl) (wX_readHad σ r1 i2 ht_r1 h)
theorem dX_readCoin_0 : decode mX_readCoin.1 0 = .ok (.aload_n 1, 1) := by decide +kernel
theorem dX_readCoin_1 : decode mX_readCoin.1 1 = .ok (.getfield 78, 3) := by decide +kernel
theorem dX_readCoin_4 : decode mX_readCoin.1 4 = .ok (.bipush 6, 2) := by decide +kernel
theorem dX_readCoin_6 : decode mX_readCoin.1 6 = .ok (.if_icmp .lt 5, 3) := by decide +kernel
theorem dX_readCoin_9 : decode mX_readCoin.1 9 = .ok (.iconst 0, 1) := by decide +kernel
theorem dX_readCoin_10 : decode mX_readCoin.1 10 = .ok (.ireturn, 1) := by decide +kernel
theorem dX_readCoin_11 : decode mX_readCoin.1 11 = .ok (.aload_n 0, 1) := by decide +kernel
theorem dX_readCoin_12 : decode mX_readCoin.1 12 = .ok (.iconst 1, 1) := by decide +kernel
theorem dX_readCoin_13 : decode mX_readCoin.1 13 = .ok (.bipush 99, 2) := by decide +kernel
theorem dX_readCoin_15 : decode mX_readCoin.1 15 = .ok (.invokevirtual 62, 3) := by decide +kernel
theorem dX_readCoin_18 : decode mX_readCoin.1 18 = .ok (.istore_n 3, 1) := by decide +kernel
theorem dX_readCoin_19 : decode mX_readCoin.1 19 = .ok (.iload_n 3, 1) := by decide +kernel
theorem dX_readCoin_20 : decode mX_readCoin.1 20 = .ok (.ifCond .ge 5, 3) := by decide +kernel
theorem dX_readCoin_23 : decode mX_readCoin.1 23 = .ok (.iconst 0, 1) := by decide +kernel
theorem dX_readCoin_24 : decode mX_readCoin.1 24 = .ok (.ireturn, 1) := by decide +kernel
theorem dX_readCoin_25 : decode mX_readCoin.1 25 = .ok (.aload_n 0, 1) := by decide +kernel
theorem dX_readCoin_26 : decode mX_readCoin.1 26 = .ok (.invokevirtual 30, 3) := by decide +kernel
theorem dX_readCoin_29 : decode mX_readCoin.1 29 = .ok (.aload_n 0, 1) := by decide +kernel
theorem dX_readCoin_30 : decode mX_readCoin.1 30 = .ok (.ldc 81, 2) := by decide +kernel
theorem dX_readCoin_32 : decode mX_readCoin.1 32 = .ok (.invokevirtual 39, 3) := by decide +kernel
theorem dX_readCoin_35 : decode mX_readCoin.1 35 = .ok (.ifCond .ne 5, 3) := by decide +kernel
theorem dX_readCoin_38 : decode mX_readCoin.1 38 = .ok (.iconst 0, 1) := by decide +kernel
theorem dX_readCoin_39 : decode mX_readCoin.1 39 = .ok (.ireturn, 1) := by decide +kernel
theorem dX_readCoin_40 : decode mX_readCoin.1 40 = .ok (.aload_n 0, 1) := by decide +kernel
theorem dX_readCoin_41 : decode mX_readCoin.1 41 = .ok (.iconst 0, 1) := by decide +kernel
theorem dX_readCoin_42 : decode mX_readCoin.1 42 = .ok (.aload_n 1, 1) := by decide +kernel
theorem dX_readCoin_43 : decode mX_readCoin.1 43 = .ok (.getfield 59, 3) := by decide +kernel
theorem dX_readCoin_46 : decode mX_readCoin.1 46 = .ok (.iconst 1, 1) := by decide +kernel
theorem dX_readCoin_47 : decode mX_readCoin.1 47 = .ok (.isub, 1) := by decide +kernel
theorem dX_readCoin_48 : decode mX_readCoin.1 48 = .ok (.invokevirtual 62, 3) := by decide +kernel
theorem dX_readCoin_51 : decode mX_readCoin.1 51 = .ok (.istore 4, 2) := by decide +kernel
theorem dX_readCoin_53 : decode mX_readCoin.1 53 = .ok (.iload 4, 2) := by decide +kernel
theorem dX_readCoin_55 : decode mX_readCoin.1 55 = .ok (.ifCond .ge 5, 3) := by decide +kernel
theorem dX_readCoin_58 : decode mX_readCoin.1 58 = .ok (.iconst 0, 1) := by decide +kernel
theorem dX_readCoin_59 : decode mX_readCoin.1 59 = .ok (.ireturn, 1) := by decide +kernel
theorem dX_readCoin_60 : decode mX_readCoin.1 60 = .ok (.aload_n 1, 1) := by decide +kernel
theorem dX_readCoin_61 : decode mX_readCoin.1 61 = .ok (.iload_n 2, 1) := by decide +kernel
theorem dX_readCoin_62 : decode mX_readCoin.1 62 = .ok (.iload_n 3, 1) := by decide +kernel
theorem dX_readCoin_63 : decode mX_readCoin.1 63 = .ok (.iload 4, 2) := by decide +kernel
theorem dX_readCoin_65 : decode mX_readCoin.1 65 = .ok (.invokevirtual 83, 3) := by decide +kernel
theorem dX_readCoin_68 : decode mX_readCoin.1 68 = .ok (.istore 5, 2) := by decide +kernel
theorem dX_readCoin_70 : decode mX_readCoin.1 70 = .ok (.aload_n 0, 1) := by decide +kernel
theorem dX_readCoin_71 : decode mX_readCoin.1 71 = .ok (.invokevirtual 30, 3) := by decide +kernel
theorem dX_readCoin_74 : decode mX_readCoin.1 74 = .ok (.aload_n 0, 1) := by decide +kernel
theorem dX_readCoin_75 : decode mX_readCoin.1 75 = .ok (.ldc 87, 2) := by decide +kernel
theorem dX_readCoin_77 : decode mX_readCoin.1 77 = .ok (.invokevirtual 39, 3) := by decide +kernel
theorem dX_readCoin_80 : decode mX_readCoin.1 80 = .ok (.ifCond .eq 13, 3) := by decide +kernel
theorem dX_readCoin_83 : decode mX_readCoin.1 83 = .ok (.aload_n 0, 1) := by decide +kernel
theorem dX_readCoin_84 : decode mX_readCoin.1 84 = .ok (.aload_n 1, 1) := by decide +kernel
theorem dX_readCoin_85 : decode mX_readCoin.1 85 = .ok (.iload 5, 2) := by decide +kernel
theorem dX_readCoin_87 : decode mX_readCoin.1 87 = .ok (.invokevirtual 89, 3) := by decide +kernel
theorem dX_readCoin_90 : decode mX_readCoin.1 90 = .ok (.goto 9, 3) := by decide +kernel
theorem dX_readCoin_93 : decode mX_readCoin.1 93 = .ok (.aload_n 0, 1) := by decide +kernel
theorem dX_readCoin_94 : decode mX_readCoin.1 94 = .ok (.ldc 92, 2) := by decide +kernel
theorem dX_readCoin_96 : decode mX_readCoin.1 96 = .ok (.invokevirtual 39, 3) := by decide +kernel
theorem dX_readCoin_99 : decode mX_readCoin.1 99 = .ok (.ireturn, 1) := by decide +kernel
set_option maxRecDepth 4000 in
theorem wX_readCoin {E : Ev} {z : Int32 × St} (σ : St) (r1 : Nat) (i2 : Int32) (ht_r1 : isTb r1 = true) (hX : fX_readCoin σ r1 i2 = some z) : V E mX_readCoin (FM E (some (.int z.1), z.2)) 0 [(0, .ref 25), (1, .ref r1), (2, .int i2)] [] σ := by
  unfold fX_readCoin at hX
  refine V.aloadn 1 dX_readCoin_0 rfl rfl ?_
  refine V.geti r1 dX_readCoin_1 flX_78 (tk0 ht_r1) rfl ?_
  refine V.bipush (6 : Int32) dX_readCoin_4 lb6 rfl ?_
  refine V.icmplt 11 dX_readCoin_6 rfl rfl (fun g1 => ?_) (fun g1 => ?_)
  · replace hX := ip hX g1
    refine V.aloadn 0 dX_readCoin_11 rfl rfl ?_
    refine V.iconst (1 : Int32) dX_readCoin_12 lc1 rfl ?_
    refine V.bipush (99 : Int32) dX_readCoin_13 lb99 rfl ?_
    obtain ⟨q3, σ3, c2, hX⟩ := bi2 hX; try dsimp only at hX
    refine V.callvi 25 [.int (1 : Int32), .int (99 : Int32)] dX_readCoin_15 (kX_readNumber c2) mlX_62 myX_readNumber mnX_readNumber ⟨rfl, rfl, by decide, by decide⟩ (rfl : kd 25 = (3, 0)) (by decide) rfl (Nat.le_of_ble_eq_true rfl) ⟨Nat.zero_le _, Nat.zero_le _⟩ rfl ?_
    refine V.istoren _ dX_readCoin_18 (by decide) rfl rfl ?_
    refine V.iloadn 0 dX_readCoin_19 rfl rfl ?_
    refine V.ifge 25 dX_readCoin_20 rfl rfl (fun g4 => ?_) (fun g4 => ?_)
    · replace hX := ip hX g4
      refine V.aloadn 1 dX_readCoin_25 rfl rfl ?_
      obtain ⟨σ6, c5, hX⟩ := bd hX; try dsimp only at hX
      refine V.callv0 25 [] dX_readCoin_26 (kX_step c5) mlX_30 myX_step mnX_step ⟨rfl, rfl, by decide, by decide⟩ (rfl : kd 25 = (3, 0)) (by decide) rfl (Nat.le_of_ble_eq_true rfl) ⟨Nat.zero_le _, Nat.zero_le _⟩ rfl ?_
      refine V.aloadn 1 dX_readCoin_29 rfl rfl ?_
      refine V.ldcS 9 (by decide) rfl rfl dX_readCoin_30 rfl ?_
      obtain ⟨q7, c8, hX⟩ := bd hX; try dsimp only at hX
      refine V.callvi 25 [.ref 109] dX_readCoin_32 (kX_reads (rfl : isSb 109 = true) c8) mlX_39 myX_reads mnX_reads ⟨rfl, rfl, by decide, by decide⟩ (rfl : kd 25 = (3, 0)) (by decide) rfl (Nat.le_of_ble_eq_true rfl) ⟨Nat.zero_le _, Nat.zero_le _⟩ rfl ?_
      refine V.ifne 40 dX_readCoin_35 rfl rfl (fun g9 => ?_) (fun g9 => ?_)
      · replace hX := im hX g9
        refine V.aloadn 1 dX_readCoin_40 rfl rfl ?_
        refine V.iconst (0 : Int32) dX_readCoin_41 lc0 rfl ?_
        refine V.aloadn 2 dX_readCoin_42 rfl rfl ?_
        refine V.geti r1 dX_readCoin_43 flX_59 (tk0 ht_r1) rfl ?_
        refine V.iconst (1 : Int32) dX_readCoin_46 lc1 rfl ?_
        refine V.isub dX_readCoin_47 rfl ?_
        obtain ⟨q11, σ11, c10, hX⟩ := bi2 hX; try dsimp only at hX
        refine V.callvi 25 [.int (0 : Int32), .int ((gI σ6 r1 0) - (1 : Int32))] dX_readCoin_48 (kX_readNumber c10) mlX_62 myX_readNumber mnX_readNumber ⟨rfl, rfl, by decide, by decide⟩ (rfl : kd 25 = (3, 0)) (by decide) rfl (Nat.le_of_ble_eq_true rfl) ⟨Nat.zero_le _, Nat.zero_le _⟩ rfl ?_
        refine V.istore _ dX_readCoin_51 (by decide) rfl rfl ?_
        refine V.iload 0 dX_readCoin_53 rfl rfl ?_
        refine V.ifge 60 dX_readCoin_55 rfl rfl (fun g12 => ?_) (fun g12 => ?_)
        · replace hX := ip hX g12
          refine V.aloadn 3 dX_readCoin_60 rfl rfl ?_
          refine V.iloadn 4 dX_readCoin_61 rfl rfl ?_
          refine V.iloadn 1 dX_readCoin_62 rfl rfl ?_
          refine V.iload 0 dX_readCoin_63 rfl rfl ?_
          obtain ⟨q14, σ14, c13, hX⟩ := bi2 hX; try dsimp only at hX
          refine V.callvi r1 [.int i2, .int q3, .int q11] dX_readCoin_65 (kT_addCoin ht_r1 c13) mlX_83 myT_addCoin mnT_addCoin ⟨rfl, rfl, by decide, by decide⟩ (tk0 ht_r1) (by decide) rfl (Nat.le_of_ble_eq_true rfl) ⟨Nat.zero_le _, Nat.zero_le _⟩ rfl ?_
          refine V.istore _ dX_readCoin_68 (by decide) rfl rfl ?_
          refine V.aloadn 3 dX_readCoin_70 rfl rfl ?_
          obtain ⟨σ16, c15, hX⟩ := bd hX; try dsimp only at hX
          refine V.callv0 25 [] dX_readCoin_71 (kX_step c15) mlX_30 myX_step mnX_step ⟨rfl, rfl, by decide, by decide⟩ (rfl : kd 25 = (3, 0)) (by decide) rfl (Nat.le_of_ble_eq_true rfl) ⟨Nat.zero_le _, Nat.zero_le _⟩ rfl ?_
          refine V.aloadn 3 dX_readCoin_74 rfl rfl ?_
          refine V.ldcS 10 (by decide) rfl rfl dX_readCoin_75 rfl ?_
          obtain ⟨q17, c18, hX⟩ := bd hX; try dsimp only at hX
          refine V.callvi 25 [.ref 110] dX_readCoin_77 (kX_reads (rfl : isSb 110 = true) c18) mlX_39 myX_reads mnX_reads ⟨rfl, rfl, by decide, by decide⟩ (rfl : kd 25 = (3, 0)) (by decide) rfl (Nat.le_of_ble_eq_true rfl) ⟨Nat.zero_le _, Nat.zero_le _⟩ rfl ?_
          refine V.ifeq 93 dX_readCoin_80 rfl rfl (fun g19 => ?_) (fun g19 => ?_)
          · replace hX := ip hX g19
            refine V.aloadn 3 dX_readCoin_93 rfl rfl ?_
            refine V.ldcS 1 (by decide) rfl rfl dX_readCoin_94 rfl ?_
            obtain ⟨q20, c21, hX⟩ := bd hX; try dsimp only at hX
            refine V.callvi 25 [.ref 101] dX_readCoin_96 (kX_reads (rfl : isSb 101 = true) c21) mlX_39 myX_reads mnX_reads ⟨rfl, rfl, by decide, by decide⟩ (rfl : kd 25 = (3, 0)) (by decide) rfl (Nat.le_of_ble_eq_true rfl) ⟨Nat.zero_le _, Nat.zero_le _⟩ rfl ?_
            obtain ⟨h22, hX⟩ := ob hX
            have hX := (Option.some.inj hX).symm; subst hX; exact V.zret .boolean dX_readCoin_99 rfl (nz h22).1 rfl
          · replace hX := im hX g19
            refine V.aloadn 3 dX_readCoin_83 rfl rfl ?_
            refine V.aloadn 4 dX_readCoin_84 rfl rfl ?_
            refine V.iload 0 dX_readCoin_85 rfl rfl ?_
            obtain ⟨q24, σ24, c23, hX⟩ := bi2 hX; try dsimp only at hX
            refine V.callvi 25 [.ref r1, .int q14] dX_readCoin_87 (kX_readHad ht_r1 c23) mlX_89 myX_readHad mnX_readHad ⟨rfl, rfl, by decide, by decide⟩ (rfl : kd 25 = (3, 0)) (by decide) rfl (Nat.le_of_ble_eq_true rfl) ⟨Nat.zero_le _, Nat.zero_le _⟩ rfl ?_
            refine V.goto 99 dX_readCoin_90 rfl ?_
            obtain ⟨h25, hX⟩ := ob hX
            have hX := (Option.some.inj hX).symm; subst hX; exact V.zret .boolean dX_readCoin_99 rfl (nz h25).1 rfl
        · replace hX := im hX g12
          refine V.iconst (0 : Int32) dX_readCoin_58 lc0 rfl ?_
          have hX := (Option.some.inj hX).symm; subst hX; exact V.zret .boolean dX_readCoin_59 rfl (nz b01_0).1 rfl
      · replace hX := ip hX g9
        refine V.iconst (0 : Int32) dX_readCoin_38 lc0 rfl ?_
        have hX := (Option.some.inj hX).symm; subst hX; exact V.zret .boolean dX_readCoin_39 rfl (nz b01_0).1 rfl
    · replace hX := im hX g4
      refine V.iconst (0 : Int32) dX_readCoin_23 lc0 rfl ?_
      have hX := (Option.some.inj hX).symm; subst hX; exact V.zret .boolean dX_readCoin_24 rfl (nz b01_0).1 rfl
  · replace hX := im hX g1
    refine V.iconst (0 : Int32) dX_readCoin_9 lc0 rfl ?_
    have hX := (Option.some.inj hX).symm; subst hX; exact V.zret .boolean dX_readCoin_10 rfl (nz b01_0).1 rfl
theorem kX_readCoin {E : Ev} {σ σ2 : St} {r1 : Nat} {i2 : Int32} {z : Int32} (ht_r1 : isTb r1 = true) (h : fX_readCoin σ r1 i2 = some (z, σ2)) : Ct mX_readCoin E [.ref 25, .ref r1, .int i2] σ (some (.int z), σ2) := Ct.of (by decide) (Nat.le_of_ble_eq_true rfl) (wX_readCoin σ r1 i2 ht_r1 h)
