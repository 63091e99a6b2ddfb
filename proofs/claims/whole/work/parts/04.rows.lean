/-! a row an instruction, over V -/
section RW
variable {E : Ev} {M : MI} {F : VF} {pc n : Nat} {ls : List (Nat × Value)} {st : List Value} {σ : St}
theorem V.eqn {pc' : Nat} {ls' : List (Nat × Value)} {st' : List Value} {σ' : St} (k : V E M F pc' ls' st' σ') (h1 : pc = pc') (h2 : ls = ls') (h3 : st = st') (h4 : σ = σ') : V E M F pc ls st σ := by
  subst h1; subst h2; subst h3; subst h4; exact k
/-- fewer locals, in another order -/
theorem V.sub (ks : List Nat) {ls' : List (Nat × Value)} (h : lv_pick ls ks = ls') (k : V E M F pc ls' st σ) : V E M F pc ls st σ := by
  intro p l e s m args below meth c C H locs la hP hS hl
  refine k p l e s m args below meth c C H locs la hP hS ?_
  refine lv_sub hl ks ?_
  rw [← h]
  unfold lv_pick
  clear h
  induction ks with
  | nil => rfl
  | cons a as ih =>
    rw [List.filterMap_cons, List.filterMap_cons, List.getElem?_map]
    cases ls[a]? with
    | none => exact ih
    | some q => exact congrArg (fun x => cvp E q :: x) ih
theorem la_at {la : Array Slot} {nL : Nat} (hl : lv_has la nL (ls.map (cvp E))) (k : Nat) {i : Nat} {v : Value} (h : ls[k]? = some (i, v)) : la[i]? = some (.val (cv E v)) :=
  lv_at hl k (by rw [List.getElem?_map, h]; rfl)
theorem V.iconst {j : Int} (v : Int32) (hd : decode M.1 pc = .ok (.iconst j, 1)) (hv : Int32.ofInt j = v) (hn : pc + 1 = n) (k : V E M F n ls (.int v :: st) σ) : V E M F pc ls st σ := by
  subst hn; intro p l e s m args below meth c C H locs la hP hS hl
  exact lv_iconst C.1 C.2.1 hd hv (k p l e s m args below meth c C H locs la hP hS hl)
theorem V.bipush {j : Int} (v : Int32) (hd : decode M.1 pc = .ok (.bipush j, 2)) (hv : (Int8.ofInt j).toInt32 = v) (hn : pc + 2 = n) (k : V E M F n ls (.int v :: st) σ) : V E M F pc ls st σ := by
  subst hn; intro p l e s m args below meth c C H locs la hP hS hl
  exact lv_bipush C.1 C.2.1 hd hv (k p l e s m args below meth c C H locs la hP hS hl)
theorem V.sipush {j : Int} (v : Int32) (hd : decode M.1 pc = .ok (.sipush j, 3)) (hv : (Int16.ofInt j).toInt32 = v) (hn : pc + 3 = n) (k : V E M F n ls (.int v :: st) σ) : V E M F pc ls st σ := by
  subst hn; intro p l e s m args below meth c C H locs la hP hS hl
  exact lv_sipush C.1 C.2.1 hd hv (k p l e s m args below meth c C H locs la hP hS hl)
theorem V.lconst {j : Fin 2} (v : Int64) (hd : decode M.1 pc = .ok (.lconst j, 1)) (hv : Int64.ofNat j.val = v) (hn : pc + 1 = n) (k : V E M F n ls (.long v :: st) σ) : V E M F pc ls st σ := by
  subst hn; intro p l e s m args below meth c C H locs la hP hS hl
  exact lv_lconst C.1 C.2.1 hd hv (k p l e s m args below meth c C H locs la hP hS hl)
theorem V.ldc {ix : Nat} (v : Int32) (hd : decode M.1 pc = .ok (.ldc ix, 2)) (hw : Cond.constant M.2.2.2.1.cls ix v ∈ GW) (hn : pc + 2 = n) (k : V E M F n ls (.int v :: st) σ) : V E M F pc ls st σ := by
  subst hn; intro p l e s m args below meth c C H locs la hP hS hl
  exact lv_ldc C.1 C.2.1 C.2.2.2.2.2.1 (C.2.2.2.2.2.2.1 _ hw) hd (k p l e s m args below meth c C H locs la hP hS hl)
theorem V.ldcw {ix : Nat} (v : Int32) (hd : decode M.1 pc = .ok (.ldc_w ix, 3)) (hw : Cond.constant M.2.2.2.1.cls ix v ∈ GW) (hn : pc + 3 = n) (k : V E M F n ls (.int v :: st) σ) : V E M F pc ls st σ := by
  subst hn; intro p l e s m args below meth c C H locs la hP hS hl
  exact lv_ldcw C.1 C.2.1 C.2.2.2.2.2.1 (C.2.2.2.2.2.2.1 _ hw) hd (k p l e s m args below meth c C H locs la hP hS hl)
theorem V.ldc2 {ix : Nat} (v : Int64) (hd : decode M.1 pc = .ok (.ldc2_w ix, 3)) (hw : Cond.constantLong M.2.2.2.1.cls ix v ∈ GW) (hn : pc + 3 = n) (k : V E M F n ls (.long v :: st) σ) : V E M F pc ls st σ := by
  subst hn; intro p l e s m args below meth c C H locs la hP hS hl
  exact lv_ldc2 C.1 C.2.1 C.2.2.2.2.2.1 (C.2.2.2.2.2.2.1 _ hw) hd (k p l e s m args below meth c C H locs la hP hS hl)
theorem V.ldcS {ix : Nat} (i : Nat) {tx : String} (hi : i < 12) (hx : tTX.getD i (0, "") = (ix, tx)) (ho : M.2.2.2.1.cls = "EveryHand$TownText") (hd : decode M.1 pc = .ok (.ldc ix, 2)) (hn : pc + 2 = n) (k : V E M F n ls (.ref (100 + i) :: st) σ) : V E M F pc ls st σ := by
  subst hn; intro p l e s m args below meth c C H locs la hP hS hl
  have h := C.2.2.2.2.2.2.2.1.2.2.2.2.2.2.1 i hi
  rw [hx] at h
  exact va_ldcS C.1 C.2.1 (own := "EveryHand$TownText") (by rw [← ho]; exact C.2.2.2.2.2.1) h hd (k p l e s m args below meth c C H locs la hP hS hl)
theorem V.iloadn (q : Nat) {i : Fin 4} {x : Int32} (hd : decode M.1 pc = .ok (.iload_n i, 1)) (hq : ls[q]? = some (i.val, .int x)) (hn : pc + 1 = n) (k : V E M F n ls (.int x :: st) σ) : V E M F pc ls st σ := by
  subst hn; intro p l e s m args below meth c C H locs la hP hS hl
  exact lv_iload_n C.1 C.2.1 hd rfl (la_at hl q hq) (k p l e s m args below meth c C H locs la hP hS hl)
theorem V.iload (q : Nat) {i : Nat} {x : Int32} (hd : decode M.1 pc = .ok (.iload i, 2)) (hq : ls[q]? = some (i, .int x)) (hn : pc + 2 = n) (k : V E M F n ls (.int x :: st) σ) : V E M F pc ls st σ := by
  subst hn; intro p l e s m args below meth c C H locs la hP hS hl
  exact lv_iload C.1 C.2.1 hd (la_at hl q hq) (k p l e s m args below meth c C H locs la hP hS hl)
theorem V.lloadn (q : Nat) {i : Fin 4} {x : Int64} (hd : decode M.1 pc = .ok (.lload_n i, 1)) (hq : ls[q]? = some (i.val, .long x)) (hn : pc + 1 = n) (k : V E M F n ls (.long x :: st) σ) : V E M F pc ls st σ := by
  subst hn; intro p l e s m args below meth c C H locs la hP hS hl
  exact lv_lload_n C.1 C.2.1 hd rfl (la_at hl q hq) (k p l e s m args below meth c C H locs la hP hS hl)
theorem V.lload (q : Nat) {i : Nat} {x : Int64} (hd : decode M.1 pc = .ok (.lload i, 2)) (hq : ls[q]? = some (i, .long x)) (hn : pc + 2 = n) (k : V E M F n ls (.long x :: st) σ) : V E M F pc ls st σ := by
  subst hn; intro p l e s m args below meth c C H locs la hP hS hl
  exact lv_lload C.1 C.2.1 hd (la_at hl q hq) (k p l e s m args below meth c C H locs la hP hS hl)
theorem V.aloadn (q : Nat) {i : Fin 4} {x : Nat} (hd : decode M.1 pc = .ok (.aload_n i, 1)) (hq : ls[q]? = some (i.val, .ref x)) (hn : pc + 1 = n) (k : V E M F n ls (.ref x :: st) σ) : V E M F pc ls st σ := by
  subst hn; intro p l e s m args below meth c C H locs la hP hS hl
  exact lv_aload_n C.1 C.2.1 hd rfl (la_at hl q hq) (k p l e s m args below meth c C H locs la hP hS hl)
theorem V.aload (q : Nat) {i : Nat} {x : Nat} (hd : decode M.1 pc = .ok (.aload i, 2)) (hq : ls[q]? = some (i, .ref x)) (hn : pc + 2 = n) (k : V E M F n ls (.ref x :: st) σ) : V E M F pc ls st σ := by
  subst hn; intro p l e s m args below meth c C H locs la hP hS hl
  exact lv_aload C.1 C.2.1 hd (la_at hl q hq) (k p l e s m args below meth c C H locs la hP hS hl)
theorem fl_cv1 (i : Nat) : ((ls.map (cvp E)).filter (fun q => !(q.1 == i) && !(q.1 + 1 == i && q.2.category == 2))) = (ls.filter (fun q => !(q.1 == i) && !(q.1 + 1 == i && q.2.category == 2))).map (cvp E) := by
  rw [List.filter_map]
  congr 1
  apply List.filter_congr
  intro q _
  show (!(q.1 == i) && !(q.1 + 1 == i && (cv E q.2).category == 2)) = _
  rw [cv_cat]
theorem fl_cv2 (i : Nat) : ((ls.map (cvp E)).filter (fun q => !(q.1 == i) && (!(q.1 == i + 1) && !(q.1 + 1 == i && q.2.category == 2)))) = (ls.filter (fun q => !(q.1 == i) && (!(q.1 == i + 1) && !(q.1 + 1 == i && q.2.category == 2)))).map (cvp E) := by
  rw [List.filter_map]
  congr 1
  apply List.filter_congr
  intro q _
  show (!(q.1 == i) && (!(q.1 == i + 1) && !(q.1 + 1 == i && (cv E q.2).category == 2))) = _
  rw [cv_cat]
theorem V.istoren {i : Fin 4} {x : Int32} (ls' : List (Nat × Value)) (hd : decode M.1 pc = .ok (.istore_n i, 1)) (hi : i.val < M.2.1) (hf : (i.val, Value.int x) :: ls.filter (fun q => !(q.1 == i.val) && !(q.1 + 1 == i.val && q.2.category == 2)) = ls') (hn : pc + 1 = n) (k : V E M F n ls' st σ) : V E M F pc ls (.int x :: st) σ := by
  subst hn; intro p l e s m args below meth c C H locs la hP hS hl
  exact lv_istore_n C.1 C.2.1 hd rfl hl hi (by rw [fl_cv1, ← hf]; rfl) (fun la' hl' => k p l e s m args below meth c C H locs la' hP hS hl')
theorem V.istore {i : Nat} {x : Int32} (ls' : List (Nat × Value)) (hd : decode M.1 pc = .ok (.istore i, 2)) (hi : i < M.2.1) (hf : (i, Value.int x) :: ls.filter (fun q => !(q.1 == i) && !(q.1 + 1 == i && q.2.category == 2)) = ls') (hn : pc + 2 = n) (k : V E M F n ls' st σ) : V E M F pc ls (.int x :: st) σ := by
  subst hn; intro p l e s m args below meth c C H locs la hP hS hl
  exact lv_istore C.1 C.2.1 hd hl hi (by rw [fl_cv1, ← hf]; rfl) (fun la' hl' => k p l e s m args below meth c C H locs la' hP hS hl')
theorem V.lstoren {i : Fin 4} {x : Int64} (ls' : List (Nat × Value)) (hd : decode M.1 pc = .ok (.lstore_n i, 1)) (hi : i.val + 1 < M.2.1) (hf : (i.val, Value.long x) :: ls.filter (fun q => !(q.1 == i.val) && (!(q.1 == i.val + 1) && !(q.1 + 1 == i.val && q.2.category == 2))) = ls') (hn : pc + 1 = n) (k : V E M F n ls' st σ) : V E M F pc ls (.long x :: st) σ := by
  subst hn; intro p l e s m args below meth c C H locs la hP hS hl
  exact lv_lstore_n C.1 C.2.1 hd rfl hl hi (by rw [fl_cv2, ← hf]; rfl) (fun la' hl' => k p l e s m args below meth c C H locs la' hP hS hl')
theorem V.lstore {i : Nat} {x : Int64} (ls' : List (Nat × Value)) (hd : decode M.1 pc = .ok (.lstore i, 2)) (hi : i + 1 < M.2.1) (hf : (i, Value.long x) :: ls.filter (fun q => !(q.1 == i) && (!(q.1 == i + 1) && !(q.1 + 1 == i && q.2.category == 2))) = ls') (hn : pc + 2 = n) (k : V E M F n ls' st σ) : V E M F pc ls (.long x :: st) σ := by
  subst hn; intro p l e s m args below meth c C H locs la hP hS hl
  exact lv_lstore C.1 C.2.1 hd hl hi (by rw [fl_cv2, ← hf]; rfl) (fun la' hl' => k p l e s m args below meth c C H locs la' hP hS hl')
theorem V.astoren {i : Fin 4} {x : Nat} (ls' : List (Nat × Value)) (hd : decode M.1 pc = .ok (.astore_n i, 1)) (hi : i.val < M.2.1) (hf : (i.val, Value.ref x) :: ls.filter (fun q => !(q.1 == i.val) && !(q.1 + 1 == i.val && q.2.category == 2)) = ls') (hn : pc + 1 = n) (k : V E M F n ls' st σ) : V E M F pc ls (.ref x :: st) σ := by
  subst hn; intro p l e s m args below meth c C H locs la hP hS hl
  exact lv_astore_n C.1 C.2.1 hd rfl hl hi (by rw [fl_cv1, ← hf]; rfl) (fun la' hl' => k p l e s m args below meth c C H locs la' hP hS hl')
theorem V.iinc (q : Nat) (w : Int32) {i : Nat} {j : Int} {x : Int32} (ls' : List (Nat × Value)) (hd : decode M.1 pc = .ok (.iinc i j, 3)) (hq : ls[q]? = some (i, .int x)) (hj : Int32.ofInt j = w) (hi : i < M.2.1) (hf : (i, Value.int (x + w)) :: ls.filter (fun q => !(q.1 == i) && !(q.1 + 1 == i && q.2.category == 2)) = ls') (hn : pc + 3 = n) (k : V E M F n ls' st σ) : V E M F pc ls st σ := by
  subst hn; intro p l e s m args below meth c C H locs la hP hS hl
  exact lv_iinc C.1 C.2.1 hd hl (k := q) (x := x) (v := x + w) (by rw [List.getElem?_map, hq]; rfl) (by rw [hj]) hi (by rw [fl_cv1, ← hf]; rfl) (fun la' hl' => k p l e s m args below meth c C H locs la' hP hS hl')
theorem V.iadd {x y : Int32} (hd : decode M.1 pc = .ok (.iadd, 1)) (hn : pc + 1 = n) (k : V E M F n ls (.int (x + y) :: st) σ) : V E M F pc ls (.int y :: .int x :: st) σ := by
  subst hn; intro p l e s m args below meth c C H locs la hP hS hl
  exact lv_iadd C.1 C.2.1 hd (k p l e s m args below meth c C H locs la hP hS hl)
theorem V.isub {x y : Int32} (hd : decode M.1 pc = .ok (.isub, 1)) (hn : pc + 1 = n) (k : V E M F n ls (.int (x - y) :: st) σ) : V E M F pc ls (.int y :: .int x :: st) σ := by
  subst hn; intro p l e s m args below meth c C H locs la hP hS hl
  exact lv_isub C.1 C.2.1 hd (k p l e s m args below meth c C H locs la hP hS hl)
theorem V.imul {x y : Int32} (hd : decode M.1 pc = .ok (.imul, 1)) (hn : pc + 1 = n) (k : V E M F n ls (.int (x * y) :: st) σ) : V E M F pc ls (.int y :: .int x :: st) σ := by
  subst hn; intro p l e s m args below meth c C H locs la hP hS hl
  exact lv_imul C.1 C.2.1 hd (k p l e s m args below meth c C H locs la hP hS hl)
theorem V.iand {x y : Int32} (hd : decode M.1 pc = .ok (.iand, 1)) (hn : pc + 1 = n) (k : V E M F n ls (.int (x &&& y) :: st) σ) : V E M F pc ls (.int y :: .int x :: st) σ := by
  subst hn; intro p l e s m args below meth c C H locs la hP hS hl
  exact lv_iand C.1 C.2.1 hd (k p l e s m args below meth c C H locs la hP hS hl)
theorem V.ior {x y : Int32} (hd : decode M.1 pc = .ok (.ior, 1)) (hn : pc + 1 = n) (k : V E M F n ls (.int (x ||| y) :: st) σ) : V E M F pc ls (.int y :: .int x :: st) σ := by
  subst hn; intro p l e s m args below meth c C H locs la hP hS hl
  exact lv_ior C.1 C.2.1 hd (k p l e s m args below meth c C H locs la hP hS hl)
theorem V.ixor {x y : Int32} (hd : decode M.1 pc = .ok (.ixor, 1)) (hn : pc + 1 = n) (k : V E M F n ls (.int (x ^^^ y) :: st) σ) : V E M F pc ls (.int y :: .int x :: st) σ := by
  subst hn; intro p l e s m args below meth c C H locs la hP hS hl
  exact lv_ixor C.1 C.2.1 hd (k p l e s m args below meth c C H locs la hP hS hl)
theorem V.ishl {x y : Int32} (hd : decode M.1 pc = .ok (.ishl, 1)) (hn : pc + 1 = n) (k : V E M F n ls (.int (x <<< (y &&& 31)) :: st) σ) : V E M F pc ls (.int y :: .int x :: st) σ := by
  subst hn; intro p l e s m args below meth c C H locs la hP hS hl
  exact lv_ishl C.1 C.2.1 hd (k p l e s m args below meth c C H locs la hP hS hl)
theorem V.ishr {x y : Int32} (hd : decode M.1 pc = .ok (.ishr, 1)) (hn : pc + 1 = n) (k : V E M F n ls (.int (x >>> (y &&& 31)) :: st) σ) : V E M F pc ls (.int y :: .int x :: st) σ := by
  subst hn; intro p l e s m args below meth c C H locs la hP hS hl
  exact lv_ishr C.1 C.2.1 hd (k p l e s m args below meth c C H locs la hP hS hl)
/-- the unsigned shift -/
def ush (x y : Int32) : Int32 := (x.toUInt32 >>> (y.toUInt32 &&& Int32.toUInt32 31)).toInt32
def ushL (x : Int64) (y : Int32) : Int64 := (x.toUInt64 >>> (y.toInt64.toUInt64 &&& Int64.toUInt64 63)).toInt64
theorem V.iushr {x y : Int32} (hd : decode M.1 pc = .ok (.iushr, 1)) (hn : pc + 1 = n) (k : V E M F n ls (.int (ush x y) :: st) σ) : V E M F pc ls (.int y :: .int x :: st) σ := by
  subst hn; intro p l e s m args below meth c C H locs la hP hS hl
  exact lv_iushr C.1 C.2.1 hd rfl (k p l e s m args below meth c C H locs la hP hS hl)
theorem V.idiv {x y : Int32} (hd : decode M.1 pc = .ok (.idiv, 1)) (hy : ¬ y = 0) (hn : pc + 1 = n) (k : V E M F n ls (.int (x / y) :: st) σ) : V E M F pc ls (.int y :: .int x :: st) σ := by
  subst hn; intro p l e s m args below meth c C H locs la hP hS hl
  exact lv_idiv C.1 C.2.1 hd hy (k p l e s m args below meth c C H locs la hP hS hl)
theorem V.irem {x y : Int32} (hd : decode M.1 pc = .ok (.irem, 1)) (hy : ¬ y = 0) (hn : pc + 1 = n) (k : V E M F n ls (.int (x - x / y * y) :: st) σ) : V E M F pc ls (.int y :: .int x :: st) σ := by
  subst hn; intro p l e s m args below meth c C H locs la hP hS hl
  exact lv_irem C.1 C.2.1 hd hy (k p l e s m args below meth c C H locs la hP hS hl)
theorem V.ladd {x y : Int64} (hd : decode M.1 pc = .ok (.ladd, 1)) (hn : pc + 1 = n) (k : V E M F n ls (.long (x + y) :: st) σ) : V E M F pc ls (.long y :: .long x :: st) σ := by
  subst hn; intro p l e s m args below meth c C H locs la hP hS hl
  exact lv_ladd C.1 C.2.1 hd (k p l e s m args below meth c C H locs la hP hS hl)
theorem V.lsub {x y : Int64} (hd : decode M.1 pc = .ok (.lsub, 1)) (hn : pc + 1 = n) (k : V E M F n ls (.long (x - y) :: st) σ) : V E M F pc ls (.long y :: .long x :: st) σ := by
  subst hn; intro p l e s m args below meth c C H locs la hP hS hl
  exact lv_lsub C.1 C.2.1 hd (k p l e s m args below meth c C H locs la hP hS hl)
theorem V.lmul {x y : Int64} (hd : decode M.1 pc = .ok (.lmul, 1)) (hn : pc + 1 = n) (k : V E M F n ls (.long (x * y) :: st) σ) : V E M F pc ls (.long y :: .long x :: st) σ := by
  subst hn; intro p l e s m args below meth c C H locs la hP hS hl
  exact lv_lmul C.1 C.2.1 hd (k p l e s m args below meth c C H locs la hP hS hl)
theorem V.land {x y : Int64} (hd : decode M.1 pc = .ok (.land, 1)) (hn : pc + 1 = n) (k : V E M F n ls (.long (x &&& y) :: st) σ) : V E M F pc ls (.long y :: .long x :: st) σ := by
  subst hn; intro p l e s m args below meth c C H locs la hP hS hl
  exact lv_land C.1 C.2.1 hd (k p l e s m args below meth c C H locs la hP hS hl)
theorem V.lor {x y : Int64} (hd : decode M.1 pc = .ok (.lor, 1)) (hn : pc + 1 = n) (k : V E M F n ls (.long (x ||| y) :: st) σ) : V E M F pc ls (.long y :: .long x :: st) σ := by
  subst hn; intro p l e s m args below meth c C H locs la hP hS hl
  exact lv_lor C.1 C.2.1 hd (k p l e s m args below meth c C H locs la hP hS hl)
theorem V.lushr {x : Int64} {y : Int32} (hd : decode M.1 pc = .ok (.lushr, 1)) (hn : pc + 1 = n) (k : V E M F n ls (.long (ushL x y) :: st) σ) : V E M F pc ls (.int y :: .long x :: st) σ := by
  subst hn; intro p l e s m args below meth c C H locs la hP hS hl
  exact lv_lushr C.1 C.2.1 hd rfl (k p l e s m args below meth c C H locs la hP hS hl)
theorem V.lshl {x : Int64} {y : Int32} (hd : decode M.1 pc = .ok (.lshl, 1)) (hn : pc + 1 = n) (k : V E M F n ls (.long (x <<< (y.toInt64 &&& 63)) :: st) σ) : V E M F pc ls (.int y :: .long x :: st) σ := by
  subst hn; intro p l e s m args below meth c C H locs la hP hS hl
  exact lv_lshl C.1 C.2.1 hd rfl (k p l e s m args below meth c C H locs la hP hS hl)
theorem V.lshr {x : Int64} {y : Int32} (hd : decode M.1 pc = .ok (.lshr, 1)) (hn : pc + 1 = n) (k : V E M F n ls (.long (x >>> (y.toInt64 &&& 63)) :: st) σ) : V E M F pc ls (.int y :: .long x :: st) σ := by
  subst hn; intro p l e s m args below meth c C H locs la hP hS hl
  exact lv_lshr C.1 C.2.1 hd rfl (k p l e s m args below meth c C H locs la hP hS hl)
theorem V.i2l {x : Int32} (hd : decode M.1 pc = .ok (.i2l, 1)) (hn : pc + 1 = n) (k : V E M F n ls (.long x.toInt64 :: st) σ) : V E M F pc ls (.int x :: st) σ := by
  subst hn; intro p l e s m args below meth c C H locs la hP hS hl
  exact lv_i2l C.1 C.2.1 hd rfl (k p l e s m args below meth c C H locs la hP hS hl)
theorem V.l2i {x : Int64} (hd : decode M.1 pc = .ok (.l2i, 1)) (hn : pc + 1 = n) (k : V E M F n ls (.int x.toInt32 :: st) σ) : V E M F pc ls (.long x :: st) σ := by
  subst hn; intro p l e s m args below meth c C H locs la hP hS hl
  exact lv_l2i C.1 C.2.1 hd rfl (k p l e s m args below meth c C H locs la hP hS hl)
theorem V.i2b {x : Int32} (hd : decode M.1 pc = .ok (.i2b, 1)) (hn : pc + 1 = n) (k : V E M F n ls (.int x.toInt8.toInt32 :: st) σ) : V E M F pc ls (.int x :: st) σ := by
  subst hn; intro p l e s m args below meth c C H locs la hP hS hl
  exact lv_i2b C.1 C.2.1 hd rfl (k p l e s m args below meth c C H locs la hP hS hl)
theorem V.i2s {x : Int32} (hd : decode M.1 pc = .ok (.i2s, 1)) (hn : pc + 1 = n) (k : V E M F n ls (.int x.toInt16.toInt32 :: st) σ) : V E M F pc ls (.int x :: st) σ := by
  subst hn; intro p l e s m args below meth c C H locs la hP hS hl
  exact lv_i2s C.1 C.2.1 hd rfl (k p l e s m args below meth c C H locs la hP hS hl)
theorem V.i2c {x : Int32} (hd : decode M.1 pc = .ok (.i2c, 1)) (hn : pc + 1 = n) (k : V E M F n ls (.int (x.toUInt32 % 65536).toInt32 :: st) σ) : V E M F pc ls (.int x :: st) σ := by
  subst hn; intro p l e s m args below meth c C H locs la hP hS hl
  exact lv_i2c C.1 C.2.1 hd rfl (k p l e s m args below meth c C H locs la hP hS hl)
theorem V.lcmp {x y : Int64} (hd : decode M.1 pc = .ok (.lcmp, 1)) (hn : pc + 1 = n) (k : V E M F n ls (.int (lg_cmp x y) :: st) σ) : V E M F pc ls (.long y :: .long x :: st) σ := by
  subst hn; intro p l e s m args below meth c C H locs la hP hS hl
  exact W.lcmp C.1 C.2.1 hd (k p l e s m args below meth c C H locs la hP hS hl)
theorem V.dup {v : Value} (hd : decode M.1 pc = .ok (.dup, 1)) (hv : v.category = 1) (hn : pc + 1 = n) (k : V E M F n ls (v :: v :: st) σ) : V E M F pc ls (v :: st) σ := by
  subst hn; intro p l e s m args below meth c C H locs la hP hS hl
  exact lv_dup C.1 C.2.1 hd (by rw [cv_cat]; exact hv) (k p l e s m args below meth c C H locs la hP hS hl)
theorem V.dup2 {v w : Value} (hd : decode M.1 pc = .ok (.dup2, 1)) (hv : v.category = 1) (hw : w.category = 1) (hn : pc + 1 = n) (k : V E M F n ls (v :: w :: v :: w :: st) σ) : V E M F pc ls (v :: w :: st) σ := by
  subst hn; intro p l e s m args below meth c C H locs la hP hS hl
  exact lv_dup2_11 C.1 C.2.1 hd (by rw [cv_cat]; exact hv) (by rw [cv_cat]; exact hw) (k p l e s m args below meth c C H locs la hP hS hl)
theorem V.pop {v : Value} (hd : decode M.1 pc = .ok (.pop, 1)) (hv : v.category = 1) (hn : pc + 1 = n) (k : V E M F n ls st σ) : V E M F pc ls (v :: st) σ := by
  subst hn; intro p l e s m args below meth c C H locs la hP hS hl
  exact lv_pop C.1 C.2.1 hd (by rw [cv_cat]; exact hv) (k p l e s m args below meth c C H locs la hP hS hl)
theorem V.goto {off : Int} (tgt : Nat) (hd : decode M.1 pc = .ok (.goto off, 3)) (ht : (pc : Int) + off = (tgt : Int)) (k : V E M F tgt ls st σ) : V E M F pc ls st σ := by
  intro p l e s m args below meth c C H locs la hP hS hl
  exact lv_goto C.1 C.2.1 hd ht (k p l e s m args below meth c C H locs la hP hS hl)
theorem V.ifeq {off : Int} {x : Int32} (tgt : Nat) (hd : decode M.1 pc = .ok (.ifCond .eq off, 3)) (ht : (pc : Int) + off = (tgt : Int)) (hn : pc + 3 = n) (kt : x = 0 → V E M F tgt ls st σ) (kf : ¬ x = 0 → V E M F n ls st σ) : V E M F pc ls (.int x :: st) σ := by
  subst hn; intro p l e s m args below meth c C H locs la hP hS hl
  exact lv_if_eq C.1 C.2.1 hd ht (fun h => kt h p l e s m args below meth c C H locs la hP hS hl) (fun h => kf h p l e s m args below meth c C H locs la hP hS hl)
theorem V.ifne {off : Int} {x : Int32} (tgt : Nat) (hd : decode M.1 pc = .ok (.ifCond .ne off, 3)) (ht : (pc : Int) + off = (tgt : Int)) (hn : pc + 3 = n) (kt : ¬ x = 0 → V E M F tgt ls st σ) (kf : x = 0 → V E M F n ls st σ) : V E M F pc ls (.int x :: st) σ := by
  subst hn; intro p l e s m args below meth c C H locs la hP hS hl
  exact lv_if_ne C.1 C.2.1 hd ht (fun h => kt h p l e s m args below meth c C H locs la hP hS hl) (fun h => kf (by first | exact h | exact Decidable.not_not.mp h) p l e s m args below meth c C H locs la hP hS hl)
theorem V.iflt {off : Int} {x : Int32} (tgt : Nat) (hd : decode M.1 pc = .ok (.ifCond .lt off, 3)) (ht : (pc : Int) + off = (tgt : Int)) (hn : pc + 3 = n) (kt : x < 0 → V E M F tgt ls st σ) (kf : ¬ x < 0 → V E M F n ls st σ) : V E M F pc ls (.int x :: st) σ := by
  subst hn; intro p l e s m args below meth c C H locs la hP hS hl
  exact lv_if_lt C.1 C.2.1 hd ht (fun h => kt h p l e s m args below meth c C H locs la hP hS hl) (fun h => kf h p l e s m args below meth c C H locs la hP hS hl)
theorem V.ifge {off : Int} {x : Int32} (tgt : Nat) (hd : decode M.1 pc = .ok (.ifCond .ge off, 3)) (ht : (pc : Int) + off = (tgt : Int)) (hn : pc + 3 = n) (kt : 0 ≤ x → V E M F tgt ls st σ) (kf : ¬ 0 ≤ x → V E M F n ls st σ) : V E M F pc ls (.int x :: st) σ := by
  subst hn; intro p l e s m args below meth c C H locs la hP hS hl
  exact lv_if_ge C.1 C.2.1 hd ht (fun h => kt h p l e s m args below meth c C H locs la hP hS hl) (fun h => kf h p l e s m args below meth c C H locs la hP hS hl)
theorem V.ifgt {off : Int} {x : Int32} (tgt : Nat) (hd : decode M.1 pc = .ok (.ifCond .gt off, 3)) (ht : (pc : Int) + off = (tgt : Int)) (hn : pc + 3 = n) (kt : 0 < x → V E M F tgt ls st σ) (kf : ¬ 0 < x → V E M F n ls st σ) : V E M F pc ls (.int x :: st) σ := by
  subst hn; intro p l e s m args below meth c C H locs la hP hS hl
  exact lv_if_gt C.1 C.2.1 hd ht (fun h => kt h p l e s m args below meth c C H locs la hP hS hl) (fun h => kf h p l e s m args below meth c C H locs la hP hS hl)
theorem V.ifle {off : Int} {x : Int32} (tgt : Nat) (hd : decode M.1 pc = .ok (.ifCond .le off, 3)) (ht : (pc : Int) + off = (tgt : Int)) (hn : pc + 3 = n) (kt : x ≤ 0 → V E M F tgt ls st σ) (kf : ¬ x ≤ 0 → V E M F n ls st σ) : V E M F pc ls (.int x :: st) σ := by
  subst hn; intro p l e s m args below meth c C H locs la hP hS hl
  exact lv_if_le C.1 C.2.1 hd ht (fun h => kt h p l e s m args below meth c C H locs la hP hS hl) (fun h => kf h p l e s m args below meth c C H locs la hP hS hl)
theorem V.icmpeq {off : Int} {x y : Int32} (tgt : Nat) (hd : decode M.1 pc = .ok (.if_icmp .eq off, 3)) (ht : (pc : Int) + off = (tgt : Int)) (hn : pc + 3 = n) (kt : x = y → V E M F tgt ls st σ) (kf : ¬ x = y → V E M F n ls st σ) : V E M F pc ls (.int y :: .int x :: st) σ := by
  subst hn; intro p l e s m args below meth c C H locs la hP hS hl
  exact lv_icmp_eq C.1 C.2.1 hd ht (fun h => kt h p l e s m args below meth c C H locs la hP hS hl) (fun h => kf h p l e s m args below meth c C H locs la hP hS hl)
theorem V.icmpne {off : Int} {x y : Int32} (tgt : Nat) (hd : decode M.1 pc = .ok (.if_icmp .ne off, 3)) (ht : (pc : Int) + off = (tgt : Int)) (hn : pc + 3 = n) (kt : ¬ x = y → V E M F tgt ls st σ) (kf : x = y → V E M F n ls st σ) : V E M F pc ls (.int y :: .int x :: st) σ := by
  subst hn; intro p l e s m args below meth c C H locs la hP hS hl
  exact lv_icmp_ne C.1 C.2.1 hd ht (fun h => kt h p l e s m args below meth c C H locs la hP hS hl) (fun h => kf (by first | exact h | exact Decidable.not_not.mp h) p l e s m args below meth c C H locs la hP hS hl)
theorem V.icmplt {off : Int} {x y : Int32} (tgt : Nat) (hd : decode M.1 pc = .ok (.if_icmp .lt off, 3)) (ht : (pc : Int) + off = (tgt : Int)) (hn : pc + 3 = n) (kt : x < y → V E M F tgt ls st σ) (kf : ¬ x < y → V E M F n ls st σ) : V E M F pc ls (.int y :: .int x :: st) σ := by
  subst hn; intro p l e s m args below meth c C H locs la hP hS hl
  exact lv_icmp_lt C.1 C.2.1 hd ht (fun h => kt h p l e s m args below meth c C H locs la hP hS hl) (fun h => kf h p l e s m args below meth c C H locs la hP hS hl)
theorem V.icmpge {off : Int} {x y : Int32} (tgt : Nat) (hd : decode M.1 pc = .ok (.if_icmp .ge off, 3)) (ht : (pc : Int) + off = (tgt : Int)) (hn : pc + 3 = n) (kt : y ≤ x → V E M F tgt ls st σ) (kf : ¬ y ≤ x → V E M F n ls st σ) : V E M F pc ls (.int y :: .int x :: st) σ := by
  subst hn; intro p l e s m args below meth c C H locs la hP hS hl
  exact lv_icmp_ge C.1 C.2.1 hd ht (fun h => kt h p l e s m args below meth c C H locs la hP hS hl) (fun h => kf h p l e s m args below meth c C H locs la hP hS hl)
theorem V.icmpgt {off : Int} {x y : Int32} (tgt : Nat) (hd : decode M.1 pc = .ok (.if_icmp .gt off, 3)) (ht : (pc : Int) + off = (tgt : Int)) (hn : pc + 3 = n) (kt : y < x → V E M F tgt ls st σ) (kf : ¬ y < x → V E M F n ls st σ) : V E M F pc ls (.int y :: .int x :: st) σ := by
  subst hn; intro p l e s m args below meth c C H locs la hP hS hl
  exact lv_icmp_gt C.1 C.2.1 hd ht (fun h => kt h p l e s m args below meth c C H locs la hP hS hl) (fun h => kf h p l e s m args below meth c C H locs la hP hS hl)
theorem V.icmple {off : Int} {x y : Int32} (tgt : Nat) (hd : decode M.1 pc = .ok (.if_icmp .le off, 3)) (ht : (pc : Int) + off = (tgt : Int)) (hn : pc + 3 = n) (kt : x ≤ y → V E M F tgt ls st σ) (kf : ¬ x ≤ y → V E M F n ls st σ) : V E M F pc ls (.int y :: .int x :: st) σ := by
  subst hn; intro p l e s m args below meth c C H locs la hP hS hl
  exact lv_icmp_le C.1 C.2.1 hd ht (fun h => kt h p l e s m args below meth c C H locs la hP hS hl) (fun h => kf h p l e s m args below meth c C H locs la hP hS hl)
theorem V.tabOut {dflt lo hi : Int} {offs : Array Int} {len : Nat} {x : Int32} (tgt : Nat) (hd : decode M.1 pc = .ok (.tableswitch dflt lo hi offs, len)) (h : x.toInt < lo ∨ hi < x.toInt) (ht : (pc : Int) + dflt = (tgt : Int)) (k : V E M F tgt ls st σ) : V E M F pc ls (.int x :: st) σ := by
  intro p l e s m args below meth c C H locs la hP hS hl
  exact lv_tableOut C.1 C.2.1 hd h ht (k p l e s m args below meth c C H locs la hP hS hl)
theorem V.tabIn {dflt lo hi : Int} {offs : Array Int} {len : Nat} {x : Int32} {off : Int} (tgt : Nat) (hd : decode M.1 pc = .ok (.tableswitch dflt lo hi offs, len)) (h1 : ¬ x.toInt < lo) (h2 : ¬ hi < x.toInt) (ho : offs[(x.toInt - lo).toNat]? = some off) (ht : (pc : Int) + off = (tgt : Int)) (k : V E M F tgt ls st σ) : V E M F pc ls (.int x :: st) σ := by
  intro p l e s m args below meth c C H locs la hP hS hl
  exact lv_tableIn C.1 C.2.1 hd h1 h2 ho ht (k p l e s m args below meth c C H locs la hP hS hl)
end RW
