/-! rows of calls and ends -/
section CL
variable {E : Ev} {M : MI} {F : VF} {pc n : Nat} {ls : List (Nat × Value)} {st : List Value} {σ : St}
/-- what the tables say of a method: an instance method that can be called on its class; a static one -/
def MYV (M' : MI) : Prop := Cond.instanceMethod M'.2.2.2.1 ∈ GW ∧ Cond.selects M'.2.2.2.1.cls M'.2.2.2.1 M'.2.2.2.1 ∈ GW ∧ Cond.initialized M'.2.2.2.1.cls ∈ GW ∧ Cond.code M'.2.2.2.1 M'.1 M'.2.1 M'.2.2.1 ∈ GW
def MYS (M' : MI) : Prop := Cond.static M'.2.2.2.1 ∈ GW ∧ Cond.initialized M'.2.2.2.1.cls ∈ GW ∧ Cond.code M'.2.2.2.1 M'.1 M'.2.1 M'.2.2.1 ∈ GW
def MN (M' : MI) (k : Nat) : Prop := M'.2.2.2.1.cls ≠ "java/lang/invoke/MethodHandle" ∧ M'.2.2.2.1.cls ≠ "java/lang/invoke/VarHandle" ∧ (parseMethodDescriptor M'.2.2.2.1.desc).map (fun d => d.parameters.length) = some k
/-- the callee's room in the caller's -/
def RM (M M' : MI) : Prop := M'.2.2.2.2.cells = 0 ∧ M'.2.2.2.2.slots = 0 ∧ M'.2.2.2.2.frames + 1 ≤ M.2.2.2.2.frames ∧ 8 + (M'.2.1 + 11) + M'.2.2.2.2.locals ≤ M.2.2.2.2.locals
theorem gw_good : GoodIn GW GW := fun _ hw => ⟨hw, good_of_word (List.mem_filter.mp hw).2⟩
theorem gw_code {M' : MI} (h : Cond.code M'.2.2.2.1 M'.1 M'.2.1 M'.2.2.1 ∈ GW) : GoodIn GW (Cond.code M'.2.2.2.1 M'.1 M'.2.1 M'.2.2.1 :: GW) := fun w hw => by
  rcases List.mem_cons.mp hw with e | e
  · rw [e]; exact gw_good _ h
  · exact gw_good _ e
/-- behind a call -/
theorem call_on {p : Program} {l : Launch} {e : Env} {R : Room} {s : State} {m : MethodId} {args : Array Value} {below : List Frame} {meth : Method} {c : Code} {H : Heap} {locs : List Loc} {cs ss : Nat} {Q : State → Prop} {la : Array Slot} {st0 rest : List Value} {a : Array Value} {z : Option Value × St}
    (hr : va_Run p l e R s m args below meth c H locs cs ss 0 0 (F0 m pc la st0) rest (QZ E z a) (AA E)) (hS : va_S (AA E) s.heap H locs)
    (kk : ∀ (H1 : Heap) (locs1 : List Loc), va_P E.2.1 cls (wsO E z.2) H1 → va_S (AA E) s.heap H1 locs1 → W p l e R s m args below meth c H1 locs1 cs ss Q (F0 m (pc + 3) la (z.1.toList ++ rest))) : W p l e R s m args below meth c H locs cs ss Q (F0 m pc la st0) := by
  intro T hT X
  obtain ⟨v, st₀, t, T', L, h0, X', hL, e1, e2, ⟨hv, hp, hz, hk⟩, stp⟩ := hr T hT X
  have hv' : v = z.1 := by cases hv; rfl
  subst hv'
  rw [h0] at hz hk
  obtain ⟨t2, a1, b1⟩ := kk T'.heap (locs ++ L) (by rw [e1]; exact hp)
    ⟨Nat.le_trans hS.1 (by rw [e1]; exact hz), fun q h1 h2 => by rw [e1, hk q (Nat.lt_of_lt_of_le h1 hS.1) h2]; exact hS.2.1 q h1 h2, fun q hq => by
      rcases List.mem_append.mp hq with h | h
      · exact hS.2.2 q h
      · exact hL q h⟩ T' rfl X'
  exact ⟨t2, stp t2 a1, b1⟩
theorem pw_blind {av : List Value} : FrameBlind (va_Pc av (Pw E σ)) := fun a U g mk q => ⟨q.1, q.2.1, q.2.2.blind⟩
theorem cat_cv (l : List Value) : ((l.map (cv E)).map fun v => v.category).sum = (l.map fun v => v.category).sum := by
  rw [List.map_map]
  congr 1
  exact List.map_congr_left fun v _ => cv_cat E v
theorem z_cv {z : Option Value × St} {v : Option Int32} (h : z.1 = v.map Value.int) : z.1.toList.map (cv E) = z.1.toList := by
  rw [h]; cases v <;> rfl
theorem V.callv (k : Nat) (As : List Value) {stk : List Value} {M' : MI} {z : Option Value × St} {idx ci x : Nat} {v : Option Int32} (hd : decode M.1 pc = .ok (.invokevirtual idx, 3)) (hC : Ct M' E (.ref k :: As) σ z) (hz : z.1 = v.map Value.int) (hw : Cond.methodLink M.2.2.2.1.cls idx M'.2.2.2.1 ∈ GW) (hy : MYV M') (hm : MN M' As.length) (hr : RM M M') (hk : kd k = (ci, x)) (hci : ci < 7 ∧ (cls[ci]?.map (fun q => q.1)) = some M'.2.2.2.1.cls) (hst : stk = As.reverse ++ .ref k :: st) (hcat : (st.map fun v => v.category).sum ≤ 8) (hf : F.2.1 ≤ M.2.2.2.2.cells ∧ F.2.2.1 ≤ M.2.2.2.2.slots) (hn : pc + 3 = n) (kk : V E M F n ls (z.1.toList ++ st) z.2) : V E M F pc ls stk σ := by
  subst hn; subst hst; intro p l e s m args below meth c C H locs la hP hS hl
  obtain ⟨y1, y2, y3, y4⟩ := hy
  obtain ⟨r1, r2, r3, r4⟩ := hr
  have hts := C.2.2.2.2.2.2.1
  have hlt : k < 67 := kd_lt hk (by show ci < 99; omega)
  obtain ⟨q, hq, hq1⟩ : ∃ q : vw_C, cls[ci]? = some q ∧ q.1 = M'.2.2.2.1.cls := by
    cases h : cls[ci]? with
    | none => rw [h] at hci; cases hci.2
    | some q => rw [h] at hci; exact ⟨q, rfl, Option.some.inj hci.2⟩
  have hrc := va_recv C.2.2.2.2.2.2.2.1.2.1 hP hq (q0 := k) (a := E.1 k) (fs := flds E σ k ci) (by rw [wsO_at hlt, cel_obj hk hci.1])
  rw [hq1] at hrc
  have cw : CallW M.2.2.2.2 s args M.2.2.2.1.cls M'.2.2.2.1.cls idx M'.2.2.2.1 M'.1 M'.2.1 M'.2.2.1 (Cond.code M'.2.2.2.1 M'.1 M'.2.1 M'.2.2.1 :: GW) M'.2.2.2.2 0 0 As.length :=
    ⟨callB_of As.length hts (gw_code y4) rfl r1 r2 (hts _ y3) (hts _ hw) hm ⟨r3, r4⟩, hts _ y1, hts _ y2⟩
  refine call_on (z := z) (rest := st.map (cv E)) (va_runV (As := As.map (cv E)) (b := E.1 k) ⟨C.1, C.2.1, C.2.2.1, C.2.2.2.2.2.1, hts⟩ (hC l) cw ⟨pw_blind, hrc, fun U hU hW => ⟨rfl, by rw [hU]; exact hP, C.2.2.2.2.2.2.2.1.go hW (by rw [hU]; exact hS)⟩⟩ rfl (by simp) hl.1 ?_ (lv_room (by rw [cat_cv]; exact hcat)) hd hf) hS (fun H1 locs1 hP1 hS1 => ?_)
  · show (As.reverse ++ .ref k :: st).map (cv E) = _
    rw [List.map_append, List.map_reverse]
    rfl
  · have h := kk p l e s m args below meth c C H1 locs1 la hP1 hS1 hl
    rw [List.map_append, z_cv hz] at h
    exact h
theorem V.calls (As : List Value) {stk : List Value} {M' : MI} {z : Option Value × St} {idx : Nat} {v : Option Int32} (hd : decode M.1 pc = .ok (.invokestatic idx, 3)) (hC : Ct M' E As σ z) (hz : z.1 = v.map Value.int) (hw : Cond.methodLink M.2.2.2.1.cls idx M'.2.2.2.1 ∈ GW) (hy : MYS M') (hm : MN M' As.length) (hr : RM M M') (hst : stk = As.reverse ++ st) (hcat : (st.map fun v => v.category).sum ≤ 8) (hf : F.2.1 ≤ M.2.2.2.2.cells ∧ F.2.2.1 ≤ M.2.2.2.2.slots) (hn : pc + 3 = n) (kk : V E M F n ls (z.1.toList ++ st) z.2) : V E M F pc ls stk σ := by
  subst hn; subst hst; intro p l e s m args below meth c C H locs la hP hS hl
  obtain ⟨y1, y3, y4⟩ := hy
  obtain ⟨r1, r2, r3, r4⟩ := hr
  have hts := C.2.2.2.2.2.2.1
  have cw : CallB M.2.2.2.2 s args M.2.2.2.1.cls idx M'.2.2.2.1 M'.1 M'.2.1 M'.2.2.1 (Cond.code M'.2.2.2.1 M'.1 M'.2.1 M'.2.2.1 :: GW) M'.2.2.2.2 0 0 As.length :=
    callB_of As.length hts (gw_code y4) rfl r1 r2 (hts _ y3) (hts _ hw) hm ⟨r3, r4⟩
  refine call_on (z := z) (rest := st.map (cv E)) (va_runS (As := As.map (cv E)) ⟨C.1, C.2.1, C.2.2.1, C.2.2.2.2.2.1, hts⟩ (hC l) ⟨cw, hts _ y1⟩ ⟨pw_blind, fun U hU hW => ⟨rfl, by rw [hU]; exact hP, C.2.2.2.2.2.2.2.1.go hW (by rw [hU]; exact hS)⟩⟩ rfl (by simp) hl.1 ?_ (lv_room (by rw [cat_cv]; exact hcat)) hd hf) hS (fun H1 locs1 hP1 hS1 => ?_)
  · show (As.reverse ++ st).map (cv E) = _
    rw [List.map_append, List.map_reverse]
  · have h := kk p l e s m args below meth c C H1 locs1 la hP1 hS1 hl
    rw [List.map_append, z_cv hz] at h
    exact h
/-- a private static method of the class around -/
theorem V.callN (As : List Value) {stk : List Value} {M' : MI} {z : Option Value × St} {idx : Nat} {v : Option Int32} (hd : decode M.1 pc = .ok (.invokestatic idx, 3)) (hC : Ct M' E As σ z) (hz : z.1 = v.map Value.int) (hw : ∀ U, EN E U → va_Nw (.methodLinkNest M.2.2.2.1.cls idx M'.2.2.2.1 "EveryHand") U) (hy : MYS M') (hm : MN M' As.length) (hr : RM M M') (hst : stk = As.reverse ++ st) (hcat : (st.map fun v => v.category).sum ≤ 8) (hf : F.2.1 ≤ M.2.2.2.2.cells ∧ F.2.2.1 ≤ M.2.2.2.2.slots) (hn : pc + 3 = n) (kk : V E M F n ls (z.1.toList ++ st) z.2) : V E M F pc ls stk σ := by
  subst hn; subst hst; intro p l e s m args below meth c C H locs la hP hS hl
  obtain ⟨y1, y3, y4⟩ := hy
  obtain ⟨r1, r2, r3, r4⟩ := hr
  have hts := C.2.2.2.2.2.2.1
  have cw : va_CN M.2.2.2.2 s args M.2.2.2.1.cls idx M'.2.2.2.1 "EveryHand" M'.1 M'.2.1 M'.2.2.1 (Cond.code M'.2.2.2.1 M'.1 M'.2.1 M'.2.2.1 :: GW) M'.2.2.2.2 0 0 As.length :=
    va_cnB As.length hts (gw_code y4) rfl r1 r2 (hw s C.2.2.2.2.2.2.2.1) (hts _ y3) hm ⟨r3, r4⟩
  refine call_on (z := z) (rest := st.map (cv E)) (va_runSN (As := As.map (cv E)) ⟨C.1, C.2.1, C.2.2.1, C.2.2.2.2.2.1, hts⟩ (hC l) ⟨cw, hts _ y1, trivial⟩ ⟨pw_blind, fun U hU hW => ⟨rfl, by rw [hU]; exact hP, C.2.2.2.2.2.2.2.1.go hW (by rw [hU]; exact hS)⟩⟩ rfl (by simp) hl.1 ?_ (lv_room (by rw [cat_cv]; exact hcat)) hd hf) hS (fun H1 locs1 hP1 hS1 => ?_)
  · show (As.reverse ++ st).map (cv E) = _
    rw [List.map_append, List.map_reverse]
  · have h := kk p l e s m args below meth c C H1 locs1 la hP1 hS1 hl
    rw [List.map_append, z_cv hz] at h
    exact h
theorem qz_end {z : Option Value × St} {args : Array Value} {s : State} {H : Heap} {locs : List Loc} {σ : St} {o : Option Value} (hz : z = (o, σ)) (hP : va_P E.2.1 cls (wsO E σ) H) (hS : va_S (AA E) s.heap H locs) : ∀ t : State, t.heap = H → s.WarmedH t.vm → QZ E z args s (.returned o) t := by
  subst hz
  intro t ht _
  exact ⟨rfl, by rw [ht]; exact hP, hS.F ht⟩
theorem V.iret {x : Int32} {z : Option Value × St} (hd : decode M.1 pc = .ok (.ireturn, 1)) (hr : M.2.2.1 = some .int) (hz : z = (some (.int x), σ)) : V E M (FM E z) pc ls [.int x] σ := by
  intro p l e s m args below meth c C H locs la hP hS hl
  exact W.iret C.1 C.2.1 (by rw [C.2.2.2.1, hr]) (qz_end hz hP hS) hS.2.2 hd C.2.2.2.2.1
theorem V.zret {x : Int32} {z : Option Value × St} (ty : FieldType) (hd : decode M.1 pc = .ok (.ireturn, 1)) (hr : M.2.2.1 = some ty) (hx : narrow ty (.int x) = .int x) (hz : z = (some (.int x), σ)) : V E M (FM E z) pc ls [.int x] σ := by
  intro p l e s m args below meth c C H locs la hP hS hl
  exact W.zret C.1 C.2.1 (ty := ty) (by rw [C.2.2.2.1, hr]) hx (qz_end hz hP hS) hS.2.2 hd C.2.2.2.2.1
theorem V.vret {z : Option Value × St} (hd : decode M.1 pc = .ok (.return_, 1)) (hr : M.2.2.1 = none) (hz : z = (none, σ)) : V E M (FM E z) pc ls [] σ := by
  intro p l e s m args below meth c C H locs la hP hS hl
  exact W.vret C.1 C.2.1 (by rw [C.2.2.2.1, hr]) (qz_end hz hP hS) hS.2.2 hd C.2.2.2.2.1
theorem row_cp {σ : St} {a b n x : Nat} (h : x ≠ b) : (cpI σ a b n).1 x = σ.1 x := by
  funext j
  show (if x = b ∧ j < n then σ.1 a j else σ.1 x j) = _
  rw [if_neg (fun z => h z.1)]
theorem cel_cp {E : Ev} {σ : St} {a b n x : Nat} (h : x ≠ b) : cel E (cpI σ a b n) x = cel E σ x := by
  unfold cel
  have e2 : (cpI σ a b n).2.1 = σ.2.1 := rfl
  rw [row_cp h, e2]
  split
  · rfl
  · rfl
  · rfl
  · rename_i ci y _ _ _ he
    refine congrArg (fun y => Sum.inr (ci, y)) ?_
    unfold flds
    refine List.map_congr_left fun i _ => ?_
    cases (fc ci).getD i 0 with
    | zero => show Value.int ((cpI σ a b n).1 x i) = Value.int (σ.1 x i); rw [row_cp h]
    | succ c => match c with
      | 0 => rfl
      | 1 => rfl
      | _ + 2 => rfl
/-- System.arraycopy of n ints from place 0 to place 0 -/
theorem V.acopy (a b : Nat) {x y : Nat} {v : Int32} {idx : Nat} (hd : decode M.1 pc = .ok (.invokestatic idx, 3)) (hw : Cond.methodLink M.2.2.2.1.cls idx arraycopyName ∈ GW ∧ Cond.native arraycopyName ∈ GW ∧ Cond.static arraycopyName ∈ GW ∧ Cond.initialized "java/lang/System" ∈ GW) (ha : kd a = (7, x)) (hb : kd b = (7, y)) (hv : ¬ v < 0) (hx : v.toNatClampNeg ≤ x) (hy : v.toNatClampNeg ≤ y) (hr : 1 ≤ M.2.2.2.2.frames ∧ (st.map fun v => v.category).sum + (nativeFrameWords "java/lang/System" "arraycopy" 5 + 11) ≤ M.2.2.2.2.locals) (hn : pc + 3 = n) (kk : V E M F n ls st (cpI σ a b v.toNatClampNeg)) : V E M F pc ls (.int v :: .int 0 :: .ref b :: .int 0 :: .ref a :: st) σ := by
  subst hn; intro p l e s m args below meth c C H locs la hP hS hl
  have hla : a < 67 := kd_lt ha (show (7 : Nat) < 99 by decide)
  have hlb : b < 67 := kd_lt hb (show (7 : Nat) < 99 by decide)
  have hts := C.2.2.2.2.2.2.1
  refine va_copyi C.1 C.2.1 (C.2.2.1.trans hl.1.symm) C.2.2.2.2.2.1 (hts _ hw.1) (hts _ hw.2.1) (hts _ hw.2.2.1) (hts _ hw.2.2.2) C.2.2.2.2.2.2.2.1.2.1 hP (wsO_D C.2.2.2.2.2.2.2.1.1) hS a b 0 0 (f := σ.1 a) (g := σ.1 b) (by rw [wsO_at hla, cel_int ha]) (by rw [wsO_at hlb, cel_int hb]) rfl rfl rfl (by decide) (by decide) hv (by show 0 + _ ≤ x; omega) (by show 0 + _ ≤ y; omega) (fun i _ => rfl) hr.1 (by rw [cat_cv]; exact hr.2) hd (fun H1 locs1 hP1 hD1 hS1 => ?_)
  rw [wsO_set (σ' := cpI σ a b v.toNatClampNeg) hlb (by
    rw [cel_int hb]
    refine congrArg (fun y => Sum.inl (E.2.2.1, _, Sum.inl y)) ?_
    funext j
    show (if b = b ∧ j < v.toNatClampNeg then σ.1 a j else σ.1 b j) = va_cpy (σ.1 a) (σ.1 b) 0 0 v.toNatClampNeg j
    unfold va_cpy
    by_cases h : j < v.toNatClampNeg
    · rw [if_pos ⟨rfl, h⟩, if_pos ⟨Nat.zero_le _, by omega⟩, Nat.zero_add, Nat.sub_zero]
    · rw [if_neg (fun z => h z.2), if_neg (fun z => h (by omega))]) (fun a ha => cel_cp ha)] at hP1
  exact kk p l e s m args below meth c C H1 locs1 la hP1 hS1 hl
end CL
/-! what a walk takes out of an answer -/
theorem ob {α : Type} {c : Prop} [Decidable c] {x : Option α} {z : α} (h : (if c then x else none) = some z) : c ∧ x = some z := by
  by_cases hc : c
  · rw [if_pos hc] at h; exact ⟨hc, h⟩
  · rw [if_neg hc] at h; cases h
theorem bd {α β : Type} {x : Option α} {f : α → Option β} {z : β} (h : x.bind f = some z) : ∃ y, x = some y ∧ f y = some z := by
  cases x with
  | none => cases h
  | some y => exact ⟨y, rfl, h⟩
theorem ip {α : Sort _} {c : Prop} [Decidable c] {a b z : α} (h : (if c then a else b) = z) (hc : c) : a = z := by rw [if_pos hc] at h; exact h
theorem im {α : Sort _} {c : Prop} [Decidable c] {a b z : α} (h : (if c then a else b) = z) (hc : ¬ c) : b = z := by rw [if_neg hc] at h; exact h
section C2
variable {E : Ev} {M : MI} {F : VF} {pc n : Nat} {ls : List (Nat × Value)} {st : List Value} {σ σ2 : St} {M' : MI} {stk : List Value} {idx : Nat} {r : Int32}
theorem V.callvi (k : Nat) (As : List Value) {ci x : Nat} (hd : decode M.1 pc = .ok (.invokevirtual idx, 3)) (hC : Ct M' E (.ref k :: As) σ (some (.int r), σ2)) (hw : Cond.methodLink M.2.2.2.1.cls idx M'.2.2.2.1 ∈ GW) (hy : MYV M') (hm : MN M' As.length) (hr : RM M M') (hk : kd k = (ci, x)) (hci : ci < 7 ∧ (cls[ci]?.map (fun q => q.1)) = some M'.2.2.2.1.cls) (hst : stk = As.reverse ++ .ref k :: st) (hcat : (st.map fun v => v.category).sum ≤ 8) (hf : F.2.1 ≤ M.2.2.2.2.cells ∧ F.2.2.1 ≤ M.2.2.2.2.slots) (hn : pc + 3 = n) (kk : V E M F n ls (.int r :: st) σ2) : V E M F pc ls stk σ :=
  V.callv k As (v := some r) hd hC rfl hw hy hm hr hk hci hst hcat hf hn kk
theorem V.callv0 (k : Nat) (As : List Value) {ci x : Nat} (hd : decode M.1 pc = .ok (.invokevirtual idx, 3)) (hC : Ct M' E (.ref k :: As) σ (none, σ2)) (hw : Cond.methodLink M.2.2.2.1.cls idx M'.2.2.2.1 ∈ GW) (hy : MYV M') (hm : MN M' As.length) (hr : RM M M') (hk : kd k = (ci, x)) (hci : ci < 7 ∧ (cls[ci]?.map (fun q => q.1)) = some M'.2.2.2.1.cls) (hst : stk = As.reverse ++ .ref k :: st) (hcat : (st.map fun v => v.category).sum ≤ 8) (hf : F.2.1 ≤ M.2.2.2.2.cells ∧ F.2.2.1 ≤ M.2.2.2.2.slots) (hn : pc + 3 = n) (kk : V E M F n ls st σ2) : V E M F pc ls stk σ :=
  V.callv k As (v := none) hd hC rfl hw hy hm hr hk hci hst hcat hf hn kk
theorem V.callsi (As : List Value) (hd : decode M.1 pc = .ok (.invokestatic idx, 3)) (hC : Ct M' E As σ (some (.int r), σ2)) (hw : Cond.methodLink M.2.2.2.1.cls idx M'.2.2.2.1 ∈ GW) (hy : MYS M') (hm : MN M' As.length) (hr : RM M M') (hst : stk = As.reverse ++ st) (hcat : (st.map fun v => v.category).sum ≤ 8) (hf : F.2.1 ≤ M.2.2.2.2.cells ∧ F.2.2.1 ≤ M.2.2.2.2.slots) (hn : pc + 3 = n) (kk : V E M F n ls (.int r :: st) σ2) : V E M F pc ls stk σ :=
  V.calls As (v := some r) hd hC rfl hw hy hm hr hst hcat hf hn kk
theorem V.callNi (As : List Value) (hd : decode M.1 pc = .ok (.invokestatic idx, 3)) (hC : Ct M' E As σ (some (.int r), σ2)) (hw : ∀ U, EN E U → va_Nw (.methodLinkNest M.2.2.2.1.cls idx M'.2.2.2.1 "EveryHand") U) (hy : MYS M') (hm : MN M' As.length) (hr : RM M M') (hst : stk = As.reverse ++ st) (hcat : (st.map fun v => v.category).sum ≤ 8) (hf : F.2.1 ≤ M.2.2.2.2.cells ∧ F.2.2.1 ≤ M.2.2.2.2.slots) (hn : pc + 3 = n) (kk : V E M F n ls (.int r :: st) σ2) : V E M F pc ls stk σ :=
  V.callN As (v := some r) hd hC rfl hw hy hm hr hst hcat hf hn kk
theorem V.top {a b : Int32} (h : a = b) (k : V E M F pc ls (.int b :: st) σ) : V E M F pc ls (.int a :: st) σ := by rw [h]; exact k
end C2
/-- an expression gets a name -/
def nm {α β : Type} (a : α) (f : α → β) : β := f a
theorem nmx {α β : Type} {a : α} {f : α → β} {z : β} (h : nm a f = z) : f a = z := h
def bi {β : Type} (x : Option (Int32 × St)) (f : Int32 → St → Option β) : Option β := x.bind fun q => f q.1 q.2
theorem bi2 {β : Type} {x : Option (Int32 × St)} {f : Int32 → St → Option β} {z : β} (h : bi x f = some z) : ∃ r σ, x = some (r, σ) ∧ f r σ = some z := by
  obtain ⟨⟨r, σ⟩, h1, h2⟩ := bd h
  exact ⟨r, σ, h1, h2⟩
theorem jn {α β : Type} {J0 : α} {f : α → Option β} {z : β} {Pj : α → Prop} {G : Prop} (h : nm J0 f = some z) (hj : Pj J0) (k : ∀ J, Pj J → f J = some z → G) : G := k J0 hj h
/-- 0 or 1 -/
abbrev b01 (v : Int32) : Prop := v = 0 ∨ v = 1
theorem b01_0 : b01 0 := Or.inl rfl
theorem b01_1 : b01 1 := Or.inr rfl
theorem b01_i {c : Prop} [Decidable c] {a b : Int32} (ha : b01 a) (hb : b01 b) : b01 (if c then a else b) := by split <;> assumption
theorem nz {v : Int32} (h : b01 v) : narrow .boolean (.int v) = .int v ∧ fits .boolean (.int v) = true := by
  rcases h with h | h <;> subst h <;> exact ⟨rfl, rfl⟩
/-- the towns, and the texts -/
def isTb (t : Nat) : Bool := t == 1 || t == 9 || t == 17
def isSb (t : Nat) : Bool := decide (100 ≤ t) && decide (t < 112)
theorem isTb_or {t : Nat} (h : isTb t = true) : t = 1 ∨ t = 9 ∨ t = 17 := by
  simp only [isTb, Bool.or_eq_true, beq_iff_eq] at h
  omega
theorem tk0 {t : Nat} (h : isTb t = true) : kd t = (2, 0) := by rcases isTb_or h with h | h | h <;> subst h <;> rfl
theorem tk1 {t : Nat} (h : isTb t = true) : kd (t + 1) = (7, 7) := by rcases isTb_or h with h | h | h <;> subst h <;> rfl
theorem tk2 {t : Nat} (h : isTb t = true) : kd (t + 2) = (7, 7) := by rcases isTb_or h with h | h | h <;> subst h <;> rfl
theorem tk3 {t : Nat} (h : isTb t = true) : kd (t + 3) = (7, 7) := by rcases isTb_or h with h | h | h <;> subst h <;> rfl
theorem tk4 {t : Nat} (h : isTb t = true) : kd (t + 4) = (7, 6) := by rcases isTb_or h with h | h | h <;> subst h <;> rfl
theorem tk5 {t : Nat} (h : isTb t = true) : kd (t + 5) = (7, 6) := by rcases isTb_or h with h | h | h <;> subst h <;> rfl
theorem tk6 {t : Nat} (h : isTb t = true) : kd (t + 6) = (7, 6) := by rcases isTb_or h with h | h | h <;> subst h <;> rfl
theorem tk7 {t : Nat} (h : isTb t = true) : kd (t + 7) = (7, 6) := by rcases isTb_or h with h | h | h <;> subst h <;> rfl
theorem kdit {i : Int32} (h : ib i 4 = true) : kd (36 + 1 + ix i) = (7, 40) := by
  have h1 : ix i < 4 := Nat.not_le.mp fun q => (ib_in.mp h) (Or.inr q)
  have key : ∀ j, j < 4 → kd (36 + 1 + j) = (7, 40) := by decide +kernel
  exact key _ h1
