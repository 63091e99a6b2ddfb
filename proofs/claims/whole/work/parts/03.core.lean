/-! the state of all cells, the worlds that hold it, and the judgement V: the machine at a place of a method, over a state -/
abbrev St : Type := (Nat → Nat → Int32) × (Nat → Nat → Int64) × (Nat → Nat)
def gI (σ : St) (k j : Nat) : Int32 := σ.1 k j
def gL (σ : St) (k j : Nat) : Int64 := σ.2.1 k j
def gR (σ : St) (j : Nat) : Nat := σ.2.2 j
def sI (σ : St) (k j : Nat) (v : Int32) : St := (fun a b => if a = k ∧ b = j then v else σ.1 a b, σ.2)
def sL (σ : St) (k j : Nat) (v : Int64) : St := (σ.1, fun a b => if a = k ∧ b = j then v else σ.2.1 a b, σ.2.2)
def sR (σ : St) (j : Nat) (v : Nat) : St := (σ.1, σ.2.1, fun b => if b = j then v else σ.2.2 b)
/-- the first n ints of cell a become those of cell b -/
def cpI (σ : St) (a b n : Nat) : St := (fun x j => if x = b ∧ j < n then σ.1 a j else σ.1 x j, σ.2)
/-- addresses by number; classes; the classes of int[], long[], int[][] -/
abbrev Ev : Type := (Nat → Nat) × va_G × ClassId × ClassId × ClassId
def cv (E : Ev) (v : Value) : Value := match v with
  | .ref k => .ref (E.1 k)
  | w => w
def cvp (E : Ev) (q : Nat × Value) : Nat × Value := (q.1, cv E q.2)
def fval (E : Ev) (σ : St) (k j c : Nat) : Value := match c with
  | 0 => .int (gI σ k j)
  | 1 => .long (gL σ k j)
  | 2 => .ref (E.1 (gR σ j))
  | n + 3 => .ref (E.1 (k + n))
def flds (E : Ev) (σ : St) (k ci : Nat) : List Value := (List.range (fc ci).length).map (fun j => fval E σ k j ((fc ci).getD j 0))
def cel (E : Ev) (σ : St) (k : Nat) : va_E := match kd k with
  | (7, n) => .inl (E.2.2.1, n, .inl (σ.1 k))
  | (8, n) => .inl (E.2.2.2.1, n, .inr (.inl (σ.2.1 k)))
  | (9, n) => .inl (E.2.2.2.2, n, .inr (.inr (.inr (.inr (fun i => if i < n then some (E.1 (k + 1 + i)) else none)))))
  | (ci, _) => .inr (ci, flds E σ k ci)
def wsO (E : Ev) (σ : St) : va_W := (List.range 67).map (fun k => (E.1 k, cel E σ k))
def AA (E : Ev) : Nat → Prop := fun q => ∃ k, k < 67 ∧ q = E.1 k
theorem wsO_at {E : Ev} {σ : St} {k : Nat} (h : k < 67) : (wsO E σ)[k]? = some (E.1 k, cel E σ k) := by
  unfold wsO
  rw [List.getElem?_map, List.getElem?_range h]
  rfl
theorem wsO_len (E : Ev) (σ : St) : (wsO E σ).length = 67 := by simp [wsO]
theorem wsO_set {E : Ev} {σ σ' : St} {k : Nat} {e : va_E} (h : k < 67) (he : cel E σ' k = e) (ho : ∀ j, j ≠ k → cel E σ' j = cel E σ j) : (wsO E σ).set k (E.1 k, e) = wsO E σ' := by
  apply List.ext_getElem?
  intro i
  rw [List.getElem?_set]
  by_cases hi : k = i
  · subst hi
    rw [if_pos rfl, if_pos (by rw [wsO_len]; exact h), wsO_at h, he]
  · rw [if_neg hi]
    by_cases hl : i < 67
    · rw [wsO_at hl, wsO_at hl, ho i (fun z => hi z.symm)]
    · rw [List.getElem?_eq_none (by rw [wsO_len]; omega), List.getElem?_eq_none (by rw [wsO_len]; omega)]
/-- the addresses of the cells are apart -/
def Inj (E : Ev) : Prop := ∀ i j, i < 67 → j < 67 → E.1 i = E.1 j → i = j
theorem wsO_D {E : Ev} {σ : St} (h : Inj E) : va_D (AA E) (wsO E σ) := by
  refine ⟨fun i j p q hp hq e => ?_, fun k q hq => ?_⟩
  · have hi : i < 67 := by have := (List.getElem?_eq_some_iff.mp hp).1; rwa [wsO_len] at this
    have hj : j < 67 := by have := (List.getElem?_eq_some_iff.mp hq).1; rwa [wsO_len] at this
    rw [wsO_at hi] at hp
    rw [wsO_at hj] at hq
    cases hp
    cases hq
    exact h i j hi hj e
  · have hk : k < 67 := by have := (List.getElem?_eq_some_iff.mp hq).1; rwa [wsO_len] at this
    rw [wsO_at hk] at hq
    cases hq
    exact ⟨k, hk, rfl⟩
/-- the tables of the class: UNDER (cell 300), OWN (cell 301) -/
def tUN : List Int32 := [-1, 0, 0, 1, 2, 0]
def tOW : List Int32 := [10, 11, 12, 13, 0, 20, 0, 0, 30, 0, 0, 31, 51, 0, 50, 0, 40, 41, 0, 0, 0, 0, 61, 60]
/-- the texts: cells 100 + i, their bytes in cells 150 + i -/
def tTX : List (Nat × String) := [(37, "person"), (92, ";"), (46, "know"), (102, "coin"), (104, "half"), (106, "crown"), (108, "false"), (110, "blessed"), (112, "worn"), (81, "of"), (87, "had"), (96, ",")]
def tBY : List (List Int32) := [[112, 101, 114, 115, 111, 110], [59], [107, 110, 111, 119], [99, 111, 105, 110], [104, 97, 108, 102], [99, 114, 111, 119, 110], [102, 97, 108, 115, 101], [98, 108, 101, 115, 115, 101, 100], [119, 111, 114, 110], [111, 102], [104, 97, 100], [44]]
def tLN : List Nat := [6, 1, 4, 4, 4, 5, 5, 7, 4, 2, 3, 1]
def nF1 : Cond := .fieldLinkNest "EveryHand$Acts" 51 "EveryHand" "UNDER" "[I" "EveryHand"
def nM1 : Cond := .methodLinkNest "EveryHand$Town" 49 ⟨"EveryHand", "holds", "(II)Z"⟩ "EveryHand"
def nM2 : Cond := .methodLinkNest "EveryHand$Walks" 35 ⟨"EveryHand", "holds", "(II)Z"⟩ "EveryHand"
/-- what doesn't change: classes, tables, texts -/
def EN (E : Ev) (U : State) : Prop :=
  Inj E ∧ va_K E.2.1 cls [(E.2.2.1, .int), (E.2.2.2.1, .long), (E.2.2.2.2, .array .int)] U ∧
  (va_Z "EveryHand" "UNDER" "[I" (.ref (E.1 300)) (AA E) U U.heap ∧ va_T .int (E.1 300) 6 (fun j => .int (tUN.getD j 0)) (AA E) U U.heap) ∧
  (va_Z "EveryHand$Acts" "OWN" "[I" (.ref (E.1 301)) (AA E) U U.heap ∧ va_T .int (E.1 301) 24 (fun j => .int (tOW.getD j 0)) (AA E) U U.heap) ∧
  va_Z "java/lang/String" "COMPACT_STRINGS" "Z" (.int 1) (AA E) U U.heap ∧
  vk_S 12 tLN tBY (fun i => E.1 (100 + i)) (fun i => E.1 (150 + i)) (AA E) U U.heap ∧
  (∀ i, i < 12 → vk_R "EveryHand$TownText" (tTX.getD i (0, "")).1 (tTX.getD i (0, "")).2 (E.1 (100 + i)) U) ∧
  va_Nw nF1 U ∧ va_Nw nM1 U ∧ va_Nw nM2 U ∧
  (va_Z "jdk/internal/util/Preconditions" "SIOOBE_FORMATTER" "Ljava/util/function/BiFunction;" .null (AA E) U U.heap ∨ va_Z "jdk/internal/util/Preconditions" "SIOOBE_FORMATTER" "Ljava/util/function/BiFunction;" (.ref (E.1 302)) (AA E) U U.heap)
theorem EN.go {E : Ev} {s U : State} {locs : List Loc} (h : EN E s) (hW : s.WarmedH U.vm) (hS : va_S (AA E) s.heap U.heap locs) : EN E U := by
  obtain ⟨h1, h2, ⟨h3, h4⟩, ⟨h5, h6⟩, h7, h8, h9, h10, h11, h12, h13⟩ := h
  have ha := hW.alike
  exact ⟨h1, va_K.moved ha h2, ⟨(va_Z.moved ha h3).kept hS.2.1, (va_T.moved ha h4).kept hS.2.1⟩, ⟨(va_Z.moved ha h5).kept hS.2.1, (va_T.moved ha h6).kept hS.2.1⟩, (va_Z.moved ha h7).kept hS.2.1, (vk_S.moved ha h8).kept hS.2.1, fun i hi => (h9 i hi).warm hW, va_Nw.warmF hW h10, va_Nw.warmM hW h11, va_Nw.warmM hW h12, h13.imp (fun h => (va_Z.moved ha h).kept hS.2.1) (fun h => (va_Z.moved ha h).kept hS.2.1)⟩
theorem EN.blind {E : Ev} {U : State} {g : JFrame} {mk : MethodId} {a : Array Value} (h : EN E U) : EN E (U.calling g mk a) := by
  obtain ⟨h1, h2, ⟨h3, h4⟩, ⟨h5, h6⟩, h7, h8, h9, h10, h11, h12, h13⟩ := h
  have ha : U.vm.Alike (U.calling g mk a).vm := Vm.Alike.refl U.vm
  exact ⟨h1, va_K.moved ha h2, ⟨va_Z.moved ha h3, va_T.moved ha h4⟩, ⟨va_Z.moved ha h5, va_T.moved ha h6⟩, va_Z.moved ha h7, vk_S.moved ha h8, fun i hi => (h9 i hi).same rfl, va_Nw.same rfl rfl h10, va_Nw.same rfl rfl h11, va_Nw.same rfl rfl h12, h13.imp (fun h => va_Z.moved ha h) (fun h => va_Z.moved ha h)⟩
/-- a method's start: the world of σ; its end: an answer, the world of the state behind it, nothing else changed -/
def Pw (E : Ev) (σ : St) (U : State) : Prop := va_P E.2.1 cls (wsO E σ) U.heap ∧ EN E U
def QZ (E : Ev) (z : Option Value × St) : Array Value → State → Outcome → State → Prop := fun _ st oc t => oc = .returned z.1 ∧ va_P E.2.1 cls (wsO E z.2) t.heap ∧ va_F (AA E) st t
/-- the contract of a method -/
def Ct (M : MI) (E : Ev) (As : List Value) (σ : St) (z : Option Value × St) : Prop :=
  ∀ l : Launch, Met l M.2.2.2.1 (Cond.code M.2.2.2.1 M.1 M.2.1 M.2.2.1 :: GW) M.2.2.2.2 (va_Pc (As.map (cv E)) (Pw E σ)) (QZ E z) 0 0 (AA E)
/-- how a walk ends, the cells and slots used ahead of it, what else is known of its start -/
abbrev VF : Type := (List Frame → Array Value → State → State → Prop) × Nat × Nat × (State → Prop)
def FM (E : Ev) (z : Option Value × St) : VF := (fun below args s => MQ below (QZ E z) args s 0 0 (AA E), 0, 0, fun _ => True)
def Cx (E : Ev) (M : MI) (F : VF) (p : Program) (s : State) (m : MethodId) (args : Array Value) (meth : Method) (c : Code) : Prop :=
  p.tables.exec = Jvm.exec ∧ c.code = M.1 ∧ c.maxLocals = M.2.1 ∧ meth.sig.returnType = M.2.2.1 ∧ meth.locks = false ∧ s.vm.findClass M.2.2.2.1.cls = some m.cls ∧ (∀ w ∈ GW, w.before args s = true) ∧ EN E s ∧ F.2.2.2 s
def V (E : Ev) (M : MI) (F : VF) (pc : Nat) (ls : List (Nat × Value)) (st : List Value) (σ : St) : Prop :=
  ∀ (p : Program) (l : Launch) (e : Env) (s : State) (m : MethodId) (args : Array Value) (below : List Frame) (meth : Method) (c : Code), Cx E M F p s m args meth c →
    ∀ (H : Heap) (locs : List Loc) (la : Array Slot), va_P E.2.1 cls (wsO E σ) H → va_S (AA E) s.heap H locs → lv_has la M.2.1 (ls.map (cvp E)) →
      W p l e M.2.2.2.2 s m args below meth c H locs F.2.1 F.2.2.1 (F.1 below args s) (F0 m pc la (st.map (cv E)))
theorem cv_cat (E : Ev) (v : Value) : (cv E v).category = v.category := by cases v <;> rfl
theorem lv_args_cv (E : Ev) : ∀ (As : List Value) (i : Nat), lv_args i (As.map (cv E)) = (lv_args i As).map (cvp E)
  | [], _ => rfl
  | v :: vs, i => by
    show (i, cv E v) :: lv_args (if (cv E v).category = 2 then i + 2 else i + 1) (vs.map (cv E)) = _
    rw [cv_cat, lv_args_cv E vs]
    rfl
theorem lg_sl_cv (E : Ev) (As : List Value) : (lg_sl (As.map (cv E))).length = (lg_sl As).length := by
  unfold lg_sl
  induction As with
  | nil => rfl
  | cons v vs ih =>
    rw [List.map_cons, List.flatMap_cons, List.flatMap_cons, List.length_append, List.length_append, ih, cv_cat]
    split <;> rfl
/-- a contract out of a walk -/
theorem Ct.of {M : MI} {E : Ev} {As : List Value} {σ : St} {z : Option Value × St} (hy : plainName M.2.2.2.1.cls = true) (hn : (lg_sl As).length ≤ M.2.1) (h : V E M (FM E z) 0 (lv_args 0 As) [] σ) : Ct M E As σ z := by
  intro l
  refine Met.ofW (cc := M.1) (maxL := M.2.1) (ret := M.2.2.1) hy rfl ?_
  intro p e s m args below meth c s₁ B hml hv
  obtain ⟨rfl, hP, hE⟩ := hv
  have hts := atoms_spec (ws := Cond.code M.2.2.2.1 M.1 M.2.1 M.2.2.1 :: GW) B.pre
  have hl := lv_entry (As.map (cv E)) (n := M.2.1) (by rw [lg_sl_cv]; exact hn)
  rw [lv_args_cv] at hl
  rw [lg_entry_eq]
  exact h p l e s m _ below meth c ⟨B.exec, B.bytes, hml, B.returns, B.notSynchronized, findClass_of_methodNamed B.named, fun w hw => hts w (List.mem_cons_of_mem _ hw), hE, trivial⟩ s.heap [] _ hP va_S.rf hl
