/-! rows over the cells: fields, arrays, tables, texts, calls, ends -/
section HP
variable {E : Ev} {M : MI} {F : VF} {pc n : Nat} {ls : List (Nat × Value)} {st : List Value} {σ : St}
/-- field j of class ci, by entry ix of the pool of own -/
def FL (own : String) (ix ci j c : Nat) : Prop := ∃ q : vw_C, cls[ci]? = some q ∧ j < q.2.2 ∧ q.2.2 = (fc ci).length ∧ (fc ci)[j]? = some c ∧ (q.2.1 j).1 = q.1 ∧ ci < 7 ∧ Cond.fieldLink own ix q.1 (q.2.1 j).2.1 (q.2.1 j).2.2.1 ∈ GW
theorem cel_obj {E : Ev} {σ : St} {k ci x : Nat} (h : kd k = (ci, x)) (hc : ci < 7) : cel E σ k = .inr (ci, flds E σ k ci) := by
  unfold cel
  rw [h]
  match ci, hc with
  | 0, _ => rfl
  | 1, _ => rfl
  | 2, _ => rfl
  | 3, _ => rfl
  | 4, _ => rfl
  | 5, _ => rfl
  | 6, _ => rfl
theorem cel_int {E : Ev} {σ : St} {k x : Nat} (h : kd k = (7, x)) : cel E σ k = .inl (E.2.2.1, x, .inl (σ.1 k)) := by
  unfold cel
  rw [h]
  rfl
theorem cel_lng {E : Ev} {σ : St} {k x : Nat} (h : kd k = (8, x)) : cel E σ k = .inl (E.2.2.2.1, x, .inr (.inl (σ.2.1 k))) := by
  unfold cel
  rw [h]
  rfl
theorem cel_row {E : Ev} {σ : St} {k x : Nat} (h : kd k = (9, x)) : cel E σ k = .inl (E.2.2.2.2, x, .inr (.inr (.inr (.inr (fun i => if i < x then some (E.1 (k + 1 + i)) else none))))) := by
  unfold cel
  rw [h]
  rfl
theorem flds_at {E : Ev} {σ : St} {k ci j c : Nat} (h : (fc ci)[j]? = some c) : (flds E σ k ci)[j]? = some (fval E σ k j c) := by
  have hj : j < (fc ci).length := (List.getElem?_eq_some_iff.mp h).1
  unfold flds
  rw [List.getElem?_map, List.getElem?_range hj, Option.map_some, List.getD_eq_getElem?_getD, h]
  rfl
theorem flds_len {E : Ev} {σ : St} {k ci : Nat} : (flds E σ k ci).length = (fc ci).length := by simp [flds]
theorem flds_set {E : Ev} {σ σ' : St} {k ci j c : Nat} {v : Value} (h : (fc ci)[j]? = some c) (hv : fval E σ' k j c = v) (ho : ∀ i d, i ≠ j → (fc ci)[i]? = some d → fval E σ' k i d = fval E σ k i d) : (flds E σ k ci).set j v = flds E σ' k ci := by
  have hj : j < (fc ci).length := (List.getElem?_eq_some_iff.mp h).1
  apply List.ext_getElem?
  intro i
  rw [List.getElem?_set]
  by_cases e : j = i
  · subst e
    rw [if_pos rfl, if_pos (by rw [flds_len]; exact hj), flds_at h, hv]
  · rw [if_neg e]
    cases hi : (fc ci)[i]? with
    | none =>
      have hl : (fc ci).length ≤ i := List.getElem?_eq_none_iff.mp hi
      rw [List.getElem?_eq_none (by rw [flds_len]; exact hl), List.getElem?_eq_none (by rw [flds_len]; exact hl)]
    | some d => rw [flds_at hi, flds_at hi, ho i d (fun z => e z.symm) hi]
theorem fval_sI {E : Ev} {σ : St} {k j a b c : Nat} {v : Int32} (h : ¬ (a = k ∧ b = j)) : fval E (sI σ k j v) a b c = fval E σ a b c := by
  match c with
  | 0 => show Value.int (if a = k ∧ b = j then v else σ.1 a b) = _; rw [if_neg h]; rfl
  | 1 => rfl
  | 2 => rfl
  | _ + 3 => rfl
theorem fval_sL {E : Ev} {σ : St} {k j a b c : Nat} {v : Int64} (h : ¬ (a = k ∧ b = j)) : fval E (sL σ k j v) a b c = fval E σ a b c := by
  match c with
  | 0 => rfl
  | 1 => show Value.long (if a = k ∧ b = j then v else σ.2.1 a b) = _; rw [if_neg h]; rfl
  | 2 => rfl
  | _ + 3 => rfl
theorem flds_sI {E : Ev} {σ : St} {k j a ci : Nat} {v : Int32} (h : a ≠ k) : flds E (sI σ k j v) a ci = flds E σ a ci := by
  unfold flds
  exact List.map_congr_left fun i _ => fval_sI (fun z => h z.1)
theorem flds_sL {E : Ev} {σ : St} {k j a ci : Nat} {v : Int64} (h : a ≠ k) : flds E (sL σ k j v) a ci = flds E σ a ci := by
  unfold flds
  exact List.map_congr_left fun i _ => fval_sL (fun z => h z.1)
theorem row_sI {σ : St} {k j a : Nat} {v : Int32} (h : a ≠ k) : (sI σ k j v).1 a = σ.1 a := by
  funext b
  show (if a = k ∧ b = j then v else σ.1 a b) = _
  rw [if_neg (fun z => h z.1)]
theorem row_sL {σ : St} {k j a : Nat} {v : Int64} (h : a ≠ k) : (sL σ k j v).2.1 a = σ.2.1 a := by
  funext b
  show (if a = k ∧ b = j then v else σ.2.1 a b) = _
  rw [if_neg (fun z => h z.1)]
theorem cel_sI {E : Ev} {σ : St} {k j a : Nat} {v : Int32} (h : a ≠ k) : cel E (sI σ k j v) a = cel E σ a := by
  unfold cel
  rw [row_sI h]
  split
  · rfl
  · rfl
  · rfl
  · rw [flds_sI h]
theorem cel_sL {E : Ev} {σ : St} {k j a : Nat} {v : Int64} (h : a ≠ k) : cel E (sL σ k j v) a = cel E σ a := by
  unfold cel
  rw [row_sL h]
  split
  · rfl
  · rfl
  · rfl
  · rw [flds_sL h]
theorem V.geti (k : Nat) {ix ci j x : Nat} (hd : decode M.1 pc = .ok (.getfield ix, 3)) (hf : FL M.2.2.2.1.cls ix ci j 0) (hk : kd k = (ci, x)) (hn : pc + 3 = n) (kk : V E M F n ls (.int (gI σ k j) :: st) σ) : V E M F pc ls (.ref k :: st) σ := by
  subst hn; intro p l e s m args below meth c C H locs la hP hS hl
  obtain ⟨⟨cn, T, N⟩, h1, h2, h3, h4, h5, h6, h7⟩ := hf
  have hlt : k < 67 := kd_lt hk (by show ci < 99; omega)
  exact va_get C.1 C.2.1 C.2.2.2.2.2.2.1 (cAll ci _ h1).1 C.2.2.2.2.2.1 C.2.2.2.2.2.2.2.1.2.1 hP k (fs := flds E σ k ci) (by rw [wsO_at hlt, cel_obj hk h6]) h1 j h2 (C.2.2.2.2.2.2.1 _ h7) (fun x h => by rw [← h, h5]) (v := .int (gI σ k j)) (flds_at h4) hd (kk p l e s m args below meth c C H locs la hP hS hl)
theorem V.getl (k : Nat) {ix ci j x : Nat} (hd : decode M.1 pc = .ok (.getfield ix, 3)) (hf : FL M.2.2.2.1.cls ix ci j 1) (hk : kd k = (ci, x)) (hn : pc + 3 = n) (kk : V E M F n ls (.long (gL σ k j) :: st) σ) : V E M F pc ls (.ref k :: st) σ := by
  subst hn; intro p l e s m args below meth c C H locs la hP hS hl
  obtain ⟨⟨cn, T, N⟩, h1, h2, h3, h4, h5, h6, h7⟩ := hf
  have hlt : k < 67 := kd_lt hk (by show ci < 99; omega)
  exact va_get C.1 C.2.1 C.2.2.2.2.2.2.1 (cAll ci _ h1).1 C.2.2.2.2.2.1 C.2.2.2.2.2.2.2.1.2.1 hP k (fs := flds E σ k ci) (by rw [wsO_at hlt, cel_obj hk h6]) h1 j h2 (C.2.2.2.2.2.2.1 _ h7) (fun x h => by rw [← h, h5]) (v := .long (gL σ k j)) (flds_at h4) hd (kk p l e s m args below meth c C H locs la hP hS hl)
theorem V.getd (k : Nat) {ix ci j x : Nat} (hd : decode M.1 pc = .ok (.getfield ix, 3)) (hf : FL M.2.2.2.1.cls ix ci j 2) (hk : kd k = (ci, x)) (hn : pc + 3 = n) (kk : V E M F n ls (.ref (gR σ j) :: st) σ) : V E M F pc ls (.ref k :: st) σ := by
  subst hn; intro p l e s m args below meth c C H locs la hP hS hl
  obtain ⟨⟨cn, T, N⟩, h1, h2, h3, h4, h5, h6, h7⟩ := hf
  have hlt : k < 67 := kd_lt hk (by show ci < 99; omega)
  exact va_get C.1 C.2.1 C.2.2.2.2.2.2.1 (cAll ci _ h1).1 C.2.2.2.2.2.1 C.2.2.2.2.2.2.2.1.2.1 hP k (fs := flds E σ k ci) (by rw [wsO_at hlt, cel_obj hk h6]) h1 j h2 (C.2.2.2.2.2.2.1 _ h7) (fun x h => by rw [← h, h5]) (v := .ref (E.1 (gR σ j))) (flds_at h4) hd (kk p l e s m args below meth c C H locs la hP hS hl)
theorem V.getr (k k' : Nat) {ix ci j x o : Nat} (hd : decode M.1 pc = .ok (.getfield ix, 3)) (hf : FL M.2.2.2.1.cls ix ci j (o + 3)) (hk : kd k = (ci, x)) (hk' : k + o = k') (hn : pc + 3 = n) (kk : V E M F n ls (.ref k' :: st) σ) : V E M F pc ls (.ref k :: st) σ := by
  subst hn; subst hk'; intro p l e s m args below meth c C H locs la hP hS hl
  obtain ⟨⟨cn, T, N⟩, h1, h2, h3, h4, h5, h6, h7⟩ := hf
  have hlt : k < 67 := kd_lt hk (by show ci < 99; omega)
  exact va_get C.1 C.2.1 C.2.2.2.2.2.2.1 (cAll ci _ h1).1 C.2.2.2.2.2.1 C.2.2.2.2.2.2.2.1.2.1 hP k (fs := flds E σ k ci) (by rw [wsO_at hlt, cel_obj hk h6]) h1 j h2 (C.2.2.2.2.2.2.1 _ h7) (fun x h => by rw [← h, h5]) (v := .ref (E.1 (k + o))) (flds_at h4) hd (kk p l e s m args below meth c C H locs la hP hS hl)
/-- a field that may be written: its type -/
def FW (ci j : Nat) (ty : FieldType) : Prop := ∀ q : vw_C, cls[ci]? = some q → (q.2.1 j).2.2.2 = false ∧ parseFieldDescriptor (q.2.1 j).2.2.1 = some ty
theorem V.puti (k : Nat) {ix ci j x : Nat} {v : Int32} (ty : FieldType) (hd : decode M.1 pc = .ok (.putfield ix, 3)) (hf : FL M.2.2.2.1.cls ix ci j 0) (hw : FW ci j ty) (hk : kd k = (ci, x)) (hv : narrow ty (.int v) = .int v ∧ fits ty (.int v) = true) (hn : pc + 3 = n) (kk : V E M F n ls st (sI σ k j v)) : V E M F pc ls (.int v :: .ref k :: st) σ := by
  subst hn; intro p l e s m args below meth c C H locs la hP hS hl
  obtain ⟨⟨cn, T, N⟩, h1, h2, h3, h4, h5, h6, h7⟩ := hf
  have hlt : k < 67 := kd_lt hk (by show ci < 99; omega)
  obtain ⟨g1, ty0, g2, g3⟩ := cAll ci _ h1
  obtain ⟨w1, w2⟩ := hw _ h1
  refine va_put C.1 C.2.1 C.2.2.2.2.2.2.1 g1 ty0 g2 g3 C.2.2.2.2.2.1 C.2.2.2.2.2.2.2.1.2.1 hP (wsO_D C.2.2.2.2.2.2.2.1.1) hS k (fs := flds E σ k ci) (by rw [wsO_at hlt, cel_obj hk h6]) h1 j h2 (C.2.2.2.2.2.2.1 _ h7) (fun x h => by rw [← h, h5]) w1 (ty := ty) (v := .int v) w2 hv.1 hv.2 (by rw [flds_len]; exact (List.getElem?_eq_some_iff.mp h4).1) hd (fun H1 locs1 hP1 hD1 hS1 => ?_)
  rw [wsO_set (σ' := sI σ k j v) hlt (by rw [cel_obj hk h6]; exact congrArg (fun y => Sum.inr (ci, y)) (flds_set h4 (by show Value.int (if k = k ∧ j = j then v else σ.1 k j) = _; rw [if_pos ⟨rfl, rfl⟩]) (fun i d hi _ => fval_sI (fun z => hi z.2))).symm) (fun a ha => cel_sI ha)] at hP1
  exact kk p l e s m args below meth c C H1 locs1 la hP1 hS1 hl
theorem V.putl (k : Nat) {ix ci j x : Nat} {v : Int64} (hd : decode M.1 pc = .ok (.putfield ix, 3)) (hf : FL M.2.2.2.1.cls ix ci j 1) (hw : FW ci j .long) (hk : kd k = (ci, x)) (hn : pc + 3 = n) (kk : V E M F n ls st (sL σ k j v)) : V E M F pc ls (.long v :: .ref k :: st) σ := by
  subst hn; intro p l e s m args below meth c C H locs la hP hS hl
  obtain ⟨⟨cn, T, N⟩, h1, h2, h3, h4, h5, h6, h7⟩ := hf
  have hlt : k < 67 := kd_lt hk (by show ci < 99; omega)
  obtain ⟨g1, ty0, g2, g3⟩ := cAll ci _ h1
  obtain ⟨w1, w2⟩ := hw _ h1
  refine va_put C.1 C.2.1 C.2.2.2.2.2.2.1 g1 ty0 g2 g3 C.2.2.2.2.2.1 C.2.2.2.2.2.2.2.1.2.1 hP (wsO_D C.2.2.2.2.2.2.2.1.1) hS k (fs := flds E σ k ci) (by rw [wsO_at hlt, cel_obj hk h6]) h1 j h2 (C.2.2.2.2.2.2.1 _ h7) (fun x h => by rw [← h, h5]) w1 (ty := .long) (v := .long v) w2 rfl rfl (by rw [flds_len]; exact (List.getElem?_eq_some_iff.mp h4).1) hd (fun H1 locs1 hP1 hD1 hS1 => ?_)
  rw [wsO_set (σ' := sL σ k j v) hlt (by rw [cel_obj hk h6]; exact congrArg (fun y => Sum.inr (ci, y)) (flds_set h4 (by show Value.long (if k = k ∧ j = j then v else σ.2.1 k j) = _; rw [if_pos ⟨rfl, rfl⟩]) (fun i d hi _ => fval_sL (fun z => hi z.2))).symm) (fun a ha => cel_sL ha)] at hP1
  exact kk p l e s m args below meth c C H1 locs1 la hP1 hS1 hl
theorem fval_sR {E : Ev} {σ : St} {j a b c v : Nat} (h : c = 2 → b ≠ j) : fval E (sR σ j v) a b c = fval E σ a b c := by
  match c, h with
  | 0, _ => rfl
  | 1, _ => rfl
  | 2, h => show Value.ref (E.1 (if b = j then v else σ.2.2 b)) = _; rw [if_neg (h rfl)]; rfl
  | _ + 3, _ => rfl
/-- no class but EveryHand's (cell 0) has a reference that changes -/
theorem fc_no2 : ∀ ci, ci ≠ 5 → ∀ j, (fc ci).getD j 0 ≠ 2 := by
  intro ci h j
  rcases Nat.lt_or_ge ci 7 with g | g
  · have key : ∀ ci, ci < 7 → ci ≠ 5 → ∀ c ∈ fc ci, c ≠ 2 := by decide +kernel
    rw [List.getD_eq_getElem?_getD]
    cases hj : (fc ci)[j]? with
    | none => exact (by decide : (0 : Nat) ≠ 2)
    | some c => exact key ci g h c (List.mem_of_getElem? hj)
  · have e : fc ci = [] := by
      unfold fc
      rw [List.getD_eq_getElem?_getD, List.getElem?_eq_none (show fcL.length ≤ ci from g)]
      rfl
    rw [e]
    exact (by decide : (0 : Nat) ≠ 2)
theorem kd_5 : ∀ k x, kd k = (5, x) → k = 0 := by
  intro k x h
  have hlt := kd_lt h (show (5 : Nat) < 99 by decide)
  have key : ∀ k, k < 67 → (kd k).1 = 5 → k = 0 := by decide +kernel
  exact key k hlt (by rw [h])
theorem cel_sR {E : Ev} {σ : St} {j a v : Nat} (h : a ≠ 0) : cel E (sR σ j v) a = cel E σ a := by
  unfold cel
  have e1 : (sR σ j v).1 = σ.1 := rfl
  have e2 : (sR σ j v).2.1 = σ.2.1 := rfl
  rw [e1, e2]
  split
  · rfl
  · rfl
  · rfl
  · rename_i ci y _ _ _ he
    have h5 : ci ≠ 5 := fun z => h (kd_5 a y (by rw [he, z]))
    refine congrArg (fun y => Sum.inr (ci, y)) ?_
    unfold flds
    exact List.map_congr_left fun i _ => fval_sR (fun z => absurd z (fc_no2 ci h5 i))
theorem V.putd {ix j x v : Nat} (C1 : String) (hd : decode M.1 pc = .ok (.putfield ix, 3)) (hf : FL M.2.2.2.1.cls ix 5 j 2) (hw : FW 5 j (.object C1)) (hk : kd 0 = (5, x)) (hn : pc + 3 = n) (kk : V E M F n ls st (sR σ j v)) : V E M F pc ls (.ref v :: .ref 0 :: st) σ := by
  subst hn; intro p l e s m args below meth c C H locs la hP hS hl
  obtain ⟨⟨cn, T, N⟩, h1, h2, h3, h4, h5, h6, h7⟩ := hf
  have hlt : 0 < 67 := by decide
  obtain ⟨g1, ty0, g2, g3⟩ := cAll 5 _ h1
  obtain ⟨w1, w2⟩ := hw _ h1
  refine va_put C.1 C.2.1 C.2.2.2.2.2.2.1 g1 ty0 g2 g3 C.2.2.2.2.2.1 C.2.2.2.2.2.2.2.1.2.1 hP (wsO_D C.2.2.2.2.2.2.2.1.1) hS 0 (fs := flds E σ 0 5) (by rw [wsO_at hlt, cel_obj hk h6]) h1 j h2 (C.2.2.2.2.2.2.1 _ h7) (fun x h => by rw [← h, h5]) w1 (ty := .object C1) (v := .ref (E.1 v)) w2 rfl rfl (by rw [flds_len]; exact (List.getElem?_eq_some_iff.mp h4).1) hd (fun H1 locs1 hP1 hD1 hS1 => ?_)
  rw [wsO_set (σ' := sR σ j v) hlt (by rw [cel_obj hk h6]; exact congrArg (fun y => Sum.inr (5, y)) (flds_set h4 (by show Value.ref (E.1 (if j = j then v else σ.2.2 j)) = _; rw [if_pos rfl]) (fun i d hi _ => fval_sR (fun _ => hi))).symm) (fun a ha => cel_sR ha)] at hP1
  exact kk p l e s m args below meth c C H1 locs1 la hP1 hS1 hl
/-- an index within -/
def ib (i : Int32) (n : Nat) : Bool := decide (¬ (i < 0 ∨ n ≤ i.toNatClampNeg))
theorem ib_in {i : Int32} {n : Nat} : ib i n = true ↔ vp_in i n := by
  unfold ib vp_in
  exact decide_eq_true_iff
/-- where an index points -/
def ix (i : Int32) : Nat := i.toNatClampNeg
theorem V.iald (k : Nat) {x : Nat} {i : Int32} (hd : decode M.1 pc = .ok (.iaload, 1)) (hk : kd k = (7, x)) (hi : ib i x = true) (hn : pc + 1 = n) (kk : V E M F n ls (.int (gI σ k (ix i)) :: st) σ) : V E M F pc ls (.int i :: .ref k :: st) σ := by
  subst hn; intro p l e s m args below meth c C H locs la hP hS hl
  have hlt : k < 67 := kd_lt hk (Nat.lt_of_lt_of_le (show _ < 10 from by dsimp only; decide) (by decide))
  exact va_iald C.1 C.2.1 C.2.2.2.2.2.2.2.1.2.1 hP k 0 (f := σ.1 k) (by rw [wsO_at hlt, cel_int hk]) rfl (ib_in.mp hi) hd (kk p l e s m args below meth c C H locs la hP hS hl)
theorem V.lald (k : Nat) {x : Nat} {i : Int32} (hd : decode M.1 pc = .ok (.laload, 1)) (hk : kd k = (8, x)) (hi : ib i x = true) (hn : pc + 1 = n) (kk : V E M F n ls (.long (gL σ k (ix i)) :: st) σ) : V E M F pc ls (.int i :: .ref k :: st) σ := by
  subst hn; intro p l e s m args below meth c C H locs la hP hS hl
  have hlt : k < 67 := kd_lt hk (Nat.lt_of_lt_of_le (show _ < 10 from by dsimp only; decide) (by decide))
  exact va_lald C.1 C.2.1 C.2.2.2.2.2.2.2.1.2.1 hP k 1 (f := σ.2.1 k) (by rw [wsO_at hlt, cel_lng hk]) rfl (ib_in.mp hi) hd (kk p l e s m args below meth c C H locs la hP hS hl)
theorem V.iast (k : Nat) {x : Nat} {i v : Int32} (hd : decode M.1 pc = .ok (.iastore, 1)) (hk : kd k = (7, x)) (hi : ib i x = true) (hn : pc + 1 = n) (kk : V E M F n ls st (sI σ k (ix i) v)) : V E M F pc ls (.int v :: .int i :: .ref k :: st) σ := by
  subst hn; intro p l e s m args below meth c C H locs la hP hS hl
  have hlt : k < 67 := kd_lt hk (Nat.lt_of_lt_of_le (show _ < 10 from by dsimp only; decide) (by decide))
  refine va_iast C.1 C.2.1 C.2.2.2.2.2.2.2.1.2.1 hP (wsO_D C.2.2.2.2.2.2.2.1.1) hS k 0 (by rw [wsO_at hlt, cel_int hk]) rfl (ib_in.mp hi) hd (fun H1 locs1 hP1 hD1 hS1 => ?_)
  rw [wsO_set (σ' := sI σ k (ix i) v) hlt (by
    rw [cel_int hk]
    refine congrArg (fun y => Sum.inl (E.2.2.1, x, Sum.inl y)) ?_
    funext b
    show (if k = k ∧ b = ix i then v else σ.1 k b) = if b = ix i then v else σ.1 k b
    by_cases h : b = ix i
    · rw [if_pos ⟨rfl, h⟩, if_pos h]
    · rw [if_neg (fun z => h z.2), if_neg h]) (fun a ha => cel_sI ha)] at hP1
  exact kk p l e s m args below meth c C H1 locs1 la hP1 hS1 hl
theorem V.last (k : Nat) {x : Nat} {i : Int32} {v : Int64} (hd : decode M.1 pc = .ok (.lastore, 1)) (hk : kd k = (8, x)) (hi : ib i x = true) (hn : pc + 1 = n) (kk : V E M F n ls st (sL σ k (ix i) v)) : V E M F pc ls (.long v :: .int i :: .ref k :: st) σ := by
  subst hn; intro p l e s m args below meth c C H locs la hP hS hl
  have hlt : k < 67 := kd_lt hk (Nat.lt_of_lt_of_le (show _ < 10 from by dsimp only; decide) (by decide))
  refine va_last C.1 C.2.1 C.2.2.2.2.2.2.2.1.2.1 hP (wsO_D C.2.2.2.2.2.2.2.1.1) hS k 1 (by rw [wsO_at hlt, cel_lng hk]) rfl (ib_in.mp hi) hd (fun H1 locs1 hP1 hD1 hS1 => ?_)
  rw [wsO_set (σ' := sL σ k (ix i) v) hlt (by
    rw [cel_lng hk]
    refine congrArg (fun y => Sum.inl (E.2.2.2.1, x, Sum.inr (Sum.inl y))) ?_
    funext b
    show (if k = k ∧ b = ix i then v else σ.2.1 k b) = if b = ix i then v else σ.2.1 k b
    by_cases h : b = ix i
    · rw [if_pos ⟨rfl, h⟩, if_pos h]
    · rw [if_neg (fun z => h z.2), if_neg h]) (fun a ha => cel_sL ha)] at hP1
  exact kk p l e s m args below meth c C H1 locs1 la hP1 hS1 hl
theorem V.aald (k : Nat) {x : Nat} {i : Int32} (hd : decode M.1 pc = .ok (.aaload, 1)) (hk : kd k = (9, x)) (hi : ib i x = true) (hn : pc + 1 = n) (kk : V E M F n ls (.ref (k + 1 + ix i) :: st) σ) : V E M F pc ls (.int i :: .ref k :: st) σ := by
  subst hn; intro p l e s m args below meth c C H locs la hP hS hl
  have hlt : k < 67 := kd_lt hk (Nat.lt_of_lt_of_le (show _ < 10 from by dsimp only; decide) (by decide))
  have hin := ib_in.mp hi
  have hx : i.toNatClampNeg < x := Nat.not_le.mp fun q => hin (Or.inr q)
  have hc := hP k _ (wsO_at hlt)
  rw [cel_row hk] at hc
  have key := kk p l e s m args below meth c C H locs la hP hS hl
  exact W.aald (v := .ref (E.1 (k + 1 + i.toNatClampNeg))) (ty := .array .int) C.1 C.2.1 hc ((C.2.2.2.2.2.2.2.1.2.1.2 2 _ rfl).1 x _) rfl (fun q => by cases q) (by show ¬ (i < 0 ∨ (arrV _ _ _).slots.size ≤ _); rw [arrV_size]; exact hin) (by show (arrV _ _ _).slots[_]? = _; rw [arrV_read _ _ hx]; simp [va_rf, hx]) rfl rfl hd key
/-- the tables UNDER and OWN -/
def tab (k : Nat) (j : Nat) : Int32 := if k = 300 then tUN.getD j 0 else tOW.getD j 0
def tabN (k : Nat) : Nat := if k = 300 then 6 else 24
theorem V.getsU {ix : Nat} (hd : decode M.1 pc = .ok (.getstatic ix, 3)) (hw : Cond.fieldLink M.2.2.2.1.cls ix "EveryHand" "UNDER" "[I" ∈ GW) (hn : pc + 3 = n) (kk : V E M F n ls (.ref 300 :: st) σ) : V E M F pc ls st σ := by
  subst hn; intro p l e s m args below meth c C H locs la hP hS hl
  exact va_gets C.1 C.2.1 C.2.2.2.2.2.2.2.1.2.2.1.1 hS C.2.2.2.2.2.1 (C.2.2.2.2.2.2.1 _ hw) (fun x h => h) hd (kk p l e s m args below meth c C H locs la hP hS hl)
theorem V.getsUN (ho : M.2.2.2.1.cls = "EveryHand$Acts") (hd : decode M.1 pc = .ok (.getstatic 51, 3)) (hn : pc + 3 = n) (kk : V E M F n ls (.ref 300 :: st) σ) : V E M F pc ls st σ := by
  subst hn; intro p l e s m args below meth c C H locs la hP hS hl
  exact va_getsN C.1 C.2.1 C.2.2.2.2.2.2.2.1.2.2.1.1 hS (own := "EveryHand$Acts") (by rw [← ho]; exact C.2.2.2.2.2.1) (ref := "EveryHand") (host := "EveryHand") C.2.2.2.2.2.2.2.1.2.2.2.2.2.2.2.1 (fun x h => h) hd (kk p l e s m args below meth c C H locs la hP hS hl)
theorem V.getsO {ix : Nat} (hd : decode M.1 pc = .ok (.getstatic ix, 3)) (hw : Cond.fieldLink M.2.2.2.1.cls ix "EveryHand$Acts" "OWN" "[I" ∈ GW) (hn : pc + 3 = n) (kk : V E M F n ls (.ref 301 :: st) σ) : V E M F pc ls st σ := by
  subst hn; intro p l e s m args below meth c C H locs la hP hS hl
  exact va_gets C.1 C.2.1 C.2.2.2.2.2.2.2.1.2.2.2.1.1 hS C.2.2.2.2.2.1 (C.2.2.2.2.2.2.1 _ hw) (fun x h => h) hd (kk p l e s m args below meth c C H locs la hP hS hl)
theorem V.getsC {ix : Nat} (hd : decode M.1 pc = .ok (.getstatic ix, 3)) (hw : Cond.fieldLink M.2.2.2.1.cls ix "java/lang/String" "COMPACT_STRINGS" "Z" ∈ GW) (hn : pc + 3 = n) (kk : V E M F n ls (.int 1 :: st) σ) : V E M F pc ls st σ := by
  subst hn; intro p l e s m args below meth c C H locs la hP hS hl
  exact va_gets C.1 C.2.1 C.2.2.2.2.2.2.2.1.2.2.2.2.1 hS C.2.2.2.2.2.1 (C.2.2.2.2.2.2.1 _ hw) (fun x h => h) hd (kk p l e s m args below meth c C H locs la hP hS hl)
theorem V.taldU {i : Int32} (hd : decode M.1 pc = .ok (.iaload, 1)) (hi : ib i 6 = true) (hn : pc + 1 = n) (kk : V E M F n ls (.int (tUN.getD (ix i) 0) :: st) σ) : V E M F pc ls (.int i :: .ref 300 :: st) σ := by
  subst hn; intro p l e s m args below meth c C H locs la hP hS hl
  exact va_ti C.1 C.2.1 C.2.2.2.2.2.2.2.1.2.2.1.2 hS (ib_in.mp hi) rfl hd (kk p l e s m args below meth c C H locs la hP hS hl)
theorem V.taldO {i : Int32} (hd : decode M.1 pc = .ok (.iaload, 1)) (hi : ib i 24 = true) (hn : pc + 1 = n) (kk : V E M F n ls (.int (tOW.getD (ix i) 0) :: st) σ) : V E M F pc ls (.int i :: .ref 301 :: st) σ := by
  subst hn; intro p l e s m args below meth c C H locs la hP hS hl
  exact va_ti C.1 C.2.1 C.2.2.2.2.2.2.2.1.2.2.2.1.2 hS (ib_in.mp hi) rfl hd (kk p l e s m args below meth c C H locs la hP hS hl)
end HP
