/-! the start of the law: both objects; then the loop; the claim; printed by wip/tools/gen_start.py -/
theorem dL_0 : decode mL.1 0 = .ok (.new 7, 3) := by decide +kernel
theorem dL_3 : decode mL.1 3 = .ok (.dup, 1) := by decide +kernel
theorem dL_4 : decode mL.1 4 = .ok (.invokespecial 9, 3) := by decide +kernel
theorem dL_7 : decode mL.1 7 = .ok (.astore_n 1, 1) := by decide +kernel
theorem dL_8 : decode mL.1 8 = .ok (.new 10, 3) := by decide +kernel
theorem dL_11 : decode mL.1 11 = .ok (.dup, 1) := by decide +kernel
theorem dL_12 : decode mL.1 12 = .ok (.invokespecial 12, 3) := by decide +kernel
theorem dL_15 : decode mL.1 15 = .ok (.astore_n 2, 1) := by decide +kernel
theorem dL_16 : decode mL.1 16 = .ok (.iconst 0, 1) := by decide +kernel
theorem dL_17 : decode mL.1 17 = .ok (.istore_n 3, 1) := by decide +kernel
/-- addresses by number -/
def mkA (l : List Nat) (adK adV : Nat → Nat) (b tU tO tF : Nat) : Nat → Nat := fun k => if k < 67 then l.getD k 0 else if k = 200 then b else if k = 300 then tU else if k = 301 then tO else if k = 302 then tF else if k < 150 then adK (k - 100) else adV (k - 150)
/-- the state with which both begin -/
def I00 : List (Nat → Int32) := [(fun _ => 0), (fun j => if j = 2 then 1 else 0), (fun _ => 0), (fun _ => 0), (fun _ => 0), (fun _ => 0), (fun _ => 0), (fun _ => 0), (fun _ => 0), (fun j => if j = 2 then 1 else 0), (fun _ => 0), (fun _ => 0), (fun _ => 0), (fun _ => 0), (fun _ => 0), (fun _ => 0), (fun _ => 0), (fun j => if j = 2 then 1 else 0), (fun _ => 0), (fun _ => 0), (fun _ => 0), (fun _ => 0), (fun _ => 0), (fun _ => 0), (fun _ => 0), (fun _ => 0), (fun _ => 0), (fun _ => 0), (fun _ => 0), (fun _ => 0), (fun _ => 0), (fun _ => 0), (fun _ => 0), (fun _ => 0), (upd (upd (upd (upd (fun _ => 0) 0 (-1 : Int32)) 1 (-1 : Int32)) 2 (-1 : Int32)) 3 (-1 : Int32)), (fun _ => 0), (fun _ => 0), (fun _ => 0), (fun _ => 0), (fun _ => 0), (fun _ => 0), (upd (upd (upd (upd (fun _ => 0) 0 (2 : Int32)) 1 (2 : Int32)) 2 (2 : Int32)) 3 (2 : Int32)), (fun _ => 0), (fun _ => 0), (fun j => if j = 6 then 1 else 0), (fun _ => 0), (fun _ => 0), (fun _ => 0), (fun _ => 0), (fun _ => 0), (fun _ => 0), (fun _ => 0), (fun _ => 0), (fun _ => 0), (fun _ => 0), (fun _ => 0), (fun _ => 0), (fun _ => 0), (upd (upd (upd (upd (fun _ => 0) 0 (-1 : Int32)) 1 (-1 : Int32)) 2 (-1 : Int32)) 3 (-1 : Int32)), (fun _ => 0), (fun _ => 0), (upd (upd (upd (upd (fun _ => 0) 0 (-1 : Int32)) 1 (-1 : Int32)) 2 (-1 : Int32)) 3 (-1 : Int32)), (fun _ => 0), (fun _ => 0), (fun _ => 0), (fun _ => 0), (fun _ => 0)]
def σ00 : St := (fun k => I00.getD k (fun _ => 0), fun _ _ => 0, fun j => if j = 0 then 1 else 9)
set_option maxRecDepth 20000 in
theorem st_at {tI tL : ClassId} {D : va_G} {adK adV : Nat → Nat} {b tU tO tF : Nat} {xE : Nat} {p5a : Nat} {q1_1a : Nat} {q2_1a : Nat} {q3_1a : Nat} {q4_1a : Nat} {q5_1a : Nat} {q6_1a : Nat} {q7_1a : Nat} {p16a : Nat} {q1_2a : Nat} {q2_2a : Nat} {q3_2a : Nat} {q4_2a : Nat} {q5_2a : Nat} {q6_2a : Nat} {q7_2a : Nat} {p27a : Nat} {q1_3a : Nat} {q2_3a : Nat} {q3_3a : Nat} {q4_3a : Nat} {q5_3a : Nat} {q6_3a : Nat} {q7_3a : Nat} {p43a : Nat} {q1_4a : Nat} {p54a : Nat} {q1_5a : Nat} {q2_5a : Nat} {q30a : Nat} {p78a : Nat} {q1_6a : Nat} {p89a : Nat} {q1_7a : Nat} {q2_7a : Nat} {qo_7a : Nat} {qr_7a : Nat → Nat} {tA_7a : ClassId} {q6_7a : Nat} {q7_7a : Nat} {q8_7a : Nat} {xM : Nat} {q1b : Nat} {q2b : Nat} {q3b : Nat} {q4b : Nat} {q5b : Nat} {q6b : Nat} {q7b : Nat} {q8b : Nat} {q9b : Nat} {q10b : Nat} {q11b : Nat} {q12b : Nat} {q13b : Nat} {q14b : Nat} {q15b : Nat} {q16b : Nat} {q17b : Nat} {q18b : Nat} {q19b : Nat} {q20b : Nat} {q21b : Nat} {q22b : Nat} {E : Ev} (hE : E = (mkA [xE, p5a, q1_1a, q2_1a, q3_1a, q4_1a, q5_1a, q6_1a, q7_1a, p16a, q1_2a, q2_2a, q3_2a, q4_2a, q5_2a, q6_2a, q7_2a, p27a, q1_3a, q2_3a, q3_3a, q4_3a, q5_3a, q6_3a, q7_3a, p43a, q1_4a, p54a, q1_5a, q2_5a, q30a, p78a, q1_6a, p89a, q1_7a, q2_7a, qo_7a, (qr_7a 0), (qr_7a 1), (qr_7a 2), (qr_7a 3), q6_7a, q7_7a, q8_7a, xM, q1b, q2b, q3b, q4b, q5b, q6b, q7b, q8b, q9b, q10b, q11b, q12b, q13b, q14b, q15b, q16b, q17b, q18b, q19b, q20b, q21b, q22b] adK adV b tU tO tF, D, tI, tL, tA_7a)) : ∀ k, k < 67 → ([(xE, .inr (5, [.ref p5a, .ref p16a, .ref p27a, .int (0 : Int32), .ref p43a, .ref p54a, .ref q30a, .int (0 : Int32), .ref p78a, .ref p89a])), (p5a, .inr (2, [.int (0 : Int32), .int (0 : Int32), .int (1 : Int32), .ref q1_1a, .ref q2_1a, .ref q3_1a, .ref q4_1a, .ref q5_1a, .ref q6_1a, .ref q7_1a])), (q1_1a, .inl (tI, 7, .inl (fun _ => 0))), (q2_1a, .inl (tI, 7, .inl (fun _ => 0))), (q3_1a, .inl (tI, 7, .inl (fun _ => 0))), (q4_1a, .inl (tI, 6, .inl (fun _ => 0))), (q5_1a, .inl (tI, 6, .inl (fun _ => 0))), (q6_1a, .inl (tI, 6, .inl (fun _ => 0))), (q7_1a, .inl (tI, 6, .inl (fun _ => 0))), (p16a, .inr (2, [.int (0 : Int32), .int (0 : Int32), .int (1 : Int32), .ref q1_2a, .ref q2_2a, .ref q3_2a, .ref q4_2a, .ref q5_2a, .ref q6_2a, .ref q7_2a])), (q1_2a, .inl (tI, 7, .inl (fun _ => 0))), (q2_2a, .inl (tI, 7, .inl (fun _ => 0))), (q3_2a, .inl (tI, 7, .inl (fun _ => 0))), (q4_2a, .inl (tI, 6, .inl (fun _ => 0))), (q5_2a, .inl (tI, 6, .inl (fun _ => 0))), (q6_2a, .inl (tI, 6, .inl (fun _ => 0))), (q7_2a, .inl (tI, 6, .inl (fun _ => 0))), (p27a, .inr (2, [.int (0 : Int32), .int (0 : Int32), .int (1 : Int32), .ref q1_3a, .ref q2_3a, .ref q3_3a, .ref q4_3a, .ref q5_3a, .ref q6_3a, .ref q7_3a])), (q1_3a, .inl (tI, 7, .inl (fun _ => 0))), (q2_3a, .inl (tI, 7, .inl (fun _ => 0))), (q3_3a, .inl (tI, 7, .inl (fun _ => 0))), (q4_3a, .inl (tI, 6, .inl (fun _ => 0))), (q5_3a, .inl (tI, 6, .inl (fun _ => 0))), (q6_3a, .inl (tI, 6, .inl (fun _ => 0))), (q7_3a, .inl (tI, 6, .inl (fun _ => 0))), (p43a, .inr (3, [.ref q1_4a, .int (0 : Int32), .int (0 : Int32), .int (0 : Int32)])), (q1_4a, .inl (tI, 200, .inl (fun _ => 0))), (p54a, .inr (4, [.ref q1_5a, .ref q2_5a, .int (0 : Int32)])), (q1_5a, .inl (tI, 7, .inl (fun _ => 0))), (q2_5a, .inl (tI, 1024, .inl (fun _ => 0))), (q30a, .inl (tI, 21, .inl (fun _ => 0))), (p78a, .inr (0, [.ref q1_6a, .int (0 : Int32), .int (0 : Int32), .int (0 : Int32), .int (0 : Int32), .int (0 : Int32)])), (q1_6a, .inl (tI, 30, .inl (fun _ => 0))), (p89a, .inr (1, [.ref q1_7a, .ref q2_7a, .ref qo_7a, .ref q6_7a, .ref q7_7a, .ref q8_7a])), (q1_7a, .inl (tI, 4, .inl (upd (upd (upd (upd (fun _ => 0) 0 (-1 : Int32)) 1 (-1 : Int32)) 2 (-1 : Int32)) 3 (-1 : Int32)))), (q2_7a, .inl (tI, 4, .inl (fun _ => 0))), (qo_7a, .inl (tA_7a, 4, .inr (.inr (.inr (.inr (fun i => if i < 4 then some (qr_7a i) else none)))))), ((qr_7a 0), .inl (tI, 40, .inl (fun _ => 0))), ((qr_7a 1), .inl (tI, 40, .inl (fun _ => 0))), ((qr_7a 2), .inl (tI, 40, .inl (fun _ => 0))), ((qr_7a 3), .inl (tI, 40, .inl (fun _ => 0))), (q6_7a, .inl (tI, 4, .inl (upd (upd (upd (upd (fun _ => 0) 0 (2 : Int32)) 1 (2 : Int32)) 2 (2 : Int32)) 3 (2 : Int32)))), (q7_7a, .inl (tI, 4, .inl (fun _ => 0))), (q8_7a, .inl (tI, 4, .inl (fun _ => 0))), (xM, .inr (6, [.int 0, .ref q1b, .ref q2b, .ref q3b, .int 0, .ref q4b, .int (1 : Int32), .ref q5b, .int 0, .int 0, .int 0, .int 0, .long 0, .int 0, .int 0, .int 0, .int 0, .ref q6b, .ref q7b, .ref q8b, .ref q9b, .ref q10b, .ref q11b, .ref q12b, .int 0, .ref q13b, .int 0, .ref q14b, .ref q15b, .ref q16b, .ref q17b, .ref q18b, .ref q19b, .int 0, .int 0, .int 0, .ref q20b, .int 0, .int 0, .int 0, .ref q21b, .int 0, .ref q22b])), (q1b, .inl (tI, 7, .inl (fun _ => 0))), (q2b, .inl (tI, 7, .inl (fun _ => 0))), (q3b, .inl (tI, 7, .inl (fun _ => 0))), (q4b, .inl (tI, 24, .inl (fun _ => 0))), (q5b, .inl (tI, 200, .inl (fun _ => 0))), (q6b, .inl (tI, 7, .inl (fun _ => 0))), (q7b, .inl (tI, 7, .inl (fun _ => 0))), (q8b, .inl (tI, 24, .inl (fun _ => 0))), (q9b, .inl (tI, 896, .inl (fun _ => 0))), (q10b, .inl (tI, 896, .inl (fun _ => 0))), (q11b, .inl (tI, 896, .inl (fun _ => 0))), (q12b, .inl (tI, 21, .inl (fun _ => 0))), (q13b, .inl (tI, 21, .inl (fun _ => 0))), (q14b, .inl (tI, 4, .inl (upd (upd (upd (upd (fun _ => 0) 0 (-1 : Int32)) 1 (-1 : Int32)) 2 (-1 : Int32)) 3 (-1 : Int32)))), (q15b, .inl (tI, 4, .inl (fun _ => 0))), (q16b, .inl (tL, 160, .inr (.inl (fun _ => 0)))), (q17b, .inl (tI, 4, .inl (upd (upd (upd (upd (fun _ => 0) 0 (-1 : Int32)) 1 (-1 : Int32)) 2 (-1 : Int32)) 3 (-1 : Int32)))), (q18b, .inl (tI, 4, .inl (fun _ => 0))), (q19b, .inl (tI, 4, .inl (fun _ => 0))), (q20b, .inl (tI, 30, .inl (fun _ => 0))), (q21b, .inl (tI, 60, .inl (fun _ => 0))), (q22b, .inl (tI, 3, .inl (fun _ => 0)))] : va_W)[([0, 1, 2, 3, 4, 5, 6, 7, 8, 9, 10, 11, 12, 13, 14, 15, 16, 17, 18, 19, 20, 21, 22, 23, 24, 25, 26, 27, 28, 29, 30, 31, 32, 33, 34, 35, 36, 37, 38, 39, 40, 41, 42, 43, 44, 45, 46, 47, 48, 49, 50, 51, 52, 53, 54, 55, 56, 57, 58, 59, 60, 61, 62, 63, 64, 65, 66] : List Nat).getD k 0]? = some (E.1 k, cel E σ00 k) := by
  intro k hk
  match k, hk with
  | 0, _ => subst hE; rfl
  | 1, _ => subst hE; rfl
  | 2, _ => subst hE; rfl
  | 3, _ => subst hE; rfl
  | 4, _ => subst hE; rfl
  | 5, _ => subst hE; rfl
  | 6, _ => subst hE; rfl
  | 7, _ => subst hE; rfl
  | 8, _ => subst hE; rfl
  | 9, _ => subst hE; rfl
  | 10, _ => subst hE; rfl
  | 11, _ => subst hE; rfl
  | 12, _ => subst hE; rfl
  | 13, _ => subst hE; rfl
  | 14, _ => subst hE; rfl
  | 15, _ => subst hE; rfl
  | 16, _ => subst hE; rfl
  | 17, _ => subst hE; rfl
  | 18, _ => subst hE; rfl
  | 19, _ => subst hE; rfl
  | 20, _ => subst hE; rfl
  | 21, _ => subst hE; rfl
  | 22, _ => subst hE; rfl
  | 23, _ => subst hE; rfl
  | 24, _ => subst hE; rfl
  | 25, _ => subst hE; rfl
  | 26, _ => subst hE; rfl
  | 27, _ => subst hE; rfl
  | 28, _ => subst hE; rfl
  | 29, _ => subst hE; rfl
  | 30, _ => subst hE; rfl
  | 31, _ => subst hE; rfl
  | 32, _ => subst hE; rfl
  | 33, _ => subst hE; rfl
  | 34, _ => subst hE; rfl
  | 35, _ => subst hE; rfl
  | 36, _ =>
    have e1 : cel E σ00 36 = .inl (E.2.2.2.2, 4, .inr (.inr (.inr (.inr (fun i => if i < 4 then some (E.1 (36 + 1 + i)) else none))))) := rfl
    have e2 : (fun i => if i < 4 then some (E.1 (36 + 1 + i)) else none) = (fun i => if i < 4 then some (qr_7a i) else none) := by
      funext i
      by_cases h : i < 4
      · rw [if_pos h, if_pos h]
        subst hE
        rcases (show i = 0 ∨ i = 1 ∨ i = 2 ∨ i = 3 by omega) with rfl | rfl | rfl | rfl <;> rfl
      · rw [if_neg h, if_neg h]
    rw [e1, e2]
    subst hE
    rfl
  | 37, _ => subst hE; rfl
  | 38, _ => subst hE; rfl
  | 39, _ => subst hE; rfl
  | 40, _ => subst hE; rfl
  | 41, _ => subst hE; rfl
  | 42, _ => subst hE; rfl
  | 43, _ => subst hE; rfl
  | 44, _ => subst hE; rfl
  | 45, _ => subst hE; rfl
  | 46, _ => subst hE; rfl
  | 47, _ => subst hE; rfl
  | 48, _ => subst hE; rfl
  | 49, _ => subst hE; rfl
  | 50, _ => subst hE; rfl
  | 51, _ => subst hE; rfl
  | 52, _ => subst hE; rfl
  | 53, _ => subst hE; rfl
  | 54, _ => subst hE; rfl
  | 55, _ => subst hE; rfl
  | 56, _ => subst hE; rfl
  | 57, _ => subst hE; rfl
  | 58, _ => subst hE; rfl
  | 59, _ => subst hE; rfl
  | 60, _ => subst hE; rfl
  | 61, _ => subst hE; rfl
  | 62, _ => subst hE; rfl
  | 63, _ => subst hE; rfl
  | 64, _ => subst hE; rfl
  | 65, _ => subst hE; rfl
  | 66, _ => subst hE; rfl
  | _ + 67, h => omega
theorem pos_inj : ∀ i, i < 67 → ∀ j, j < 67 → ([0, 1, 2, 3, 4, 5, 6, 7, 8, 9, 10, 11, 12, 13, 14, 15, 16, 17, 18, 19, 20, 21, 22, 23, 24, 25, 26, 27, 28, 29, 30, 31, 32, 33, 34, 35, 36, 37, 38, 39, 40, 41, 42, 43, 44, 45, 46, 47, 48, 49, 50, 51, 52, 53, 54, 55, 56, 57, 58, 59, 60, 61, 62, 63, 64, 65, 66] : List Nat).getD i 0 = ([0, 1, 2, 3, 4, 5, 6, 7, 8, 9, 10, 11, 12, 13, 14, 15, 16, 17, 18, 19, 20, 21, 22, 23, 24, 25, 26, 27, 28, 29, 30, 31, 32, 33, 34, 35, 36, 37, 38, 39, 40, 41, 42, 43, 44, 45, 46, 47, 48, 49, 50, 51, 52, 53, 54, 55, 56, 57, 58, 59, 60, 61, 62, 63, 64, 65, 66] : List Nat).getD j 0 → i = j := by decide +kernel
def tmS (i : Nat) : Term := .string "EveryHand$TownText" (tTX.getD i (0, "")).1
abbrev FLT : List Cond := flatC (Jvm.Cond.and given_1 narrow_1)
theorem fk_U : ∀ j, j < 6 → Cond.eq (.elem (.static "EveryHand" "UNDER" "[I") (.int (Int32.ofNat j))) (.int (tUN.getD j 0)) ∈ FLT := by decide +kernel
theorem fk_O : ∀ j, j < 24 → Cond.eq (.elem (.static "EveryHand$Acts" "OWN" "[I") (.int (Int32.ofNat j))) (.int (tOW.getD j 0)) ∈ FLT := by decide +kernel
theorem fk_1 : ∀ i, i < 12 → Cond.exactly (tmS i) "java/lang/String" ∈ FLT := by decide +kernel
theorem fk_2 : ∀ i, i < 12 → Cond.eq (.field (tmS i) "java/lang/String" "coder" "B") (.int 0) ∈ FLT := by decide +kernel
theorem fk_3 : ∀ i, i < 12 → Cond.arrayOf (.field (tmS i) "java/lang/String" "value" "[B") .byte ∈ FLT := by decide +kernel
theorem fk_4 : ∀ i, i < 12 → Cond.eq (.length (.field (tmS i) "java/lang/String" "value" "[B")) (.int (Int32.ofNat (tLN.getD i 0))) ∈ FLT := by decide +kernel
theorem fk_5 : ∀ i, i < 12 → ∀ j, j < tLN.getD i 0 → Cond.eq (.elem (.field (tmS i) "java/lang/String" "value" "[B") (.int (Int32.ofNat j))) (.int ((tBY.getD i []).getD j 0)) ∈ FLT := by decide +kernel
theorem fk_6 : ∀ i, i < 12 → ∀ j, j < 12 → i ≠ j → Cond.not (Cond.eq (tmS i) (tmS j)) ∈ FLT ∨ Cond.not (Cond.eq (tmS j) (tmS i)) ∈ FLT := by decide +kernel
theorem fk_7 : ∀ i, i < 12 → ∃ k : Nat, lw_tbl[k]? = some (Cond.stringRef "EveryHand$TownText" (tTX.getD i (0, "")).1 (tTX.getD i (0, "")).2) := by
  have key : ∀ i, i < 12 → lw_tbl[([308, 377, 378, 391, 392, 393, 394, 395, 396, 401, 406, 411] : List Nat).getD i 0]? = some (Cond.stringRef "EveryHand$TownText" (tTX.getD i (0, "")).1 (tTX.getD i (0, "")).2) := by decide +kernel
  exact fun i hi => ⟨_, key i hi⟩
/-- what doesn't change, at the law's start: tables, texts -/
def SF (s : State) (A : Nat → Prop) (tU tO tF : Nat) (adK adV : Nat → Nat) : Prop :=
  (va_Z "EveryHand" "UNDER" "[I" (.ref tU) A s s.heap ∧ va_T .int tU 6 (fun j => .int (tUN.getD j 0)) A s s.heap) ∧
  (va_Z "EveryHand$Acts" "OWN" "[I" (.ref tO) A s s.heap ∧ va_T .int tO 24 (fun j => .int (tOW.getD j 0)) A s s.heap) ∧
  va_Z "java/lang/String" "COMPACT_STRINGS" "Z" (.int 1) A s s.heap ∧
  vk_S 12 tLN tBY adK adV A s s.heap ∧
  (∀ i, i < 12 → vk_R "EveryHand$TownText" (tTX.getD i (0, "")).1 (tTX.getD i (0, "")).2 (adK i) s) ∧
  va_Nw nF1 s ∧ va_Nw nM1 s ∧ va_Nw nM2 s ∧
  (va_Z "jdk/internal/util/Preconditions" "SIOOBE_FORMATTER" "Ljava/util/function/BiFunction;" .null A s s.heap ∨ va_Z "jdk/internal/util/Preconditions" "SIOOBE_FORMATTER" "Ljava/util/function/BiFunction;" (.ref tF) A s s.heap)
theorem SF.of {args : Array Value} {s : State} (hts : ∀ w ∈ lw_tbl, w.before args s = true) (hgv : (Jvm.Cond.and given_1 narrow_1).before args s = true) : ∃ (tU tO tF : Nat) (adK adV : Nat → Nat), SF s (fun q => s.heap.size ≤ q) tU tO tF adK adV := by
  have hs : ∀ c ∈ FLT, c.before args s = true := flat_of_before _ hgv
  have hA : ∀ a : Nat, a < s.heap.size → ¬ (fun q : Nat => s.heap.size ≤ q) a := fun a h q => Nat.not_le.mpr h q
  obtain ⟨tU, e1, hU⟩ := va_Tof (tm := .static "EveryHand" "UNDER" "[I") (ty := .int) (N := 6) (f := fun j => .int (tUN.getD j 0)) (A := fun q => s.heap.size ≤ q) (by decide) (hs (Cond.arrayOf (.static "EveryHand" "UNDER" "[I") .int) (by decide +kernel)) (va_eqt (hs (Cond.eq (.length (.static "EveryHand" "UNDER" "[I")) (.int 6)) (by decide +kernel))) (fun j hj => va_eqt (hs _ (fk_U j hj))) hA
  obtain ⟨tO, e2, hO⟩ := va_Tof (tm := .static "EveryHand$Acts" "OWN" "[I") (ty := .int) (N := 24) (f := fun j => .int (tOW.getD j 0)) (A := fun q => s.heap.size ≤ q) (by decide) (hs (Cond.arrayOf (.static "EveryHand$Acts" "OWN" "[I") .int) (by decide +kernel)) (va_eqt (hs (Cond.eq (.length (.static "EveryHand$Acts" "OWN" "[I")) (.int 24)) (by decide +kernel))) (fun j hj => va_eqt (hs _ (fk_O j hj))) hA
  obtain ⟨adK, adV, hV, hV2⟩ := vk_Sof (N := 12) (tm := tmS) (len := tLN) (byt := tBY) (A := fun q => s.heap.size ≤ q) (by decide) (fun i hi => hs _ (fk_1 i hi)) (fun i hi => hs _ (fk_2 i hi)) (fun i hi => hs _ (fk_3 i hi)) (fun i hi => hs _ (fk_4 i hi)) (fun i hi j hj => hs _ (fk_5 i hi j hj)) (fun i j hi hj hij => (fk_6 i hi j hj hij).imp (fun h => hs _ h) (fun h => hs _ h)) hA
  have zU := va_Zref (A := fun q => s.heap.size ≤ q) (hts _ (List.mem_of_getElem? (i := 739) (by decide +kernel))) (hts _ (List.mem_of_getElem? (i := 70) (by decide +kernel))) e1 hA
  have zO := va_Zref (A := fun q => s.heap.size ≤ q) (hts _ (List.mem_of_getElem? (i := 756) (by decide +kernel))) (hts _ (List.mem_of_getElem? (i := 74) (by decide +kernel))) e2 hA
  have zC := va_Zof (A := fun q => s.heap.size ≤ q) (hts _ (List.mem_of_getElem? (i := 322) (by decide +kernel))) (hts _ (List.mem_of_getElem? (i := 78) (by decide +kernel))) (va_eqi (hs (Cond.eq (.static "java/lang/String" "COMPACT_STRINGS" "Z") (.int 1)) (by decide +kernel))) hA
  have zF := va_Zqof (A := fun q => s.heap.size ≤ q) (hts _ (List.mem_of_getElem? (i := 338) (by decide +kernel))) (hts _ (List.mem_of_getElem? (i := 80) (by decide +kernel))) (hs (Cond.isRef (.static "jdk/internal/util/Preconditions" "SIOOBE_FORMATTER" "Ljava/util/function/BiFunction;")) (by decide +kernel)) hA
  have hR : ∀ i, i < 12 → vk_R "EveryHand$TownText" (tTX.getD i (0, "")).1 (tTX.getD i (0, "")).2 (adK i) s := fun i hi => by
    obtain ⟨k, hk⟩ := fk_7 i hi
    exact vk_R.of (hts _ (List.mem_of_getElem? hk)) (hV2 i hi)
  have n1 : va_Nw nF1 s := va_Nw.of rfl (hts _ (List.mem_of_getElem? (i := 757) (by decide +kernel)))
  have n2 : va_Nw nM1 s := va_Nw.of rfl (hts _ (List.mem_of_getElem? (i := 441) (by decide +kernel)))
  have n3 : va_Nw nM2 s := va_Nw.of rfl (hts _ (List.mem_of_getElem? (i := 565) (by decide +kernel)))
  rcases zF with zF | ⟨tF, zF⟩
  · exact ⟨tU, tO, 0, adK, adV, ⟨zU, hU⟩, ⟨zO, hO⟩, zC, hV, hR, n1, n2, n3, Or.inl zF⟩
  · exact ⟨tU, tO, tF, adK, adV, ⟨zU, hU⟩, ⟨zO, hO⟩, zC, hV, hR, n1, n2, n3, Or.inr zF⟩
