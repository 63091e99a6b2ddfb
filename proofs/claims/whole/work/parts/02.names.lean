/-! names: classes, their fields, the numbering of the cells, the methods; printed by wip/tools/gen_names.py -/
abbrev MI : Type := ByteArray × Nat × Option FieldType × MethodName × Room
def rm (d : Nat) : Room := { frames := d, cells := 0, slots := 0, locals := 40 * d }
def GW : List Cond := lw_tbl.filter goodWord
theorem gw {w : Cond} (i : Nat) (h : lw_tbl[i]? = some w) (g : goodWord w = true) : w ∈ GW := List.mem_filter.mpr ⟨List.mem_of_getElem? h, g⟩
def cT0 : u_T := fun k => match k with
  | 0 => ("EveryHand$Acts", "trace", "[I", true)
  | 1 => ("EveryHand$Acts", "traced", "I", false)
  | 2 => ("EveryHand$Acts", "kind", "I", false)
  | 3 => ("EveryHand$Acts", "n", "I", false)
  | 4 => ("EveryHand$Acts", "a", "I", false)
  | _ => ("EveryHand$Acts", "parted", "Z", false)
def cY0 : Nat → FieldType := fun k => match k with
  | 0 => .array .int
  | 1 => .int
  | 2 => .int
  | 3 => .int
  | 4 => .int
  | _ => .boolean
def cT1 : u_T := fun k => match k with
  | 0 => ("EveryHand$Host", "sort", "[I", true)
  | 1 => ("EveryHand$Host", "size", "[I", true)
  | 2 => ("EveryHand$Host", "items", "[[I", true)
  | 3 => ("EveryHand$Host", "holds", "[I", true)
  | 4 => ("EveryHand$Host", "number", "[I", true)
  | _ => ("EveryHand$Host", "rowSort", "[I", true)
def cY1 : Nat → FieldType := fun k => match k with
  | 0 => .array .int
  | 1 => .array .int
  | 2 => .array (.array .int)
  | 3 => .array .int
  | 4 => .array .int
  | _ => .array .int
def cT2 : u_T := fun k => match k with
  | 0 => ("EveryHand$Town", "people", "I", false)
  | 1 => ("EveryHand$Town", "coins", "I", false)
  | 2 => ("EveryHand$Town", "z", "I", false)
  | 3 => ("EveryHand$Town", "rank", "[I", true)
  | 4 => ("EveryHand$Town", "silver", "[I", true)
  | 5 => ("EveryHand$Town", "known", "[I", true)
  | 6 => ("EveryHand$Town", "kind", "[I", true)
  | 7 => ("EveryHand$Town", "a", "[I", true)
  | 8 => ("EveryHand$Town", "holder", "[I", true)
  | _ => ("EveryHand$Town", "had", "[I", true)
def cY2 : Nat → FieldType := fun k => match k with
  | 0 => .int
  | 1 => .int
  | 2 => .int
  | 3 => .array .int
  | 4 => .array .int
  | 5 => .array .int
  | 6 => .array .int
  | 7 => .array .int
  | 8 => .array .int
  | _ => .array .int
def cT3 : u_T := fun k => match k with
  | 0 => ("EveryHand$TownText", "bytes", "[I", true)
  | 1 => ("EveryHand$TownText", "size", "I", false)
  | 2 => ("EveryHand$TownText", "from", "I", false)
  | _ => ("EveryHand$TownText", "end", "I", false)
def cY3 : Nat → FieldType := fun k => match k with
  | 0 => .array .int
  | 1 => .int
  | 2 => .int
  | _ => .int
def cT4 : u_T := fun k => match k with
  | 0 => ("EveryHand$Walks", "reach", "[I", true)
  | 1 => ("EveryHand$Walks", "table", "[I", true)
  | _ => ("EveryHand$Walks", "people", "I", false)
def cY4 : Nat → FieldType := fun k => match k with
  | 0 => .array .int
  | 1 => .array .int
  | _ => .int
def cT5 : u_T := fun k => match k with
  | 0 => ("EveryHand", "town", "LEveryHand$Town;", false)
  | 1 => ("EveryHand", "draft", "LEveryHand$Town;", false)
  | 2 => ("EveryHand", "kept", "LEveryHand$Town;", true)
  | 3 => ("EveryHand", "isKept", "Z", false)
  | 4 => ("EveryHand", "text", "LEveryHand$TownText;", true)
  | 5 => ("EveryHand", "walks", "LEveryHand$Walks;", true)
  | 6 => ("EveryHand", "rows", "[I", true)
  | 7 => ("EveryHand", "rowCount", "I", false)
  | 8 => ("EveryHand", "acts", "LEveryHand$Acts;", true)
  | _ => ("EveryHand", "host", "LEveryHand$Host;", true)
def cY5 : Nat → FieldType := fun k => match k with
  | 0 => .object "EveryHand$Town"
  | 1 => .object "EveryHand$Town"
  | 2 => .object "EveryHand$Town"
  | 3 => .boolean
  | 4 => .object "EveryHand$TownText"
  | 5 => .object "EveryHand$Walks"
  | 6 => .array .int
  | 7 => .int
  | 8 => .object "EveryHand$Acts"
  | _ => .object "EveryHand$Host"
def cT6 : u_T := fun k => match k with
  | 0 => ("EveryHandModel", "people", "I", false)
  | 1 => ("EveryHandModel", "ranks", "[I", true)
  | 2 => ("EveryHandModel", "silver", "[I", true)
  | 3 => ("EveryHandModel", "known", "[I", true)
  | 4 => ("EveryHandModel", "coins", "I", false)
  | 5 => ("EveryHandModel", "coin", "[I", true)
  | 6 => ("EveryHandModel", "z", "I", false)
  | 7 => ("EveryHandModel", "tape", "[I", true)
  | 8 => ("EveryHandModel", "tapeMany", "I", false)
  | 9 => ("EveryHandModel", "sort", "I", false)
  | 10 => ("EveryHandModel", "begins", "I", false)
  | 11 => ("EveryHandModel", "tokenEnds", "I", false)
  | 12 => ("EveryHandModel", "word", "J", false)
  | 13 => ("EveryHandModel", "value", "I", false)
  | 14 => ("EveryHandModel", "good", "Z", false)
  | 15 => ("EveryHandModel", "freshPeople", "I", false)
  | 16 => ("EveryHandModel", "freshCoins", "I", false)
  | 17 => ("EveryHandModel", "freshRanks", "[I", true)
  | 18 => ("EveryHandModel", "freshKnown", "[I", true)
  | 19 => ("EveryHandModel", "freshCoin", "[I", true)
  | 20 => ("EveryHandModel", "lefts", "[I", true)
  | 21 => ("EveryHandModel", "ways", "[I", true)
  | 22 => ("EveryHandModel", "lastOnes", "[I", true)
  | 23 => ("EveryHandModel", "must", "[I", true)
  | 24 => ("EveryHandModel", "mustMany", "I", false)
  | 25 => ("EveryHandModel", "rows", "[I", true)
  | 26 => ("EveryHandModel", "rowMany", "I", false)
  | 27 => ("EveryHandModel", "sorts", "[I", true)
  | 28 => ("EveryHandModel", "sizes", "[I", true)
  | 29 => ("EveryHandModel", "sheets", "[J", true)
  | 30 => ("EveryHandModel", "held", "[I", true)
  | 31 => ("EveryHandModel", "heldNumber", "[I", true)
  | 32 => ("EveryHandModel", "heldSize", "[I", true)
  | 33 => ("EveryHandModel", "kind", "I", false)
  | 34 => ("EveryHandModel", "number", "I", false)
  | 35 => ("EveryHandModel", "own", "I", false)
  | 36 => ("EveryHandModel", "traced", "[I", true)
  | 37 => ("EveryHandModel", "bodies", "I", false)
  | 38 => ("EveryHandModel", "isParted", "Z", false)
  | 39 => ("EveryHandModel", "isKept", "Z", false)
  | 40 => ("EveryHandModel", "keptRow", "[I", true)
  | 41 => ("EveryHandModel", "movedTo", "I", false)
  | _ => ("EveryHandModel", "single", "[I", true)
def cY6 : Nat → FieldType := fun k => match k with
  | 0 => .int
  | 1 => .array .int
  | 2 => .array .int
  | 3 => .array .int
  | 4 => .int
  | 5 => .array .int
  | 6 => .int
  | 7 => .array .int
  | 8 => .int
  | 9 => .int
  | 10 => .int
  | 11 => .int
  | 12 => .long
  | 13 => .int
  | 14 => .boolean
  | 15 => .int
  | 16 => .int
  | 17 => .array .int
  | 18 => .array .int
  | 19 => .array .int
  | 20 => .array .int
  | 21 => .array .int
  | 22 => .array .int
  | 23 => .array .int
  | 24 => .int
  | 25 => .array .int
  | 26 => .int
  | 27 => .array .int
  | 28 => .array .int
  | 29 => .array .long
  | 30 => .array .int
  | 31 => .array .int
  | 32 => .array .int
  | 33 => .int
  | 34 => .int
  | 35 => .int
  | 36 => .array .int
  | 37 => .int
  | 38 => .boolean
  | 39 => .boolean
  | 40 => .array .int
  | 41 => .int
  | _ => .array .int
abbrev cls : List vw_C := [("EveryHand$Acts", cT0, 6), ("EveryHand$Host", cT1, 6), ("EveryHand$Town", cT2, 10), ("EveryHand$TownText", cT3, 4), ("EveryHand$Walks", cT4, 3), ("EveryHand", cT5, 10), ("EveryHandModel", cT6, 43)]
theorem cN0 : ∀ a, a < 6 → ∀ b, b < 6 → a ≠ b → (cT0 a).2.1 ≠ (cT0 b).2.1 := by decide +kernel
theorem cO0 : ∀ k, k < 6 → parseFieldDescriptor (cT0 k).2.2.1 = some (cY0 k) := by decide +kernel
theorem cW0 : ∀ k, k < 6 → ∃ i : Nat, lw_tbl[i]? = some (u_lay "EveryHand$Acts" cT0 k) ∧ goodWord (u_lay "EveryHand$Acts" cT0 k) = true := by
  intro k hk
  have h : ∀ k, k < 6 → lw_tbl[([196, 198, 200, 202, 204, 206] : List Nat).getD k 0]? = some (u_lay "EveryHand$Acts" cT0 k) ∧ goodWord (u_lay "EveryHand$Acts" cT0 k) = true := by decide +kernel
  exact ⟨_, h k hk⟩
theorem cI0 : ∀ w ∈ u_ws "EveryHand$Acts" cT0 6, w ∈ GW := by
  intro w hw
  obtain ⟨k, hk, rfl⟩ := List.mem_map.mp hw
  obtain ⟨i, h1, h2⟩ := cW0 k (List.mem_range.mp hk)
  exact gw i h1 h2
theorem cN1 : ∀ a, a < 6 → ∀ b, b < 6 → a ≠ b → (cT1 a).2.1 ≠ (cT1 b).2.1 := by decide +kernel
theorem cO1 : ∀ k, k < 6 → parseFieldDescriptor (cT1 k).2.2.1 = some (cY1 k) := by decide +kernel
theorem cW1 : ∀ k, k < 6 → ∃ i : Nat, lw_tbl[i]? = some (u_lay "EveryHand$Host" cT1 k) ∧ goodWord (u_lay "EveryHand$Host" cT1 k) = true := by
  intro k hk
  have h : ∀ k, k < 6 → lw_tbl[([229, 231, 233, 235, 237, 239] : List Nat).getD k 0]? = some (u_lay "EveryHand$Host" cT1 k) ∧ goodWord (u_lay "EveryHand$Host" cT1 k) = true := by decide +kernel
  exact ⟨_, h k hk⟩
theorem cI1 : ∀ w ∈ u_ws "EveryHand$Host" cT1 6, w ∈ GW := by
  intro w hw
  obtain ⟨k, hk, rfl⟩ := List.mem_map.mp hw
  obtain ⟨i, h1, h2⟩ := cW1 k (List.mem_range.mp hk)
  exact gw i h1 h2
theorem cN2 : ∀ a, a < 10 → ∀ b, b < 10 → a ≠ b → (cT2 a).2.1 ≠ (cT2 b).2.1 := by decide +kernel
theorem cO2 : ∀ k, k < 10 → parseFieldDescriptor (cT2 k).2.2.1 = some (cY2 k) := by decide +kernel
theorem cW2 : ∀ k, k < 10 → ∃ i : Nat, lw_tbl[i]? = some (u_lay "EveryHand$Town" cT2 k) ∧ goodWord (u_lay "EveryHand$Town" cT2 k) = true := by
  intro k hk
  have h : ∀ k, k < 10 → lw_tbl[([123, 125, 127, 129, 131, 133, 135, 137, 139, 141] : List Nat).getD k 0]? = some (u_lay "EveryHand$Town" cT2 k) ∧ goodWord (u_lay "EveryHand$Town" cT2 k) = true := by decide +kernel
  exact ⟨_, h k hk⟩
theorem cI2 : ∀ w ∈ u_ws "EveryHand$Town" cT2 10, w ∈ GW := by
  intro w hw
  obtain ⟨k, hk, rfl⟩ := List.mem_map.mp hw
  obtain ⟨i, h1, h2⟩ := cW2 k (List.mem_range.mp hk)
  exact gw i h1 h2
theorem cN3 : ∀ a, a < 4 → ∀ b, b < 4 → a ≠ b → (cT3 a).2.1 ≠ (cT3 b).2.1 := by decide +kernel
theorem cO3 : ∀ k, k < 4 → parseFieldDescriptor (cT3 k).2.2.1 = some (cY3 k) := by decide +kernel
theorem cW3 : ∀ k, k < 4 → ∃ i : Nat, lw_tbl[i]? = some (u_lay "EveryHand$TownText" cT3 k) ∧ goodWord (u_lay "EveryHand$TownText" cT3 k) = true := by
  intro k hk
  have h : ∀ k, k < 4 → lw_tbl[([157, 159, 161, 163] : List Nat).getD k 0]? = some (u_lay "EveryHand$TownText" cT3 k) ∧ goodWord (u_lay "EveryHand$TownText" cT3 k) = true := by decide +kernel
  exact ⟨_, h k hk⟩
theorem cI3 : ∀ w ∈ u_ws "EveryHand$TownText" cT3 4, w ∈ GW := by
  intro w hw
  obtain ⟨k, hk, rfl⟩ := List.mem_map.mp hw
  obtain ⟨i, h1, h2⟩ := cW3 k (List.mem_range.mp hk)
  exact gw i h1 h2
theorem cN4 : ∀ a, a < 3 → ∀ b, b < 3 → a ≠ b → (cT4 a).2.1 ≠ (cT4 b).2.1 := by decide +kernel
theorem cO4 : ∀ k, k < 3 → parseFieldDescriptor (cT4 k).2.2.1 = some (cY4 k) := by decide +kernel
theorem cW4 : ∀ k, k < 3 → ∃ i : Nat, lw_tbl[i]? = some (u_lay "EveryHand$Walks" cT4 k) ∧ goodWord (u_lay "EveryHand$Walks" cT4 k) = true := by
  intro k hk
  have h : ∀ k, k < 3 → lw_tbl[([175, 177, 179] : List Nat).getD k 0]? = some (u_lay "EveryHand$Walks" cT4 k) ∧ goodWord (u_lay "EveryHand$Walks" cT4 k) = true := by decide +kernel
  exact ⟨_, h k hk⟩
theorem cI4 : ∀ w ∈ u_ws "EveryHand$Walks" cT4 3, w ∈ GW := by
  intro w hw
  obtain ⟨k, hk, rfl⟩ := List.mem_map.mp hw
  obtain ⟨i, h1, h2⟩ := cW4 k (List.mem_range.mp hk)
  exact gw i h1 h2
theorem cN5 : ∀ a, a < 10 → ∀ b, b < 10 → a ≠ b → (cT5 a).2.1 ≠ (cT5 b).2.1 := by decide +kernel
theorem cO5 : ∀ k, k < 10 → parseFieldDescriptor (cT5 k).2.2.1 = some (cY5 k) := by decide +kernel
theorem cW5 : ∀ k, k < 10 → ∃ i : Nat, lw_tbl[i]? = some (u_lay "EveryHand" cT5 k) ∧ goodWord (u_lay "EveryHand" cT5 k) = true := by
  intro k hk
  have h : ∀ k, k < 10 → lw_tbl[([252, 254, 256, 258, 260, 262, 264, 266, 268, 270] : List Nat).getD k 0]? = some (u_lay "EveryHand" cT5 k) ∧ goodWord (u_lay "EveryHand" cT5 k) = true := by decide +kernel
  exact ⟨_, h k hk⟩
theorem cI5 : ∀ w ∈ u_ws "EveryHand" cT5 10, w ∈ GW := by
  intro w hw
  obtain ⟨k, hk, rfl⟩ := List.mem_map.mp hw
  obtain ⟨i, h1, h2⟩ := cW5 k (List.mem_range.mp hk)
  exact gw i h1 h2
theorem cN6 : ∀ a, a < 43 → ∀ b, b < 43 → a ≠ b → (cT6 a).2.1 ≠ (cT6 b).2.1 := by decide +kernel
theorem cO6 : ∀ k, k < 43 → parseFieldDescriptor (cT6 k).2.2.1 = some (cY6 k) := by decide +kernel
theorem cW6 : ∀ k, k < 43 → ∃ i : Nat, lw_tbl[i]? = some (u_lay "EveryHandModel" cT6 k) ∧ goodWord (u_lay "EveryHandModel" cT6 k) = true := by
  intro k hk
  have h : ∀ k, k < 43 → lw_tbl[([838, 840, 842, 844, 846, 848, 850, 852, 854, 856, 858, 860, 862, 864, 866, 868, 870, 872, 874, 876, 878, 880, 882, 884, 886, 888, 890, 892, 894, 896, 898, 900, 902, 904, 906, 908, 910, 912, 914, 916, 918, 920, 922] : List Nat).getD k 0]? = some (u_lay "EveryHandModel" cT6 k) ∧ goodWord (u_lay "EveryHandModel" cT6 k) = true := by decide +kernel
  exact ⟨_, h k hk⟩
theorem cI6 : ∀ w ∈ u_ws "EveryHandModel" cT6 43, w ∈ GW := by
  intro w hw
  obtain ⟨k, hk, rfl⟩ := List.mem_map.mp hw
  obtain ⟨i, h1, h2⟩ := cW6 k (List.mem_range.mp hk)
  exact gw i h1 h2
/-- what every class of the worlds has -/
theorem cAll : ∀ (ci : Nat) (q : vw_C), cls[ci]? = some q → (∀ w ∈ u_ws q.1 q.2.1 q.2.2, w ∈ GW) ∧ ∃ ty0 : Nat → FieldType, (∀ k, k < q.2.2 → parseFieldDescriptor (q.2.1 k).2.2.1 = some (ty0 k)) ∧ (∀ a, a < q.2.2 → ∀ b, b < q.2.2 → a ≠ b → (q.2.1 a).2.1 ≠ (q.2.1 b).2.1) := by
  intro ci q h
  match ci, h with
  | 0, h => cases h; exact ⟨cI0, cY0, cO0, cN0⟩
  | 1, h => cases h; exact ⟨cI1, cY1, cO1, cN1⟩
  | 2, h => cases h; exact ⟨cI2, cY2, cO2, cN2⟩
  | 3, h => cases h; exact ⟨cI3, cY3, cO3, cN3⟩
  | 4, h => cases h; exact ⟨cI4, cY4, cO4, cN4⟩
  | 5, h => cases h; exact ⟨cI5, cY5, cO5, cN5⟩
  | 6, h => cases h; exact ⟨cI6, cY6, cO6, cN6⟩
  | _ + 7, h => simp [cls] at h
/-- the cells by number: (class, 0), (7, n) an int array, (8, n) a long array, (9, n) an array of int arrays -/
def kdL : List (Nat × Nat) := [(5, 0), (2, 0), (7, 7), (7, 7), (7, 7), (7, 6), (7, 6), (7, 6), (7, 6), (2, 0), (7, 7), (7, 7), (7, 7), (7, 6), (7, 6), (7, 6), (7, 6), (2, 0), (7, 7), (7, 7), (7, 7), (7, 6), (7, 6), (7, 6), (7, 6), (3, 0), (7, 200), (4, 0), (7, 7), (7, 1024), (7, 21), (0, 0), (7, 30), (1, 0), (7, 4), (7, 4), (9, 4), (7, 40), (7, 40), (7, 40), (7, 40), (7, 4), (7, 4), (7, 4), (6, 0), (7, 7), (7, 7), (7, 7), (7, 24), (7, 200), (7, 7), (7, 7), (7, 24), (7, 896), (7, 896), (7, 896), (7, 21), (7, 21), (7, 4), (7, 4), (8, 160), (7, 4), (7, 4), (7, 4), (7, 30), (7, 60), (7, 3)]
def kd (k : Nat) : Nat × Nat := kdL.getD k (99, 0)
/-- what the fields of a class are: 0 an int, 1 a long, 2 a reference that changes, n + 3 the cell n places on -/
def fcL : List (List Nat) := [[4, 0, 0, 0, 0, 0], [4, 5, 6, 11, 12, 13], [0, 0, 0, 4, 5, 6, 7, 8, 9, 10], [4, 0, 0, 0], [4, 5, 0], [2, 2, 20, 0, 28, 30, 33, 0, 34, 36], [0, 4, 5, 6, 0, 7, 0, 8, 0, 0, 0, 0, 1, 0, 0, 0, 0, 9, 10, 11, 12, 13, 14, 15, 0, 16, 0, 17, 18, 19, 20, 21, 22, 0, 0, 0, 23, 0, 0, 0, 24, 0, 25]]
def fc (ci : Nat) : List Nat := fcL.getD ci []
theorem kd_lt {k : Nat} {q : Nat × Nat} (h : kd k = q) (hq : q.1 < 99) : k < 67 := by
  rcases Nat.lt_or_ge k 67 with g | g
  · exact g
  · exfalso
    have e : kd k = (99, 0) := by
      unfold kd
      rw [List.getD_eq_getElem?_getD, List.getElem?_eq_none (show kdL.length ≤ k from g)]
      rfl
    rw [e] at h
    rw [← h] at hq
    exact absurd hq (by decide)
