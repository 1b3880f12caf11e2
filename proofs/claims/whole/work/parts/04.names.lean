/-! names: the classes, their fields, the methods by number (printed by wip/gen/names.py out of the listing) -/
def lw_good : List Cond := lw_tbl.filter goodWord
def rx_0 : String := "CoatsFitTheMood$Coat"
def tx_0 : u_T := fun k => match k with
  | 0 => ("CoatsFitTheMood$Coat", "kind", "I", false)
  | 1 => ("CoatsFitTheMood$Coat", "number", "I", false)
  | 2 => ("CoatsFitTheMood$Coat", "cut", "I", false)
  | _ => ("CoatsFitTheMood$Coat", "worn", "I", false)
def ty_0 : Nat → FieldType := fun k => match k with
  | 0 => .int
  | 1 => .int
  | 2 => .int
  | _ => .int
def rx_1 : String := "CoatsFitTheMood$Day"
def tx_1 : u_T := fun k => match k with
  | 0 => ("CoatsFitTheMood$Day", "fines", "[I", true)
  | 1 => ("CoatsFitTheMood$Day", "costs", "[I", true)
  | 2 => ("CoatsFitTheMood$Day", "keeping", "[I", true)
  | 3 => ("CoatsFitTheMood$Day", "least", "[I", true)
  | _ => ("CoatsFitTheMood$Day", "many", "I", false)
def ty_1 : Nat → FieldType := fun k => match k with
  | 0 => .array .int
  | 1 => .array .int
  | 2 => .array .int
  | 3 => .array .int
  | _ => .int
def rx_2 : String := "CoatsFitTheMood$Image"
def tx_2 : u_T := fun k => match k with
  | 0 => ("CoatsFitTheMood$Image", "moods", "[I", true)
  | 1 => ("CoatsFitTheMood$Image", "coats", "[LCoatsFitTheMood$Coat;", true)
  | 2 => ("CoatsFitTheMood$Image", "owned", "I", false)
  | _ => ("CoatsFitTheMood$Image", "rule", "I", false)
def ty_2 : Nat → FieldType := fun k => match k with
  | 0 => .array .int
  | 1 => .array (.object "CoatsFitTheMood$Coat")
  | 2 => .int
  | _ => .int
def rx_3 : String := "CoatsFitTheMood$Reader"
def tx_3 : u_T := fun k => match k with
  | 0 => ("CoatsFitTheMood$Reader", "tape", "LCoatsFitTheMood$Tape;", true)
  | _ => ("CoatsFitTheMood$Reader", "at", "I", false)
def ty_3 : Nat → FieldType := fun k => match k with
  | 0 => .object "CoatsFitTheMood$Tape"
  | _ => .int
def rx_4 : String := "CoatsFitTheMood$Sheet"
def tx_4 : u_T := fun k => match k with
  | 0 => ("CoatsFitTheMood$Sheet", "items", "[I", true)
  | 1 => ("CoatsFitTheMood$Sheet", "sort", "I", false)
  | _ => ("CoatsFitTheMood$Sheet", "size", "I", false)
def ty_4 : Nat → FieldType := fun k => match k with
  | 0 => .array .int
  | 1 => .int
  | _ => .int
def rx_5 : String := "CoatsFitTheMood$Tape"
def tx_5 : u_T := fun k => match k with
  | 0 => ("CoatsFitTheMood$Tape", "bytes", "[I", true)
  | 1 => ("CoatsFitTheMood$Tape", "tokens", "[I", true)
  | 2 => ("CoatsFitTheMood$Tape", "places", "[I", true)
  | 3 => ("CoatsFitTheMood$Tape", "numbers", "[I", true)
  | 4 => ("CoatsFitTheMood$Tape", "size", "I", false)
  | 5 => ("CoatsFitTheMood$Tape", "next", "I", false)
  | _ => ("CoatsFitTheMood$Tape", "many", "I", false)
def ty_5 : Nat → FieldType := fun k => match k with
  | 0 => .array .int
  | 1 => .array .int
  | 2 => .array .int
  | 3 => .array .int
  | 4 => .int
  | 5 => .int
  | _ => .int
def rx_6 : String := "CoatsFitTheMood$Text"
def tx_6 : u_T := fun k => match k with
  | 0 => ("CoatsFitTheMood$Text", "steps", "[I", true)
  | 1 => ("CoatsFitTheMood$Text", "ends", "[I", true)
  | 2 => ("CoatsFitTheMood$Text", "stack", "[I", true)
  | 3 => ("CoatsFitTheMood$Text", "size", "I", false)
  | _ => ("CoatsFitTheMood$Text", "top", "I", false)
def ty_6 : Nat → FieldType := fun k => match k with
  | 0 => .array .int
  | 1 => .array .int
  | 2 => .array .int
  | 3 => .int
  | _ => .int
def rx_7 : String := "CoatsFitTheMood"
def tx_7 : u_T := fun k => match k with
  | 0 => ("CoatsFitTheMood", "moods", "[I", true)
  | 1 => ("CoatsFitTheMood", "drawer", "[LCoatsFitTheMood$Coat;", true)
  | 2 => ("CoatsFitTheMood", "owned", "I", false)
  | 3 => ("CoatsFitTheMood", "trial", "LCoatsFitTheMood$Coat;", true)
  | 4 => ("CoatsFitTheMood", "texts", "[LCoatsFitTheMood$Text;", true)
  | 5 => ("CoatsFitTheMood", "written", "I", false)
  | 6 => ("CoatsFitTheMood", "rule", "I", false)
  | 7 => ("CoatsFitTheMood", "tape", "LCoatsFitTheMood$Tape;", true)
  | 8 => ("CoatsFitTheMood", "reader", "LCoatsFitTheMood$Reader;", true)
  | 9 => ("CoatsFitTheMood", "sheets", "[LCoatsFitTheMood$Sheet;", true)
  | 10 => ("CoatsFitTheMood", "choices", "LCoatsFitTheMood$Day;", true)
  | 11 => ("CoatsFitTheMood", "rights", "[I", true)
  | _ => ("CoatsFitTheMood", "kept", "LCoatsFitTheMood$Image;", true)
def ty_7 : Nat → FieldType := fun k => match k with
  | 0 => .array .int
  | 1 => .array (.object "CoatsFitTheMood$Coat")
  | 2 => .int
  | 3 => .object "CoatsFitTheMood$Coat"
  | 4 => .array (.object "CoatsFitTheMood$Text")
  | 5 => .int
  | 6 => .int
  | 7 => .object "CoatsFitTheMood$Tape"
  | 8 => .object "CoatsFitTheMood$Reader"
  | 9 => .array (.object "CoatsFitTheMood$Sheet")
  | 10 => .object "CoatsFitTheMood$Day"
  | 11 => .array .int
  | _ => .object "CoatsFitTheMood$Image"
def rx_8 : String := "CoatsFitTheMoodModel"
def tx_8 : u_T := fun k => match k with
  | 0 => ("CoatsFitTheMoodModel", "thrown", "I", false)
  | 1 => ("CoatsFitTheMoodModel", "texts", "[I", true)
  | 2 => ("CoatsFitTheMoodModel", "textSize", "[I", true)
  | 3 => ("CoatsFitTheMoodModel", "textCount", "I", false)
  | 4 => ("CoatsFitTheMoodModel", "rule", "I", false)
  | 5 => ("CoatsFitTheMoodModel", "tape", "[I", true)
  | 6 => ("CoatsFitTheMoodModel", "taped", "I", false)
  | 7 => ("CoatsFitTheMoodModel", "moods", "[I", true)
  | 8 => ("CoatsFitTheMoodModel", "kinds", "[I", true)
  | 9 => ("CoatsFitTheMoodModel", "rows", "[I", true)
  | 10 => ("CoatsFitTheMoodModel", "many", "I", false)
  | 11 => ("CoatsFitTheMoodModel", "ofCut", "I", false)
  | 12 => ("CoatsFitTheMoodModel", "ofMood", "I", false)
  | 13 => ("CoatsFitTheMoodModel", "ofNumber", "I", false)
  | 14 => ("CoatsFitTheMoodModel", "ofHour", "I", false)
  | 15 => ("CoatsFitTheMoodModel", "ofWorn", "I", false)
  | 16 => ("CoatsFitTheMoodModel", "ofOff", "I", false)
  | 17 => ("CoatsFitTheMoodModel", "from", "I", false)
  | 18 => ("CoatsFitTheMoodModel", "size", "I", false)
  | 19 => ("CoatsFitTheMoodModel", "here", "I", false)
  | 20 => ("CoatsFitTheMoodModel", "token", "I", false)
  | 21 => ("CoatsFitTheMoodModel", "tokenAt", "I", false)
  | 22 => ("CoatsFitTheMoodModel", "tokenWorth", "J", false)
  | 23 => ("CoatsFitTheMoodModel", "open", "I", false)
  | 24 => ("CoatsFitTheMoodModel", "bad", "Z", false)
  | 25 => ("CoatsFitTheMoodModel", "fault", "I", false)
  | 26 => ("CoatsFitTheMoodModel", "right", "[I", true)
  | 27 => ("CoatsFitTheMoodModel", "now", "[I", true)
  | 28 => ("CoatsFitTheMoodModel", "next", "[I", true)
  | 29 => ("CoatsFitTheMoodModel", "least1", "[I", true)
  | 30 => ("CoatsFitTheMoodModel", "fine1", "[I", true)
  | 31 => ("CoatsFitTheMoodModel", "cost1", "[I", true)
  | 32 => ("CoatsFitTheMoodModel", "wears", "[I", true)
  | 33 => ("CoatsFitTheMoodModel", "moodsWas", "[I", true)
  | 34 => ("CoatsFitTheMoodModel", "moodsKept", "[I", true)
  | 35 => ("CoatsFitTheMoodModel", "rowsKept", "[I", true)
  | 36 => ("CoatsFitTheMoodModel", "manyKept", "I", false)
  | 37 => ("CoatsFitTheMoodModel", "ruleKept", "I", false)
  | 38 => ("CoatsFitTheMoodModel", "isThere", "[Z", true)
  | 39 => ("CoatsFitTheMoodModel", "sorts", "[I", true)
  | 40 => ("CoatsFitTheMoodModel", "sheetSize", "[I", true)
  | _ => ("CoatsFitTheMoodModel", "items", "[I", true)
def ty_8 : Nat → FieldType := fun k => match k with
  | 0 => .int
  | 1 => .array .int
  | 2 => .array .int
  | 3 => .int
  | 4 => .int
  | 5 => .array .int
  | 6 => .int
  | 7 => .array .int
  | 8 => .array .int
  | 9 => .array .int
  | 10 => .int
  | 11 => .int
  | 12 => .int
  | 13 => .int
  | 14 => .int
  | 15 => .int
  | 16 => .int
  | 17 => .int
  | 18 => .int
  | 19 => .int
  | 20 => .int
  | 21 => .int
  | 22 => .long
  | 23 => .int
  | 24 => .boolean
  | 25 => .int
  | 26 => .array .int
  | 27 => .array .int
  | 28 => .array .int
  | 29 => .array .int
  | 30 => .array .int
  | 31 => .array .int
  | 32 => .array .int
  | 33 => .array .int
  | 34 => .array .int
  | 35 => .array .int
  | 36 => .int
  | 37 => .int
  | 38 => .array .boolean
  | 39 => .array .int
  | 40 => .array .int
  | _ => .array .int
def ab_cl : List vw_C := [(rx_0, tx_0, 4), (rx_1, tx_1, 5), (rx_2, tx_2, 4), (rx_3, tx_3, 2), (rx_4, tx_4, 3), (rx_5, tx_5, 7), (rx_6, tx_6, 5), (rx_7, tx_7, 13), (rx_8, tx_8, 42)]
def ab_ty (c : Nat) : Nat → FieldType := ab_nth ty_0 [ty_0, ty_1, ty_2, ty_3, ty_4, ty_5, ty_6, ty_7, ty_8] c
theorem nn_0 : ∀ a, a < 4 → ∀ b, b < 4 → a ≠ b → (tx_0 a).2.1 ≠ (tx_0 b).2.1 := by decide +kernel
theorem tt_0 : ∀ k, k < 4 → parseFieldDescriptor (tx_0 k).2.2.1 = some (ty_0 k) := by decide +kernel
theorem wi_0 : ∀ w ∈ u_ws rx_0 tx_0 4, w ∈ lw_good := by decide +kernel
theorem nn_1 : ∀ a, a < 5 → ∀ b, b < 5 → a ≠ b → (tx_1 a).2.1 ≠ (tx_1 b).2.1 := by decide +kernel
theorem tt_1 : ∀ k, k < 5 → parseFieldDescriptor (tx_1 k).2.2.1 = some (ty_1 k) := by decide +kernel
theorem wi_1 : ∀ w ∈ u_ws rx_1 tx_1 5, w ∈ lw_good := by decide +kernel
theorem nn_2 : ∀ a, a < 4 → ∀ b, b < 4 → a ≠ b → (tx_2 a).2.1 ≠ (tx_2 b).2.1 := by decide +kernel
theorem tt_2 : ∀ k, k < 4 → parseFieldDescriptor (tx_2 k).2.2.1 = some (ty_2 k) := by decide +kernel
theorem wi_2 : ∀ w ∈ u_ws rx_2 tx_2 4, w ∈ lw_good := by decide +kernel
theorem nn_3 : ∀ a, a < 2 → ∀ b, b < 2 → a ≠ b → (tx_3 a).2.1 ≠ (tx_3 b).2.1 := by decide +kernel
theorem tt_3 : ∀ k, k < 2 → parseFieldDescriptor (tx_3 k).2.2.1 = some (ty_3 k) := by decide +kernel
theorem wi_3 : ∀ w ∈ u_ws rx_3 tx_3 2, w ∈ lw_good := by decide +kernel
theorem nn_4 : ∀ a, a < 3 → ∀ b, b < 3 → a ≠ b → (tx_4 a).2.1 ≠ (tx_4 b).2.1 := by decide +kernel
theorem tt_4 : ∀ k, k < 3 → parseFieldDescriptor (tx_4 k).2.2.1 = some (ty_4 k) := by decide +kernel
theorem wi_4 : ∀ w ∈ u_ws rx_4 tx_4 3, w ∈ lw_good := by decide +kernel
theorem nn_5 : ∀ a, a < 7 → ∀ b, b < 7 → a ≠ b → (tx_5 a).2.1 ≠ (tx_5 b).2.1 := by decide +kernel
theorem tt_5 : ∀ k, k < 7 → parseFieldDescriptor (tx_5 k).2.2.1 = some (ty_5 k) := by decide +kernel
theorem wi_5 : ∀ w ∈ u_ws rx_5 tx_5 7, w ∈ lw_good := by decide +kernel
theorem nn_6 : ∀ a, a < 5 → ∀ b, b < 5 → a ≠ b → (tx_6 a).2.1 ≠ (tx_6 b).2.1 := by decide +kernel
theorem tt_6 : ∀ k, k < 5 → parseFieldDescriptor (tx_6 k).2.2.1 = some (ty_6 k) := by decide +kernel
theorem wi_6 : ∀ w ∈ u_ws rx_6 tx_6 5, w ∈ lw_good := by decide +kernel
theorem nn_7 : ∀ a, a < 13 → ∀ b, b < 13 → a ≠ b → (tx_7 a).2.1 ≠ (tx_7 b).2.1 := by decide +kernel
theorem tt_7 : ∀ k, k < 13 → parseFieldDescriptor (tx_7 k).2.2.1 = some (ty_7 k) := by decide +kernel
theorem wi_7 : ∀ w ∈ u_ws rx_7 tx_7 13, w ∈ lw_good := by decide +kernel
theorem nn_8 : ∀ a, a < 42 → ∀ b, b < 42 → a ≠ b → (tx_8 a).2.1 ≠ (tx_8 b).2.1 := by decide +kernel
theorem tt_8 : ∀ k, k < 42 → parseFieldDescriptor (tx_8 k).2.2.1 = some (ty_8 k) := by decide +kernel
theorem wi_8 : ∀ w ∈ u_ws rx_8 tx_8 42, w ∈ lw_good := by decide +kernel
theorem ab_cl_at {c : Nat} {q : vw_C} (h : ab_cl[c]? = some q) : (c = 0 ∧ q = (rx_0, tx_0, 4)) ∨ (c = 1 ∧ q = (rx_1, tx_1, 5)) ∨ (c = 2 ∧ q = (rx_2, tx_2, 4)) ∨ (c = 3 ∧ q = (rx_3, tx_3, 2)) ∨ (c = 4 ∧ q = (rx_4, tx_4, 3)) ∨ (c = 5 ∧ q = (rx_5, tx_5, 7)) ∨ (c = 6 ∧ q = (rx_6, tx_6, 5)) ∨ (c = 7 ∧ q = (rx_7, tx_7, 13)) ∨ (c = 8 ∧ q = (rx_8, tx_8, 42)) := by
  match c with
  | 0 => exact Or.inl ⟨rfl, (Option.some.inj h).symm⟩
  | 1 => exact Or.inr (Or.inl ⟨rfl, (Option.some.inj h).symm⟩)
  | 2 => exact Or.inr (Or.inr (Or.inl ⟨rfl, (Option.some.inj h).symm⟩))
  | 3 => exact Or.inr (Or.inr (Or.inr (Or.inl ⟨rfl, (Option.some.inj h).symm⟩)))
  | 4 => exact Or.inr (Or.inr (Or.inr (Or.inr (Or.inl ⟨rfl, (Option.some.inj h).symm⟩))))
  | 5 => exact Or.inr (Or.inr (Or.inr (Or.inr (Or.inr (Or.inl ⟨rfl, (Option.some.inj h).symm⟩)))))
  | 6 => exact Or.inr (Or.inr (Or.inr (Or.inr (Or.inr (Or.inr (Or.inl ⟨rfl, (Option.some.inj h).symm⟩))))))
  | 7 => exact Or.inr (Or.inr (Or.inr (Or.inr (Or.inr (Or.inr (Or.inr (Or.inl ⟨rfl, (Option.some.inj h).symm⟩)))))))
  | 8 => exact Or.inr (Or.inr (Or.inr (Or.inr (Or.inr (Or.inr (Or.inr (Or.inr (⟨rfl, (Option.some.inj h).symm⟩))))))))
  | n + 9 => exact absurd h (by simp [ab_cl])
theorem ab_cl_in {c : Nat} {C : String} {T : u_T} {N : Nat} (h : ab_cl[c]? = some (C, T, N)) : ∀ w ∈ u_ws C T N, w ∈ lw_good := by
  rcases ab_cl_at h with ⟨rfl, e⟩ | ⟨rfl, e⟩ | ⟨rfl, e⟩ | ⟨rfl, e⟩ | ⟨rfl, e⟩ | ⟨rfl, e⟩ | ⟨rfl, e⟩ | ⟨rfl, e⟩ | ⟨rfl, e⟩
  · cases e; exact wi_0
  · cases e; exact wi_1
  · cases e; exact wi_2
  · cases e; exact wi_3
  · cases e; exact wi_4
  · cases e; exact wi_5
  · cases e; exact wi_6
  · cases e; exact wi_7
  · cases e; exact wi_8
theorem ab_cl_nn {c : Nat} {C : String} {T : u_T} {N : Nat} (h : ab_cl[c]? = some (C, T, N)) : ∀ a, a < N → ∀ b, b < N → a ≠ b → (T a).2.1 ≠ (T b).2.1 := by
  rcases ab_cl_at h with ⟨rfl, e⟩ | ⟨rfl, e⟩ | ⟨rfl, e⟩ | ⟨rfl, e⟩ | ⟨rfl, e⟩ | ⟨rfl, e⟩ | ⟨rfl, e⟩ | ⟨rfl, e⟩ | ⟨rfl, e⟩
  · cases e; exact nn_0
  · cases e; exact nn_1
  · cases e; exact nn_2
  · cases e; exact nn_3
  · cases e; exact nn_4
  · cases e; exact nn_5
  · cases e; exact nn_6
  · cases e; exact nn_7
  · cases e; exact nn_8
theorem ab_cl_tt {c : Nat} {C : String} {T : u_T} {N : Nat} (h : ab_cl[c]? = some (C, T, N)) : ∀ k, k < N → parseFieldDescriptor (T k).2.2.1 = some (ab_ty c k) := by
  rcases ab_cl_at h with ⟨rfl, e⟩ | ⟨rfl, e⟩ | ⟨rfl, e⟩ | ⟨rfl, e⟩ | ⟨rfl, e⟩ | ⟨rfl, e⟩ | ⟨rfl, e⟩ | ⟨rfl, e⟩ | ⟨rfl, e⟩
  · cases e; exact tt_0
  · cases e; exact tt_1
  · cases e; exact tt_2
  · cases e; exact tt_3
  · cases e; exact tt_4
  · cases e; exact tt_5
  · cases e; exact tt_6
  · cases e; exact tt_7
  · cases e; exact tt_8
/-- a kind: 0 objects, 1 rows of ints, 2 rows of booleans, 3 rows of references, 9 none -/
def ab_kds : List Nat := [0, 0, 0, 1, 1, 1, 0, 1, 1, 1, 1, 0, 0, 1, 0, 1, 1, 1, 1, 1, 0, 1, 3, 1, 3, 3, 3, 9, 9, 9, 0, 1, 1, 1, 1, 1, 1, 1, 1, 1, 1, 1, 1, 1, 1, 1, 1, 2, 1, 1, 1]
abbrev ab_kd (g : Nat) : Nat := ab_nth 9 ab_kds g
def ab_cis : List Nat := [7, 0, 6, 99, 99, 99, 5, 99, 99, 99, 99, 3, 4, 99, 1, 99, 99, 99, 99, 99, 2, 99, 99, 99, 99, 99, 99, 99, 99, 99, 8, 99, 99, 99, 99, 99, 99, 99, 99, 99, 99, 99, 99, 99, 99, 99, 99, 99, 99, 99, 99]
abbrev ab_ci (g : Nat) : Nat := ab_nth 99 ab_cis g
/-- the fields of a kind of objects: 0 int, 1 long, 2 a reference (to which kind, how far off) -/
def ab_fds : Nat → List (Nat × Nat × Nat) := fun g => match g with
  | 0 => [(2, 23, 0), (2, 24, 0), (0, 0, 0), (2, 1, 8), (2, 25, 0), (0, 0, 0), (0, 0, 0), (2, 6, 0), (2, 11, 0), (2, 26, 0), (2, 14, 0), (2, 19, 0), (2, 20, 0)]
  | 1 => [(0, 0, 0), (0, 0, 0), (0, 0, 0), (0, 0, 0)]
  | 2 => [(2, 3, 0), (2, 4, 0), (2, 5, 0), (0, 0, 0), (0, 0, 0)]
  | 6 => [(2, 7, 0), (2, 8, 0), (2, 9, 0), (2, 10, 0), (0, 0, 0), (0, 0, 0), (0, 0, 0)]
  | 11 => [(2, 6, 0), (0, 0, 0)]
  | 12 => [(2, 13, 0), (0, 0, 0), (0, 0, 0)]
  | 14 => [(2, 15, 0), (2, 16, 0), (2, 17, 0), (2, 18, 0), (0, 0, 0)]
  | 20 => [(2, 21, 0), (2, 22, 0), (0, 0, 0), (0, 0, 0)]
  | 30 => [(0, 0, 0), (2, 31, 0), (2, 32, 0), (0, 0, 0), (0, 0, 0), (2, 33, 0), (0, 0, 0), (2, 34, 0), (2, 35, 0), (2, 36, 0), (0, 0, 0), (0, 0, 0), (0, 0, 0), (0, 0, 0), (0, 0, 0), (0, 0, 0), (0, 0, 0), (0, 0, 0), (0, 0, 0), (0, 0, 0), (0, 0, 0), (0, 0, 0), (1, 0, 0), (0, 0, 0), (0, 0, 0), (0, 0, 0), (2, 37, 0), (2, 38, 0), (2, 39, 0), (2, 40, 0), (2, 41, 0), (2, 42, 0), (2, 43, 0), (2, 44, 0), (2, 45, 0), (2, 46, 0), (0, 0, 0), (0, 0, 0), (2, 47, 0), (2, 48, 0), (2, 49, 0), (2, 50, 0)]
  | _ => []
def ab_rt (g : Nat) : Nat := match g with
  | 25 => 3
  | 26 => 4
  | _ => 2
def ab_on : Nat → String := ab_nth "" [rx_0, rx_1, rx_2, rx_3, rx_4, rx_5, rx_6, rx_7, rx_8, "java/lang/Integer", "java/lang/String"]
/-- the name of the class of a kind of objects -/
def ab_rn (g : Nat) : String := match g with
  | 0 => rx_7
  | 1 => rx_0
  | 2 => rx_6
  | 6 => rx_5
  | 11 => rx_3
  | 12 => rx_4
  | 14 => rx_1
  | 20 => rx_2
  | 30 => rx_8
  | 60 => "java/lang/String"
  | _ => ""
def ab_mys : List MethodName := [⟨rx_7, "set", "(III)I"⟩,
  ⟨rx_7, "setMood", "(II)I"⟩,
  ⟨rx_7, "coat", "(III)I"⟩,
  ⟨rx_7, "told", "(II)I"⟩,
  ⟨rx_7, "asks", "(III)I"⟩,
  ⟨rx_7, "feed", "(I)I"⟩,
  ⟨rx_7, "text", "()I"⟩,
  ⟨rx_7, "force", "(I)I"⟩,
  ⟨rx_7, "push", "(III)I"⟩,
  ⟨rx_7, "plan", "(III)I"⟩,
  ⟨rx_7, "wear", "(II)I"⟩,
  ⟨rx_7, "day", "(II)I"⟩,
  ⟨rx_7, "dress", "(II)I"⟩,
  ⟨rx_7, "anew", "(III)I"⟩,
  ⟨rx_7, "pushes", "(III)I"⟩,
  ⟨rx_7, "all", "(I)I"⟩,
  ⟨rx_7, "mean", "(II)J"⟩,
  ⟨rx_7, "tells", "(IIII)I"⟩,
  ⟨rx_7, "film", "(IIII)I"⟩,
  ⟨rx_7, "drawn", "(II)I"⟩,
  ⟨rx_7, "chance", "(IIIII)J"⟩,
  ⟨rx_7, "image", "()I"⟩,
  ⟨rx_7, "back", "()I"⟩,
  ⟨rx_7, "count", "(I)I"⟩,
  ⟨rx_7, "sheet", "(III)I"⟩,
  ⟨rx_7, "cell", "(III)I"⟩,
  ⟨rx_7, "copy", "(IIIII)I"⟩,
  ⟨rx_7, "coats", "(IIII)I"⟩,
  ⟨rx_7, "taken", "(II)I"⟩,
  ⟨rx_7, "isOne", "(I)Z"⟩,
  ⟨rx_7, "isHour", "(I)Z"⟩,
  ⟨rx_7, "isPlace", "(I)Z"⟩,
  ⟨rx_7, "isCoat", "(I)Z"⟩,
  ⟨rx_7, "isSheet", "(I)Z"⟩,
  ⟨rx_7, "isPush", "(I)Z"⟩,
  ⟨rx_7, "mostOf", "(I)I"⟩,
  ⟨rx_7, "bounded", "(I)I"⟩,
  ⟨rx_7, "inLowestTerms", "(III)J"⟩,
  ⟨rx_7, "moodAt", "(II)I"⟩,
  ⟨rx_7, "giveMood", "(III)V"⟩,
  ⟨rx_7, "fitsAt", "(LCoatsFitTheMood$Text;LCoatsFitTheMood$Coat;II)Z"⟩,
  ⟨rx_7, "fineAt", "(III)I"⟩,
  ⟨rx_7, "costAt", "(III)I"⟩,
  ⟨rx_7, "rightAt", "(II)I"⟩,
  ⟨rx_7, "hoursOf", "(LCoatsFitTheMood$Coat;I)I"⟩,
  ⟨rx_7, "hoursOfEverybody", "(LCoatsFitTheMood$Coat;)I"⟩,
  ⟨rx_7, "wornTogether", "()I"⟩,
  ⟨rx_7, "planRefusal", "(LCoatsFitTheMood$Sheet;)I"⟩,
  ⟨rx_7, "planTold", "(LCoatsFitTheMood$Sheet;II)I"⟩,
  ⟨rx_7, "tellHour", "(II)V"⟩,
  ⟨rx_7, "tellDay", "(I)V"⟩,
  ⟨rx_7, "cheapCost", "(I)I"⟩,
  ⟨rx_7, "drawnCost", "(I)I"⟩,
  ⟨rx_7, "bare", "(I)I"⟩,
  ⟨rx_7, "cover", "(I)I"⟩,
  ⟨rx_7, "covers", "(I)Z"⟩,
  ⟨rx_7, "changes", "(I)I"⟩,
  ⟨rx_7, "useless", "()I"⟩,
  ⟨rx_7, "alike", "(Z)I"⟩,
  ⟨rx_7, "apart", "(II)I"⟩,
  ⟨rx_7, "firstOtherwise", "(LCoatsFitTheMood$Sheet;LCoatsFitTheMood$Text;LCoatsFitTheMood$Coat;I)I"⟩,
  ⟨rx_7, "wouldBeSo", "(LCoatsFitTheMood$Sheet;IIII)Z"⟩,
  ⟨rx_7, "bitsBy", "(LCoatsFitTheMood$Sheet;IIII)I"⟩,
  ⟨rx_7, "manyBy", "(LCoatsFitTheMood$Sheet;IIII)I"⟩,
  ⟨rx_7, "leastBy", "(LCoatsFitTheMood$Sheet;IIII)I"⟩,
  ⟨rx_8, "in", "(JJJ)Z"⟩,
  ⟨rx_8, "within", "(III)I"⟩,
  ⟨rx_8, "isCoat", "(I)Z"⟩,
  ⟨rx_8, "isHour", "(I)Z"⟩,
  ⟨rx_8, "isOne", "(I)Z"⟩,
  ⟨rx_8, "isOf", "(II)Z"⟩,
  ⟨rx_8, "placeOf", "(I)I"⟩,
  ⟨rx_8, "mostOf", "(I)I"⟩,
  ⟨rx_8, "set", "(III)I"⟩,
  ⟨rx_8, "lays", "(III)V"⟩,
  ⟨rx_8, "coat", "(III)I"⟩,
  ⟨rx_8, "told", "(II)I"⟩,
  ⟨rx_8, "feed", "(I)I"⟩,
  ⟨rx_8, "byteAt", "(I)I"⟩,
  ⟨rx_8, "next", "()V"⟩,
  ⟨rx_8, "fail", "()V"⟩,
  ⟨rx_8, "isLetter", "(II)Z"⟩,
  ⟨rx_8, "isWord", "(IIIIIIII)Z"⟩,
  ⟨rx_8, "isSign", "(I)Z"⟩,
  ⟨rx_8, "opens", "()Z"⟩,
  ⟨rx_8, "name", "()I"⟩,
  ⟨rx_8, "atom5", "()I"⟩,
  ⟨rx_8, "term5", "()I"⟩,
  ⟨rx_8, "added5", "()I"⟩,
  ⟨rx_8, "not5", "()I"⟩,
  ⟨rx_8, "both5", "()I"⟩,
  ⟨rx_8, "either5", "()I"⟩,
  ⟨rx_8, "atom4", "()I"⟩,
  ⟨rx_8, "term4", "()I"⟩,
  ⟨rx_8, "added4", "()I"⟩,
  ⟨rx_8, "not4", "()I"⟩,
  ⟨rx_8, "both4", "()I"⟩,
  ⟨rx_8, "either4", "()I"⟩,
  ⟨rx_8, "atom3", "()I"⟩,
  ⟨rx_8, "term3", "()I"⟩,
  ⟨rx_8, "added3", "()I"⟩,
  ⟨rx_8, "not3", "()I"⟩,
  ⟨rx_8, "both3", "()I"⟩,
  ⟨rx_8, "either3", "()I"⟩,
  ⟨rx_8, "atom2", "()I"⟩,
  ⟨rx_8, "term2", "()I"⟩,
  ⟨rx_8, "added2", "()I"⟩,
  ⟨rx_8, "not2", "()I"⟩,
  ⟨rx_8, "both2", "()I"⟩,
  ⟨rx_8, "either2", "()I"⟩,
  ⟨rx_8, "atom1", "()I"⟩,
  ⟨rx_8, "term1", "()I"⟩,
  ⟨rx_8, "added1", "()I"⟩,
  ⟨rx_8, "not1", "()I"⟩,
  ⟨rx_8, "both1", "()I"⟩,
  ⟨rx_8, "either1", "()I"⟩,
  ⟨rx_8, "atom0", "()I"⟩,
  ⟨rx_8, "term0", "()I"⟩,
  ⟨rx_8, "added0", "()I"⟩,
  ⟨rx_8, "not0", "()I"⟩,
  ⟨rx_8, "both0", "()I"⟩,
  ⟨rx_8, "either0", "()I"⟩,
  ⟨rx_8, "part", "(Z)I"⟩,
  ⟨rx_8, "read", "(II)I"⟩,
  ⟨rx_8, "text", "()I"⟩,
  ⟨rx_8, "force", "(I)I"⟩,
  ⟨rx_8, "offOf", "(II)I"⟩,
  ⟨rx_8, "says", "(IIII)I"⟩,
  ⟨rx_8, "fits", "(III)Z"⟩,
  ⟨rx_8, "fineOf", "(III)I"⟩,
  ⟨rx_8, "costOf", "(III)I"⟩,
  ⟨rx_8, "asks", "(III)I"⟩,
  ⟨rx_8, "rightAt", "(II)I"⟩,
  ⟨rx_8, "hoursBy", "(II)I"⟩,
  ⟨rx_8, "hoursOf", "(I)I"⟩,
  ⟨rx_8, "pushed", "(III)V"⟩,
  ⟨rx_8, "push", "(III)I"⟩,
  ⟨rx_8, "planBad", "(I)I"⟩,
  ⟨rx_8, "wornAt", "(II)I"⟩,
  ⟨rx_8, "planned", "(III)I"⟩,
  ⟨rx_8, "plan", "(III)I"⟩,
  ⟨rx_8, "wear", "(II)I"⟩,
  ⟨rx_8, "bitsOf", "(I)I"⟩,
  ⟨rx_8, "rights", "(I)V"⟩,
  ⟨rx_8, "covers", "(I)Z"⟩,
  ⟨rx_8, "coverOf", "(I)I"⟩,
  ⟨rx_8, "bareOf", "(I)I"⟩,
  ⟨rx_8, "changesOf", "(I)I"⟩,
  ⟨rx_8, "byCoat", "(III)I"⟩,
  ⟨rx_8, "cheapOf", "(I)I"⟩,
  ⟨rx_8, "day", "(II)I"⟩,
  ⟨rx_8, "dress", "(II)I"⟩,
  ⟨rx_8, "anew", "(III)I"⟩,
  ⟨rx_8, "laysAside", "(I)V"⟩,
  ⟨rx_8, "laysBack", "(I)V"⟩,
  ⟨rx_8, "pushes", "(III)I"⟩,
  ⟨rx_8, "apart", "(II)I"⟩,
  ⟨rx_8, "all", "(I)I"⟩,
  ⟨rx_8, "lowest", "(JJI)J"⟩,
  ⟨rx_8, "mean", "(II)J"⟩,
  ⟨rx_8, "firstOther", "(III)I"⟩,
  ⟨rx_8, "hourSet", "(II)I"⟩,
  ⟨rx_8, "tells", "(IIII)I"⟩,
  ⟨rx_8, "film", "(IIII)I"⟩,
  ⟨rx_8, "cheapDrawn", "(II)I"⟩,
  ⟨rx_8, "drawn", "(II)I"⟩,
  ⟨rx_8, "chance", "(IIIII)J"⟩,
  ⟨rx_8, "image", "()I"⟩,
  ⟨rx_8, "back", "()I"⟩,
  ⟨rx_8, "count", "(I)I"⟩,
  ⟨rx_8, "isSheet", "(I)Z"⟩,
  ⟨rx_8, "sheet", "(III)I"⟩,
  ⟨rx_8, "cell", "(III)I"⟩,
  ⟨rx_8, "copy", "(IIIII)I"⟩,
  ⟨rx_8, "coats", "(IIII)I"⟩,
  ⟨rx_8, "over", "(I)I"⟩,
  ⟨rx_8, "taken", "(II)I"⟩,
  ⟨rx_0, "comeAs", "(III)V"⟩,
  ⟨rx_0, "become", "(LCoatsFitTheMood$Coat;)V"⟩,
  ⟨rx_0, "trait", "(I)I"⟩,
  ⟨rx_0, "giveTrait", "(II)V"⟩,
  ⟨rx_0, "wornLonger", "()V"⟩,
  ⟨rx_0, "isUnder", "(I)Z"⟩,
  ⟨rx_0, "off", "(I)I"⟩,
  ⟨rx_0, "fits", "(II)Z"⟩,
  ⟨rx_0, "fine", "(I)I"⟩,
  ⟨rx_0, "cost", "(I)I"⟩,
  ⟨rx_1, "tell", "(IIII)V"⟩,
  ⟨rx_1, "cheapest", "()I"⟩,
  ⟨rx_1, "wornAt", "(I)I"⟩,
  ⟨rx_1, "firstBehind", "(II)I"⟩,
  ⟨rx_3, "readText", "(LCoatsFitTheMood$Text;)I"⟩,
  ⟨rx_3, "stepOver", "(I)Z"⟩,
  ⟨rx_3, "level", "(LCoatsFitTheMood$Text;II)Z"⟩,
  ⟨rx_3, "joins", "(II)Z"⟩,
  ⟨rx_3, "one", "(LCoatsFitTheMood$Text;I)Z"⟩,
  ⟨rx_3, "prefixed", "(LCoatsFitTheMood$Text;III)Z"⟩,
  ⟨rx_3, "bracketed", "(LCoatsFitTheMood$Text;I)Z"⟩,
  ⟨rx_4, "become", "(II)V"⟩,
  ⟨rx_4, "put", "(II)V"⟩,
  ⟨rx_4, "item", "(I)I"⟩,
  ⟨rx_4, "hasRow", "(II)Z"⟩,
  ⟨rx_5, "add", "(I)Z"⟩,
  ⟨rx_5, "clear", "()V"⟩,
  ⟨rx_5, "token", "(I)I"⟩,
  ⟨rx_5, "place", "(I)I"⟩,
  ⟨rx_5, "number", "(I)I"⟩,
  ⟨rx_5, "scan", "()V"⟩,
  ⟨rx_5, "scanOne", "(I)I"⟩,
  ⟨rx_5, "scanNumber", "(I)I"⟩,
  ⟨rx_5, "scanWord", "(I)I"⟩,
  ⟨rx_5, "isWord", "(ILjava/lang/String;)Z"⟩,
  ⟨rx_5, "byteAt", "(I)I"⟩,
  ⟨rx_5, "isBlank", "(I)Z"⟩,
  ⟨rx_5, "isLetter", "(I)Z"⟩,
  ⟨rx_5, "isDigit", "(I)Z"⟩,
  ⟨rx_5, "isSign", "(I)Z"⟩,
  ⟨rx_6, "clear", "()V"⟩,
  ⟨rx_6, "addNumber", "(I)V"⟩,
  ⟨rx_6, "addToken", "(I)V"⟩,
  ⟨rx_6, "endPart", "(I)V"⟩,
  ⟨rx_6, "value", "(ILCoatsFitTheMood$Coat;II)I"⟩,
  ⟨rx_6, "lay", "(I)V"⟩,
  ⟨rx_6, "lift", "()I"⟩,
  ⟨rx_6, "named", "(ILCoatsFitTheMood$Coat;II)I"⟩,
  ⟨rx_6, "join", "(I)V"⟩,
  ⟨rx_6, "joined", "(III)I"⟩,
  ⟨"java/lang/Integer", "bitCount", "(I)I"⟩,
  ⟨"java/lang/String", "length", "()I"⟩,
  ⟨"java/lang/String", "charAt", "(I)C"⟩]
def ab_mbs : List ByteArray := [prog_1_method_2_code, prog_1_method_3_code, prog_1_method_4_code, prog_1_method_5_code, prog_1_method_6_code, prog_1_method_7_code, prog_1_method_8_code, prog_1_method_9_code, prog_1_method_10_code, prog_1_method_11_code, prog_1_method_12_code, prog_1_method_13_code, prog_1_method_14_code, prog_1_method_15_code, prog_1_method_16_code, prog_1_method_17_code, prog_1_method_18_code, prog_1_method_19_code, prog_1_method_20_code, prog_1_method_21_code, prog_1_method_22_code, prog_1_method_23_code, prog_1_method_24_code, prog_1_method_25_code, prog_1_method_26_code, prog_1_method_27_code, prog_1_method_28_code, prog_1_method_29_code, prog_1_method_30_code, prog_1_method_31_code, prog_1_method_32_code, prog_1_method_33_code, prog_1_method_34_code, prog_1_method_35_code, prog_1_method_36_code, prog_1_method_37_code, prog_1_method_38_code, prog_1_method_39_code, prog_1_method_40_code, prog_1_method_41_code, prog_1_method_42_code, prog_1_method_43_code, prog_1_method_44_code, prog_1_method_45_code, prog_1_method_46_code, prog_1_method_47_code, prog_1_method_48_code, prog_1_method_49_code, prog_1_method_50_code, prog_1_method_51_code, prog_1_method_52_code, prog_1_method_53_code, prog_1_method_54_code, prog_1_method_55_code, prog_1_method_56_code, prog_1_method_57_code, prog_1_method_58_code, prog_1_method_59_code, prog_1_method_60_code, prog_1_method_61_code, prog_1_method_62_code, prog_1_method_63_code, prog_1_method_64_code, prog_1_method_65_code, prog_1_method_66_code, prog_10_method_2_code, prog_10_method_3_code, prog_10_method_6_code, prog_10_method_7_code, prog_10_method_8_code, prog_10_method_9_code, prog_10_method_10_code, prog_10_method_11_code, prog_10_method_12_code, prog_10_method_13_code, prog_10_method_14_code, prog_10_method_15_code, prog_10_method_16_code, prog_10_method_17_code, prog_10_method_18_code, prog_10_method_19_code, prog_10_method_20_code, prog_10_method_21_code, prog_10_method_22_code, prog_10_method_23_code, prog_10_method_24_code, prog_10_method_25_code, prog_10_method_26_code, prog_10_method_27_code, prog_10_method_28_code, prog_10_method_29_code, prog_10_method_30_code, prog_10_method_31_code, prog_10_method_32_code, prog_10_method_33_code, prog_10_method_34_code, prog_10_method_35_code, prog_10_method_36_code, prog_10_method_37_code, prog_10_method_38_code, prog_10_method_39_code, prog_10_method_40_code, prog_10_method_41_code, prog_10_method_42_code, prog_10_method_43_code, prog_10_method_44_code, prog_10_method_45_code, prog_10_method_46_code, prog_10_method_47_code, prog_10_method_48_code, prog_10_method_49_code, prog_10_method_50_code, prog_10_method_51_code, prog_10_method_52_code, prog_10_method_53_code, prog_10_method_54_code, prog_10_method_55_code, prog_10_method_56_code, prog_10_method_57_code, prog_10_method_58_code, prog_10_method_59_code, prog_10_method_60_code, prog_10_method_61_code, prog_10_method_62_code, prog_10_method_63_code, prog_10_method_64_code, prog_10_method_65_code, prog_10_method_66_code, prog_10_method_67_code, prog_10_method_68_code, prog_10_method_69_code, prog_10_method_70_code, prog_10_method_71_code, prog_10_method_72_code, prog_10_method_73_code, prog_10_method_74_code, prog_10_method_75_code, prog_10_method_76_code, prog_10_method_77_code, prog_10_method_78_code, prog_10_method_79_code, prog_10_method_80_code, prog_10_method_81_code, prog_10_method_82_code, prog_10_method_83_code, prog_10_method_84_code, prog_10_method_85_code, prog_10_method_86_code, prog_10_method_87_code, prog_10_method_88_code, prog_10_method_89_code, prog_10_method_90_code, prog_10_method_91_code, prog_10_method_92_code, prog_10_method_93_code, prog_10_method_94_code, prog_10_method_95_code, prog_10_method_96_code, prog_10_method_97_code, prog_10_method_98_code, prog_10_method_99_code, prog_10_method_100_code, prog_10_method_101_code, prog_10_method_102_code, prog_10_method_103_code, prog_10_method_104_code, prog_10_method_105_code, prog_10_method_106_code, prog_10_method_107_code, prog_10_method_108_code, prog_10_method_109_code, prog_10_method_110_code, prog_10_method_111_code, prog_10_method_112_code, prog_10_method_113_code, prog_10_method_114_code, prog_10_method_115_code, prog_2_method_2_code, prog_2_method_3_code, prog_2_method_4_code, prog_2_method_5_code, prog_2_method_6_code, prog_2_method_7_code, prog_2_method_8_code, prog_2_method_9_code, prog_2_method_10_code, prog_2_method_11_code, prog_3_method_2_code, prog_3_method_3_code, prog_3_method_4_code, prog_3_method_5_code, prog_5_method_2_code, prog_5_method_3_code, prog_5_method_4_code, prog_5_method_5_code, prog_5_method_6_code, prog_5_method_7_code, prog_5_method_8_code, prog_6_method_2_code, prog_6_method_3_code, prog_6_method_4_code, prog_6_method_5_code, prog_7_method_2_code, prog_7_method_3_code, prog_7_method_4_code, prog_7_method_5_code, prog_7_method_6_code, prog_7_method_7_code, prog_7_method_8_code, prog_7_method_9_code, prog_7_method_10_code, prog_7_method_11_code, prog_7_method_12_code, prog_7_method_13_code, prog_7_method_14_code, prog_7_method_15_code, prog_7_method_16_code, prog_8_method_3_code, prog_8_method_4_code, prog_8_method_5_code, prog_8_method_6_code, prog_8_method_7_code, prog_8_method_8_code, prog_8_method_9_code, prog_8_method_10_code, prog_8_method_11_code, prog_8_method_12_code, prog_11_method_49_code, prog_13_method_54_code, prog_13_method_56_code]
def ab_mls : List Nat := [5, 4, 4, 3, 6, 2, 2, 3, 5, 5, 8, 3, 5, 8, 8, 2, 5, 6, 8, 3, 8, 2, 2, 2, 4, 4, 8, 9, 3, 1, 1, 1, 2, 1, 1, 1, 1, 5, 3, 4, 4, 4, 4, 5, 5, 4, 3, 4, 11, 5, 3, 2, 4, 4, 4, 3, 6, 3, 7, 5, 6, 7, 8, 8, 7, 6, 3, 2, 1, 1, 3, 1, 1, 5, 4, 4, 3, 2, 2, 3, 1, 3, 9, 2, 1, 1, 2, 2, 4, 4, 3, 3, 2, 2, 4, 4, 3, 3, 2, 2, 4, 4, 3, 3, 2, 2, 4, 4, 3, 3, 2, 2, 4, 4, 3, 3, 2, 2, 4, 4, 3, 3, 3, 6, 2, 3, 4, 5, 8, 6, 6, 6, 5, 5, 4, 5, 4, 4, 3, 11, 5, 7, 3, 3, 3, 4, 4, 6, 4, 6, 4, 5, 9, 3, 3, 8, 6, 4, 11, 5, 5, 5, 12, 8, 5, 3, 9, 2, 2, 4, 1, 5, 4, 9, 8, 1, 4, 4, 2, 2, 3, 1, 4, 2, 4, 2, 2, 5, 5, 4, 6, 3, 2, 7, 2, 4, 5, 3, 4, 3, 2, 3, 2, 1, 2, 2, 2, 3, 3, 4, 3, 4, 2, 1, 1, 1, 1, 1, 2, 2, 2, 7, 2, 1, 4, 3, 3, 1, 1, 2]
def ab_mrs : List (Option FieldType) := [(some .int), (some .int), (some .int), (some .int), (some .int), (some .int), (some .int), (some .int), (some .int), (some .int), (some .int), (some .int), (some .int), (some .int), (some .int), (some .int), (some .long), (some .int), (some .int), (some .int), (some .long), (some .int), (some .int), (some .int), (some .int), (some .int), (some .int), (some .int), (some .int), (some .boolean), (some .boolean), (some .boolean), (some .boolean), (some .boolean), (some .boolean), (some .int), (some .int), (some .long), (some .int), none, (some .boolean), (some .int), (some .int), (some .int), (some .int), (some .int), (some .int), (some .int), (some .int), none, none, (some .int), (some .int), (some .int), (some .int), (some .boolean), (some .int), (some .int), (some .int), (some .int), (some .int), (some .boolean), (some .int), (some .int), (some .int), (some .boolean), (some .int), (some .boolean), (some .boolean), (some .boolean), (some .boolean), (some .int), (some .int), (some .int), none, (some .int), (some .int), (some .int), (some .int), none, none, (some .boolean), (some .boolean), (some .boolean), (some .boolean), (some .int), (some .int), (some .int), (some .int), (some .int), (some .int), (some .int), (some .int), (some .int), (some .int), (some .int), (some .int), (some .int), (some .int), (some .int), (some .int), (some .int), (some .int), (some .int), (some .int), (some .int), (some .int), (some .int), (some .int), (some .int), (some .int), (some .int), (some .int), (some .int), (some .int), (some .int), (some .int), (some .int), (some .int), (some .int), (some .int), (some .int), (some .int), (some .int), (some .int), (some .int), (some .int), (some .int), (some .boolean), (some .int), (some .int), (some .int), (some .int), (some .int), (some .int), none, (some .int), (some .int), (some .int), (some .int), (some .int), (some .int), (some .int), none, (some .boolean), (some .int), (some .int), (some .int), (some .int), (some .int), (some .int), (some .int), (some .int), none, none, (some .int), (some .int), (some .int), (some .long), (some .long), (some .int), (some .int), (some .int), (some .int), (some .int), (some .int), (some .long), (some .int), (some .int), (some .int), (some .boolean), (some .int), (some .int), (some .int), (some .int), (some .int), (some .int), none, none, (some .int), none, none, (some .boolean), (some .int), (some .boolean), (some .int), (some .int), none, (some .int), (some .int), (some .int), (some .int), (some .boolean), (some .boolean), (some .boolean), (some .boolean), (some .boolean), (some .boolean), none, none, (some .int), (some .boolean), (some .boolean), none, (some .int), (some .int), (some .int), none, (some .int), (some .int), (some .int), (some .boolean), (some .int), (some .boolean), (some .boolean), (some .boolean), (some .boolean), none, none, none, none, (some .int), none, (some .int), (some .int), none, (some .int), (some .int), (some .int), (some .char)]
def ab_mos : List Nat := [7, 7, 7, 7, 7, 7, 7, 7, 7, 7, 7, 7, 7, 7, 7, 7, 7, 7, 7, 7, 7, 7, 7, 7, 7, 7, 7, 7, 7, 7, 7, 7, 7, 7, 7, 7, 7, 7, 7, 7, 7, 7, 7, 7, 7, 7, 7, 7, 7, 7, 7, 7, 7, 7, 7, 7, 7, 7, 7, 7, 7, 7, 7, 7, 7, 8, 8, 8, 8, 8, 8, 8, 8, 8, 8, 8, 8, 8, 8, 8, 8, 8, 8, 8, 8, 8, 8, 8, 8, 8, 8, 8, 8, 8, 8, 8, 8, 8, 8, 8, 8, 8, 8, 8, 8, 8, 8, 8, 8, 8, 8, 8, 8, 8, 8, 8, 8, 8, 8, 8, 8, 8, 8, 8, 8, 8, 8, 8, 8, 8, 8, 8, 8, 8, 8, 8, 8, 8, 8, 8, 8, 8, 8, 8, 8, 8, 8, 8, 8, 8, 8, 8, 8, 8, 8, 8, 8, 8, 8, 8, 8, 8, 8, 8, 8, 8, 8, 8, 8, 8, 8, 8, 8, 8, 8, 8, 8, 0, 0, 0, 0, 0, 0, 0, 0, 0, 0, 1, 1, 1, 1, 3, 3, 3, 3, 3, 3, 3, 4, 4, 4, 4, 5, 5, 5, 5, 5, 5, 5, 5, 5, 5, 5, 5, 5, 5, 5, 6, 6, 6, 6, 6, 6, 6, 6, 6, 6, 9, 10, 10]
abbrev ab_my (i : Nat) : MethodName := ab_nth ⟨"", "", ""⟩ ab_mys i
abbrev ab_mb (i : Nat) : ByteArray := ab_nth ⟨#[]⟩ ab_mbs i
abbrev ab_ml (i : Nat) : Nat := ab_nth 0 ab_mls i
abbrev ab_mr (i : Nat) : Option FieldType := ab_nth none ab_mrs i
abbrev ab_mo (i : Nat) : Nat := ab_nth 99 ab_mos i
/-- which field an entry of a class names: (entry, kind, place, its word) -/
def ab_fl : Nat → List (Nat × Nat × Nat × Nat) := fun o => match o with
  | 0 => [(9, 1, 0, 148), (15, 1, 1, 149), (18, 1, 2, 152), (21, 1, 3, 155)]
  | 1 => [(9, 14, 0, 220), (15, 14, 1, 221), (18, 14, 2, 222), (21, 14, 3, 223), (24, 14, 4, 224)]
  | 3 => [(9, 11, 0, 205), (25, 11, 1, 206)]
  | 4 => [(9, 12, 0, 288), (15, 12, 1, 290), (19, 12, 2, 292)]
  | 5 => [(9, 6, 0, 176), (15, 6, 1, 177), (18, 6, 2, 178), (21, 6, 3, 179), (24, 6, 4, 180), (28, 6, 6, 183), (31, 6, 5, 182)]
  | 6 => [(9, 2, 0, 267), (15, 2, 1, 268), (18, 2, 2, 269), (31, 2, 3, 270), (35, 2, 4, 271), (56, 1, 2, 153), (61, 1, 1, 150), (64, 1, 3, 156)]
  | 7 => [(9, 0, 0, 317), (15, 0, 1, 318), (19, 0, 2, 319), (24, 0, 3, 320), (30, 0, 4, 321), (34, 0, 5, 322), (37, 0, 6, 323), (43, 0, 7, 324), (52, 0, 8, 325), (58, 0, 9, 326), (65, 0, 10, 327), (69, 0, 11, 328), (75, 0, 12, 329), (140, 6, 4, 181), (173, 12, 2, 293), (217, 1, 2, 154), (240, 12, 1, 291), (260, 20, 0, 246), (267, 20, 1, 248), (270, 20, 2, 250), (271, 20, 3, 252), (279, 12, 0, 289), (288, 1, 1, 151), (312, 1, 3, 157), (319, 14, 4, 225)]
  | 8 => [(13, 30, 1, 897), (17, 30, 2, 898), (20, 30, 5, 901), (23, 30, 7, 903), (26, 30, 8, 904), (29, 30, 9, 905), (32, 30, 26, 922), (35, 30, 27, 923), (38, 30, 28, 924), (41, 30, 29, 925), (44, 30, 30, 926), (47, 30, 31, 927), (50, 30, 32, 928), (53, 30, 33, 929), (56, 30, 34, 930), (59, 30, 35, 931), (62, 30, 36, 932), (65, 30, 38, 934), (69, 30, 39, 935), (72, 30, 40, 936), (75, 30, 41, 937), (82, 30, 3, 899), (85, 30, 10, 906), (126, 30, 4, 900), (145, 30, 6, 902), (148, 30, 18, 914), (151, 30, 17, 913), (154, 30, 19, 915), (160, 30, 21, 917), (163, 30, 20, 916), (174, 30, 22, 918), (180, 30, 24, 920), (184, 30, 25, 921), (190, 30, 23, 919), (202, 30, 11, 907), (205, 30, 12, 908), (208, 30, 13, 909), (211, 30, 14, 910), (214, 30, 15, 911), (217, 30, 16, 912), (462, 30, 37, 933)]
  | _ => []
/-- which method an entry of a class names: (entry, number, arguments, how) -/
def ab_cs : Nat → List (Nat × Nat × Nat × Nat × Nat) := fun o => match o with
  | 0 => [(24, 177, 3, 0, 768), (38, 183, 1, 0, 455), (42, 36, 1, 2, 0)]
  | 1 => [(28, 30, 1, 2, 0), (39, 190, 2, 0, 716)]
  | 3 => [(15, 217, 0, 0, 502), (20, 207, 0, 0, 503), (29, 192, 1, 0, 599), (33, 193, 3, 0, 607), (37, 205, 1, 0, 635), (41, 220, 1, 0, 639), (45, 204, 1, 0, 603), (48, 195, 2, 0, 611), (52, 196, 4, 0, 615), (56, 194, 2, 1, 632), (60, 219, 1, 0, 619), (63, 197, 2, 0, 623), (66, 206, 1, 0, 627), (69, 218, 1, 0, 631)]
  | 4 => [(31, 201, 2, 0, 672)]
  | 5 => [(34, 212, 1, 0, 507), (38, 213, 1, 1, 511), (42, 208, 1, 0, 514), (45, 214, 1, 1, 518), (48, 210, 1, 0, 521), (51, 215, 1, 1, 589), (54, 209, 1, 0, 592), (57, 216, 1, 1, 596), (62, 211, 2, 0, 526), (88, 228, 0, 0, 530), (94, 229, 1, 0, 540)]
  | 6 => [(24, 218, 1, 0, 309), (38, 222, 1, 0, 420), (41, 224, 4, 1, 424), (45, 225, 1, 0, 431), (48, 223, 0, 0, 435), (52, 36, 1, 2, 0), (67, 183, 1, 0, 427), (70, 226, 3, 1, 439)]
  | 7 => [(85, 1, 2, 0, 361), (89, 32, 1, 0, 382), (93, 35, 1, 1, 386), (97, 179, 1, 0, 389), (100, 180, 2, 0, 393), (104, 31, 1, 1, 365), (107, 38, 2, 0, 374), (110, 39, 3, 0, 378), (113, 177, 3, 0, 401), (116, 43, 2, 0, 409), (119, 45, 1, 0, 456), (123, 40, 4, 1, 413), (127, 41, 3, 0, 468), (131, 42, 3, 0, 477), (134, 183, 1, 0, 485), (137, 202, 1, 0, 490), (143, 191, 1, 0, 498), (147, 203, 0, 0, 640), (150, 29, 1, 1, 368), (153, 30, 1, 1, 371), (156, 34, 1, 1, 653), (159, 36, 1, 1, 656), (162, 33, 1, 1, 661), (165, 47, 1, 0, 664), (169, 48, 3, 0, 676), (174, 200, 1, 0, 668), (177, 181, 0, 0, 684), (180, 50, 1, 0, 693), (184, 188, 0, 0, 706), (188, 189, 1, 0, 712), (191, 54, 1, 0, 720), (194, 227, 1, 1, 724), (199, 53, 1, 0, 734), (202, 56, 1, 0, 738), (205, 51, 1, 0, 742), (208, 198, 2, 0, 750), (211, 199, 2, 0, 756), (214, 178, 1, 0, 764), (220, 44, 2, 0, 460), (224, 49, 2, 0, 697), (227, 57, 0, 0, 777), (230, 58, 1, 0, 781), (236, 37, 3, 1, 797), (243, 60, 4, 1, 804), (247, 62, 5, 0, 807), (251, 63, 5, 0, 815), (254, 64, 5, 0, 819), (257, 52, 1, 0, 831), (272, 46, 0, 0, 855), (275, 201, 2, 0, 871), (282, 2, 3, 0, 876), (285, 182, 1, 0, 881), (299, 221, 4, 0, 416), (303, 184, 2, 0, 451), (306, 185, 1, 0, 472), (309, 186, 1, 0, 481), (315, 187, 4, 0, 701), (323, 55, 1, 0, 730), (326, 59, 2, 0, 785), (332, 61, 5, 0, 811)]
  | 8 => [(88, 65, 3, 1, 1029), (98, 68, 1, 1, 1037), (102, 67, 1, 0, 1041), (107, 70, 2, 0, 1032), (111, 72, 1, 1, 1045), (115, 76, 2, 0, 1048), (119, 74, 3, 0, 1274), (123, 71, 1, 1, 1053), (137, 132, 2, 0, 1056), (140, 134, 1, 0, 1266), (157, 78, 1, 0, 1080), (187, 81, 2, 0, 1093), (193, 80, 0, 0, 1101), (196, 79, 0, 0, 1076), (198, 82, 8, 0, 1089), (220, 83, 1, 0, 1153), (223, 84, 0, 0, 1117), (227, 85, 0, 0, 1157), (231, 86, 0, 0, 1149), (234, 87, 0, 0, 1145), (239, 88, 0, 0, 1141), (244, 89, 0, 0, 1137), (247, 90, 0, 0, 1179), (250, 91, 0, 0, 1175), (253, 92, 0, 0, 1171), (256, 93, 0, 0, 1167), (259, 94, 0, 0, 1163), (262, 95, 0, 0, 1133), (265, 96, 0, 0, 1199), (268, 97, 0, 0, 1195), (271, 98, 0, 0, 1191), (274, 99, 0, 0, 1187), (277, 100, 0, 0, 1183), (280, 101, 0, 0, 1129), (283, 102, 0, 0, 1219), (286, 103, 0, 0, 1215), (289, 104, 0, 0, 1211), (292, 105, 0, 0, 1207), (295, 106, 0, 0, 1203), (298, 107, 0, 0, 1125), (301, 108, 0, 0, 1239), (304, 109, 0, 0, 1235), (307, 110, 0, 0, 1231), (310, 111, 0, 0, 1227), (313, 112, 0, 0, 1223), (316, 113, 0, 0, 1121), (319, 114, 0, 0, 1259), (322, 115, 0, 0, 1255), (325, 116, 0, 0, 1251), (328, 117, 0, 0, 1247), (331, 118, 0, 0, 1243), (334, 119, 0, 0, 1113), (337, 120, 0, 0, 1109), (340, 121, 0, 0, 1105), (343, 122, 1, 0, 1097), (347, 123, 2, 0, 1072), (350, 126, 2, 0, 1068), (353, 66, 3, 1, 1263), (357, 127, 4, 0, 1064), (363, 128, 3, 0, 1060), (367, 129, 3, 0, 1304), (370, 130, 3, 0, 1308), (373, 133, 2, 0, 1270), (376, 69, 1, 1, 1316), (381, 135, 3, 0, 1321), (384, 138, 2, 0, 1340), (387, 170, 1, 1, 1329), (390, 137, 1, 0, 1332), (393, 139, 3, 0, 1336), (396, 143, 1, 0, 1358), (400, 142, 1, 1, 1362), (403, 144, 1, 0, 1365), (407, 148, 3, 0, 1382), (414, 145, 1, 0, 1354), (417, 146, 1, 0, 1369), (420, 147, 1, 0, 1373), (423, 149, 1, 0, 1378), (426, 171, 3, 0, 1390), (429, 153, 1, 0, 1403), (432, 154, 1, 0, 1407), (435, 156, 2, 0, 1415), (442, 158, 3, 1, 1425), (446, 160, 3, 0, 1433), (451, 161, 2, 0, 1437), (457, 164, 2, 0, 1450), (467, 75, 3, 0, 1485), (470, 175, 1, 1, 1490)]
  | _ => []
/-- which constant an entry of a class names -/
def ab_ks : Nat → List (Nat × AV × Nat) := fun o => match o with
  | 1 => [(32, vI 1000000, 710)]
  | 5 => [(60, vR 60 0, 0), (66, vR 60 1, 0), (68, vR 60 2, 0), (70, vR 60 3, 0), (72, vR 60 4, 0), (74, vR 60 5, 0), (76, vR 60 6, 0), (78, vR 60 7, 0), (80, vR 60 8, 0), (82, vR 60 9, 0), (84, vR 60 10, 0), (86, vR 60 11, 0)]
  | 7 => [(234, vL (-4611686018427387904), 796), (322, vI 1103515245, 835)]
  | 8 => [(92, vL 23, 1040), (94, vL 2, 1319), (96, vL 223, 1036), (105, vL 3, 1028), (129, vL 5, 1282), (131, vL 9, 1283), (133, vL 99, 1284), (135, vL 6, 1052), (143, vL 255, 1290), (166, vL 97, 1084), (168, vL 122, 1085), (170, vL 48, 1086), (172, vL 57, 1087), (178, vL 10, 1088), (237, vL 43, 1161), (242, vL 60, 1162), (361, vL 9923, 1303), (379, vL (-99), 1320), (406, vI 1000000, 1377), (410, vL 4, 1352), (412, vL 33, 1353), (438, vL (-4611686018427387904), 1423), (440, vL 24, 1424), (449, vL 8, 1432), (454, vL 40, 1445), (456, vI 1103515245, 1454), (460, vL 9999, 1459), (465, vL (-1), 1394)]
  | 9 => [(265, vI 1431655765, 727), (266, vI 858993459, 728), (267, vI 252645135, 729)]
  | _ => []
/-- which member of Math or System an entry names: 0 max, 1 min, 2 abs, 3 arraycopy -/
def ab_js : Nat → List (Nat × Nat × Nat) := fun o => match o with
  | 0 => [(28, 1, 688)]
  | 1 => [(33, 1, 711)]
  | 4 => [(22, 1, 754), (28, 0, 755)]
  | 7 => [(261, 3, 844), (291, 1, 445), (296, 0, 448), (329, 2, 789)]
  | _ => []
/-- the places of the words of a method: its code, what it is, its choice, its class -/
def ab_mks : List (Nat × Nat × Nat × Nat) := [(360, 358, 359, 117), (364, 363, 0, 117), (400, 398, 399, 117), (408, 406, 407, 117), (467, 465, 466, 117), (489, 487, 488, 117), (497, 495, 496, 117), (648, 646, 647, 117), (652, 650, 651, 117), (660, 658, 659, 117), (683, 681, 682, 117), (692, 690, 691, 117), (749, 747, 748, 117), (763, 761, 762, 117), (772, 770, 771, 117), (776, 774, 775, 117), (795, 793, 794, 117), (803, 801, 802, 117), (826, 824, 825, 117), (830, 828, 829, 117), (839, 837, 838, 117), (843, 841, 842, 117), (850, 848, 849, 117), (854, 852, 853, 117), (862, 860, 861, 117), (866, 864, 865, 117), (870, 868, 869, 117), (875, 873, 874, 117), (880, 878, 879, 117), (370, 369, 0, 117), (373, 372, 0, 117), (367, 366, 0, 117), (385, 384, 3, 117), (663, 662, 0, 117), (655, 654, 0, 117), (388, 387, 0, 117), (444, 443, 0, 117), (799, 798, 0, 117), (377, 376, 1, 117), (381, 380, 2, 117), (415, 414, 0, 117), (471, 470, 10, 117), (480, 479, 11, 117), (412, 411, 4, 117), (463, 462, 9, 117), (459, 458, 8, 117), (858, 857, 40, 117), (667, 666, 22, 117), (679, 678, 23, 117), (700, 699, 25, 117), (696, 695, 24, 117), (745, 744, 31, 117), (834, 833, 39, 117), (737, 736, 29, 117), (723, 722, 27, 117), (733, 732, 28, 117), (741, 740, 30, 117), (780, 779, 32, 117), (784, 783, 33, 117), (788, 787, 34, 117), (806, 805, 0, 117), (814, 813, 36, 117), (810, 809, 35, 117), (818, 817, 37, 117), (822, 821, 38, 117), (1031, 1030, 0, 125), (1265, 1264, 0, 125), (1044, 1043, 43, 125), (1039, 1038, 0, 125), (1318, 1317, 0, 125), (1035, 1034, 42, 125), (1055, 1054, 0, 125), (1047, 1046, 0, 125), (1027, 1025, 1026, 125), (1277, 1276, 96, 125), (1281, 1279, 1280, 125), (1051, 1049, 1050, 125), (1289, 1287, 1288, 125), (1083, 1082, 50, 125), (1079, 1078, 49, 125), (1104, 1103, 54, 125), (1096, 1095, 52, 125), (1092, 1091, 51, 125), (1156, 1155, 67, 125), (1120, 1119, 58, 125), (1160, 1159, 68, 125), (1152, 1151, 66, 125), (1148, 1147, 65, 125), (1144, 1143, 64, 125), (1140, 1139, 63, 125), (1182, 1181, 73, 125), (1178, 1177, 72, 125), (1174, 1173, 71, 125), (1170, 1169, 70, 125), (1166, 1165, 69, 125), (1136, 1135, 62, 125), (1202, 1201, 78, 125), (1198, 1197, 77, 125), (1194, 1193, 76, 125), (1190, 1189, 75, 125), (1186, 1185, 74, 125), (1132, 1131, 61, 125), (1222, 1221, 83, 125), (1218, 1217, 82, 125), (1214, 1213, 81, 125), (1210, 1209, 80, 125), (1206, 1205, 79, 125), (1128, 1127, 60, 125), (1242, 1241, 88, 125), (1238, 1237, 87, 125), (1234, 1233, 86, 125), (1230, 1229, 85, 125), (1226, 1225, 84, 125), (1124, 1123, 59, 125), (1262, 1261, 93, 125), (1258, 1257, 92, 125), (1254, 1253, 91, 125), (1250, 1249, 90, 125), (1246, 1245, 89, 125), (1116, 1115, 57, 125), (1112, 1111, 56, 125), (1108, 1107, 55, 125), (1100, 1099, 53, 125), (1075, 1074, 48, 125), (1294, 1292, 1293, 125), (1298, 1296, 1297, 125), (1071, 1070, 47, 125), (1067, 1066, 46, 125), (1063, 1062, 45, 125), (1307, 1306, 97, 125), (1311, 1310, 98, 125), (1302, 1300, 1301, 125), (1059, 1058, 44, 125), (1273, 1272, 95, 125), (1269, 1268, 94, 125), (1324, 1323, 99, 125), (1315, 1313, 1314, 125), (1335, 1334, 100, 125), (1343, 1342, 102, 125), (1339, 1338, 101, 125), (1328, 1326, 1327, 125), (1347, 1345, 1346, 125), (1364, 1363, 0, 125), (1361, 1360, 104, 125), (1368, 1367, 105, 125), (1357, 1356, 103, 125), (1372, 1371, 106, 125), (1376, 1375, 107, 125), (1385, 1384, 109, 125), (1381, 1380, 108, 125), (1351, 1349, 1350, 125), (1389, 1387, 1388, 125), (1398, 1396, 1397, 125), (1406, 1405, 110, 125), (1410, 1409, 111, 125), (1402, 1400, 1401, 125), (1418, 1417, 112, 125), (1414, 1412, 1413, 125), (1427, 1426, 0, 125), (1422, 1420, 1421, 125), (1436, 1435, 113, 125), (1440, 1439, 114, 125), (1431, 1429, 1430, 125), (1444, 1442, 1443, 125), (1453, 1452, 115, 125), (1449, 1447, 1448, 125), (1458, 1456, 1457, 125), (1463, 1461, 1462, 125), (1467, 1465, 1466, 125), (1471, 1469, 1470, 125), (1331, 1330, 0, 125), (1393, 1391, 1392, 125), (1476, 1474, 1475, 125), (1480, 1478, 1479, 125), (1484, 1482, 1483, 125), (1492, 1491, 0, 125), (1489, 1487, 1488, 125), (404, 402, 403, 118), (767, 765, 766, 118), (392, 390, 391, 118), (396, 394, 395, 118), (687, 685, 686, 118), (884, 882, 883, 118), (430, 428, 429, 118), (454, 452, 453, 118), (475, 473, 474, 118), (484, 482, 483, 118), (704, 702, 703, 121), (709, 707, 708, 121), (715, 713, 714, 121), (719, 718, 26, 121), (501, 499, 500, 120), (602, 601, 17, 120), (610, 609, 18, 120), (634, 633, 0, 120), (614, 613, 19, 120), (618, 617, 20, 120), (626, 625, 21, 120), (753, 751, 752, 124), (759, 757, 758, 124), (671, 669, 670, 124), (675, 673, 674, 124), (493, 491, 492, 119), (643, 641, 642, 119), (606, 604, 605, 119), (638, 636, 637, 119), (630, 628, 629, 119), (506, 504, 505, 119), (517, 516, 13, 119), (595, 594, 16, 119), (524, 523, 14, 119), (529, 528, 15, 119), (510, 509, 12, 119), (513, 512, 0, 119), (520, 519, 0, 119), (591, 590, 0, 119), (598, 597, 0, 119), (308, 306, 307, 123), (312, 310, 311, 123), (622, 620, 621, 123), (316, 314, 315, 123), (419, 417, 418, 123), (423, 422, 5, 123), (438, 437, 7, 123), (426, 425, 0, 123), (434, 433, 6, 123), (441, 440, 0, 123), (726, 725, 0, 131), (533, 531, 532, 127), (543, 541, 542, 127)]
abbrev ab_mk (i : Nat) : Nat × Nat × Nat × Nat := ab_nth (0, 0, 0, 0) ab_mks i
/-- whether a method is static -/
def ab_mts : List Nat := [0, 0, 0, 0, 0, 0, 0, 0, 0, 0, 0, 0, 0, 0, 0, 0, 0, 0, 0, 0, 0, 0, 0, 0, 0, 0, 0, 0, 0, 1, 1, 1, 0, 1, 1, 1, 1, 1, 0, 0, 1, 0, 0, 0, 0, 0, 0, 0, 0, 0, 0, 0, 0, 0, 0, 0, 0, 0, 0, 0, 1, 0, 0, 0, 0, 1, 1, 0, 1, 1, 0, 1, 1, 0, 0, 0, 0, 0, 0, 0, 0, 0, 0, 0, 0, 0, 0, 0, 0, 0, 0, 0, 0, 0, 0, 0, 0, 0, 0, 0, 0, 0, 0, 0, 0, 0, 0, 0, 0, 0, 0, 0, 0, 0, 0, 0, 0, 0, 0, 0, 0, 0, 0, 0, 0, 0, 0, 0, 0, 0, 0, 0, 0, 0, 0, 0, 0, 0, 0, 0, 0, 0, 1, 0, 0, 0, 0, 0, 0, 0, 0, 0, 0, 0, 0, 0, 0, 0, 1, 0, 0, 0, 0, 0, 0, 0, 0, 0, 0, 0, 1, 0, 0, 0, 0, 1, 0, 0, 0, 0, 0, 0, 0, 0, 0, 0, 0, 0, 0, 0, 0, 0, 0, 0, 1, 0, 0, 0, 0, 0, 0, 0, 0, 0, 0, 0, 0, 0, 0, 0, 0, 0, 0, 1, 1, 1, 1, 0, 0, 0, 0, 0, 0, 0, 1, 0, 1, 1, 0, 0]
abbrev ab_mt (i : Nat) : Nat := ab_nth 0 ab_mts i
/-- the same of the members of Math and System -/
def ab_jks : List (Nat × Nat × Nat) := [(449, 450, 126), (446, 447, 126), (790, 791, 126), (845, 846, 132)]
abbrev ab_jk (i : Nat) : Nat × Nat × Nat := ab_nth (0, 0, 0) ab_jks i
