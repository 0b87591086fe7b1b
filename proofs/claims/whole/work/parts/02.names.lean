def RX0 : String := "MondayDeal$Bets"
def TX0 : u_T := fun k => match k with
  | 0 => ("MondayDeal$Bets", "days", "[I", true)
  | 1 => ("MondayDeal$Bets", "firsts", "[I", true)
  | 2 => ("MondayDeal$Bets", "prices", "[I", true)
  | 3 => ("MondayDeal$Bets", "size", "I", false)
  | _ => ("MondayDeal$Bets", "outcomes", "J", false)
def tyX0 : Nat → FieldType := fun k => match k with
  | 0 => .array .int
  | 1 => .array .int
  | 2 => .array .int
  | 3 => .int
  | _ => .long
abbrev wsX00 : List Cond := u_ws RX0 TX0 5
theorem nmX0 : ∀ a, a < 5 → ∀ b, b < 5 → a ≠ b → (TX0 a).2.1 ≠ (TX0 b).2.1 := by decide +kernel
theorem tyX0_ok : ∀ k, k < 5 → parseFieldDescriptor (TX0 k).2.2.1 = some (tyX0 k) := by decide +kernel
def RX1 : String := "MondayDeal$Facts"
def TX1 : u_T := fun k => match k with
  | 0 => ("MondayDeal$Facts", "earlier", "[I", true)
  | 1 => ("MondayDeal$Facts", "later", "[I", true)
  | _ => ("MondayDeal$Facts", "size", "I", false)
def tyX1 : Nat → FieldType := fun k => match k with
  | 0 => .array .int
  | 1 => .array .int
  | _ => .int
abbrev wsX10 : List Cond := u_ws RX1 TX1 3
theorem nmX1 : ∀ a, a < 3 → ∀ b, b < 3 → a ≠ b → (TX1 a).2.1 ≠ (TX1 b).2.1 := by decide +kernel
theorem tyX1_ok : ∀ k, k < 3 → parseFieldDescriptor (TX1 k).2.2.1 = some (tyX1 k) := by decide +kernel
def RX2 : String := "MondayDeal$Orders"
def TX2 : u_T := fun k => match k with
  | 0 => ("MondayDeal$Orders", "packed", "[I", true)
  | 1 => ("MondayDeal$Orders", "size", "I", false)
  | 2 => ("MondayDeal$Orders", "placed", "[[I", true)
  | _ => ("MondayDeal$Orders", "follows", "[[I", true)
def tyX2 : Nat → FieldType := fun k => match k with
  | 0 => .array .int
  | 1 => .int
  | 2 => .array (.array .int)
  | _ => .array (.array .int)
abbrev wsX20 : List Cond := u_ws RX2 TX2 4
theorem nmX2 : ∀ a, a < 4 → ∀ b, b < 4 → a ≠ b → (TX2 a).2.1 ≠ (TX2 b).2.1 := by decide +kernel
theorem tyX2_ok : ∀ k, k < 4 → parseFieldDescriptor (TX2 k).2.2.1 = some (tyX2 k) := by decide +kernel
def RX3 : String := "MondayDeal$Outlook"
def TX3 : u_T := fun k => match k with
  | 0 => ("MondayDeal$Outlook", "old", "[[J", true)
  | 1 => ("MondayDeal$Outlook", "made", "[[J", true)
  | 2 => ("MondayDeal$Outlook", "lastOld", "[I", true)
  | 3 => ("MondayDeal$Outlook", "placeOf", "[I", true)
  | 4 => ("MondayDeal$Outlook", "done", "[J", true)
  | 5 => ("MondayDeal$Outlook", "gain", "[I", true)
  | 6 => ("MondayDeal$Outlook", "times", "[[J", true)
  | 7 => ("MondayDeal$Outlook", "totals", "[I", true)
  | 8 => ("MondayDeal$Outlook", "most", "I", false)
  | 9 => ("MondayDeal$Outlook", "mostOrder", "I", false)
  | 10 => ("MondayDeal$Outlook", "least", "I", false)
  | _ => ("MondayDeal$Outlook", "leastOrder", "I", false)
def tyX3 : Nat → FieldType := fun k => match k with
  | 0 => .array (.array .long)
  | 1 => .array (.array .long)
  | 2 => .array .int
  | 3 => .array .int
  | 4 => .array .long
  | 5 => .array .int
  | 6 => .array (.array .long)
  | 7 => .array .int
  | 8 => .int
  | 9 => .int
  | 10 => .int
  | _ => .int
abbrev wsX30 : List Cond := u_ws RX3 TX3 12
theorem nmX3 : ∀ a, a < 12 → ∀ b, b < 12 → a ≠ b → (TX3 a).2.1 ≠ (TX3 b).2.1 := by decide +kernel
theorem tyX3_ok : ∀ k, k < 12 → parseFieldDescriptor (TX3 k).2.2.1 = some (tyX3 k) := by decide +kernel
def RX4 : String := "MondayDeal$Past"
def TX4 : u_T := fun k => match k with
  | 0 => ("MondayDeal$Past", "states", "[LMondayDeal$State;", true)
  | 1 => ("MondayDeal$Past", "newest", "I", false)
  | _ => ("MondayDeal$Past", "size", "I", false)
def tyX4 : Nat → FieldType := fun k => match k with
  | 0 => .array (.object "MondayDeal$State")
  | 1 => .int
  | _ => .int
abbrev wsX40 : List Cond := u_ws RX4 TX4 3
theorem nmX4 : ∀ a, a < 3 → ∀ b, b < 3 → a ≠ b → (TX4 a).2.1 ≠ (TX4 b).2.1 := by decide +kernel
theorem tyX4_ok : ∀ k, k < 3 → parseFieldDescriptor (TX4 k).2.2.1 = some (tyX4 k) := by decide +kernel
def RX5 : String := "MondayDeal$State"
def TX5 : u_T := fun k => match k with
  | 0 => ("MondayDeal$State", "age", "[I", true)
  | 1 => ("MondayDeal$State", "done", "[I", true)
  | 2 => ("MondayDeal$State", "earned", "I", false)
  | 3 => ("MondayDeal$State", "weeks", "I", false)
  | _ => ("MondayDeal$State", "recent", "[I", true)
def tyX5 : Nat → FieldType := fun k => match k with
  | 0 => .array .int
  | 1 => .array .int
  | 2 => .int
  | 3 => .int
  | _ => .array .int
abbrev wsX50 : List Cond := u_ws RX5 TX5 5
theorem nmX5 : ∀ a, a < 5 → ∀ b, b < 5 → a ≠ b → (TX5 a).2.1 ≠ (TX5 b).2.1 := by decide +kernel
theorem tyX5_ok : ∀ k, k < 5 → parseFieldDescriptor (TX5 k).2.2.1 = some (tyX5 k) := by decide +kernel
def RX6 : String := "MondayDeal$Text"
def TX6 : u_T := fun k => match k with
  | 0 => ("MondayDeal$Text", "letters", "[C", true)
  | 1 => ("MondayDeal$Text", "length", "I", false)
  | 2 => ("MondayDeal$Text", "clauses", "I", false)
  | 3 => ("MondayDeal$Text", "start", "I", false)
  | _ => ("MondayDeal$Text", "end", "I", false)
def tyX6 : Nat → FieldType := fun k => match k with
  | 0 => .array .char
  | 1 => .int
  | 2 => .int
  | 3 => .int
  | _ => .int
abbrev wsX60 : List Cond := u_ws RX6 TX6 5
theorem nmX6 : ∀ a, a < 5 → ∀ b, b < 5 → a ≠ b → (TX6 a).2.1 ≠ (TX6 b).2.1 := by decide +kernel
theorem tyX6_ok : ∀ k, k < 5 → parseFieldDescriptor (TX6 k).2.2.1 = some (tyX6 k) := by decide +kernel
def RX7 : String := "MondayDeal$Told"
def TX7 : u_T := fun k => match k with
  | 0 => ("MondayDeal$Told", "kinds", "[I", true)
  | 1 => ("MondayDeal$Told", "works", "I", false)
  | 2 => ("MondayDeal$Told", "workDay", "[I", true)
  | 3 => ("MondayDeal$Told", "worth", "[I", true)
  | 4 => ("MondayDeal$Told", "keeps", "[I", true)
  | 5 => ("MondayDeal$Told", "feast", "[I", true)
  | 6 => ("MondayDeal$Told", "behind", "[I", true)
  | 7 => ("MondayDeal$Told", "rules", "I", false)
  | 8 => ("MondayDeal$Told", "ruleForm", "[I", true)
  | 9 => ("MondayDeal$Told", "ruleDay", "[I", true)
  | _ => ("MondayDeal$Told", "ruleOther", "[I", true)
def tyX7 : Nat → FieldType := fun k => match k with
  | 0 => .array .int
  | 1 => .int
  | 2 => .array .int
  | 3 => .array .int
  | 4 => .array .int
  | 5 => .array .int
  | 6 => .array .int
  | 7 => .int
  | 8 => .array .int
  | 9 => .array .int
  | _ => .array .int
abbrev wsX70 : List Cond := u_ws RX7 TX7 11
theorem nmX7 : ∀ a, a < 11 → ∀ b, b < 11 → a ≠ b → (TX7 a).2.1 ≠ (TX7 b).2.1 := by decide +kernel
theorem tyX7_ok : ∀ k, k < 11 → parseFieldDescriptor (TX7 k).2.2.1 = some (tyX7 k) := by decide +kernel
def RX8 : String := "MondayDeal"
def TX8 : u_T := fun k => match k with
  | 0 => ("MondayDeal", "text", "LMondayDeal$Text;", true)
  | 1 => ("MondayDeal", "told", "LMondayDeal$Told;", true)
  | 2 => ("MondayDeal", "draft", "LMondayDeal$Told;", true)
  | 3 => ("MondayDeal", "rows", "LMondayDeal$Orders;", true)
  | 4 => ("MondayDeal", "outlook", "LMondayDeal$Outlook;", true)
  | 5 => ("MondayDeal", "now", "LMondayDeal$State;", true)
  | 6 => ("MondayDeal", "past", "LMondayDeal$Past;", true)
  | 7 => ("MondayDeal", "kept", "[LMondayDeal$State;", true)
  | 8 => ("MondayDeal", "isKept", "[Z", true)
  | 9 => ("MondayDeal", "bets", "LMondayDeal$Bets;", true)
  | 10 => ("MondayDeal", "facts", "LMondayDeal$Facts;", true)
  | 11 => ("MondayDeal", "rowsStand", "Z", false)
  | _ => ("MondayDeal", "outlookStands", "Z", false)
def tyX8 : Nat → FieldType := fun k => match k with
  | 0 => .object "MondayDeal$Text"
  | 1 => .object "MondayDeal$Told"
  | 2 => .object "MondayDeal$Told"
  | 3 => .object "MondayDeal$Orders"
  | 4 => .object "MondayDeal$Outlook"
  | 5 => .object "MondayDeal$State"
  | 6 => .object "MondayDeal$Past"
  | 7 => .array (.object "MondayDeal$State")
  | 8 => .array .boolean
  | 9 => .object "MondayDeal$Bets"
  | 10 => .object "MondayDeal$Facts"
  | 11 => .boolean
  | _ => .boolean
abbrev wsX80 : List Cond := u_ws RX8 TX8 13
theorem nmX8 : ∀ a, a < 13 → ∀ b, b < 13 → a ≠ b → (TX8 a).2.1 ≠ (TX8 b).2.1 := by decide +kernel
theorem tyX8_ok : ∀ k, k < 13 → parseFieldDescriptor (TX8 k).2.2.1 = some (tyX8 k) := by decide +kernel
def RX9 : String := "MondayDealModel"
def TX9 : u_T := fun k => match k with
  | 0 => ("MondayDealModel", "row", "[I", true)
  | 1 => ("MondayDealModel", "pastMany", "I", false)
  | 2 => ("MondayDealModel", "isKept", "[Z", true)
  | 3 => ("MondayDealModel", "text", "[I", true)
  | 4 => ("MondayDealModel", "length", "I", false)
  | 5 => ("MondayDealModel", "read", "[I", true)
  | 6 => ("MondayDealModel", "readMany", "I", false)
  | 7 => ("MondayDealModel", "kinds", "[I", true)
  | 8 => ("MondayDealModel", "works", "I", false)
  | 9 => ("MondayDealModel", "days", "[I", true)
  | 10 => ("MondayDealModel", "worths", "[I", true)
  | 11 => ("MondayDealModel", "keeps", "[I", true)
  | 12 => ("MondayDealModel", "feasts", "[I", true)
  | 13 => ("MondayDealModel", "behinds", "[I", true)
  | 14 => ("MondayDealModel", "rules", "I", false)
  | 15 => ("MondayDealModel", "ruled", "[I", true)
  | 16 => ("MondayDealModel", "orders", "[I", true)
  | 17 => ("MondayDealModel", "orderMany", "I", false)
  | 18 => ("MondayDealModel", "at", "I", false)
  | 19 => ("MondayDealModel", "place", "I", false)
  | 20 => ("MondayDealModel", "end", "I", false)
  | 21 => ("MondayDealModel", "readWorks", "I", false)
  | 22 => ("MondayDealModel", "readRules", "I", false)
  | 23 => ("MondayDealModel", "bets", "[I", true)
  | 24 => ("MondayDealModel", "betMany", "I", false)
  | 25 => ("MondayDealModel", "told", "[I", true)
  | _ => ("MondayDealModel", "knownMany", "I", false)
def tyX9 : Nat → FieldType := fun k => match k with
  | 0 => .array .int
  | 1 => .int
  | 2 => .array .boolean
  | 3 => .array .int
  | 4 => .int
  | 5 => .array .int
  | 6 => .int
  | 7 => .array .int
  | 8 => .int
  | 9 => .array .int
  | 10 => .array .int
  | 11 => .array .int
  | 12 => .array .int
  | 13 => .array .int
  | 14 => .int
  | 15 => .array .int
  | 16 => .array .int
  | 17 => .int
  | 18 => .int
  | 19 => .int
  | 20 => .int
  | 21 => .int
  | 22 => .int
  | 23 => .array .int
  | 24 => .int
  | 25 => .array .int
  | _ => .int
abbrev wsX90 : List Cond := u_ws RX9 TX9 27
theorem nmX9 : ∀ a, a < 27 → ∀ b, b < 27 → a ≠ b → (TX9 a).2.1 ≠ (TX9 b).2.1 := by decide +kernel
theorem tyX9_ok : ∀ k, k < 27 → parseFieldDescriptor (TX9 k).2.2.1 = some (tyX9 k) := by decide +kernel
abbrev mcl : List vw_C := [(RX0, TX0, 5), (RX1, TX1, 3), (RX2, TX2, 4), (RX3, TX3, 12), (RX4, TX4, 3), (RX5, TX5, 5), (RX6, TX6, 5), (RX7, TX7, 11), (RX8, TX8, 13), (RX9, TX9, 27)]
def mty (ci : Nat) : Nat → FieldType := match ci with
  | 0 => tyX0
  | 1 => tyX1
  | 2 => tyX2
  | 3 => tyX3
  | 4 => tyX4
  | 5 => tyX5
  | 6 => tyX6
  | 7 => tyX7
  | 8 => tyX8
  | _ => tyX9
/-- the tables' words that stay good -/
def mg : List Cond := lw_tbl.filter goodWord
theorem mg_in {w : Cond} (h : w ∈ tables_1) (g : goodWord w = true) : w ∈ mg := List.mem_filter.mpr ⟨List.mem_append_right _ h, g⟩
theorem mg_sel {w : Cond} (h : w ∈ k2_sels lw_privs) (g : goodWord w = true) : w ∈ mg := List.mem_filter.mpr ⟨List.mem_append_left _ h, g⟩
theorem mg_tb {w : Cond} (h : w ∈ mg) : w ∈ lw_tbl := (List.mem_filter.mp h).1
theorem tb1 {w : Cond} {i : Nat} (h : tables_1_1[i]? = some w) : w ∈ tables_1 := List.mem_append_left _ (List.mem_of_getElem? h)
theorem tb2 {w : Cond} {i : Nat} (h : tables_1_2[i]? = some w) : w ∈ tables_1 := List.mem_append_right _ (List.mem_append_left _ (List.mem_of_getElem? h))
theorem tb3 {w : Cond} {i : Nat} (h : tables_1_3[i]? = some w) : w ∈ tables_1 := List.mem_append_right _ (List.mem_append_right _ (List.mem_append_left _ (List.mem_of_getElem? h)))
theorem tb4 {w : Cond} {i : Nat} (h : tables_1_4[i]? = some w) : w ∈ tables_1 := List.mem_append_right _ (List.mem_append_right _ (List.mem_append_right _ (List.mem_append_left _ (List.mem_of_getElem? h))))
theorem tb5 {w : Cond} {i : Nat} (h : tables_1_5[i]? = some w) : w ∈ tables_1 := List.mem_append_right _ (List.mem_append_right _ (List.mem_append_right _ (List.mem_append_right _ (List.mem_append_left _ (List.mem_of_getElem? h)))))
theorem tb6 {w : Cond} {i : Nat} (h : tables_1_6[i]? = some w) : w ∈ tables_1 := List.mem_append_right _ (List.mem_append_right _ (List.mem_append_right _ (List.mem_append_right _ (List.mem_append_right _ (List.mem_of_getElem? h)))))
theorem wcX0 : ∀ w ∈ wsX00, w ∈ mg := by
  have h : (wsX00).all (fun w => decide (w ∈ tables_1) && goodWord w) = true := by decide +kernel
  intro w hw
  have h1 := List.all_eq_true.mp h w hw
  simp only [Bool.and_eq_true, decide_eq_true_eq] at h1
  exact mg_in h1.1 h1.2
theorem wcX1 : ∀ w ∈ wsX10, w ∈ mg := by
  have h : (wsX10).all (fun w => decide (w ∈ tables_1) && goodWord w) = true := by decide +kernel
  intro w hw
  have h1 := List.all_eq_true.mp h w hw
  simp only [Bool.and_eq_true, decide_eq_true_eq] at h1
  exact mg_in h1.1 h1.2
theorem wcX2 : ∀ w ∈ wsX20, w ∈ mg := by
  have h : (wsX20).all (fun w => decide (w ∈ tables_1) && goodWord w) = true := by decide +kernel
  intro w hw
  have h1 := List.all_eq_true.mp h w hw
  simp only [Bool.and_eq_true, decide_eq_true_eq] at h1
  exact mg_in h1.1 h1.2
theorem wcX3 : ∀ w ∈ wsX30, w ∈ mg := by
  have h : (wsX30).all (fun w => decide (w ∈ tables_1) && goodWord w) = true := by decide +kernel
  intro w hw
  have h1 := List.all_eq_true.mp h w hw
  simp only [Bool.and_eq_true, decide_eq_true_eq] at h1
  exact mg_in h1.1 h1.2
theorem wcX4 : ∀ w ∈ wsX40, w ∈ mg := by
  have h : (wsX40).all (fun w => decide (w ∈ tables_1) && goodWord w) = true := by decide +kernel
  intro w hw
  have h1 := List.all_eq_true.mp h w hw
  simp only [Bool.and_eq_true, decide_eq_true_eq] at h1
  exact mg_in h1.1 h1.2
theorem wcX5 : ∀ w ∈ wsX50, w ∈ mg := by
  have h : (wsX50).all (fun w => decide (w ∈ tables_1) && goodWord w) = true := by decide +kernel
  intro w hw
  have h1 := List.all_eq_true.mp h w hw
  simp only [Bool.and_eq_true, decide_eq_true_eq] at h1
  exact mg_in h1.1 h1.2
theorem wcX6 : ∀ w ∈ wsX60, w ∈ mg := by
  have h : (wsX60).all (fun w => decide (w ∈ tables_1) && goodWord w) = true := by decide +kernel
  intro w hw
  have h1 := List.all_eq_true.mp h w hw
  simp only [Bool.and_eq_true, decide_eq_true_eq] at h1
  exact mg_in h1.1 h1.2
theorem wcX7 : ∀ w ∈ wsX70, w ∈ mg := by
  have h : (wsX70).all (fun w => decide (w ∈ tables_1) && goodWord w) = true := by decide +kernel
  intro w hw
  have h1 := List.all_eq_true.mp h w hw
  simp only [Bool.and_eq_true, decide_eq_true_eq] at h1
  exact mg_in h1.1 h1.2
theorem wcX8 : ∀ w ∈ wsX80, w ∈ mg := by
  have h : (wsX80).all (fun w => decide (w ∈ tables_1) && goodWord w) = true := by decide +kernel
  intro w hw
  have h1 := List.all_eq_true.mp h w hw
  simp only [Bool.and_eq_true, decide_eq_true_eq] at h1
  exact mg_in h1.1 h1.2
theorem wcX9 : ∀ w ∈ wsX90, w ∈ mg := by
  have h : (wsX90).all (fun w => decide (w ∈ tables_1) && goodWord w) = true := by decide +kernel
  intro w hw
  have h1 := List.all_eq_true.mp h w hw
  simp only [Bool.and_eq_true, decide_eq_true_eq] at h1
  exact mg_in h1.1 h1.2
