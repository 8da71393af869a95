def RX0 : String := "QueryRunner"
def TX0 : u_T := fun k => match k with
  | 0 => ("QueryRunner", "tables", "LQueryRunner$Tables;", true)
  | 1 => ("QueryRunner", "expressions", "LQueryRunner$Expressions;", true)
  | 2 => ("QueryRunner", "query", "LQueryRunner$Query;", true)
  | 3 => ("QueryRunner", "answer", "LQueryRunner$Answer;", true)
  | _ => ("QueryRunner", "runner", "LQueryRunner$Runner;", true)
def tyX0 : Nat → FieldType := fun k => match k with
  | 0 => .object "QueryRunner$Tables"
  | 1 => .object "QueryRunner$Expressions"
  | 2 => .object "QueryRunner$Query"
  | 3 => .object "QueryRunner$Answer"
  | _ => .object "QueryRunner$Runner"
theorem nX0 : ∀ a, a < 5 → ∀ b, b < 5 → a ≠ b → (TX0 a).2.1 ≠ (TX0 b).2.1 := by decide +kernel
theorem tyX0_ok : ∀ k, k < 5 → parseFieldDescriptor (TX0 k).2.2.1 = some (tyX0 k) := by decide +kernel
set_option maxRecDepth 20000 in
theorem inX0 : ∀ w ∈ u_ws RX0 TX0 5, w ∈ BIG := by decide +kernel
def RX1 : String := "QueryRunnerModel"
def TX1 : u_T := fun k => match k with
  | 0 => ("QueryRunnerModel", "tables", "I", false)
  | 1 => ("QueryRunnerModel", "widths", "[I", true)
  | 2 => ("QueryRunnerModel", "heights", "[I", true)
  | 3 => ("QueryRunnerModel", "cells", "[J", true)
  | 4 => ("QueryRunnerModel", "empties", "[Z", true)
  | 5 => ("QueryRunnerModel", "expressions", "I", false)
  | 6 => ("QueryRunnerModel", "kinds", "[I", true)
  | 7 => ("QueryRunnerModel", "firsts", "[I", true)
  | 8 => ("QueryRunnerModel", "seconds", "[I", true)
  | 9 => ("QueryRunnerModel", "numbers", "[J", true)
  | 10 => ("QueryRunnerModel", "flags", "[Z", true)
  | 11 => ("QueryRunnerModel", "sizes", "[I", true)
  | 12 => ("QueryRunnerModel", "withAggregate", "[Z", true)
  | 13 => ("QueryRunnerModel", "likes", "[I", true)
  | 14 => ("QueryRunnerModel", "aggregates", "I", false)
  | 15 => ("QueryRunnerModel", "aggregateAt", "[I", true)
  | 16 => ("QueryRunnerModel", "sources", "I", false)
  | 17 => ("QueryRunnerModel", "sourceTable", "[I", true)
  | 18 => ("QueryRunnerModel", "sourceHow", "[I", true)
  | 19 => ("QueryRunnerModel", "sourceOn", "[I", true)
  | 20 => ("QueryRunnerModel", "where", "I", false)
  | 21 => ("QueryRunnerModel", "having", "I", false)
  | 22 => ("QueryRunnerModel", "groups", "I", false)
  | 23 => ("QueryRunnerModel", "groupAt", "[I", true)
  | 24 => ("QueryRunnerModel", "items", "I", false)
  | 25 => ("QueryRunnerModel", "itemAt", "[I", true)
  | 26 => ("QueryRunnerModel", "orders", "I", false)
  | 27 => ("QueryRunnerModel", "orderItem", "[I", true)
  | 28 => ("QueryRunnerModel", "orderDown", "[Z", true)
  | 29 => ("QueryRunnerModel", "distinct", "Z", false)
  | 30 => ("QueryRunnerModel", "keep", "I", false)
  | 31 => ("QueryRunnerModel", "skip", "I", false)
  | 32 => ("QueryRunnerModel", "answers", "I", false)
  | 33 => ("QueryRunnerModel", "answerItems", "I", false)
  | 34 => ("QueryRunnerModel", "answer", "[J", true)
  | 35 => ("QueryRunnerModel", "answerNull", "[Z", true)
  | 36 => ("QueryRunnerModel", "wrong", "I", false)
  | 37 => ("QueryRunnerModel", "grouped", "Z", false)
  | 38 => ("QueryRunnerModel", "rows", "[I", true)
  | 39 => ("QueryRunnerModel", "together", "I", false)
  | 40 => ("QueryRunnerModel", "groupOf", "[I", true)
  | 41 => ("QueryRunnerModel", "argument", "[J", true)
  | 42 => ("QueryRunnerModel", "argumentNull", "[Z", true)
  | 43 => ("QueryRunnerModel", "groupCount", "I", false)
  | 44 => ("QueryRunnerModel", "groupValue", "[J", true)
  | 45 => ("QueryRunnerModel", "groupNull", "[Z", true)
  | 46 => ("QueryRunnerModel", "sums", "[J", true)
  | 47 => ("QueryRunnerModel", "asked", "[Z", true)
  | 48 => ("QueryRunnerModel", "groupNow", "I", false)
  | 49 => ("QueryRunnerModel", "open", "I", false)
  | 50 => ("QueryRunnerModel", "openAt", "[I", true)
  | 51 => ("QueryRunnerModel", "openState", "[I", true)
  | 52 => ("QueryRunnerModel", "top", "I", false)
  | 53 => ("QueryRunnerModel", "value", "[J", true)
  | _ => ("QueryRunnerModel", "isNone", "[Z", true)
def tyX1 : Nat → FieldType := fun k => match k with
  | 0 => .int
  | 1 => .array .int
  | 2 => .array .int
  | 3 => .array .long
  | 4 => .array .boolean
  | 5 => .int
  | 6 => .array .int
  | 7 => .array .int
  | 8 => .array .int
  | 9 => .array .long
  | 10 => .array .boolean
  | 11 => .array .int
  | 12 => .array .boolean
  | 13 => .array .int
  | 14 => .int
  | 15 => .array .int
  | 16 => .int
  | 17 => .array .int
  | 18 => .array .int
  | 19 => .array .int
  | 20 => .int
  | 21 => .int
  | 22 => .int
  | 23 => .array .int
  | 24 => .int
  | 25 => .array .int
  | 26 => .int
  | 27 => .array .int
  | 28 => .array .boolean
  | 29 => .boolean
  | 30 => .int
  | 31 => .int
  | 32 => .int
  | 33 => .int
  | 34 => .array .long
  | 35 => .array .boolean
  | 36 => .int
  | 37 => .boolean
  | 38 => .array .int
  | 39 => .int
  | 40 => .array .int
  | 41 => .array .long
  | 42 => .array .boolean
  | 43 => .int
  | 44 => .array .long
  | 45 => .array .boolean
  | 46 => .array .long
  | 47 => .array .boolean
  | 48 => .int
  | 49 => .int
  | 50 => .array .int
  | 51 => .array .int
  | 52 => .int
  | 53 => .array .long
  | _ => .array .boolean
theorem nX1 : ∀ a, a < 55 → ∀ b, b < 55 → a ≠ b → (TX1 a).2.1 ≠ (TX1 b).2.1 := by decide +kernel
theorem tyX1_ok : ∀ k, k < 55 → parseFieldDescriptor (TX1 k).2.2.1 = some (tyX1 k) := by decide +kernel
set_option maxRecDepth 20000 in
theorem inX1 : ∀ w ∈ u_ws RX1 TX1 55, w ∈ BIG := by decide +kernel
def RX2 : String := "QueryRunner$Answer"
def TX2 : u_T := fun k => match k with
  | 0 => ("QueryRunner$Answer", "items", "I", false)
  | 1 => ("QueryRunner$Answer", "shown", "I", false)
  | 2 => ("QueryRunner$Answer", "rows", "I", false)
  | 3 => ("QueryRunner$Answer", "start", "I", false)
  | 4 => ("QueryRunner$Answer", "numbers", "[J", true)
  | 5 => ("QueryRunner$Answer", "nullBits", "[I", true)
  | _ => ("QueryRunner$Answer", "places", "[I", true)
def tyX2 : Nat → FieldType := fun k => match k with
  | 0 => .int
  | 1 => .int
  | 2 => .int
  | 3 => .int
  | 4 => .array .long
  | 5 => .array .int
  | _ => .array .int
theorem nX2 : ∀ a, a < 7 → ∀ b, b < 7 → a ≠ b → (TX2 a).2.1 ≠ (TX2 b).2.1 := by decide +kernel
theorem tyX2_ok : ∀ k, k < 7 → parseFieldDescriptor (TX2 k).2.2.1 = some (tyX2 k) := by decide +kernel
set_option maxRecDepth 20000 in
theorem inX2 : ∀ w ∈ u_ws RX2 TX2 7, w ∈ BIG := by decide +kernel
def RX3 : String := "QueryRunner$Checker"
def TX3 : u_T := fun k => match k with
  | 0 => ("QueryRunner$Checker", "tables", "LQueryRunner$Tables;", true)
  | 1 => ("QueryRunner$Checker", "expressions", "LQueryRunner$Expressions;", true)
  | 2 => ("QueryRunner$Checker", "query", "LQueryRunner$Query;", true)
  | _ => ("QueryRunner$Checker", "loose", "[Z", true)
def tyX3 : Nat → FieldType := fun k => match k with
  | 0 => .object "QueryRunner$Tables"
  | 1 => .object "QueryRunner$Expressions"
  | 2 => .object "QueryRunner$Query"
  | _ => .array .boolean
theorem nX3 : ∀ a, a < 4 → ∀ b, b < 4 → a ≠ b → (TX3 a).2.1 ≠ (TX3 b).2.1 := by decide +kernel
theorem tyX3_ok : ∀ k, k < 4 → parseFieldDescriptor (TX3 k).2.2.1 = some (tyX3 k) := by decide +kernel
set_option maxRecDepth 20000 in
theorem inX3 : ∀ w ∈ u_ws RX3 TX3 4, w ∈ BIG := by decide +kernel
def RX4 : String := "QueryRunner$Evaluator"
def TX4 : u_T := fun k => match k with
  | 0 => ("QueryRunner$Evaluator", "tables", "LQueryRunner$Tables;", true)
  | 1 => ("QueryRunner$Evaluator", "expressions", "LQueryRunner$Expressions;", true)
  | 2 => ("QueryRunner$Evaluator", "query", "LQueryRunner$Query;", true)
  | 3 => ("QueryRunner$Evaluator", "at", "[I", true)
  | 4 => ("QueryRunner$Evaluator", "groups", "LQueryRunner$Groups;", false)
  | 5 => ("QueryRunner$Evaluator", "number", "J", false)
  | _ => ("QueryRunner$Evaluator", "left", "J", false)
def tyX4 : Nat → FieldType := fun k => match k with
  | 0 => .object "QueryRunner$Tables"
  | 1 => .object "QueryRunner$Expressions"
  | 2 => .object "QueryRunner$Query"
  | 3 => .array .int
  | 4 => .object "QueryRunner$Groups"
  | 5 => .long
  | _ => .long
theorem nX4 : ∀ a, a < 7 → ∀ b, b < 7 → a ≠ b → (TX4 a).2.1 ≠ (TX4 b).2.1 := by decide +kernel
theorem tyX4_ok : ∀ k, k < 7 → parseFieldDescriptor (TX4 k).2.2.1 = some (tyX4 k) := by decide +kernel
set_option maxRecDepth 20000 in
theorem inX4 : ∀ w ∈ u_ws RX4 TX4 7, w ∈ BIG := by decide +kernel
def RX5 : String := "QueryRunner$Expressions"
def TX5 : u_T := fun k => match k with
  | 0 => ("QueryRunner$Expressions", "count", "I", false)
  | 1 => ("QueryRunner$Expressions", "aggregateCount", "I", false)
  | 2 => ("QueryRunner$Expressions", "kind", "[I", true)
  | 3 => ("QueryRunner$Expressions", "detail", "[J", true)
  | 4 => ("QueryRunner$Expressions", "first", "[I", true)
  | 5 => ("QueryRunner$Expressions", "second", "[I", true)
  | 6 => ("QueryRunner$Expressions", "parts", "[I", true)
  | 7 => ("QueryRunner$Expressions", "like", "[I", true)
  | 8 => ("QueryRunner$Expressions", "columnBits", "[I", true)
  | 9 => ("QueryRunner$Expressions", "aggregateBits", "[I", true)
  | 10 => ("QueryRunner$Expressions", "aggregateKind", "[I", true)
  | 11 => ("QueryRunner$Expressions", "aggregateOf", "[I", true)
  | _ => ("QueryRunner$Expressions", "aggregateDistinct", "[Z", true)
def tyX5 : Nat → FieldType := fun k => match k with
  | 0 => .int
  | 1 => .int
  | 2 => .array .int
  | 3 => .array .long
  | 4 => .array .int
  | 5 => .array .int
  | 6 => .array .int
  | 7 => .array .int
  | 8 => .array .int
  | 9 => .array .int
  | 10 => .array .int
  | 11 => .array .int
  | _ => .array .boolean
theorem nX5 : ∀ a, a < 13 → ∀ b, b < 13 → a ≠ b → (TX5 a).2.1 ≠ (TX5 b).2.1 := by decide +kernel
theorem tyX5_ok : ∀ k, k < 13 → parseFieldDescriptor (TX5 k).2.2.1 = some (tyX5 k) := by decide +kernel
set_option maxRecDepth 20000 in
theorem inX5 : ∀ w ∈ u_ws RX5 TX5 13, w ∈ BIG := by decide +kernel
def RX6 : String := "QueryRunner$Groups"
def TX6 : u_T := fun k => match k with
  | 0 => ("QueryRunner$Groups", "expressions", "LQueryRunner$Expressions;", true)
  | 1 => ("QueryRunner$Groups", "groupCount", "I", false)
  | 2 => ("QueryRunner$Groups", "rowCount", "I", false)
  | 3 => ("QueryRunner$Groups", "keys", "[J", true)
  | 4 => ("QueryRunner$Groups", "keyNullBits", "[I", true)
  | 5 => ("QueryRunner$Groups", "firstRow", "[I", true)
  | 6 => ("QueryRunner$Groups", "lastRow", "[I", true)
  | 7 => ("QueryRunner$Groups", "nextRow", "[I", true)
  | 8 => ("QueryRunner$Groups", "rowAt", "[I", true)
  | 9 => ("QueryRunner$Groups", "numbers", "[J", true)
  | 10 => ("QueryRunner$Groups", "countedBits", "[I", true)
  | 11 => ("QueryRunner$Groups", "counts", "[I", true)
  | 12 => ("QueryRunner$Groups", "totals", "[J", true)
  | _ => ("QueryRunner$Groups", "current", "I", false)
def tyX6 : Nat → FieldType := fun k => match k with
  | 0 => .object "QueryRunner$Expressions"
  | 1 => .int
  | 2 => .int
  | 3 => .array .long
  | 4 => .array .int
  | 5 => .array .int
  | 6 => .array .int
  | 7 => .array .int
  | 8 => .array .int
  | 9 => .array .long
  | 10 => .array .int
  | 11 => .array .int
  | 12 => .array .long
  | _ => .int
theorem nX6 : ∀ a, a < 14 → ∀ b, b < 14 → a ≠ b → (TX6 a).2.1 ≠ (TX6 b).2.1 := by decide +kernel
theorem tyX6_ok : ∀ k, k < 14 → parseFieldDescriptor (TX6 k).2.2.1 = some (tyX6 k) := by decide +kernel
set_option maxRecDepth 20000 in
theorem inX6 : ∀ w ∈ u_ws RX6 TX6 14, w ∈ BIG := by decide +kernel
def RX7 : String := "QueryRunner$Query"
def TX7 : u_T := fun k => match k with
  | 0 => ("QueryRunner$Query", "sourceCount", "I", false)
  | 1 => ("QueryRunner$Query", "sourceTable", "[I", true)
  | 2 => ("QueryRunner$Query", "how", "[I", true)
  | 3 => ("QueryRunner$Query", "on", "[I", true)
  | 4 => ("QueryRunner$Query", "where", "I", false)
  | 5 => ("QueryRunner$Query", "having", "I", false)
  | 6 => ("QueryRunner$Query", "groupCount", "I", false)
  | 7 => ("QueryRunner$Query", "groups", "[I", true)
  | 8 => ("QueryRunner$Query", "itemCount", "I", false)
  | 9 => ("QueryRunner$Query", "items", "[I", true)
  | 10 => ("QueryRunner$Query", "orderCount", "I", false)
  | 11 => ("QueryRunner$Query", "orderItem", "[I", true)
  | 12 => ("QueryRunner$Query", "orderDown", "[Z", true)
  | 13 => ("QueryRunner$Query", "distinct", "Z", false)
  | 14 => ("QueryRunner$Query", "keep", "I", false)
  | _ => ("QueryRunner$Query", "skip", "I", false)
def tyX7 : Nat → FieldType := fun k => match k with
  | 0 => .int
  | 1 => .array .int
  | 2 => .array .int
  | 3 => .array .int
  | 4 => .int
  | 5 => .int
  | 6 => .int
  | 7 => .array .int
  | 8 => .int
  | 9 => .array .int
  | 10 => .int
  | 11 => .array .int
  | 12 => .array .boolean
  | 13 => .boolean
  | 14 => .int
  | _ => .int
theorem nX7 : ∀ a, a < 16 → ∀ b, b < 16 → a ≠ b → (TX7 a).2.1 ≠ (TX7 b).2.1 := by decide +kernel
theorem tyX7_ok : ∀ k, k < 16 → parseFieldDescriptor (TX7 k).2.2.1 = some (tyX7 k) := by decide +kernel
set_option maxRecDepth 20000 in
theorem inX7 : ∀ w ∈ u_ws RX7 TX7 16, w ∈ BIG := by decide +kernel
def RX8 : String := "QueryRunner$Runner"
def TX8 : u_T := fun k => match k with
  | 0 => ("QueryRunner$Runner", "tables", "LQueryRunner$Tables;", true)
  | 1 => ("QueryRunner$Runner", "expressions", "LQueryRunner$Expressions;", true)
  | 2 => ("QueryRunner$Runner", "query", "LQueryRunner$Query;", true)
  | 3 => ("QueryRunner$Runner", "answer", "LQueryRunner$Answer;", true)
  | 4 => ("QueryRunner$Runner", "checker", "LQueryRunner$Checker;", true)
  | 5 => ("QueryRunner$Runner", "evaluator", "LQueryRunner$Evaluator;", true)
  | 6 => ("QueryRunner$Runner", "isGrouped", "Z", false)
  | _ => ("QueryRunner$Runner", "usedAggregates", "I", false)
def tyX8 : Nat → FieldType := fun k => match k with
  | 0 => .object "QueryRunner$Tables"
  | 1 => .object "QueryRunner$Expressions"
  | 2 => .object "QueryRunner$Query"
  | 3 => .object "QueryRunner$Answer"
  | 4 => .object "QueryRunner$Checker"
  | 5 => .object "QueryRunner$Evaluator"
  | 6 => .boolean
  | _ => .int
theorem nX8 : ∀ a, a < 8 → ∀ b, b < 8 → a ≠ b → (TX8 a).2.1 ≠ (TX8 b).2.1 := by decide +kernel
theorem tyX8_ok : ∀ k, k < 8 → parseFieldDescriptor (TX8 k).2.2.1 = some (tyX8 k) := by decide +kernel
set_option maxRecDepth 20000 in
theorem inX8 : ∀ w ∈ u_ws RX8 TX8 8, w ∈ BIG := by decide +kernel
def RX9 : String := "QueryRunner$Tables"
def TX9 : u_T := fun k => match k with
  | 0 => ("QueryRunner$Tables", "count", "I", false)
  | 1 => ("QueryRunner$Tables", "columns", "[I", true)
  | 2 => ("QueryRunner$Tables", "rows", "[I", true)
  | 3 => ("QueryRunner$Tables", "numbers", "[J", true)
  | _ => ("QueryRunner$Tables", "nullBits", "[I", true)
def tyX9 : Nat → FieldType := fun k => match k with
  | 0 => .int
  | 1 => .array .int
  | 2 => .array .int
  | 3 => .array .long
  | _ => .array .int
theorem nX9 : ∀ a, a < 5 → ∀ b, b < 5 → a ≠ b → (TX9 a).2.1 ≠ (TX9 b).2.1 := by decide +kernel
theorem tyX9_ok : ∀ k, k < 5 → parseFieldDescriptor (TX9 k).2.2.1 = some (tyX9 k) := by decide +kernel
set_option maxRecDepth 20000 in
theorem inX9 : ∀ w ∈ u_ws RX9 TX9 5, w ∈ BIG := by decide +kernel
abbrev vCl : List vw_C := [(RX0, TX0, 5), (RX1, TX1, 55), (RX2, TX2, 7), (RX3, TX3, 4), (RX4, TX4, 7), (RX5, TX5, 13), (RX6, TX6, 14), (RX7, TX7, 16), (RX8, TX8, 8), (RX9, TX9, 5)]
def rm_T_addTable : Room := { frames := 0, cells := 0, slots := 0, locals := 0 }
def rm_Q_table : Room := { frames := 1, cells := 0, slots := 0, locals := 21 }
def rm_T_has : Room := { frames := 0, cells := 0, slots := 0, locals := 0 }
def rm_T_addRow : Room := { frames := 1, cells := 0, slots := 0, locals := 80 }
def rm_Q_isOutside : Room := { frames := 0, cells := 0, slots := 0, locals := 0 }
def rm_Q_insert : Room := { frames := 2, cells := 1, slots := 4, locals := 104 }
def rm_E_clear : Room := { frames := 0, cells := 0, slots := 0, locals := 0 }
def rm_Y_setShape : Room := { frames := 0, cells := 0, slots := 0, locals := 0 }
def rm_Y_clear : Room := { frames := 1, cells := 0, slots := 0, locals := 23 }
def rm_Q_fresh : Room := { frames := 2, cells := 0, slots := 0, locals := 43 }
def rm_E_has : Room := { frames := 0, cells := 0, slots := 0, locals := 0 }
def rm_E_partsOf : Room := { frames := 1, cells := 0, slots := 0, locals := 21 }
def rm_E_hasRoom : Room := { frames := 2, cells := 0, slots := 0, locals := 42 }
def rm_E_likeOf : Room := { frames := 1, cells := 0, slots := 0, locals := 21 }
def rm_E_firstLike : Room := { frames := 2, cells := 0, slots := 0, locals := 42 }
def rm_E_bitsOf : Room := { frames := 1, cells := 0, slots := 0, locals := 21 }
def rm_E_bitsOf_1 : Room := { frames := 1, cells := 0, slots := 0, locals := 21 }
def rm_E_add : Room := { frames := 3, cells := 0, slots := 0, locals := 64 }
def rm_Q_constant : Room := { frames := 4, cells := 0, slots := 0, locals := 90 }
def rm_Q_column : Room := { frames := 4, cells := 0, slots := 0, locals := 90 }
def rm_E_isTruth : Room := { frames := 0, cells := 0, slots := 0, locals := 0 }
def rm_Q_op : Room := { frames := 4, cells := 0, slots := 0, locals := 90 }
def rm_E_addAggregate : Room := { frames := 4, cells := 0, slots := 0, locals := 90 }
def rm_Q_aggregate : Room := { frames := 5, cells := 0, slots := 0, locals := 114 }
def rm_Y_addSource : Room := { frames := 0, cells := 0, slots := 0, locals := 0 }
def rm_Q_source : Room := { frames := 1, cells := 0, slots := 0, locals := 23 }
def rm_Q_condition : Room := { frames := 1, cells := 0, slots := 0, locals := 21 }
def rm_Y_addGroup : Room := { frames := 0, cells := 0, slots := 0, locals := 0 }
def rm_Q_group : Room := { frames := 1, cells := 0, slots := 0, locals := 21 }
def rm_Y_addItem : Room := { frames := 0, cells := 0, slots := 0, locals := 0 }
def rm_Q_item : Room := { frames := 1, cells := 0, slots := 0, locals := 21 }
def rm_Y_addOrder : Room := { frames := 0, cells := 0, slots := 0, locals := 0 }
def rm_Q_order : Room := { frames := 1, cells := 0, slots := 0, locals := 22 }
def rm_Q_shape : Room := { frames := 1, cells := 0, slots := 0, locals := 23 }
def rm_A_clear : Room := { frames := 0, cells := 0, slots := 0, locals := 0 }
def rm_C_bitsAt : Room := { frames := 1, cells := 0, slots := 0, locals := 21 }
def rm_C_bitsIn : Room := { frames := 2, cells := 0, slots := 0, locals := 43 }
def rm_C_bitsIn_1 : Room := { frames := 2, cells := 0, slots := 0, locals := 43 }
def rm_C_columnsUpTo : Room := { frames := 0, cells := 0, slots := 0, locals := 0 }
def rm_C_hasUnknownColumn : Room := { frames := 3, cells := 0, slots := 0, locals := 68 }
def rm_C_bitsAt_1 : Room := { frames := 1, cells := 0, slots := 0, locals := 21 }
def rm_C_bitsIn_2 : Room := { frames := 2, cells := 0, slots := 0, locals := 43 }
def rm_C_bitsIn_3 : Room := { frames := 2, cells := 0, slots := 0, locals := 43 }
def rm_C_hasEarlyAggregate : Room := { frames := 3, cells := 0, slots := 0, locals := 68 }
def rm_C_bitsIn_4 : Room := { frames := 2, cells := 0, slots := 0, locals := 43 }
def rm_C_lateAggregates : Room := { frames := 3, cells := 0, slots := 0, locals := 68 }
def rm_C_isGrouped : Room := { frames := 4, cells := 0, slots := 0, locals := 88 }
def rm_E_isAlike : Room := { frames := 0, cells := 0, slots := 0, locals := 0 }
def rm_C_isLikeGroup : Room := { frames := 1, cells := 0, slots := 0, locals := 22 }
def rm_C_isLoose : Room := { frames := 1, cells := 0, slots := 0, locals := 21 }
def rm_C_hasLooseColumn : Room := { frames := 2, cells := 0, slots := 0, locals := 45 }
def rm_C_firstFault : Room := { frames := 5, cells := 0, slots := 0, locals := 108 }
def rm_G_openGroup : Room := { frames := 0, cells := 0, slots := 0, locals := 0 }
def rm_G_clear : Room := { frames := 1, cells := 0, slots := 0, locals := 22 }
def rm_R_prepare_s : Room := { frames := 6, cells := 0, slots := 0, locals := 128 }
def rm_R_prepare : Room := { frames := 6, cells := 11, slots := 17422, locals := 128 }
def rm_A_isNullAt : Room := { frames := 0, cells := 0, slots := 0, locals := 0 }
def rm_L_compare : Room := { frames := 0, cells := 0, slots := 0, locals := 0 }
def rm_A_compareItem : Room := { frames := 1, cells := 0, slots := 0, locals := 23 }
def rm_A_compare : Room := { frames := 2, cells := 0, slots := 0, locals := 48 }
def rm_A_insertInOrder : Room := { frames := 3, cells := 0, slots := 0, locals := 74 }
def rm_A_isRepeated : Room := { frames := 0, cells := 0, slots := 0, locals := 0 }
def rm_A_finish : Room := { frames := 4, cells := 0, slots := 0, locals := 98 }
def rm_G_enter : Room := { frames := 0, cells := 0, slots := 0, locals := 0 }
def rm_A_isFull : Room := { frames := 0, cells := 0, slots := 0, locals := 0 }
def rm_A_startRow : Room := { frames := 0, cells := 0, slots := 0, locals := 0 }
def rm_A_endRow : Room := { frames := 0, cells := 0, slots := 0, locals := 0 }
def rm_V_lookUp : Room := { frames := 0, cells := 0, slots := 0, locals := 0 }
def rm_G_resultOf : Room := { frames := 0, cells := 0, slots := 0, locals := 0 }
def rm_G_hasResult : Room := { frames := 0, cells := 0, slots := 0, locals := 0 }
def rm_V_ofGroup : Room := { frames := 1, cells := 0, slots := 0, locals := 24 }
def rm_V_calculate : Room := { frames := 0, cells := 0, slots := 0, locals := 0 }
def rm_V_compares : Room := { frames := 0, cells := 0, slots := 0, locals := 0 }
def rm_A_setItem : Room := { frames := 0, cells := 0, slots := 0, locals := 0 }
def rm_R_giveRow : Room := { frames := 132, cells := 0, slots := 0, locals := 5247 }
def rm_R_giveGroups : Room := { frames := 133, cells := 0, slots := 0, locals := 5269 }
def rm_G_isFull : Room := { frames := 0, cells := 0, slots := 0, locals := 0 }
def rm_G_pack : Room := { frames := 0, cells := 0, slots := 0, locals := 0 }
def rm_G_startRow : Room := { frames := 1, cells := 0, slots := 0, locals := 22 }
def rm_G_groupOfKeys : Room := { frames := 0, cells := 0, slots := 0, locals := 0 }
def rm_G_placeRow : Room := { frames := 1, cells := 0, slots := 0, locals := 24 }
def rm_G_endRow : Room := { frames := 0, cells := 0, slots := 0, locals := 0 }
def rm_G_combine : Room := { frames := 1, cells := 0, slots := 0, locals := 24 }
def rm_G_wasCounted : Room := { frames := 0, cells := 0, slots := 0, locals := 0 }
def rm_G_takeNumber : Room := { frames := 2, cells := 0, slots := 0, locals := 48 }
def rm_R_aggregateRow : Room := { frames := 132, cells := 0, slots := 0, locals := 5247 }
def rm_G_setKey : Room := { frames := 0, cells := 0, slots := 0, locals := 0 }
def rm_R_groupRow : Room := { frames := 133, cells := 0, slots := 0, locals := 5270 }
def rm_R_takeRow : Room := { frames := 134, cells := 0, slots := 0, locals := 5293 }
def rm_Q_run_s : Room := { frames := 141, cells := 0, slots := 0, locals := 5559 }
def rm_Q_run : Room := { frames := 141, cells := 11, slots := 17422, locals := 5559 }
def rm_A_has : Room := { frames := 0, cells := 0, slots := 0, locals := 0 }
def rm_A_numberOf : Room := { frames := 0, cells := 0, slots := 0, locals := 0 }
def rm_Q_cell : Room := { frames := 1, cells := 0, slots := 0, locals := 22 }
def rm_A_lacks : Room := { frames := 1, cells := 0, slots := 0, locals := 22 }
def rm_Q_isNull : Room := { frames := 2, cells := 0, slots := 0, locals := 44 }
def rm_Q_answer : Room := { frames := 0, cells := 0, slots := 0, locals := 0 }
def rm_ev (n : Nat) : Room := { frames := n + 1, cells := 0, slots := 0, locals := n * 40 + 24 }
def rm_jf (n : Nat) : Room := { frames := n + 134, cells := 0, slots := 0, locals := n * 40 + 5293 }
def rm_M_within : Room := { frames := 0, cells := 0, slots := 0, locals := 0 }
def rm_M_table : Room := { frames := 1, cells := 0, slots := 0, locals := 25 }
def rm_M_insert : Room := { frames := 1, cells := 0, slots := 0, locals := 25 }
def rm_M_fresh : Room := { frames := 0, cells := 0, slots := 0, locals := 0 }
def rm_M_isTwo : Room := { frames := 0, cells := 0, slots := 0, locals := 0 }
def rm_M_isLike : Room := { frames := 1, cells := 0, slots := 0, locals := 21 }
def rm_M_make : Room := { frames := 2, cells := 0, slots := 0, locals := 43 }
def rm_M_constant : Room := { frames := 3, cells := 0, slots := 0, locals := 72 }
def rm_M_column : Room := { frames := 3, cells := 0, slots := 0, locals := 72 }
def rm_M_isExpression : Room := { frames := 0, cells := 0, slots := 0, locals := 0 }
def rm_M_isOne : Room := { frames := 0, cells := 0, slots := 0, locals := 0 }
def rm_M_isTruth : Room := { frames := 0, cells := 0, slots := 0, locals := 0 }
def rm_M_op : Room := { frames := 3, cells := 0, slots := 0, locals := 72 }
def rm_M_aggregate : Room := { frames := 3, cells := 0, slots := 0, locals := 72 }
def rm_M_source : Room := { frames := 1, cells := 0, slots := 0, locals := 25 }
def rm_M_condition : Room := { frames := 1, cells := 0, slots := 0, locals := 25 }
def rm_M_group : Room := { frames := 1, cells := 0, slots := 0, locals := 21 }
def rm_M_item : Room := { frames := 1, cells := 0, slots := 0, locals := 21 }
def rm_M_order : Room := { frames := 1, cells := 0, slots := 0, locals := 25 }
def rm_M_shape : Room := { frames := 1, cells := 0, slots := 0, locals := 25 }
def rm_M_give : Room := { frames := 0, cells := 0, slots := 0, locals := 0 }
def rm_M_size : Room := { frames := 0, cells := 0, slots := 0, locals := 0 }
def rm_M_reckon : Room := { frames := 1, cells := 0, slots := 0, locals := 21 }
def rm_M_truthOf : Room := { frames := 0, cells := 0, slots := 0, locals := 0 }
def rm_M_combine : Room := { frames := 2, cells := 0, slots := 0, locals := 48 }
def rm_M_push : Room := { frames := 0, cells := 0, slots := 0, locals := 0 }
def rm_M_aggregateNumber : Room := { frames := 0, cells := 0, slots := 0, locals := 0 }
def rm_M_countsIn : Room := { frames := 0, cells := 0, slots := 0, locals := 0 }
def rm_M_giveAggregate : Room := { frames := 1, cells := 0, slots := 0, locals := 24 }
def rm_M_giveColumn : Room := { frames := 1, cells := 0, slots := 0, locals := 23 }
def rm_M_groupLike : Room := { frames := 0, cells := 0, slots := 0, locals := 0 }
def rm_M_lookOnce : Room := { frames := 3, cells := 0, slots := 0, locals := 75 }
def rm_M_workOut : Room := { frames := 4, cells := 0, slots := 0, locals := 101 }
def rm_M_giveRow : Room := { frames := 5, cells := 0, slots := 0, locals := 122 }
def rm_M_findGroup : Room := { frames := 5, cells := 0, slots := 0, locals := 122 }
def rm_M_putInGroup : Room := { frames := 6, cells := 0, slots := 0, locals := 147 }
def rm_M_isTrue : Room := { frames := 5, cells := 0, slots := 0, locals := 122 }
def rm_M_goTogether : Room := { frames := 7, cells := 0, slots := 0, locals := 171 }
def rm_M_goes : Room := { frames := 6, cells := 0, slots := 0, locals := 143 }
def rm_M_goThird : Room := { frames := 8, cells := 0, slots := 0, locals := 191 }
def rm_M_goSecond : Room := { frames := 9, cells := 0, slots := 0, locals := 213 }
def rm_M_goFirst : Room := { frames := 10, cells := 0, slots := 0, locals := 235 }
def rm_M_moveRow : Room := { frames := 0, cells := 0, slots := 0, locals := 0 }
def rm_M_isBefore : Room := { frames := 0, cells := 0, slots := 0, locals := 0 }
def rm_M_sort : Room := { frames := 1, cells := 0, slots := 0, locals := 27 }
def rm_M_cut : Room := { frames := 1, cells := 0, slots := 0, locals := 23 }
def rm_M_isSameRow : Room := { frames := 0, cells := 0, slots := 0, locals := 0 }
def rm_M_leaveOut : Room := { frames := 1, cells := 0, slots := 0, locals := 25 }
def rm_M_goThroughGroups : Room := { frames := 6, cells := 0, slots := 0, locals := 143 }
def rm_M_ask : Room := { frames := 1, cells := 0, slots := 0, locals := 21 }
def rm_M_isBound : Room := { frames := 1, cells := 0, slots := 0, locals := 23 }
def rm_M_areAllBound : Room := { frames := 2, cells := 0, slots := 0, locals := 47 }
def rm_M_areAggregatesRight : Room := { frames := 0, cells := 0, slots := 0, locals := 0 }
def rm_M_hasColumns : Room := { frames := 1, cells := 0, slots := 0, locals := 21 }
def rm_M_areColumnsRight : Room := { frames := 2, cells := 0, slots := 0, locals := 46 }
def rm_M_run : Room := { frames := 11, cells := 0, slots := 0, locals := 256 }
def rm_M_isThere : Room := { frames := 1, cells := 0, slots := 0, locals := 25 }
def rm_M_cell : Room := { frames := 2, cells := 0, slots := 0, locals := 47 }
def rm_M_isNull : Room := { frames := 2, cells := 0, slots := 0, locals := 47 }
def rm_M_answer : Room := { frames := 0, cells := 0, slots := 0, locals := 0 }
abbrev b_T_addTable : ByteArray := prog_9_method_3_code
def y_T_addTable : MethodName := ⟨"QueryRunner$Tables", "addTable", "(I)I"⟩
def ws_T_addTable : List Cond := .code y_T_addTable b_T_addTable 2 (some .int) :: BIG
abbrev b_Q_table : ByteArray := prog_1_method_2_code
def y_Q_table : MethodName := ⟨"QueryRunner", "table", "(I)I"⟩
def ws_Q_table : List Cond := .code y_Q_table b_Q_table 2 (some .int) :: BIG
abbrev b_T_has : ByteArray := prog_9_method_2_code
def y_T_has : MethodName := ⟨"QueryRunner$Tables", "has", "(I)Z"⟩
def ws_T_has : List Cond := .code y_T_has b_T_has 2 (some .boolean) :: BIG
abbrev b_T_addRow : ByteArray := prog_9_method_4_code
def y_T_addRow : MethodName := ⟨"QueryRunner$Tables", "addRow", "(I[JI)I"⟩
def ws_T_addRow : List Cond := .code y_T_addRow b_T_addRow 5 (some .int) :: BIG
abbrev b_Q_isOutside : ByteArray := prog_1_method_19_code
def y_Q_isOutside : MethodName := ⟨"QueryRunner", "isOutside", "(J)Z"⟩
def ws_Q_isOutside : List Cond := .code y_Q_isOutside b_Q_isOutside 2 (some .boolean) :: BIG
abbrev b_Q_insert : ByteArray := prog_1_method_3_code
def y_Q_insert : MethodName := ⟨"QueryRunner", "insert", "(IJJJJI)I"⟩
def ws_Q_insert : List Cond := .code y_Q_insert b_Q_insert 14 (some .int) :: BIG
abbrev b_E_clear : ByteArray := prog_5_method_2_code
def y_E_clear : MethodName := ⟨"QueryRunner$Expressions", "clear", "()V"⟩
def ws_E_clear : List Cond := .code y_E_clear b_E_clear 1 none :: BIG
abbrev b_Y_setShape : ByteArray := prog_7_method_7_code
def y_Y_setShape : MethodName := ⟨"QueryRunner$Query", "setShape", "(ZII)V"⟩
def ws_Y_setShape : List Cond := .code y_Y_setShape b_Y_setShape 4 none :: BIG
abbrev b_Y_clear : ByteArray := prog_7_method_2_code
def y_Y_clear : MethodName := ⟨"QueryRunner$Query", "clear", "()V"⟩
def ws_Y_clear : List Cond := .code y_Y_clear b_Y_clear 1 none :: BIG
abbrev b_Q_fresh : ByteArray := prog_1_method_4_code
def y_Q_fresh : MethodName := ⟨"QueryRunner", "fresh", "()I"⟩
def ws_Q_fresh : List Cond := .code y_Q_fresh b_Q_fresh 2 (some .int) :: BIG
abbrev b_E_has : ByteArray := prog_5_method_3_code
def y_E_has : MethodName := ⟨"QueryRunner$Expressions", "has", "(I)Z"⟩
def ws_E_has : List Cond := .code y_E_has b_E_has 2 (some .boolean) :: BIG
abbrev b_E_partsOf : ByteArray := prog_5_method_9_code
def y_E_partsOf : MethodName := ⟨"QueryRunner$Expressions", "partsOf", "(I)I"⟩
def ws_E_partsOf : List Cond := .code y_E_partsOf b_E_partsOf 2 (some .int) :: BIG
abbrev b_E_hasRoom : ByteArray := prog_5_method_5_code
def y_E_hasRoom : MethodName := ⟨"QueryRunner$Expressions", "hasRoom", "(II)Z"⟩
def ws_E_hasRoom : List Cond := .code y_E_hasRoom b_E_hasRoom 3 (some .boolean) :: BIG
abbrev b_E_likeOf : ByteArray := prog_5_method_12_code
def y_E_likeOf : MethodName := ⟨"QueryRunner$Expressions", "likeOf", "(I)I"⟩
def ws_E_likeOf : List Cond := .code y_E_likeOf b_E_likeOf 2 (some .int) :: BIG
abbrev b_E_firstLike : ByteArray := prog_5_method_11_code
def y_E_firstLike : MethodName := ⟨"QueryRunner$Expressions", "firstLike", "(I)I"⟩
def ws_E_firstLike : List Cond := .code y_E_firstLike b_E_firstLike 3 (some .int) :: BIG
abbrev b_E_bitsOf : ByteArray := prog_5_method_10_code
def y_E_bitsOf : MethodName := ⟨"QueryRunner$Expressions", "bitsOf", "([II)I"⟩
def ws_E_bitsOf : List Cond := .code y_E_bitsOf b_E_bitsOf 3 (some .int) :: BIG
abbrev b_E_add : ByteArray := prog_5_method_6_code
def y_E_add : MethodName := ⟨"QueryRunner$Expressions", "add", "(IJII)I"⟩
def ws_E_add : List Cond := .code y_E_add b_E_add 7 (some .int) :: BIG
abbrev b_Q_constant : ByteArray := prog_1_method_5_code
def y_Q_constant : MethodName := ⟨"QueryRunner", "constant", "(JZ)I"⟩
def ws_Q_constant : List Cond := .code y_Q_constant b_Q_constant 4 (some .int) :: BIG
abbrev b_Q_column : ByteArray := prog_1_method_6_code
def y_Q_column : MethodName := ⟨"QueryRunner", "column", "(II)I"⟩
def ws_Q_column : List Cond := .code y_Q_column b_Q_column 3 (some .int) :: BIG
abbrev b_E_isTruth : ByteArray := prog_5_method_4_code
def y_E_isTruth : MethodName := ⟨"QueryRunner$Expressions", "isTruth", "(I)Z"⟩
def ws_E_isTruth : List Cond := .code y_E_isTruth b_E_isTruth 2 (some .boolean) :: BIG
abbrev b_Q_op : ByteArray := prog_1_method_7_code
def y_Q_op : MethodName := ⟨"QueryRunner", "op", "(III)I"⟩
def ws_Q_op : List Cond := .code y_Q_op b_Q_op 7 (some .int) :: BIG
abbrev b_E_addAggregate : ByteArray := prog_5_method_7_code
def y_E_addAggregate : MethodName := ⟨"QueryRunner$Expressions", "addAggregate", "(IIZ)I"⟩
def ws_E_addAggregate : List Cond := .code y_E_addAggregate b_E_addAggregate 5 (some .int) :: BIG
abbrev b_Q_aggregate : ByteArray := prog_1_method_8_code
def y_Q_aggregate : MethodName := ⟨"QueryRunner", "aggregate", "(IIZ)I"⟩
def ws_Q_aggregate : List Cond := .code y_Q_aggregate b_Q_aggregate 4 (some .int) :: BIG
abbrev b_Y_addSource : ByteArray := prog_7_method_3_code
def y_Y_addSource : MethodName := ⟨"QueryRunner$Query", "addSource", "(III)I"⟩
def ws_Y_addSource : List Cond := .code y_Y_addSource b_Y_addSource 4 (some .int) :: BIG
abbrev b_Q_source : ByteArray := prog_1_method_9_code
def y_Q_source : MethodName := ⟨"QueryRunner", "source", "(III)I"⟩
def ws_Q_source : List Cond := .code y_Q_source b_Q_source 4 (some .int) :: BIG
abbrev b_Q_condition : ByteArray := prog_1_method_10_code
def y_Q_condition : MethodName := ⟨"QueryRunner", "condition", "(II)I"⟩
def ws_Q_condition : List Cond := .code y_Q_condition b_Q_condition 3 (some .int) :: BIG
abbrev b_Y_addGroup : ByteArray := prog_7_method_4_code
def y_Y_addGroup : MethodName := ⟨"QueryRunner$Query", "addGroup", "(I)I"⟩
def ws_Y_addGroup : List Cond := .code y_Y_addGroup b_Y_addGroup 2 (some .int) :: BIG
abbrev b_Q_group : ByteArray := prog_1_method_11_code
def y_Q_group : MethodName := ⟨"QueryRunner", "group", "(I)I"⟩
def ws_Q_group : List Cond := .code y_Q_group b_Q_group 2 (some .int) :: BIG
abbrev b_Y_addItem : ByteArray := prog_7_method_5_code
def y_Y_addItem : MethodName := ⟨"QueryRunner$Query", "addItem", "(I)I"⟩
def ws_Y_addItem : List Cond := .code y_Y_addItem b_Y_addItem 2 (some .int) :: BIG
abbrev b_Q_item : ByteArray := prog_1_method_12_code
def y_Q_item : MethodName := ⟨"QueryRunner", "item", "(I)I"⟩
def ws_Q_item : List Cond := .code y_Q_item b_Q_item 2 (some .int) :: BIG
abbrev b_Y_addOrder : ByteArray := prog_7_method_6_code
def y_Y_addOrder : MethodName := ⟨"QueryRunner$Query", "addOrder", "(IZ)I"⟩
def ws_Y_addOrder : List Cond := .code y_Y_addOrder b_Y_addOrder 3 (some .int) :: BIG
abbrev b_Q_order : ByteArray := prog_1_method_13_code
def y_Q_order : MethodName := ⟨"QueryRunner", "order", "(IZ)I"⟩
def ws_Q_order : List Cond := .code y_Q_order b_Q_order 3 (some .int) :: BIG
abbrev b_Q_shape : ByteArray := prog_1_method_14_code
def y_Q_shape : MethodName := ⟨"QueryRunner", "shape", "(ZII)I"⟩
def ws_Q_shape : List Cond := .code y_Q_shape b_Q_shape 4 (some .int) :: BIG
abbrev b_A_clear : ByteArray := prog_2_method_2_code
def y_A_clear : MethodName := ⟨"QueryRunner$Answer", "clear", "()V"⟩
def ws_A_clear : List Cond := .code y_A_clear b_A_clear 1 none :: BIG
abbrev b_C_bitsAt : ByteArray := prog_3_method_12_code
def y_C_bitsAt : MethodName := ⟨"QueryRunner$Checker", "bitsAt", "(I[I)I"⟩
def ws_C_bitsAt : List Cond := .code y_C_bitsAt b_C_bitsAt 3 (some .int) :: BIG
abbrev b_C_bitsIn : ByteArray := prog_3_method_11_code
def y_C_bitsIn : MethodName := ⟨"QueryRunner$Checker", "bitsIn", "([II[I)I"⟩
def ws_C_bitsIn : List Cond := .code y_C_bitsIn b_C_bitsIn 6 (some .int) :: BIG
abbrev b_C_columnsUpTo : ByteArray := prog_3_method_10_code
def y_C_columnsUpTo : MethodName := ⟨"QueryRunner$Checker", "columnsUpTo", "(I)I"⟩
def ws_C_columnsUpTo : List Cond := .code y_C_columnsUpTo b_C_columnsUpTo 5 (some .int) :: BIG
abbrev b_C_hasUnknownColumn : ByteArray := prog_3_method_5_code
def y_C_hasUnknownColumn : MethodName := ⟨"QueryRunner$Checker", "hasUnknownColumn", "()Z"⟩
def ws_C_hasUnknownColumn : List Cond := .code y_C_hasUnknownColumn b_C_hasUnknownColumn 2 (some .boolean) :: BIG
abbrev b_C_hasEarlyAggregate : ByteArray := prog_3_method_6_code
def y_C_hasEarlyAggregate : MethodName := ⟨"QueryRunner$Checker", "hasEarlyAggregate", "()Z"⟩
def ws_C_hasEarlyAggregate : List Cond := .code y_C_hasEarlyAggregate b_C_hasEarlyAggregate 2 (some .boolean) :: BIG
abbrev b_C_lateAggregates : ByteArray := prog_3_method_4_code
def y_C_lateAggregates : MethodName := ⟨"QueryRunner$Checker", "lateAggregates", "()I"⟩
def ws_C_lateAggregates : List Cond := .code y_C_lateAggregates b_C_lateAggregates 1 (some .int) :: BIG
abbrev b_C_isGrouped : ByteArray := prog_3_method_3_code
def y_C_isGrouped : MethodName := ⟨"QueryRunner$Checker", "isGrouped", "()Z"⟩
def ws_C_isGrouped : List Cond := .code y_C_isGrouped b_C_isGrouped 1 (some .boolean) :: BIG
abbrev b_E_isAlike : ByteArray := prog_5_method_8_code
def y_E_isAlike : MethodName := ⟨"QueryRunner$Expressions", "isAlike", "(II)Z"⟩
def ws_E_isAlike : List Cond := .code y_E_isAlike b_E_isAlike 3 (some .boolean) :: BIG
abbrev b_C_isLikeGroup : ByteArray := prog_3_method_8_code
def y_C_isLikeGroup : MethodName := ⟨"QueryRunner$Checker", "isLikeGroup", "(I)Z"⟩
def ws_C_isLikeGroup : List Cond := .code y_C_isLikeGroup b_C_isLikeGroup 3 (some .boolean) :: BIG
abbrev b_C_isLoose : ByteArray := prog_3_method_9_code
def y_C_isLoose : MethodName := ⟨"QueryRunner$Checker", "isLoose", "(I)Z"⟩
def ws_C_isLoose : List Cond := .code y_C_isLoose b_C_isLoose 5 (some .boolean) :: BIG
abbrev b_C_hasLooseColumn : ByteArray := prog_3_method_7_code
def y_C_hasLooseColumn : MethodName := ⟨"QueryRunner$Checker", "hasLooseColumn", "()Z"⟩
def ws_C_hasLooseColumn : List Cond := .code y_C_hasLooseColumn b_C_hasLooseColumn 2 (some .boolean) :: BIG
abbrev b_C_firstFault : ByteArray := prog_3_method_2_code
def y_C_firstFault : MethodName := ⟨"QueryRunner$Checker", "firstFault", "()I"⟩
def ws_C_firstFault : List Cond := .code y_C_firstFault b_C_firstFault 1 (some .int) :: BIG
abbrev b_G_openGroup : ByteArray := prog_6_method_13_code
def y_G_openGroup : MethodName := ⟨"QueryRunner$Groups", "openGroup", "(I)V"⟩
def ws_G_openGroup : List Cond := .code y_G_openGroup b_G_openGroup 3 none :: BIG
abbrev b_G_clear : ByteArray := prog_6_method_2_code
def y_G_clear : MethodName := ⟨"QueryRunner$Groups", "clear", "(Z)V"⟩
def ws_G_clear : List Cond := .code y_G_clear b_G_clear 2 none :: BIG
abbrev b_R_prepare : ByteArray := prog_8_method_2_code
def y_R_prepare : MethodName := ⟨"QueryRunner$Runner", "prepare", "()I"⟩
def ws_R_prepare : List Cond := .code y_R_prepare b_R_prepare 2 (some .int) :: BIG
abbrev b_A_isNullAt : ByteArray := prog_2_method_15_code
def y_A_isNullAt : MethodName := ⟨"QueryRunner$Answer", "isNullAt", "(II)Z"⟩
def ws_A_isNullAt : List Cond := .code y_A_isNullAt b_A_isNullAt 3 (some .boolean) :: BIG
abbrev b_L_compare : ByteArray := prog_12_method_42_code
def y_L_compare : MethodName := ⟨"java/lang/Long", "compare", "(JJ)I"⟩
def ws_L_compare : List Cond := .code y_L_compare b_L_compare 4 (some .int) :: BIG
abbrev b_A_compareItem : ByteArray := prog_2_method_14_code
def y_A_compareItem : MethodName := ⟨"QueryRunner$Answer", "compareItem", "(III)I"⟩
def ws_A_compareItem : List Cond := .code y_A_compareItem b_A_compareItem 6 (some .int) :: BIG
abbrev b_A_compare : ByteArray := prog_2_method_13_code
def y_A_compare : MethodName := ⟨"QueryRunner$Answer", "compare", "(IILQueryRunner$Query;)I"⟩
def ws_A_compare : List Cond := .code y_A_compare b_A_compare 7 (some .int) :: BIG
abbrev b_A_insertInOrder : ByteArray := prog_2_method_12_code
def y_A_insertInOrder : MethodName := ⟨"QueryRunner$Answer", "insertInOrder", "(IILQueryRunner$Query;)V"⟩
def ws_A_insertInOrder : List Cond := .code y_A_insertInOrder b_A_insertInOrder 5 none :: BIG
abbrev b_A_isRepeated : ByteArray := prog_2_method_11_code
def y_A_isRepeated : MethodName := ⟨"QueryRunner$Answer", "isRepeated", "(I)Z"⟩
def ws_A_isRepeated : List Cond := .code y_A_isRepeated b_A_isRepeated 5 (some .boolean) :: BIG
abbrev b_A_finish : ByteArray := prog_2_method_10_code
def y_A_finish : MethodName := ⟨"QueryRunner$Answer", "finish", "(LQueryRunner$Query;)V"⟩
def ws_A_finish : List Cond := .code y_A_finish b_A_finish 4 none :: BIG
abbrev b_G_enter : ByteArray := prog_6_method_9_code
def y_G_enter : MethodName := ⟨"QueryRunner$Groups", "enter", "(I[I)V"⟩
def ws_G_enter : List Cond := .code y_G_enter b_G_enter 6 none :: BIG
abbrev b_A_isFull : ByteArray := prog_2_method_6_code
def y_A_isFull : MethodName := ⟨"QueryRunner$Answer", "isFull", "()Z"⟩
def ws_A_isFull : List Cond := .code y_A_isFull b_A_isFull 1 (some .boolean) :: BIG
abbrev b_A_startRow : ByteArray := prog_2_method_7_code
def y_A_startRow : MethodName := ⟨"QueryRunner$Answer", "startRow", "()V"⟩
def ws_A_startRow : List Cond := .code y_A_startRow b_A_startRow 1 none :: BIG
abbrev b_A_endRow : ByteArray := prog_2_method_9_code
def y_A_endRow : MethodName := ⟨"QueryRunner$Answer", "endRow", "()V"⟩
def ws_A_endRow : List Cond := .code y_A_endRow b_A_endRow 1 none :: BIG
abbrev b_V_lookUp : ByteArray := prog_4_method_4_code
def y_V_lookUp : MethodName := ⟨"QueryRunner$Evaluator", "lookUp", "(I)I"⟩
def ws_V_lookUp : List Cond := .code y_V_lookUp b_V_lookUp 6 (some .int) :: BIG
abbrev b_G_resultOf : ByteArray := prog_6_method_11_code
def y_G_resultOf : MethodName := ⟨"QueryRunner$Groups", "resultOf", "(I)J"⟩
def ws_G_resultOf : List Cond := .code y_G_resultOf b_G_resultOf 5 (some .long) :: BIG
abbrev b_G_hasResult : ByteArray := prog_6_method_10_code
def y_G_hasResult : MethodName := ⟨"QueryRunner$Groups", "hasResult", "(I)Z"⟩
def ws_G_hasResult : List Cond := .code y_G_hasResult b_G_hasResult 3 (some .boolean) :: BIG
abbrev b_V_ofGroup : ByteArray := prog_4_method_5_code
def y_V_ofGroup : MethodName := ⟨"QueryRunner$Evaluator", "ofGroup", "(I)I"⟩
def ws_V_ofGroup : List Cond := .code y_V_ofGroup b_V_ofGroup 2 (some .int) :: BIG
abbrev b_V_calculate : ByteArray := prog_4_method_7_code
def y_V_calculate : MethodName := ⟨"QueryRunner$Evaluator", "calculate", "(IJJ)I"⟩
def ws_V_calculate : List Cond := .code y_V_calculate b_V_calculate 8 (some .int) :: BIG
abbrev b_V_value : ByteArray := prog_4_method_2_code
def y_V_value : MethodName := ⟨"QueryRunner$Evaluator", "value", "(II)I"⟩
def ws_V_value : List Cond := .code y_V_value b_V_value 4 (some .int) :: BIG
abbrev b_V_compares : ByteArray := prog_4_method_8_code
def y_V_compares : MethodName := ⟨"QueryRunner$Evaluator", "compares", "(IJJ)Z"⟩
def ws_V_compares : List Cond := .code y_V_compares b_V_compares 5 (some .boolean) :: BIG
abbrev b_V_truth : ByteArray := prog_4_method_3_code
def y_V_truth : MethodName := ⟨"QueryRunner$Evaluator", "truth", "(II)I"⟩
def ws_V_truth : List Cond := .code y_V_truth b_V_truth 5 (some .int) :: BIG
abbrev b_V_operands : ByteArray := prog_4_method_6_code
def y_V_operands : MethodName := ⟨"QueryRunner$Evaluator", "operands", "(II)I"⟩
def ws_V_operands : List Cond := .code y_V_operands b_V_operands 7 (some .int) :: BIG
abbrev b_V_junction : ByteArray := prog_4_method_9_code
def y_V_junction : MethodName := ⟨"QueryRunner$Evaluator", "junction", "(II)I"⟩
def ws_V_junction : List Cond := .code y_V_junction b_V_junction 6 (some .int) :: BIG
abbrev b_A_setItem : ByteArray := prog_2_method_8_code
def y_A_setItem : MethodName := ⟨"QueryRunner$Answer", "setItem", "(IIJ)V"⟩
def ws_A_setItem : List Cond := .code y_A_setItem b_A_setItem 5 none :: BIG
abbrev b_R_giveRow : ByteArray := prog_8_method_6_code
def y_R_giveRow : MethodName := ⟨"QueryRunner$Runner", "giveRow", "()I"⟩
def ws_R_giveRow : List Cond := .code y_R_giveRow b_R_giveRow 3 (some .int) :: BIG
abbrev b_R_giveGroups : ByteArray := prog_8_method_4_code
def y_R_giveGroups : MethodName := ⟨"QueryRunner$Runner", "giveGroups", "()I"⟩
def ws_R_giveGroups : List Cond := .code y_R_giveGroups b_R_giveGroups 5 (some .int) :: BIG
abbrev b_G_isFull : ByteArray := prog_6_method_3_code
def y_G_isFull : MethodName := ⟨"QueryRunner$Groups", "isFull", "()Z"⟩
def ws_G_isFull : List Cond := .code y_G_isFull b_G_isFull 1 (some .boolean) :: BIG
abbrev b_G_pack : ByteArray := prog_6_method_16_code
def y_G_pack : MethodName := ⟨"QueryRunner$Groups", "pack", "([I)I"⟩
def ws_G_pack : List Cond := .code y_G_pack b_G_pack 3 (some .int) :: BIG
abbrev b_G_startRow : ByteArray := prog_6_method_4_code
def y_G_startRow : MethodName := ⟨"QueryRunner$Groups", "startRow", "([I)V"⟩
def ws_G_startRow : List Cond := .code y_G_startRow b_G_startRow 2 none :: BIG
abbrev b_G_groupOfKeys : ByteArray := prog_6_method_14_code
def y_G_groupOfKeys : MethodName := ⟨"QueryRunner$Groups", "groupOfKeys", "(I)I"⟩
def ws_G_groupOfKeys : List Cond := .code y_G_groupOfKeys b_G_groupOfKeys 5 (some .int) :: BIG
abbrev b_G_placeRow : ByteArray := prog_6_method_6_code
def y_G_placeRow : MethodName := ⟨"QueryRunner$Groups", "placeRow", "(I)V"⟩
def ws_G_placeRow : List Cond := .code y_G_placeRow b_G_placeRow 3 none :: BIG
abbrev b_G_endRow : ByteArray := prog_6_method_8_code
def y_G_endRow : MethodName := ⟨"QueryRunner$Groups", "endRow", "()V"⟩
def ws_G_endRow : List Cond := .code y_G_endRow b_G_endRow 1 none :: BIG
abbrev b_G_combine : ByteArray := prog_6_method_12_code
def y_G_combine : MethodName := ⟨"QueryRunner$Groups", "combine", "(IJJ)J"⟩
def ws_G_combine : List Cond := .code y_G_combine b_G_combine 5 (some .long) :: BIG
abbrev b_G_wasCounted : ByteArray := prog_6_method_15_code
def y_G_wasCounted : MethodName := ⟨"QueryRunner$Groups", "wasCounted", "(IJ)Z"⟩
def ws_G_wasCounted : List Cond := .code y_G_wasCounted b_G_wasCounted 6 (some .boolean) :: BIG
abbrev b_G_takeNumber : ByteArray := prog_6_method_7_code
def y_G_takeNumber : MethodName := ⟨"QueryRunner$Groups", "takeNumber", "(IIJ)I"⟩
def ws_G_takeNumber : List Cond := .code y_G_takeNumber b_G_takeNumber 8 (some .int) :: BIG
abbrev b_R_aggregateRow : ByteArray := prog_8_method_8_code
def y_R_aggregateRow : MethodName := ⟨"QueryRunner$Runner", "aggregateRow", "(LQueryRunner$Groups;I)I"⟩
def ws_R_aggregateRow : List Cond := .code y_R_aggregateRow b_R_aggregateRow 4 (some .int) :: BIG
abbrev b_G_setKey : ByteArray := prog_6_method_5_code
def y_G_setKey : MethodName := ⟨"QueryRunner$Groups", "setKey", "(IIJ)V"⟩
def ws_G_setKey : List Cond := .code y_G_setKey b_G_setKey 5 none :: BIG
abbrev b_R_groupRow : ByteArray := prog_8_method_7_code
def y_R_groupRow : MethodName := ⟨"QueryRunner$Runner", "groupRow", "()I"⟩
def ws_R_groupRow : List Cond := .code y_R_groupRow b_R_groupRow 4 (some .int) :: BIG
abbrev b_R_takeRow : ByteArray := prog_8_method_5_code
def y_R_takeRow : MethodName := ⟨"QueryRunner$Runner", "takeRow", "()I"⟩
def ws_R_takeRow : List Cond := .code y_R_takeRow b_R_takeRow 2 (some .int) :: BIG
abbrev b_R_joinFrom : ByteArray := prog_8_method_3_code
def y_R_joinFrom : MethodName := ⟨"QueryRunner$Runner", "joinFrom", "(I)I"⟩
def ws_R_joinFrom : List Cond := .code y_R_joinFrom b_R_joinFrom 7 (some .int) :: BIG
abbrev b_Q_run : ByteArray := prog_1_method_15_code
def y_Q_run : MethodName := ⟨"QueryRunner", "run", "()I"⟩
def ws_Q_run : List Cond := .code y_Q_run b_Q_run 2 (some .int) :: BIG
abbrev b_A_has : ByteArray := prog_2_method_3_code
def y_A_has : MethodName := ⟨"QueryRunner$Answer", "has", "(II)Z"⟩
def ws_A_has : List Cond := .code y_A_has b_A_has 3 (some .boolean) :: BIG
abbrev b_A_numberOf : ByteArray := prog_2_method_4_code
def y_A_numberOf : MethodName := ⟨"QueryRunner$Answer", "numberOf", "(II)J"⟩
def ws_A_numberOf : List Cond := .code y_A_numberOf b_A_numberOf 3 (some .long) :: BIG
abbrev b_Q_cell : ByteArray := prog_1_method_16_code
def y_Q_cell : MethodName := ⟨"QueryRunner", "cell", "(II)J"⟩
def ws_Q_cell : List Cond := .code y_Q_cell b_Q_cell 3 (some .long) :: BIG
abbrev b_A_lacks : ByteArray := prog_2_method_5_code
def y_A_lacks : MethodName := ⟨"QueryRunner$Answer", "lacks", "(II)Z"⟩
def ws_A_lacks : List Cond := .code y_A_lacks b_A_lacks 3 (some .boolean) :: BIG
abbrev b_Q_isNull : ByteArray := prog_1_method_17_code
def y_Q_isNull : MethodName := ⟨"QueryRunner", "isNull", "(II)Z"⟩
def ws_Q_isNull : List Cond := .code y_Q_isNull b_Q_isNull 3 (some .boolean) :: BIG
abbrev b_Q_answer : ByteArray := prog_1_method_18_code
def y_Q_answer : MethodName := ⟨"QueryRunner", "answer", "(I)I"⟩
def ws_Q_answer : List Cond := .code y_Q_answer b_Q_answer 2 (some .int) :: BIG
abbrev b_M_within : ByteArray := prog_11_method_3_code
def y_M_within : MethodName := ⟨"QueryRunnerModel", "within", "(JJJ)Z"⟩
def ws_M_within : List Cond := .code y_M_within b_M_within 6 (some .boolean) :: BIG
abbrev b_M_table : ByteArray := prog_11_method_4_code
def y_M_table : MethodName := ⟨"QueryRunnerModel", "table", "(I)I"⟩
def ws_M_table : List Cond := .code y_M_table b_M_table 2 (some .int) :: BIG
abbrev b_M_insert : ByteArray := prog_11_method_5_code
def y_M_insert : MethodName := ⟨"QueryRunnerModel", "insert", "(IJJJJI)I"⟩
def ws_M_insert : List Cond := .code y_M_insert b_M_insert 15 (some .int) :: BIG
abbrev b_M_fresh : ByteArray := prog_11_method_6_code
def y_M_fresh : MethodName := ⟨"QueryRunnerModel", "fresh", "()I"⟩
def ws_M_fresh : List Cond := .code y_M_fresh b_M_fresh 2 (some .int) :: BIG
abbrev b_M_isTwo : ByteArray := prog_11_method_10_code
def y_M_isTwo : MethodName := ⟨"QueryRunnerModel", "isTwo", "(I)Z"⟩
def ws_M_isTwo : List Cond := .code y_M_isTwo b_M_isTwo 2 (some .boolean) :: BIG
abbrev b_M_isLike : ByteArray := prog_11_method_12_code
def y_M_isLike : MethodName := ⟨"QueryRunnerModel", "isLike", "(II)Z"⟩
def ws_M_isLike : List Cond := .code y_M_isLike b_M_isLike 3 (some .boolean) :: BIG
abbrev b_M_make : ByteArray := prog_11_method_11_code
def y_M_make : MethodName := ⟨"QueryRunnerModel", "make", "(IIIJZ)I"⟩
def ws_M_make : List Cond := .code y_M_make b_M_make 10 (some .int) :: BIG
abbrev b_M_constant : ByteArray := prog_11_method_13_code
def y_M_constant : MethodName := ⟨"QueryRunnerModel", "constant", "(JZ)I"⟩
def ws_M_constant : List Cond := .code y_M_constant b_M_constant 4 (some .int) :: BIG
abbrev b_M_column : ByteArray := prog_11_method_14_code
def y_M_column : MethodName := ⟨"QueryRunnerModel", "column", "(II)I"⟩
def ws_M_column : List Cond := .code y_M_column b_M_column 3 (some .int) :: BIG
abbrev b_M_isExpression : ByteArray := prog_11_method_7_code
def y_M_isExpression : MethodName := ⟨"QueryRunnerModel", "isExpression", "(I)Z"⟩
def ws_M_isExpression : List Cond := .code y_M_isExpression b_M_isExpression 2 (some .boolean) :: BIG
abbrev b_M_isOne : ByteArray := prog_11_method_9_code
def y_M_isOne : MethodName := ⟨"QueryRunnerModel", "isOne", "(I)Z"⟩
def ws_M_isOne : List Cond := .code y_M_isOne b_M_isOne 2 (some .boolean) :: BIG
abbrev b_M_isTruth : ByteArray := prog_11_method_8_code
def y_M_isTruth : MethodName := ⟨"QueryRunnerModel", "isTruth", "(I)Z"⟩
def ws_M_isTruth : List Cond := .code y_M_isTruth b_M_isTruth 2 (some .boolean) :: BIG
abbrev b_M_op : ByteArray := prog_11_method_15_code
def y_M_op : MethodName := ⟨"QueryRunnerModel", "op", "(III)I"⟩
def ws_M_op : List Cond := .code y_M_op b_M_op 5 (some .int) :: BIG
abbrev b_M_aggregate : ByteArray := prog_11_method_16_code
def y_M_aggregate : MethodName := ⟨"QueryRunnerModel", "aggregate", "(IIZ)I"⟩
def ws_M_aggregate : List Cond := .code y_M_aggregate b_M_aggregate 4 (some .int) :: BIG
abbrev b_M_source : ByteArray := prog_11_method_17_code
def y_M_source : MethodName := ⟨"QueryRunnerModel", "source", "(III)I"⟩
def ws_M_source : List Cond := .code y_M_source b_M_source 4 (some .int) :: BIG
abbrev b_M_condition : ByteArray := prog_11_method_18_code
def y_M_condition : MethodName := ⟨"QueryRunnerModel", "condition", "(II)I"⟩
def ws_M_condition : List Cond := .code y_M_condition b_M_condition 3 (some .int) :: BIG
abbrev b_M_group : ByteArray := prog_11_method_19_code
def y_M_group : MethodName := ⟨"QueryRunnerModel", "group", "(I)I"⟩
def ws_M_group : List Cond := .code y_M_group b_M_group 2 (some .int) :: BIG
abbrev b_M_item : ByteArray := prog_11_method_20_code
def y_M_item : MethodName := ⟨"QueryRunnerModel", "item", "(I)I"⟩
def ws_M_item : List Cond := .code y_M_item b_M_item 2 (some .int) :: BIG
abbrev b_M_order : ByteArray := prog_11_method_21_code
def y_M_order : MethodName := ⟨"QueryRunnerModel", "order", "(IZ)I"⟩
def ws_M_order : List Cond := .code y_M_order b_M_order 3 (some .int) :: BIG
abbrev b_M_shape : ByteArray := prog_11_method_22_code
def y_M_shape : MethodName := ⟨"QueryRunnerModel", "shape", "(ZII)I"⟩
def ws_M_shape : List Cond := .code y_M_shape b_M_shape 4 (some .int) :: BIG
abbrev b_M_give : ByteArray := prog_11_method_31_code
def y_M_give : MethodName := ⟨"QueryRunnerModel", "give", "(JZ)V"⟩
def ws_M_give : List Cond := .code y_M_give b_M_give 4 none :: BIG
abbrev b_M_size : ByteArray := prog_11_method_32_code
def y_M_size : MethodName := ⟨"QueryRunnerModel", "size", "(J)J"⟩
def ws_M_size : List Cond := .code y_M_size b_M_size 2 (some .long) :: BIG
abbrev b_M_reckon : ByteArray := prog_11_method_33_code
def y_M_reckon : MethodName := ⟨"QueryRunnerModel", "reckon", "(IJJ)J"⟩
def ws_M_reckon : List Cond := .code y_M_reckon b_M_reckon 8 (some .long) :: BIG
abbrev b_M_truthOf : ByteArray := prog_11_method_34_code
def y_M_truthOf : MethodName := ⟨"QueryRunnerModel", "truthOf", "(Z)J"⟩
def ws_M_truthOf : List Cond := .code y_M_truthOf b_M_truthOf 1 (some .long) :: BIG
abbrev b_M_combine : ByteArray := prog_11_method_35_code
def y_M_combine : MethodName := ⟨"QueryRunnerModel", "combine", "(I)V"⟩
def ws_M_combine : List Cond := .code y_M_combine b_M_combine 8 none :: BIG
abbrev b_M_push : ByteArray := prog_11_method_23_code
def y_M_push : MethodName := ⟨"QueryRunnerModel", "push", "(I)V"⟩
def ws_M_push : List Cond := .code y_M_push b_M_push 2 none :: BIG
abbrev b_M_aggregateNumber : ByteArray := prog_11_method_40_code
def y_M_aggregateNumber : MethodName := ⟨"QueryRunnerModel", "aggregateNumber", "(I)I"⟩
def ws_M_aggregateNumber : List Cond := .code y_M_aggregateNumber b_M_aggregateNumber 4 (some .int) :: BIG
abbrev b_M_countsIn : ByteArray := prog_11_method_41_code
def y_M_countsIn : MethodName := ⟨"QueryRunnerModel", "countsIn", "(II)Z"⟩
def ws_M_countsIn : List Cond := .code y_M_countsIn b_M_countsIn 5 (some .boolean) :: BIG
abbrev b_M_giveAggregate : ByteArray := prog_11_method_42_code
def y_M_giveAggregate : MethodName := ⟨"QueryRunnerModel", "giveAggregate", "(I)V"⟩
def ws_M_giveAggregate : List Cond := .code y_M_giveAggregate b_M_giveAggregate 17 none :: BIG
abbrev b_M_giveColumn : ByteArray := prog_11_method_36_code
def y_M_giveColumn : MethodName := ⟨"QueryRunnerModel", "giveColumn", "(I)V"⟩
def ws_M_giveColumn : List Cond := .code y_M_giveColumn b_M_giveColumn 5 none :: BIG
abbrev b_M_groupLike : ByteArray := prog_11_method_27_code
def y_M_groupLike : MethodName := ⟨"QueryRunnerModel", "groupLike", "(I)I"⟩
def ws_M_groupLike : List Cond := .code y_M_groupLike b_M_groupLike 4 (some .int) :: BIG
abbrev b_M_lookOnce : ByteArray := prog_11_method_37_code
def y_M_lookOnce : MethodName := ⟨"QueryRunnerModel", "lookOnce", "()V"⟩
def ws_M_lookOnce : List Cond := .code y_M_lookOnce b_M_lookOnce 7 none :: BIG
abbrev b_M_workOut : ByteArray := prog_11_method_38_code
def y_M_workOut : MethodName := ⟨"QueryRunnerModel", "workOut", "(I)V"⟩
def ws_M_workOut : List Cond := .code y_M_workOut b_M_workOut 2 none :: BIG
abbrev b_M_giveRow : ByteArray := prog_11_method_45_code
def y_M_giveRow : MethodName := ⟨"QueryRunnerModel", "giveRow", "()V"⟩
def ws_M_giveRow : List Cond := .code y_M_giveRow b_M_giveRow 2 none :: BIG
abbrev b_M_findGroup : ByteArray := prog_11_method_43_code
def y_M_findGroup : MethodName := ⟨"QueryRunnerModel", "findGroup", "()I"⟩
def ws_M_findGroup : List Cond := .code y_M_findGroup b_M_findGroup 6 (some .int) :: BIG
abbrev b_M_putInGroup : ByteArray := prog_11_method_44_code
def y_M_putInGroup : MethodName := ⟨"QueryRunnerModel", "putInGroup", "()V"⟩
def ws_M_putInGroup : List Cond := .code y_M_putInGroup b_M_putInGroup 5 none :: BIG
abbrev b_M_isTrue : ByteArray := prog_11_method_39_code
def y_M_isTrue : MethodName := ⟨"QueryRunnerModel", "isTrue", "(I)Z"⟩
def ws_M_isTrue : List Cond := .code y_M_isTrue b_M_isTrue 2 (some .boolean) :: BIG
abbrev b_M_goTogether : ByteArray := prog_11_method_46_code
def y_M_goTogether : MethodName := ⟨"QueryRunnerModel", "goTogether", "()V"⟩
def ws_M_goTogether : List Cond := .code y_M_goTogether b_M_goTogether 1 none :: BIG
abbrev b_M_goes : ByteArray := prog_11_method_47_code
def y_M_goes : MethodName := ⟨"QueryRunnerModel", "goes", "(I)Z"⟩
def ws_M_goes : List Cond := .code y_M_goes b_M_goes 2 (some .boolean) :: BIG
abbrev b_M_goThird : ByteArray := prog_11_method_48_code
def y_M_goThird : MethodName := ⟨"QueryRunnerModel", "goThird", "()V"⟩
def ws_M_goThird : List Cond := .code y_M_goThird b_M_goThird 3 none :: BIG
abbrev b_M_goSecond : ByteArray := prog_11_method_49_code
def y_M_goSecond : MethodName := ⟨"QueryRunnerModel", "goSecond", "()V"⟩
def ws_M_goSecond : List Cond := .code y_M_goSecond b_M_goSecond 3 none :: BIG
abbrev b_M_goFirst : ByteArray := prog_11_method_50_code
def y_M_goFirst : MethodName := ⟨"QueryRunnerModel", "goFirst", "()V"⟩
def ws_M_goFirst : List Cond := .code y_M_goFirst b_M_goFirst 2 none :: BIG
abbrev b_M_moveRow : ByteArray := prog_11_method_52_code
def y_M_moveRow : MethodName := ⟨"QueryRunnerModel", "moveRow", "(II)V"⟩
def ws_M_moveRow : List Cond := .code y_M_moveRow b_M_moveRow 4 none :: BIG
abbrev b_M_isBefore : ByteArray := prog_11_method_55_code
def y_M_isBefore : MethodName := ⟨"QueryRunnerModel", "isBefore", "(II)Z"⟩
def ws_M_isBefore : List Cond := .code y_M_isBefore b_M_isBefore 8 (some .boolean) :: BIG
abbrev b_M_sort : ByteArray := prog_11_method_56_code
def y_M_sort : MethodName := ⟨"QueryRunnerModel", "sort", "()V"⟩
def ws_M_sort : List Cond := .code y_M_sort b_M_sort 3 none :: BIG
abbrev b_M_cut : ByteArray := prog_11_method_57_code
def y_M_cut : MethodName := ⟨"QueryRunnerModel", "cut", "()V"⟩
def ws_M_cut : List Cond := .code y_M_cut b_M_cut 3 none :: BIG
abbrev b_M_isSameRow : ByteArray := prog_11_method_53_code
def y_M_isSameRow : MethodName := ⟨"QueryRunnerModel", "isSameRow", "(II)Z"⟩
def ws_M_isSameRow : List Cond := .code y_M_isSameRow b_M_isSameRow 6 (some .boolean) :: BIG
abbrev b_M_leaveOut : ByteArray := prog_11_method_54_code
def y_M_leaveOut : MethodName := ⟨"QueryRunnerModel", "leaveOut", "()V"⟩
def ws_M_leaveOut : List Cond := .code y_M_leaveOut b_M_leaveOut 5 none :: BIG
abbrev b_M_goThroughGroups : ByteArray := prog_11_method_51_code
def y_M_goThroughGroups : MethodName := ⟨"QueryRunnerModel", "goThroughGroups", "()V"⟩
def ws_M_goThroughGroups : List Cond := .code y_M_goThroughGroups b_M_goThroughGroups 2 none :: BIG
abbrev b_M_ask : ByteArray := prog_11_method_30_code
def y_M_ask : MethodName := ⟨"QueryRunnerModel", "ask", "(I)V"⟩
def ws_M_ask : List Cond := .code y_M_ask b_M_ask 4 none :: BIG
abbrev b_M_isBound : ByteArray := prog_11_method_28_code
def y_M_isBound : MethodName := ⟨"QueryRunnerModel", "isBound", "(I)Z"⟩
def ws_M_isBound : List Cond := .code y_M_isBound b_M_isBound 5 (some .boolean) :: BIG
abbrev b_M_areAllBound : ByteArray := prog_11_method_29_code
def y_M_areAllBound : MethodName := ⟨"QueryRunnerModel", "areAllBound", "()Z"⟩
def ws_M_areAllBound : List Cond := .code y_M_areAllBound b_M_areAllBound 3 (some .boolean) :: BIG
abbrev b_M_areAggregatesRight : ByteArray := prog_11_method_26_code
def y_M_areAggregatesRight : MethodName := ⟨"QueryRunnerModel", "areAggregatesRight", "()Z"⟩
def ws_M_areAggregatesRight : List Cond := .code y_M_areAggregatesRight b_M_areAggregatesRight 3 (some .boolean) :: BIG
abbrev b_M_hasColumns : ByteArray := prog_11_method_24_code
def y_M_hasColumns : MethodName := ⟨"QueryRunnerModel", "hasColumns", "(II)Z"⟩
def ws_M_hasColumns : List Cond := .code y_M_hasColumns b_M_hasColumns 6 (some .boolean) :: BIG
abbrev b_M_areColumnsRight : ByteArray := prog_11_method_25_code
def y_M_areColumnsRight : MethodName := ⟨"QueryRunnerModel", "areColumnsRight", "()Z"⟩
def ws_M_areColumnsRight : List Cond := .code y_M_areColumnsRight b_M_areColumnsRight 3 (some .boolean) :: BIG
abbrev b_M_run : ByteArray := prog_11_method_58_code
def y_M_run : MethodName := ⟨"QueryRunnerModel", "run", "()I"⟩
def ws_M_run : List Cond := .code y_M_run b_M_run 2 (some .int) :: BIG
abbrev b_M_isThere : ByteArray := prog_11_method_59_code
def y_M_isThere : MethodName := ⟨"QueryRunnerModel", "isThere", "(II)Z"⟩
def ws_M_isThere : List Cond := .code y_M_isThere b_M_isThere 3 (some .boolean) :: BIG
abbrev b_M_cell : ByteArray := prog_11_method_60_code
def y_M_cell : MethodName := ⟨"QueryRunnerModel", "cell", "(II)J"⟩
def ws_M_cell : List Cond := .code y_M_cell b_M_cell 3 (some .long) :: BIG
abbrev b_M_isNull : ByteArray := prog_11_method_61_code
def y_M_isNull : MethodName := ⟨"QueryRunnerModel", "isNull", "(II)Z"⟩
def ws_M_isNull : List Cond := .code y_M_isNull b_M_isNull 3 (some .boolean) :: BIG
abbrev b_M_answer : ByteArray := prog_11_method_62_code
def y_M_answer : MethodName := ⟨"QueryRunnerModel", "answer", "(I)I"⟩
def ws_M_answer : List Cond := .code y_M_answer b_M_answer 2 (some .int) :: BIG
abbrev b_T_init : ByteArray := prog_9_method_1_code
def y_T_init : MethodName := ⟨"QueryRunner$Tables", "<init>", "()V"⟩
def ws_T_init : List Cond := .code y_T_init b_T_init 1 none :: BIG
abbrev b_E_init : ByteArray := prog_5_method_1_code
def y_E_init : MethodName := ⟨"QueryRunner$Expressions", "<init>", "()V"⟩
def ws_E_init : List Cond := .code y_E_init b_E_init 1 none :: BIG
abbrev b_Y_init : ByteArray := prog_7_method_1_code
def y_Y_init : MethodName := ⟨"QueryRunner$Query", "<init>", "()V"⟩
def ws_Y_init : List Cond := .code y_Y_init b_Y_init 1 none :: BIG
abbrev b_A_init : ByteArray := prog_2_method_1_code
def y_A_init : MethodName := ⟨"QueryRunner$Answer", "<init>", "()V"⟩
def ws_A_init : List Cond := .code y_A_init b_A_init 1 none :: BIG
abbrev b_C_init : ByteArray := prog_3_method_1_code
def y_C_init : MethodName := ⟨"QueryRunner$Checker", "<init>", "(LQueryRunner$Tables;LQueryRunner$Expressions;LQueryRunner$Query;)V"⟩
def ws_C_init : List Cond := .code y_C_init b_C_init 4 none :: BIG
abbrev b_V_init : ByteArray := prog_4_method_1_code
def y_V_init : MethodName := ⟨"QueryRunner$Evaluator", "<init>", "(LQueryRunner$Tables;LQueryRunner$Expressions;LQueryRunner$Query;)V"⟩
def ws_V_init : List Cond := .code y_V_init b_V_init 4 none :: BIG
abbrev b_R_init : ByteArray := prog_8_method_1_code
def y_R_init : MethodName := ⟨"QueryRunner$Runner", "<init>", "(LQueryRunner$Tables;LQueryRunner$Expressions;LQueryRunner$Query;LQueryRunner$Answer;)V"⟩
def ws_R_init : List Cond := .code y_R_init b_R_init 5 none :: BIG
abbrev b_Q_init : ByteArray := prog_1_method_1_code
def y_Q_init : MethodName := ⟨"QueryRunner", "<init>", "()V"⟩
def ws_Q_init : List Cond := .code y_Q_init b_Q_init 1 none :: BIG
abbrev b_G_init : ByteArray := prog_6_method_1_code
def y_G_init : MethodName := ⟨"QueryRunner$Groups", "<init>", "(LQueryRunner$Expressions;)V"⟩
def ws_G_init : List Cond := .code y_G_init b_G_init 2 none :: BIG
abbrev b_M_init : ByteArray := prog_11_method_1_code
def y_M_init : MethodName := ⟨"QueryRunnerModel", "<init>", "()V"⟩
def ws_M_init : List Cond := .code y_M_init b_M_init 1 none :: BIG
theorem ti_1 {w : Cond} (h : w ∈ tables_1_1) : w ∈ tables_1 := List.mem_append_left _ h
theorem ti_2 {w : Cond} (h : w ∈ tables_1_2) : w ∈ tables_1 := List.mem_append_right _ (List.mem_append_left _ h)
theorem ti_3 {w : Cond} (h : w ∈ tables_1_3) : w ∈ tables_1 := List.mem_append_right _ (List.mem_append_right _ (List.mem_append_left _ h))
theorem ti_4 {w : Cond} (h : w ∈ tables_1_4) : w ∈ tables_1 := List.mem_append_right _ (List.mem_append_right _ (List.mem_append_right _ (List.mem_append_left _ h)))
theorem ti_5 {w : Cond} (h : w ∈ tables_1_5) : w ∈ tables_1 := List.mem_append_right _ (List.mem_append_right _ (List.mem_append_right _ (List.mem_append_right _ (List.mem_append_left _ h))))
theorem ti_6 {w : Cond} (h : w ∈ tables_1_6) : w ∈ tables_1 := List.mem_append_right _ (List.mem_append_right _ (List.mem_append_right _ (List.mem_append_right _ (List.mem_append_right _ (h)))))
theorem m_0 : Cond.selects "QueryRunner$Expressions" ⟨"QueryRunner$Expressions", "partsOf", "(I)I"⟩ ⟨"QueryRunner$Expressions", "partsOf", "(I)I"⟩ ∈ BIG := bg_in (List.mem_append_left _ (List.mem_map.mpr ⟨(⟨"QueryRunner$Expressions", "partsOf", "(I)I"⟩, 13), List.mem_of_getElem? (i := 0) (by decide +kernel), rfl⟩)) rfl
theorem m_1 : Cond.selects "QueryRunner$Expressions" ⟨"QueryRunner$Expressions", "bitsOf", "([II)I"⟩ ⟨"QueryRunner$Expressions", "bitsOf", "([II)I"⟩ ∈ BIG := bg_in (List.mem_append_left _ (List.mem_map.mpr ⟨(⟨"QueryRunner$Expressions", "bitsOf", "([II)I"⟩, 13), List.mem_of_getElem? (i := 1) (by decide +kernel), rfl⟩)) rfl
theorem m_2 : Cond.selects "QueryRunner$Expressions" ⟨"QueryRunner$Expressions", "firstLike", "(I)I"⟩ ⟨"QueryRunner$Expressions", "firstLike", "(I)I"⟩ ∈ BIG := bg_in (List.mem_append_left _ (List.mem_map.mpr ⟨(⟨"QueryRunner$Expressions", "firstLike", "(I)I"⟩, 13), List.mem_of_getElem? (i := 2) (by decide +kernel), rfl⟩)) rfl
theorem m_3 : Cond.selects "QueryRunner$Expressions" ⟨"QueryRunner$Expressions", "likeOf", "(I)I"⟩ ⟨"QueryRunner$Expressions", "likeOf", "(I)I"⟩ ∈ BIG := bg_in (List.mem_append_left _ (List.mem_map.mpr ⟨(⟨"QueryRunner$Expressions", "likeOf", "(I)I"⟩, 13), List.mem_of_getElem? (i := 3) (by decide +kernel), rfl⟩)) rfl
theorem m_4 : Cond.selects "QueryRunner$Checker" ⟨"QueryRunner$Checker", "hasUnknownColumn", "()Z"⟩ ⟨"QueryRunner$Checker", "hasUnknownColumn", "()Z"⟩ ∈ BIG := bg_in (List.mem_append_left _ (List.mem_map.mpr ⟨(⟨"QueryRunner$Checker", "hasUnknownColumn", "()Z"⟩, 4), List.mem_of_getElem? (i := 4) (by decide +kernel), rfl⟩)) rfl
theorem m_5 : Cond.selects "QueryRunner$Checker" ⟨"QueryRunner$Checker", "bitsAt", "(I[I)I"⟩ ⟨"QueryRunner$Checker", "bitsAt", "(I[I)I"⟩ ∈ BIG := bg_in (List.mem_append_left _ (List.mem_map.mpr ⟨(⟨"QueryRunner$Checker", "bitsAt", "(I[I)I"⟩, 4), List.mem_of_getElem? (i := 5) (by decide +kernel), rfl⟩)) rfl
theorem m_6 : Cond.selects "QueryRunner$Checker" ⟨"QueryRunner$Checker", "columnsUpTo", "(I)I"⟩ ⟨"QueryRunner$Checker", "columnsUpTo", "(I)I"⟩ ∈ BIG := bg_in (List.mem_append_left _ (List.mem_map.mpr ⟨(⟨"QueryRunner$Checker", "columnsUpTo", "(I)I"⟩, 4), List.mem_of_getElem? (i := 6) (by decide +kernel), rfl⟩)) rfl
theorem m_7 : Cond.selects "QueryRunner$Checker" ⟨"QueryRunner$Checker", "bitsIn", "([II[I)I"⟩ ⟨"QueryRunner$Checker", "bitsIn", "([II[I)I"⟩ ∈ BIG := bg_in (List.mem_append_left _ (List.mem_map.mpr ⟨(⟨"QueryRunner$Checker", "bitsIn", "([II[I)I"⟩, 4), List.mem_of_getElem? (i := 7) (by decide +kernel), rfl⟩)) rfl
theorem m_8 : Cond.selects "QueryRunner$Checker" ⟨"QueryRunner$Checker", "hasEarlyAggregate", "()Z"⟩ ⟨"QueryRunner$Checker", "hasEarlyAggregate", "()Z"⟩ ∈ BIG := bg_in (List.mem_append_left _ (List.mem_map.mpr ⟨(⟨"QueryRunner$Checker", "hasEarlyAggregate", "()Z"⟩, 4), List.mem_of_getElem? (i := 8) (by decide +kernel), rfl⟩)) rfl
theorem m_9 : Cond.selects "QueryRunner$Checker" ⟨"QueryRunner$Checker", "hasLooseColumn", "()Z"⟩ ⟨"QueryRunner$Checker", "hasLooseColumn", "()Z"⟩ ∈ BIG := bg_in (List.mem_append_left _ (List.mem_map.mpr ⟨(⟨"QueryRunner$Checker", "hasLooseColumn", "()Z"⟩, 4), List.mem_of_getElem? (i := 9) (by decide +kernel), rfl⟩)) rfl
theorem m_10 : Cond.selects "QueryRunner$Checker" ⟨"QueryRunner$Checker", "isLikeGroup", "(I)Z"⟩ ⟨"QueryRunner$Checker", "isLikeGroup", "(I)Z"⟩ ∈ BIG := bg_in (List.mem_append_left _ (List.mem_map.mpr ⟨(⟨"QueryRunner$Checker", "isLikeGroup", "(I)Z"⟩, 4), List.mem_of_getElem? (i := 10) (by decide +kernel), rfl⟩)) rfl
theorem m_11 : Cond.selects "QueryRunner$Checker" ⟨"QueryRunner$Checker", "isLoose", "(I)Z"⟩ ⟨"QueryRunner$Checker", "isLoose", "(I)Z"⟩ ∈ BIG := bg_in (List.mem_append_left _ (List.mem_map.mpr ⟨(⟨"QueryRunner$Checker", "isLoose", "(I)Z"⟩, 4), List.mem_of_getElem? (i := 11) (by decide +kernel), rfl⟩)) rfl
theorem m_12 : Cond.selects "QueryRunner$Groups" ⟨"QueryRunner$Groups", "openGroup", "(I)V"⟩ ⟨"QueryRunner$Groups", "openGroup", "(I)V"⟩ ∈ BIG := bg_in (List.mem_append_left _ (List.mem_map.mpr ⟨(⟨"QueryRunner$Groups", "openGroup", "(I)V"⟩, 14), List.mem_of_getElem? (i := 12) (by decide +kernel), rfl⟩)) rfl
theorem m_13 : Cond.selects "QueryRunner$Runner" ⟨"QueryRunner$Runner", "joinFrom", "(I)I"⟩ ⟨"QueryRunner$Runner", "joinFrom", "(I)I"⟩ ∈ BIG := bg_in (List.mem_append_left _ (List.mem_map.mpr ⟨(⟨"QueryRunner$Runner", "joinFrom", "(I)I"⟩, 8), List.mem_of_getElem? (i := 13) (by decide +kernel), rfl⟩)) rfl
theorem m_14 : Cond.selects "QueryRunner$Runner" ⟨"QueryRunner$Runner", "takeRow", "()I"⟩ ⟨"QueryRunner$Runner", "takeRow", "()I"⟩ ∈ BIG := bg_in (List.mem_append_left _ (List.mem_map.mpr ⟨(⟨"QueryRunner$Runner", "takeRow", "()I"⟩, 8), List.mem_of_getElem? (i := 14) (by decide +kernel), rfl⟩)) rfl
theorem m_15 : Cond.selects "QueryRunner$Evaluator" ⟨"QueryRunner$Evaluator", "truth", "(II)I"⟩ ⟨"QueryRunner$Evaluator", "truth", "(II)I"⟩ ∈ BIG := bg_in (List.mem_append_left _ (List.mem_map.mpr ⟨(⟨"QueryRunner$Evaluator", "truth", "(II)I"⟩, 7), List.mem_of_getElem? (i := 15) (by decide +kernel), rfl⟩)) rfl
theorem m_16 : Cond.selects "QueryRunner$Evaluator" ⟨"QueryRunner$Evaluator", "junction", "(II)I"⟩ ⟨"QueryRunner$Evaluator", "junction", "(II)I"⟩ ∈ BIG := bg_in (List.mem_append_left _ (List.mem_map.mpr ⟨(⟨"QueryRunner$Evaluator", "junction", "(II)I"⟩, 7), List.mem_of_getElem? (i := 16) (by decide +kernel), rfl⟩)) rfl
theorem m_17 : Cond.selects "QueryRunner$Evaluator" ⟨"QueryRunner$Evaluator", "value", "(II)I"⟩ ⟨"QueryRunner$Evaluator", "value", "(II)I"⟩ ∈ BIG := bg_in (List.mem_append_left _ (List.mem_map.mpr ⟨(⟨"QueryRunner$Evaluator", "value", "(II)I"⟩, 7), List.mem_of_getElem? (i := 17) (by decide +kernel), rfl⟩)) rfl
theorem m_18 : Cond.selects "QueryRunner$Evaluator" ⟨"QueryRunner$Evaluator", "lookUp", "(I)I"⟩ ⟨"QueryRunner$Evaluator", "lookUp", "(I)I"⟩ ∈ BIG := bg_in (List.mem_append_left _ (List.mem_map.mpr ⟨(⟨"QueryRunner$Evaluator", "lookUp", "(I)I"⟩, 7), List.mem_of_getElem? (i := 18) (by decide +kernel), rfl⟩)) rfl
theorem m_19 : Cond.selects "QueryRunner$Evaluator" ⟨"QueryRunner$Evaluator", "ofGroup", "(I)I"⟩ ⟨"QueryRunner$Evaluator", "ofGroup", "(I)I"⟩ ∈ BIG := bg_in (List.mem_append_left _ (List.mem_map.mpr ⟨(⟨"QueryRunner$Evaluator", "ofGroup", "(I)I"⟩, 7), List.mem_of_getElem? (i := 19) (by decide +kernel), rfl⟩)) rfl
theorem m_20 : Cond.selects "QueryRunner$Evaluator" ⟨"QueryRunner$Evaluator", "operands", "(II)I"⟩ ⟨"QueryRunner$Evaluator", "operands", "(II)I"⟩ ∈ BIG := bg_in (List.mem_append_left _ (List.mem_map.mpr ⟨(⟨"QueryRunner$Evaluator", "operands", "(II)I"⟩, 7), List.mem_of_getElem? (i := 20) (by decide +kernel), rfl⟩)) rfl
theorem m_21 : Cond.selects "QueryRunner$Evaluator" ⟨"QueryRunner$Evaluator", "calculate", "(IJJ)I"⟩ ⟨"QueryRunner$Evaluator", "calculate", "(IJJ)I"⟩ ∈ BIG := bg_in (List.mem_append_left _ (List.mem_map.mpr ⟨(⟨"QueryRunner$Evaluator", "calculate", "(IJJ)I"⟩, 7), List.mem_of_getElem? (i := 21) (by decide +kernel), rfl⟩)) rfl
theorem m_22 : Cond.selects "QueryRunner$Runner" ⟨"QueryRunner$Runner", "groupRow", "()I"⟩ ⟨"QueryRunner$Runner", "groupRow", "()I"⟩ ∈ BIG := bg_in (List.mem_append_left _ (List.mem_map.mpr ⟨(⟨"QueryRunner$Runner", "groupRow", "()I"⟩, 8), List.mem_of_getElem? (i := 22) (by decide +kernel), rfl⟩)) rfl
theorem m_23 : Cond.selects "QueryRunner$Groups" ⟨"QueryRunner$Groups", "groupOfKeys", "(I)I"⟩ ⟨"QueryRunner$Groups", "groupOfKeys", "(I)I"⟩ ∈ BIG := bg_in (List.mem_append_left _ (List.mem_map.mpr ⟨(⟨"QueryRunner$Groups", "groupOfKeys", "(I)I"⟩, 14), List.mem_of_getElem? (i := 23) (by decide +kernel), rfl⟩)) rfl
theorem m_24 : Cond.selects "QueryRunner$Runner" ⟨"QueryRunner$Runner", "aggregateRow", "(LQueryRunner$Groups;I)I"⟩ ⟨"QueryRunner$Runner", "aggregateRow", "(LQueryRunner$Groups;I)I"⟩ ∈ BIG := bg_in (List.mem_append_left _ (List.mem_map.mpr ⟨(⟨"QueryRunner$Runner", "aggregateRow", "(LQueryRunner$Groups;I)I"⟩, 8), List.mem_of_getElem? (i := 24) (by decide +kernel), rfl⟩)) rfl
theorem m_25 : Cond.selects "QueryRunner$Groups" ⟨"QueryRunner$Groups", "wasCounted", "(IJ)Z"⟩ ⟨"QueryRunner$Groups", "wasCounted", "(IJ)Z"⟩ ∈ BIG := bg_in (List.mem_append_left _ (List.mem_map.mpr ⟨(⟨"QueryRunner$Groups", "wasCounted", "(IJ)Z"⟩, 14), List.mem_of_getElem? (i := 25) (by decide +kernel), rfl⟩)) rfl
theorem m_26 : Cond.selects "QueryRunner$Runner" ⟨"QueryRunner$Runner", "giveRow", "()I"⟩ ⟨"QueryRunner$Runner", "giveRow", "()I"⟩ ∈ BIG := bg_in (List.mem_append_left _ (List.mem_map.mpr ⟨(⟨"QueryRunner$Runner", "giveRow", "()I"⟩, 8), List.mem_of_getElem? (i := 26) (by decide +kernel), rfl⟩)) rfl
theorem m_27 : Cond.selects "QueryRunner$Answer" ⟨"QueryRunner$Answer", "isRepeated", "(I)Z"⟩ ⟨"QueryRunner$Answer", "isRepeated", "(I)Z"⟩ ∈ BIG := bg_in (List.mem_append_left _ (List.mem_map.mpr ⟨(⟨"QueryRunner$Answer", "isRepeated", "(I)Z"⟩, 7), List.mem_of_getElem? (i := 27) (by decide +kernel), rfl⟩)) rfl
theorem m_28 : Cond.selects "QueryRunner$Answer" ⟨"QueryRunner$Answer", "insertInOrder", "(IILQueryRunner$Query;)V"⟩ ⟨"QueryRunner$Answer", "insertInOrder", "(IILQueryRunner$Query;)V"⟩ ∈ BIG := bg_in (List.mem_append_left _ (List.mem_map.mpr ⟨(⟨"QueryRunner$Answer", "insertInOrder", "(IILQueryRunner$Query;)V"⟩, 7), List.mem_of_getElem? (i := 28) (by decide +kernel), rfl⟩)) rfl
theorem m_29 : Cond.selects "QueryRunner$Answer" ⟨"QueryRunner$Answer", "compare", "(IILQueryRunner$Query;)I"⟩ ⟨"QueryRunner$Answer", "compare", "(IILQueryRunner$Query;)I"⟩ ∈ BIG := bg_in (List.mem_append_left _ (List.mem_map.mpr ⟨(⟨"QueryRunner$Answer", "compare", "(IILQueryRunner$Query;)I"⟩, 7), List.mem_of_getElem? (i := 29) (by decide +kernel), rfl⟩)) rfl
theorem m_30 : Cond.selects "QueryRunner$Answer" ⟨"QueryRunner$Answer", "compareItem", "(III)I"⟩ ⟨"QueryRunner$Answer", "compareItem", "(III)I"⟩ ∈ BIG := bg_in (List.mem_append_left _ (List.mem_map.mpr ⟨(⟨"QueryRunner$Answer", "compareItem", "(III)I"⟩, 7), List.mem_of_getElem? (i := 30) (by decide +kernel), rfl⟩)) rfl
theorem m_31 : Cond.selects "QueryRunner$Answer" ⟨"QueryRunner$Answer", "isNullAt", "(II)Z"⟩ ⟨"QueryRunner$Answer", "isNullAt", "(II)Z"⟩ ∈ BIG := bg_in (List.mem_append_left _ (List.mem_map.mpr ⟨(⟨"QueryRunner$Answer", "isNullAt", "(II)Z"⟩, 7), List.mem_of_getElem? (i := 31) (by decide +kernel), rfl⟩)) rfl
theorem m_32 : Cond.selects "QueryRunnerModel" ⟨"QueryRunnerModel", "make", "(IIIJZ)I"⟩ ⟨"QueryRunnerModel", "make", "(IIIJZ)I"⟩ ∈ BIG := bg_in (List.mem_append_left _ (List.mem_map.mpr ⟨(⟨"QueryRunnerModel", "make", "(IIIJZ)I"⟩, 55), List.mem_of_getElem? (i := 32) (by decide +kernel), rfl⟩)) rfl
theorem m_33 : Cond.selects "QueryRunnerModel" ⟨"QueryRunnerModel", "isTwo", "(I)Z"⟩ ⟨"QueryRunnerModel", "isTwo", "(I)Z"⟩ ∈ BIG := bg_in (List.mem_append_left _ (List.mem_map.mpr ⟨(⟨"QueryRunnerModel", "isTwo", "(I)Z"⟩, 55), List.mem_of_getElem? (i := 33) (by decide +kernel), rfl⟩)) rfl
theorem m_34 : Cond.selects "QueryRunnerModel" ⟨"QueryRunnerModel", "isLike", "(II)Z"⟩ ⟨"QueryRunnerModel", "isLike", "(II)Z"⟩ ∈ BIG := bg_in (List.mem_append_left _ (List.mem_map.mpr ⟨(⟨"QueryRunnerModel", "isLike", "(II)Z"⟩, 55), List.mem_of_getElem? (i := 34) (by decide +kernel), rfl⟩)) rfl
theorem m_35 : Cond.selects "QueryRunnerModel" ⟨"QueryRunnerModel", "isExpression", "(I)Z"⟩ ⟨"QueryRunnerModel", "isExpression", "(I)Z"⟩ ∈ BIG := bg_in (List.mem_append_left _ (List.mem_map.mpr ⟨(⟨"QueryRunnerModel", "isExpression", "(I)Z"⟩, 55), List.mem_of_getElem? (i := 35) (by decide +kernel), rfl⟩)) rfl
theorem m_36 : Cond.selects "QueryRunnerModel" ⟨"QueryRunnerModel", "isOne", "(I)Z"⟩ ⟨"QueryRunnerModel", "isOne", "(I)Z"⟩ ∈ BIG := bg_in (List.mem_append_left _ (List.mem_map.mpr ⟨(⟨"QueryRunnerModel", "isOne", "(I)Z"⟩, 55), List.mem_of_getElem? (i := 36) (by decide +kernel), rfl⟩)) rfl
theorem m_37 : Cond.selects "QueryRunnerModel" ⟨"QueryRunnerModel", "isTruth", "(I)Z"⟩ ⟨"QueryRunnerModel", "isTruth", "(I)Z"⟩ ∈ BIG := bg_in (List.mem_append_left _ (List.mem_map.mpr ⟨(⟨"QueryRunnerModel", "isTruth", "(I)Z"⟩, 55), List.mem_of_getElem? (i := 37) (by decide +kernel), rfl⟩)) rfl
theorem m_38 : Cond.selects "QueryRunnerModel" ⟨"QueryRunnerModel", "areColumnsRight", "()Z"⟩ ⟨"QueryRunnerModel", "areColumnsRight", "()Z"⟩ ∈ BIG := bg_in (List.mem_append_left _ (List.mem_map.mpr ⟨(⟨"QueryRunnerModel", "areColumnsRight", "()Z"⟩, 55), List.mem_of_getElem? (i := 38) (by decide +kernel), rfl⟩)) rfl
theorem m_39 : Cond.selects "QueryRunnerModel" ⟨"QueryRunnerModel", "hasColumns", "(II)Z"⟩ ⟨"QueryRunnerModel", "hasColumns", "(II)Z"⟩ ∈ BIG := bg_in (List.mem_append_left _ (List.mem_map.mpr ⟨(⟨"QueryRunnerModel", "hasColumns", "(II)Z"⟩, 55), List.mem_of_getElem? (i := 39) (by decide +kernel), rfl⟩)) rfl
theorem m_40 : Cond.selects "QueryRunnerModel" ⟨"QueryRunnerModel", "push", "(I)V"⟩ ⟨"QueryRunnerModel", "push", "(I)V"⟩ ∈ BIG := bg_in (List.mem_append_left _ (List.mem_map.mpr ⟨(⟨"QueryRunnerModel", "push", "(I)V"⟩, 55), List.mem_of_getElem? (i := 40) (by decide +kernel), rfl⟩)) rfl
theorem m_41 : Cond.selects "QueryRunnerModel" ⟨"QueryRunnerModel", "areAggregatesRight", "()Z"⟩ ⟨"QueryRunnerModel", "areAggregatesRight", "()Z"⟩ ∈ BIG := bg_in (List.mem_append_left _ (List.mem_map.mpr ⟨(⟨"QueryRunnerModel", "areAggregatesRight", "()Z"⟩, 55), List.mem_of_getElem? (i := 41) (by decide +kernel), rfl⟩)) rfl
theorem m_42 : Cond.selects "QueryRunnerModel" ⟨"QueryRunnerModel", "areAllBound", "()Z"⟩ ⟨"QueryRunnerModel", "areAllBound", "()Z"⟩ ∈ BIG := bg_in (List.mem_append_left _ (List.mem_map.mpr ⟨(⟨"QueryRunnerModel", "areAllBound", "()Z"⟩, 55), List.mem_of_getElem? (i := 42) (by decide +kernel), rfl⟩)) rfl
theorem m_43 : Cond.selects "QueryRunnerModel" ⟨"QueryRunnerModel", "isBound", "(I)Z"⟩ ⟨"QueryRunnerModel", "isBound", "(I)Z"⟩ ∈ BIG := bg_in (List.mem_append_left _ (List.mem_map.mpr ⟨(⟨"QueryRunnerModel", "isBound", "(I)Z"⟩, 55), List.mem_of_getElem? (i := 43) (by decide +kernel), rfl⟩)) rfl
theorem m_44 : Cond.selects "QueryRunnerModel" ⟨"QueryRunnerModel", "groupLike", "(I)I"⟩ ⟨"QueryRunnerModel", "groupLike", "(I)I"⟩ ∈ BIG := bg_in (List.mem_append_left _ (List.mem_map.mpr ⟨(⟨"QueryRunnerModel", "groupLike", "(I)I"⟩, 55), List.mem_of_getElem? (i := 44) (by decide +kernel), rfl⟩)) rfl
theorem m_45 : Cond.selects "QueryRunnerModel" ⟨"QueryRunnerModel", "ask", "(I)V"⟩ ⟨"QueryRunnerModel", "ask", "(I)V"⟩ ∈ BIG := bg_in (List.mem_append_left _ (List.mem_map.mpr ⟨(⟨"QueryRunnerModel", "ask", "(I)V"⟩, 55), List.mem_of_getElem? (i := 45) (by decide +kernel), rfl⟩)) rfl
theorem m_46 : Cond.selects "QueryRunnerModel" ⟨"QueryRunnerModel", "goFirst", "()V"⟩ ⟨"QueryRunnerModel", "goFirst", "()V"⟩ ∈ BIG := bg_in (List.mem_append_left _ (List.mem_map.mpr ⟨(⟨"QueryRunnerModel", "goFirst", "()V"⟩, 55), List.mem_of_getElem? (i := 46) (by decide +kernel), rfl⟩)) rfl
theorem m_47 : Cond.selects "QueryRunnerModel" ⟨"QueryRunnerModel", "goSecond", "()V"⟩ ⟨"QueryRunnerModel", "goSecond", "()V"⟩ ∈ BIG := bg_in (List.mem_append_left _ (List.mem_map.mpr ⟨(⟨"QueryRunnerModel", "goSecond", "()V"⟩, 55), List.mem_of_getElem? (i := 47) (by decide +kernel), rfl⟩)) rfl
theorem m_48 : Cond.selects "QueryRunnerModel" ⟨"QueryRunnerModel", "goTogether", "()V"⟩ ⟨"QueryRunnerModel", "goTogether", "()V"⟩ ∈ BIG := bg_in (List.mem_append_left _ (List.mem_map.mpr ⟨(⟨"QueryRunnerModel", "goTogether", "()V"⟩, 55), List.mem_of_getElem? (i := 48) (by decide +kernel), rfl⟩)) rfl
theorem m_49 : Cond.selects "QueryRunnerModel" ⟨"QueryRunnerModel", "isTrue", "(I)Z"⟩ ⟨"QueryRunnerModel", "isTrue", "(I)Z"⟩ ∈ BIG := bg_in (List.mem_append_left _ (List.mem_map.mpr ⟨(⟨"QueryRunnerModel", "isTrue", "(I)Z"⟩, 55), List.mem_of_getElem? (i := 49) (by decide +kernel), rfl⟩)) rfl
theorem m_50 : Cond.selects "QueryRunnerModel" ⟨"QueryRunnerModel", "workOut", "(I)V"⟩ ⟨"QueryRunnerModel", "workOut", "(I)V"⟩ ∈ BIG := bg_in (List.mem_append_left _ (List.mem_map.mpr ⟨(⟨"QueryRunnerModel", "workOut", "(I)V"⟩, 55), List.mem_of_getElem? (i := 50) (by decide +kernel), rfl⟩)) rfl
theorem m_51 : Cond.selects "QueryRunnerModel" ⟨"QueryRunnerModel", "lookOnce", "()V"⟩ ⟨"QueryRunnerModel", "lookOnce", "()V"⟩ ∈ BIG := bg_in (List.mem_append_left _ (List.mem_map.mpr ⟨(⟨"QueryRunnerModel", "lookOnce", "()V"⟩, 55), List.mem_of_getElem? (i := 51) (by decide +kernel), rfl⟩)) rfl
theorem m_52 : Cond.selects "QueryRunnerModel" ⟨"QueryRunnerModel", "give", "(JZ)V"⟩ ⟨"QueryRunnerModel", "give", "(JZ)V"⟩ ∈ BIG := bg_in (List.mem_append_left _ (List.mem_map.mpr ⟨(⟨"QueryRunnerModel", "give", "(JZ)V"⟩, 55), List.mem_of_getElem? (i := 52) (by decide +kernel), rfl⟩)) rfl
theorem m_53 : Cond.selects "QueryRunnerModel" ⟨"QueryRunnerModel", "giveColumn", "(I)V"⟩ ⟨"QueryRunnerModel", "giveColumn", "(I)V"⟩ ∈ BIG := bg_in (List.mem_append_left _ (List.mem_map.mpr ⟨(⟨"QueryRunnerModel", "giveColumn", "(I)V"⟩, 55), List.mem_of_getElem? (i := 53) (by decide +kernel), rfl⟩)) rfl
theorem m_54 : Cond.selects "QueryRunnerModel" ⟨"QueryRunnerModel", "giveAggregate", "(I)V"⟩ ⟨"QueryRunnerModel", "giveAggregate", "(I)V"⟩ ∈ BIG := bg_in (List.mem_append_left _ (List.mem_map.mpr ⟨(⟨"QueryRunnerModel", "giveAggregate", "(I)V"⟩, 55), List.mem_of_getElem? (i := 54) (by decide +kernel), rfl⟩)) rfl
theorem m_55 : Cond.selects "QueryRunnerModel" ⟨"QueryRunnerModel", "aggregateNumber", "(I)I"⟩ ⟨"QueryRunnerModel", "aggregateNumber", "(I)I"⟩ ∈ BIG := bg_in (List.mem_append_left _ (List.mem_map.mpr ⟨(⟨"QueryRunnerModel", "aggregateNumber", "(I)I"⟩, 55), List.mem_of_getElem? (i := 55) (by decide +kernel), rfl⟩)) rfl
theorem m_56 : Cond.selects "QueryRunnerModel" ⟨"QueryRunnerModel", "countsIn", "(II)Z"⟩ ⟨"QueryRunnerModel", "countsIn", "(II)Z"⟩ ∈ BIG := bg_in (List.mem_append_left _ (List.mem_map.mpr ⟨(⟨"QueryRunnerModel", "countsIn", "(II)Z"⟩, 55), List.mem_of_getElem? (i := 56) (by decide +kernel), rfl⟩)) rfl
theorem m_57 : Cond.selects "QueryRunnerModel" ⟨"QueryRunnerModel", "combine", "(I)V"⟩ ⟨"QueryRunnerModel", "combine", "(I)V"⟩ ∈ BIG := bg_in (List.mem_append_left _ (List.mem_map.mpr ⟨(⟨"QueryRunnerModel", "combine", "(I)V"⟩, 55), List.mem_of_getElem? (i := 57) (by decide +kernel), rfl⟩)) rfl
theorem m_58 : Cond.selects "QueryRunnerModel" ⟨"QueryRunnerModel", "reckon", "(IJJ)J"⟩ ⟨"QueryRunnerModel", "reckon", "(IJJ)J"⟩ ∈ BIG := bg_in (List.mem_append_left _ (List.mem_map.mpr ⟨(⟨"QueryRunnerModel", "reckon", "(IJJ)J"⟩, 55), List.mem_of_getElem? (i := 58) (by decide +kernel), rfl⟩)) rfl
theorem m_59 : Cond.selects "QueryRunnerModel" ⟨"QueryRunnerModel", "putInGroup", "()V"⟩ ⟨"QueryRunnerModel", "putInGroup", "()V"⟩ ∈ BIG := bg_in (List.mem_append_left _ (List.mem_map.mpr ⟨(⟨"QueryRunnerModel", "putInGroup", "()V"⟩, 55), List.mem_of_getElem? (i := 59) (by decide +kernel), rfl⟩)) rfl
theorem m_60 : Cond.selects "QueryRunnerModel" ⟨"QueryRunnerModel", "findGroup", "()I"⟩ ⟨"QueryRunnerModel", "findGroup", "()I"⟩ ∈ BIG := bg_in (List.mem_append_left _ (List.mem_map.mpr ⟨(⟨"QueryRunnerModel", "findGroup", "()I"⟩, 55), List.mem_of_getElem? (i := 60) (by decide +kernel), rfl⟩)) rfl
theorem m_61 : Cond.selects "QueryRunnerModel" ⟨"QueryRunnerModel", "giveRow", "()V"⟩ ⟨"QueryRunnerModel", "giveRow", "()V"⟩ ∈ BIG := bg_in (List.mem_append_left _ (List.mem_map.mpr ⟨(⟨"QueryRunnerModel", "giveRow", "()V"⟩, 55), List.mem_of_getElem? (i := 61) (by decide +kernel), rfl⟩)) rfl
theorem m_62 : Cond.selects "QueryRunnerModel" ⟨"QueryRunnerModel", "goes", "(I)Z"⟩ ⟨"QueryRunnerModel", "goes", "(I)Z"⟩ ∈ BIG := bg_in (List.mem_append_left _ (List.mem_map.mpr ⟨(⟨"QueryRunnerModel", "goes", "(I)Z"⟩, 55), List.mem_of_getElem? (i := 62) (by decide +kernel), rfl⟩)) rfl
theorem m_63 : Cond.selects "QueryRunnerModel" ⟨"QueryRunnerModel", "goThird", "()V"⟩ ⟨"QueryRunnerModel", "goThird", "()V"⟩ ∈ BIG := bg_in (List.mem_append_left _ (List.mem_map.mpr ⟨(⟨"QueryRunnerModel", "goThird", "()V"⟩, 55), List.mem_of_getElem? (i := 63) (by decide +kernel), rfl⟩)) rfl
theorem m_64 : Cond.selects "QueryRunnerModel" ⟨"QueryRunnerModel", "goThroughGroups", "()V"⟩ ⟨"QueryRunnerModel", "goThroughGroups", "()V"⟩ ∈ BIG := bg_in (List.mem_append_left _ (List.mem_map.mpr ⟨(⟨"QueryRunnerModel", "goThroughGroups", "()V"⟩, 55), List.mem_of_getElem? (i := 64) (by decide +kernel), rfl⟩)) rfl
theorem m_65 : Cond.selects "QueryRunnerModel" ⟨"QueryRunnerModel", "leaveOut", "()V"⟩ ⟨"QueryRunnerModel", "leaveOut", "()V"⟩ ∈ BIG := bg_in (List.mem_append_left _ (List.mem_map.mpr ⟨(⟨"QueryRunnerModel", "leaveOut", "()V"⟩, 55), List.mem_of_getElem? (i := 65) (by decide +kernel), rfl⟩)) rfl
theorem m_66 : Cond.selects "QueryRunnerModel" ⟨"QueryRunnerModel", "isSameRow", "(II)Z"⟩ ⟨"QueryRunnerModel", "isSameRow", "(II)Z"⟩ ∈ BIG := bg_in (List.mem_append_left _ (List.mem_map.mpr ⟨(⟨"QueryRunnerModel", "isSameRow", "(II)Z"⟩, 55), List.mem_of_getElem? (i := 66) (by decide +kernel), rfl⟩)) rfl
theorem m_67 : Cond.selects "QueryRunnerModel" ⟨"QueryRunnerModel", "moveRow", "(II)V"⟩ ⟨"QueryRunnerModel", "moveRow", "(II)V"⟩ ∈ BIG := bg_in (List.mem_append_left _ (List.mem_map.mpr ⟨(⟨"QueryRunnerModel", "moveRow", "(II)V"⟩, 55), List.mem_of_getElem? (i := 67) (by decide +kernel), rfl⟩)) rfl
theorem m_68 : Cond.selects "QueryRunnerModel" ⟨"QueryRunnerModel", "sort", "()V"⟩ ⟨"QueryRunnerModel", "sort", "()V"⟩ ∈ BIG := bg_in (List.mem_append_left _ (List.mem_map.mpr ⟨(⟨"QueryRunnerModel", "sort", "()V"⟩, 55), List.mem_of_getElem? (i := 68) (by decide +kernel), rfl⟩)) rfl
theorem m_69 : Cond.selects "QueryRunnerModel" ⟨"QueryRunnerModel", "isBefore", "(II)Z"⟩ ⟨"QueryRunnerModel", "isBefore", "(II)Z"⟩ ∈ BIG := bg_in (List.mem_append_left _ (List.mem_map.mpr ⟨(⟨"QueryRunnerModel", "isBefore", "(II)Z"⟩, 55), List.mem_of_getElem? (i := 69) (by decide +kernel), rfl⟩)) rfl
theorem m_70 : Cond.selects "QueryRunnerModel" ⟨"QueryRunnerModel", "cut", "()V"⟩ ⟨"QueryRunnerModel", "cut", "()V"⟩ ∈ BIG := bg_in (List.mem_append_left _ (List.mem_map.mpr ⟨(⟨"QueryRunnerModel", "cut", "()V"⟩, 55), List.mem_of_getElem? (i := 70) (by decide +kernel), rfl⟩)) rfl
theorem m_71 : Cond.selects "QueryRunnerModel" ⟨"QueryRunnerModel", "isThere", "(II)Z"⟩ ⟨"QueryRunnerModel", "isThere", "(II)Z"⟩ ∈ BIG := bg_in (List.mem_append_left _ (List.mem_map.mpr ⟨(⟨"QueryRunnerModel", "isThere", "(II)Z"⟩, 55), List.mem_of_getElem? (i := 71) (by decide +kernel), rfl⟩)) rfl
theorem m_73 : (Jvm.Cond.initialized "QueryRunner") ∈ BIG := bg_t (ti_1 (List.mem_of_getElem? (i := 1) (by decide +kernel))) rfl
theorem m_74 : (Jvm.Cond.initialized "QueryRunner$Tables") ∈ BIG := bg_t (ti_1 (List.mem_of_getElem? (i := 2) (by decide +kernel))) rfl
theorem m_75 : (Jvm.Cond.initialized "QueryRunner$Expressions") ∈ BIG := bg_t (ti_1 (List.mem_of_getElem? (i := 3) (by decide +kernel))) rfl
theorem m_76 : (Jvm.Cond.initialized "QueryRunner$Query") ∈ BIG := bg_t (ti_1 (List.mem_of_getElem? (i := 4) (by decide +kernel))) rfl
theorem m_77 : (Jvm.Cond.initialized "QueryRunner$Answer") ∈ BIG := bg_t (ti_1 (List.mem_of_getElem? (i := 5) (by decide +kernel))) rfl
theorem m_78 : (Jvm.Cond.initialized "QueryRunner$Runner") ∈ BIG := bg_t (ti_1 (List.mem_of_getElem? (i := 6) (by decide +kernel))) rfl
theorem m_79 : (Jvm.Cond.initialized "QueryRunner$Checker") ∈ BIG := bg_t (ti_1 (List.mem_of_getElem? (i := 7) (by decide +kernel))) rfl
theorem m_80 : (Jvm.Cond.initialized "QueryRunner$Evaluator") ∈ BIG := bg_t (ti_1 (List.mem_of_getElem? (i := 8) (by decide +kernel))) rfl
theorem m_81 : (Jvm.Cond.initialized "QueryRunnerModel") ∈ BIG := bg_t (ti_1 (List.mem_of_getElem? (i := 9) (by decide +kernel))) rfl
theorem m_82 : (Jvm.Cond.initialized "java/lang/Math") ∈ BIG := bg_t (ti_1 (List.mem_of_getElem? (i := 10) (by decide +kernel))) rfl
theorem m_83 : (Jvm.Cond.initialized "java/lang/System") ∈ BIG := bg_t (ti_1 (List.mem_of_getElem? (i := 11) (by decide +kernel))) rfl
theorem m_84 : (Jvm.Cond.initialized "QueryRunner$Groups") ∈ BIG := bg_t (ti_1 (List.mem_of_getElem? (i := 12) (by decide +kernel))) rfl
theorem m_85 : (Jvm.Cond.initialized "java/lang/Long") ∈ BIG := bg_t (ti_1 (List.mem_of_getElem? (i := 13) (by decide +kernel))) rfl
theorem m_86 : (Jvm.Cond.classLink "QueryRunnerLaw" (7 : Nat) "QueryRunner") ∈ BIG := bg_t (ti_1 (List.mem_of_getElem? (i := 14) (by decide +kernel))) rfl
theorem m_87 : (Jvm.Cond.instantiable "QueryRunner" (5 : Nat)) ∈ BIG := bg_t (ti_1 (List.mem_of_getElem? (i := 15) (by decide +kernel))) rfl
theorem m_88 : (Jvm.Cond.methodLink "QueryRunnerLaw" (9 : Nat) ({ cls := "QueryRunner", name := "<init>", desc := "()V" } : Jvm.MethodName)) ∈ BIG := bg_t (ti_1 (List.mem_of_getElem? (i := 16) (by decide +kernel))) rfl
theorem m_89 : (Jvm.Cond.instanceMethod ({ cls := "QueryRunner", name := "<init>", desc := "()V" } : Jvm.MethodName)) ∈ BIG := bg_t (ti_1 (List.mem_of_getElem? (i := 17) (by decide +kernel))) rfl
theorem m_90 : (Jvm.Cond.code ({ cls := "QueryRunner", name := "<init>", desc := "()V" } : Jvm.MethodName) prog_1_method_1_code (1 : Nat) (Option.none : Option Jvm.ClassFile.FieldType)) ∈ BIG := bg_t (ti_1 (List.mem_of_getElem? (i := 18) rfl)) rfl
theorem m_91 : (Jvm.Cond.methodLink "QueryRunner" (1 : Nat) ({ cls := "java/lang/Object", name := "<init>", desc := "()V" } : Jvm.MethodName)) ∈ BIG := bg_t (ti_1 (List.mem_of_getElem? (i := 19) (by decide +kernel))) rfl
theorem m_92 : (Jvm.Cond.instanceMethod ({ cls := "java/lang/Object", name := "<init>", desc := "()V" } : Jvm.MethodName)) ∈ BIG := bg_t (ti_1 (List.mem_of_getElem? (i := 20) (by decide +kernel))) rfl
theorem m_93 : (Jvm.Cond.code ({ cls := "java/lang/Object", name := "<init>", desc := "()V" } : Jvm.MethodName) object_method_1_code (1 : Nat) (Option.none : Option Jvm.ClassFile.FieldType)) ∈ BIG := bg_t (ti_1 (List.mem_of_getElem? (i := 21) rfl)) rfl
theorem m_94 : (Jvm.Cond.classLink "QueryRunner" (7 : Nat) "QueryRunner$Tables") ∈ BIG := bg_t (ti_1 (List.mem_of_getElem? (i := 22) (by decide +kernel))) rfl
theorem m_95 : (Jvm.Cond.instantiable "QueryRunner$Tables" (5 : Nat)) ∈ BIG := bg_t (ti_1 (List.mem_of_getElem? (i := 23) (by decide +kernel))) rfl
theorem m_97 : (Jvm.Cond.instanceMethod ({ cls := "QueryRunner$Tables", name := "<init>", desc := "()V" } : Jvm.MethodName)) ∈ BIG := bg_t (ti_1 (List.mem_of_getElem? (i := 25) (by decide +kernel))) rfl
theorem m_98 : (Jvm.Cond.code ({ cls := "QueryRunner$Tables", name := "<init>", desc := "()V" } : Jvm.MethodName) prog_9_method_1_code (1 : Nat) (Option.none : Option Jvm.ClassFile.FieldType)) ∈ BIG := bg_t (ti_1 (List.mem_of_getElem? (i := 26) rfl)) rfl
theorem m_99 : (Jvm.Cond.methodLink "QueryRunner$Tables" (3 : Nat) ({ cls := "java/lang/Object", name := "<init>", desc := "()V" } : Jvm.MethodName)) ∈ BIG := bg_t (ti_1 (List.mem_of_getElem? (i := 27) (by decide +kernel))) rfl
theorem m_100 : (Jvm.Cond.fieldLink "QueryRunner$Tables" (25 : Nat) "QueryRunner$Tables" "count" "I") ∈ BIG := bg_t (ti_1 (List.mem_of_getElem? (i := 28) (by decide +kernel))) rfl
theorem m_101 : (Jvm.Cond.fieldLink "QueryRunner" (46 : Nat) "QueryRunner$Tables" "count" "I") ∈ BIG := bg_t (ti_1 (List.mem_of_getElem? (i := 29) (by decide +kernel))) rfl
theorem m_102 : (Jvm.Cond.fieldLink "QueryRunner$Tables" (9 : Nat) "QueryRunner$Tables" "columns" "[I") ∈ BIG := bg_t (ti_1 (List.mem_of_getElem? (i := 30) (by decide +kernel))) rfl
theorem m_103 : (Jvm.Cond.fieldLink "QueryRunner" (58 : Nat) "QueryRunner$Tables" "columns" "[I") ∈ BIG := bg_t (ti_1 (List.mem_of_getElem? (i := 31) (by decide +kernel))) rfl
theorem m_104 : (Jvm.Cond.fieldLink "QueryRunner$Checker" (118 : Nat) "QueryRunner$Tables" "columns" "[I") ∈ BIG := bg_t (ti_1 (List.mem_of_getElem? (i := 32) (by decide +kernel))) rfl
theorem m_105 : (Jvm.Cond.fieldLink "QueryRunner$Tables" (15 : Nat) "QueryRunner$Tables" "rows" "[I") ∈ BIG := bg_t (ti_1 (List.mem_of_getElem? (i := 33) (by decide +kernel))) rfl
theorem m_106 : (Jvm.Cond.fieldLink "QueryRunner$Runner" (85 : Nat) "QueryRunner$Tables" "rows" "[I") ∈ BIG := bg_t (ti_1 (List.mem_of_getElem? (i := 34) (by decide +kernel))) rfl
theorem m_107 : (Jvm.Cond.fieldLink "QueryRunner" (72 : Nat) "QueryRunner$Tables" "rows" "[I") ∈ BIG := bg_t (ti_1 (List.mem_of_getElem? (i := 35) (by decide +kernel))) rfl
theorem m_108 : (Jvm.Cond.fieldLink "QueryRunner$Tables" (18 : Nat) "QueryRunner$Tables" "numbers" "[J") ∈ BIG := bg_t (ti_1 (List.mem_of_getElem? (i := 36) (by decide +kernel))) rfl
theorem m_109 : (Jvm.Cond.fieldLink "QueryRunner$Evaluator" (88 : Nat) "QueryRunner$Tables" "numbers" "[J") ∈ BIG := bg_t (ti_1 (List.mem_of_getElem? (i := 37) (by decide +kernel))) rfl
theorem m_110 : (Jvm.Cond.fieldLink "QueryRunner$Tables" (22 : Nat) "QueryRunner$Tables" "nullBits" "[I") ∈ BIG := bg_t (ti_1 (List.mem_of_getElem? (i := 38) (by decide +kernel))) rfl
theorem m_111 : (Jvm.Cond.fieldLink "QueryRunner$Evaluator" (83 : Nat) "QueryRunner$Tables" "nullBits" "[I") ∈ BIG := bg_t (ti_1 (List.mem_of_getElem? (i := 39) (by decide +kernel))) rfl
theorem m_123 : (Jvm.Cond.arrayClass Jvm.ClassFile.FieldType.int) ∈ BIG := bg_t (ti_1 (List.mem_of_getElem? (i := 51) (by decide +kernel))) rfl
theorem m_124 : (Jvm.Cond.arrayClass Jvm.ClassFile.FieldType.long) ∈ BIG := bg_t (ti_1 (List.mem_of_getElem? (i := 52) (by decide +kernel))) rfl
theorem m_125 : (Jvm.Cond.classLink "QueryRunner" (16 : Nat) "QueryRunner$Expressions") ∈ BIG := bg_t (ti_1 (List.mem_of_getElem? (i := 53) (by decide +kernel))) rfl
theorem m_126 : (Jvm.Cond.instantiable "QueryRunner$Expressions" (13 : Nat)) ∈ BIG := bg_t (ti_1 (List.mem_of_getElem? (i := 54) (by decide +kernel))) rfl
theorem m_128 : (Jvm.Cond.instanceMethod ({ cls := "QueryRunner$Expressions", name := "<init>", desc := "()V" } : Jvm.MethodName)) ∈ BIG := bg_t (ti_1 (List.mem_of_getElem? (i := 56) (by decide +kernel))) rfl
theorem m_129 : (Jvm.Cond.code ({ cls := "QueryRunner$Expressions", name := "<init>", desc := "()V" } : Jvm.MethodName) prog_5_method_1_code (1 : Nat) (Option.none : Option Jvm.ClassFile.FieldType)) ∈ BIG := bg_t (ti_1 (List.mem_of_getElem? (i := 57) rfl)) rfl
theorem m_130 : (Jvm.Cond.methodLink "QueryRunner$Expressions" (3 : Nat) ({ cls := "java/lang/Object", name := "<init>", desc := "()V" } : Jvm.MethodName)) ∈ BIG := bg_t (ti_1 (List.mem_of_getElem? (i := 58) (by decide +kernel))) rfl
theorem m_131 : (Jvm.Cond.fieldLink "QueryRunner$Expressions" (47 : Nat) "QueryRunner$Expressions" "count" "I") ∈ BIG := bg_t (ti_1 (List.mem_of_getElem? (i := 59) (by decide +kernel))) rfl
theorem m_132 : (Jvm.Cond.fieldLink "QueryRunner" (79 : Nat) "QueryRunner$Expressions" "count" "I") ∈ BIG := bg_t (ti_1 (List.mem_of_getElem? (i := 60) (by decide +kernel))) rfl
theorem m_133 : (Jvm.Cond.fieldLink "QueryRunner$Checker" (92 : Nat) "QueryRunner$Expressions" "count" "I") ∈ BIG := bg_t (ti_1 (List.mem_of_getElem? (i := 61) (by decide +kernel))) rfl
theorem m_134 : (Jvm.Cond.fieldLink "QueryRunner$Expressions" (51 : Nat) "QueryRunner$Expressions" "aggregateCount" "I") ∈ BIG := bg_t (ti_1 (List.mem_of_getElem? (i := 62) (by decide +kernel))) rfl
theorem m_135 : (Jvm.Cond.fieldLink "QueryRunner$Runner" (169 : Nat) "QueryRunner$Expressions" "aggregateCount" "I") ∈ BIG := bg_t (ti_1 (List.mem_of_getElem? (i := 63) (by decide +kernel))) rfl
theorem m_136 : (Jvm.Cond.fieldLink "QueryRunner" (99 : Nat) "QueryRunner$Expressions" "aggregateCount" "I") ∈ BIG := bg_t (ti_1 (List.mem_of_getElem? (i := 64) (by decide +kernel))) rfl
theorem m_137 : (Jvm.Cond.fieldLink "QueryRunner$Expressions" (9 : Nat) "QueryRunner$Expressions" "kind" "[I") ∈ BIG := bg_t (ti_1 (List.mem_of_getElem? (i := 65) (by decide +kernel))) rfl
theorem m_138 : (Jvm.Cond.fieldLink "QueryRunner$Evaluator" (37 : Nat) "QueryRunner$Expressions" "kind" "[I") ∈ BIG := bg_t (ti_1 (List.mem_of_getElem? (i := 66) (by decide +kernel))) rfl
theorem m_139 : (Jvm.Cond.fieldLink "QueryRunner$Checker" (109 : Nat) "QueryRunner$Expressions" "kind" "[I") ∈ BIG := bg_t (ti_1 (List.mem_of_getElem? (i := 67) (by decide +kernel))) rfl
theorem m_140 : (Jvm.Cond.fieldLink "QueryRunner$Expressions" (15 : Nat) "QueryRunner$Expressions" "detail" "[J") ∈ BIG := bg_t (ti_1 (List.mem_of_getElem? (i := 68) (by decide +kernel))) rfl
theorem m_141 : (Jvm.Cond.fieldLink "QueryRunner$Evaluator" (40 : Nat) "QueryRunner$Expressions" "detail" "[J") ∈ BIG := bg_t (ti_1 (List.mem_of_getElem? (i := 69) (by decide +kernel))) rfl
theorem m_142 : (Jvm.Cond.fieldLink "QueryRunner$Expressions" (19 : Nat) "QueryRunner$Expressions" "first" "[I") ∈ BIG := bg_t (ti_1 (List.mem_of_getElem? (i := 70) (by decide +kernel))) rfl
theorem m_143 : (Jvm.Cond.fieldLink "QueryRunner$Evaluator" (65 : Nat) "QueryRunner$Expressions" "first" "[I") ∈ BIG := bg_t (ti_1 (List.mem_of_getElem? (i := 71) (by decide +kernel))) rfl
theorem m_144 : (Jvm.Cond.fieldLink "QueryRunner$Checker" (112 : Nat) "QueryRunner$Expressions" "first" "[I") ∈ BIG := bg_t (ti_1 (List.mem_of_getElem? (i := 72) (by decide +kernel))) rfl
theorem m_145 : (Jvm.Cond.fieldLink "QueryRunner$Expressions" (22 : Nat) "QueryRunner$Expressions" "second" "[I") ∈ BIG := bg_t (ti_1 (List.mem_of_getElem? (i := 73) (by decide +kernel))) rfl
theorem m_146 : (Jvm.Cond.fieldLink "QueryRunner$Evaluator" (104 : Nat) "QueryRunner$Expressions" "second" "[I") ∈ BIG := bg_t (ti_1 (List.mem_of_getElem? (i := 74) (by decide +kernel))) rfl
theorem m_147 : (Jvm.Cond.fieldLink "QueryRunner$Checker" (115 : Nat) "QueryRunner$Expressions" "second" "[I") ∈ BIG := bg_t (ti_1 (List.mem_of_getElem? (i := 75) (by decide +kernel))) rfl
theorem m_148 : (Jvm.Cond.fieldLink "QueryRunner$Expressions" (25 : Nat) "QueryRunner$Expressions" "parts" "[I") ∈ BIG := bg_t (ti_1 (List.mem_of_getElem? (i := 76) (by decide +kernel))) rfl
theorem m_149 : (Jvm.Cond.fieldLink "QueryRunner$Expressions" (28 : Nat) "QueryRunner$Expressions" "like" "[I") ∈ BIG := bg_t (ti_1 (List.mem_of_getElem? (i := 77) (by decide +kernel))) rfl
theorem m_150 : (Jvm.Cond.fieldLink "QueryRunner$Expressions" (31 : Nat) "QueryRunner$Expressions" "columnBits" "[I") ∈ BIG := bg_t (ti_1 (List.mem_of_getElem? (i := 78) (by decide +kernel))) rfl
theorem m_151 : (Jvm.Cond.fieldLink "QueryRunner$Checker" (79 : Nat) "QueryRunner$Expressions" "columnBits" "[I") ∈ BIG := bg_t (ti_1 (List.mem_of_getElem? (i := 79) (by decide +kernel))) rfl
theorem m_152 : (Jvm.Cond.fieldLink "QueryRunner$Expressions" (34 : Nat) "QueryRunner$Expressions" "aggregateBits" "[I") ∈ BIG := bg_t (ti_1 (List.mem_of_getElem? (i := 80) (by decide +kernel))) rfl
theorem m_153 : (Jvm.Cond.fieldLink "QueryRunner$Checker" (63 : Nat) "QueryRunner$Expressions" "aggregateBits" "[I") ∈ BIG := bg_t (ti_1 (List.mem_of_getElem? (i := 81) (by decide +kernel))) rfl
theorem m_154 : (Jvm.Cond.fieldLink "QueryRunner" (96 : Nat) "QueryRunner$Expressions" "aggregateBits" "[I") ∈ BIG := bg_t (ti_1 (List.mem_of_getElem? (i := 82) (by decide +kernel))) rfl
theorem m_155 : (Jvm.Cond.fieldLink "QueryRunner$Expressions" (37 : Nat) "QueryRunner$Expressions" "aggregateKind" "[I") ∈ BIG := bg_t (ti_1 (List.mem_of_getElem? (i := 83) (by decide +kernel))) rfl
theorem m_156 : (Jvm.Cond.fieldLink "QueryRunner$Groups" (79 : Nat) "QueryRunner$Expressions" "aggregateKind" "[I") ∈ BIG := bg_t (ti_1 (List.mem_of_getElem? (i := 84) (by decide +kernel))) rfl
theorem m_157 : (Jvm.Cond.fieldLink "QueryRunner$Runner" (179 : Nat) "QueryRunner$Expressions" "aggregateKind" "[I") ∈ BIG := bg_t (ti_1 (List.mem_of_getElem? (i := 85) (by decide +kernel))) rfl
theorem m_158 : (Jvm.Cond.fieldLink "QueryRunner$Expressions" (40 : Nat) "QueryRunner$Expressions" "aggregateOf" "[I") ∈ BIG := bg_t (ti_1 (List.mem_of_getElem? (i := 86) (by decide +kernel))) rfl
theorem m_159 : (Jvm.Cond.fieldLink "QueryRunner$Runner" (186 : Nat) "QueryRunner$Expressions" "aggregateOf" "[I") ∈ BIG := bg_t (ti_1 (List.mem_of_getElem? (i := 87) (by decide +kernel))) rfl
theorem m_160 : (Jvm.Cond.fieldLink "QueryRunner$Expressions" (43 : Nat) "QueryRunner$Expressions" "aggregateDistinct" "[Z") ∈ BIG := bg_t (ti_1 (List.mem_of_getElem? (i := 88) (by decide +kernel))) rfl
theorem m_161 : (Jvm.Cond.fieldLink "QueryRunner$Groups" (69 : Nat) "QueryRunner$Expressions" "aggregateDistinct" "[Z") ∈ BIG := bg_t (ti_1 (List.mem_of_getElem? (i := 89) (by decide +kernel))) rfl
theorem m_189 : (Jvm.Cond.arrayClass Jvm.ClassFile.FieldType.boolean) ∈ BIG := bg_t (ti_1 (List.mem_of_getElem? (i := 117) (by decide +kernel))) rfl
theorem m_190 : (Jvm.Cond.classLink "QueryRunner" (23 : Nat) "QueryRunner$Query") ∈ BIG := bg_t (ti_1 (List.mem_of_getElem? (i := 118) (by decide +kernel))) rfl
theorem m_191 : (Jvm.Cond.instantiable "QueryRunner$Query" (16 : Nat)) ∈ BIG := bg_t (ti_1 (List.mem_of_getElem? (i := 119) (by decide +kernel))) rfl
theorem m_193 : (Jvm.Cond.instanceMethod ({ cls := "QueryRunner$Query", name := "<init>", desc := "()V" } : Jvm.MethodName)) ∈ BIG := bg_t (ti_1 (List.mem_of_getElem? (i := 121) (by decide +kernel))) rfl
theorem m_194 : (Jvm.Cond.code ({ cls := "QueryRunner$Query", name := "<init>", desc := "()V" } : Jvm.MethodName) prog_7_method_1_code (1 : Nat) (Option.none : Option Jvm.ClassFile.FieldType)) ∈ BIG := bg_t (ti_1 (List.mem_of_getElem? (i := 122) rfl)) rfl
theorem m_195 : (Jvm.Cond.methodLink "QueryRunner$Query" (3 : Nat) ({ cls := "java/lang/Object", name := "<init>", desc := "()V" } : Jvm.MethodName)) ∈ BIG := bg_t (ti_1 (List.mem_of_getElem? (i := 123) (by decide +kernel))) rfl
theorem m_196 : (Jvm.Cond.fieldLink "QueryRunner$Query" (44 : Nat) "QueryRunner$Query" "sourceCount" "I") ∈ BIG := bg_t (ti_1 (List.mem_of_getElem? (i := 124) (by decide +kernel))) rfl
theorem m_197 : (Jvm.Cond.fieldLink "QueryRunner$Checker" (27 : Nat) "QueryRunner$Query" "sourceCount" "I") ∈ BIG := bg_t (ti_1 (List.mem_of_getElem? (i := 125) (by decide +kernel))) rfl
theorem m_198 : (Jvm.Cond.fieldLink "QueryRunner$Runner" (79 : Nat) "QueryRunner$Query" "sourceCount" "I") ∈ BIG := bg_t (ti_1 (List.mem_of_getElem? (i := 126) (by decide +kernel))) rfl
theorem m_199 : (Jvm.Cond.fieldLink "QueryRunner" (106 : Nat) "QueryRunner$Query" "sourceCount" "I") ∈ BIG := bg_t (ti_1 (List.mem_of_getElem? (i := 127) (by decide +kernel))) rfl
theorem m_200 : (Jvm.Cond.fieldLink "QueryRunner$Query" (9 : Nat) "QueryRunner$Query" "sourceTable" "[I") ∈ BIG := bg_t (ti_1 (List.mem_of_getElem? (i := 128) (by decide +kernel))) rfl
theorem m_201 : (Jvm.Cond.fieldLink "QueryRunner$Runner" (91 : Nat) "QueryRunner$Query" "sourceTable" "[I") ∈ BIG := bg_t (ti_1 (List.mem_of_getElem? (i := 129) (by decide +kernel))) rfl
theorem m_202 : (Jvm.Cond.fieldLink "QueryRunner$Evaluator" (78 : Nat) "QueryRunner$Query" "sourceTable" "[I") ∈ BIG := bg_t (ti_1 (List.mem_of_getElem? (i := 130) (by decide +kernel))) rfl
theorem m_203 : (Jvm.Cond.fieldLink "QueryRunner$Checker" (123 : Nat) "QueryRunner$Query" "sourceTable" "[I") ∈ BIG := bg_t (ti_1 (List.mem_of_getElem? (i := 131) (by decide +kernel))) rfl
theorem m_204 : (Jvm.Cond.fieldLink "QueryRunner$Query" (15 : Nat) "QueryRunner$Query" "how" "[I") ∈ BIG := bg_t (ti_1 (List.mem_of_getElem? (i := 132) (by decide +kernel))) rfl
theorem m_205 : (Jvm.Cond.fieldLink "QueryRunner$Runner" (97 : Nat) "QueryRunner$Query" "how" "[I") ∈ BIG := bg_t (ti_1 (List.mem_of_getElem? (i := 133) (by decide +kernel))) rfl
theorem m_206 : (Jvm.Cond.fieldLink "QueryRunner$Query" (18 : Nat) "QueryRunner$Query" "on" "[I") ∈ BIG := bg_t (ti_1 (List.mem_of_getElem? (i := 134) (by decide +kernel))) rfl
theorem m_207 : (Jvm.Cond.fieldLink "QueryRunner$Runner" (100 : Nat) "QueryRunner$Query" "on" "[I") ∈ BIG := bg_t (ti_1 (List.mem_of_getElem? (i := 135) (by decide +kernel))) rfl
theorem m_208 : (Jvm.Cond.fieldLink "QueryRunner$Checker" (76 : Nat) "QueryRunner$Query" "on" "[I") ∈ BIG := bg_t (ti_1 (List.mem_of_getElem? (i := 136) (by decide +kernel))) rfl
theorem m_209 : (Jvm.Cond.fieldLink "QueryRunner$Query" (21 : Nat) "QueryRunner$Query" "where" "I") ∈ BIG := bg_t (ti_1 (List.mem_of_getElem? (i := 137) (by decide +kernel))) rfl
theorem m_210 : (Jvm.Cond.fieldLink "QueryRunner$Runner" (122 : Nat) "QueryRunner$Query" "where" "I") ∈ BIG := bg_t (ti_1 (List.mem_of_getElem? (i := 138) (by decide +kernel))) rfl
theorem m_211 : (Jvm.Cond.fieldLink "QueryRunner$Checker" (86 : Nat) "QueryRunner$Query" "where" "I") ∈ BIG := bg_t (ti_1 (List.mem_of_getElem? (i := 139) (by decide +kernel))) rfl
theorem m_212 : (Jvm.Cond.fieldLink "QueryRunner" (113 : Nat) "QueryRunner$Query" "where" "I") ∈ BIG := bg_t (ti_1 (List.mem_of_getElem? (i := 140) (by decide +kernel))) rfl
theorem m_213 : (Jvm.Cond.fieldLink "QueryRunner$Query" (25 : Nat) "QueryRunner$Query" "having" "I") ∈ BIG := bg_t (ti_1 (List.mem_of_getElem? (i := 141) (by decide +kernel))) rfl
theorem m_214 : (Jvm.Cond.fieldLink "QueryRunner$Checker" (52 : Nat) "QueryRunner$Query" "having" "I") ∈ BIG := bg_t (ti_1 (List.mem_of_getElem? (i := 142) (by decide +kernel))) rfl
theorem m_215 : (Jvm.Cond.fieldLink "QueryRunner$Runner" (116 : Nat) "QueryRunner$Query" "having" "I") ∈ BIG := bg_t (ti_1 (List.mem_of_getElem? (i := 143) (by decide +kernel))) rfl
theorem m_216 : (Jvm.Cond.fieldLink "QueryRunner" (116 : Nat) "QueryRunner$Query" "having" "I") ∈ BIG := bg_t (ti_1 (List.mem_of_getElem? (i := 144) (by decide +kernel))) rfl
theorem m_217 : (Jvm.Cond.fieldLink "QueryRunner$Query" (47 : Nat) "QueryRunner$Query" "groupCount" "I") ∈ BIG := bg_t (ti_1 (List.mem_of_getElem? (i := 145) (by decide +kernel))) rfl
theorem m_218 : (Jvm.Cond.fieldLink "QueryRunner$Runner" (70 : Nat) "QueryRunner$Query" "groupCount" "I") ∈ BIG := bg_t (ti_1 (List.mem_of_getElem? (i := 146) (by decide +kernel))) rfl
theorem m_219 : (Jvm.Cond.fieldLink "QueryRunner$Checker" (49 : Nat) "QueryRunner$Query" "groupCount" "I") ∈ BIG := bg_t (ti_1 (List.mem_of_getElem? (i := 147) (by decide +kernel))) rfl
theorem m_220 : (Jvm.Cond.fieldLink "QueryRunner" (119 : Nat) "QueryRunner$Query" "groupCount" "I") ∈ BIG := bg_t (ti_1 (List.mem_of_getElem? (i := 148) (by decide +kernel))) rfl
theorem m_221 : (Jvm.Cond.fieldLink "QueryRunner$Query" (28 : Nat) "QueryRunner$Query" "groups" "[I") ∈ BIG := bg_t (ti_1 (List.mem_of_getElem? (i := 149) (by decide +kernel))) rfl
theorem m_222 : (Jvm.Cond.fieldLink "QueryRunner$Checker" (89 : Nat) "QueryRunner$Query" "groups" "[I") ∈ BIG := bg_t (ti_1 (List.mem_of_getElem? (i := 150) (by decide +kernel))) rfl
theorem m_223 : (Jvm.Cond.fieldLink "QueryRunner$Runner" (160 : Nat) "QueryRunner$Query" "groups" "[I") ∈ BIG := bg_t (ti_1 (List.mem_of_getElem? (i := 151) (by decide +kernel))) rfl
theorem m_224 : (Jvm.Cond.fieldLink "QueryRunner$Checker" (33 : Nat) "QueryRunner$Query" "itemCount" "I") ∈ BIG := bg_t (ti_1 (List.mem_of_getElem? (i := 152) (by decide +kernel))) rfl
theorem m_225 : (Jvm.Cond.fieldLink "QueryRunner$Query" (50 : Nat) "QueryRunner$Query" "itemCount" "I") ∈ BIG := bg_t (ti_1 (List.mem_of_getElem? (i := 153) (by decide +kernel))) rfl
theorem m_226 : (Jvm.Cond.fieldLink "QueryRunner$Runner" (136 : Nat) "QueryRunner$Query" "itemCount" "I") ∈ BIG := bg_t (ti_1 (List.mem_of_getElem? (i := 154) (by decide +kernel))) rfl
theorem m_227 : (Jvm.Cond.fieldLink "QueryRunner$Answer" (39 : Nat) "QueryRunner$Query" "itemCount" "I") ∈ BIG := bg_t (ti_1 (List.mem_of_getElem? (i := 155) (by decide +kernel))) rfl
theorem m_228 : (Jvm.Cond.fieldLink "QueryRunner" (125 : Nat) "QueryRunner$Query" "itemCount" "I") ∈ BIG := bg_t (ti_1 (List.mem_of_getElem? (i := 156) (by decide +kernel))) rfl
theorem m_229 : (Jvm.Cond.fieldLink "QueryRunner$Query" (31 : Nat) "QueryRunner$Query" "items" "[I") ∈ BIG := bg_t (ti_1 (List.mem_of_getElem? (i := 157) (by decide +kernel))) rfl
theorem m_230 : (Jvm.Cond.fieldLink "QueryRunner$Checker" (59 : Nat) "QueryRunner$Query" "items" "[I") ∈ BIG := bg_t (ti_1 (List.mem_of_getElem? (i := 158) (by decide +kernel))) rfl
theorem m_231 : (Jvm.Cond.fieldLink "QueryRunner$Runner" (139 : Nat) "QueryRunner$Query" "items" "[I") ∈ BIG := bg_t (ti_1 (List.mem_of_getElem? (i := 159) (by decide +kernel))) rfl
theorem m_232 : (Jvm.Cond.fieldLink "QueryRunner$Query" (53 : Nat) "QueryRunner$Query" "orderCount" "I") ∈ BIG := bg_t (ti_1 (List.mem_of_getElem? (i := 160) (by decide +kernel))) rfl
theorem m_233 : (Jvm.Cond.fieldLink "QueryRunner$Answer" (72 : Nat) "QueryRunner$Query" "orderCount" "I") ∈ BIG := bg_t (ti_1 (List.mem_of_getElem? (i := 161) (by decide +kernel))) rfl
theorem m_234 : (Jvm.Cond.fieldLink "QueryRunner" (131 : Nat) "QueryRunner$Query" "orderCount" "I") ∈ BIG := bg_t (ti_1 (List.mem_of_getElem? (i := 162) (by decide +kernel))) rfl
theorem m_235 : (Jvm.Cond.fieldLink "QueryRunner$Query" (34 : Nat) "QueryRunner$Query" "orderItem" "[I") ∈ BIG := bg_t (ti_1 (List.mem_of_getElem? (i := 163) (by decide +kernel))) rfl
theorem m_236 : (Jvm.Cond.fieldLink "QueryRunner$Answer" (75 : Nat) "QueryRunner$Query" "orderItem" "[I") ∈ BIG := bg_t (ti_1 (List.mem_of_getElem? (i := 164) (by decide +kernel))) rfl
theorem m_237 : (Jvm.Cond.fieldLink "QueryRunner$Query" (37 : Nat) "QueryRunner$Query" "orderDown" "[Z") ∈ BIG := bg_t (ti_1 (List.mem_of_getElem? (i := 165) (by decide +kernel))) rfl
theorem m_238 : (Jvm.Cond.fieldLink "QueryRunner$Answer" (82 : Nat) "QueryRunner$Query" "orderDown" "[Z") ∈ BIG := bg_t (ti_1 (List.mem_of_getElem? (i := 166) (by decide +kernel))) rfl
theorem m_239 : (Jvm.Cond.fieldLink "QueryRunner$Query" (60 : Nat) "QueryRunner$Query" "distinct" "Z") ∈ BIG := bg_t (ti_1 (List.mem_of_getElem? (i := 167) (by decide +kernel))) rfl
theorem m_240 : (Jvm.Cond.fieldLink "QueryRunner$Answer" (44 : Nat) "QueryRunner$Query" "distinct" "Z") ∈ BIG := bg_t (ti_1 (List.mem_of_getElem? (i := 168) (by decide +kernel))) rfl
theorem m_241 : (Jvm.Cond.fieldLink "QueryRunner$Query" (41 : Nat) "QueryRunner$Query" "keep" "I") ∈ BIG := bg_t (ti_1 (List.mem_of_getElem? (i := 169) (by decide +kernel))) rfl
theorem m_242 : (Jvm.Cond.fieldLink "QueryRunner$Answer" (65 : Nat) "QueryRunner$Query" "keep" "I") ∈ BIG := bg_t (ti_1 (List.mem_of_getElem? (i := 170) (by decide +kernel))) rfl
theorem m_243 : (Jvm.Cond.fieldLink "QueryRunner$Query" (64 : Nat) "QueryRunner$Query" "skip" "I") ∈ BIG := bg_t (ti_1 (List.mem_of_getElem? (i := 171) (by decide +kernel))) rfl
theorem m_244 : (Jvm.Cond.fieldLink "QueryRunner$Answer" (56 : Nat) "QueryRunner$Query" "skip" "I") ∈ BIG := bg_t (ti_1 (List.mem_of_getElem? (i := 172) (by decide +kernel))) rfl
theorem m_278 : (Jvm.Cond.classLink "QueryRunner" (30 : Nat) "QueryRunner$Answer") ∈ BIG := bg_t (ti_1 (List.mem_of_getElem? (i := 206) (by decide +kernel))) rfl
theorem m_279 : (Jvm.Cond.instantiable "QueryRunner$Answer" (7 : Nat)) ∈ BIG := bg_t (ti_1 (List.mem_of_getElem? (i := 207) (by decide +kernel))) rfl
theorem m_281 : (Jvm.Cond.instanceMethod ({ cls := "QueryRunner$Answer", name := "<init>", desc := "()V" } : Jvm.MethodName)) ∈ BIG := bg_t (ti_1 (List.mem_of_getElem? (i := 209) (by decide +kernel))) rfl
theorem m_282 : (Jvm.Cond.code ({ cls := "QueryRunner$Answer", name := "<init>", desc := "()V" } : Jvm.MethodName) prog_2_method_1_code (1 : Nat) (Option.none : Option Jvm.ClassFile.FieldType)) ∈ BIG := bg_t (ti_1 (List.mem_of_getElem? (i := 210) rfl)) rfl
theorem m_283 : (Jvm.Cond.methodLink "QueryRunner$Answer" (3 : Nat) ({ cls := "java/lang/Object", name := "<init>", desc := "()V" } : Jvm.MethodName)) ∈ BIG := bg_t (ti_1 (List.mem_of_getElem? (i := 211) (by decide +kernel))) rfl
theorem m_284 : (Jvm.Cond.fieldLink "QueryRunner$Answer" (22 : Nat) "QueryRunner$Answer" "items" "I") ∈ BIG := bg_t (ti_1 (List.mem_of_getElem? (i := 212) (by decide +kernel))) rfl
theorem m_285 : (Jvm.Cond.fieldLink "QueryRunner" (169 : Nat) "QueryRunner$Answer" "items" "I") ∈ BIG := bg_t (ti_1 (List.mem_of_getElem? (i := 213) (by decide +kernel))) rfl
theorem m_286 : (Jvm.Cond.fieldLink "QueryRunner$Answer" (26 : Nat) "QueryRunner$Answer" "shown" "I") ∈ BIG := bg_t (ti_1 (List.mem_of_getElem? (i := 214) (by decide +kernel))) rfl
theorem m_287 : (Jvm.Cond.fieldLink "QueryRunner" (157 : Nat) "QueryRunner$Answer" "shown" "I") ∈ BIG := bg_t (ti_1 (List.mem_of_getElem? (i := 215) (by decide +kernel))) rfl
theorem m_288 : (Jvm.Cond.fieldLink "QueryRunner$Answer" (29 : Nat) "QueryRunner$Answer" "rows" "I") ∈ BIG := bg_t (ti_1 (List.mem_of_getElem? (i := 216) (by decide +kernel))) rfl
theorem m_289 : (Jvm.Cond.fieldLink "QueryRunner$Answer" (32 : Nat) "QueryRunner$Answer" "start" "I") ∈ BIG := bg_t (ti_1 (List.mem_of_getElem? (i := 217) (by decide +kernel))) rfl
theorem m_290 : (Jvm.Cond.fieldLink "QueryRunner$Answer" (9 : Nat) "QueryRunner$Answer" "numbers" "[J") ∈ BIG := bg_t (ti_1 (List.mem_of_getElem? (i := 218) (by decide +kernel))) rfl
theorem m_291 : (Jvm.Cond.fieldLink "QueryRunner$Answer" (15 : Nat) "QueryRunner$Answer" "nullBits" "[I") ∈ BIG := bg_t (ti_1 (List.mem_of_getElem? (i := 219) (by decide +kernel))) rfl
theorem m_292 : (Jvm.Cond.fieldLink "QueryRunner$Answer" (19 : Nat) "QueryRunner$Answer" "places" "[I") ∈ BIG := bg_t (ti_1 (List.mem_of_getElem? (i := 220) (by decide +kernel))) rfl
theorem m_308 : (Jvm.Cond.classLink "QueryRunner" (37 : Nat) "QueryRunner$Runner") ∈ BIG := bg_t (ti_1 (List.mem_of_getElem? (i := 236) (by decide +kernel))) rfl
theorem m_309 : (Jvm.Cond.instantiable "QueryRunner$Runner" (8 : Nat)) ∈ BIG := bg_t (ti_1 (List.mem_of_getElem? (i := 237) (by decide +kernel))) rfl
theorem m_310 : (Jvm.Cond.methodLink "QueryRunner" (39 : Nat) ({ cls := "QueryRunner$Runner", name := "<init>", desc := "(LQueryRunner$Tables;LQueryRunner$Expressions;LQueryRunner$Query;LQueryRunner$Answer;)V" } : Jvm.MethodName)) ∈ BIG := bg_t (ti_1 (List.mem_of_getElem? (i := 238) (by decide +kernel))) rfl
theorem m_311 : (Jvm.Cond.instanceMethod ({ cls := "QueryRunner$Runner", name := "<init>", desc := "(LQueryRunner$Tables;LQueryRunner$Expressions;LQueryRunner$Query;LQueryRunner$Answer;)V" } : Jvm.MethodName)) ∈ BIG := bg_t (ti_1 (List.mem_of_getElem? (i := 239) (by decide +kernel))) rfl
theorem m_312 : (Jvm.Cond.code ({ cls := "QueryRunner$Runner", name := "<init>", desc := "(LQueryRunner$Tables;LQueryRunner$Expressions;LQueryRunner$Query;LQueryRunner$Answer;)V" } : Jvm.MethodName) prog_8_method_1_code (5 : Nat) (Option.none : Option Jvm.ClassFile.FieldType)) ∈ BIG := bg_t (ti_2 (List.mem_of_getElem? (i := 0) rfl)) rfl
theorem m_313 : (Jvm.Cond.methodLink "QueryRunner$Runner" (3 : Nat) ({ cls := "java/lang/Object", name := "<init>", desc := "()V" } : Jvm.MethodName)) ∈ BIG := bg_t (ti_2 (List.mem_of_getElem? (i := 1) (by decide +kernel))) rfl
theorem m_314 : (Jvm.Cond.classLink "QueryRunner$Runner" (27 : Nat) "QueryRunner$Checker") ∈ BIG := bg_t (ti_2 (List.mem_of_getElem? (i := 2) (by decide +kernel))) rfl
theorem m_315 : (Jvm.Cond.instantiable "QueryRunner$Checker" (4 : Nat)) ∈ BIG := bg_t (ti_2 (List.mem_of_getElem? (i := 3) (by decide +kernel))) rfl
theorem m_316 : (Jvm.Cond.methodLink "QueryRunner$Runner" (29 : Nat) ({ cls := "QueryRunner$Checker", name := "<init>", desc := "(LQueryRunner$Tables;LQueryRunner$Expressions;LQueryRunner$Query;)V" } : Jvm.MethodName)) ∈ BIG := bg_t (ti_2 (List.mem_of_getElem? (i := 4) (by decide +kernel))) rfl
theorem m_317 : (Jvm.Cond.instanceMethod ({ cls := "QueryRunner$Checker", name := "<init>", desc := "(LQueryRunner$Tables;LQueryRunner$Expressions;LQueryRunner$Query;)V" } : Jvm.MethodName)) ∈ BIG := bg_t (ti_2 (List.mem_of_getElem? (i := 5) (by decide +kernel))) rfl
theorem m_318 : (Jvm.Cond.code ({ cls := "QueryRunner$Checker", name := "<init>", desc := "(LQueryRunner$Tables;LQueryRunner$Expressions;LQueryRunner$Query;)V" } : Jvm.MethodName) prog_3_method_1_code (4 : Nat) (Option.none : Option Jvm.ClassFile.FieldType)) ∈ BIG := bg_t (ti_2 (List.mem_of_getElem? (i := 6) rfl)) rfl
theorem m_319 : (Jvm.Cond.methodLink "QueryRunner$Checker" (3 : Nat) ({ cls := "java/lang/Object", name := "<init>", desc := "()V" } : Jvm.MethodName)) ∈ BIG := bg_t (ti_2 (List.mem_of_getElem? (i := 7) (by decide +kernel))) rfl
theorem m_320 : (Jvm.Cond.fieldLink "QueryRunner$Checker" (15 : Nat) "QueryRunner$Checker" "tables" "LQueryRunner$Tables;") ∈ BIG := bg_t (ti_2 (List.mem_of_getElem? (i := 8) (by decide +kernel))) rfl
theorem m_321 : (Jvm.Cond.fieldLink "QueryRunner$Checker" (19 : Nat) "QueryRunner$Checker" "expressions" "LQueryRunner$Expressions;") ∈ BIG := bg_t (ti_2 (List.mem_of_getElem? (i := 9) (by decide +kernel))) rfl
theorem m_322 : (Jvm.Cond.fieldLink "QueryRunner$Checker" (23 : Nat) "QueryRunner$Checker" "query" "LQueryRunner$Query;") ∈ BIG := bg_t (ti_2 (List.mem_of_getElem? (i := 10) (by decide +kernel))) rfl
theorem m_323 : (Jvm.Cond.fieldLink "QueryRunner$Checker" (9 : Nat) "QueryRunner$Checker" "loose" "[Z") ∈ BIG := bg_t (ti_2 (List.mem_of_getElem? (i := 11) (by decide +kernel))) rfl
theorem m_333 : (Jvm.Cond.classLink "QueryRunner$Runner" (36 : Nat) "QueryRunner$Evaluator") ∈ BIG := bg_t (ti_2 (List.mem_of_getElem? (i := 21) (by decide +kernel))) rfl
theorem m_334 : (Jvm.Cond.instantiable "QueryRunner$Evaluator" (7 : Nat)) ∈ BIG := bg_t (ti_2 (List.mem_of_getElem? (i := 22) (by decide +kernel))) rfl
theorem m_335 : (Jvm.Cond.methodLink "QueryRunner$Runner" (38 : Nat) ({ cls := "QueryRunner$Evaluator", name := "<init>", desc := "(LQueryRunner$Tables;LQueryRunner$Expressions;LQueryRunner$Query;)V" } : Jvm.MethodName)) ∈ BIG := bg_t (ti_2 (List.mem_of_getElem? (i := 23) (by decide +kernel))) rfl
theorem m_336 : (Jvm.Cond.instanceMethod ({ cls := "QueryRunner$Evaluator", name := "<init>", desc := "(LQueryRunner$Tables;LQueryRunner$Expressions;LQueryRunner$Query;)V" } : Jvm.MethodName)) ∈ BIG := bg_t (ti_2 (List.mem_of_getElem? (i := 24) (by decide +kernel))) rfl
theorem m_337 : (Jvm.Cond.code ({ cls := "QueryRunner$Evaluator", name := "<init>", desc := "(LQueryRunner$Tables;LQueryRunner$Expressions;LQueryRunner$Query;)V" } : Jvm.MethodName) prog_4_method_1_code (4 : Nat) (Option.none : Option Jvm.ClassFile.FieldType)) ∈ BIG := bg_t (ti_2 (List.mem_of_getElem? (i := 25) rfl)) rfl
theorem m_338 : (Jvm.Cond.methodLink "QueryRunner$Evaluator" (3 : Nat) ({ cls := "java/lang/Object", name := "<init>", desc := "()V" } : Jvm.MethodName)) ∈ BIG := bg_t (ti_2 (List.mem_of_getElem? (i := 26) (by decide +kernel))) rfl
theorem m_339 : (Jvm.Cond.fieldLink "QueryRunner$Evaluator" (15 : Nat) "QueryRunner$Evaluator" "tables" "LQueryRunner$Tables;") ∈ BIG := bg_t (ti_2 (List.mem_of_getElem? (i := 27) (by decide +kernel))) rfl
theorem m_340 : (Jvm.Cond.fieldLink "QueryRunner$Evaluator" (19 : Nat) "QueryRunner$Evaluator" "expressions" "LQueryRunner$Expressions;") ∈ BIG := bg_t (ti_2 (List.mem_of_getElem? (i := 28) (by decide +kernel))) rfl
theorem m_341 : (Jvm.Cond.fieldLink "QueryRunner$Evaluator" (23 : Nat) "QueryRunner$Evaluator" "query" "LQueryRunner$Query;") ∈ BIG := bg_t (ti_2 (List.mem_of_getElem? (i := 29) (by decide +kernel))) rfl
theorem m_342 : (Jvm.Cond.fieldLink "QueryRunner$Evaluator" (9 : Nat) "QueryRunner$Evaluator" "at" "[I") ∈ BIG := bg_t (ti_2 (List.mem_of_getElem? (i := 30) (by decide +kernel))) rfl
theorem m_343 : (Jvm.Cond.fieldLink "QueryRunner$Runner" (94 : Nat) "QueryRunner$Evaluator" "at" "[I") ∈ BIG := bg_t (ti_2 (List.mem_of_getElem? (i := 31) (by decide +kernel))) rfl
theorem m_344 : (Jvm.Cond.fieldLink "QueryRunner$Runner" (61 : Nat) "QueryRunner$Evaluator" "groups" "LQueryRunner$Groups;") ∈ BIG := bg_t (ti_2 (List.mem_of_getElem? (i := 32) (by decide +kernel))) rfl
theorem m_345 : (Jvm.Cond.fieldLink "QueryRunner$Evaluator" (91 : Nat) "QueryRunner$Evaluator" "groups" "LQueryRunner$Groups;") ∈ BIG := bg_t (ti_2 (List.mem_of_getElem? (i := 33) (by decide +kernel))) rfl
theorem m_346 : (Jvm.Cond.fieldLink "QueryRunner$Evaluator" (27 : Nat) "QueryRunner$Evaluator" "number" "J") ∈ BIG := bg_t (ti_2 (List.mem_of_getElem? (i := 34) (by decide +kernel))) rfl
theorem m_347 : (Jvm.Cond.fieldLink "QueryRunner$Runner" (145 : Nat) "QueryRunner$Evaluator" "number" "J") ∈ BIG := bg_t (ti_2 (List.mem_of_getElem? (i := 35) (by decide +kernel))) rfl
theorem m_348 : (Jvm.Cond.fieldLink "QueryRunner$Evaluator" (55 : Nat) "QueryRunner$Evaluator" "left" "J") ∈ BIG := bg_t (ti_2 (List.mem_of_getElem? (i := 36) (by decide +kernel))) rfl
theorem m_364 : (Jvm.Cond.fieldLink "QueryRunner$Runner" (9 : Nat) "QueryRunner$Runner" "tables" "LQueryRunner$Tables;") ∈ BIG := bg_t (ti_2 (List.mem_of_getElem? (i := 52) (by decide +kernel))) rfl
theorem m_365 : (Jvm.Cond.fieldLink "QueryRunner$Runner" (15 : Nat) "QueryRunner$Runner" "expressions" "LQueryRunner$Expressions;") ∈ BIG := bg_t (ti_2 (List.mem_of_getElem? (i := 53) (by decide +kernel))) rfl
theorem m_366 : (Jvm.Cond.fieldLink "QueryRunner$Runner" (19 : Nat) "QueryRunner$Runner" "query" "LQueryRunner$Query;") ∈ BIG := bg_t (ti_2 (List.mem_of_getElem? (i := 54) (by decide +kernel))) rfl
theorem m_367 : (Jvm.Cond.fieldLink "QueryRunner$Runner" (23 : Nat) "QueryRunner$Runner" "answer" "LQueryRunner$Answer;") ∈ BIG := bg_t (ti_2 (List.mem_of_getElem? (i := 55) (by decide +kernel))) rfl
theorem m_368 : (Jvm.Cond.fieldLink "QueryRunner$Runner" (32 : Nat) "QueryRunner$Runner" "checker" "LQueryRunner$Checker;") ∈ BIG := bg_t (ti_2 (List.mem_of_getElem? (i := 56) (by decide +kernel))) rfl
theorem m_369 : (Jvm.Cond.fieldLink "QueryRunner$Runner" (39 : Nat) "QueryRunner$Runner" "evaluator" "LQueryRunner$Evaluator;") ∈ BIG := bg_t (ti_2 (List.mem_of_getElem? (i := 57) (by decide +kernel))) rfl
theorem m_370 : (Jvm.Cond.fieldLink "QueryRunner$Runner" (51 : Nat) "QueryRunner$Runner" "isGrouped" "Z") ∈ BIG := bg_t (ti_2 (List.mem_of_getElem? (i := 58) (by decide +kernel))) rfl
theorem m_371 : (Jvm.Cond.fieldLink "QueryRunner$Runner" (57 : Nat) "QueryRunner$Runner" "usedAggregates" "I") ∈ BIG := bg_t (ti_2 (List.mem_of_getElem? (i := 59) (by decide +kernel))) rfl
theorem m_389 : (Jvm.Cond.fieldLink "QueryRunner" (10 : Nat) "QueryRunner" "tables" "LQueryRunner$Tables;") ∈ BIG := bg_t (ti_2 (List.mem_of_getElem? (i := 77) (by decide +kernel))) rfl
theorem m_390 : (Jvm.Cond.fieldLink "QueryRunner" (19 : Nat) "QueryRunner" "expressions" "LQueryRunner$Expressions;") ∈ BIG := bg_t (ti_2 (List.mem_of_getElem? (i := 78) (by decide +kernel))) rfl
theorem m_391 : (Jvm.Cond.fieldLink "QueryRunner" (26 : Nat) "QueryRunner" "query" "LQueryRunner$Query;") ∈ BIG := bg_t (ti_2 (List.mem_of_getElem? (i := 79) (by decide +kernel))) rfl
theorem m_392 : (Jvm.Cond.fieldLink "QueryRunner" (33 : Nat) "QueryRunner" "answer" "LQueryRunner$Answer;") ∈ BIG := bg_t (ti_2 (List.mem_of_getElem? (i := 80) (by decide +kernel))) rfl
theorem m_393 : (Jvm.Cond.fieldLink "QueryRunner" (42 : Nat) "QueryRunner" "runner" "LQueryRunner$Runner;") ∈ BIG := bg_t (ti_2 (List.mem_of_getElem? (i := 81) (by decide +kernel))) rfl
theorem m_405 : (Jvm.Cond.methodLink "QueryRunnerLaw" (13 : Nat) ({ cls := "QueryRunner", name := "table", desc := "(I)I" } : Jvm.MethodName)) ∈ BIG := bg_t (ti_2 (List.mem_of_getElem? (i := 93) (by decide +kernel))) rfl
theorem m_406 : (Jvm.Cond.instanceMethod ({ cls := "QueryRunner", name := "table", desc := "(I)I" } : Jvm.MethodName)) ∈ BIG := bg_t (ti_2 (List.mem_of_getElem? (i := 94) (by decide +kernel))) rfl
theorem m_407 : (Jvm.Cond.selects "QueryRunner" ({ cls := "QueryRunner", name := "table", desc := "(I)I" } : Jvm.MethodName) ({ cls := "QueryRunner", name := "table", desc := "(I)I" } : Jvm.MethodName)) ∈ BIG := bg_t (ti_2 (List.mem_of_getElem? (i := 95) (by decide +kernel))) rfl
theorem m_408 : (Jvm.Cond.code ({ cls := "QueryRunner", name := "table", desc := "(I)I" } : Jvm.MethodName) prog_1_method_2_code (2 : Nat) (Option.some Jvm.ClassFile.FieldType.int)) ∈ BIG := bg_t (ti_2 (List.mem_of_getElem? (i := 96) rfl)) rfl
theorem m_409 : (Jvm.Cond.methodLink "QueryRunner" (50 : Nat) ({ cls := "QueryRunner$Tables", name := "addTable", desc := "(I)I" } : Jvm.MethodName)) ∈ BIG := bg_t (ti_2 (List.mem_of_getElem? (i := 97) (by decide +kernel))) rfl
theorem m_410 : (Jvm.Cond.instanceMethod ({ cls := "QueryRunner$Tables", name := "addTable", desc := "(I)I" } : Jvm.MethodName)) ∈ BIG := bg_t (ti_2 (List.mem_of_getElem? (i := 98) (by decide +kernel))) rfl
theorem m_411 : (Jvm.Cond.selects "QueryRunner$Tables" ({ cls := "QueryRunner$Tables", name := "addTable", desc := "(I)I" } : Jvm.MethodName) ({ cls := "QueryRunner$Tables", name := "addTable", desc := "(I)I" } : Jvm.MethodName)) ∈ BIG := bg_t (ti_2 (List.mem_of_getElem? (i := 99) (by decide +kernel))) rfl
theorem m_412 : (Jvm.Cond.code ({ cls := "QueryRunner$Tables", name := "addTable", desc := "(I)I" } : Jvm.MethodName) prog_9_method_3_code (2 : Nat) (Option.some Jvm.ClassFile.FieldType.int)) ∈ BIG := bg_t (ti_2 (List.mem_of_getElem? (i := 100) rfl)) rfl
theorem m_413 : (Jvm.Cond.methodLink "QueryRunnerLaw" (20 : Nat) ({ cls := "QueryRunner", name := "insert", desc := "(IJJJJI)I" } : Jvm.MethodName)) ∈ BIG := bg_t (ti_2 (List.mem_of_getElem? (i := 101) (by decide +kernel))) rfl
theorem m_414 : (Jvm.Cond.instanceMethod ({ cls := "QueryRunner", name := "insert", desc := "(IJJJJI)I" } : Jvm.MethodName)) ∈ BIG := bg_t (ti_2 (List.mem_of_getElem? (i := 102) (by decide +kernel))) rfl
theorem m_415 : (Jvm.Cond.selects "QueryRunner" ({ cls := "QueryRunner", name := "insert", desc := "(IJJJJI)I" } : Jvm.MethodName) ({ cls := "QueryRunner", name := "insert", desc := "(IJJJJI)I" } : Jvm.MethodName)) ∈ BIG := bg_t (ti_2 (List.mem_of_getElem? (i := 103) (by decide +kernel))) rfl
theorem m_416 : (Jvm.Cond.code ({ cls := "QueryRunner", name := "insert", desc := "(IJJJJI)I" } : Jvm.MethodName) prog_1_method_3_code (14 : Nat) (Option.some Jvm.ClassFile.FieldType.int)) ∈ BIG := bg_t (ti_2 (List.mem_of_getElem? (i := 104) rfl)) rfl
theorem m_417 : (Jvm.Cond.methodLink "QueryRunner" (54 : Nat) ({ cls := "QueryRunner$Tables", name := "has", desc := "(I)Z" } : Jvm.MethodName)) ∈ BIG := bg_t (ti_2 (List.mem_of_getElem? (i := 105) (by decide +kernel))) rfl
theorem m_418 : (Jvm.Cond.instanceMethod ({ cls := "QueryRunner$Tables", name := "has", desc := "(I)Z" } : Jvm.MethodName)) ∈ BIG := bg_t (ti_2 (List.mem_of_getElem? (i := 106) (by decide +kernel))) rfl
theorem m_419 : (Jvm.Cond.selects "QueryRunner$Tables" ({ cls := "QueryRunner$Tables", name := "has", desc := "(I)Z" } : Jvm.MethodName) ({ cls := "QueryRunner$Tables", name := "has", desc := "(I)Z" } : Jvm.MethodName)) ∈ BIG := bg_t (ti_2 (List.mem_of_getElem? (i := 107) (by decide +kernel))) rfl
theorem m_420 : (Jvm.Cond.code ({ cls := "QueryRunner$Tables", name := "has", desc := "(I)Z" } : Jvm.MethodName) prog_9_method_2_code (2 : Nat) (Option.some Jvm.ClassFile.FieldType.boolean)) ∈ BIG := bg_t (ti_2 (List.mem_of_getElem? (i := 108) rfl)) rfl
theorem m_421 : (Jvm.Cond.methodLink "QueryRunner" (62 : Nat) ({ cls := "java/lang/Math", name := "min", desc := "(II)I" } : Jvm.MethodName)) ∈ BIG := bg_t (ti_2 (List.mem_of_getElem? (i := 109) (by decide +kernel))) rfl
theorem m_422 : (Jvm.Cond.static ({ cls := "java/lang/Math", name := "min", desc := "(II)I" } : Jvm.MethodName)) ∈ BIG := bg_t (ti_2 (List.mem_of_getElem? (i := 110) (by decide +kernel))) rfl
theorem m_423 : (Jvm.Cond.code ({ cls := "java/lang/Math", name := "min", desc := "(II)I" } : Jvm.MethodName) prog_13_method_69_code (2 : Nat) (Option.some Jvm.ClassFile.FieldType.int)) ∈ BIG := bg_t (ti_2 (List.mem_of_getElem? (i := 111) rfl)) rfl
theorem m_424 : (Jvm.Cond.methodLink "QueryRunner" (68 : Nat) ({ cls := "QueryRunner", name := "isOutside", desc := "(J)Z" } : Jvm.MethodName)) ∈ BIG := bg_t (ti_2 (List.mem_of_getElem? (i := 112) (by decide +kernel))) rfl
theorem m_425 : (Jvm.Cond.static ({ cls := "QueryRunner", name := "isOutside", desc := "(J)Z" } : Jvm.MethodName)) ∈ BIG := bg_t (ti_2 (List.mem_of_getElem? (i := 113) (by decide +kernel))) rfl
theorem m_426 : (Jvm.Cond.code ({ cls := "QueryRunner", name := "isOutside", desc := "(J)Z" } : Jvm.MethodName) prog_1_method_19_code (2 : Nat) (Option.some Jvm.ClassFile.FieldType.boolean)) ∈ BIG := bg_t (ti_2 (List.mem_of_getElem? (i := 114) rfl)) rfl
theorem m_427 : (Jvm.Cond.constantLong "QueryRunner" (172 : Nat) (-1000000000000 : Int64)) ∈ BIG := bg_t (ti_2 (List.mem_of_getElem? (i := 115) (by decide +kernel))) rfl
theorem m_428 : (Jvm.Cond.constantLong "QueryRunner" (174 : Nat) (1000000000000 : Int64)) ∈ BIG := bg_t (ti_2 (List.mem_of_getElem? (i := 116) (by decide +kernel))) rfl
theorem m_429 : (Jvm.Cond.methodLink "QueryRunner" (75 : Nat) ({ cls := "QueryRunner$Tables", name := "addRow", desc := "(I[JI)I" } : Jvm.MethodName)) ∈ BIG := bg_t (ti_2 (List.mem_of_getElem? (i := 117) (by decide +kernel))) rfl
theorem m_430 : (Jvm.Cond.instanceMethod ({ cls := "QueryRunner$Tables", name := "addRow", desc := "(I[JI)I" } : Jvm.MethodName)) ∈ BIG := bg_t (ti_2 (List.mem_of_getElem? (i := 118) (by decide +kernel))) rfl
theorem m_431 : (Jvm.Cond.selects "QueryRunner$Tables" ({ cls := "QueryRunner$Tables", name := "addRow", desc := "(I[JI)I" } : Jvm.MethodName) ({ cls := "QueryRunner$Tables", name := "addRow", desc := "(I[JI)I" } : Jvm.MethodName)) ∈ BIG := bg_t (ti_2 (List.mem_of_getElem? (i := 119) (by decide +kernel))) rfl
theorem m_432 : (Jvm.Cond.code ({ cls := "QueryRunner$Tables", name := "addRow", desc := "(I[JI)I" } : Jvm.MethodName) prog_9_method_4_code (5 : Nat) (Option.some Jvm.ClassFile.FieldType.int)) ∈ BIG := bg_t (ti_2 (List.mem_of_getElem? (i := 120) rfl)) rfl
theorem m_433 : (Jvm.Cond.methodLink "QueryRunner$Tables" (29 : Nat) ({ cls := "java/lang/System", name := "arraycopy", desc := "(Ljava/lang/Object;ILjava/lang/Object;II)V" } : Jvm.MethodName)) ∈ BIG := bg_t (ti_2 (List.mem_of_getElem? (i := 121) (by decide +kernel))) rfl
theorem m_434 : (Jvm.Cond.static ({ cls := "java/lang/System", name := "arraycopy", desc := "(Ljava/lang/Object;ILjava/lang/Object;II)V" } : Jvm.MethodName)) ∈ BIG := bg_t (ti_2 (List.mem_of_getElem? (i := 122) (by decide +kernel))) rfl
theorem m_435 : (Jvm.Cond.native ({ cls := "java/lang/System", name := "arraycopy", desc := "(Ljava/lang/Object;ILjava/lang/Object;II)V" } : Jvm.MethodName)) ∈ BIG := bg_t (ti_2 (List.mem_of_getElem? (i := 123) (by decide +kernel))) rfl
theorem m_436 : (Jvm.Cond.methodLink "QueryRunnerLaw" (25 : Nat) ({ cls := "QueryRunner", name := "fresh", desc := "()I" } : Jvm.MethodName)) ∈ BIG := bg_t (ti_2 (List.mem_of_getElem? (i := 124) (by decide +kernel))) rfl
theorem m_437 : (Jvm.Cond.instanceMethod ({ cls := "QueryRunner", name := "fresh", desc := "()I" } : Jvm.MethodName)) ∈ BIG := bg_t (ti_2 (List.mem_of_getElem? (i := 125) (by decide +kernel))) rfl
theorem m_438 : (Jvm.Cond.selects "QueryRunner" ({ cls := "QueryRunner", name := "fresh", desc := "()I" } : Jvm.MethodName) ({ cls := "QueryRunner", name := "fresh", desc := "()I" } : Jvm.MethodName)) ∈ BIG := bg_t (ti_2 (List.mem_of_getElem? (i := 126) (by decide +kernel))) rfl
theorem m_439 : (Jvm.Cond.code ({ cls := "QueryRunner", name := "fresh", desc := "()I" } : Jvm.MethodName) prog_1_method_4_code (2 : Nat) (Option.some Jvm.ClassFile.FieldType.int)) ∈ BIG := bg_t (ti_2 (List.mem_of_getElem? (i := 127) rfl)) rfl
theorem m_440 : (Jvm.Cond.methodLink "QueryRunner" (80 : Nat) ({ cls := "QueryRunner$Expressions", name := "clear", desc := "()V" } : Jvm.MethodName)) ∈ BIG := bg_t (ti_2 (List.mem_of_getElem? (i := 128) (by decide +kernel))) rfl
theorem m_441 : (Jvm.Cond.instanceMethod ({ cls := "QueryRunner$Expressions", name := "clear", desc := "()V" } : Jvm.MethodName)) ∈ BIG := bg_t (ti_2 (List.mem_of_getElem? (i := 129) (by decide +kernel))) rfl
theorem m_442 : (Jvm.Cond.selects "QueryRunner$Expressions" ({ cls := "QueryRunner$Expressions", name := "clear", desc := "()V" } : Jvm.MethodName) ({ cls := "QueryRunner$Expressions", name := "clear", desc := "()V" } : Jvm.MethodName)) ∈ BIG := bg_t (ti_2 (List.mem_of_getElem? (i := 130) (by decide +kernel))) rfl
theorem m_443 : (Jvm.Cond.code ({ cls := "QueryRunner$Expressions", name := "clear", desc := "()V" } : Jvm.MethodName) prog_5_method_2_code (1 : Nat) (Option.none : Option Jvm.ClassFile.FieldType)) ∈ BIG := bg_t (ti_2 (List.mem_of_getElem? (i := 131) rfl)) rfl
theorem m_444 : (Jvm.Cond.methodLink "QueryRunner" (83 : Nat) ({ cls := "QueryRunner$Query", name := "clear", desc := "()V" } : Jvm.MethodName)) ∈ BIG := bg_t (ti_2 (List.mem_of_getElem? (i := 132) (by decide +kernel))) rfl
theorem m_445 : (Jvm.Cond.instanceMethod ({ cls := "QueryRunner$Query", name := "clear", desc := "()V" } : Jvm.MethodName)) ∈ BIG := bg_t (ti_2 (List.mem_of_getElem? (i := 133) (by decide +kernel))) rfl
theorem m_446 : (Jvm.Cond.selects "QueryRunner$Query" ({ cls := "QueryRunner$Query", name := "clear", desc := "()V" } : Jvm.MethodName) ({ cls := "QueryRunner$Query", name := "clear", desc := "()V" } : Jvm.MethodName)) ∈ BIG := bg_t (ti_2 (List.mem_of_getElem? (i := 134) (by decide +kernel))) rfl
theorem m_447 : (Jvm.Cond.code ({ cls := "QueryRunner$Query", name := "clear", desc := "()V" } : Jvm.MethodName) prog_7_method_2_code (1 : Nat) (Option.none : Option Jvm.ClassFile.FieldType)) ∈ BIG := bg_t (ti_2 (List.mem_of_getElem? (i := 135) rfl)) rfl
theorem m_448 : (Jvm.Cond.methodLink "QueryRunner$Query" (56 : Nat) ({ cls := "QueryRunner$Query", name := "setShape", desc := "(ZII)V" } : Jvm.MethodName)) ∈ BIG := bg_t (ti_2 (List.mem_of_getElem? (i := 136) (by decide +kernel))) rfl
theorem m_449 : (Jvm.Cond.instanceMethod ({ cls := "QueryRunner$Query", name := "setShape", desc := "(ZII)V" } : Jvm.MethodName)) ∈ BIG := bg_t (ti_2 (List.mem_of_getElem? (i := 137) (by decide +kernel))) rfl
theorem m_450 : (Jvm.Cond.selects "QueryRunner$Query" ({ cls := "QueryRunner$Query", name := "setShape", desc := "(ZII)V" } : Jvm.MethodName) ({ cls := "QueryRunner$Query", name := "setShape", desc := "(ZII)V" } : Jvm.MethodName)) ∈ BIG := bg_t (ti_2 (List.mem_of_getElem? (i := 138) (by decide +kernel))) rfl
theorem m_451 : (Jvm.Cond.code ({ cls := "QueryRunner$Query", name := "setShape", desc := "(ZII)V" } : Jvm.MethodName) prog_7_method_7_code (4 : Nat) (Option.none : Option Jvm.ClassFile.FieldType)) ∈ BIG := bg_t (ti_2 (List.mem_of_getElem? (i := 139) rfl)) rfl
theorem m_452 : (Jvm.Cond.methodLink "QueryRunnerLaw" (30 : Nat) ({ cls := "QueryRunner", name := "constant", desc := "(JZ)I" } : Jvm.MethodName)) ∈ BIG := bg_t (ti_2 (List.mem_of_getElem? (i := 140) (by decide +kernel))) rfl
theorem m_453 : (Jvm.Cond.instanceMethod ({ cls := "QueryRunner", name := "constant", desc := "(JZ)I" } : Jvm.MethodName)) ∈ BIG := bg_t (ti_2 (List.mem_of_getElem? (i := 141) (by decide +kernel))) rfl
theorem m_454 : (Jvm.Cond.selects "QueryRunner" ({ cls := "QueryRunner", name := "constant", desc := "(JZ)I" } : Jvm.MethodName) ({ cls := "QueryRunner", name := "constant", desc := "(JZ)I" } : Jvm.MethodName)) ∈ BIG := bg_t (ti_2 (List.mem_of_getElem? (i := 142) (by decide +kernel))) rfl
theorem m_455 : (Jvm.Cond.code ({ cls := "QueryRunner", name := "constant", desc := "(JZ)I" } : Jvm.MethodName) prog_1_method_5_code (4 : Nat) (Option.some Jvm.ClassFile.FieldType.int)) ∈ BIG := bg_t (ti_2 (List.mem_of_getElem? (i := 143) rfl)) rfl
theorem m_456 : (Jvm.Cond.methodLink "QueryRunner" (84 : Nat) ({ cls := "QueryRunner$Expressions", name := "hasRoom", desc := "(II)Z" } : Jvm.MethodName)) ∈ BIG := bg_t (ti_2 (List.mem_of_getElem? (i := 144) (by decide +kernel))) rfl
theorem m_457 : (Jvm.Cond.instanceMethod ({ cls := "QueryRunner$Expressions", name := "hasRoom", desc := "(II)Z" } : Jvm.MethodName)) ∈ BIG := bg_t (ti_2 (List.mem_of_getElem? (i := 145) (by decide +kernel))) rfl
theorem m_458 : (Jvm.Cond.selects "QueryRunner$Expressions" ({ cls := "QueryRunner$Expressions", name := "hasRoom", desc := "(II)Z" } : Jvm.MethodName) ({ cls := "QueryRunner$Expressions", name := "hasRoom", desc := "(II)Z" } : Jvm.MethodName)) ∈ BIG := bg_t (ti_2 (List.mem_of_getElem? (i := 146) (by decide +kernel))) rfl
theorem m_459 : (Jvm.Cond.code ({ cls := "QueryRunner$Expressions", name := "hasRoom", desc := "(II)Z" } : Jvm.MethodName) prog_5_method_5_code (3 : Nat) (Option.some Jvm.ClassFile.FieldType.boolean)) ∈ BIG := bg_t (ti_2 (List.mem_of_getElem? (i := 147) rfl)) rfl
theorem m_460 : (Jvm.Cond.methodLink "QueryRunner$Expressions" (54 : Nat) ({ cls := "QueryRunner$Expressions", name := "partsOf", desc := "(I)I" } : Jvm.MethodName)) ∈ BIG := bg_t (ti_2 (List.mem_of_getElem? (i := 148) (by decide +kernel))) rfl
theorem m_462 : (Jvm.Cond.instanceMethod ({ cls := "QueryRunner$Expressions", name := "partsOf", desc := "(I)I" } : Jvm.MethodName)) ∈ BIG := bg_t (ti_2 (List.mem_of_getElem? (i := 150) (by decide +kernel))) rfl
theorem m_463 : (Jvm.Cond.code ({ cls := "QueryRunner$Expressions", name := "partsOf", desc := "(I)I" } : Jvm.MethodName) prog_5_method_9_code (2 : Nat) (Option.some Jvm.ClassFile.FieldType.int)) ∈ BIG := bg_t (ti_2 (List.mem_of_getElem? (i := 151) rfl)) rfl
theorem m_464 : (Jvm.Cond.methodLink "QueryRunner$Expressions" (69 : Nat) ({ cls := "QueryRunner$Expressions", name := "has", desc := "(I)Z" } : Jvm.MethodName)) ∈ BIG := bg_t (ti_2 (List.mem_of_getElem? (i := 152) (by decide +kernel))) rfl
theorem m_465 : (Jvm.Cond.instanceMethod ({ cls := "QueryRunner$Expressions", name := "has", desc := "(I)Z" } : Jvm.MethodName)) ∈ BIG := bg_t (ti_2 (List.mem_of_getElem? (i := 153) (by decide +kernel))) rfl
theorem m_466 : (Jvm.Cond.selects "QueryRunner$Expressions" ({ cls := "QueryRunner$Expressions", name := "has", desc := "(I)Z" } : Jvm.MethodName) ({ cls := "QueryRunner$Expressions", name := "has", desc := "(I)Z" } : Jvm.MethodName)) ∈ BIG := bg_t (ti_2 (List.mem_of_getElem? (i := 154) (by decide +kernel))) rfl
theorem m_467 : (Jvm.Cond.code ({ cls := "QueryRunner$Expressions", name := "has", desc := "(I)Z" } : Jvm.MethodName) prog_5_method_3_code (2 : Nat) (Option.some Jvm.ClassFile.FieldType.boolean)) ∈ BIG := bg_t (ti_2 (List.mem_of_getElem? (i := 155) rfl)) rfl
theorem m_468 : (Jvm.Cond.methodLink "QueryRunner" (88 : Nat) ({ cls := "QueryRunner$Expressions", name := "add", desc := "(IJII)I" } : Jvm.MethodName)) ∈ BIG := bg_t (ti_2 (List.mem_of_getElem? (i := 156) (by decide +kernel))) rfl
theorem m_469 : (Jvm.Cond.instanceMethod ({ cls := "QueryRunner$Expressions", name := "add", desc := "(IJII)I" } : Jvm.MethodName)) ∈ BIG := bg_t (ti_2 (List.mem_of_getElem? (i := 157) (by decide +kernel))) rfl
theorem m_470 : (Jvm.Cond.selects "QueryRunner$Expressions" ({ cls := "QueryRunner$Expressions", name := "add", desc := "(IJII)I" } : Jvm.MethodName) ({ cls := "QueryRunner$Expressions", name := "add", desc := "(IJII)I" } : Jvm.MethodName)) ∈ BIG := bg_t (ti_2 (List.mem_of_getElem? (i := 158) (by decide +kernel))) rfl
theorem m_471 : (Jvm.Cond.code ({ cls := "QueryRunner$Expressions", name := "add", desc := "(IJII)I" } : Jvm.MethodName) prog_5_method_6_code (7 : Nat) (Option.some Jvm.ClassFile.FieldType.int)) ∈ BIG := bg_t (ti_2 (List.mem_of_getElem? (i := 159) rfl)) rfl
theorem m_472 : (Jvm.Cond.methodLink "QueryRunner$Expressions" (58 : Nat) ({ cls := "QueryRunner$Expressions", name := "bitsOf", desc := "([II)I" } : Jvm.MethodName)) ∈ BIG := bg_t (ti_2 (List.mem_of_getElem? (i := 160) (by decide +kernel))) rfl
theorem m_474 : (Jvm.Cond.instanceMethod ({ cls := "QueryRunner$Expressions", name := "bitsOf", desc := "([II)I" } : Jvm.MethodName)) ∈ BIG := bg_t (ti_2 (List.mem_of_getElem? (i := 162) (by decide +kernel))) rfl
theorem m_475 : (Jvm.Cond.code ({ cls := "QueryRunner$Expressions", name := "bitsOf", desc := "([II)I" } : Jvm.MethodName) prog_5_method_10_code (3 : Nat) (Option.some Jvm.ClassFile.FieldType.int)) ∈ BIG := bg_t (ti_2 (List.mem_of_getElem? (i := 163) rfl)) rfl
theorem m_476 : (Jvm.Cond.methodLink "QueryRunner$Expressions" (62 : Nat) ({ cls := "QueryRunner$Expressions", name := "firstLike", desc := "(I)I" } : Jvm.MethodName)) ∈ BIG := bg_t (ti_2 (List.mem_of_getElem? (i := 164) (by decide +kernel))) rfl
theorem m_478 : (Jvm.Cond.instanceMethod ({ cls := "QueryRunner$Expressions", name := "firstLike", desc := "(I)I" } : Jvm.MethodName)) ∈ BIG := bg_t (ti_2 (List.mem_of_getElem? (i := 166) (by decide +kernel))) rfl
theorem m_479 : (Jvm.Cond.code ({ cls := "QueryRunner$Expressions", name := "firstLike", desc := "(I)I" } : Jvm.MethodName) prog_5_method_11_code (3 : Nat) (Option.some Jvm.ClassFile.FieldType.int)) ∈ BIG := bg_t (ti_2 (List.mem_of_getElem? (i := 167) rfl)) rfl
theorem m_480 : (Jvm.Cond.methodLink "QueryRunner$Expressions" (73 : Nat) ({ cls := "QueryRunner$Expressions", name := "likeOf", desc := "(I)I" } : Jvm.MethodName)) ∈ BIG := bg_t (ti_2 (List.mem_of_getElem? (i := 168) (by decide +kernel))) rfl
theorem m_482 : (Jvm.Cond.instanceMethod ({ cls := "QueryRunner$Expressions", name := "likeOf", desc := "(I)I" } : Jvm.MethodName)) ∈ BIG := bg_t (ti_2 (List.mem_of_getElem? (i := 170) (by decide +kernel))) rfl
theorem m_483 : (Jvm.Cond.code ({ cls := "QueryRunner$Expressions", name := "likeOf", desc := "(I)I" } : Jvm.MethodName) prog_5_method_12_code (2 : Nat) (Option.some Jvm.ClassFile.FieldType.int)) ∈ BIG := bg_t (ti_2 (List.mem_of_getElem? (i := 171) rfl)) rfl
theorem m_484 : (Jvm.Cond.methodLink "QueryRunnerLaw" (35 : Nat) ({ cls := "QueryRunner", name := "column", desc := "(II)I" } : Jvm.MethodName)) ∈ BIG := bg_t (ti_2 (List.mem_of_getElem? (i := 172) (by decide +kernel))) rfl
theorem m_485 : (Jvm.Cond.instanceMethod ({ cls := "QueryRunner", name := "column", desc := "(II)I" } : Jvm.MethodName)) ∈ BIG := bg_t (ti_2 (List.mem_of_getElem? (i := 173) (by decide +kernel))) rfl
theorem m_486 : (Jvm.Cond.selects "QueryRunner" ({ cls := "QueryRunner", name := "column", desc := "(II)I" } : Jvm.MethodName) ({ cls := "QueryRunner", name := "column", desc := "(II)I" } : Jvm.MethodName)) ∈ BIG := bg_t (ti_2 (List.mem_of_getElem? (i := 174) (by decide +kernel))) rfl
theorem m_487 : (Jvm.Cond.code ({ cls := "QueryRunner", name := "column", desc := "(II)I" } : Jvm.MethodName) prog_1_method_6_code (3 : Nat) (Option.some Jvm.ClassFile.FieldType.int)) ∈ BIG := bg_t (ti_2 (List.mem_of_getElem? (i := 175) rfl)) rfl
theorem m_488 : (Jvm.Cond.methodLink "QueryRunnerLaw" (40 : Nat) ({ cls := "QueryRunner", name := "op", desc := "(III)I" } : Jvm.MethodName)) ∈ BIG := bg_t (ti_2 (List.mem_of_getElem? (i := 176) (by decide +kernel))) rfl
theorem m_489 : (Jvm.Cond.instanceMethod ({ cls := "QueryRunner", name := "op", desc := "(III)I" } : Jvm.MethodName)) ∈ BIG := bg_t (ti_2 (List.mem_of_getElem? (i := 177) (by decide +kernel))) rfl
theorem m_490 : (Jvm.Cond.selects "QueryRunner" ({ cls := "QueryRunner", name := "op", desc := "(III)I" } : Jvm.MethodName) ({ cls := "QueryRunner", name := "op", desc := "(III)I" } : Jvm.MethodName)) ∈ BIG := bg_t (ti_2 (List.mem_of_getElem? (i := 178) (by decide +kernel))) rfl
theorem m_491 : (Jvm.Cond.code ({ cls := "QueryRunner", name := "op", desc := "(III)I" } : Jvm.MethodName) prog_1_method_7_code (7 : Nat) (Option.some Jvm.ClassFile.FieldType.int)) ∈ BIG := bg_t (ti_2 (List.mem_of_getElem? (i := 179) rfl)) rfl
theorem m_492 : (Jvm.Cond.methodLink "QueryRunner" (92 : Nat) ({ cls := "QueryRunner$Expressions", name := "has", desc := "(I)Z" } : Jvm.MethodName)) ∈ BIG := bg_t (ti_2 (List.mem_of_getElem? (i := 180) (by decide +kernel))) rfl
theorem m_493 : (Jvm.Cond.methodLink "QueryRunner" (93 : Nat) ({ cls := "QueryRunner$Expressions", name := "isTruth", desc := "(I)Z" } : Jvm.MethodName)) ∈ BIG := bg_t (ti_2 (List.mem_of_getElem? (i := 181) (by decide +kernel))) rfl
theorem m_494 : (Jvm.Cond.instanceMethod ({ cls := "QueryRunner$Expressions", name := "isTruth", desc := "(I)Z" } : Jvm.MethodName)) ∈ BIG := bg_t (ti_2 (List.mem_of_getElem? (i := 182) (by decide +kernel))) rfl
theorem m_495 : (Jvm.Cond.selects "QueryRunner$Expressions" ({ cls := "QueryRunner$Expressions", name := "isTruth", desc := "(I)Z" } : Jvm.MethodName) ({ cls := "QueryRunner$Expressions", name := "isTruth", desc := "(I)Z" } : Jvm.MethodName)) ∈ BIG := bg_t (ti_2 (List.mem_of_getElem? (i := 183) (by decide +kernel))) rfl
theorem m_496 : (Jvm.Cond.code ({ cls := "QueryRunner$Expressions", name := "isTruth", desc := "(I)Z" } : Jvm.MethodName) prog_5_method_4_code (2 : Nat) (Option.some Jvm.ClassFile.FieldType.boolean)) ∈ BIG := bg_t (ti_2 (List.mem_of_getElem? (i := 184) rfl)) rfl
theorem m_497 : (Jvm.Cond.methodLink "QueryRunnerLaw" (45 : Nat) ({ cls := "QueryRunner", name := "aggregate", desc := "(IIZ)I" } : Jvm.MethodName)) ∈ BIG := bg_t (ti_2 (List.mem_of_getElem? (i := 185) (by decide +kernel))) rfl
theorem m_498 : (Jvm.Cond.instanceMethod ({ cls := "QueryRunner", name := "aggregate", desc := "(IIZ)I" } : Jvm.MethodName)) ∈ BIG := bg_t (ti_2 (List.mem_of_getElem? (i := 186) (by decide +kernel))) rfl
theorem m_499 : (Jvm.Cond.selects "QueryRunner" ({ cls := "QueryRunner", name := "aggregate", desc := "(IIZ)I" } : Jvm.MethodName) ({ cls := "QueryRunner", name := "aggregate", desc := "(IIZ)I" } : Jvm.MethodName)) ∈ BIG := bg_t (ti_2 (List.mem_of_getElem? (i := 187) (by decide +kernel))) rfl
theorem m_500 : (Jvm.Cond.code ({ cls := "QueryRunner", name := "aggregate", desc := "(IIZ)I" } : Jvm.MethodName) prog_1_method_8_code (4 : Nat) (Option.some Jvm.ClassFile.FieldType.int)) ∈ BIG := bg_t (ti_2 (List.mem_of_getElem? (i := 188) rfl)) rfl
theorem m_501 : (Jvm.Cond.methodLink "QueryRunner" (102 : Nat) ({ cls := "QueryRunner$Expressions", name := "addAggregate", desc := "(IIZ)I" } : Jvm.MethodName)) ∈ BIG := bg_t (ti_2 (List.mem_of_getElem? (i := 189) (by decide +kernel))) rfl
theorem m_502 : (Jvm.Cond.instanceMethod ({ cls := "QueryRunner$Expressions", name := "addAggregate", desc := "(IIZ)I" } : Jvm.MethodName)) ∈ BIG := bg_t (ti_2 (List.mem_of_getElem? (i := 190) (by decide +kernel))) rfl
theorem m_503 : (Jvm.Cond.selects "QueryRunner$Expressions" ({ cls := "QueryRunner$Expressions", name := "addAggregate", desc := "(IIZ)I" } : Jvm.MethodName) ({ cls := "QueryRunner$Expressions", name := "addAggregate", desc := "(IIZ)I" } : Jvm.MethodName)) ∈ BIG := bg_t (ti_2 (List.mem_of_getElem? (i := 191) (by decide +kernel))) rfl
theorem m_504 : (Jvm.Cond.code ({ cls := "QueryRunner$Expressions", name := "addAggregate", desc := "(IIZ)I" } : Jvm.MethodName) prog_5_method_7_code (5 : Nat) (Option.some Jvm.ClassFile.FieldType.int)) ∈ BIG := bg_t (ti_2 (List.mem_of_getElem? (i := 192) rfl)) rfl
theorem m_505 : (Jvm.Cond.methodLink "QueryRunner$Expressions" (65 : Nat) ({ cls := "QueryRunner$Expressions", name := "add", desc := "(IJII)I" } : Jvm.MethodName)) ∈ BIG := bg_t (ti_2 (List.mem_of_getElem? (i := 193) (by decide +kernel))) rfl
theorem m_506 : (Jvm.Cond.methodLink "QueryRunnerLaw" (50 : Nat) ({ cls := "QueryRunner", name := "source", desc := "(III)I" } : Jvm.MethodName)) ∈ BIG := bg_t (ti_2 (List.mem_of_getElem? (i := 194) (by decide +kernel))) rfl
theorem m_507 : (Jvm.Cond.instanceMethod ({ cls := "QueryRunner", name := "source", desc := "(III)I" } : Jvm.MethodName)) ∈ BIG := bg_t (ti_2 (List.mem_of_getElem? (i := 195) (by decide +kernel))) rfl
theorem m_508 : (Jvm.Cond.selects "QueryRunner" ({ cls := "QueryRunner", name := "source", desc := "(III)I" } : Jvm.MethodName) ({ cls := "QueryRunner", name := "source", desc := "(III)I" } : Jvm.MethodName)) ∈ BIG := bg_t (ti_2 (List.mem_of_getElem? (i := 196) (by decide +kernel))) rfl
theorem m_509 : (Jvm.Cond.code ({ cls := "QueryRunner", name := "source", desc := "(III)I" } : Jvm.MethodName) prog_1_method_9_code (4 : Nat) (Option.some Jvm.ClassFile.FieldType.int)) ∈ BIG := bg_t (ti_2 (List.mem_of_getElem? (i := 197) rfl)) rfl
theorem m_510 : (Jvm.Cond.methodLink "QueryRunner" (109 : Nat) ({ cls := "QueryRunner$Query", name := "addSource", desc := "(III)I" } : Jvm.MethodName)) ∈ BIG := bg_t (ti_2 (List.mem_of_getElem? (i := 198) (by decide +kernel))) rfl
theorem m_511 : (Jvm.Cond.instanceMethod ({ cls := "QueryRunner$Query", name := "addSource", desc := "(III)I" } : Jvm.MethodName)) ∈ BIG := bg_t (ti_2 (List.mem_of_getElem? (i := 199) (by decide +kernel))) rfl
theorem m_512 : (Jvm.Cond.selects "QueryRunner$Query" ({ cls := "QueryRunner$Query", name := "addSource", desc := "(III)I" } : Jvm.MethodName) ({ cls := "QueryRunner$Query", name := "addSource", desc := "(III)I" } : Jvm.MethodName)) ∈ BIG := bg_t (ti_2 (List.mem_of_getElem? (i := 200) (by decide +kernel))) rfl
theorem m_513 : (Jvm.Cond.code ({ cls := "QueryRunner$Query", name := "addSource", desc := "(III)I" } : Jvm.MethodName) prog_7_method_3_code (4 : Nat) (Option.some Jvm.ClassFile.FieldType.int)) ∈ BIG := bg_t (ti_2 (List.mem_of_getElem? (i := 201) rfl)) rfl
theorem m_514 : (Jvm.Cond.methodLink "QueryRunnerLaw" (54 : Nat) ({ cls := "QueryRunner", name := "condition", desc := "(II)I" } : Jvm.MethodName)) ∈ BIG := bg_t (ti_2 (List.mem_of_getElem? (i := 202) (by decide +kernel))) rfl
theorem m_515 : (Jvm.Cond.instanceMethod ({ cls := "QueryRunner", name := "condition", desc := "(II)I" } : Jvm.MethodName)) ∈ BIG := bg_t (ti_2 (List.mem_of_getElem? (i := 203) (by decide +kernel))) rfl
theorem m_516 : (Jvm.Cond.selects "QueryRunner" ({ cls := "QueryRunner", name := "condition", desc := "(II)I" } : Jvm.MethodName) ({ cls := "QueryRunner", name := "condition", desc := "(II)I" } : Jvm.MethodName)) ∈ BIG := bg_t (ti_2 (List.mem_of_getElem? (i := 204) (by decide +kernel))) rfl
theorem m_517 : (Jvm.Cond.code ({ cls := "QueryRunner", name := "condition", desc := "(II)I" } : Jvm.MethodName) prog_1_method_10_code (3 : Nat) (Option.some Jvm.ClassFile.FieldType.int)) ∈ BIG := bg_t (ti_2 (List.mem_of_getElem? (i := 205) rfl)) rfl
theorem m_518 : (Jvm.Cond.methodLink "QueryRunnerLaw" (58 : Nat) ({ cls := "QueryRunner", name := "group", desc := "(I)I" } : Jvm.MethodName)) ∈ BIG := bg_t (ti_2 (List.mem_of_getElem? (i := 206) (by decide +kernel))) rfl
theorem m_519 : (Jvm.Cond.instanceMethod ({ cls := "QueryRunner", name := "group", desc := "(I)I" } : Jvm.MethodName)) ∈ BIG := bg_t (ti_2 (List.mem_of_getElem? (i := 207) (by decide +kernel))) rfl
theorem m_520 : (Jvm.Cond.selects "QueryRunner" ({ cls := "QueryRunner", name := "group", desc := "(I)I" } : Jvm.MethodName) ({ cls := "QueryRunner", name := "group", desc := "(I)I" } : Jvm.MethodName)) ∈ BIG := bg_t (ti_2 (List.mem_of_getElem? (i := 208) (by decide +kernel))) rfl
theorem m_521 : (Jvm.Cond.code ({ cls := "QueryRunner", name := "group", desc := "(I)I" } : Jvm.MethodName) prog_1_method_11_code (2 : Nat) (Option.some Jvm.ClassFile.FieldType.int)) ∈ BIG := bg_t (ti_2 (List.mem_of_getElem? (i := 209) rfl)) rfl
theorem m_522 : (Jvm.Cond.methodLink "QueryRunner" (122 : Nat) ({ cls := "QueryRunner$Query", name := "addGroup", desc := "(I)I" } : Jvm.MethodName)) ∈ BIG := bg_t (ti_2 (List.mem_of_getElem? (i := 210) (by decide +kernel))) rfl
theorem m_523 : (Jvm.Cond.instanceMethod ({ cls := "QueryRunner$Query", name := "addGroup", desc := "(I)I" } : Jvm.MethodName)) ∈ BIG := bg_t (ti_2 (List.mem_of_getElem? (i := 211) (by decide +kernel))) rfl
theorem m_524 : (Jvm.Cond.selects "QueryRunner$Query" ({ cls := "QueryRunner$Query", name := "addGroup", desc := "(I)I" } : Jvm.MethodName) ({ cls := "QueryRunner$Query", name := "addGroup", desc := "(I)I" } : Jvm.MethodName)) ∈ BIG := bg_t (ti_2 (List.mem_of_getElem? (i := 212) (by decide +kernel))) rfl
theorem m_525 : (Jvm.Cond.code ({ cls := "QueryRunner$Query", name := "addGroup", desc := "(I)I" } : Jvm.MethodName) prog_7_method_4_code (2 : Nat) (Option.some Jvm.ClassFile.FieldType.int)) ∈ BIG := bg_t (ti_2 (List.mem_of_getElem? (i := 213) rfl)) rfl
theorem m_526 : (Jvm.Cond.methodLink "QueryRunnerLaw" (62 : Nat) ({ cls := "QueryRunner", name := "item", desc := "(I)I" } : Jvm.MethodName)) ∈ BIG := bg_t (ti_2 (List.mem_of_getElem? (i := 214) (by decide +kernel))) rfl
theorem m_527 : (Jvm.Cond.instanceMethod ({ cls := "QueryRunner", name := "item", desc := "(I)I" } : Jvm.MethodName)) ∈ BIG := bg_t (ti_2 (List.mem_of_getElem? (i := 215) (by decide +kernel))) rfl
theorem m_528 : (Jvm.Cond.selects "QueryRunner" ({ cls := "QueryRunner", name := "item", desc := "(I)I" } : Jvm.MethodName) ({ cls := "QueryRunner", name := "item", desc := "(I)I" } : Jvm.MethodName)) ∈ BIG := bg_t (ti_2 (List.mem_of_getElem? (i := 216) (by decide +kernel))) rfl
theorem m_529 : (Jvm.Cond.code ({ cls := "QueryRunner", name := "item", desc := "(I)I" } : Jvm.MethodName) prog_1_method_12_code (2 : Nat) (Option.some Jvm.ClassFile.FieldType.int)) ∈ BIG := bg_t (ti_2 (List.mem_of_getElem? (i := 217) rfl)) rfl
theorem m_530 : (Jvm.Cond.methodLink "QueryRunner" (128 : Nat) ({ cls := "QueryRunner$Query", name := "addItem", desc := "(I)I" } : Jvm.MethodName)) ∈ BIG := bg_t (ti_2 (List.mem_of_getElem? (i := 218) (by decide +kernel))) rfl
theorem m_531 : (Jvm.Cond.instanceMethod ({ cls := "QueryRunner$Query", name := "addItem", desc := "(I)I" } : Jvm.MethodName)) ∈ BIG := bg_t (ti_2 (List.mem_of_getElem? (i := 219) (by decide +kernel))) rfl
theorem m_532 : (Jvm.Cond.selects "QueryRunner$Query" ({ cls := "QueryRunner$Query", name := "addItem", desc := "(I)I" } : Jvm.MethodName) ({ cls := "QueryRunner$Query", name := "addItem", desc := "(I)I" } : Jvm.MethodName)) ∈ BIG := bg_t (ti_2 (List.mem_of_getElem? (i := 220) (by decide +kernel))) rfl
theorem m_533 : (Jvm.Cond.code ({ cls := "QueryRunner$Query", name := "addItem", desc := "(I)I" } : Jvm.MethodName) prog_7_method_5_code (2 : Nat) (Option.some Jvm.ClassFile.FieldType.int)) ∈ BIG := bg_t (ti_2 (List.mem_of_getElem? (i := 221) rfl)) rfl
theorem m_534 : (Jvm.Cond.methodLink "QueryRunnerLaw" (66 : Nat) ({ cls := "QueryRunner", name := "order", desc := "(IZ)I" } : Jvm.MethodName)) ∈ BIG := bg_t (ti_2 (List.mem_of_getElem? (i := 222) (by decide +kernel))) rfl
theorem m_535 : (Jvm.Cond.instanceMethod ({ cls := "QueryRunner", name := "order", desc := "(IZ)I" } : Jvm.MethodName)) ∈ BIG := bg_t (ti_2 (List.mem_of_getElem? (i := 223) (by decide +kernel))) rfl
theorem m_536 : (Jvm.Cond.selects "QueryRunner" ({ cls := "QueryRunner", name := "order", desc := "(IZ)I" } : Jvm.MethodName) ({ cls := "QueryRunner", name := "order", desc := "(IZ)I" } : Jvm.MethodName)) ∈ BIG := bg_t (ti_2 (List.mem_of_getElem? (i := 224) (by decide +kernel))) rfl
theorem m_537 : (Jvm.Cond.code ({ cls := "QueryRunner", name := "order", desc := "(IZ)I" } : Jvm.MethodName) prog_1_method_13_code (3 : Nat) (Option.some Jvm.ClassFile.FieldType.int)) ∈ BIG := bg_t (ti_2 (List.mem_of_getElem? (i := 225) rfl)) rfl
theorem m_538 : (Jvm.Cond.methodLink "QueryRunner" (134 : Nat) ({ cls := "QueryRunner$Query", name := "addOrder", desc := "(IZ)I" } : Jvm.MethodName)) ∈ BIG := bg_t (ti_2 (List.mem_of_getElem? (i := 226) (by decide +kernel))) rfl
theorem m_539 : (Jvm.Cond.instanceMethod ({ cls := "QueryRunner$Query", name := "addOrder", desc := "(IZ)I" } : Jvm.MethodName)) ∈ BIG := bg_t (ti_2 (List.mem_of_getElem? (i := 227) (by decide +kernel))) rfl
theorem m_540 : (Jvm.Cond.selects "QueryRunner$Query" ({ cls := "QueryRunner$Query", name := "addOrder", desc := "(IZ)I" } : Jvm.MethodName) ({ cls := "QueryRunner$Query", name := "addOrder", desc := "(IZ)I" } : Jvm.MethodName)) ∈ BIG := bg_t (ti_2 (List.mem_of_getElem? (i := 228) (by decide +kernel))) rfl
theorem m_541 : (Jvm.Cond.code ({ cls := "QueryRunner$Query", name := "addOrder", desc := "(IZ)I" } : Jvm.MethodName) prog_7_method_6_code (3 : Nat) (Option.some Jvm.ClassFile.FieldType.int)) ∈ BIG := bg_t (ti_2 (List.mem_of_getElem? (i := 229) rfl)) rfl
theorem m_542 : (Jvm.Cond.methodLink "QueryRunnerLaw" (71 : Nat) ({ cls := "QueryRunner", name := "shape", desc := "(ZII)I" } : Jvm.MethodName)) ∈ BIG := bg_t (ti_2 (List.mem_of_getElem? (i := 230) (by decide +kernel))) rfl
theorem m_543 : (Jvm.Cond.instanceMethod ({ cls := "QueryRunner", name := "shape", desc := "(ZII)I" } : Jvm.MethodName)) ∈ BIG := bg_t (ti_2 (List.mem_of_getElem? (i := 231) (by decide +kernel))) rfl
theorem m_544 : (Jvm.Cond.selects "QueryRunner" ({ cls := "QueryRunner", name := "shape", desc := "(ZII)I" } : Jvm.MethodName) ({ cls := "QueryRunner", name := "shape", desc := "(ZII)I" } : Jvm.MethodName)) ∈ BIG := bg_t (ti_2 (List.mem_of_getElem? (i := 232) (by decide +kernel))) rfl
theorem m_545 : (Jvm.Cond.code ({ cls := "QueryRunner", name := "shape", desc := "(ZII)I" } : Jvm.MethodName) prog_1_method_14_code (4 : Nat) (Option.some Jvm.ClassFile.FieldType.int)) ∈ BIG := bg_t (ti_2 (List.mem_of_getElem? (i := 233) rfl)) rfl
theorem m_546 : (Jvm.Cond.methodLink "QueryRunner" (138 : Nat) ({ cls := "QueryRunner$Query", name := "setShape", desc := "(ZII)V" } : Jvm.MethodName)) ∈ BIG := bg_t (ti_2 (List.mem_of_getElem? (i := 234) (by decide +kernel))) rfl
theorem m_547 : (Jvm.Cond.methodLink "QueryRunnerLaw" (76 : Nat) ({ cls := "QueryRunner", name := "run", desc := "()I" } : Jvm.MethodName)) ∈ BIG := bg_t (ti_2 (List.mem_of_getElem? (i := 235) (by decide +kernel))) rfl
theorem m_548 : (Jvm.Cond.instanceMethod ({ cls := "QueryRunner", name := "run", desc := "()I" } : Jvm.MethodName)) ∈ BIG := bg_t (ti_2 (List.mem_of_getElem? (i := 236) (by decide +kernel))) rfl
theorem m_549 : (Jvm.Cond.selects "QueryRunner" ({ cls := "QueryRunner", name := "run", desc := "()I" } : Jvm.MethodName) ({ cls := "QueryRunner", name := "run", desc := "()I" } : Jvm.MethodName)) ∈ BIG := bg_t (ti_2 (List.mem_of_getElem? (i := 237) (by decide +kernel))) rfl
theorem m_550 : (Jvm.Cond.code ({ cls := "QueryRunner", name := "run", desc := "()I" } : Jvm.MethodName) prog_1_method_15_code (2 : Nat) (Option.some Jvm.ClassFile.FieldType.int)) ∈ BIG := bg_t (ti_2 (List.mem_of_getElem? (i := 238) rfl)) rfl
theorem m_551 : (Jvm.Cond.methodLink "QueryRunner" (142 : Nat) ({ cls := "QueryRunner$Answer", name := "clear", desc := "()V" } : Jvm.MethodName)) ∈ BIG := bg_t (ti_2 (List.mem_of_getElem? (i := 239) (by decide +kernel))) rfl
theorem m_552 : (Jvm.Cond.instanceMethod ({ cls := "QueryRunner$Answer", name := "clear", desc := "()V" } : Jvm.MethodName)) ∈ BIG := bg_t (ti_3 (List.mem_of_getElem? (i := 0) (by decide +kernel))) rfl
theorem m_553 : (Jvm.Cond.selects "QueryRunner$Answer" ({ cls := "QueryRunner$Answer", name := "clear", desc := "()V" } : Jvm.MethodName) ({ cls := "QueryRunner$Answer", name := "clear", desc := "()V" } : Jvm.MethodName)) ∈ BIG := bg_t (ti_3 (List.mem_of_getElem? (i := 1) (by decide +kernel))) rfl
theorem m_554 : (Jvm.Cond.code ({ cls := "QueryRunner$Answer", name := "clear", desc := "()V" } : Jvm.MethodName) prog_2_method_2_code (1 : Nat) (Option.none : Option Jvm.ClassFile.FieldType)) ∈ BIG := bg_t (ti_3 (List.mem_of_getElem? (i := 2) rfl)) rfl
theorem m_555 : (Jvm.Cond.methodLink "QueryRunner" (143 : Nat) ({ cls := "QueryRunner$Runner", name := "prepare", desc := "()I" } : Jvm.MethodName)) ∈ BIG := bg_t (ti_3 (List.mem_of_getElem? (i := 3) (by decide +kernel))) rfl
theorem m_556 : (Jvm.Cond.instanceMethod ({ cls := "QueryRunner$Runner", name := "prepare", desc := "()I" } : Jvm.MethodName)) ∈ BIG := bg_t (ti_3 (List.mem_of_getElem? (i := 4) (by decide +kernel))) rfl
theorem m_557 : (Jvm.Cond.selects "QueryRunner$Runner" ({ cls := "QueryRunner$Runner", name := "prepare", desc := "()I" } : Jvm.MethodName) ({ cls := "QueryRunner$Runner", name := "prepare", desc := "()I" } : Jvm.MethodName)) ∈ BIG := bg_t (ti_3 (List.mem_of_getElem? (i := 5) (by decide +kernel))) rfl
theorem m_558 : (Jvm.Cond.code ({ cls := "QueryRunner$Runner", name := "prepare", desc := "()I" } : Jvm.MethodName) prog_8_method_2_code (2 : Nat) (Option.some Jvm.ClassFile.FieldType.int)) ∈ BIG := bg_t (ti_3 (List.mem_of_getElem? (i := 6) rfl)) rfl
theorem m_559 : (Jvm.Cond.methodLink "QueryRunner$Runner" (43 : Nat) ({ cls := "QueryRunner$Checker", name := "firstFault", desc := "()I" } : Jvm.MethodName)) ∈ BIG := bg_t (ti_3 (List.mem_of_getElem? (i := 7) (by decide +kernel))) rfl
theorem m_560 : (Jvm.Cond.instanceMethod ({ cls := "QueryRunner$Checker", name := "firstFault", desc := "()I" } : Jvm.MethodName)) ∈ BIG := bg_t (ti_3 (List.mem_of_getElem? (i := 8) (by decide +kernel))) rfl
theorem m_561 : (Jvm.Cond.selects "QueryRunner$Checker" ({ cls := "QueryRunner$Checker", name := "firstFault", desc := "()I" } : Jvm.MethodName) ({ cls := "QueryRunner$Checker", name := "firstFault", desc := "()I" } : Jvm.MethodName)) ∈ BIG := bg_t (ti_3 (List.mem_of_getElem? (i := 9) (by decide +kernel))) rfl
theorem m_562 : (Jvm.Cond.code ({ cls := "QueryRunner$Checker", name := "firstFault", desc := "()I" } : Jvm.MethodName) prog_3_method_2_code (1 : Nat) (Option.some Jvm.ClassFile.FieldType.int)) ∈ BIG := bg_t (ti_3 (List.mem_of_getElem? (i := 10) rfl)) rfl
theorem m_563 : (Jvm.Cond.methodLink "QueryRunner$Checker" (36 : Nat) ({ cls := "QueryRunner$Checker", name := "hasUnknownColumn", desc := "()Z" } : Jvm.MethodName)) ∈ BIG := bg_t (ti_3 (List.mem_of_getElem? (i := 11) (by decide +kernel))) rfl
theorem m_565 : (Jvm.Cond.instanceMethod ({ cls := "QueryRunner$Checker", name := "hasUnknownColumn", desc := "()Z" } : Jvm.MethodName)) ∈ BIG := bg_t (ti_3 (List.mem_of_getElem? (i := 13) (by decide +kernel))) rfl
theorem m_566 : (Jvm.Cond.code ({ cls := "QueryRunner$Checker", name := "hasUnknownColumn", desc := "()Z" } : Jvm.MethodName) prog_3_method_5_code (2 : Nat) (Option.some Jvm.ClassFile.FieldType.boolean)) ∈ BIG := bg_t (ti_3 (List.mem_of_getElem? (i := 14) rfl)) rfl
theorem m_567 : (Jvm.Cond.methodLink "QueryRunner$Checker" (72 : Nat) ({ cls := "QueryRunner$Checker", name := "bitsAt", desc := "(I[I)I" } : Jvm.MethodName)) ∈ BIG := bg_t (ti_3 (List.mem_of_getElem? (i := 15) (by decide +kernel))) rfl
theorem m_569 : (Jvm.Cond.instanceMethod ({ cls := "QueryRunner$Checker", name := "bitsAt", desc := "(I[I)I" } : Jvm.MethodName)) ∈ BIG := bg_t (ti_3 (List.mem_of_getElem? (i := 17) (by decide +kernel))) rfl
theorem m_570 : (Jvm.Cond.code ({ cls := "QueryRunner$Checker", name := "bitsAt", desc := "(I[I)I" } : Jvm.MethodName) prog_3_method_12_code (3 : Nat) (Option.some Jvm.ClassFile.FieldType.int)) ∈ BIG := bg_t (ti_3 (List.mem_of_getElem? (i := 18) rfl)) rfl
theorem m_571 : (Jvm.Cond.methodLink "QueryRunner$Checker" (102 : Nat) ({ cls := "QueryRunner$Expressions", name := "has", desc := "(I)Z" } : Jvm.MethodName)) ∈ BIG := bg_t (ti_3 (List.mem_of_getElem? (i := 19) (by decide +kernel))) rfl
theorem m_572 : (Jvm.Cond.methodLink "QueryRunner$Checker" (82 : Nat) ({ cls := "QueryRunner$Checker", name := "columnsUpTo", desc := "(I)I" } : Jvm.MethodName)) ∈ BIG := bg_t (ti_3 (List.mem_of_getElem? (i := 20) (by decide +kernel))) rfl
theorem m_574 : (Jvm.Cond.instanceMethod ({ cls := "QueryRunner$Checker", name := "columnsUpTo", desc := "(I)I" } : Jvm.MethodName)) ∈ BIG := bg_t (ti_3 (List.mem_of_getElem? (i := 22) (by decide +kernel))) rfl
theorem m_575 : (Jvm.Cond.code ({ cls := "QueryRunner$Checker", name := "columnsUpTo", desc := "(I)I" } : Jvm.MethodName) prog_3_method_10_code (5 : Nat) (Option.some Jvm.ClassFile.FieldType.int)) ∈ BIG := bg_t (ti_3 (List.mem_of_getElem? (i := 23) rfl)) rfl
theorem m_576 : (Jvm.Cond.methodLink "QueryRunner$Checker" (68 : Nat) ({ cls := "QueryRunner$Checker", name := "bitsIn", desc := "([II[I)I" } : Jvm.MethodName)) ∈ BIG := bg_t (ti_3 (List.mem_of_getElem? (i := 24) (by decide +kernel))) rfl
theorem m_578 : (Jvm.Cond.instanceMethod ({ cls := "QueryRunner$Checker", name := "bitsIn", desc := "([II[I)I" } : Jvm.MethodName)) ∈ BIG := bg_t (ti_3 (List.mem_of_getElem? (i := 26) (by decide +kernel))) rfl
theorem m_579 : (Jvm.Cond.code ({ cls := "QueryRunner$Checker", name := "bitsIn", desc := "([II[I)I" } : Jvm.MethodName) prog_3_method_11_code (6 : Nat) (Option.some Jvm.ClassFile.FieldType.int)) ∈ BIG := bg_t (ti_3 (List.mem_of_getElem? (i := 27) rfl)) rfl
theorem m_580 : (Jvm.Cond.methodLink "QueryRunner$Checker" (40 : Nat) ({ cls := "QueryRunner$Checker", name := "hasEarlyAggregate", desc := "()Z" } : Jvm.MethodName)) ∈ BIG := bg_t (ti_3 (List.mem_of_getElem? (i := 28) (by decide +kernel))) rfl
theorem m_582 : (Jvm.Cond.instanceMethod ({ cls := "QueryRunner$Checker", name := "hasEarlyAggregate", desc := "()Z" } : Jvm.MethodName)) ∈ BIG := bg_t (ti_3 (List.mem_of_getElem? (i := 30) (by decide +kernel))) rfl
theorem m_583 : (Jvm.Cond.code ({ cls := "QueryRunner$Checker", name := "hasEarlyAggregate", desc := "()Z" } : Jvm.MethodName) prog_3_method_6_code (2 : Nat) (Option.some Jvm.ClassFile.FieldType.boolean)) ∈ BIG := bg_t (ti_3 (List.mem_of_getElem? (i := 31) rfl)) rfl
theorem m_584 : (Jvm.Cond.methodLink "QueryRunner$Checker" (43 : Nat) ({ cls := "QueryRunner$Checker", name := "isGrouped", desc := "()Z" } : Jvm.MethodName)) ∈ BIG := bg_t (ti_3 (List.mem_of_getElem? (i := 32) (by decide +kernel))) rfl
theorem m_585 : (Jvm.Cond.instanceMethod ({ cls := "QueryRunner$Checker", name := "isGrouped", desc := "()Z" } : Jvm.MethodName)) ∈ BIG := bg_t (ti_3 (List.mem_of_getElem? (i := 33) (by decide +kernel))) rfl
theorem m_586 : (Jvm.Cond.selects "QueryRunner$Checker" ({ cls := "QueryRunner$Checker", name := "isGrouped", desc := "()Z" } : Jvm.MethodName) ({ cls := "QueryRunner$Checker", name := "isGrouped", desc := "()Z" } : Jvm.MethodName)) ∈ BIG := bg_t (ti_3 (List.mem_of_getElem? (i := 34) (by decide +kernel))) rfl
theorem m_587 : (Jvm.Cond.code ({ cls := "QueryRunner$Checker", name := "isGrouped", desc := "()Z" } : Jvm.MethodName) prog_3_method_3_code (1 : Nat) (Option.some Jvm.ClassFile.FieldType.boolean)) ∈ BIG := bg_t (ti_3 (List.mem_of_getElem? (i := 35) rfl)) rfl
theorem m_588 : (Jvm.Cond.methodLink "QueryRunner$Checker" (55 : Nat) ({ cls := "QueryRunner$Checker", name := "lateAggregates", desc := "()I" } : Jvm.MethodName)) ∈ BIG := bg_t (ti_3 (List.mem_of_getElem? (i := 36) (by decide +kernel))) rfl
theorem m_589 : (Jvm.Cond.instanceMethod ({ cls := "QueryRunner$Checker", name := "lateAggregates", desc := "()I" } : Jvm.MethodName)) ∈ BIG := bg_t (ti_3 (List.mem_of_getElem? (i := 37) (by decide +kernel))) rfl
theorem m_590 : (Jvm.Cond.selects "QueryRunner$Checker" ({ cls := "QueryRunner$Checker", name := "lateAggregates", desc := "()I" } : Jvm.MethodName) ({ cls := "QueryRunner$Checker", name := "lateAggregates", desc := "()I" } : Jvm.MethodName)) ∈ BIG := bg_t (ti_3 (List.mem_of_getElem? (i := 38) (by decide +kernel))) rfl
theorem m_591 : (Jvm.Cond.code ({ cls := "QueryRunner$Checker", name := "lateAggregates", desc := "()I" } : Jvm.MethodName) prog_3_method_4_code (1 : Nat) (Option.some Jvm.ClassFile.FieldType.int)) ∈ BIG := bg_t (ti_3 (List.mem_of_getElem? (i := 39) rfl)) rfl
theorem m_592 : (Jvm.Cond.methodLink "QueryRunner$Checker" (46 : Nat) ({ cls := "QueryRunner$Checker", name := "hasLooseColumn", desc := "()Z" } : Jvm.MethodName)) ∈ BIG := bg_t (ti_3 (List.mem_of_getElem? (i := 40) (by decide +kernel))) rfl
theorem m_594 : (Jvm.Cond.instanceMethod ({ cls := "QueryRunner$Checker", name := "hasLooseColumn", desc := "()Z" } : Jvm.MethodName)) ∈ BIG := bg_t (ti_3 (List.mem_of_getElem? (i := 42) (by decide +kernel))) rfl
theorem m_595 : (Jvm.Cond.code ({ cls := "QueryRunner$Checker", name := "hasLooseColumn", desc := "()Z" } : Jvm.MethodName) prog_3_method_7_code (2 : Nat) (Option.some Jvm.ClassFile.FieldType.boolean)) ∈ BIG := bg_t (ti_3 (List.mem_of_getElem? (i := 43) rfl)) rfl
theorem m_596 : (Jvm.Cond.methodLink "QueryRunner$Checker" (95 : Nat) ({ cls := "QueryRunner$Checker", name := "isLikeGroup", desc := "(I)Z" } : Jvm.MethodName)) ∈ BIG := bg_t (ti_3 (List.mem_of_getElem? (i := 44) (by decide +kernel))) rfl
theorem m_598 : (Jvm.Cond.instanceMethod ({ cls := "QueryRunner$Checker", name := "isLikeGroup", desc := "(I)Z" } : Jvm.MethodName)) ∈ BIG := bg_t (ti_3 (List.mem_of_getElem? (i := 46) (by decide +kernel))) rfl
theorem m_599 : (Jvm.Cond.code ({ cls := "QueryRunner$Checker", name := "isLikeGroup", desc := "(I)Z" } : Jvm.MethodName) prog_3_method_8_code (3 : Nat) (Option.some Jvm.ClassFile.FieldType.boolean)) ∈ BIG := bg_t (ti_3 (List.mem_of_getElem? (i := 47) rfl)) rfl
theorem m_600 : (Jvm.Cond.methodLink "QueryRunner$Checker" (105 : Nat) ({ cls := "QueryRunner$Expressions", name := "isAlike", desc := "(II)Z" } : Jvm.MethodName)) ∈ BIG := bg_t (ti_3 (List.mem_of_getElem? (i := 48) (by decide +kernel))) rfl
theorem m_601 : (Jvm.Cond.instanceMethod ({ cls := "QueryRunner$Expressions", name := "isAlike", desc := "(II)Z" } : Jvm.MethodName)) ∈ BIG := bg_t (ti_3 (List.mem_of_getElem? (i := 49) (by decide +kernel))) rfl
theorem m_602 : (Jvm.Cond.selects "QueryRunner$Expressions" ({ cls := "QueryRunner$Expressions", name := "isAlike", desc := "(II)Z" } : Jvm.MethodName) ({ cls := "QueryRunner$Expressions", name := "isAlike", desc := "(II)Z" } : Jvm.MethodName)) ∈ BIG := bg_t (ti_3 (List.mem_of_getElem? (i := 50) (by decide +kernel))) rfl
theorem m_603 : (Jvm.Cond.code ({ cls := "QueryRunner$Expressions", name := "isAlike", desc := "(II)Z" } : Jvm.MethodName) prog_5_method_8_code (3 : Nat) (Option.some Jvm.ClassFile.FieldType.boolean)) ∈ BIG := bg_t (ti_3 (List.mem_of_getElem? (i := 51) rfl)) rfl
theorem m_604 : (Jvm.Cond.methodLink "QueryRunner$Checker" (99 : Nat) ({ cls := "QueryRunner$Checker", name := "isLoose", desc := "(I)Z" } : Jvm.MethodName)) ∈ BIG := bg_t (ti_3 (List.mem_of_getElem? (i := 52) (by decide +kernel))) rfl
theorem m_606 : (Jvm.Cond.instanceMethod ({ cls := "QueryRunner$Checker", name := "isLoose", desc := "(I)Z" } : Jvm.MethodName)) ∈ BIG := bg_t (ti_3 (List.mem_of_getElem? (i := 54) (by decide +kernel))) rfl
theorem m_607 : (Jvm.Cond.code ({ cls := "QueryRunner$Checker", name := "isLoose", desc := "(I)Z" } : Jvm.MethodName) prog_3_method_9_code (5 : Nat) (Option.some Jvm.ClassFile.FieldType.boolean)) ∈ BIG := bg_t (ti_3 (List.mem_of_getElem? (i := 55) rfl)) rfl
theorem m_608 : (Jvm.Cond.methodLink "QueryRunner$Runner" (47 : Nat) ({ cls := "QueryRunner$Checker", name := "isGrouped", desc := "()Z" } : Jvm.MethodName)) ∈ BIG := bg_t (ti_3 (List.mem_of_getElem? (i := 56) (by decide +kernel))) rfl
theorem m_609 : (Jvm.Cond.methodLink "QueryRunner$Runner" (54 : Nat) ({ cls := "QueryRunner$Checker", name := "lateAggregates", desc := "()I" } : Jvm.MethodName)) ∈ BIG := bg_t (ti_3 (List.mem_of_getElem? (i := 57) (by decide +kernel))) rfl
theorem m_610 : (Jvm.Cond.classLink "QueryRunner$Runner" (65 : Nat) "QueryRunner$Groups") ∈ BIG := bg_t (ti_3 (List.mem_of_getElem? (i := 58) (by decide +kernel))) rfl
theorem m_611 : (Jvm.Cond.instantiable "QueryRunner$Groups" (14 : Nat)) ∈ BIG := bg_t (ti_3 (List.mem_of_getElem? (i := 59) (by decide +kernel))) rfl
theorem m_612 : (Jvm.Cond.methodLink "QueryRunner$Runner" (67 : Nat) ({ cls := "QueryRunner$Groups", name := "<init>", desc := "(LQueryRunner$Expressions;)V" } : Jvm.MethodName)) ∈ BIG := bg_t (ti_3 (List.mem_of_getElem? (i := 60) (by decide +kernel))) rfl
theorem m_613 : (Jvm.Cond.instanceMethod ({ cls := "QueryRunner$Groups", name := "<init>", desc := "(LQueryRunner$Expressions;)V" } : Jvm.MethodName)) ∈ BIG := bg_t (ti_3 (List.mem_of_getElem? (i := 61) (by decide +kernel))) rfl
theorem m_614 : (Jvm.Cond.code ({ cls := "QueryRunner$Groups", name := "<init>", desc := "(LQueryRunner$Expressions;)V" } : Jvm.MethodName) prog_6_method_1_code (2 : Nat) (Option.none : Option Jvm.ClassFile.FieldType)) ∈ BIG := bg_t (ti_3 (List.mem_of_getElem? (i := 62) rfl)) rfl
theorem m_615 : (Jvm.Cond.methodLink "QueryRunner$Groups" (3 : Nat) ({ cls := "java/lang/Object", name := "<init>", desc := "()V" } : Jvm.MethodName)) ∈ BIG := bg_t (ti_3 (List.mem_of_getElem? (i := 63) (by decide +kernel))) rfl
theorem m_616 : (Jvm.Cond.fieldLink "QueryRunner$Groups" (43 : Nat) "QueryRunner$Groups" "expressions" "LQueryRunner$Expressions;") ∈ BIG := bg_t (ti_3 (List.mem_of_getElem? (i := 64) (by decide +kernel))) rfl
theorem m_617 : (Jvm.Cond.fieldLink "QueryRunner$Groups" (51 : Nat) "QueryRunner$Groups" "groupCount" "I") ∈ BIG := bg_t (ti_3 (List.mem_of_getElem? (i := 65) (by decide +kernel))) rfl
theorem m_618 : (Jvm.Cond.fieldLink "QueryRunner$Runner" (111 : Nat) "QueryRunner$Groups" "groupCount" "I") ∈ BIG := bg_t (ti_3 (List.mem_of_getElem? (i := 66) (by decide +kernel))) rfl
theorem m_619 : (Jvm.Cond.fieldLink "QueryRunner$Groups" (47 : Nat) "QueryRunner$Groups" "rowCount" "I") ∈ BIG := bg_t (ti_3 (List.mem_of_getElem? (i := 67) (by decide +kernel))) rfl
theorem m_620 : (Jvm.Cond.fieldLink "QueryRunner$Groups" (9 : Nat) "QueryRunner$Groups" "keys" "[J") ∈ BIG := bg_t (ti_3 (List.mem_of_getElem? (i := 68) (by decide +kernel))) rfl
theorem m_621 : (Jvm.Cond.fieldLink "QueryRunner$Groups" (15 : Nat) "QueryRunner$Groups" "keyNullBits" "[I") ∈ BIG := bg_t (ti_3 (List.mem_of_getElem? (i := 69) (by decide +kernel))) rfl
theorem m_622 : (Jvm.Cond.fieldLink "QueryRunner$Groups" (19 : Nat) "QueryRunner$Groups" "firstRow" "[I") ∈ BIG := bg_t (ti_3 (List.mem_of_getElem? (i := 70) (by decide +kernel))) rfl
theorem m_623 : (Jvm.Cond.fieldLink "QueryRunner$Groups" (22 : Nat) "QueryRunner$Groups" "lastRow" "[I") ∈ BIG := bg_t (ti_3 (List.mem_of_getElem? (i := 71) (by decide +kernel))) rfl
theorem m_624 : (Jvm.Cond.fieldLink "QueryRunner$Groups" (25 : Nat) "QueryRunner$Groups" "nextRow" "[I") ∈ BIG := bg_t (ti_3 (List.mem_of_getElem? (i := 72) (by decide +kernel))) rfl
theorem m_625 : (Jvm.Cond.fieldLink "QueryRunner$Groups" (28 : Nat) "QueryRunner$Groups" "rowAt" "[I") ∈ BIG := bg_t (ti_3 (List.mem_of_getElem? (i := 73) (by decide +kernel))) rfl
theorem m_626 : (Jvm.Cond.fieldLink "QueryRunner$Groups" (31 : Nat) "QueryRunner$Groups" "numbers" "[J") ∈ BIG := bg_t (ti_3 (List.mem_of_getElem? (i := 74) (by decide +kernel))) rfl
theorem m_627 : (Jvm.Cond.fieldLink "QueryRunner$Groups" (34 : Nat) "QueryRunner$Groups" "countedBits" "[I") ∈ BIG := bg_t (ti_3 (List.mem_of_getElem? (i := 75) (by decide +kernel))) rfl
theorem m_628 : (Jvm.Cond.fieldLink "QueryRunner$Groups" (37 : Nat) "QueryRunner$Groups" "counts" "[I") ∈ BIG := bg_t (ti_3 (List.mem_of_getElem? (i := 76) (by decide +kernel))) rfl
theorem m_629 : (Jvm.Cond.fieldLink "QueryRunner$Groups" (40 : Nat) "QueryRunner$Groups" "totals" "[J") ∈ BIG := bg_t (ti_3 (List.mem_of_getElem? (i := 77) (by decide +kernel))) rfl
theorem m_630 : (Jvm.Cond.fieldLink "QueryRunner$Groups" (66 : Nat) "QueryRunner$Groups" "current" "I") ∈ BIG := bg_t (ti_3 (List.mem_of_getElem? (i := 78) (by decide +kernel))) rfl
theorem m_660 : (Jvm.Cond.methodLink "QueryRunner$Runner" (75 : Nat) ({ cls := "QueryRunner$Groups", name := "clear", desc := "(Z)V" } : Jvm.MethodName)) ∈ BIG := bg_t (ti_3 (List.mem_of_getElem? (i := 108) (by decide +kernel))) rfl
theorem m_661 : (Jvm.Cond.instanceMethod ({ cls := "QueryRunner$Groups", name := "clear", desc := "(Z)V" } : Jvm.MethodName)) ∈ BIG := bg_t (ti_3 (List.mem_of_getElem? (i := 109) (by decide +kernel))) rfl
theorem m_662 : (Jvm.Cond.selects "QueryRunner$Groups" ({ cls := "QueryRunner$Groups", name := "clear", desc := "(Z)V" } : Jvm.MethodName) ({ cls := "QueryRunner$Groups", name := "clear", desc := "(Z)V" } : Jvm.MethodName)) ∈ BIG := bg_t (ti_3 (List.mem_of_getElem? (i := 110) (by decide +kernel))) rfl
theorem m_663 : (Jvm.Cond.code ({ cls := "QueryRunner$Groups", name := "clear", desc := "(Z)V" } : Jvm.MethodName) prog_6_method_2_code (2 : Nat) (Option.none : Option Jvm.ClassFile.FieldType)) ∈ BIG := bg_t (ti_3 (List.mem_of_getElem? (i := 111) rfl)) rfl
theorem m_664 : (Jvm.Cond.methodLink "QueryRunner$Groups" (54 : Nat) ({ cls := "QueryRunner$Groups", name := "openGroup", desc := "(I)V" } : Jvm.MethodName)) ∈ BIG := bg_t (ti_3 (List.mem_of_getElem? (i := 112) (by decide +kernel))) rfl
theorem m_666 : (Jvm.Cond.instanceMethod ({ cls := "QueryRunner$Groups", name := "openGroup", desc := "(I)V" } : Jvm.MethodName)) ∈ BIG := bg_t (ti_3 (List.mem_of_getElem? (i := 114) (by decide +kernel))) rfl
theorem m_667 : (Jvm.Cond.code ({ cls := "QueryRunner$Groups", name := "openGroup", desc := "(I)V" } : Jvm.MethodName) prog_6_method_13_code (3 : Nat) (Option.none : Option Jvm.ClassFile.FieldType)) ∈ BIG := bg_t (ti_3 (List.mem_of_getElem? (i := 115) rfl)) rfl
theorem m_670 : (Jvm.Cond.instanceMethod ({ cls := "QueryRunner$Runner", name := "joinFrom", desc := "(I)I" } : Jvm.MethodName)) ∈ BIG := bg_t (ti_3 (List.mem_of_getElem? (i := 118) (by decide +kernel))) rfl
theorem m_671 : (Jvm.Cond.code ({ cls := "QueryRunner$Runner", name := "joinFrom", desc := "(I)I" } : Jvm.MethodName) prog_8_method_3_code (7 : Nat) (Option.some Jvm.ClassFile.FieldType.int)) ∈ BIG := bg_t (ti_3 (List.mem_of_getElem? (i := 119) rfl)) rfl
theorem m_672 : (Jvm.Cond.methodLink "QueryRunner$Runner" (82 : Nat) ({ cls := "QueryRunner$Runner", name := "takeRow", desc := "()I" } : Jvm.MethodName)) ∈ BIG := bg_t (ti_3 (List.mem_of_getElem? (i := 120) (by decide +kernel))) rfl
theorem m_674 : (Jvm.Cond.instanceMethod ({ cls := "QueryRunner$Runner", name := "takeRow", desc := "()I" } : Jvm.MethodName)) ∈ BIG := bg_t (ti_3 (List.mem_of_getElem? (i := 122) (by decide +kernel))) rfl
theorem m_675 : (Jvm.Cond.code ({ cls := "QueryRunner$Runner", name := "takeRow", desc := "()I" } : Jvm.MethodName) prog_8_method_5_code (2 : Nat) (Option.some Jvm.ClassFile.FieldType.int)) ∈ BIG := bg_t (ti_3 (List.mem_of_getElem? (i := 123) rfl)) rfl
theorem m_678 : (Jvm.Cond.instanceMethod ({ cls := "QueryRunner$Evaluator", name := "truth", desc := "(II)I" } : Jvm.MethodName)) ∈ BIG := bg_t (ti_3 (List.mem_of_getElem? (i := 126) (by decide +kernel))) rfl
theorem m_679 : (Jvm.Cond.code ({ cls := "QueryRunner$Evaluator", name := "truth", desc := "(II)I" } : Jvm.MethodName) prog_4_method_3_code (5 : Nat) (Option.some Jvm.ClassFile.FieldType.int)) ∈ BIG := bg_t (ti_3 (List.mem_of_getElem? (i := 127) rfl)) rfl
theorem m_680 : (Jvm.Cond.methodLink "QueryRunner$Evaluator" (31 : Nat) ({ cls := "QueryRunner$Expressions", name := "has", desc := "(I)Z" } : Jvm.MethodName)) ∈ BIG := bg_t (ti_3 (List.mem_of_getElem? (i := 128) (by decide +kernel))) rfl
theorem m_681 : (Jvm.Cond.methodLink "QueryRunner$Evaluator" (62 : Nat) ({ cls := "QueryRunner$Evaluator", name := "junction", desc := "(II)I" } : Jvm.MethodName)) ∈ BIG := bg_t (ti_3 (List.mem_of_getElem? (i := 129) (by decide +kernel))) rfl
theorem m_683 : (Jvm.Cond.instanceMethod ({ cls := "QueryRunner$Evaluator", name := "junction", desc := "(II)I" } : Jvm.MethodName)) ∈ BIG := bg_t (ti_3 (List.mem_of_getElem? (i := 131) (by decide +kernel))) rfl
theorem m_684 : (Jvm.Cond.code ({ cls := "QueryRunner$Evaluator", name := "junction", desc := "(II)I" } : Jvm.MethodName) prog_4_method_9_code (6 : Nat) (Option.some Jvm.ClassFile.FieldType.int)) ∈ BIG := bg_t (ti_3 (List.mem_of_getElem? (i := 132) rfl)) rfl
theorem m_685 : (Jvm.Cond.methodLink "QueryRunner$Evaluator" (68 : Nat) ({ cls := "QueryRunner$Evaluator", name := "truth", desc := "(II)I" } : Jvm.MethodName)) ∈ BIG := bg_t (ti_3 (List.mem_of_getElem? (i := 133) (by decide +kernel))) rfl
theorem m_686 : (Jvm.Cond.methodLink "QueryRunner$Evaluator" (71 : Nat) ({ cls := "QueryRunner$Evaluator", name := "value", desc := "(II)I" } : Jvm.MethodName)) ∈ BIG := bg_t (ti_3 (List.mem_of_getElem? (i := 134) (by decide +kernel))) rfl
theorem m_688 : (Jvm.Cond.instanceMethod ({ cls := "QueryRunner$Evaluator", name := "value", desc := "(II)I" } : Jvm.MethodName)) ∈ BIG := bg_t (ti_3 (List.mem_of_getElem? (i := 136) (by decide +kernel))) rfl
theorem m_689 : (Jvm.Cond.code ({ cls := "QueryRunner$Evaluator", name := "value", desc := "(II)I" } : Jvm.MethodName) prog_4_method_2_code (4 : Nat) (Option.some Jvm.ClassFile.FieldType.int)) ∈ BIG := bg_t (ti_3 (List.mem_of_getElem? (i := 137) rfl)) rfl
theorem m_690 : (Jvm.Cond.methodLink "QueryRunner$Evaluator" (44 : Nat) ({ cls := "QueryRunner$Evaluator", name := "lookUp", desc := "(I)I" } : Jvm.MethodName)) ∈ BIG := bg_t (ti_3 (List.mem_of_getElem? (i := 138) (by decide +kernel))) rfl
theorem m_692 : (Jvm.Cond.instanceMethod ({ cls := "QueryRunner$Evaluator", name := "lookUp", desc := "(I)I" } : Jvm.MethodName)) ∈ BIG := bg_t (ti_3 (List.mem_of_getElem? (i := 140) (by decide +kernel))) rfl
theorem m_693 : (Jvm.Cond.code ({ cls := "QueryRunner$Evaluator", name := "lookUp", desc := "(I)I" } : Jvm.MethodName) prog_4_method_4_code (6 : Nat) (Option.some Jvm.ClassFile.FieldType.int)) ∈ BIG := bg_t (ti_3 (List.mem_of_getElem? (i := 141) rfl)) rfl
theorem m_694 : (Jvm.Cond.methodLink "QueryRunner$Evaluator" (48 : Nat) ({ cls := "QueryRunner$Evaluator", name := "ofGroup", desc := "(I)I" } : Jvm.MethodName)) ∈ BIG := bg_t (ti_3 (List.mem_of_getElem? (i := 142) (by decide +kernel))) rfl
theorem m_696 : (Jvm.Cond.instanceMethod ({ cls := "QueryRunner$Evaluator", name := "ofGroup", desc := "(I)I" } : Jvm.MethodName)) ∈ BIG := bg_t (ti_3 (List.mem_of_getElem? (i := 144) (by decide +kernel))) rfl
theorem m_697 : (Jvm.Cond.code ({ cls := "QueryRunner$Evaluator", name := "ofGroup", desc := "(I)I" } : Jvm.MethodName) prog_4_method_5_code (2 : Nat) (Option.some Jvm.ClassFile.FieldType.int)) ∈ BIG := bg_t (ti_3 (List.mem_of_getElem? (i := 145) rfl)) rfl
theorem m_698 : (Jvm.Cond.methodLink "QueryRunner$Evaluator" (95 : Nat) ({ cls := "QueryRunner$Groups", name := "resultOf", desc := "(I)J" } : Jvm.MethodName)) ∈ BIG := bg_t (ti_3 (List.mem_of_getElem? (i := 146) (by decide +kernel))) rfl
theorem m_699 : (Jvm.Cond.instanceMethod ({ cls := "QueryRunner$Groups", name := "resultOf", desc := "(I)J" } : Jvm.MethodName)) ∈ BIG := bg_t (ti_3 (List.mem_of_getElem? (i := 147) (by decide +kernel))) rfl
theorem m_700 : (Jvm.Cond.selects "QueryRunner$Groups" ({ cls := "QueryRunner$Groups", name := "resultOf", desc := "(I)J" } : Jvm.MethodName) ({ cls := "QueryRunner$Groups", name := "resultOf", desc := "(I)J" } : Jvm.MethodName)) ∈ BIG := bg_t (ti_3 (List.mem_of_getElem? (i := 148) (by decide +kernel))) rfl
theorem m_701 : (Jvm.Cond.code ({ cls := "QueryRunner$Groups", name := "resultOf", desc := "(I)J" } : Jvm.MethodName) prog_6_method_11_code (5 : Nat) (Option.some Jvm.ClassFile.FieldType.long)) ∈ BIG := bg_t (ti_3 (List.mem_of_getElem? (i := 149) rfl)) rfl
theorem m_702 : (Jvm.Cond.methodLink "QueryRunner$Evaluator" (101 : Nat) ({ cls := "QueryRunner$Groups", name := "hasResult", desc := "(I)Z" } : Jvm.MethodName)) ∈ BIG := bg_t (ti_3 (List.mem_of_getElem? (i := 150) (by decide +kernel))) rfl
theorem m_703 : (Jvm.Cond.instanceMethod ({ cls := "QueryRunner$Groups", name := "hasResult", desc := "(I)Z" } : Jvm.MethodName)) ∈ BIG := bg_t (ti_3 (List.mem_of_getElem? (i := 151) (by decide +kernel))) rfl
theorem m_704 : (Jvm.Cond.selects "QueryRunner$Groups" ({ cls := "QueryRunner$Groups", name := "hasResult", desc := "(I)Z" } : Jvm.MethodName) ({ cls := "QueryRunner$Groups", name := "hasResult", desc := "(I)Z" } : Jvm.MethodName)) ∈ BIG := bg_t (ti_3 (List.mem_of_getElem? (i := 152) (by decide +kernel))) rfl
theorem m_705 : (Jvm.Cond.code ({ cls := "QueryRunner$Groups", name := "hasResult", desc := "(I)Z" } : Jvm.MethodName) prog_6_method_10_code (3 : Nat) (Option.some Jvm.ClassFile.FieldType.boolean)) ∈ BIG := bg_t (ti_3 (List.mem_of_getElem? (i := 153) rfl)) rfl
theorem m_706 : (Jvm.Cond.methodLink "QueryRunner$Evaluator" (51 : Nat) ({ cls := "QueryRunner$Evaluator", name := "operands", desc := "(II)I" } : Jvm.MethodName)) ∈ BIG := bg_t (ti_3 (List.mem_of_getElem? (i := 154) (by decide +kernel))) rfl
theorem m_708 : (Jvm.Cond.instanceMethod ({ cls := "QueryRunner$Evaluator", name := "operands", desc := "(II)I" } : Jvm.MethodName)) ∈ BIG := bg_t (ti_3 (List.mem_of_getElem? (i := 156) (by decide +kernel))) rfl
theorem m_709 : (Jvm.Cond.code ({ cls := "QueryRunner$Evaluator", name := "operands", desc := "(II)I" } : Jvm.MethodName) prog_4_method_6_code (7 : Nat) (Option.some Jvm.ClassFile.FieldType.int)) ∈ BIG := bg_t (ti_3 (List.mem_of_getElem? (i := 157) rfl)) rfl
theorem m_710 : (Jvm.Cond.methodLink "QueryRunner$Evaluator" (58 : Nat) ({ cls := "QueryRunner$Evaluator", name := "calculate", desc := "(IJJ)I" } : Jvm.MethodName)) ∈ BIG := bg_t (ti_3 (List.mem_of_getElem? (i := 158) (by decide +kernel))) rfl
theorem m_712 : (Jvm.Cond.instanceMethod ({ cls := "QueryRunner$Evaluator", name := "calculate", desc := "(IJJ)I" } : Jvm.MethodName)) ∈ BIG := bg_t (ti_3 (List.mem_of_getElem? (i := 160) (by decide +kernel))) rfl
theorem m_713 : (Jvm.Cond.code ({ cls := "QueryRunner$Evaluator", name := "calculate", desc := "(IJJ)I" } : Jvm.MethodName) prog_4_method_7_code (8 : Nat) (Option.some Jvm.ClassFile.FieldType.int)) ∈ BIG := bg_t (ti_3 (List.mem_of_getElem? (i := 161) rfl)) rfl
theorem m_714 : (Jvm.Cond.constantLong "QueryRunner$Evaluator" (107 : Nat) (1000000000000000 : Int64)) ∈ BIG := bg_t (ti_3 (List.mem_of_getElem? (i := 162) (by decide +kernel))) rfl
theorem m_715 : (Jvm.Cond.constantLong "QueryRunner$Evaluator" (109 : Nat) (-1000000000000000 : Int64)) ∈ BIG := bg_t (ti_3 (List.mem_of_getElem? (i := 163) (by decide +kernel))) rfl
theorem m_716 : (Jvm.Cond.methodLink "QueryRunner$Evaluator" (74 : Nat) ({ cls := "QueryRunner$Evaluator", name := "compares", desc := "(IJJ)Z" } : Jvm.MethodName)) ∈ BIG := bg_t (ti_3 (List.mem_of_getElem? (i := 164) (by decide +kernel))) rfl
theorem m_717 : (Jvm.Cond.static ({ cls := "QueryRunner$Evaluator", name := "compares", desc := "(IJJ)Z" } : Jvm.MethodName)) ∈ BIG := bg_t (ti_3 (List.mem_of_getElem? (i := 165) (by decide +kernel))) rfl
theorem m_718 : (Jvm.Cond.code ({ cls := "QueryRunner$Evaluator", name := "compares", desc := "(IJJ)Z" } : Jvm.MethodName) prog_4_method_8_code (5 : Nat) (Option.some Jvm.ClassFile.FieldType.boolean)) ∈ BIG := bg_t (ti_3 (List.mem_of_getElem? (i := 166) rfl)) rfl
theorem m_719 : (Jvm.Cond.methodLink "QueryRunner$Runner" (125 : Nat) ({ cls := "QueryRunner$Runner", name := "groupRow", desc := "()I" } : Jvm.MethodName)) ∈ BIG := bg_t (ti_3 (List.mem_of_getElem? (i := 167) (by decide +kernel))) rfl
theorem m_721 : (Jvm.Cond.instanceMethod ({ cls := "QueryRunner$Runner", name := "groupRow", desc := "()I" } : Jvm.MethodName)) ∈ BIG := bg_t (ti_3 (List.mem_of_getElem? (i := 169) (by decide +kernel))) rfl
theorem m_722 : (Jvm.Cond.code ({ cls := "QueryRunner$Runner", name := "groupRow", desc := "()I" } : Jvm.MethodName) prog_8_method_7_code (4 : Nat) (Option.some Jvm.ClassFile.FieldType.int)) ∈ BIG := bg_t (ti_3 (List.mem_of_getElem? (i := 170) rfl)) rfl
theorem m_723 : (Jvm.Cond.methodLink "QueryRunner$Runner" (156 : Nat) ({ cls := "QueryRunner$Groups", name := "isFull", desc := "()Z" } : Jvm.MethodName)) ∈ BIG := bg_t (ti_3 (List.mem_of_getElem? (i := 171) (by decide +kernel))) rfl
theorem m_724 : (Jvm.Cond.instanceMethod ({ cls := "QueryRunner$Groups", name := "isFull", desc := "()Z" } : Jvm.MethodName)) ∈ BIG := bg_t (ti_3 (List.mem_of_getElem? (i := 172) (by decide +kernel))) rfl
theorem m_725 : (Jvm.Cond.selects "QueryRunner$Groups" ({ cls := "QueryRunner$Groups", name := "isFull", desc := "()Z" } : Jvm.MethodName) ({ cls := "QueryRunner$Groups", name := "isFull", desc := "()Z" } : Jvm.MethodName)) ∈ BIG := bg_t (ti_3 (List.mem_of_getElem? (i := 173) (by decide +kernel))) rfl
theorem m_726 : (Jvm.Cond.code ({ cls := "QueryRunner$Groups", name := "isFull", desc := "()Z" } : Jvm.MethodName) prog_6_method_3_code (1 : Nat) (Option.some Jvm.ClassFile.FieldType.boolean)) ∈ BIG := bg_t (ti_3 (List.mem_of_getElem? (i := 174) rfl)) rfl
theorem m_727 : (Jvm.Cond.methodLink "QueryRunner$Runner" (157 : Nat) ({ cls := "QueryRunner$Groups", name := "startRow", desc := "([I)V" } : Jvm.MethodName)) ∈ BIG := bg_t (ti_3 (List.mem_of_getElem? (i := 175) (by decide +kernel))) rfl
theorem m_728 : (Jvm.Cond.instanceMethod ({ cls := "QueryRunner$Groups", name := "startRow", desc := "([I)V" } : Jvm.MethodName)) ∈ BIG := bg_t (ti_3 (List.mem_of_getElem? (i := 176) (by decide +kernel))) rfl
theorem m_729 : (Jvm.Cond.selects "QueryRunner$Groups" ({ cls := "QueryRunner$Groups", name := "startRow", desc := "([I)V" } : Jvm.MethodName) ({ cls := "QueryRunner$Groups", name := "startRow", desc := "([I)V" } : Jvm.MethodName)) ∈ BIG := bg_t (ti_3 (List.mem_of_getElem? (i := 177) (by decide +kernel))) rfl
theorem m_730 : (Jvm.Cond.code ({ cls := "QueryRunner$Groups", name := "startRow", desc := "([I)V" } : Jvm.MethodName) prog_6_method_4_code (2 : Nat) (Option.none : Option Jvm.ClassFile.FieldType)) ∈ BIG := bg_t (ti_3 (List.mem_of_getElem? (i := 178) rfl)) rfl
theorem m_731 : (Jvm.Cond.methodLink "QueryRunner$Groups" (58 : Nat) ({ cls := "QueryRunner$Groups", name := "pack", desc := "([I)I" } : Jvm.MethodName)) ∈ BIG := bg_t (ti_3 (List.mem_of_getElem? (i := 179) (by decide +kernel))) rfl
theorem m_732 : (Jvm.Cond.static ({ cls := "QueryRunner$Groups", name := "pack", desc := "([I)I" } : Jvm.MethodName)) ∈ BIG := bg_t (ti_3 (List.mem_of_getElem? (i := 180) (by decide +kernel))) rfl
theorem m_733 : (Jvm.Cond.code ({ cls := "QueryRunner$Groups", name := "pack", desc := "([I)I" } : Jvm.MethodName) prog_6_method_16_code (3 : Nat) (Option.some Jvm.ClassFile.FieldType.int)) ∈ BIG := bg_t (ti_3 (List.mem_of_getElem? (i := 181) rfl)) rfl
theorem m_735 : (Jvm.Cond.methodLink "QueryRunner$Runner" (162 : Nat) ({ cls := "QueryRunner$Groups", name := "setKey", desc := "(IIJ)V" } : Jvm.MethodName)) ∈ BIG := bg_t (ti_3 (List.mem_of_getElem? (i := 183) (by decide +kernel))) rfl
theorem m_736 : (Jvm.Cond.instanceMethod ({ cls := "QueryRunner$Groups", name := "setKey", desc := "(IIJ)V" } : Jvm.MethodName)) ∈ BIG := bg_t (ti_3 (List.mem_of_getElem? (i := 184) (by decide +kernel))) rfl
theorem m_737 : (Jvm.Cond.selects "QueryRunner$Groups" ({ cls := "QueryRunner$Groups", name := "setKey", desc := "(IIJ)V" } : Jvm.MethodName) ({ cls := "QueryRunner$Groups", name := "setKey", desc := "(IIJ)V" } : Jvm.MethodName)) ∈ BIG := bg_t (ti_3 (List.mem_of_getElem? (i := 185) (by decide +kernel))) rfl
theorem m_738 : (Jvm.Cond.code ({ cls := "QueryRunner$Groups", name := "setKey", desc := "(IIJ)V" } : Jvm.MethodName) prog_6_method_5_code (5 : Nat) (Option.none : Option Jvm.ClassFile.FieldType)) ∈ BIG := bg_t (ti_3 (List.mem_of_getElem? (i := 186) rfl)) rfl
theorem m_739 : (Jvm.Cond.methodLink "QueryRunner$Runner" (165 : Nat) ({ cls := "QueryRunner$Groups", name := "placeRow", desc := "(I)V" } : Jvm.MethodName)) ∈ BIG := bg_t (ti_3 (List.mem_of_getElem? (i := 187) (by decide +kernel))) rfl
theorem m_740 : (Jvm.Cond.instanceMethod ({ cls := "QueryRunner$Groups", name := "placeRow", desc := "(I)V" } : Jvm.MethodName)) ∈ BIG := bg_t (ti_3 (List.mem_of_getElem? (i := 188) (by decide +kernel))) rfl
theorem m_741 : (Jvm.Cond.selects "QueryRunner$Groups" ({ cls := "QueryRunner$Groups", name := "placeRow", desc := "(I)V" } : Jvm.MethodName) ({ cls := "QueryRunner$Groups", name := "placeRow", desc := "(I)V" } : Jvm.MethodName)) ∈ BIG := bg_t (ti_3 (List.mem_of_getElem? (i := 189) (by decide +kernel))) rfl
theorem m_742 : (Jvm.Cond.code ({ cls := "QueryRunner$Groups", name := "placeRow", desc := "(I)V" } : Jvm.MethodName) prog_6_method_6_code (3 : Nat) (Option.none : Option Jvm.ClassFile.FieldType)) ∈ BIG := bg_t (ti_3 (List.mem_of_getElem? (i := 190) rfl)) rfl
theorem m_743 : (Jvm.Cond.methodLink "QueryRunner$Groups" (62 : Nat) ({ cls := "QueryRunner$Groups", name := "groupOfKeys", desc := "(I)I" } : Jvm.MethodName)) ∈ BIG := bg_t (ti_3 (List.mem_of_getElem? (i := 191) (by decide +kernel))) rfl
theorem m_745 : (Jvm.Cond.instanceMethod ({ cls := "QueryRunner$Groups", name := "groupOfKeys", desc := "(I)I" } : Jvm.MethodName)) ∈ BIG := bg_t (ti_3 (List.mem_of_getElem? (i := 193) (by decide +kernel))) rfl
theorem m_746 : (Jvm.Cond.code ({ cls := "QueryRunner$Groups", name := "groupOfKeys", desc := "(I)I" } : Jvm.MethodName) prog_6_method_14_code (5 : Nat) (Option.some Jvm.ClassFile.FieldType.int)) ∈ BIG := bg_t (ti_3 (List.mem_of_getElem? (i := 194) rfl)) rfl
theorem m_747 : (Jvm.Cond.methodLink "QueryRunner$Runner" (174 : Nat) ({ cls := "QueryRunner$Runner", name := "aggregateRow", desc := "(LQueryRunner$Groups;I)I" } : Jvm.MethodName)) ∈ BIG := bg_t (ti_3 (List.mem_of_getElem? (i := 195) (by decide +kernel))) rfl
theorem m_749 : (Jvm.Cond.instanceMethod ({ cls := "QueryRunner$Runner", name := "aggregateRow", desc := "(LQueryRunner$Groups;I)I" } : Jvm.MethodName)) ∈ BIG := bg_t (ti_3 (List.mem_of_getElem? (i := 197) (by decide +kernel))) rfl
theorem m_750 : (Jvm.Cond.code ({ cls := "QueryRunner$Runner", name := "aggregateRow", desc := "(LQueryRunner$Groups;I)I" } : Jvm.MethodName) prog_8_method_8_code (4 : Nat) (Option.some Jvm.ClassFile.FieldType.int)) ∈ BIG := bg_t (ti_3 (List.mem_of_getElem? (i := 198) rfl)) rfl
theorem m_751 : (Jvm.Cond.methodLink "QueryRunner$Runner" (182 : Nat) ({ cls := "QueryRunner$Groups", name := "takeNumber", desc := "(IIJ)I" } : Jvm.MethodName)) ∈ BIG := bg_t (ti_3 (List.mem_of_getElem? (i := 199) (by decide +kernel))) rfl
theorem m_752 : (Jvm.Cond.instanceMethod ({ cls := "QueryRunner$Groups", name := "takeNumber", desc := "(IIJ)I" } : Jvm.MethodName)) ∈ BIG := bg_t (ti_3 (List.mem_of_getElem? (i := 200) (by decide +kernel))) rfl
theorem m_753 : (Jvm.Cond.selects "QueryRunner$Groups" ({ cls := "QueryRunner$Groups", name := "takeNumber", desc := "(IIJ)I" } : Jvm.MethodName) ({ cls := "QueryRunner$Groups", name := "takeNumber", desc := "(IIJ)I" } : Jvm.MethodName)) ∈ BIG := bg_t (ti_3 (List.mem_of_getElem? (i := 201) (by decide +kernel))) rfl
theorem m_754 : (Jvm.Cond.code ({ cls := "QueryRunner$Groups", name := "takeNumber", desc := "(IIJ)I" } : Jvm.MethodName) prog_6_method_7_code (8 : Nat) (Option.some Jvm.ClassFile.FieldType.int)) ∈ BIG := bg_t (ti_3 (List.mem_of_getElem? (i := 202) rfl)) rfl
theorem m_755 : (Jvm.Cond.methodLink "QueryRunner$Groups" (75 : Nat) ({ cls := "QueryRunner$Groups", name := "wasCounted", desc := "(IJ)Z" } : Jvm.MethodName)) ∈ BIG := bg_t (ti_3 (List.mem_of_getElem? (i := 203) (by decide +kernel))) rfl
theorem m_757 : (Jvm.Cond.instanceMethod ({ cls := "QueryRunner$Groups", name := "wasCounted", desc := "(IJ)Z" } : Jvm.MethodName)) ∈ BIG := bg_t (ti_3 (List.mem_of_getElem? (i := 205) (by decide +kernel))) rfl
theorem m_758 : (Jvm.Cond.code ({ cls := "QueryRunner$Groups", name := "wasCounted", desc := "(IJ)Z" } : Jvm.MethodName) prog_6_method_15_code (6 : Nat) (Option.some Jvm.ClassFile.FieldType.boolean)) ∈ BIG := bg_t (ti_3 (List.mem_of_getElem? (i := 206) rfl)) rfl
theorem m_759 : (Jvm.Cond.methodLink "QueryRunner$Groups" (82 : Nat) ({ cls := "QueryRunner$Groups", name := "combine", desc := "(IJJ)J" } : Jvm.MethodName)) ∈ BIG := bg_t (ti_3 (List.mem_of_getElem? (i := 207) (by decide +kernel))) rfl
theorem m_760 : (Jvm.Cond.static ({ cls := "QueryRunner$Groups", name := "combine", desc := "(IJJ)J" } : Jvm.MethodName)) ∈ BIG := bg_t (ti_3 (List.mem_of_getElem? (i := 208) (by decide +kernel))) rfl
theorem m_761 : (Jvm.Cond.code ({ cls := "QueryRunner$Groups", name := "combine", desc := "(IJJ)J" } : Jvm.MethodName) prog_6_method_12_code (5 : Nat) (Option.some Jvm.ClassFile.FieldType.long)) ∈ BIG := bg_t (ti_3 (List.mem_of_getElem? (i := 209) rfl)) rfl
theorem m_762 : (Jvm.Cond.methodLink "QueryRunner$Groups" (90 : Nat) ({ cls := "java/lang/Math", name := "min", desc := "(JJ)J" } : Jvm.MethodName)) ∈ BIG := bg_t (ti_3 (List.mem_of_getElem? (i := 210) (by decide +kernel))) rfl
theorem m_763 : (Jvm.Cond.static ({ cls := "java/lang/Math", name := "min", desc := "(JJ)J" } : Jvm.MethodName)) ∈ BIG := bg_t (ti_3 (List.mem_of_getElem? (i := 211) (by decide +kernel))) rfl
theorem m_764 : (Jvm.Cond.code ({ cls := "java/lang/Math", name := "min", desc := "(JJ)J" } : Jvm.MethodName) prog_13_method_70_code (4 : Nat) (Option.some Jvm.ClassFile.FieldType.long)) ∈ BIG := bg_t (ti_3 (List.mem_of_getElem? (i := 212) rfl)) rfl
theorem m_765 : (Jvm.Cond.methodLink "QueryRunner$Groups" (96 : Nat) ({ cls := "java/lang/Math", name := "max", desc := "(JJ)J" } : Jvm.MethodName)) ∈ BIG := bg_t (ti_3 (List.mem_of_getElem? (i := 213) (by decide +kernel))) rfl
theorem m_766 : (Jvm.Cond.static ({ cls := "java/lang/Math", name := "max", desc := "(JJ)J" } : Jvm.MethodName)) ∈ BIG := bg_t (ti_3 (List.mem_of_getElem? (i := 214) (by decide +kernel))) rfl
theorem m_767 : (Jvm.Cond.code ({ cls := "java/lang/Math", name := "max", desc := "(JJ)J" } : Jvm.MethodName) prog_13_method_66_code (4 : Nat) (Option.some Jvm.ClassFile.FieldType.long)) ∈ BIG := bg_t (ti_3 (List.mem_of_getElem? (i := 215) rfl)) rfl
theorem m_768 : (Jvm.Cond.constantLong "QueryRunner$Groups" (86 : Nat) (-1000000000000000 : Int64)) ∈ BIG := bg_t (ti_3 (List.mem_of_getElem? (i := 216) (by decide +kernel))) rfl
theorem m_769 : (Jvm.Cond.constantLong "QueryRunner$Groups" (88 : Nat) (1000000000000000 : Int64)) ∈ BIG := bg_t (ti_3 (List.mem_of_getElem? (i := 217) (by decide +kernel))) rfl
theorem m_770 : (Jvm.Cond.methodLink "QueryRunner$Runner" (178 : Nat) ({ cls := "QueryRunner$Groups", name := "endRow", desc := "()V" } : Jvm.MethodName)) ∈ BIG := bg_t (ti_3 (List.mem_of_getElem? (i := 218) (by decide +kernel))) rfl
theorem m_771 : (Jvm.Cond.instanceMethod ({ cls := "QueryRunner$Groups", name := "endRow", desc := "()V" } : Jvm.MethodName)) ∈ BIG := bg_t (ti_3 (List.mem_of_getElem? (i := 219) (by decide +kernel))) rfl
theorem m_772 : (Jvm.Cond.selects "QueryRunner$Groups" ({ cls := "QueryRunner$Groups", name := "endRow", desc := "()V" } : Jvm.MethodName) ({ cls := "QueryRunner$Groups", name := "endRow", desc := "()V" } : Jvm.MethodName)) ∈ BIG := bg_t (ti_3 (List.mem_of_getElem? (i := 220) (by decide +kernel))) rfl
theorem m_773 : (Jvm.Cond.code ({ cls := "QueryRunner$Groups", name := "endRow", desc := "()V" } : Jvm.MethodName) prog_6_method_8_code (1 : Nat) (Option.none : Option Jvm.ClassFile.FieldType)) ∈ BIG := bg_t (ti_3 (List.mem_of_getElem? (i := 221) rfl)) rfl
theorem m_774 : (Jvm.Cond.methodLink "QueryRunner$Runner" (119 : Nat) ({ cls := "QueryRunner$Runner", name := "giveRow", desc := "()I" } : Jvm.MethodName)) ∈ BIG := bg_t (ti_3 (List.mem_of_getElem? (i := 222) (by decide +kernel))) rfl
theorem m_776 : (Jvm.Cond.instanceMethod ({ cls := "QueryRunner$Runner", name := "giveRow", desc := "()I" } : Jvm.MethodName)) ∈ BIG := bg_t (ti_3 (List.mem_of_getElem? (i := 224) (by decide +kernel))) rfl
theorem m_777 : (Jvm.Cond.code ({ cls := "QueryRunner$Runner", name := "giveRow", desc := "()I" } : Jvm.MethodName) prog_8_method_6_code (3 : Nat) (Option.some Jvm.ClassFile.FieldType.int)) ∈ BIG := bg_t (ti_3 (List.mem_of_getElem? (i := 225) rfl)) rfl
theorem m_778 : (Jvm.Cond.methodLink "QueryRunner$Runner" (128 : Nat) ({ cls := "QueryRunner$Answer", name := "isFull", desc := "()Z" } : Jvm.MethodName)) ∈ BIG := bg_t (ti_3 (List.mem_of_getElem? (i := 226) (by decide +kernel))) rfl
theorem m_779 : (Jvm.Cond.instanceMethod ({ cls := "QueryRunner$Answer", name := "isFull", desc := "()Z" } : Jvm.MethodName)) ∈ BIG := bg_t (ti_3 (List.mem_of_getElem? (i := 227) (by decide +kernel))) rfl
theorem m_780 : (Jvm.Cond.selects "QueryRunner$Answer" ({ cls := "QueryRunner$Answer", name := "isFull", desc := "()Z" } : Jvm.MethodName) ({ cls := "QueryRunner$Answer", name := "isFull", desc := "()Z" } : Jvm.MethodName)) ∈ BIG := bg_t (ti_3 (List.mem_of_getElem? (i := 228) (by decide +kernel))) rfl
theorem m_781 : (Jvm.Cond.code ({ cls := "QueryRunner$Answer", name := "isFull", desc := "()Z" } : Jvm.MethodName) prog_2_method_6_code (1 : Nat) (Option.some Jvm.ClassFile.FieldType.boolean)) ∈ BIG := bg_t (ti_3 (List.mem_of_getElem? (i := 229) rfl)) rfl
theorem m_782 : (Jvm.Cond.methodLink "QueryRunner$Runner" (133 : Nat) ({ cls := "QueryRunner$Answer", name := "startRow", desc := "()V" } : Jvm.MethodName)) ∈ BIG := bg_t (ti_3 (List.mem_of_getElem? (i := 230) (by decide +kernel))) rfl
theorem m_783 : (Jvm.Cond.instanceMethod ({ cls := "QueryRunner$Answer", name := "startRow", desc := "()V" } : Jvm.MethodName)) ∈ BIG := bg_t (ti_3 (List.mem_of_getElem? (i := 231) (by decide +kernel))) rfl
theorem m_784 : (Jvm.Cond.selects "QueryRunner$Answer" ({ cls := "QueryRunner$Answer", name := "startRow", desc := "()V" } : Jvm.MethodName) ({ cls := "QueryRunner$Answer", name := "startRow", desc := "()V" } : Jvm.MethodName)) ∈ BIG := bg_t (ti_3 (List.mem_of_getElem? (i := 232) (by decide +kernel))) rfl
theorem m_785 : (Jvm.Cond.code ({ cls := "QueryRunner$Answer", name := "startRow", desc := "()V" } : Jvm.MethodName) prog_2_method_7_code (1 : Nat) (Option.none : Option Jvm.ClassFile.FieldType)) ∈ BIG := bg_t (ti_3 (List.mem_of_getElem? (i := 233) rfl)) rfl
theorem m_786 : (Jvm.Cond.methodLink "QueryRunner$Runner" (149 : Nat) ({ cls := "QueryRunner$Answer", name := "setItem", desc := "(IIJ)V" } : Jvm.MethodName)) ∈ BIG := bg_t (ti_3 (List.mem_of_getElem? (i := 234) (by decide +kernel))) rfl
theorem m_787 : (Jvm.Cond.instanceMethod ({ cls := "QueryRunner$Answer", name := "setItem", desc := "(IIJ)V" } : Jvm.MethodName)) ∈ BIG := bg_t (ti_3 (List.mem_of_getElem? (i := 235) (by decide +kernel))) rfl
theorem m_788 : (Jvm.Cond.selects "QueryRunner$Answer" ({ cls := "QueryRunner$Answer", name := "setItem", desc := "(IIJ)V" } : Jvm.MethodName) ({ cls := "QueryRunner$Answer", name := "setItem", desc := "(IIJ)V" } : Jvm.MethodName)) ∈ BIG := bg_t (ti_3 (List.mem_of_getElem? (i := 236) (by decide +kernel))) rfl
theorem m_789 : (Jvm.Cond.code ({ cls := "QueryRunner$Answer", name := "setItem", desc := "(IIJ)V" } : Jvm.MethodName) prog_2_method_8_code (5 : Nat) (Option.none : Option Jvm.ClassFile.FieldType)) ∈ BIG := bg_t (ti_3 (List.mem_of_getElem? (i := 237) rfl)) rfl
theorem m_790 : (Jvm.Cond.methodLink "QueryRunner$Runner" (153 : Nat) ({ cls := "QueryRunner$Answer", name := "endRow", desc := "()V" } : Jvm.MethodName)) ∈ BIG := bg_t (ti_3 (List.mem_of_getElem? (i := 238) (by decide +kernel))) rfl
theorem m_791 : (Jvm.Cond.instanceMethod ({ cls := "QueryRunner$Answer", name := "endRow", desc := "()V" } : Jvm.MethodName)) ∈ BIG := bg_t (ti_3 (List.mem_of_getElem? (i := 239) (by decide +kernel))) rfl
theorem m_792 : (Jvm.Cond.selects "QueryRunner$Answer" ({ cls := "QueryRunner$Answer", name := "endRow", desc := "()V" } : Jvm.MethodName) ({ cls := "QueryRunner$Answer", name := "endRow", desc := "()V" } : Jvm.MethodName)) ∈ BIG := bg_t (ti_4 (List.mem_of_getElem? (i := 0) (by decide +kernel))) rfl
theorem m_793 : (Jvm.Cond.code ({ cls := "QueryRunner$Answer", name := "endRow", desc := "()V" } : Jvm.MethodName) prog_2_method_9_code (1 : Nat) (Option.none : Option Jvm.ClassFile.FieldType)) ∈ BIG := bg_t (ti_4 (List.mem_of_getElem? (i := 1) rfl)) rfl
theorem m_794 : (Jvm.Cond.methodLink "QueryRunner$Runner" (107 : Nat) ({ cls := "QueryRunner$Runner", name := "joinFrom", desc := "(I)I" } : Jvm.MethodName)) ∈ BIG := bg_t (ti_4 (List.mem_of_getElem? (i := 2) (by decide +kernel))) rfl
theorem m_795 : (Jvm.Cond.methodLink "QueryRunner" (150 : Nat) ({ cls := "QueryRunner$Runner", name := "giveGroups", desc := "()I" } : Jvm.MethodName)) ∈ BIG := bg_t (ti_4 (List.mem_of_getElem? (i := 3) (by decide +kernel))) rfl
theorem m_796 : (Jvm.Cond.instanceMethod ({ cls := "QueryRunner$Runner", name := "giveGroups", desc := "()I" } : Jvm.MethodName)) ∈ BIG := bg_t (ti_4 (List.mem_of_getElem? (i := 4) (by decide +kernel))) rfl
theorem m_797 : (Jvm.Cond.selects "QueryRunner$Runner" ({ cls := "QueryRunner$Runner", name := "giveGroups", desc := "()I" } : Jvm.MethodName) ({ cls := "QueryRunner$Runner", name := "giveGroups", desc := "()I" } : Jvm.MethodName)) ∈ BIG := bg_t (ti_4 (List.mem_of_getElem? (i := 5) (by decide +kernel))) rfl
theorem m_798 : (Jvm.Cond.code ({ cls := "QueryRunner$Runner", name := "giveGroups", desc := "()I" } : Jvm.MethodName) prog_8_method_4_code (5 : Nat) (Option.some Jvm.ClassFile.FieldType.int)) ∈ BIG := bg_t (ti_4 (List.mem_of_getElem? (i := 6) rfl)) rfl
theorem m_799 : (Jvm.Cond.methodLink "QueryRunner$Runner" (112 : Nat) ({ cls := "QueryRunner$Groups", name := "enter", desc := "(I[I)V" } : Jvm.MethodName)) ∈ BIG := bg_t (ti_4 (List.mem_of_getElem? (i := 7) (by decide +kernel))) rfl
theorem m_800 : (Jvm.Cond.instanceMethod ({ cls := "QueryRunner$Groups", name := "enter", desc := "(I[I)V" } : Jvm.MethodName)) ∈ BIG := bg_t (ti_4 (List.mem_of_getElem? (i := 8) (by decide +kernel))) rfl
theorem m_801 : (Jvm.Cond.selects "QueryRunner$Groups" ({ cls := "QueryRunner$Groups", name := "enter", desc := "(I[I)V" } : Jvm.MethodName) ({ cls := "QueryRunner$Groups", name := "enter", desc := "(I[I)V" } : Jvm.MethodName)) ∈ BIG := bg_t (ti_4 (List.mem_of_getElem? (i := 9) (by decide +kernel))) rfl
theorem m_802 : (Jvm.Cond.code ({ cls := "QueryRunner$Groups", name := "enter", desc := "(I[I)V" } : Jvm.MethodName) prog_6_method_9_code (6 : Nat) (Option.none : Option Jvm.ClassFile.FieldType)) ∈ BIG := bg_t (ti_4 (List.mem_of_getElem? (i := 10) rfl)) rfl
theorem m_803 : (Jvm.Cond.methodLink "QueryRunner" (153 : Nat) ({ cls := "QueryRunner$Answer", name := "finish", desc := "(LQueryRunner$Query;)V" } : Jvm.MethodName)) ∈ BIG := bg_t (ti_4 (List.mem_of_getElem? (i := 11) (by decide +kernel))) rfl
theorem m_804 : (Jvm.Cond.instanceMethod ({ cls := "QueryRunner$Answer", name := "finish", desc := "(LQueryRunner$Query;)V" } : Jvm.MethodName)) ∈ BIG := bg_t (ti_4 (List.mem_of_getElem? (i := 12) (by decide +kernel))) rfl
theorem m_805 : (Jvm.Cond.selects "QueryRunner$Answer" ({ cls := "QueryRunner$Answer", name := "finish", desc := "(LQueryRunner$Query;)V" } : Jvm.MethodName) ({ cls := "QueryRunner$Answer", name := "finish", desc := "(LQueryRunner$Query;)V" } : Jvm.MethodName)) ∈ BIG := bg_t (ti_4 (List.mem_of_getElem? (i := 13) (by decide +kernel))) rfl
theorem m_806 : (Jvm.Cond.code ({ cls := "QueryRunner$Answer", name := "finish", desc := "(LQueryRunner$Query;)V" } : Jvm.MethodName) prog_2_method_10_code (4 : Nat) (Option.none : Option Jvm.ClassFile.FieldType)) ∈ BIG := bg_t (ti_4 (List.mem_of_getElem? (i := 14) rfl)) rfl
theorem m_807 : (Jvm.Cond.methodLink "QueryRunner$Answer" (48 : Nat) ({ cls := "QueryRunner$Answer", name := "isRepeated", desc := "(I)Z" } : Jvm.MethodName)) ∈ BIG := bg_t (ti_4 (List.mem_of_getElem? (i := 15) (by decide +kernel))) rfl
theorem m_809 : (Jvm.Cond.instanceMethod ({ cls := "QueryRunner$Answer", name := "isRepeated", desc := "(I)Z" } : Jvm.MethodName)) ∈ BIG := bg_t (ti_4 (List.mem_of_getElem? (i := 17) (by decide +kernel))) rfl
theorem m_810 : (Jvm.Cond.code ({ cls := "QueryRunner$Answer", name := "isRepeated", desc := "(I)Z" } : Jvm.MethodName) prog_2_method_11_code (5 : Nat) (Option.some Jvm.ClassFile.FieldType.boolean)) ∈ BIG := bg_t (ti_4 (List.mem_of_getElem? (i := 18) rfl)) rfl
theorem m_811 : (Jvm.Cond.methodLink "QueryRunner$Answer" (52 : Nat) ({ cls := "QueryRunner$Answer", name := "insertInOrder", desc := "(IILQueryRunner$Query;)V" } : Jvm.MethodName)) ∈ BIG := bg_t (ti_4 (List.mem_of_getElem? (i := 19) (by decide +kernel))) rfl
theorem m_813 : (Jvm.Cond.instanceMethod ({ cls := "QueryRunner$Answer", name := "insertInOrder", desc := "(IILQueryRunner$Query;)V" } : Jvm.MethodName)) ∈ BIG := bg_t (ti_4 (List.mem_of_getElem? (i := 21) (by decide +kernel))) rfl
theorem m_814 : (Jvm.Cond.code ({ cls := "QueryRunner$Answer", name := "insertInOrder", desc := "(IILQueryRunner$Query;)V" } : Jvm.MethodName) prog_2_method_12_code (5 : Nat) (Option.none : Option Jvm.ClassFile.FieldType)) ∈ BIG := bg_t (ti_4 (List.mem_of_getElem? (i := 22) rfl)) rfl
theorem m_815 : (Jvm.Cond.methodLink "QueryRunner$Answer" (68 : Nat) ({ cls := "QueryRunner$Answer", name := "compare", desc := "(IILQueryRunner$Query;)I" } : Jvm.MethodName)) ∈ BIG := bg_t (ti_4 (List.mem_of_getElem? (i := 23) (by decide +kernel))) rfl
theorem m_817 : (Jvm.Cond.instanceMethod ({ cls := "QueryRunner$Answer", name := "compare", desc := "(IILQueryRunner$Query;)I" } : Jvm.MethodName)) ∈ BIG := bg_t (ti_4 (List.mem_of_getElem? (i := 25) (by decide +kernel))) rfl
theorem m_818 : (Jvm.Cond.code ({ cls := "QueryRunner$Answer", name := "compare", desc := "(IILQueryRunner$Query;)I" } : Jvm.MethodName) prog_2_method_13_code (7 : Nat) (Option.some Jvm.ClassFile.FieldType.int)) ∈ BIG := bg_t (ti_4 (List.mem_of_getElem? (i := 26) rfl)) rfl
theorem m_819 : (Jvm.Cond.methodLink "QueryRunner$Answer" (78 : Nat) ({ cls := "QueryRunner$Answer", name := "compareItem", desc := "(III)I" } : Jvm.MethodName)) ∈ BIG := bg_t (ti_4 (List.mem_of_getElem? (i := 27) (by decide +kernel))) rfl
theorem m_821 : (Jvm.Cond.instanceMethod ({ cls := "QueryRunner$Answer", name := "compareItem", desc := "(III)I" } : Jvm.MethodName)) ∈ BIG := bg_t (ti_4 (List.mem_of_getElem? (i := 29) (by decide +kernel))) rfl
theorem m_822 : (Jvm.Cond.code ({ cls := "QueryRunner$Answer", name := "compareItem", desc := "(III)I" } : Jvm.MethodName) prog_2_method_14_code (6 : Nat) (Option.some Jvm.ClassFile.FieldType.int)) ∈ BIG := bg_t (ti_4 (List.mem_of_getElem? (i := 30) rfl)) rfl
theorem m_823 : (Jvm.Cond.methodLink "QueryRunner$Answer" (35 : Nat) ({ cls := "QueryRunner$Answer", name := "isNullAt", desc := "(II)Z" } : Jvm.MethodName)) ∈ BIG := bg_t (ti_4 (List.mem_of_getElem? (i := 31) (by decide +kernel))) rfl
theorem m_825 : (Jvm.Cond.instanceMethod ({ cls := "QueryRunner$Answer", name := "isNullAt", desc := "(II)Z" } : Jvm.MethodName)) ∈ BIG := bg_t (ti_4 (List.mem_of_getElem? (i := 33) (by decide +kernel))) rfl
theorem m_826 : (Jvm.Cond.code ({ cls := "QueryRunner$Answer", name := "isNullAt", desc := "(II)Z" } : Jvm.MethodName) prog_2_method_15_code (3 : Nat) (Option.some Jvm.ClassFile.FieldType.boolean)) ∈ BIG := bg_t (ti_4 (List.mem_of_getElem? (i := 34) rfl)) rfl
theorem m_827 : (Jvm.Cond.methodLink "QueryRunner$Answer" (86 : Nat) ({ cls := "java/lang/Long", name := "compare", desc := "(JJ)I" } : Jvm.MethodName)) ∈ BIG := bg_t (ti_4 (List.mem_of_getElem? (i := 35) (by decide +kernel))) rfl
theorem m_828 : (Jvm.Cond.static ({ cls := "java/lang/Long", name := "compare", desc := "(JJ)I" } : Jvm.MethodName)) ∈ BIG := bg_t (ti_4 (List.mem_of_getElem? (i := 36) (by decide +kernel))) rfl
theorem m_829 : (Jvm.Cond.code ({ cls := "java/lang/Long", name := "compare", desc := "(JJ)I" } : Jvm.MethodName) prog_12_method_42_code (4 : Nat) (Option.some Jvm.ClassFile.FieldType.int)) ∈ BIG := bg_t (ti_4 (List.mem_of_getElem? (i := 37) rfl)) rfl
theorem m_830 : (Jvm.Cond.methodLink "QueryRunner$Answer" (59 : Nat) ({ cls := "java/lang/Math", name := "min", desc := "(II)I" } : Jvm.MethodName)) ∈ BIG := bg_t (ti_4 (List.mem_of_getElem? (i := 38) (by decide +kernel))) rfl
theorem m_831 : (Jvm.Cond.methodLink "QueryRunnerLaw" (80 : Nat) ({ cls := "QueryRunner", name := "cell", desc := "(II)J" } : Jvm.MethodName)) ∈ BIG := bg_t (ti_4 (List.mem_of_getElem? (i := 39) (by decide +kernel))) rfl
theorem m_832 : (Jvm.Cond.instanceMethod ({ cls := "QueryRunner", name := "cell", desc := "(II)J" } : Jvm.MethodName)) ∈ BIG := bg_t (ti_4 (List.mem_of_getElem? (i := 40) (by decide +kernel))) rfl
theorem m_833 : (Jvm.Cond.selects "QueryRunner" ({ cls := "QueryRunner", name := "cell", desc := "(II)J" } : Jvm.MethodName) ({ cls := "QueryRunner", name := "cell", desc := "(II)J" } : Jvm.MethodName)) ∈ BIG := bg_t (ti_4 (List.mem_of_getElem? (i := 41) (by decide +kernel))) rfl
theorem m_834 : (Jvm.Cond.code ({ cls := "QueryRunner", name := "cell", desc := "(II)J" } : Jvm.MethodName) prog_1_method_16_code (3 : Nat) (Option.some Jvm.ClassFile.FieldType.long)) ∈ BIG := bg_t (ti_4 (List.mem_of_getElem? (i := 42) rfl)) rfl
theorem m_835 : (Jvm.Cond.methodLink "QueryRunner" (160 : Nat) ({ cls := "QueryRunner$Answer", name := "has", desc := "(II)Z" } : Jvm.MethodName)) ∈ BIG := bg_t (ti_4 (List.mem_of_getElem? (i := 43) (by decide +kernel))) rfl
theorem m_836 : (Jvm.Cond.instanceMethod ({ cls := "QueryRunner$Answer", name := "has", desc := "(II)Z" } : Jvm.MethodName)) ∈ BIG := bg_t (ti_4 (List.mem_of_getElem? (i := 44) (by decide +kernel))) rfl
theorem m_837 : (Jvm.Cond.selects "QueryRunner$Answer" ({ cls := "QueryRunner$Answer", name := "has", desc := "(II)Z" } : Jvm.MethodName) ({ cls := "QueryRunner$Answer", name := "has", desc := "(II)Z" } : Jvm.MethodName)) ∈ BIG := bg_t (ti_4 (List.mem_of_getElem? (i := 45) (by decide +kernel))) rfl
theorem m_838 : (Jvm.Cond.code ({ cls := "QueryRunner$Answer", name := "has", desc := "(II)Z" } : Jvm.MethodName) prog_2_method_3_code (3 : Nat) (Option.some Jvm.ClassFile.FieldType.boolean)) ∈ BIG := bg_t (ti_4 (List.mem_of_getElem? (i := 46) rfl)) rfl
theorem m_839 : (Jvm.Cond.methodLink "QueryRunner" (162 : Nat) ({ cls := "QueryRunner$Answer", name := "numberOf", desc := "(II)J" } : Jvm.MethodName)) ∈ BIG := bg_t (ti_4 (List.mem_of_getElem? (i := 47) (by decide +kernel))) rfl
theorem m_840 : (Jvm.Cond.instanceMethod ({ cls := "QueryRunner$Answer", name := "numberOf", desc := "(II)J" } : Jvm.MethodName)) ∈ BIG := bg_t (ti_4 (List.mem_of_getElem? (i := 48) (by decide +kernel))) rfl
theorem m_841 : (Jvm.Cond.selects "QueryRunner$Answer" ({ cls := "QueryRunner$Answer", name := "numberOf", desc := "(II)J" } : Jvm.MethodName) ({ cls := "QueryRunner$Answer", name := "numberOf", desc := "(II)J" } : Jvm.MethodName)) ∈ BIG := bg_t (ti_4 (List.mem_of_getElem? (i := 49) (by decide +kernel))) rfl
theorem m_842 : (Jvm.Cond.code ({ cls := "QueryRunner$Answer", name := "numberOf", desc := "(II)J" } : Jvm.MethodName) prog_2_method_4_code (3 : Nat) (Option.some Jvm.ClassFile.FieldType.long)) ∈ BIG := bg_t (ti_4 (List.mem_of_getElem? (i := 50) rfl)) rfl
theorem m_843 : (Jvm.Cond.methodLink "QueryRunnerLaw" (85 : Nat) ({ cls := "QueryRunner", name := "isNull", desc := "(II)Z" } : Jvm.MethodName)) ∈ BIG := bg_t (ti_4 (List.mem_of_getElem? (i := 51) (by decide +kernel))) rfl
theorem m_844 : (Jvm.Cond.instanceMethod ({ cls := "QueryRunner", name := "isNull", desc := "(II)Z" } : Jvm.MethodName)) ∈ BIG := bg_t (ti_4 (List.mem_of_getElem? (i := 52) (by decide +kernel))) rfl
theorem m_845 : (Jvm.Cond.selects "QueryRunner" ({ cls := "QueryRunner", name := "isNull", desc := "(II)Z" } : Jvm.MethodName) ({ cls := "QueryRunner", name := "isNull", desc := "(II)Z" } : Jvm.MethodName)) ∈ BIG := bg_t (ti_4 (List.mem_of_getElem? (i := 53) (by decide +kernel))) rfl
theorem m_846 : (Jvm.Cond.code ({ cls := "QueryRunner", name := "isNull", desc := "(II)Z" } : Jvm.MethodName) prog_1_method_17_code (3 : Nat) (Option.some Jvm.ClassFile.FieldType.boolean)) ∈ BIG := bg_t (ti_4 (List.mem_of_getElem? (i := 54) rfl)) rfl
theorem m_847 : (Jvm.Cond.methodLink "QueryRunner" (166 : Nat) ({ cls := "QueryRunner$Answer", name := "lacks", desc := "(II)Z" } : Jvm.MethodName)) ∈ BIG := bg_t (ti_4 (List.mem_of_getElem? (i := 55) (by decide +kernel))) rfl
theorem m_848 : (Jvm.Cond.instanceMethod ({ cls := "QueryRunner$Answer", name := "lacks", desc := "(II)Z" } : Jvm.MethodName)) ∈ BIG := bg_t (ti_4 (List.mem_of_getElem? (i := 56) (by decide +kernel))) rfl
theorem m_849 : (Jvm.Cond.selects "QueryRunner$Answer" ({ cls := "QueryRunner$Answer", name := "lacks", desc := "(II)Z" } : Jvm.MethodName) ({ cls := "QueryRunner$Answer", name := "lacks", desc := "(II)Z" } : Jvm.MethodName)) ∈ BIG := bg_t (ti_4 (List.mem_of_getElem? (i := 57) (by decide +kernel))) rfl
theorem m_850 : (Jvm.Cond.code ({ cls := "QueryRunner$Answer", name := "lacks", desc := "(II)Z" } : Jvm.MethodName) prog_2_method_5_code (3 : Nat) (Option.some Jvm.ClassFile.FieldType.boolean)) ∈ BIG := bg_t (ti_4 (List.mem_of_getElem? (i := 58) rfl)) rfl
theorem m_851 : (Jvm.Cond.methodLink "QueryRunnerLaw" (90 : Nat) ({ cls := "QueryRunner", name := "answer", desc := "(I)I" } : Jvm.MethodName)) ∈ BIG := bg_t (ti_4 (List.mem_of_getElem? (i := 59) (by decide +kernel))) rfl
theorem m_852 : (Jvm.Cond.instanceMethod ({ cls := "QueryRunner", name := "answer", desc := "(I)I" } : Jvm.MethodName)) ∈ BIG := bg_t (ti_4 (List.mem_of_getElem? (i := 60) (by decide +kernel))) rfl
theorem m_853 : (Jvm.Cond.selects "QueryRunner" ({ cls := "QueryRunner", name := "answer", desc := "(I)I" } : Jvm.MethodName) ({ cls := "QueryRunner", name := "answer", desc := "(I)I" } : Jvm.MethodName)) ∈ BIG := bg_t (ti_4 (List.mem_of_getElem? (i := 61) (by decide +kernel))) rfl
theorem m_854 : (Jvm.Cond.code ({ cls := "QueryRunner", name := "answer", desc := "(I)I" } : Jvm.MethodName) prog_1_method_18_code (2 : Nat) (Option.some Jvm.ClassFile.FieldType.int)) ∈ BIG := bg_t (ti_4 (List.mem_of_getElem? (i := 62) rfl)) rfl
theorem m_855 : (Jvm.Cond.classLink "QueryRunnerLaw" (10 : Nat) "QueryRunnerModel") ∈ BIG := bg_t (ti_4 (List.mem_of_getElem? (i := 63) (by decide +kernel))) rfl
theorem m_856 : (Jvm.Cond.instantiable "QueryRunnerModel" (55 : Nat)) ∈ BIG := bg_t (ti_4 (List.mem_of_getElem? (i := 64) (by decide +kernel))) rfl
theorem m_857 : (Jvm.Cond.methodLink "QueryRunnerLaw" (12 : Nat) ({ cls := "QueryRunnerModel", name := "<init>", desc := "()V" } : Jvm.MethodName)) ∈ BIG := bg_t (ti_4 (List.mem_of_getElem? (i := 65) (by decide +kernel))) rfl
theorem m_858 : (Jvm.Cond.instanceMethod ({ cls := "QueryRunnerModel", name := "<init>", desc := "()V" } : Jvm.MethodName)) ∈ BIG := bg_t (ti_4 (List.mem_of_getElem? (i := 66) (by decide +kernel))) rfl
theorem m_859 : (Jvm.Cond.code ({ cls := "QueryRunnerModel", name := "<init>", desc := "()V" } : Jvm.MethodName) prog_11_method_1_code (1 : Nat) (Option.none : Option Jvm.ClassFile.FieldType)) ∈ BIG := bg_t (ti_4 (List.mem_of_getElem? (i := 67) rfl)) rfl
theorem m_860 : (Jvm.Cond.methodLink "QueryRunnerModel" (1 : Nat) ({ cls := "java/lang/Object", name := "<init>", desc := "()V" } : Jvm.MethodName)) ∈ BIG := bg_t (ti_4 (List.mem_of_getElem? (i := 68) (by decide +kernel))) rfl
theorem m_861 : (Jvm.Cond.fieldLink "QueryRunnerModel" (130 : Nat) "QueryRunnerModel" "tables" "I") ∈ BIG := bg_t (ti_4 (List.mem_of_getElem? (i := 69) (by decide +kernel))) rfl
theorem m_862 : (Jvm.Cond.fieldLink "QueryRunnerModel" (7 : Nat) "QueryRunnerModel" "widths" "[I") ∈ BIG := bg_t (ti_4 (List.mem_of_getElem? (i := 70) (by decide +kernel))) rfl
theorem m_863 : (Jvm.Cond.fieldLink "QueryRunnerModel" (13 : Nat) "QueryRunnerModel" "heights" "[I") ∈ BIG := bg_t (ti_4 (List.mem_of_getElem? (i := 71) (by decide +kernel))) rfl
theorem m_864 : (Jvm.Cond.fieldLink "QueryRunnerModel" (16 : Nat) "QueryRunnerModel" "cells" "[J") ∈ BIG := bg_t (ti_4 (List.mem_of_getElem? (i := 72) (by decide +kernel))) rfl
theorem m_865 : (Jvm.Cond.fieldLink "QueryRunnerModel" (20 : Nat) "QueryRunnerModel" "empties" "[Z") ∈ BIG := bg_t (ti_4 (List.mem_of_getElem? (i := 73) (by decide +kernel))) rfl
theorem m_866 : (Jvm.Cond.fieldLink "QueryRunnerModel" (137 : Nat) "QueryRunnerModel" "expressions" "I") ∈ BIG := bg_t (ti_4 (List.mem_of_getElem? (i := 74) (by decide +kernel))) rfl
theorem m_867 : (Jvm.Cond.fieldLink "QueryRunnerModel" (24 : Nat) "QueryRunnerModel" "kinds" "[I") ∈ BIG := bg_t (ti_4 (List.mem_of_getElem? (i := 75) (by decide +kernel))) rfl
theorem m_868 : (Jvm.Cond.fieldLink "QueryRunnerModel" (27 : Nat) "QueryRunnerModel" "firsts" "[I") ∈ BIG := bg_t (ti_4 (List.mem_of_getElem? (i := 76) (by decide +kernel))) rfl
theorem m_869 : (Jvm.Cond.fieldLink "QueryRunnerModel" (30 : Nat) "QueryRunnerModel" "seconds" "[I") ∈ BIG := bg_t (ti_4 (List.mem_of_getElem? (i := 77) (by decide +kernel))) rfl
theorem m_870 : (Jvm.Cond.fieldLink "QueryRunnerModel" (33 : Nat) "QueryRunnerModel" "numbers" "[J") ∈ BIG := bg_t (ti_4 (List.mem_of_getElem? (i := 78) (by decide +kernel))) rfl
theorem m_871 : (Jvm.Cond.fieldLink "QueryRunnerModel" (36 : Nat) "QueryRunnerModel" "flags" "[Z") ∈ BIG := bg_t (ti_4 (List.mem_of_getElem? (i := 79) (by decide +kernel))) rfl
theorem m_872 : (Jvm.Cond.fieldLink "QueryRunnerModel" (39 : Nat) "QueryRunnerModel" "sizes" "[I") ∈ BIG := bg_t (ti_4 (List.mem_of_getElem? (i := 80) (by decide +kernel))) rfl
theorem m_873 : (Jvm.Cond.fieldLink "QueryRunnerModel" (42 : Nat) "QueryRunnerModel" "withAggregate" "[Z") ∈ BIG := bg_t (ti_4 (List.mem_of_getElem? (i := 81) (by decide +kernel))) rfl
theorem m_874 : (Jvm.Cond.fieldLink "QueryRunnerModel" (45 : Nat) "QueryRunnerModel" "likes" "[I") ∈ BIG := bg_t (ti_4 (List.mem_of_getElem? (i := 82) (by decide +kernel))) rfl
theorem m_875 : (Jvm.Cond.fieldLink "QueryRunnerModel" (140 : Nat) "QueryRunnerModel" "aggregates" "I") ∈ BIG := bg_t (ti_4 (List.mem_of_getElem? (i := 83) (by decide +kernel))) rfl
theorem m_876 : (Jvm.Cond.fieldLink "QueryRunnerModel" (48 : Nat) "QueryRunnerModel" "aggregateAt" "[I") ∈ BIG := bg_t (ti_4 (List.mem_of_getElem? (i := 84) (by decide +kernel))) rfl
theorem m_877 : (Jvm.Cond.fieldLink "QueryRunnerModel" (143 : Nat) "QueryRunnerModel" "sources" "I") ∈ BIG := bg_t (ti_4 (List.mem_of_getElem? (i := 85) (by decide +kernel))) rfl
theorem m_878 : (Jvm.Cond.fieldLink "QueryRunnerModel" (51 : Nat) "QueryRunnerModel" "sourceTable" "[I") ∈ BIG := bg_t (ti_4 (List.mem_of_getElem? (i := 86) (by decide +kernel))) rfl
theorem m_879 : (Jvm.Cond.fieldLink "QueryRunnerModel" (54 : Nat) "QueryRunnerModel" "sourceHow" "[I") ∈ BIG := bg_t (ti_4 (List.mem_of_getElem? (i := 87) (by decide +kernel))) rfl
theorem m_880 : (Jvm.Cond.fieldLink "QueryRunnerModel" (57 : Nat) "QueryRunnerModel" "sourceOn" "[I") ∈ BIG := bg_t (ti_4 (List.mem_of_getElem? (i := 88) (by decide +kernel))) rfl
theorem m_881 : (Jvm.Cond.fieldLink "QueryRunnerModel" (60 : Nat) "QueryRunnerModel" "where" "I") ∈ BIG := bg_t (ti_4 (List.mem_of_getElem? (i := 89) (by decide +kernel))) rfl
theorem m_882 : (Jvm.Cond.fieldLink "QueryRunnerModel" (64 : Nat) "QueryRunnerModel" "having" "I") ∈ BIG := bg_t (ti_4 (List.mem_of_getElem? (i := 90) (by decide +kernel))) rfl
theorem m_883 : (Jvm.Cond.fieldLink "QueryRunnerModel" (146 : Nat) "QueryRunnerModel" "groups" "I") ∈ BIG := bg_t (ti_4 (List.mem_of_getElem? (i := 91) (by decide +kernel))) rfl
theorem m_884 : (Jvm.Cond.fieldLink "QueryRunnerModel" (67 : Nat) "QueryRunnerModel" "groupAt" "[I") ∈ BIG := bg_t (ti_4 (List.mem_of_getElem? (i := 92) (by decide +kernel))) rfl
theorem m_885 : (Jvm.Cond.fieldLink "QueryRunnerModel" (149 : Nat) "QueryRunnerModel" "items" "I") ∈ BIG := bg_t (ti_4 (List.mem_of_getElem? (i := 93) (by decide +kernel))) rfl
theorem m_886 : (Jvm.Cond.fieldLink "QueryRunnerModel" (70 : Nat) "QueryRunnerModel" "itemAt" "[I") ∈ BIG := bg_t (ti_4 (List.mem_of_getElem? (i := 94) (by decide +kernel))) rfl
theorem m_887 : (Jvm.Cond.fieldLink "QueryRunnerModel" (152 : Nat) "QueryRunnerModel" "orders" "I") ∈ BIG := bg_t (ti_4 (List.mem_of_getElem? (i := 95) (by decide +kernel))) rfl
theorem m_888 : (Jvm.Cond.fieldLink "QueryRunnerModel" (73 : Nat) "QueryRunnerModel" "orderItem" "[I") ∈ BIG := bg_t (ti_4 (List.mem_of_getElem? (i := 96) (by decide +kernel))) rfl
theorem m_889 : (Jvm.Cond.fieldLink "QueryRunnerModel" (76 : Nat) "QueryRunnerModel" "orderDown" "[Z") ∈ BIG := bg_t (ti_4 (List.mem_of_getElem? (i := 97) (by decide +kernel))) rfl
theorem m_890 : (Jvm.Cond.fieldLink "QueryRunnerModel" (155 : Nat) "QueryRunnerModel" "distinct" "Z") ∈ BIG := bg_t (ti_4 (List.mem_of_getElem? (i := 98) (by decide +kernel))) rfl
theorem m_891 : (Jvm.Cond.fieldLink "QueryRunnerModel" (79 : Nat) "QueryRunnerModel" "keep" "I") ∈ BIG := bg_t (ti_4 (List.mem_of_getElem? (i := 99) (by decide +kernel))) rfl
theorem m_892 : (Jvm.Cond.fieldLink "QueryRunnerModel" (159 : Nat) "QueryRunnerModel" "skip" "I") ∈ BIG := bg_t (ti_4 (List.mem_of_getElem? (i := 100) (by decide +kernel))) rfl
theorem m_893 : (Jvm.Cond.fieldLink "QueryRunnerModel" (268 : Nat) "QueryRunnerModel" "answers" "I") ∈ BIG := bg_t (ti_4 (List.mem_of_getElem? (i := 101) (by decide +kernel))) rfl
theorem m_894 : (Jvm.Cond.fieldLink "QueryRunnerModel" (305 : Nat) "QueryRunnerModel" "answerItems" "I") ∈ BIG := bg_t (ti_4 (List.mem_of_getElem? (i := 102) (by decide +kernel))) rfl
theorem m_895 : (Jvm.Cond.fieldLink "QueryRunnerModel" (82 : Nat) "QueryRunnerModel" "answer" "[J") ∈ BIG := bg_t (ti_4 (List.mem_of_getElem? (i := 103) (by decide +kernel))) rfl
theorem m_896 : (Jvm.Cond.fieldLink "QueryRunnerModel" (85 : Nat) "QueryRunnerModel" "answerNull" "[Z") ∈ BIG := bg_t (ti_4 (List.mem_of_getElem? (i := 104) (by decide +kernel))) rfl
theorem m_897 : (Jvm.Cond.fieldLink "QueryRunnerModel" (213 : Nat) "QueryRunnerModel" "wrong" "I") ∈ BIG := bg_t (ti_4 (List.mem_of_getElem? (i := 105) (by decide +kernel))) rfl
theorem m_898 : (Jvm.Cond.fieldLink "QueryRunnerModel" (274 : Nat) "QueryRunnerModel" "grouped" "Z") ∈ BIG := bg_t (ti_4 (List.mem_of_getElem? (i := 106) (by decide +kernel))) rfl
theorem m_899 : (Jvm.Cond.fieldLink "QueryRunnerModel" (88 : Nat) "QueryRunnerModel" "rows" "[I") ∈ BIG := bg_t (ti_4 (List.mem_of_getElem? (i := 107) (by decide +kernel))) rfl
theorem m_900 : (Jvm.Cond.fieldLink "QueryRunnerModel" (255 : Nat) "QueryRunnerModel" "together" "I") ∈ BIG := bg_t (ti_4 (List.mem_of_getElem? (i := 108) (by decide +kernel))) rfl
theorem m_901 : (Jvm.Cond.fieldLink "QueryRunnerModel" (91 : Nat) "QueryRunnerModel" "groupOf" "[I") ∈ BIG := bg_t (ti_4 (List.mem_of_getElem? (i := 109) (by decide +kernel))) rfl
theorem m_902 : (Jvm.Cond.fieldLink "QueryRunnerModel" (94 : Nat) "QueryRunnerModel" "argument" "[J") ∈ BIG := bg_t (ti_4 (List.mem_of_getElem? (i := 110) (by decide +kernel))) rfl
theorem m_903 : (Jvm.Cond.fieldLink "QueryRunnerModel" (97 : Nat) "QueryRunnerModel" "argumentNull" "[Z") ∈ BIG := bg_t (ti_4 (List.mem_of_getElem? (i := 111) (by decide +kernel))) rfl
theorem m_904 : (Jvm.Cond.fieldLink "QueryRunnerModel" (261 : Nat) "QueryRunnerModel" "groupCount" "I") ∈ BIG := bg_t (ti_4 (List.mem_of_getElem? (i := 112) (by decide +kernel))) rfl
theorem m_905 : (Jvm.Cond.fieldLink "QueryRunnerModel" (100 : Nat) "QueryRunnerModel" "groupValue" "[J") ∈ BIG := bg_t (ti_4 (List.mem_of_getElem? (i := 113) (by decide +kernel))) rfl
theorem m_906 : (Jvm.Cond.fieldLink "QueryRunnerModel" (103 : Nat) "QueryRunnerModel" "groupNull" "[Z") ∈ BIG := bg_t (ti_4 (List.mem_of_getElem? (i := 114) (by decide +kernel))) rfl
theorem m_907 : (Jvm.Cond.fieldLink "QueryRunnerModel" (106 : Nat) "QueryRunnerModel" "sums" "[J") ∈ BIG := bg_t (ti_4 (List.mem_of_getElem? (i := 115) (by decide +kernel))) rfl
theorem m_908 : (Jvm.Cond.fieldLink "QueryRunnerModel" (109 : Nat) "QueryRunnerModel" "asked" "[Z") ∈ BIG := bg_t (ti_4 (List.mem_of_getElem? (i := 116) (by decide +kernel))) rfl
theorem m_909 : (Jvm.Cond.fieldLink "QueryRunnerModel" (234 : Nat) "QueryRunnerModel" "groupNow" "I") ∈ BIG := bg_t (ti_4 (List.mem_of_getElem? (i := 117) (by decide +kernel))) rfl
theorem m_910 : (Jvm.Cond.fieldLink "QueryRunnerModel" (193 : Nat) "QueryRunnerModel" "open" "I") ∈ BIG := bg_t (ti_4 (List.mem_of_getElem? (i := 118) (by decide +kernel))) rfl
theorem m_911 : (Jvm.Cond.fieldLink "QueryRunnerModel" (112 : Nat) "QueryRunnerModel" "openAt" "[I") ∈ BIG := bg_t (ti_4 (List.mem_of_getElem? (i := 119) (by decide +kernel))) rfl
theorem m_912 : (Jvm.Cond.fieldLink "QueryRunnerModel" (115 : Nat) "QueryRunnerModel" "openState" "[I") ∈ BIG := bg_t (ti_4 (List.mem_of_getElem? (i := 120) (by decide +kernel))) rfl
theorem m_913 : (Jvm.Cond.fieldLink "QueryRunnerModel" (210 : Nat) "QueryRunnerModel" "top" "I") ∈ BIG := bg_t (ti_4 (List.mem_of_getElem? (i := 121) (by decide +kernel))) rfl
theorem m_914 : (Jvm.Cond.fieldLink "QueryRunnerModel" (118 : Nat) "QueryRunnerModel" "value" "[J") ∈ BIG := bg_t (ti_4 (List.mem_of_getElem? (i := 122) (by decide +kernel))) rfl
theorem m_915 : (Jvm.Cond.fieldLink "QueryRunnerModel" (121 : Nat) "QueryRunnerModel" "isNone" "[Z") ∈ BIG := bg_t (ti_4 (List.mem_of_getElem? (i := 123) (by decide +kernel))) rfl
theorem m_1027 : (Jvm.Cond.methodLink "QueryRunnerLaw" (17 : Nat) ({ cls := "QueryRunnerModel", name := "table", desc := "(I)I" } : Jvm.MethodName)) ∈ BIG := bg_t (ti_4 (List.mem_of_getElem? (i := 235) (by decide +kernel))) rfl
theorem m_1028 : (Jvm.Cond.instanceMethod ({ cls := "QueryRunnerModel", name := "table", desc := "(I)I" } : Jvm.MethodName)) ∈ BIG := bg_t (ti_4 (List.mem_of_getElem? (i := 236) (by decide +kernel))) rfl
theorem m_1029 : (Jvm.Cond.selects "QueryRunnerModel" ({ cls := "QueryRunnerModel", name := "table", desc := "(I)I" } : Jvm.MethodName) ({ cls := "QueryRunnerModel", name := "table", desc := "(I)I" } : Jvm.MethodName)) ∈ BIG := bg_t (ti_4 (List.mem_of_getElem? (i := 237) (by decide +kernel))) rfl
theorem m_1030 : (Jvm.Cond.code ({ cls := "QueryRunnerModel", name := "table", desc := "(I)I" } : Jvm.MethodName) prog_11_method_4_code (2 : Nat) (Option.some Jvm.ClassFile.FieldType.int)) ∈ BIG := bg_t (ti_4 (List.mem_of_getElem? (i := 238) rfl)) rfl
theorem m_1031 : (Jvm.Cond.constantLong "QueryRunnerModel" (124 : Nat) (4 : Int64)) ∈ BIG := bg_t (ti_4 (List.mem_of_getElem? (i := 239) (by decide +kernel))) rfl
theorem m_1032 : (Jvm.Cond.methodLink "QueryRunnerModel" (126 : Nat) ({ cls := "QueryRunnerModel", name := "within", desc := "(JJJ)Z" } : Jvm.MethodName)) ∈ BIG := bg_t (ti_5 (List.mem_of_getElem? (i := 0) (by decide +kernel))) rfl
theorem m_1033 : (Jvm.Cond.static ({ cls := "QueryRunnerModel", name := "within", desc := "(JJJ)Z" } : Jvm.MethodName)) ∈ BIG := bg_t (ti_5 (List.mem_of_getElem? (i := 1) (by decide +kernel))) rfl
theorem m_1034 : (Jvm.Cond.code ({ cls := "QueryRunnerModel", name := "within", desc := "(JJJ)Z" } : Jvm.MethodName) prog_11_method_3_code (6 : Nat) (Option.some Jvm.ClassFile.FieldType.boolean)) ∈ BIG := bg_t (ti_5 (List.mem_of_getElem? (i := 2) rfl)) rfl
theorem m_1035 : (Jvm.Cond.methodLink "QueryRunnerLaw" (24 : Nat) ({ cls := "QueryRunnerModel", name := "insert", desc := "(IJJJJI)I" } : Jvm.MethodName)) ∈ BIG := bg_t (ti_5 (List.mem_of_getElem? (i := 3) (by decide +kernel))) rfl
theorem m_1036 : (Jvm.Cond.instanceMethod ({ cls := "QueryRunnerModel", name := "insert", desc := "(IJJJJI)I" } : Jvm.MethodName)) ∈ BIG := bg_t (ti_5 (List.mem_of_getElem? (i := 4) (by decide +kernel))) rfl
theorem m_1037 : (Jvm.Cond.selects "QueryRunnerModel" ({ cls := "QueryRunnerModel", name := "insert", desc := "(IJJJJI)I" } : Jvm.MethodName) ({ cls := "QueryRunnerModel", name := "insert", desc := "(IJJJJI)I" } : Jvm.MethodName)) ∈ BIG := bg_t (ti_5 (List.mem_of_getElem? (i := 5) (by decide +kernel))) rfl
theorem m_1038 : (Jvm.Cond.code ({ cls := "QueryRunnerModel", name := "insert", desc := "(IJJJJI)I" } : Jvm.MethodName) prog_11_method_5_code (15 : Nat) (Option.some Jvm.ClassFile.FieldType.int)) ∈ BIG := bg_t (ti_5 (List.mem_of_getElem? (i := 6) rfl)) rfl
theorem m_1039 : (Jvm.Cond.constantLong "QueryRunnerModel" (133 : Nat) (-1000000000000 : Int64)) ∈ BIG := bg_t (ti_5 (List.mem_of_getElem? (i := 7) (by decide +kernel))) rfl
theorem m_1040 : (Jvm.Cond.constantLong "QueryRunnerModel" (135 : Nat) (1000000000000 : Int64)) ∈ BIG := bg_t (ti_5 (List.mem_of_getElem? (i := 8) (by decide +kernel))) rfl
theorem m_1041 : (Jvm.Cond.methodLink "QueryRunnerLaw" (29 : Nat) ({ cls := "QueryRunnerModel", name := "fresh", desc := "()I" } : Jvm.MethodName)) ∈ BIG := bg_t (ti_5 (List.mem_of_getElem? (i := 9) (by decide +kernel))) rfl
theorem m_1042 : (Jvm.Cond.instanceMethod ({ cls := "QueryRunnerModel", name := "fresh", desc := "()I" } : Jvm.MethodName)) ∈ BIG := bg_t (ti_5 (List.mem_of_getElem? (i := 10) (by decide +kernel))) rfl
theorem m_1043 : (Jvm.Cond.selects "QueryRunnerModel" ({ cls := "QueryRunnerModel", name := "fresh", desc := "()I" } : Jvm.MethodName) ({ cls := "QueryRunnerModel", name := "fresh", desc := "()I" } : Jvm.MethodName)) ∈ BIG := bg_t (ti_5 (List.mem_of_getElem? (i := 11) (by decide +kernel))) rfl
theorem m_1044 : (Jvm.Cond.code ({ cls := "QueryRunnerModel", name := "fresh", desc := "()I" } : Jvm.MethodName) prog_11_method_6_code (2 : Nat) (Option.some Jvm.ClassFile.FieldType.int)) ∈ BIG := bg_t (ti_5 (List.mem_of_getElem? (i := 12) rfl)) rfl
theorem m_1045 : (Jvm.Cond.methodLink "QueryRunnerLaw" (34 : Nat) ({ cls := "QueryRunnerModel", name := "constant", desc := "(JZ)I" } : Jvm.MethodName)) ∈ BIG := bg_t (ti_5 (List.mem_of_getElem? (i := 13) (by decide +kernel))) rfl
theorem m_1046 : (Jvm.Cond.instanceMethod ({ cls := "QueryRunnerModel", name := "constant", desc := "(JZ)I" } : Jvm.MethodName)) ∈ BIG := bg_t (ti_5 (List.mem_of_getElem? (i := 14) (by decide +kernel))) rfl
theorem m_1047 : (Jvm.Cond.selects "QueryRunnerModel" ({ cls := "QueryRunnerModel", name := "constant", desc := "(JZ)I" } : Jvm.MethodName) ({ cls := "QueryRunnerModel", name := "constant", desc := "(JZ)I" } : Jvm.MethodName)) ∈ BIG := bg_t (ti_5 (List.mem_of_getElem? (i := 15) (by decide +kernel))) rfl
theorem m_1048 : (Jvm.Cond.code ({ cls := "QueryRunnerModel", name := "constant", desc := "(JZ)I" } : Jvm.MethodName) prog_11_method_13_code (4 : Nat) (Option.some Jvm.ClassFile.FieldType.int)) ∈ BIG := bg_t (ti_5 (List.mem_of_getElem? (i := 16) rfl)) rfl
theorem m_1049 : (Jvm.Cond.methodLink "QueryRunnerModel" (170 : Nat) ({ cls := "QueryRunnerModel", name := "make", desc := "(IIIJZ)I" } : Jvm.MethodName)) ∈ BIG := bg_t (ti_5 (List.mem_of_getElem? (i := 17) (by decide +kernel))) rfl
theorem m_1051 : (Jvm.Cond.instanceMethod ({ cls := "QueryRunnerModel", name := "make", desc := "(IIIJZ)I" } : Jvm.MethodName)) ∈ BIG := bg_t (ti_5 (List.mem_of_getElem? (i := 19) (by decide +kernel))) rfl
theorem m_1052 : (Jvm.Cond.code ({ cls := "QueryRunnerModel", name := "make", desc := "(IIIJZ)I" } : Jvm.MethodName) prog_11_method_11_code (10 : Nat) (Option.some Jvm.ClassFile.FieldType.int)) ∈ BIG := bg_t (ti_5 (List.mem_of_getElem? (i := 20) rfl)) rfl
theorem m_1053 : (Jvm.Cond.methodLink "QueryRunnerModel" (162 : Nat) ({ cls := "QueryRunnerModel", name := "isTwo", desc := "(I)Z" } : Jvm.MethodName)) ∈ BIG := bg_t (ti_5 (List.mem_of_getElem? (i := 21) (by decide +kernel))) rfl
theorem m_1055 : (Jvm.Cond.instanceMethod ({ cls := "QueryRunnerModel", name := "isTwo", desc := "(I)Z" } : Jvm.MethodName)) ∈ BIG := bg_t (ti_5 (List.mem_of_getElem? (i := 23) (by decide +kernel))) rfl
theorem m_1056 : (Jvm.Cond.code ({ cls := "QueryRunnerModel", name := "isTwo", desc := "(I)Z" } : Jvm.MethodName) prog_11_method_10_code (2 : Nat) (Option.some Jvm.ClassFile.FieldType.boolean)) ∈ BIG := bg_t (ti_5 (List.mem_of_getElem? (i := 24) rfl)) rfl
theorem m_1057 : (Jvm.Cond.methodLink "QueryRunnerModel" (166 : Nat) ({ cls := "QueryRunnerModel", name := "isLike", desc := "(II)Z" } : Jvm.MethodName)) ∈ BIG := bg_t (ti_5 (List.mem_of_getElem? (i := 25) (by decide +kernel))) rfl
theorem m_1059 : (Jvm.Cond.instanceMethod ({ cls := "QueryRunnerModel", name := "isLike", desc := "(II)Z" } : Jvm.MethodName)) ∈ BIG := bg_t (ti_5 (List.mem_of_getElem? (i := 27) (by decide +kernel))) rfl
theorem m_1060 : (Jvm.Cond.code ({ cls := "QueryRunnerModel", name := "isLike", desc := "(II)Z" } : Jvm.MethodName) prog_11_method_12_code (3 : Nat) (Option.some Jvm.ClassFile.FieldType.boolean)) ∈ BIG := bg_t (ti_5 (List.mem_of_getElem? (i := 28) rfl)) rfl
theorem m_1061 : (Jvm.Cond.methodLink "QueryRunnerLaw" (39 : Nat) ({ cls := "QueryRunnerModel", name := "column", desc := "(II)I" } : Jvm.MethodName)) ∈ BIG := bg_t (ti_5 (List.mem_of_getElem? (i := 29) (by decide +kernel))) rfl
theorem m_1062 : (Jvm.Cond.instanceMethod ({ cls := "QueryRunnerModel", name := "column", desc := "(II)I" } : Jvm.MethodName)) ∈ BIG := bg_t (ti_5 (List.mem_of_getElem? (i := 30) (by decide +kernel))) rfl
theorem m_1063 : (Jvm.Cond.selects "QueryRunnerModel" ({ cls := "QueryRunnerModel", name := "column", desc := "(II)I" } : Jvm.MethodName) ({ cls := "QueryRunnerModel", name := "column", desc := "(II)I" } : Jvm.MethodName)) ∈ BIG := bg_t (ti_5 (List.mem_of_getElem? (i := 31) (by decide +kernel))) rfl
theorem m_1064 : (Jvm.Cond.code ({ cls := "QueryRunnerModel", name := "column", desc := "(II)I" } : Jvm.MethodName) prog_11_method_14_code (3 : Nat) (Option.some Jvm.ClassFile.FieldType.int)) ∈ BIG := bg_t (ti_5 (List.mem_of_getElem? (i := 32) rfl)) rfl
theorem m_1065 : (Jvm.Cond.constantLong "QueryRunnerModel" (174 : Nat) (2 : Int64)) ∈ BIG := bg_t (ti_5 (List.mem_of_getElem? (i := 33) (by decide +kernel))) rfl
theorem m_1066 : (Jvm.Cond.constantLong "QueryRunnerModel" (176 : Nat) (3 : Int64)) ∈ BIG := bg_t (ti_5 (List.mem_of_getElem? (i := 34) (by decide +kernel))) rfl
theorem m_1067 : (Jvm.Cond.methodLink "QueryRunnerLaw" (44 : Nat) ({ cls := "QueryRunnerModel", name := "op", desc := "(III)I" } : Jvm.MethodName)) ∈ BIG := bg_t (ti_5 (List.mem_of_getElem? (i := 35) (by decide +kernel))) rfl
theorem m_1068 : (Jvm.Cond.instanceMethod ({ cls := "QueryRunnerModel", name := "op", desc := "(III)I" } : Jvm.MethodName)) ∈ BIG := bg_t (ti_5 (List.mem_of_getElem? (i := 36) (by decide +kernel))) rfl
theorem m_1069 : (Jvm.Cond.selects "QueryRunnerModel" ({ cls := "QueryRunnerModel", name := "op", desc := "(III)I" } : Jvm.MethodName) ({ cls := "QueryRunnerModel", name := "op", desc := "(III)I" } : Jvm.MethodName)) ∈ BIG := bg_t (ti_5 (List.mem_of_getElem? (i := 37) (by decide +kernel))) rfl
theorem m_1070 : (Jvm.Cond.code ({ cls := "QueryRunnerModel", name := "op", desc := "(III)I" } : Jvm.MethodName) prog_11_method_15_code (5 : Nat) (Option.some Jvm.ClassFile.FieldType.int)) ∈ BIG := bg_t (ti_5 (List.mem_of_getElem? (i := 38) rfl)) rfl
theorem m_1071 : (Jvm.Cond.methodLink "QueryRunnerModel" (178 : Nat) ({ cls := "QueryRunnerModel", name := "isExpression", desc := "(I)Z" } : Jvm.MethodName)) ∈ BIG := bg_t (ti_5 (List.mem_of_getElem? (i := 39) (by decide +kernel))) rfl
theorem m_1073 : (Jvm.Cond.instanceMethod ({ cls := "QueryRunnerModel", name := "isExpression", desc := "(I)Z" } : Jvm.MethodName)) ∈ BIG := bg_t (ti_5 (List.mem_of_getElem? (i := 41) (by decide +kernel))) rfl
theorem m_1074 : (Jvm.Cond.code ({ cls := "QueryRunnerModel", name := "isExpression", desc := "(I)Z" } : Jvm.MethodName) prog_11_method_7_code (2 : Nat) (Option.some Jvm.ClassFile.FieldType.boolean)) ∈ BIG := bg_t (ti_5 (List.mem_of_getElem? (i := 42) rfl)) rfl
theorem m_1075 : (Jvm.Cond.methodLink "QueryRunnerModel" (181 : Nat) ({ cls := "QueryRunnerModel", name := "isOne", desc := "(I)Z" } : Jvm.MethodName)) ∈ BIG := bg_t (ti_5 (List.mem_of_getElem? (i := 43) (by decide +kernel))) rfl
theorem m_1077 : (Jvm.Cond.instanceMethod ({ cls := "QueryRunnerModel", name := "isOne", desc := "(I)Z" } : Jvm.MethodName)) ∈ BIG := bg_t (ti_5 (List.mem_of_getElem? (i := 45) (by decide +kernel))) rfl
theorem m_1078 : (Jvm.Cond.code ({ cls := "QueryRunnerModel", name := "isOne", desc := "(I)Z" } : Jvm.MethodName) prog_11_method_9_code (2 : Nat) (Option.some Jvm.ClassFile.FieldType.boolean)) ∈ BIG := bg_t (ti_5 (List.mem_of_getElem? (i := 46) rfl)) rfl
theorem m_1079 : (Jvm.Cond.constantLong "QueryRunnerModel" (184 : Nat) (12 : Int64)) ∈ BIG := bg_t (ti_5 (List.mem_of_getElem? (i := 47) (by decide +kernel))) rfl
theorem m_1080 : (Jvm.Cond.methodLink "QueryRunnerModel" (186 : Nat) ({ cls := "QueryRunnerModel", name := "isTruth", desc := "(I)Z" } : Jvm.MethodName)) ∈ BIG := bg_t (ti_5 (List.mem_of_getElem? (i := 48) (by decide +kernel))) rfl
theorem m_1082 : (Jvm.Cond.instanceMethod ({ cls := "QueryRunnerModel", name := "isTruth", desc := "(I)Z" } : Jvm.MethodName)) ∈ BIG := bg_t (ti_5 (List.mem_of_getElem? (i := 50) (by decide +kernel))) rfl
theorem m_1083 : (Jvm.Cond.code ({ cls := "QueryRunnerModel", name := "isTruth", desc := "(I)Z" } : Jvm.MethodName) prog_11_method_8_code (2 : Nat) (Option.some Jvm.ClassFile.FieldType.boolean)) ∈ BIG := bg_t (ti_5 (List.mem_of_getElem? (i := 51) rfl)) rfl
theorem m_1084 : (Jvm.Cond.methodLink "QueryRunnerLaw" (49 : Nat) ({ cls := "QueryRunnerModel", name := "aggregate", desc := "(IIZ)I" } : Jvm.MethodName)) ∈ BIG := bg_t (ti_5 (List.mem_of_getElem? (i := 52) (by decide +kernel))) rfl
theorem m_1085 : (Jvm.Cond.instanceMethod ({ cls := "QueryRunnerModel", name := "aggregate", desc := "(IIZ)I" } : Jvm.MethodName)) ∈ BIG := bg_t (ti_5 (List.mem_of_getElem? (i := 53) (by decide +kernel))) rfl
theorem m_1086 : (Jvm.Cond.selects "QueryRunnerModel" ({ cls := "QueryRunnerModel", name := "aggregate", desc := "(IIZ)I" } : Jvm.MethodName) ({ cls := "QueryRunnerModel", name := "aggregate", desc := "(IIZ)I" } : Jvm.MethodName)) ∈ BIG := bg_t (ti_5 (List.mem_of_getElem? (i := 54) (by decide +kernel))) rfl
theorem m_1087 : (Jvm.Cond.code ({ cls := "QueryRunnerModel", name := "aggregate", desc := "(IIZ)I" } : Jvm.MethodName) prog_11_method_16_code (4 : Nat) (Option.some Jvm.ClassFile.FieldType.int)) ∈ BIG := bg_t (ti_5 (List.mem_of_getElem? (i := 55) rfl)) rfl
theorem m_1088 : (Jvm.Cond.constantLong "QueryRunnerModel" (189 : Nat) (5 : Int64)) ∈ BIG := bg_t (ti_5 (List.mem_of_getElem? (i := 56) (by decide +kernel))) rfl
theorem m_1089 : (Jvm.Cond.methodLink "QueryRunnerLaw" (53 : Nat) ({ cls := "QueryRunnerModel", name := "source", desc := "(III)I" } : Jvm.MethodName)) ∈ BIG := bg_t (ti_5 (List.mem_of_getElem? (i := 57) (by decide +kernel))) rfl
theorem m_1090 : (Jvm.Cond.instanceMethod ({ cls := "QueryRunnerModel", name := "source", desc := "(III)I" } : Jvm.MethodName)) ∈ BIG := bg_t (ti_5 (List.mem_of_getElem? (i := 58) (by decide +kernel))) rfl
theorem m_1091 : (Jvm.Cond.selects "QueryRunnerModel" ({ cls := "QueryRunnerModel", name := "source", desc := "(III)I" } : Jvm.MethodName) ({ cls := "QueryRunnerModel", name := "source", desc := "(III)I" } : Jvm.MethodName)) ∈ BIG := bg_t (ti_5 (List.mem_of_getElem? (i := 59) (by decide +kernel))) rfl
theorem m_1092 : (Jvm.Cond.code ({ cls := "QueryRunnerModel", name := "source", desc := "(III)I" } : Jvm.MethodName) prog_11_method_17_code (4 : Nat) (Option.some Jvm.ClassFile.FieldType.int)) ∈ BIG := bg_t (ti_5 (List.mem_of_getElem? (i := 60) rfl)) rfl
theorem m_1093 : (Jvm.Cond.methodLink "QueryRunnerLaw" (57 : Nat) ({ cls := "QueryRunnerModel", name := "condition", desc := "(II)I" } : Jvm.MethodName)) ∈ BIG := bg_t (ti_5 (List.mem_of_getElem? (i := 61) (by decide +kernel))) rfl
theorem m_1094 : (Jvm.Cond.instanceMethod ({ cls := "QueryRunnerModel", name := "condition", desc := "(II)I" } : Jvm.MethodName)) ∈ BIG := bg_t (ti_5 (List.mem_of_getElem? (i := 62) (by decide +kernel))) rfl
theorem m_1095 : (Jvm.Cond.selects "QueryRunnerModel" ({ cls := "QueryRunnerModel", name := "condition", desc := "(II)I" } : Jvm.MethodName) ({ cls := "QueryRunnerModel", name := "condition", desc := "(II)I" } : Jvm.MethodName)) ∈ BIG := bg_t (ti_5 (List.mem_of_getElem? (i := 63) (by decide +kernel))) rfl
theorem m_1096 : (Jvm.Cond.code ({ cls := "QueryRunnerModel", name := "condition", desc := "(II)I" } : Jvm.MethodName) prog_11_method_18_code (3 : Nat) (Option.some Jvm.ClassFile.FieldType.int)) ∈ BIG := bg_t (ti_5 (List.mem_of_getElem? (i := 64) rfl)) rfl
theorem m_1097 : (Jvm.Cond.methodLink "QueryRunnerLaw" (61 : Nat) ({ cls := "QueryRunnerModel", name := "group", desc := "(I)I" } : Jvm.MethodName)) ∈ BIG := bg_t (ti_5 (List.mem_of_getElem? (i := 65) (by decide +kernel))) rfl
theorem m_1098 : (Jvm.Cond.instanceMethod ({ cls := "QueryRunnerModel", name := "group", desc := "(I)I" } : Jvm.MethodName)) ∈ BIG := bg_t (ti_5 (List.mem_of_getElem? (i := 66) (by decide +kernel))) rfl
theorem m_1099 : (Jvm.Cond.selects "QueryRunnerModel" ({ cls := "QueryRunnerModel", name := "group", desc := "(I)I" } : Jvm.MethodName) ({ cls := "QueryRunnerModel", name := "group", desc := "(I)I" } : Jvm.MethodName)) ∈ BIG := bg_t (ti_5 (List.mem_of_getElem? (i := 67) (by decide +kernel))) rfl
theorem m_1100 : (Jvm.Cond.code ({ cls := "QueryRunnerModel", name := "group", desc := "(I)I" } : Jvm.MethodName) prog_11_method_19_code (2 : Nat) (Option.some Jvm.ClassFile.FieldType.int)) ∈ BIG := bg_t (ti_5 (List.mem_of_getElem? (i := 68) rfl)) rfl
theorem m_1101 : (Jvm.Cond.methodLink "QueryRunnerLaw" (65 : Nat) ({ cls := "QueryRunnerModel", name := "item", desc := "(I)I" } : Jvm.MethodName)) ∈ BIG := bg_t (ti_5 (List.mem_of_getElem? (i := 69) (by decide +kernel))) rfl
theorem m_1102 : (Jvm.Cond.instanceMethod ({ cls := "QueryRunnerModel", name := "item", desc := "(I)I" } : Jvm.MethodName)) ∈ BIG := bg_t (ti_5 (List.mem_of_getElem? (i := 70) (by decide +kernel))) rfl
theorem m_1103 : (Jvm.Cond.selects "QueryRunnerModel" ({ cls := "QueryRunnerModel", name := "item", desc := "(I)I" } : Jvm.MethodName) ({ cls := "QueryRunnerModel", name := "item", desc := "(I)I" } : Jvm.MethodName)) ∈ BIG := bg_t (ti_5 (List.mem_of_getElem? (i := 71) (by decide +kernel))) rfl
theorem m_1104 : (Jvm.Cond.code ({ cls := "QueryRunnerModel", name := "item", desc := "(I)I" } : Jvm.MethodName) prog_11_method_20_code (2 : Nat) (Option.some Jvm.ClassFile.FieldType.int)) ∈ BIG := bg_t (ti_5 (List.mem_of_getElem? (i := 72) rfl)) rfl
theorem m_1105 : (Jvm.Cond.methodLink "QueryRunnerLaw" (70 : Nat) ({ cls := "QueryRunnerModel", name := "order", desc := "(IZ)I" } : Jvm.MethodName)) ∈ BIG := bg_t (ti_5 (List.mem_of_getElem? (i := 73) (by decide +kernel))) rfl
theorem m_1106 : (Jvm.Cond.instanceMethod ({ cls := "QueryRunnerModel", name := "order", desc := "(IZ)I" } : Jvm.MethodName)) ∈ BIG := bg_t (ti_5 (List.mem_of_getElem? (i := 74) (by decide +kernel))) rfl
theorem m_1107 : (Jvm.Cond.selects "QueryRunnerModel" ({ cls := "QueryRunnerModel", name := "order", desc := "(IZ)I" } : Jvm.MethodName) ({ cls := "QueryRunnerModel", name := "order", desc := "(IZ)I" } : Jvm.MethodName)) ∈ BIG := bg_t (ti_5 (List.mem_of_getElem? (i := 75) (by decide +kernel))) rfl
theorem m_1108 : (Jvm.Cond.code ({ cls := "QueryRunnerModel", name := "order", desc := "(IZ)I" } : Jvm.MethodName) prog_11_method_21_code (3 : Nat) (Option.some Jvm.ClassFile.FieldType.int)) ∈ BIG := bg_t (ti_5 (List.mem_of_getElem? (i := 76) rfl)) rfl
theorem m_1109 : (Jvm.Cond.methodLink "QueryRunnerLaw" (75 : Nat) ({ cls := "QueryRunnerModel", name := "shape", desc := "(ZII)I" } : Jvm.MethodName)) ∈ BIG := bg_t (ti_5 (List.mem_of_getElem? (i := 77) (by decide +kernel))) rfl
theorem m_1110 : (Jvm.Cond.instanceMethod ({ cls := "QueryRunnerModel", name := "shape", desc := "(ZII)I" } : Jvm.MethodName)) ∈ BIG := bg_t (ti_5 (List.mem_of_getElem? (i := 78) (by decide +kernel))) rfl
theorem m_1111 : (Jvm.Cond.selects "QueryRunnerModel" ({ cls := "QueryRunnerModel", name := "shape", desc := "(ZII)I" } : Jvm.MethodName) ({ cls := "QueryRunnerModel", name := "shape", desc := "(ZII)I" } : Jvm.MethodName)) ∈ BIG := bg_t (ti_5 (List.mem_of_getElem? (i := 79) (by decide +kernel))) rfl
theorem m_1112 : (Jvm.Cond.code ({ cls := "QueryRunnerModel", name := "shape", desc := "(ZII)I" } : Jvm.MethodName) prog_11_method_22_code (4 : Nat) (Option.some Jvm.ClassFile.FieldType.int)) ∈ BIG := bg_t (ti_5 (List.mem_of_getElem? (i := 80) rfl)) rfl
theorem m_1113 : (Jvm.Cond.constantLong "QueryRunnerModel" (191 : Nat) (1000 : Int64)) ∈ BIG := bg_t (ti_5 (List.mem_of_getElem? (i := 81) (by decide +kernel))) rfl
theorem m_1114 : (Jvm.Cond.methodLink "QueryRunnerLaw" (79 : Nat) ({ cls := "QueryRunnerModel", name := "run", desc := "()I" } : Jvm.MethodName)) ∈ BIG := bg_t (ti_5 (List.mem_of_getElem? (i := 82) (by decide +kernel))) rfl
theorem m_1115 : (Jvm.Cond.instanceMethod ({ cls := "QueryRunnerModel", name := "run", desc := "()I" } : Jvm.MethodName)) ∈ BIG := bg_t (ti_5 (List.mem_of_getElem? (i := 83) (by decide +kernel))) rfl
theorem m_1116 : (Jvm.Cond.selects "QueryRunnerModel" ({ cls := "QueryRunnerModel", name := "run", desc := "()I" } : Jvm.MethodName) ({ cls := "QueryRunnerModel", name := "run", desc := "()I" } : Jvm.MethodName)) ∈ BIG := bg_t (ti_5 (List.mem_of_getElem? (i := 84) (by decide +kernel))) rfl
theorem m_1117 : (Jvm.Cond.code ({ cls := "QueryRunnerModel", name := "run", desc := "()I" } : Jvm.MethodName) prog_11_method_58_code (2 : Nat) (Option.some Jvm.ClassFile.FieldType.int)) ∈ BIG := bg_t (ti_5 (List.mem_of_getElem? (i := 85) rfl)) rfl
theorem m_1118 : (Jvm.Cond.methodLink "QueryRunnerModel" (308 : Nat) ({ cls := "QueryRunnerModel", name := "areColumnsRight", desc := "()Z" } : Jvm.MethodName)) ∈ BIG := bg_t (ti_5 (List.mem_of_getElem? (i := 86) (by decide +kernel))) rfl
theorem m_1120 : (Jvm.Cond.instanceMethod ({ cls := "QueryRunnerModel", name := "areColumnsRight", desc := "()Z" } : Jvm.MethodName)) ∈ BIG := bg_t (ti_5 (List.mem_of_getElem? (i := 88) (by decide +kernel))) rfl
theorem m_1121 : (Jvm.Cond.code ({ cls := "QueryRunnerModel", name := "areColumnsRight", desc := "()Z" } : Jvm.MethodName) prog_11_method_25_code (3 : Nat) (Option.some Jvm.ClassFile.FieldType.boolean)) ∈ BIG := bg_t (ti_5 (List.mem_of_getElem? (i := 89) rfl)) rfl
theorem m_1122 : (Jvm.Cond.methodLink "QueryRunnerModel" (200 : Nat) ({ cls := "QueryRunnerModel", name := "hasColumns", desc := "(II)Z" } : Jvm.MethodName)) ∈ BIG := bg_t (ti_5 (List.mem_of_getElem? (i := 90) (by decide +kernel))) rfl
theorem m_1124 : (Jvm.Cond.instanceMethod ({ cls := "QueryRunnerModel", name := "hasColumns", desc := "(II)Z" } : Jvm.MethodName)) ∈ BIG := bg_t (ti_5 (List.mem_of_getElem? (i := 92) (by decide +kernel))) rfl
theorem m_1125 : (Jvm.Cond.code ({ cls := "QueryRunnerModel", name := "hasColumns", desc := "(II)Z" } : Jvm.MethodName) prog_11_method_24_code (6 : Nat) (Option.some Jvm.ClassFile.FieldType.boolean)) ∈ BIG := bg_t (ti_5 (List.mem_of_getElem? (i := 93) rfl)) rfl
theorem m_1126 : (Jvm.Cond.methodLink "QueryRunnerModel" (196 : Nat) ({ cls := "QueryRunnerModel", name := "push", desc := "(I)V" } : Jvm.MethodName)) ∈ BIG := bg_t (ti_5 (List.mem_of_getElem? (i := 94) (by decide +kernel))) rfl
theorem m_1128 : (Jvm.Cond.instanceMethod ({ cls := "QueryRunnerModel", name := "push", desc := "(I)V" } : Jvm.MethodName)) ∈ BIG := bg_t (ti_5 (List.mem_of_getElem? (i := 96) (by decide +kernel))) rfl
theorem m_1129 : (Jvm.Cond.code ({ cls := "QueryRunnerModel", name := "push", desc := "(I)V" } : Jvm.MethodName) prog_11_method_23_code (2 : Nat) (Option.none : Option Jvm.ClassFile.FieldType)) ∈ BIG := bg_t (ti_5 (List.mem_of_getElem? (i := 97) rfl)) rfl
theorem m_1130 : (Jvm.Cond.methodLink "QueryRunnerModel" (312 : Nat) ({ cls := "QueryRunnerModel", name := "areAggregatesRight", desc := "()Z" } : Jvm.MethodName)) ∈ BIG := bg_t (ti_5 (List.mem_of_getElem? (i := 98) (by decide +kernel))) rfl
theorem m_1132 : (Jvm.Cond.instanceMethod ({ cls := "QueryRunnerModel", name := "areAggregatesRight", desc := "()Z" } : Jvm.MethodName)) ∈ BIG := bg_t (ti_5 (List.mem_of_getElem? (i := 100) (by decide +kernel))) rfl
theorem m_1133 : (Jvm.Cond.code ({ cls := "QueryRunnerModel", name := "areAggregatesRight", desc := "()Z" } : Jvm.MethodName) prog_11_method_26_code (3 : Nat) (Option.some Jvm.ClassFile.FieldType.boolean)) ∈ BIG := bg_t (ti_5 (List.mem_of_getElem? (i := 101) rfl)) rfl
theorem m_1134 : (Jvm.Cond.methodLink "QueryRunnerModel" (315 : Nat) ({ cls := "QueryRunnerModel", name := "areAllBound", desc := "()Z" } : Jvm.MethodName)) ∈ BIG := bg_t (ti_5 (List.mem_of_getElem? (i := 102) (by decide +kernel))) rfl
theorem m_1136 : (Jvm.Cond.instanceMethod ({ cls := "QueryRunnerModel", name := "areAllBound", desc := "()Z" } : Jvm.MethodName)) ∈ BIG := bg_t (ti_5 (List.mem_of_getElem? (i := 104) (by decide +kernel))) rfl
theorem m_1137 : (Jvm.Cond.code ({ cls := "QueryRunnerModel", name := "areAllBound", desc := "()Z" } : Jvm.MethodName) prog_11_method_29_code (3 : Nat) (Option.some Jvm.ClassFile.FieldType.boolean)) ∈ BIG := bg_t (ti_5 (List.mem_of_getElem? (i := 105) rfl)) rfl
theorem m_1138 : (Jvm.Cond.methodLink "QueryRunnerModel" (207 : Nat) ({ cls := "QueryRunnerModel", name := "isBound", desc := "(I)Z" } : Jvm.MethodName)) ∈ BIG := bg_t (ti_5 (List.mem_of_getElem? (i := 106) (by decide +kernel))) rfl
theorem m_1140 : (Jvm.Cond.instanceMethod ({ cls := "QueryRunnerModel", name := "isBound", desc := "(I)Z" } : Jvm.MethodName)) ∈ BIG := bg_t (ti_5 (List.mem_of_getElem? (i := 108) (by decide +kernel))) rfl
theorem m_1141 : (Jvm.Cond.code ({ cls := "QueryRunnerModel", name := "isBound", desc := "(I)Z" } : Jvm.MethodName) prog_11_method_28_code (5 : Nat) (Option.some Jvm.ClassFile.FieldType.boolean)) ∈ BIG := bg_t (ti_5 (List.mem_of_getElem? (i := 109) rfl)) rfl
theorem m_1142 : (Jvm.Cond.methodLink "QueryRunnerModel" (203 : Nat) ({ cls := "QueryRunnerModel", name := "groupLike", desc := "(I)I" } : Jvm.MethodName)) ∈ BIG := bg_t (ti_5 (List.mem_of_getElem? (i := 110) (by decide +kernel))) rfl
theorem m_1144 : (Jvm.Cond.instanceMethod ({ cls := "QueryRunnerModel", name := "groupLike", desc := "(I)I" } : Jvm.MethodName)) ∈ BIG := bg_t (ti_5 (List.mem_of_getElem? (i := 112) (by decide +kernel))) rfl
theorem m_1145 : (Jvm.Cond.code ({ cls := "QueryRunnerModel", name := "groupLike", desc := "(I)I" } : Jvm.MethodName) prog_11_method_27_code (4 : Nat) (Option.some Jvm.ClassFile.FieldType.int)) ∈ BIG := bg_t (ti_5 (List.mem_of_getElem? (i := 113) rfl)) rfl
theorem m_1146 : (Jvm.Cond.methodLink "QueryRunnerModel" (318 : Nat) ({ cls := "QueryRunnerModel", name := "ask", desc := "(I)V" } : Jvm.MethodName)) ∈ BIG := bg_t (ti_5 (List.mem_of_getElem? (i := 114) (by decide +kernel))) rfl
theorem m_1148 : (Jvm.Cond.instanceMethod ({ cls := "QueryRunnerModel", name := "ask", desc := "(I)V" } : Jvm.MethodName)) ∈ BIG := bg_t (ti_5 (List.mem_of_getElem? (i := 116) (by decide +kernel))) rfl
theorem m_1149 : (Jvm.Cond.code ({ cls := "QueryRunnerModel", name := "ask", desc := "(I)V" } : Jvm.MethodName) prog_11_method_30_code (4 : Nat) (Option.none : Option Jvm.ClassFile.FieldType)) ∈ BIG := bg_t (ti_5 (List.mem_of_getElem? (i := 117) rfl)) rfl
theorem m_1150 : (Jvm.Cond.methodLink "QueryRunnerModel" (321 : Nat) ({ cls := "QueryRunnerModel", name := "goFirst", desc := "()V" } : Jvm.MethodName)) ∈ BIG := bg_t (ti_5 (List.mem_of_getElem? (i := 118) (by decide +kernel))) rfl
theorem m_1152 : (Jvm.Cond.instanceMethod ({ cls := "QueryRunnerModel", name := "goFirst", desc := "()V" } : Jvm.MethodName)) ∈ BIG := bg_t (ti_5 (List.mem_of_getElem? (i := 120) (by decide +kernel))) rfl
theorem m_1153 : (Jvm.Cond.code ({ cls := "QueryRunnerModel", name := "goFirst", desc := "()V" } : Jvm.MethodName) prog_11_method_50_code (2 : Nat) (Option.none : Option Jvm.ClassFile.FieldType)) ∈ BIG := bg_t (ti_5 (List.mem_of_getElem? (i := 121) rfl)) rfl
theorem m_1154 : (Jvm.Cond.methodLink "QueryRunnerModel" (292 : Nat) ({ cls := "QueryRunnerModel", name := "goSecond", desc := "()V" } : Jvm.MethodName)) ∈ BIG := bg_t (ti_5 (List.mem_of_getElem? (i := 122) (by decide +kernel))) rfl
theorem m_1156 : (Jvm.Cond.instanceMethod ({ cls := "QueryRunnerModel", name := "goSecond", desc := "()V" } : Jvm.MethodName)) ∈ BIG := bg_t (ti_5 (List.mem_of_getElem? (i := 124) (by decide +kernel))) rfl
theorem m_1157 : (Jvm.Cond.code ({ cls := "QueryRunnerModel", name := "goSecond", desc := "()V" } : Jvm.MethodName) prog_11_method_49_code (3 : Nat) (Option.none : Option Jvm.ClassFile.FieldType)) ∈ BIG := bg_t (ti_5 (List.mem_of_getElem? (i := 125) rfl)) rfl
theorem m_1158 : (Jvm.Cond.methodLink "QueryRunnerModel" (283 : Nat) ({ cls := "QueryRunnerModel", name := "goTogether", desc := "()V" } : Jvm.MethodName)) ∈ BIG := bg_t (ti_5 (List.mem_of_getElem? (i := 126) (by decide +kernel))) rfl
theorem m_1160 : (Jvm.Cond.instanceMethod ({ cls := "QueryRunnerModel", name := "goTogether", desc := "()V" } : Jvm.MethodName)) ∈ BIG := bg_t (ti_5 (List.mem_of_getElem? (i := 128) (by decide +kernel))) rfl
theorem m_1161 : (Jvm.Cond.code ({ cls := "QueryRunnerModel", name := "goTogether", desc := "()V" } : Jvm.MethodName) prog_11_method_46_code (1 : Nat) (Option.none : Option Jvm.ClassFile.FieldType)) ∈ BIG := bg_t (ti_5 (List.mem_of_getElem? (i := 129) rfl)) rfl
theorem m_1162 : (Jvm.Cond.methodLink "QueryRunnerModel" (271 : Nat) ({ cls := "QueryRunnerModel", name := "isTrue", desc := "(I)Z" } : Jvm.MethodName)) ∈ BIG := bg_t (ti_5 (List.mem_of_getElem? (i := 130) (by decide +kernel))) rfl
theorem m_1164 : (Jvm.Cond.instanceMethod ({ cls := "QueryRunnerModel", name := "isTrue", desc := "(I)Z" } : Jvm.MethodName)) ∈ BIG := bg_t (ti_5 (List.mem_of_getElem? (i := 132) (by decide +kernel))) rfl
theorem m_1165 : (Jvm.Cond.code ({ cls := "QueryRunnerModel", name := "isTrue", desc := "(I)Z" } : Jvm.MethodName) prog_11_method_39_code (2 : Nat) (Option.some Jvm.ClassFile.FieldType.boolean)) ∈ BIG := bg_t (ti_5 (List.mem_of_getElem? (i := 133) rfl)) rfl
theorem m_1166 : (Jvm.Cond.methodLink "QueryRunnerModel" (249 : Nat) ({ cls := "QueryRunnerModel", name := "workOut", desc := "(I)V" } : Jvm.MethodName)) ∈ BIG := bg_t (ti_5 (List.mem_of_getElem? (i := 134) (by decide +kernel))) rfl
theorem m_1168 : (Jvm.Cond.instanceMethod ({ cls := "QueryRunnerModel", name := "workOut", desc := "(I)V" } : Jvm.MethodName)) ∈ BIG := bg_t (ti_5 (List.mem_of_getElem? (i := 136) (by decide +kernel))) rfl
theorem m_1169 : (Jvm.Cond.code ({ cls := "QueryRunnerModel", name := "workOut", desc := "(I)V" } : Jvm.MethodName) prog_11_method_38_code (2 : Nat) (Option.none : Option Jvm.ClassFile.FieldType)) ∈ BIG := bg_t (ti_5 (List.mem_of_getElem? (i := 137) rfl)) rfl
theorem m_1170 : (Jvm.Cond.methodLink "QueryRunnerModel" (246 : Nat) ({ cls := "QueryRunnerModel", name := "lookOnce", desc := "()V" } : Jvm.MethodName)) ∈ BIG := bg_t (ti_5 (List.mem_of_getElem? (i := 138) (by decide +kernel))) rfl
theorem m_1172 : (Jvm.Cond.instanceMethod ({ cls := "QueryRunnerModel", name := "lookOnce", desc := "()V" } : Jvm.MethodName)) ∈ BIG := bg_t (ti_5 (List.mem_of_getElem? (i := 140) (by decide +kernel))) rfl
theorem m_1173 : (Jvm.Cond.code ({ cls := "QueryRunnerModel", name := "lookOnce", desc := "()V" } : Jvm.MethodName) prog_11_method_37_code (7 : Nat) (Option.none : Option Jvm.ClassFile.FieldType)) ∈ BIG := bg_t (ti_5 (List.mem_of_getElem? (i := 141) rfl)) rfl
theorem m_1174 : (Jvm.Cond.methodLink "QueryRunnerModel" (222 : Nat) ({ cls := "QueryRunnerModel", name := "give", desc := "(JZ)V" } : Jvm.MethodName)) ∈ BIG := bg_t (ti_5 (List.mem_of_getElem? (i := 142) (by decide +kernel))) rfl
theorem m_1176 : (Jvm.Cond.instanceMethod ({ cls := "QueryRunnerModel", name := "give", desc := "(JZ)V" } : Jvm.MethodName)) ∈ BIG := bg_t (ti_5 (List.mem_of_getElem? (i := 144) (by decide +kernel))) rfl
theorem m_1177 : (Jvm.Cond.code ({ cls := "QueryRunnerModel", name := "give", desc := "(JZ)V" } : Jvm.MethodName) prog_11_method_31_code (4 : Nat) (Option.none : Option Jvm.ClassFile.FieldType)) ∈ BIG := bg_t (ti_5 (List.mem_of_getElem? (i := 145) rfl)) rfl
theorem m_1178 : (Jvm.Cond.methodLink "QueryRunnerModel" (237 : Nat) ({ cls := "QueryRunnerModel", name := "giveColumn", desc := "(I)V" } : Jvm.MethodName)) ∈ BIG := bg_t (ti_5 (List.mem_of_getElem? (i := 146) (by decide +kernel))) rfl
theorem m_1180 : (Jvm.Cond.instanceMethod ({ cls := "QueryRunnerModel", name := "giveColumn", desc := "(I)V" } : Jvm.MethodName)) ∈ BIG := bg_t (ti_5 (List.mem_of_getElem? (i := 148) (by decide +kernel))) rfl
theorem m_1181 : (Jvm.Cond.code ({ cls := "QueryRunnerModel", name := "giveColumn", desc := "(I)V" } : Jvm.MethodName) prog_11_method_36_code (5 : Nat) (Option.none : Option Jvm.ClassFile.FieldType)) ∈ BIG := bg_t (ti_5 (List.mem_of_getElem? (i := 149) rfl)) rfl
theorem m_1182 : (Jvm.Cond.methodLink "QueryRunnerModel" (240 : Nat) ({ cls := "QueryRunnerModel", name := "giveAggregate", desc := "(I)V" } : Jvm.MethodName)) ∈ BIG := bg_t (ti_5 (List.mem_of_getElem? (i := 150) (by decide +kernel))) rfl
theorem m_1184 : (Jvm.Cond.instanceMethod ({ cls := "QueryRunnerModel", name := "giveAggregate", desc := "(I)V" } : Jvm.MethodName)) ∈ BIG := bg_t (ti_5 (List.mem_of_getElem? (i := 152) (by decide +kernel))) rfl
theorem m_1185 : (Jvm.Cond.code ({ cls := "QueryRunnerModel", name := "giveAggregate", desc := "(I)V" } : Jvm.MethodName) prog_11_method_42_code (17 : Nat) (Option.none : Option Jvm.ClassFile.FieldType)) ∈ BIG := bg_t (ti_5 (List.mem_of_getElem? (i := 153) rfl)) rfl
theorem m_1186 : (Jvm.Cond.methodLink "QueryRunnerModel" (252 : Nat) ({ cls := "QueryRunnerModel", name := "aggregateNumber", desc := "(I)I" } : Jvm.MethodName)) ∈ BIG := bg_t (ti_5 (List.mem_of_getElem? (i := 154) (by decide +kernel))) rfl
theorem m_1188 : (Jvm.Cond.instanceMethod ({ cls := "QueryRunnerModel", name := "aggregateNumber", desc := "(I)I" } : Jvm.MethodName)) ∈ BIG := bg_t (ti_5 (List.mem_of_getElem? (i := 156) (by decide +kernel))) rfl
theorem m_1189 : (Jvm.Cond.code ({ cls := "QueryRunnerModel", name := "aggregateNumber", desc := "(I)I" } : Jvm.MethodName) prog_11_method_40_code (4 : Nat) (Option.some Jvm.ClassFile.FieldType.int)) ∈ BIG := bg_t (ti_5 (List.mem_of_getElem? (i := 157) rfl)) rfl
theorem m_1190 : (Jvm.Cond.methodLink "QueryRunnerModel" (258 : Nat) ({ cls := "QueryRunnerModel", name := "countsIn", desc := "(II)Z" } : Jvm.MethodName)) ∈ BIG := bg_t (ti_5 (List.mem_of_getElem? (i := 158) (by decide +kernel))) rfl
theorem m_1192 : (Jvm.Cond.instanceMethod ({ cls := "QueryRunnerModel", name := "countsIn", desc := "(II)Z" } : Jvm.MethodName)) ∈ BIG := bg_t (ti_5 (List.mem_of_getElem? (i := 160) (by decide +kernel))) rfl
theorem m_1193 : (Jvm.Cond.code ({ cls := "QueryRunnerModel", name := "countsIn", desc := "(II)Z" } : Jvm.MethodName) prog_11_method_41_code (5 : Nat) (Option.some Jvm.ClassFile.FieldType.boolean)) ∈ BIG := bg_t (ti_5 (List.mem_of_getElem? (i := 161) rfl)) rfl
theorem m_1194 : (Jvm.Cond.methodLink "QueryRunnerModel" (226 : Nat) ({ cls := "QueryRunnerModel", name := "truthOf", desc := "(Z)J" } : Jvm.MethodName)) ∈ BIG := bg_t (ti_5 (List.mem_of_getElem? (i := 162) (by decide +kernel))) rfl
theorem m_1195 : (Jvm.Cond.static ({ cls := "QueryRunnerModel", name := "truthOf", desc := "(Z)J" } : Jvm.MethodName)) ∈ BIG := bg_t (ti_5 (List.mem_of_getElem? (i := 163) (by decide +kernel))) rfl
theorem m_1196 : (Jvm.Cond.code ({ cls := "QueryRunnerModel", name := "truthOf", desc := "(Z)J" } : Jvm.MethodName) prog_11_method_34_code (1 : Nat) (Option.some Jvm.ClassFile.FieldType.long)) ∈ BIG := bg_t (ti_5 (List.mem_of_getElem? (i := 164) rfl)) rfl
theorem m_1197 : (Jvm.Cond.methodLink "QueryRunnerModel" (243 : Nat) ({ cls := "QueryRunnerModel", name := "combine", desc := "(I)V" } : Jvm.MethodName)) ∈ BIG := bg_t (ti_5 (List.mem_of_getElem? (i := 165) (by decide +kernel))) rfl
theorem m_1199 : (Jvm.Cond.instanceMethod ({ cls := "QueryRunnerModel", name := "combine", desc := "(I)V" } : Jvm.MethodName)) ∈ BIG := bg_t (ti_5 (List.mem_of_getElem? (i := 167) (by decide +kernel))) rfl
theorem m_1200 : (Jvm.Cond.code ({ cls := "QueryRunnerModel", name := "combine", desc := "(I)V" } : Jvm.MethodName) prog_11_method_35_code (8 : Nat) (Option.none : Option Jvm.ClassFile.FieldType)) ∈ BIG := bg_t (ti_5 (List.mem_of_getElem? (i := 168) rfl)) rfl
theorem m_1201 : (Jvm.Cond.methodLink "QueryRunnerModel" (230 : Nat) ({ cls := "QueryRunnerModel", name := "reckon", desc := "(IJJ)J" } : Jvm.MethodName)) ∈ BIG := bg_t (ti_5 (List.mem_of_getElem? (i := 169) (by decide +kernel))) rfl
theorem m_1203 : (Jvm.Cond.instanceMethod ({ cls := "QueryRunnerModel", name := "reckon", desc := "(IJJ)J" } : Jvm.MethodName)) ∈ BIG := bg_t (ti_5 (List.mem_of_getElem? (i := 171) (by decide +kernel))) rfl
theorem m_1204 : (Jvm.Cond.code ({ cls := "QueryRunnerModel", name := "reckon", desc := "(IJJ)J" } : Jvm.MethodName) prog_11_method_33_code (8 : Nat) (Option.some Jvm.ClassFile.FieldType.long)) ∈ BIG := bg_t (ti_5 (List.mem_of_getElem? (i := 172) rfl)) rfl
theorem m_1205 : (Jvm.Cond.methodLink "QueryRunnerModel" (216 : Nat) ({ cls := "QueryRunnerModel", name := "size", desc := "(J)J" } : Jvm.MethodName)) ∈ BIG := bg_t (ti_5 (List.mem_of_getElem? (i := 173) (by decide +kernel))) rfl
theorem m_1206 : (Jvm.Cond.static ({ cls := "QueryRunnerModel", name := "size", desc := "(J)J" } : Jvm.MethodName)) ∈ BIG := bg_t (ti_5 (List.mem_of_getElem? (i := 174) (by decide +kernel))) rfl
theorem m_1207 : (Jvm.Cond.code ({ cls := "QueryRunnerModel", name := "size", desc := "(J)J" } : Jvm.MethodName) prog_11_method_32_code (2 : Nat) (Option.some Jvm.ClassFile.FieldType.long)) ∈ BIG := bg_t (ti_5 (List.mem_of_getElem? (i := 175) rfl)) rfl
theorem m_1208 : (Jvm.Cond.constantLong "QueryRunnerModel" (220 : Nat) (1000000000000000 : Int64)) ∈ BIG := bg_t (ti_5 (List.mem_of_getElem? (i := 176) (by decide +kernel))) rfl
theorem m_1209 : (Jvm.Cond.methodLink "QueryRunnerModel" (277 : Nat) ({ cls := "QueryRunnerModel", name := "putInGroup", desc := "()V" } : Jvm.MethodName)) ∈ BIG := bg_t (ti_5 (List.mem_of_getElem? (i := 177) (by decide +kernel))) rfl
theorem m_1211 : (Jvm.Cond.instanceMethod ({ cls := "QueryRunnerModel", name := "putInGroup", desc := "()V" } : Jvm.MethodName)) ∈ BIG := bg_t (ti_5 (List.mem_of_getElem? (i := 179) (by decide +kernel))) rfl
theorem m_1212 : (Jvm.Cond.code ({ cls := "QueryRunnerModel", name := "putInGroup", desc := "()V" } : Jvm.MethodName) prog_11_method_44_code (5 : Nat) (Option.none : Option Jvm.ClassFile.FieldType)) ∈ BIG := bg_t (ti_5 (List.mem_of_getElem? (i := 180) rfl)) rfl
theorem m_1213 : (Jvm.Cond.methodLink "QueryRunnerModel" (264 : Nat) ({ cls := "QueryRunnerModel", name := "findGroup", desc := "()I" } : Jvm.MethodName)) ∈ BIG := bg_t (ti_5 (List.mem_of_getElem? (i := 181) (by decide +kernel))) rfl
theorem m_1215 : (Jvm.Cond.instanceMethod ({ cls := "QueryRunnerModel", name := "findGroup", desc := "()I" } : Jvm.MethodName)) ∈ BIG := bg_t (ti_5 (List.mem_of_getElem? (i := 183) (by decide +kernel))) rfl
theorem m_1216 : (Jvm.Cond.code ({ cls := "QueryRunnerModel", name := "findGroup", desc := "()I" } : Jvm.MethodName) prog_11_method_43_code (6 : Nat) (Option.some Jvm.ClassFile.FieldType.int)) ∈ BIG := bg_t (ti_5 (List.mem_of_getElem? (i := 184) rfl)) rfl
theorem m_1217 : (Jvm.Cond.methodLink "QueryRunnerModel" (280 : Nat) ({ cls := "QueryRunnerModel", name := "giveRow", desc := "()V" } : Jvm.MethodName)) ∈ BIG := bg_t (ti_5 (List.mem_of_getElem? (i := 185) (by decide +kernel))) rfl
theorem m_1219 : (Jvm.Cond.instanceMethod ({ cls := "QueryRunnerModel", name := "giveRow", desc := "()V" } : Jvm.MethodName)) ∈ BIG := bg_t (ti_5 (List.mem_of_getElem? (i := 187) (by decide +kernel))) rfl
theorem m_1220 : (Jvm.Cond.code ({ cls := "QueryRunnerModel", name := "giveRow", desc := "()V" } : Jvm.MethodName) prog_11_method_45_code (2 : Nat) (Option.none : Option Jvm.ClassFile.FieldType)) ∈ BIG := bg_t (ti_5 (List.mem_of_getElem? (i := 188) rfl)) rfl
theorem m_1221 : (Jvm.Cond.methodLink "QueryRunnerModel" (286 : Nat) ({ cls := "QueryRunnerModel", name := "goes", desc := "(I)Z" } : Jvm.MethodName)) ∈ BIG := bg_t (ti_5 (List.mem_of_getElem? (i := 189) (by decide +kernel))) rfl
theorem m_1223 : (Jvm.Cond.instanceMethod ({ cls := "QueryRunnerModel", name := "goes", desc := "(I)Z" } : Jvm.MethodName)) ∈ BIG := bg_t (ti_5 (List.mem_of_getElem? (i := 191) (by decide +kernel))) rfl
theorem m_1224 : (Jvm.Cond.code ({ cls := "QueryRunnerModel", name := "goes", desc := "(I)Z" } : Jvm.MethodName) prog_11_method_47_code (2 : Nat) (Option.some Jvm.ClassFile.FieldType.boolean)) ∈ BIG := bg_t (ti_5 (List.mem_of_getElem? (i := 192) rfl)) rfl
theorem m_1225 : (Jvm.Cond.methodLink "QueryRunnerModel" (289 : Nat) ({ cls := "QueryRunnerModel", name := "goThird", desc := "()V" } : Jvm.MethodName)) ∈ BIG := bg_t (ti_5 (List.mem_of_getElem? (i := 193) (by decide +kernel))) rfl
theorem m_1227 : (Jvm.Cond.instanceMethod ({ cls := "QueryRunnerModel", name := "goThird", desc := "()V" } : Jvm.MethodName)) ∈ BIG := bg_t (ti_5 (List.mem_of_getElem? (i := 195) (by decide +kernel))) rfl
theorem m_1228 : (Jvm.Cond.code ({ cls := "QueryRunnerModel", name := "goThird", desc := "()V" } : Jvm.MethodName) prog_11_method_48_code (3 : Nat) (Option.none : Option Jvm.ClassFile.FieldType)) ∈ BIG := bg_t (ti_5 (List.mem_of_getElem? (i := 196) rfl)) rfl
theorem m_1229 : (Jvm.Cond.methodLink "QueryRunnerModel" (324 : Nat) ({ cls := "QueryRunnerModel", name := "goThroughGroups", desc := "()V" } : Jvm.MethodName)) ∈ BIG := bg_t (ti_5 (List.mem_of_getElem? (i := 197) (by decide +kernel))) rfl
theorem m_1231 : (Jvm.Cond.instanceMethod ({ cls := "QueryRunnerModel", name := "goThroughGroups", desc := "()V" } : Jvm.MethodName)) ∈ BIG := bg_t (ti_5 (List.mem_of_getElem? (i := 199) (by decide +kernel))) rfl
theorem m_1232 : (Jvm.Cond.code ({ cls := "QueryRunnerModel", name := "goThroughGroups", desc := "()V" } : Jvm.MethodName) prog_11_method_51_code (2 : Nat) (Option.none : Option Jvm.ClassFile.FieldType)) ∈ BIG := bg_t (ti_5 (List.mem_of_getElem? (i := 200) rfl)) rfl
theorem m_1233 : (Jvm.Cond.methodLink "QueryRunnerModel" (327 : Nat) ({ cls := "QueryRunnerModel", name := "leaveOut", desc := "()V" } : Jvm.MethodName)) ∈ BIG := bg_t (ti_5 (List.mem_of_getElem? (i := 201) (by decide +kernel))) rfl
theorem m_1235 : (Jvm.Cond.instanceMethod ({ cls := "QueryRunnerModel", name := "leaveOut", desc := "()V" } : Jvm.MethodName)) ∈ BIG := bg_t (ti_5 (List.mem_of_getElem? (i := 203) (by decide +kernel))) rfl
theorem m_1236 : (Jvm.Cond.code ({ cls := "QueryRunnerModel", name := "leaveOut", desc := "()V" } : Jvm.MethodName) prog_11_method_54_code (5 : Nat) (Option.none : Option Jvm.ClassFile.FieldType)) ∈ BIG := bg_t (ti_5 (List.mem_of_getElem? (i := 204) rfl)) rfl
theorem m_1237 : (Jvm.Cond.methodLink "QueryRunnerModel" (295 : Nat) ({ cls := "QueryRunnerModel", name := "isSameRow", desc := "(II)Z" } : Jvm.MethodName)) ∈ BIG := bg_t (ti_5 (List.mem_of_getElem? (i := 205) (by decide +kernel))) rfl
theorem m_1239 : (Jvm.Cond.instanceMethod ({ cls := "QueryRunnerModel", name := "isSameRow", desc := "(II)Z" } : Jvm.MethodName)) ∈ BIG := bg_t (ti_5 (List.mem_of_getElem? (i := 207) (by decide +kernel))) rfl
theorem m_1240 : (Jvm.Cond.code ({ cls := "QueryRunnerModel", name := "isSameRow", desc := "(II)Z" } : Jvm.MethodName) prog_11_method_53_code (6 : Nat) (Option.some Jvm.ClassFile.FieldType.boolean)) ∈ BIG := bg_t (ti_5 (List.mem_of_getElem? (i := 208) rfl)) rfl
theorem m_1241 : (Jvm.Cond.methodLink "QueryRunnerModel" (298 : Nat) ({ cls := "QueryRunnerModel", name := "moveRow", desc := "(II)V" } : Jvm.MethodName)) ∈ BIG := bg_t (ti_5 (List.mem_of_getElem? (i := 209) (by decide +kernel))) rfl
theorem m_1243 : (Jvm.Cond.instanceMethod ({ cls := "QueryRunnerModel", name := "moveRow", desc := "(II)V" } : Jvm.MethodName)) ∈ BIG := bg_t (ti_5 (List.mem_of_getElem? (i := 211) (by decide +kernel))) rfl
theorem m_1244 : (Jvm.Cond.code ({ cls := "QueryRunnerModel", name := "moveRow", desc := "(II)V" } : Jvm.MethodName) prog_11_method_52_code (4 : Nat) (Option.none : Option Jvm.ClassFile.FieldType)) ∈ BIG := bg_t (ti_5 (List.mem_of_getElem? (i := 212) rfl)) rfl
theorem m_1245 : (Jvm.Cond.methodLink "QueryRunnerModel" (330 : Nat) ({ cls := "QueryRunnerModel", name := "sort", desc := "()V" } : Jvm.MethodName)) ∈ BIG := bg_t (ti_5 (List.mem_of_getElem? (i := 213) (by decide +kernel))) rfl
theorem m_1247 : (Jvm.Cond.instanceMethod ({ cls := "QueryRunnerModel", name := "sort", desc := "()V" } : Jvm.MethodName)) ∈ BIG := bg_t (ti_5 (List.mem_of_getElem? (i := 215) (by decide +kernel))) rfl
theorem m_1248 : (Jvm.Cond.code ({ cls := "QueryRunnerModel", name := "sort", desc := "()V" } : Jvm.MethodName) prog_11_method_56_code (3 : Nat) (Option.none : Option Jvm.ClassFile.FieldType)) ∈ BIG := bg_t (ti_5 (List.mem_of_getElem? (i := 216) rfl)) rfl
theorem m_1249 : (Jvm.Cond.methodLink "QueryRunnerModel" (302 : Nat) ({ cls := "QueryRunnerModel", name := "isBefore", desc := "(II)Z" } : Jvm.MethodName)) ∈ BIG := bg_t (ti_5 (List.mem_of_getElem? (i := 217) (by decide +kernel))) rfl
theorem m_1251 : (Jvm.Cond.instanceMethod ({ cls := "QueryRunnerModel", name := "isBefore", desc := "(II)Z" } : Jvm.MethodName)) ∈ BIG := bg_t (ti_5 (List.mem_of_getElem? (i := 219) (by decide +kernel))) rfl
theorem m_1252 : (Jvm.Cond.code ({ cls := "QueryRunnerModel", name := "isBefore", desc := "(II)Z" } : Jvm.MethodName) prog_11_method_55_code (8 : Nat) (Option.some Jvm.ClassFile.FieldType.boolean)) ∈ BIG := bg_t (ti_5 (List.mem_of_getElem? (i := 220) rfl)) rfl
theorem m_1253 : (Jvm.Cond.methodLink "QueryRunnerModel" (333 : Nat) ({ cls := "QueryRunnerModel", name := "cut", desc := "()V" } : Jvm.MethodName)) ∈ BIG := bg_t (ti_5 (List.mem_of_getElem? (i := 221) (by decide +kernel))) rfl
theorem m_1255 : (Jvm.Cond.instanceMethod ({ cls := "QueryRunnerModel", name := "cut", desc := "()V" } : Jvm.MethodName)) ∈ BIG := bg_t (ti_5 (List.mem_of_getElem? (i := 223) (by decide +kernel))) rfl
theorem m_1256 : (Jvm.Cond.code ({ cls := "QueryRunnerModel", name := "cut", desc := "()V" } : Jvm.MethodName) prog_11_method_57_code (3 : Nat) (Option.none : Option Jvm.ClassFile.FieldType)) ∈ BIG := bg_t (ti_5 (List.mem_of_getElem? (i := 224) rfl)) rfl
theorem m_1257 : (Jvm.Cond.methodLink "QueryRunnerLaw" (84 : Nat) ({ cls := "QueryRunnerModel", name := "cell", desc := "(II)J" } : Jvm.MethodName)) ∈ BIG := bg_t (ti_5 (List.mem_of_getElem? (i := 225) (by decide +kernel))) rfl
theorem m_1258 : (Jvm.Cond.instanceMethod ({ cls := "QueryRunnerModel", name := "cell", desc := "(II)J" } : Jvm.MethodName)) ∈ BIG := bg_t (ti_5 (List.mem_of_getElem? (i := 226) (by decide +kernel))) rfl
theorem m_1259 : (Jvm.Cond.selects "QueryRunnerModel" ({ cls := "QueryRunnerModel", name := "cell", desc := "(II)J" } : Jvm.MethodName) ({ cls := "QueryRunnerModel", name := "cell", desc := "(II)J" } : Jvm.MethodName)) ∈ BIG := bg_t (ti_5 (List.mem_of_getElem? (i := 227) (by decide +kernel))) rfl
theorem m_1260 : (Jvm.Cond.code ({ cls := "QueryRunnerModel", name := "cell", desc := "(II)J" } : Jvm.MethodName) prog_11_method_60_code (3 : Nat) (Option.some Jvm.ClassFile.FieldType.long)) ∈ BIG := bg_t (ti_5 (List.mem_of_getElem? (i := 228) rfl)) rfl
theorem m_1261 : (Jvm.Cond.methodLink "QueryRunnerModel" (336 : Nat) ({ cls := "QueryRunnerModel", name := "isThere", desc := "(II)Z" } : Jvm.MethodName)) ∈ BIG := bg_t (ti_5 (List.mem_of_getElem? (i := 229) (by decide +kernel))) rfl
theorem m_1263 : (Jvm.Cond.instanceMethod ({ cls := "QueryRunnerModel", name := "isThere", desc := "(II)Z" } : Jvm.MethodName)) ∈ BIG := bg_t (ti_5 (List.mem_of_getElem? (i := 231) (by decide +kernel))) rfl
theorem m_1264 : (Jvm.Cond.code ({ cls := "QueryRunnerModel", name := "isThere", desc := "(II)Z" } : Jvm.MethodName) prog_11_method_59_code (3 : Nat) (Option.some Jvm.ClassFile.FieldType.boolean)) ∈ BIG := bg_t (ti_5 (List.mem_of_getElem? (i := 232) rfl)) rfl
theorem m_1265 : (Jvm.Cond.methodLink "QueryRunnerLaw" (89 : Nat) ({ cls := "QueryRunnerModel", name := "isNull", desc := "(II)Z" } : Jvm.MethodName)) ∈ BIG := bg_t (ti_5 (List.mem_of_getElem? (i := 233) (by decide +kernel))) rfl
theorem m_1266 : (Jvm.Cond.instanceMethod ({ cls := "QueryRunnerModel", name := "isNull", desc := "(II)Z" } : Jvm.MethodName)) ∈ BIG := bg_t (ti_5 (List.mem_of_getElem? (i := 234) (by decide +kernel))) rfl
theorem m_1267 : (Jvm.Cond.selects "QueryRunnerModel" ({ cls := "QueryRunnerModel", name := "isNull", desc := "(II)Z" } : Jvm.MethodName) ({ cls := "QueryRunnerModel", name := "isNull", desc := "(II)Z" } : Jvm.MethodName)) ∈ BIG := bg_t (ti_5 (List.mem_of_getElem? (i := 235) (by decide +kernel))) rfl
theorem m_1268 : (Jvm.Cond.code ({ cls := "QueryRunnerModel", name := "isNull", desc := "(II)Z" } : Jvm.MethodName) prog_11_method_61_code (3 : Nat) (Option.some Jvm.ClassFile.FieldType.boolean)) ∈ BIG := bg_t (ti_5 (List.mem_of_getElem? (i := 236) rfl)) rfl
theorem m_1269 : (Jvm.Cond.methodLink "QueryRunnerLaw" (93 : Nat) ({ cls := "QueryRunnerModel", name := "answer", desc := "(I)I" } : Jvm.MethodName)) ∈ BIG := bg_t (ti_5 (List.mem_of_getElem? (i := 237) (by decide +kernel))) rfl
theorem m_1270 : (Jvm.Cond.instanceMethod ({ cls := "QueryRunnerModel", name := "answer", desc := "(I)I" } : Jvm.MethodName)) ∈ BIG := bg_t (ti_5 (List.mem_of_getElem? (i := 238) (by decide +kernel))) rfl
theorem m_1271 : (Jvm.Cond.selects "QueryRunnerModel" ({ cls := "QueryRunnerModel", name := "answer", desc := "(I)I" } : Jvm.MethodName) ({ cls := "QueryRunnerModel", name := "answer", desc := "(I)I" } : Jvm.MethodName)) ∈ BIG := bg_t (ti_5 (List.mem_of_getElem? (i := 239) (by decide +kernel))) rfl
theorem m_1272 : (Jvm.Cond.code ({ cls := "QueryRunnerModel", name := "answer", desc := "(I)I" } : Jvm.MethodName) prog_11_method_62_code (2 : Nat) (Option.some Jvm.ClassFile.FieldType.int)) ∈ BIG := bg_t (ti_6 (List.mem_of_getElem? (i := 0) rfl)) rfl
theorem m_1273 : (Jvm.Cond.constantLong "QueryRunnerLaw" (18 : Nat) (4294967295 : Int64)) ∈ BIG := bg_t (ti_6 (List.mem_of_getElem? (i := 1) (by decide +kernel))) rfl
def nwX : List Cond := [Cond.methodLinkNest "QueryRunner$Runner" 142 ⟨"QueryRunner$Evaluator", "value", "(II)I"⟩ "QueryRunner", Cond.methodLinkNest "QueryRunner$Runner" 103 ⟨"QueryRunner$Evaluator", "truth", "(II)I"⟩ "QueryRunner", Cond.methodLinkNest "QueryRunner" 147 ⟨"QueryRunner$Runner", "joinFrom", "(I)I"⟩ "QueryRunner", Cond.methodLinkNest "QueryRunner" 9 ⟨"QueryRunner$Tables", "<init>", "()V"⟩ "QueryRunner", Cond.methodLinkNest "QueryRunner" 18 ⟨"QueryRunner$Expressions", "<init>", "()V"⟩ "QueryRunner", Cond.methodLinkNest "QueryRunner" 25 ⟨"QueryRunner$Query", "<init>", "()V"⟩ "QueryRunner", Cond.methodLinkNest "QueryRunner" 32 ⟨"QueryRunner$Answer", "<init>", "()V"⟩ "QueryRunner"]
theorem nwX_ok : nwX.all nwOK = true := by decide +kernel
def nwM : List Cond := []
theorem nwM_ok : nwM.all nwOK = true := by decide +kernel
