/-! our classes by number, their fields, as the printed listing has them -/
def jT0 : u_T := fun k => match k with
  | 0 => ("CountTreaty$Judge", "land", "I", false)
  | 1 => ("CountTreaty$Judge", "day", "I", false)
  | _ => ("CountTreaty$Judge", "over", "Z", false)
def jty0 : Nat → FieldType := fun k => match k with
  | 0 => .int
  | 1 => .int
  | _ => .boolean
def jT1 : u_T := fun k => match k with
  | 0 => ("CountTreaty$Knowing", "sets", "[J", true)
  | _ => ("CountTreaty$Knowing", "latest", "[I", true)
def jty1 : Nat → FieldType := fun k => match k with
  | 0 => .array .long
  | _ => .array .int
def jT2 : u_T := fun k => match k with
  | 0 => ("CountTreaty$Reader", "clauses", "LCountTreaty$Rows;", true)
  | 1 => ("CountTreaty$Reader", "codes", "LCountTreaty$Rows;", true)
  | 2 => ("CountTreaty$Reader", "hasRead", "Z", false)
  | 3 => ("CountTreaty$Reader", "fault", "I", false)
  | 4 => ("CountTreaty$Reader", "faultPlace", "I", false)
  | 5 => ("CountTreaty$Reader", "tokens", "LCountTreaty$Tokens;", true)
  | 6 => ("CountTreaty$Reader", "rows", "LCountTreaty$Rows;", true)
  | _ => ("CountTreaty$Reader", "next", "I", false)
def jty2 : Nat → FieldType := fun k => match k with
  | 0 => .object "CountTreaty$Rows"
  | 1 => .object "CountTreaty$Rows"
  | 2 => .boolean
  | 3 => .int
  | 4 => .int
  | 5 => .object "CountTreaty$Tokens"
  | 6 => .object "CountTreaty$Rows"
  | _ => .int
def jT3 : u_T := fun k => match k with
  | 0 => ("CountTreaty$Rows", "width", "I", true)
  | 1 => ("CountTreaty$Rows", "cells", "[I", true)
  | _ => ("CountTreaty$Rows", "count", "I", false)
def jty3 : Nat → FieldType := fun k => match k with
  | 0 => .int
  | 1 => .array .int
  | _ => .int
def jT4 : u_T := fun k => match k with
  | 0 => ("CountTreaty$Search", "closed", "[Z", true)
  | 1 => ("CountTreaty$Search", "eyes", "[Z", true)
  | 2 => ("CountTreaty$Search", "met", "I", false)
  | 3 => ("CountTreaty$Search", "thing", "I", false)
  | 4 => ("CountTreaty$Search", "site", "I", false)
  | _ => ("CountTreaty$Search", "day", "I", false)
def jty4 : Nat → FieldType := fun k => match k with
  | 0 => .array .boolean
  | 1 => .array .boolean
  | 2 => .int
  | 3 => .int
  | 4 => .int
  | _ => .int
def jT5 : u_T := fun k => match k with
  | 0 => ("CountTreaty$Shares", "chances", "[I", true)
  | 1 => ("CountTreaty$Shares", "weights", "[I", true)
  | 2 => ("CountTreaty$Shares", "size", "I", false)
  | 3 => ("CountTreaty$Shares", "visits", "I", false)
  | 4 => ("CountTreaty$Shares", "upper", "J", false)
  | _ => ("CountTreaty$Shares", "lower", "J", false)
def jty5 : Nat → FieldType := fun k => match k with
  | 0 => .array .int
  | 1 => .array .int
  | 2 => .int
  | 3 => .int
  | 4 => .long
  | _ => .long
def jT6 : u_T := fun k => match k with
  | 0 => ("CountTreaty$State", "clock", "I", false)
  | 1 => ("CountTreaty$State", "el", "I", false)
  | 2 => ("CountTreaty$State", "ew", "I", false)
  | 3 => ("CountTreaty$State", "seen", "I", false)
  | 4 => ("CountTreaty$State", "roads", "I", false)
  | 5 => ("CountTreaty$State", "sorts", "LCountTreaty$Rows;", true)
  | 6 => ("CountTreaty$State", "sites", "LCountTreaty$Rows;", true)
  | 7 => ("CountTreaty$State", "ways", "LCountTreaty$Rows;", true)
  | 8 => ("CountTreaty$State", "things", "LCountTreaty$Rows;", true)
  | 9 => ("CountTreaty$State", "moves", "LCountTreaty$Rows;", true)
  | 10 => ("CountTreaty$State", "seals", "LCountTreaty$Rows;", true)
  | 11 => ("CountTreaty$State", "treaty", "LCountTreaty$Treaty;", true)
  | 12 => ("CountTreaty$State", "tolds", "LCountTreaty$Rows;", true)
  | 13 => ("CountTreaty$State", "visits", "LCountTreaty$Rows;", true)
  | 14 => ("CountTreaty$State", "pictures", "LCountTreaty$Rows;", true)
  | 15 => ("CountTreaty$State", "questions", "LCountTreaty$Rows;", true)
  | 16 => ("CountTreaty$State", "acts", "LCountTreaty$Rows;", true)
  | 17 => ("CountTreaty$State", "clouds", "LCountTreaty$Rows;", true)
  | _ => ("CountTreaty$State", "watches", "LCountTreaty$Rows;", true)
def jty6 : Nat → FieldType := fun k => match k with
  | 0 => .int
  | 1 => .int
  | 2 => .int
  | 3 => .int
  | 4 => .int
  | 5 => .object "CountTreaty$Rows"
  | 6 => .object "CountTreaty$Rows"
  | 7 => .object "CountTreaty$Rows"
  | 8 => .object "CountTreaty$Rows"
  | 9 => .object "CountTreaty$Rows"
  | 10 => .object "CountTreaty$Rows"
  | 11 => .object "CountTreaty$Treaty"
  | 12 => .object "CountTreaty$Rows"
  | 13 => .object "CountTreaty$Rows"
  | 14 => .object "CountTreaty$Rows"
  | 15 => .object "CountTreaty$Rows"
  | 16 => .object "CountTreaty$Rows"
  | 17 => .object "CountTreaty$Rows"
  | _ => .object "CountTreaty$Rows"
def jT7 : u_T := fun k => match k with
  | 0 => ("CountTreaty$Tokens", "tape", "LCountTreaty$Rows;", true)
  | 1 => ("CountTreaty$Tokens", "rows", "LCountTreaty$Rows;", true)
  | _ => ("CountTreaty$Tokens", "next", "I", false)
def jty7 : Nat → FieldType := fun k => match k with
  | 0 => .object "CountTreaty$Rows"
  | 1 => .object "CountTreaty$Rows"
  | _ => .int
def jT8 : u_T := fun k => match k with
  | 0 => ("CountTreaty$Treaty", "texts", "LCountTreaty$Rows;", true)
  | 1 => ("CountTreaty$Treaty", "clauses", "LCountTreaty$Rows;", true)
  | 2 => ("CountTreaty$Treaty", "codes", "LCountTreaty$Rows;", true)
  | _ => ("CountTreaty$Treaty", "fields", "[I", true)
def jty8 : Nat → FieldType := fun k => match k with
  | 0 => .object "CountTreaty$Rows"
  | 1 => .object "CountTreaty$Rows"
  | 2 => .object "CountTreaty$Rows"
  | _ => .array .int
def jT9 : u_T := fun k => match k with
  | 0 => ("CountTreaty", "now", "LCountTreaty$State;", true)
  | 1 => ("CountTreaty", "kept", "LCountTreaty$State;", true)
  | 2 => ("CountTreaty", "reader", "LCountTreaty$Reader;", true)
  | 3 => ("CountTreaty", "knowing", "LCountTreaty$Knowing;", true)
  | 4 => ("CountTreaty", "judge", "LCountTreaty$Judge;", true)
  | 5 => ("CountTreaty", "shares", "LCountTreaty$Shares;", true)
  | _ => ("CountTreaty", "search", "LCountTreaty$Search;", true)
def jty9 : Nat → FieldType := fun k => match k with
  | 0 => .object "CountTreaty$State"
  | 1 => .object "CountTreaty$State"
  | 2 => .object "CountTreaty$Reader"
  | 3 => .object "CountTreaty$Knowing"
  | 4 => .object "CountTreaty$Judge"
  | 5 => .object "CountTreaty$Shares"
  | _ => .object "CountTreaty$Search"
def jcn : Nat → String
  | 0 => "CountTreaty$Judge"
  | 1 => "CountTreaty$Knowing"
  | 2 => "CountTreaty$Reader"
  | 3 => "CountTreaty$Rows"
  | 4 => "CountTreaty$Search"
  | 5 => "CountTreaty$Shares"
  | 6 => "CountTreaty$State"
  | 7 => "CountTreaty$Tokens"
  | 8 => "CountTreaty$Treaty"
  | 9 => "CountTreaty"
  | 10 => "CountTreatyLaw"
  | 11 => "java/lang/Integer"
  | _ => "java/lang/Math"
def jTf : Nat → u_T
  | 0 => jT0
  | 1 => jT1
  | 2 => jT2
  | 3 => jT3
  | 4 => jT4
  | 5 => jT5
  | 6 => jT6
  | 7 => jT7
  | 8 => jT8
  | _ => jT9
def jNf : Nat → Nat
  | 0 => 3
  | 1 => 2
  | 2 => 8
  | 3 => 3
  | 4 => 6
  | 5 => 6
  | 6 => 19
  | 7 => 3
  | 8 => 4
  | _ => 7
def jtyf : Nat → Nat → FieldType
  | 0 => jty0
  | 1 => jty1
  | 2 => jty2
  | 3 => jty3
  | 4 => jty4
  | 5 => jty5
  | 6 => jty6
  | 7 => jty7
  | 8 => jty8
  | _ => jty9
def jcl : List vw_C := (List.range 10).map fun i => (jcn i, jTf i, jNf i)
def jTbl : List Cond := lw_tbl.filter goodWord
theorem jmem {w : Cond} (i : Nat) (h : lw_tbl[i]? = some w) (hg : goodWord w = true) : w ∈ jTbl := List.mem_filter.mpr ⟨List.mem_of_getElem? h, hg⟩
theorem jmem2 {w : Cond} (h : w ∈ lw_tbl) (hg : goodWord w = true) : w ∈ jTbl := List.mem_filter.mpr ⟨h, hg⟩
theorem jgood {w : Cond} (h : w ∈ jTbl) : (w.onTables && w.keeps) = true ∨ ∃ ty, w = .arrayClass ty := good_of_word (List.mem_filter.mp h).2
theorem jcl_at {ci : Nat} (h : ci < 10) : jcl[ci]? = some (jcn ci, jTf ci, jNf ci) := by
  unfold jcl
  rw [List.getElem?_map, List.getElem?_range h]; rfl
theorem jws_ok0 : ∀ ci, ci < 10 → ∀ w ∈ u_ws (jcn ci) (jTf ci) (jNf ci), w ∈ lw_tbl := by decide +kernel
theorem jws_ok1 : ∀ ci, ci < 10 → ∀ w ∈ u_ws (jcn ci) (jTf ci) (jNf ci), goodWord w = true := by decide +kernel
theorem jws_ok {ci : Nat} (h : ci < 10) : ∀ w ∈ u_ws (jcn ci) (jTf ci) (jNf ci), w ∈ jTbl := fun w hw => jmem2 (jws_ok0 ci h w hw) (jws_ok1 ci h w hw)
theorem jty_ok : ∀ ci, ci < 10 → ∀ k, k < jNf ci → parseFieldDescriptor (jTf ci k).2.2.1 = some (jtyf ci k) := by decide +kernel
theorem jnm_ok : ∀ ci, ci < 10 → ∀ a, a < jNf ci → ∀ b, b < jNf ci → a ≠ b → (jTf ci a).2.1 ≠ (jTf ci b).2.1 := by decide +kernel
theorem jown_ok : ∀ ci, ci < 10 → ∀ k, k < jNf ci → (jTf ci k).1 = jcn ci := by decide +kernel
