/-! What the Statement gives at the law's start. -/
def FL : List Cond := flatC (Jvm.Cond.and given_1 narrow_1)
/-- the String constants as terms -/
def tmS (i : Nat) : Term := match i with
  | 0 => Jvm.Term.string "MappingTexts$TextReader" (176 : Nat)
  | 1 => Jvm.Term.string "MappingTexts$TextReader" (181 : Nat)
  | 2 => Jvm.Term.string "MappingTexts$Kinds" (7 : Nat)
  | 3 => Jvm.Term.string "MappingTexts$Kinds" (9 : Nat)
  | 4 => Jvm.Term.string "MappingTexts$Kinds" (11 : Nat)
  | 5 => Jvm.Term.string "MappingTexts$Kinds" (13 : Nat)
  | 6 => Jvm.Term.string "MappingTexts$Kinds" (15 : Nat)
  | 7 => Jvm.Term.string "MappingTexts$Kinds" (17 : Nat)
  | 8 => Jvm.Term.string "MappingTexts$Kinds" (19 : Nat)
  | 9 => Jvm.Term.string "MappingTexts$Kinds" (21 : Nat)
  | 10 => Jvm.Term.string "MappingTexts$Kinds" (23 : Nat)
  | 11 => Jvm.Term.string "MappingTexts$Kinds" (25 : Nat)
  | 12 => Jvm.Term.string "MappingTexts$Kinds" (27 : Nat)
  | 13 => Jvm.Term.string "MappingTexts$Kinds" (29 : Nat)
  | 14 => Jvm.Term.string "MappingTexts$Kinds" (31 : Nat)
  | 15 => Jvm.Term.string "MappingTexts$Kinds" (33 : Nat)
  | 16 => Jvm.Term.string "MappingTexts$Kinds" (35 : Nat)
  | 17 => Jvm.Term.string "MappingTexts$Version" (166 : Nat)
  | 18 => Jvm.Term.string "MappingTexts$Rule" (52 : Nat)
  | 19 => Jvm.Term.string "MappingTexts$Version" (157 : Nat)
  | _ => Jvm.Term.string "MappingTexts$TextReader" (176 : Nat)
set_option maxRecDepth 100000 in
theorem ps_ex {args : Array Value} {s : State} (hf : ∀ c ∈ FL, c.before args s = true) : ∀ i : Nat, i < 20 → (Cond.exactly (tmS i) "java/lang/String").before args s = true := by
  intro i hi
  match i, hi with
  | 0, _ => exact (hf (Jvm.Cond.exactly (Jvm.Term.string "MappingTexts$TextReader" (176 : Nat)) "java/lang/String") (List.mem_of_getElem? (i := 9) rfl))
  | 1, _ => exact (hf (Jvm.Cond.exactly (Jvm.Term.string "MappingTexts$TextReader" (181 : Nat)) "java/lang/String") (List.mem_of_getElem? (i := 17) rfl))
  | 2, _ => exact (hf (Jvm.Cond.exactly (Jvm.Term.string "MappingTexts$Kinds" (7 : Nat)) "java/lang/String") (List.mem_of_getElem? (i := 27) rfl))
  | 3, _ => exact (hf (Jvm.Cond.exactly (Jvm.Term.string "MappingTexts$Kinds" (9 : Nat)) "java/lang/String") (List.mem_of_getElem? (i := 37) rfl))
  | 4, _ => exact (hf (Jvm.Cond.exactly (Jvm.Term.string "MappingTexts$Kinds" (11 : Nat)) "java/lang/String") (List.mem_of_getElem? (i := 48) rfl))
  | 5, _ => exact (hf (Jvm.Cond.exactly (Jvm.Term.string "MappingTexts$Kinds" (13 : Nat)) "java/lang/String") (List.mem_of_getElem? (i := 60) rfl))
  | 6, _ => exact (hf (Jvm.Cond.exactly (Jvm.Term.string "MappingTexts$Kinds" (15 : Nat)) "java/lang/String") (List.mem_of_getElem? (i := 73) rfl))
  | 7, _ => exact (hf (Jvm.Cond.exactly (Jvm.Term.string "MappingTexts$Kinds" (17 : Nat)) "java/lang/String") (List.mem_of_getElem? (i := 87) rfl))
  | 8, _ => exact (hf (Jvm.Cond.exactly (Jvm.Term.string "MappingTexts$Kinds" (19 : Nat)) "java/lang/String") (List.mem_of_getElem? (i := 104) rfl))
  | 9, _ => exact (hf (Jvm.Cond.exactly (Jvm.Term.string "MappingTexts$Kinds" (21 : Nat)) "java/lang/String") (List.mem_of_getElem? (i := 122) rfl))
  | 10, _ => exact (hf (Jvm.Cond.exactly (Jvm.Term.string "MappingTexts$Kinds" (23 : Nat)) "java/lang/String") (List.mem_of_getElem? (i := 140) rfl))
  | 11, _ => exact (hf (Jvm.Cond.exactly (Jvm.Term.string "MappingTexts$Kinds" (25 : Nat)) "java/lang/String") (List.mem_of_getElem? (i := 160) rfl))
  | 12, _ => exact (hf (Jvm.Cond.exactly (Jvm.Term.string "MappingTexts$Kinds" (27 : Nat)) "java/lang/String") (List.mem_of_getElem? (i := 181) rfl))
  | 13, _ => exact (hf (Jvm.Cond.exactly (Jvm.Term.string "MappingTexts$Kinds" (29 : Nat)) "java/lang/String") (List.mem_of_getElem? (i := 202) rfl))
  | 14, _ => exact (hf (Jvm.Cond.exactly (Jvm.Term.string "MappingTexts$Kinds" (31 : Nat)) "java/lang/String") (List.mem_of_getElem? (i := 223) rfl))
  | 15, _ => exact (hf (Jvm.Cond.exactly (Jvm.Term.string "MappingTexts$Kinds" (33 : Nat)) "java/lang/String") (List.mem_of_getElem? (i := 245) rfl))
  | 16, _ => exact (hf (Jvm.Cond.exactly (Jvm.Term.string "MappingTexts$Kinds" (35 : Nat)) "java/lang/String") (List.mem_of_getElem? (i := 266) rfl))
  | 17, _ => exact (hf (Jvm.Cond.exactly (Jvm.Term.string "MappingTexts$Version" (166 : Nat)) "java/lang/String") (List.mem_of_getElem? (i := 340) rfl))
  | 18, _ => exact (hf (Jvm.Cond.exactly (Jvm.Term.string "MappingTexts$Rule" (52 : Nat)) "java/lang/String") (List.mem_of_getElem? (i := 365) rfl))
  | 19, _ => exact (hf (Jvm.Cond.exactly (Jvm.Term.string "MappingTexts$Version" (157 : Nat)) "java/lang/String") (List.mem_of_getElem? (i := 394) rfl))
  | _ + 20, h => omega
set_option maxRecDepth 100000 in
theorem ps_co {args : Array Value} {s : State} (hf : ∀ c ∈ FL, c.before args s = true) : ∀ i : Nat, i < 20 → (Cond.eq (.field (tmS i) "java/lang/String" "coder" "B") (.int 0)).before args s = true := by
  intro i hi
  match i, hi with
  | 0, _ => exact (hf (Jvm.Cond.eq (Jvm.Term.field (Jvm.Term.string "MappingTexts$TextReader" (176 : Nat)) "java/lang/String" "coder" "B") (Jvm.Term.int (0 : Int32))) (List.mem_of_getElem? (i := 10) rfl))
  | 1, _ => exact (hf (Jvm.Cond.eq (Jvm.Term.field (Jvm.Term.string "MappingTexts$TextReader" (181 : Nat)) "java/lang/String" "coder" "B") (Jvm.Term.int (0 : Int32))) (List.mem_of_getElem? (i := 18) rfl))
  | 2, _ => exact (hf (Jvm.Cond.eq (Jvm.Term.field (Jvm.Term.string "MappingTexts$Kinds" (7 : Nat)) "java/lang/String" "coder" "B") (Jvm.Term.int (0 : Int32))) (List.mem_of_getElem? (i := 28) rfl))
  | 3, _ => exact (hf (Jvm.Cond.eq (Jvm.Term.field (Jvm.Term.string "MappingTexts$Kinds" (9 : Nat)) "java/lang/String" "coder" "B") (Jvm.Term.int (0 : Int32))) (List.mem_of_getElem? (i := 38) rfl))
  | 4, _ => exact (hf (Jvm.Cond.eq (Jvm.Term.field (Jvm.Term.string "MappingTexts$Kinds" (11 : Nat)) "java/lang/String" "coder" "B") (Jvm.Term.int (0 : Int32))) (List.mem_of_getElem? (i := 49) rfl))
  | 5, _ => exact (hf (Jvm.Cond.eq (Jvm.Term.field (Jvm.Term.string "MappingTexts$Kinds" (13 : Nat)) "java/lang/String" "coder" "B") (Jvm.Term.int (0 : Int32))) (List.mem_of_getElem? (i := 61) rfl))
  | 6, _ => exact (hf (Jvm.Cond.eq (Jvm.Term.field (Jvm.Term.string "MappingTexts$Kinds" (15 : Nat)) "java/lang/String" "coder" "B") (Jvm.Term.int (0 : Int32))) (List.mem_of_getElem? (i := 74) rfl))
  | 7, _ => exact (hf (Jvm.Cond.eq (Jvm.Term.field (Jvm.Term.string "MappingTexts$Kinds" (17 : Nat)) "java/lang/String" "coder" "B") (Jvm.Term.int (0 : Int32))) (List.mem_of_getElem? (i := 88) rfl))
  | 8, _ => exact (hf (Jvm.Cond.eq (Jvm.Term.field (Jvm.Term.string "MappingTexts$Kinds" (19 : Nat)) "java/lang/String" "coder" "B") (Jvm.Term.int (0 : Int32))) (List.mem_of_getElem? (i := 105) rfl))
  | 9, _ => exact (hf (Jvm.Cond.eq (Jvm.Term.field (Jvm.Term.string "MappingTexts$Kinds" (21 : Nat)) "java/lang/String" "coder" "B") (Jvm.Term.int (0 : Int32))) (List.mem_of_getElem? (i := 123) rfl))
  | 10, _ => exact (hf (Jvm.Cond.eq (Jvm.Term.field (Jvm.Term.string "MappingTexts$Kinds" (23 : Nat)) "java/lang/String" "coder" "B") (Jvm.Term.int (0 : Int32))) (List.mem_of_getElem? (i := 141) rfl))
  | 11, _ => exact (hf (Jvm.Cond.eq (Jvm.Term.field (Jvm.Term.string "MappingTexts$Kinds" (25 : Nat)) "java/lang/String" "coder" "B") (Jvm.Term.int (0 : Int32))) (List.mem_of_getElem? (i := 161) rfl))
  | 12, _ => exact (hf (Jvm.Cond.eq (Jvm.Term.field (Jvm.Term.string "MappingTexts$Kinds" (27 : Nat)) "java/lang/String" "coder" "B") (Jvm.Term.int (0 : Int32))) (List.mem_of_getElem? (i := 182) rfl))
  | 13, _ => exact (hf (Jvm.Cond.eq (Jvm.Term.field (Jvm.Term.string "MappingTexts$Kinds" (29 : Nat)) "java/lang/String" "coder" "B") (Jvm.Term.int (0 : Int32))) (List.mem_of_getElem? (i := 203) rfl))
  | 14, _ => exact (hf (Jvm.Cond.eq (Jvm.Term.field (Jvm.Term.string "MappingTexts$Kinds" (31 : Nat)) "java/lang/String" "coder" "B") (Jvm.Term.int (0 : Int32))) (List.mem_of_getElem? (i := 224) rfl))
  | 15, _ => exact (hf (Jvm.Cond.eq (Jvm.Term.field (Jvm.Term.string "MappingTexts$Kinds" (33 : Nat)) "java/lang/String" "coder" "B") (Jvm.Term.int (0 : Int32))) (List.mem_of_getElem? (i := 246) rfl))
  | 16, _ => exact (hf (Jvm.Cond.eq (Jvm.Term.field (Jvm.Term.string "MappingTexts$Kinds" (35 : Nat)) "java/lang/String" "coder" "B") (Jvm.Term.int (0 : Int32))) (List.mem_of_getElem? (i := 267) rfl))
  | 17, _ => exact (hf (Jvm.Cond.eq (Jvm.Term.field (Jvm.Term.string "MappingTexts$Version" (166 : Nat)) "java/lang/String" "coder" "B") (Jvm.Term.int (0 : Int32))) (List.mem_of_getElem? (i := 341) rfl))
  | 18, _ => exact (hf (Jvm.Cond.eq (Jvm.Term.field (Jvm.Term.string "MappingTexts$Rule" (52 : Nat)) "java/lang/String" "coder" "B") (Jvm.Term.int (0 : Int32))) (List.mem_of_getElem? (i := 366) rfl))
  | 19, _ => exact (hf (Jvm.Cond.eq (Jvm.Term.field (Jvm.Term.string "MappingTexts$Version" (157 : Nat)) "java/lang/String" "coder" "B") (Jvm.Term.int (0 : Int32))) (List.mem_of_getElem? (i := 395) rfl))
  | _ + 20, h => omega
set_option maxRecDepth 100000 in
theorem ps_ar {args : Array Value} {s : State} (hf : ∀ c ∈ FL, c.before args s = true) : ∀ i : Nat, i < 20 → (Cond.arrayOf (.field (tmS i) "java/lang/String" "value" "[B") .byte).before args s = true := by
  intro i hi
  match i, hi with
  | 0, _ => exact (hf (Jvm.Cond.arrayOf (Jvm.Term.field (Jvm.Term.string "MappingTexts$TextReader" (176 : Nat)) "java/lang/String" "value" "[B") Jvm.ClassFile.FieldType.byte) (List.mem_of_getElem? (i := 11) rfl))
  | 1, _ => exact (hf (Jvm.Cond.arrayOf (Jvm.Term.field (Jvm.Term.string "MappingTexts$TextReader" (181 : Nat)) "java/lang/String" "value" "[B") Jvm.ClassFile.FieldType.byte) (List.mem_of_getElem? (i := 19) rfl))
  | 2, _ => exact (hf (Jvm.Cond.arrayOf (Jvm.Term.field (Jvm.Term.string "MappingTexts$Kinds" (7 : Nat)) "java/lang/String" "value" "[B") Jvm.ClassFile.FieldType.byte) (List.mem_of_getElem? (i := 29) rfl))
  | 3, _ => exact (hf (Jvm.Cond.arrayOf (Jvm.Term.field (Jvm.Term.string "MappingTexts$Kinds" (9 : Nat)) "java/lang/String" "value" "[B") Jvm.ClassFile.FieldType.byte) (List.mem_of_getElem? (i := 39) rfl))
  | 4, _ => exact (hf (Jvm.Cond.arrayOf (Jvm.Term.field (Jvm.Term.string "MappingTexts$Kinds" (11 : Nat)) "java/lang/String" "value" "[B") Jvm.ClassFile.FieldType.byte) (List.mem_of_getElem? (i := 50) rfl))
  | 5, _ => exact (hf (Jvm.Cond.arrayOf (Jvm.Term.field (Jvm.Term.string "MappingTexts$Kinds" (13 : Nat)) "java/lang/String" "value" "[B") Jvm.ClassFile.FieldType.byte) (List.mem_of_getElem? (i := 62) rfl))
  | 6, _ => exact (hf (Jvm.Cond.arrayOf (Jvm.Term.field (Jvm.Term.string "MappingTexts$Kinds" (15 : Nat)) "java/lang/String" "value" "[B") Jvm.ClassFile.FieldType.byte) (List.mem_of_getElem? (i := 75) rfl))
  | 7, _ => exact (hf (Jvm.Cond.arrayOf (Jvm.Term.field (Jvm.Term.string "MappingTexts$Kinds" (17 : Nat)) "java/lang/String" "value" "[B") Jvm.ClassFile.FieldType.byte) (List.mem_of_getElem? (i := 89) rfl))
  | 8, _ => exact (hf (Jvm.Cond.arrayOf (Jvm.Term.field (Jvm.Term.string "MappingTexts$Kinds" (19 : Nat)) "java/lang/String" "value" "[B") Jvm.ClassFile.FieldType.byte) (List.mem_of_getElem? (i := 106) rfl))
  | 9, _ => exact (hf (Jvm.Cond.arrayOf (Jvm.Term.field (Jvm.Term.string "MappingTexts$Kinds" (21 : Nat)) "java/lang/String" "value" "[B") Jvm.ClassFile.FieldType.byte) (List.mem_of_getElem? (i := 124) rfl))
  | 10, _ => exact (hf (Jvm.Cond.arrayOf (Jvm.Term.field (Jvm.Term.string "MappingTexts$Kinds" (23 : Nat)) "java/lang/String" "value" "[B") Jvm.ClassFile.FieldType.byte) (List.mem_of_getElem? (i := 142) rfl))
  | 11, _ => exact (hf (Jvm.Cond.arrayOf (Jvm.Term.field (Jvm.Term.string "MappingTexts$Kinds" (25 : Nat)) "java/lang/String" "value" "[B") Jvm.ClassFile.FieldType.byte) (List.mem_of_getElem? (i := 162) rfl))
  | 12, _ => exact (hf (Jvm.Cond.arrayOf (Jvm.Term.field (Jvm.Term.string "MappingTexts$Kinds" (27 : Nat)) "java/lang/String" "value" "[B") Jvm.ClassFile.FieldType.byte) (List.mem_of_getElem? (i := 183) rfl))
  | 13, _ => exact (hf (Jvm.Cond.arrayOf (Jvm.Term.field (Jvm.Term.string "MappingTexts$Kinds" (29 : Nat)) "java/lang/String" "value" "[B") Jvm.ClassFile.FieldType.byte) (List.mem_of_getElem? (i := 204) rfl))
  | 14, _ => exact (hf (Jvm.Cond.arrayOf (Jvm.Term.field (Jvm.Term.string "MappingTexts$Kinds" (31 : Nat)) "java/lang/String" "value" "[B") Jvm.ClassFile.FieldType.byte) (List.mem_of_getElem? (i := 225) rfl))
  | 15, _ => exact (hf (Jvm.Cond.arrayOf (Jvm.Term.field (Jvm.Term.string "MappingTexts$Kinds" (33 : Nat)) "java/lang/String" "value" "[B") Jvm.ClassFile.FieldType.byte) (List.mem_of_getElem? (i := 247) rfl))
  | 16, _ => exact (hf (Jvm.Cond.arrayOf (Jvm.Term.field (Jvm.Term.string "MappingTexts$Kinds" (35 : Nat)) "java/lang/String" "value" "[B") Jvm.ClassFile.FieldType.byte) (List.mem_of_getElem? (i := 268) rfl))
  | 17, _ => exact (hf (Jvm.Cond.arrayOf (Jvm.Term.field (Jvm.Term.string "MappingTexts$Version" (166 : Nat)) "java/lang/String" "value" "[B") Jvm.ClassFile.FieldType.byte) (List.mem_of_getElem? (i := 342) rfl))
  | 18, _ => exact (hf (Jvm.Cond.arrayOf (Jvm.Term.field (Jvm.Term.string "MappingTexts$Rule" (52 : Nat)) "java/lang/String" "value" "[B") Jvm.ClassFile.FieldType.byte) (List.mem_of_getElem? (i := 367) rfl))
  | 19, _ => exact (hf (Jvm.Cond.arrayOf (Jvm.Term.field (Jvm.Term.string "MappingTexts$Version" (157 : Nat)) "java/lang/String" "value" "[B") Jvm.ClassFile.FieldType.byte) (List.mem_of_getElem? (i := 396) rfl))
  | _ + 20, h => omega
set_option maxRecDepth 100000 in
theorem ps_le {args : Array Value} {s : State} (hf : ∀ c ∈ FL, c.before args s = true) : ∀ i : Nat, i < 20 → (Cond.eq (.length (.field (tmS i) "java/lang/String" "value" "[B")) (.int (Int32.ofNat (lenSt.getD i 0)))).before args s = true := by
  intro i hi
  match i, hi with
  | 0, _ => exact (hf (Jvm.Cond.eq (Jvm.Term.length (Jvm.Term.field (Jvm.Term.string "MappingTexts$TextReader" (176 : Nat)) "java/lang/String" "value" "[B")) (Jvm.Term.int (4 : Int32))) (List.mem_of_getElem? (i := 12) rfl))
  | 1, _ => exact (hf (Jvm.Cond.eq (Jvm.Term.length (Jvm.Term.field (Jvm.Term.string "MappingTexts$TextReader" (181 : Nat)) "java/lang/String" "value" "[B")) (Jvm.Term.int (5 : Int32))) (List.mem_of_getElem? (i := 20) rfl))
  | 2, _ => exact (hf (Jvm.Cond.eq (Jvm.Term.length (Jvm.Term.field (Jvm.Term.string "MappingTexts$Kinds" (7 : Nat)) "java/lang/String" "value" "[B")) (Jvm.Term.int (4 : Int32))) (List.mem_of_getElem? (i := 30) rfl))
  | 3, _ => exact (hf (Jvm.Cond.eq (Jvm.Term.length (Jvm.Term.field (Jvm.Term.string "MappingTexts$Kinds" (9 : Nat)) "java/lang/String" "value" "[B")) (Jvm.Term.int (4 : Int32))) (List.mem_of_getElem? (i := 40) rfl))
  | 4, _ => exact (hf (Jvm.Cond.eq (Jvm.Term.length (Jvm.Term.field (Jvm.Term.string "MappingTexts$Kinds" (11 : Nat)) "java/lang/String" "value" "[B")) (Jvm.Term.int (4 : Int32))) (List.mem_of_getElem? (i := 51) rfl))
  | 5, _ => exact (hf (Jvm.Cond.eq (Jvm.Term.length (Jvm.Term.field (Jvm.Term.string "MappingTexts$Kinds" (13 : Nat)) "java/lang/String" "value" "[B")) (Jvm.Term.int (4 : Int32))) (List.mem_of_getElem? (i := 63) rfl))
  | 6, _ => exact (hf (Jvm.Cond.eq (Jvm.Term.length (Jvm.Term.field (Jvm.Term.string "MappingTexts$Kinds" (15 : Nat)) "java/lang/String" "value" "[B")) (Jvm.Term.int (4 : Int32))) (List.mem_of_getElem? (i := 76) rfl))
  | 7, _ => exact (hf (Jvm.Cond.eq (Jvm.Term.length (Jvm.Term.field (Jvm.Term.string "MappingTexts$Kinds" (17 : Nat)) "java/lang/String" "value" "[B")) (Jvm.Term.int (6 : Int32))) (List.mem_of_getElem? (i := 90) rfl))
  | 8, _ => exact (hf (Jvm.Cond.eq (Jvm.Term.length (Jvm.Term.field (Jvm.Term.string "MappingTexts$Kinds" (19 : Nat)) "java/lang/String" "value" "[B")) (Jvm.Term.int (6 : Int32))) (List.mem_of_getElem? (i := 107) rfl))
  | 9, _ => exact (hf (Jvm.Cond.eq (Jvm.Term.length (Jvm.Term.field (Jvm.Term.string "MappingTexts$Kinds" (21 : Nat)) "java/lang/String" "value" "[B")) (Jvm.Term.int (5 : Int32))) (List.mem_of_getElem? (i := 125) rfl))
  | 10, _ => exact (hf (Jvm.Cond.eq (Jvm.Term.length (Jvm.Term.field (Jvm.Term.string "MappingTexts$Kinds" (23 : Nat)) "java/lang/String" "value" "[B")) (Jvm.Term.int (6 : Int32))) (List.mem_of_getElem? (i := 143) rfl))
  | 11, _ => exact (hf (Jvm.Cond.eq (Jvm.Term.length (Jvm.Term.field (Jvm.Term.string "MappingTexts$Kinds" (25 : Nat)) "java/lang/String" "value" "[B")) (Jvm.Term.int (6 : Int32))) (List.mem_of_getElem? (i := 163) rfl))
  | 12, _ => exact (hf (Jvm.Cond.eq (Jvm.Term.length (Jvm.Term.field (Jvm.Term.string "MappingTexts$Kinds" (27 : Nat)) "java/lang/String" "value" "[B")) (Jvm.Term.int (5 : Int32))) (List.mem_of_getElem? (i := 184) rfl))
  | 13, _ => exact (hf (Jvm.Cond.eq (Jvm.Term.length (Jvm.Term.field (Jvm.Term.string "MappingTexts$Kinds" (29 : Nat)) "java/lang/String" "value" "[B")) (Jvm.Term.int (4 : Int32))) (List.mem_of_getElem? (i := 205) rfl))
  | 14, _ => exact (hf (Jvm.Cond.eq (Jvm.Term.length (Jvm.Term.field (Jvm.Term.string "MappingTexts$Kinds" (31 : Nat)) "java/lang/String" "value" "[B")) (Jvm.Term.int (4 : Int32))) (List.mem_of_getElem? (i := 226) rfl))
  | 15, _ => exact (hf (Jvm.Cond.eq (Jvm.Term.length (Jvm.Term.field (Jvm.Term.string "MappingTexts$Kinds" (33 : Nat)) "java/lang/String" "value" "[B")) (Jvm.Term.int (2 : Int32))) (List.mem_of_getElem? (i := 248) rfl))
  | 16, _ => exact (hf (Jvm.Cond.eq (Jvm.Term.length (Jvm.Term.field (Jvm.Term.string "MappingTexts$Kinds" (35 : Nat)) "java/lang/String" "value" "[B")) (Jvm.Term.int (2 : Int32))) (List.mem_of_getElem? (i := 269) rfl))
  | 17, _ => exact (hf (Jvm.Cond.eq (Jvm.Term.length (Jvm.Term.field (Jvm.Term.string "MappingTexts$Version" (166 : Nat)) "java/lang/String" "value" "[B")) (Jvm.Term.int (2 : Int32))) (List.mem_of_getElem? (i := 343) rfl))
  | 18, _ => exact (hf (Jvm.Cond.eq (Jvm.Term.length (Jvm.Term.field (Jvm.Term.string "MappingTexts$Rule" (52 : Nat)) "java/lang/String" "value" "[B")) (Jvm.Term.int (5 : Int32))) (List.mem_of_getElem? (i := 368) rfl))
  | 19, _ => exact (hf (Jvm.Cond.eq (Jvm.Term.length (Jvm.Term.field (Jvm.Term.string "MappingTexts$Version" (157 : Nat)) "java/lang/String" "value" "[B")) (Jvm.Term.int (6 : Int32))) (List.mem_of_getElem? (i := 397) rfl))
  | _ + 20, h => omega
set_option maxRecDepth 100000 in
theorem ps_el {args : Array Value} {s : State} (hf : ∀ c ∈ FL, c.before args s = true) : ∀ i : Nat, i < 20 → ∀ j : Nat, j < lenSt.getD i 0 → (Cond.eq (.elem (.field (tmS i) "java/lang/String" "value" "[B") (.int (Int32.ofNat j))) (.int ((stTxt.getD i []).getD j 0))).before args s = true := by
  intro i hi
  match i, hi with
  | 0, _ =>
    intro j hj
    match j, hj with
    | 0, _ => exact (hf (Jvm.Cond.eq (Jvm.Term.elem (Jvm.Term.field (Jvm.Term.string "MappingTexts$TextReader" (176 : Nat)) "java/lang/String" "value" "[B") (Jvm.Term.int (0 : Int32))) (Jvm.Term.int (114 : Int32))) (List.mem_of_getElem? (i := 13) rfl))
    | 1, _ => exact (hf (Jvm.Cond.eq (Jvm.Term.elem (Jvm.Term.field (Jvm.Term.string "MappingTexts$TextReader" (176 : Nat)) "java/lang/String" "value" "[B") (Jvm.Term.int (1 : Int32))) (Jvm.Term.int (117 : Int32))) (List.mem_of_getElem? (i := 14) rfl))
    | 2, _ => exact (hf (Jvm.Cond.eq (Jvm.Term.elem (Jvm.Term.field (Jvm.Term.string "MappingTexts$TextReader" (176 : Nat)) "java/lang/String" "value" "[B") (Jvm.Term.int (2 : Int32))) (Jvm.Term.int (108 : Int32))) (List.mem_of_getElem? (i := 15) rfl))
    | 3, _ => exact (hf (Jvm.Cond.eq (Jvm.Term.elem (Jvm.Term.field (Jvm.Term.string "MappingTexts$TextReader" (176 : Nat)) "java/lang/String" "value" "[B") (Jvm.Term.int (3 : Int32))) (Jvm.Term.int (101 : Int32))) (List.mem_of_getElem? (i := 16) rfl))
    | n + 4, h => exact absurd h (by show ¬ n + 4 < 4; omega)
  | 1, _ =>
    intro j hj
    match j, hj with
    | 0, _ => exact (hf (Jvm.Cond.eq (Jvm.Term.elem (Jvm.Term.field (Jvm.Term.string "MappingTexts$TextReader" (181 : Nat)) "java/lang/String" "value" "[B") (Jvm.Term.int (0 : Int32))) (Jvm.Term.int (108 : Int32))) (List.mem_of_getElem? (i := 21) rfl))
    | 1, _ => exact (hf (Jvm.Cond.eq (Jvm.Term.elem (Jvm.Term.field (Jvm.Term.string "MappingTexts$TextReader" (181 : Nat)) "java/lang/String" "value" "[B") (Jvm.Term.int (1 : Int32))) (Jvm.Term.int (105 : Int32))) (List.mem_of_getElem? (i := 22) rfl))
    | 2, _ => exact (hf (Jvm.Cond.eq (Jvm.Term.elem (Jvm.Term.field (Jvm.Term.string "MappingTexts$TextReader" (181 : Nat)) "java/lang/String" "value" "[B") (Jvm.Term.int (2 : Int32))) (Jvm.Term.int (109 : Int32))) (List.mem_of_getElem? (i := 23) rfl))
    | 3, _ => exact (hf (Jvm.Cond.eq (Jvm.Term.elem (Jvm.Term.field (Jvm.Term.string "MappingTexts$TextReader" (181 : Nat)) "java/lang/String" "value" "[B") (Jvm.Term.int (3 : Int32))) (Jvm.Term.int (105 : Int32))) (List.mem_of_getElem? (i := 24) rfl))
    | 4, _ => exact (hf (Jvm.Cond.eq (Jvm.Term.elem (Jvm.Term.field (Jvm.Term.string "MappingTexts$TextReader" (181 : Nat)) "java/lang/String" "value" "[B") (Jvm.Term.int (4 : Int32))) (Jvm.Term.int (116 : Int32))) (List.mem_of_getElem? (i := 25) rfl))
    | n + 5, h => exact absurd h (by show ¬ n + 5 < 5; omega)
  | 2, _ =>
    intro j hj
    match j, hj with
    | 0, _ => exact (hf (Jvm.Cond.eq (Jvm.Term.elem (Jvm.Term.field (Jvm.Term.string "MappingTexts$Kinds" (7 : Nat)) "java/lang/String" "value" "[B") (Jvm.Term.int (0 : Int32))) (Jvm.Term.int (119 : Int32))) (List.mem_of_getElem? (i := 31) rfl))
    | 1, _ => exact (hf (Jvm.Cond.eq (Jvm.Term.elem (Jvm.Term.field (Jvm.Term.string "MappingTexts$Kinds" (7 : Nat)) "java/lang/String" "value" "[B") (Jvm.Term.int (1 : Int32))) (Jvm.Term.int (111 : Int32))) (List.mem_of_getElem? (i := 32) rfl))
    | 2, _ => exact (hf (Jvm.Cond.eq (Jvm.Term.elem (Jvm.Term.field (Jvm.Term.string "MappingTexts$Kinds" (7 : Nat)) "java/lang/String" "value" "[B") (Jvm.Term.int (2 : Int32))) (Jvm.Term.int (114 : Int32))) (List.mem_of_getElem? (i := 33) rfl))
    | 3, _ => exact (hf (Jvm.Cond.eq (Jvm.Term.elem (Jvm.Term.field (Jvm.Term.string "MappingTexts$Kinds" (7 : Nat)) "java/lang/String" "value" "[B") (Jvm.Term.int (3 : Int32))) (Jvm.Term.int (100 : Int32))) (List.mem_of_getElem? (i := 34) rfl))
    | n + 4, h => exact absurd h (by show ¬ n + 4 < 4; omega)
  | 3, _ =>
    intro j hj
    match j, hj with
    | 0, _ => exact (hf (Jvm.Cond.eq (Jvm.Term.elem (Jvm.Term.field (Jvm.Term.string "MappingTexts$Kinds" (9 : Nat)) "java/lang/String" "value" "[B") (Jvm.Term.int (0 : Int32))) (Jvm.Term.int (116 : Int32))) (List.mem_of_getElem? (i := 41) rfl))
    | 1, _ => exact (hf (Jvm.Cond.eq (Jvm.Term.elem (Jvm.Term.field (Jvm.Term.string "MappingTexts$Kinds" (9 : Nat)) "java/lang/String" "value" "[B") (Jvm.Term.int (1 : Int32))) (Jvm.Term.int (101 : Int32))) (List.mem_of_getElem? (i := 42) rfl))
    | 2, _ => exact (hf (Jvm.Cond.eq (Jvm.Term.elem (Jvm.Term.field (Jvm.Term.string "MappingTexts$Kinds" (9 : Nat)) "java/lang/String" "value" "[B") (Jvm.Term.int (2 : Int32))) (Jvm.Term.int (120 : Int32))) (List.mem_of_getElem? (i := 43) rfl))
    | 3, _ => exact (hf (Jvm.Cond.eq (Jvm.Term.elem (Jvm.Term.field (Jvm.Term.string "MappingTexts$Kinds" (9 : Nat)) "java/lang/String" "value" "[B") (Jvm.Term.int (3 : Int32))) (Jvm.Term.int (116 : Int32))) (List.mem_of_getElem? (i := 44) rfl))
    | n + 4, h => exact absurd h (by show ¬ n + 4 < 4; omega)
  | 4, _ =>
    intro j hj
    match j, hj with
    | 0, _ => exact (hf (Jvm.Cond.eq (Jvm.Term.elem (Jvm.Term.field (Jvm.Term.string "MappingTexts$Kinds" (11 : Nat)) "java/lang/String" "value" "[B") (Jvm.Term.int (0 : Int32))) (Jvm.Term.int (108 : Int32))) (List.mem_of_getElem? (i := 52) rfl))
    | 1, _ => exact (hf (Jvm.Cond.eq (Jvm.Term.elem (Jvm.Term.field (Jvm.Term.string "MappingTexts$Kinds" (11 : Nat)) "java/lang/String" "value" "[B") (Jvm.Term.int (1 : Int32))) (Jvm.Term.int (111 : Int32))) (List.mem_of_getElem? (i := 53) rfl))
    | 2, _ => exact (hf (Jvm.Cond.eq (Jvm.Term.elem (Jvm.Term.field (Jvm.Term.string "MappingTexts$Kinds" (11 : Nat)) "java/lang/String" "value" "[B") (Jvm.Term.int (2 : Int32))) (Jvm.Term.int (110 : Int32))) (List.mem_of_getElem? (i := 54) rfl))
    | 3, _ => exact (hf (Jvm.Cond.eq (Jvm.Term.elem (Jvm.Term.field (Jvm.Term.string "MappingTexts$Kinds" (11 : Nat)) "java/lang/String" "value" "[B") (Jvm.Term.int (3 : Int32))) (Jvm.Term.int (103 : Int32))) (List.mem_of_getElem? (i := 55) rfl))
    | n + 4, h => exact absurd h (by show ¬ n + 4 < 4; omega)
  | 5, _ =>
    intro j hj
    match j, hj with
    | 0, _ => exact (hf (Jvm.Cond.eq (Jvm.Term.elem (Jvm.Term.field (Jvm.Term.string "MappingTexts$Kinds" (13 : Nat)) "java/lang/String" "value" "[B") (Jvm.Term.int (0 : Int32))) (Jvm.Term.int (100 : Int32))) (List.mem_of_getElem? (i := 64) rfl))
    | 1, _ => exact (hf (Jvm.Cond.eq (Jvm.Term.elem (Jvm.Term.field (Jvm.Term.string "MappingTexts$Kinds" (13 : Nat)) "java/lang/String" "value" "[B") (Jvm.Term.int (1 : Int32))) (Jvm.Term.int (97 : Int32))) (List.mem_of_getElem? (i := 65) rfl))
    | 2, _ => exact (hf (Jvm.Cond.eq (Jvm.Term.elem (Jvm.Term.field (Jvm.Term.string "MappingTexts$Kinds" (13 : Nat)) "java/lang/String" "value" "[B") (Jvm.Term.int (2 : Int32))) (Jvm.Term.int (116 : Int32))) (List.mem_of_getElem? (i := 66) rfl))
    | 3, _ => exact (hf (Jvm.Cond.eq (Jvm.Term.elem (Jvm.Term.field (Jvm.Term.string "MappingTexts$Kinds" (13 : Nat)) "java/lang/String" "value" "[B") (Jvm.Term.int (3 : Int32))) (Jvm.Term.int (101 : Int32))) (List.mem_of_getElem? (i := 67) rfl))
    | n + 4, h => exact absurd h (by show ¬ n + 4 < 4; omega)
  | 6, _ =>
    intro j hj
    match j, hj with
    | 0, _ => exact (hf (Jvm.Cond.eq (Jvm.Term.elem (Jvm.Term.field (Jvm.Term.string "MappingTexts$Kinds" (15 : Nat)) "java/lang/String" "value" "[B") (Jvm.Term.int (0 : Int32))) (Jvm.Term.int (98 : Int32))) (List.mem_of_getElem? (i := 77) rfl))
    | 1, _ => exact (hf (Jvm.Cond.eq (Jvm.Term.elem (Jvm.Term.field (Jvm.Term.string "MappingTexts$Kinds" (15 : Nat)) "java/lang/String" "value" "[B") (Jvm.Term.int (1 : Int32))) (Jvm.Term.int (111 : Int32))) (List.mem_of_getElem? (i := 78) rfl))
    | 2, _ => exact (hf (Jvm.Cond.eq (Jvm.Term.elem (Jvm.Term.field (Jvm.Term.string "MappingTexts$Kinds" (15 : Nat)) "java/lang/String" "value" "[B") (Jvm.Term.int (2 : Int32))) (Jvm.Term.int (111 : Int32))) (List.mem_of_getElem? (i := 79) rfl))
    | 3, _ => exact (hf (Jvm.Cond.eq (Jvm.Term.elem (Jvm.Term.field (Jvm.Term.string "MappingTexts$Kinds" (15 : Nat)) "java/lang/String" "value" "[B") (Jvm.Term.int (3 : Int32))) (Jvm.Term.int (108 : Int32))) (List.mem_of_getElem? (i := 80) rfl))
    | n + 4, h => exact absurd h (by show ¬ n + 4 < 4; omega)
  | 7, _ =>
    intro j hj
    match j, hj with
    | 0, _ => exact (hf (Jvm.Cond.eq (Jvm.Term.elem (Jvm.Term.field (Jvm.Term.string "MappingTexts$Kinds" (17 : Nat)) "java/lang/String" "value" "[B") (Jvm.Term.int (0 : Int32))) (Jvm.Term.int (111 : Int32))) (List.mem_of_getElem? (i := 91) rfl))
    | 1, _ => exact (hf (Jvm.Cond.eq (Jvm.Term.elem (Jvm.Term.field (Jvm.Term.string "MappingTexts$Kinds" (17 : Nat)) "java/lang/String" "value" "[B") (Jvm.Term.int (1 : Int32))) (Jvm.Term.int (98 : Int32))) (List.mem_of_getElem? (i := 92) rfl))
    | 2, _ => exact (hf (Jvm.Cond.eq (Jvm.Term.elem (Jvm.Term.field (Jvm.Term.string "MappingTexts$Kinds" (17 : Nat)) "java/lang/String" "value" "[B") (Jvm.Term.int (2 : Int32))) (Jvm.Term.int (106 : Int32))) (List.mem_of_getElem? (i := 93) rfl))
    | 3, _ => exact (hf (Jvm.Cond.eq (Jvm.Term.elem (Jvm.Term.field (Jvm.Term.string "MappingTexts$Kinds" (17 : Nat)) "java/lang/String" "value" "[B") (Jvm.Term.int (3 : Int32))) (Jvm.Term.int (101 : Int32))) (List.mem_of_getElem? (i := 94) rfl))
    | 4, _ => exact (hf (Jvm.Cond.eq (Jvm.Term.elem (Jvm.Term.field (Jvm.Term.string "MappingTexts$Kinds" (17 : Nat)) "java/lang/String" "value" "[B") (Jvm.Term.int (4 : Int32))) (Jvm.Term.int (99 : Int32))) (List.mem_of_getElem? (i := 95) rfl))
    | 5, _ => exact (hf (Jvm.Cond.eq (Jvm.Term.elem (Jvm.Term.field (Jvm.Term.string "MappingTexts$Kinds" (17 : Nat)) "java/lang/String" "value" "[B") (Jvm.Term.int (5 : Int32))) (Jvm.Term.int (116 : Int32))) (List.mem_of_getElem? (i := 96) rfl))
    | n + 6, h => exact absurd h (by show ¬ n + 6 < 6; omega)
  | 8, _ =>
    intro j hj
    match j, hj with
    | 0, _ => exact (hf (Jvm.Cond.eq (Jvm.Term.elem (Jvm.Term.field (Jvm.Term.string "MappingTexts$Kinds" (19 : Nat)) "java/lang/String" "value" "[B") (Jvm.Term.int (0 : Int32))) (Jvm.Term.int (110 : Int32))) (List.mem_of_getElem? (i := 108) rfl))
    | 1, _ => exact (hf (Jvm.Cond.eq (Jvm.Term.elem (Jvm.Term.field (Jvm.Term.string "MappingTexts$Kinds" (19 : Nat)) "java/lang/String" "value" "[B") (Jvm.Term.int (1 : Int32))) (Jvm.Term.int (101 : Int32))) (List.mem_of_getElem? (i := 109) rfl))
    | 2, _ => exact (hf (Jvm.Cond.eq (Jvm.Term.elem (Jvm.Term.field (Jvm.Term.string "MappingTexts$Kinds" (19 : Nat)) "java/lang/String" "value" "[B") (Jvm.Term.int (2 : Int32))) (Jvm.Term.int (115 : Int32))) (List.mem_of_getElem? (i := 110) rfl))
    | 3, _ => exact (hf (Jvm.Cond.eq (Jvm.Term.elem (Jvm.Term.field (Jvm.Term.string "MappingTexts$Kinds" (19 : Nat)) "java/lang/String" "value" "[B") (Jvm.Term.int (3 : Int32))) (Jvm.Term.int (116 : Int32))) (List.mem_of_getElem? (i := 111) rfl))
    | 4, _ => exact (hf (Jvm.Cond.eq (Jvm.Term.elem (Jvm.Term.field (Jvm.Term.string "MappingTexts$Kinds" (19 : Nat)) "java/lang/String" "value" "[B") (Jvm.Term.int (4 : Int32))) (Jvm.Term.int (101 : Int32))) (List.mem_of_getElem? (i := 112) rfl))
    | 5, _ => exact (hf (Jvm.Cond.eq (Jvm.Term.elem (Jvm.Term.field (Jvm.Term.string "MappingTexts$Kinds" (19 : Nat)) "java/lang/String" "value" "[B") (Jvm.Term.int (5 : Int32))) (Jvm.Term.int (100 : Int32))) (List.mem_of_getElem? (i := 113) rfl))
    | n + 6, h => exact absurd h (by show ¬ n + 6 < 6; omega)
  | 9, _ =>
    intro j hj
    match j, hj with
    | 0, _ => exact (hf (Jvm.Cond.eq (Jvm.Term.elem (Jvm.Term.field (Jvm.Term.string "MappingTexts$Kinds" (21 : Nat)) "java/lang/String" "value" "[B") (Jvm.Term.int (0 : Int32))) (Jvm.Term.int (97 : Int32))) (List.mem_of_getElem? (i := 126) rfl))
    | 1, _ => exact (hf (Jvm.Cond.eq (Jvm.Term.elem (Jvm.Term.field (Jvm.Term.string "MappingTexts$Kinds" (21 : Nat)) "java/lang/String" "value" "[B") (Jvm.Term.int (1 : Int32))) (Jvm.Term.int (108 : Int32))) (List.mem_of_getElem? (i := 127) rfl))
    | 2, _ => exact (hf (Jvm.Cond.eq (Jvm.Term.elem (Jvm.Term.field (Jvm.Term.string "MappingTexts$Kinds" (21 : Nat)) "java/lang/String" "value" "[B") (Jvm.Term.int (2 : Int32))) (Jvm.Term.int (105 : Int32))) (List.mem_of_getElem? (i := 128) rfl))
    | 3, _ => exact (hf (Jvm.Cond.eq (Jvm.Term.elem (Jvm.Term.field (Jvm.Term.string "MappingTexts$Kinds" (21 : Nat)) "java/lang/String" "value" "[B") (Jvm.Term.int (3 : Int32))) (Jvm.Term.int (97 : Int32))) (List.mem_of_getElem? (i := 129) rfl))
    | 4, _ => exact (hf (Jvm.Cond.eq (Jvm.Term.elem (Jvm.Term.field (Jvm.Term.string "MappingTexts$Kinds" (21 : Nat)) "java/lang/String" "value" "[B") (Jvm.Term.int (4 : Int32))) (Jvm.Term.int (115 : Int32))) (List.mem_of_getElem? (i := 130) rfl))
    | n + 5, h => exact absurd h (by show ¬ n + 5 < 5; omega)
  | 10, _ =>
    intro j hj
    match j, hj with
    | 0, _ => exact (hf (Jvm.Cond.eq (Jvm.Term.elem (Jvm.Term.field (Jvm.Term.string "MappingTexts$Kinds" (23 : Nat)) "java/lang/String" "value" "[B") (Jvm.Term.int (0 : Int32))) (Jvm.Term.int (115 : Int32))) (List.mem_of_getElem? (i := 144) rfl))
    | 1, _ => exact (hf (Jvm.Cond.eq (Jvm.Term.elem (Jvm.Term.field (Jvm.Term.string "MappingTexts$Kinds" (23 : Nat)) "java/lang/String" "value" "[B") (Jvm.Term.int (1 : Int32))) (Jvm.Term.int (116 : Int32))) (List.mem_of_getElem? (i := 145) rfl))
    | 2, _ => exact (hf (Jvm.Cond.eq (Jvm.Term.elem (Jvm.Term.field (Jvm.Term.string "MappingTexts$Kinds" (23 : Nat)) "java/lang/String" "value" "[B") (Jvm.Term.int (2 : Int32))) (Jvm.Term.int (111 : Int32))) (List.mem_of_getElem? (i := 146) rfl))
    | 3, _ => exact (hf (Jvm.Cond.eq (Jvm.Term.elem (Jvm.Term.field (Jvm.Term.string "MappingTexts$Kinds" (23 : Nat)) "java/lang/String" "value" "[B") (Jvm.Term.int (3 : Int32))) (Jvm.Term.int (114 : Int32))) (List.mem_of_getElem? (i := 147) rfl))
    | 4, _ => exact (hf (Jvm.Cond.eq (Jvm.Term.elem (Jvm.Term.field (Jvm.Term.string "MappingTexts$Kinds" (23 : Nat)) "java/lang/String" "value" "[B") (Jvm.Term.int (4 : Int32))) (Jvm.Term.int (101 : Int32))) (List.mem_of_getElem? (i := 148) rfl))
    | 5, _ => exact (hf (Jvm.Cond.eq (Jvm.Term.elem (Jvm.Term.field (Jvm.Term.string "MappingTexts$Kinds" (23 : Nat)) "java/lang/String" "value" "[B") (Jvm.Term.int (5 : Int32))) (Jvm.Term.int (100 : Int32))) (List.mem_of_getElem? (i := 149) rfl))
    | n + 6, h => exact absurd h (by show ¬ n + 6 < 6; omega)
  | 11, _ =>
    intro j hj
    match j, hj with
    | 0, _ => exact (hf (Jvm.Cond.eq (Jvm.Term.elem (Jvm.Term.field (Jvm.Term.string "MappingTexts$Kinds" (25 : Nat)) "java/lang/String" "value" "[B") (Jvm.Term.int (0 : Int32))) (Jvm.Term.int (99 : Int32))) (List.mem_of_getElem? (i := 164) rfl))
    | 1, _ => exact (hf (Jvm.Cond.eq (Jvm.Term.elem (Jvm.Term.field (Jvm.Term.string "MappingTexts$Kinds" (25 : Nat)) "java/lang/String" "value" "[B") (Jvm.Term.int (1 : Int32))) (Jvm.Term.int (108 : Int32))) (List.mem_of_getElem? (i := 165) rfl))
    | 2, _ => exact (hf (Jvm.Cond.eq (Jvm.Term.elem (Jvm.Term.field (Jvm.Term.string "MappingTexts$Kinds" (25 : Nat)) "java/lang/String" "value" "[B") (Jvm.Term.int (2 : Int32))) (Jvm.Term.int (111 : Int32))) (List.mem_of_getElem? (i := 166) rfl))
    | 3, _ => exact (hf (Jvm.Cond.eq (Jvm.Term.elem (Jvm.Term.field (Jvm.Term.string "MappingTexts$Kinds" (25 : Nat)) "java/lang/String" "value" "[B") (Jvm.Term.int (3 : Int32))) (Jvm.Term.int (115 : Int32))) (List.mem_of_getElem? (i := 167) rfl))
    | 4, _ => exact (hf (Jvm.Cond.eq (Jvm.Term.elem (Jvm.Term.field (Jvm.Term.string "MappingTexts$Kinds" (25 : Nat)) "java/lang/String" "value" "[B") (Jvm.Term.int (4 : Int32))) (Jvm.Term.int (101 : Int32))) (List.mem_of_getElem? (i := 168) rfl))
    | 5, _ => exact (hf (Jvm.Cond.eq (Jvm.Term.elem (Jvm.Term.field (Jvm.Term.string "MappingTexts$Kinds" (25 : Nat)) "java/lang/String" "value" "[B") (Jvm.Term.int (5 : Int32))) (Jvm.Term.int (100 : Int32))) (List.mem_of_getElem? (i := 169) rfl))
    | n + 6, h => exact absurd h (by show ¬ n + 6 < 6; omega)
  | 12, _ =>
    intro j hj
    match j, hj with
    | 0, _ => exact (hf (Jvm.Cond.eq (Jvm.Term.elem (Jvm.Term.field (Jvm.Term.string "MappingTexts$Kinds" (27 : Nat)) "java/lang/String" "value" "[B") (Jvm.Term.int (0 : Int32))) (Jvm.Term.int (110 : Int32))) (List.mem_of_getElem? (i := 185) rfl))
    | 1, _ => exact (hf (Jvm.Cond.eq (Jvm.Term.elem (Jvm.Term.field (Jvm.Term.string "MappingTexts$Kinds" (27 : Nat)) "java/lang/String" "value" "[B") (Jvm.Term.int (1 : Int32))) (Jvm.Term.int (111 : Int32))) (List.mem_of_getElem? (i := 186) rfl))
    | 2, _ => exact (hf (Jvm.Cond.eq (Jvm.Term.elem (Jvm.Term.field (Jvm.Term.string "MappingTexts$Kinds" (27 : Nat)) "java/lang/String" "value" "[B") (Jvm.Term.int (2 : Int32))) (Jvm.Term.int (114 : Int32))) (List.mem_of_getElem? (i := 187) rfl))
    | 3, _ => exact (hf (Jvm.Cond.eq (Jvm.Term.elem (Jvm.Term.field (Jvm.Term.string "MappingTexts$Kinds" (27 : Nat)) "java/lang/String" "value" "[B") (Jvm.Term.int (3 : Int32))) (Jvm.Term.int (109 : Int32))) (List.mem_of_getElem? (i := 188) rfl))
    | 4, _ => exact (hf (Jvm.Cond.eq (Jvm.Term.elem (Jvm.Term.field (Jvm.Term.string "MappingTexts$Kinds" (27 : Nat)) "java/lang/String" "value" "[B") (Jvm.Term.int (4 : Int32))) (Jvm.Term.int (115 : Int32))) (List.mem_of_getElem? (i := 189) rfl))
    | n + 5, h => exact absurd h (by show ¬ n + 5 < 5; omega)
  | 13, _ =>
    intro j hj
    match j, hj with
    | 0, _ => exact (hf (Jvm.Cond.eq (Jvm.Term.elem (Jvm.Term.field (Jvm.Term.string "MappingTexts$Kinds" (29 : Nat)) "java/lang/String" "value" "[B") (Jvm.Term.int (0 : Int32))) (Jvm.Term.int (110 : Int32))) (List.mem_of_getElem? (i := 206) rfl))
    | 1, _ => exact (hf (Jvm.Cond.eq (Jvm.Term.elem (Jvm.Term.field (Jvm.Term.string "MappingTexts$Kinds" (29 : Nat)) "java/lang/String" "value" "[B") (Jvm.Term.int (1 : Int32))) (Jvm.Term.int (117 : Int32))) (List.mem_of_getElem? (i := 207) rfl))
    | 2, _ => exact (hf (Jvm.Cond.eq (Jvm.Term.elem (Jvm.Term.field (Jvm.Term.string "MappingTexts$Kinds" (29 : Nat)) "java/lang/String" "value" "[B") (Jvm.Term.int (2 : Int32))) (Jvm.Term.int (108 : Int32))) (List.mem_of_getElem? (i := 208) rfl))
    | 3, _ => exact (hf (Jvm.Cond.eq (Jvm.Term.elem (Jvm.Term.field (Jvm.Term.string "MappingTexts$Kinds" (29 : Nat)) "java/lang/String" "value" "[B") (Jvm.Term.int (3 : Int32))) (Jvm.Term.int (108 : Int32))) (List.mem_of_getElem? (i := 209) rfl))
    | n + 4, h => exact absurd h (by show ¬ n + 4 < 4; omega)
  | 14, _ =>
    intro j hj
    match j, hj with
    | 0, _ => exact (hf (Jvm.Cond.eq (Jvm.Term.elem (Jvm.Term.field (Jvm.Term.string "MappingTexts$Kinds" (31 : Nat)) "java/lang/String" "value" "[B") (Jvm.Term.int (0 : Int32))) (Jvm.Term.int (99 : Int32))) (List.mem_of_getElem? (i := 227) rfl))
    | 1, _ => exact (hf (Jvm.Cond.eq (Jvm.Term.elem (Jvm.Term.field (Jvm.Term.string "MappingTexts$Kinds" (31 : Nat)) "java/lang/String" "value" "[B") (Jvm.Term.int (1 : Int32))) (Jvm.Term.int (111 : Int32))) (List.mem_of_getElem? (i := 228) rfl))
    | 2, _ => exact (hf (Jvm.Cond.eq (Jvm.Term.elem (Jvm.Term.field (Jvm.Term.string "MappingTexts$Kinds" (31 : Nat)) "java/lang/String" "value" "[B") (Jvm.Term.int (2 : Int32))) (Jvm.Term.int (112 : Int32))) (List.mem_of_getElem? (i := 229) rfl))
    | 3, _ => exact (hf (Jvm.Cond.eq (Jvm.Term.elem (Jvm.Term.field (Jvm.Term.string "MappingTexts$Kinds" (31 : Nat)) "java/lang/String" "value" "[B") (Jvm.Term.int (3 : Int32))) (Jvm.Term.int (121 : Int32))) (List.mem_of_getElem? (i := 230) rfl))
    | n + 4, h => exact absurd h (by show ¬ n + 4 < 4; omega)
  | 15, _ =>
    intro j hj
    match j, hj with
    | 0, _ => exact (hf (Jvm.Cond.eq (Jvm.Term.elem (Jvm.Term.field (Jvm.Term.string "MappingTexts$Kinds" (33 : Nat)) "java/lang/String" "value" "[B") (Jvm.Term.int (0 : Int32))) (Jvm.Term.int (98 : Int32))) (List.mem_of_getElem? (i := 249) rfl))
    | 1, _ => exact (hf (Jvm.Cond.eq (Jvm.Term.elem (Jvm.Term.field (Jvm.Term.string "MappingTexts$Kinds" (33 : Nat)) "java/lang/String" "value" "[B") (Jvm.Term.int (1 : Int32))) (Jvm.Term.int (121 : Int32))) (List.mem_of_getElem? (i := 250) rfl))
    | n + 2, h => exact absurd h (by show ¬ n + 2 < 2; omega)
  | 16, _ =>
    intro j hj
    match j, hj with
    | 0, _ => exact (hf (Jvm.Cond.eq (Jvm.Term.elem (Jvm.Term.field (Jvm.Term.string "MappingTexts$Kinds" (35 : Nat)) "java/lang/String" "value" "[B") (Jvm.Term.int (0 : Int32))) (Jvm.Term.int (111 : Int32))) (List.mem_of_getElem? (i := 270) rfl))
    | 1, _ => exact (hf (Jvm.Cond.eq (Jvm.Term.elem (Jvm.Term.field (Jvm.Term.string "MappingTexts$Kinds" (35 : Nat)) "java/lang/String" "value" "[B") (Jvm.Term.int (1 : Int32))) (Jvm.Term.int (102 : Int32))) (List.mem_of_getElem? (i := 271) rfl))
    | n + 2, h => exact absurd h (by show ¬ n + 2 < 2; omega)
  | 17, _ =>
    intro j hj
    match j, hj with
    | 0, _ => exact (hf (Jvm.Cond.eq (Jvm.Term.elem (Jvm.Term.field (Jvm.Term.string "MappingTexts$Version" (166 : Nat)) "java/lang/String" "value" "[B") (Jvm.Term.int (0 : Int32))) (Jvm.Term.int (125 : Int32))) (List.mem_of_getElem? (i := 344) rfl))
    | 1, _ => exact (hf (Jvm.Cond.eq (Jvm.Term.elem (Jvm.Term.field (Jvm.Term.string "MappingTexts$Version" (166 : Nat)) "java/lang/String" "value" "[B") (Jvm.Term.int (1 : Int32))) (Jvm.Term.int (59 : Int32))) (List.mem_of_getElem? (i := 345) rfl))
    | n + 2, h => exact absurd h (by show ¬ n + 2 < 2; omega)
  | 18, _ =>
    intro j hj
    match j, hj with
    | 0, _ => exact (hf (Jvm.Cond.eq (Jvm.Term.elem (Jvm.Term.field (Jvm.Term.string "MappingTexts$Rule" (52 : Nat)) "java/lang/String" "value" "[B") (Jvm.Term.int (0 : Int32))) (Jvm.Term.int (114 : Int32))) (List.mem_of_getElem? (i := 369) rfl))
    | 1, _ => exact (hf (Jvm.Cond.eq (Jvm.Term.elem (Jvm.Term.field (Jvm.Term.string "MappingTexts$Rule" (52 : Nat)) "java/lang/String" "value" "[B") (Jvm.Term.int (1 : Int32))) (Jvm.Term.int (117 : Int32))) (List.mem_of_getElem? (i := 370) rfl))
    | 2, _ => exact (hf (Jvm.Cond.eq (Jvm.Term.elem (Jvm.Term.field (Jvm.Term.string "MappingTexts$Rule" (52 : Nat)) "java/lang/String" "value" "[B") (Jvm.Term.int (2 : Int32))) (Jvm.Term.int (108 : Int32))) (List.mem_of_getElem? (i := 371) rfl))
    | 3, _ => exact (hf (Jvm.Cond.eq (Jvm.Term.elem (Jvm.Term.field (Jvm.Term.string "MappingTexts$Rule" (52 : Nat)) "java/lang/String" "value" "[B") (Jvm.Term.int (3 : Int32))) (Jvm.Term.int (101 : Int32))) (List.mem_of_getElem? (i := 372) rfl))
    | 4, _ => exact (hf (Jvm.Cond.eq (Jvm.Term.elem (Jvm.Term.field (Jvm.Term.string "MappingTexts$Rule" (52 : Nat)) "java/lang/String" "value" "[B") (Jvm.Term.int (4 : Int32))) (Jvm.Term.int (32 : Int32))) (List.mem_of_getElem? (i := 373) rfl))
    | n + 5, h => exact absurd h (by show ¬ n + 5 < 5; omega)
  | 19, _ =>
    intro j hj
    match j, hj with
    | 0, _ => exact (hf (Jvm.Cond.eq (Jvm.Term.elem (Jvm.Term.field (Jvm.Term.string "MappingTexts$Version" (157 : Nat)) "java/lang/String" "value" "[B") (Jvm.Term.int (0 : Int32))) (Jvm.Term.int (108 : Int32))) (List.mem_of_getElem? (i := 398) rfl))
    | 1, _ => exact (hf (Jvm.Cond.eq (Jvm.Term.elem (Jvm.Term.field (Jvm.Term.string "MappingTexts$Version" (157 : Nat)) "java/lang/String" "value" "[B") (Jvm.Term.int (1 : Int32))) (Jvm.Term.int (105 : Int32))) (List.mem_of_getElem? (i := 399) rfl))
    | 2, _ => exact (hf (Jvm.Cond.eq (Jvm.Term.elem (Jvm.Term.field (Jvm.Term.string "MappingTexts$Version" (157 : Nat)) "java/lang/String" "value" "[B") (Jvm.Term.int (2 : Int32))) (Jvm.Term.int (109 : Int32))) (List.mem_of_getElem? (i := 400) rfl))
    | 3, _ => exact (hf (Jvm.Cond.eq (Jvm.Term.elem (Jvm.Term.field (Jvm.Term.string "MappingTexts$Version" (157 : Nat)) "java/lang/String" "value" "[B") (Jvm.Term.int (3 : Int32))) (Jvm.Term.int (105 : Int32))) (List.mem_of_getElem? (i := 401) rfl))
    | 4, _ => exact (hf (Jvm.Cond.eq (Jvm.Term.elem (Jvm.Term.field (Jvm.Term.string "MappingTexts$Version" (157 : Nat)) "java/lang/String" "value" "[B") (Jvm.Term.int (4 : Int32))) (Jvm.Term.int (116 : Int32))) (List.mem_of_getElem? (i := 402) rfl))
    | 5, _ => exact (hf (Jvm.Cond.eq (Jvm.Term.elem (Jvm.Term.field (Jvm.Term.string "MappingTexts$Version" (157 : Nat)) "java/lang/String" "value" "[B") (Jvm.Term.int (5 : Int32))) (Jvm.Term.int (32 : Int32))) (List.mem_of_getElem? (i := 403) rfl))
    | n + 6, h => exact absurd h (by show ¬ n + 6 < 6; omega)
  | _ + 20, h => omega
set_option maxRecDepth 100000 in
set_option maxHeartbeats 4000000 in
theorem ps_ne {args : Array Value} {s : State} (hf : ∀ c ∈ FL, c.before args s = true) : ∀ i j : Nat, i < 20 → j < 20 → i ≠ j → (Cond.not (Cond.eq (tmS i) (tmS j))).before args s = true ∨ (Cond.not (Cond.eq (tmS j) (tmS i))).before args s = true := by
  have up : ∀ i j : Nat, i < j → j < 20 → (Cond.not (Cond.eq (tmS i) (tmS j))).before args s = true ∨ (Cond.not (Cond.eq (tmS j) (tmS i))).before args s = true := by
    intro i j hij hj
    match j, hj with
    | 0, _ =>
      match i, hij with
      | n + 0, h => exact absurd h (by omega)
    | 1, _ =>
      match i, hij with
      | 0, _ => exact Or.inl (hf (Jvm.Cond.not (Jvm.Cond.eq (Jvm.Term.string "MappingTexts$TextReader" (176 : Nat)) (Jvm.Term.string "MappingTexts$TextReader" (181 : Nat)))) (List.mem_of_getElem? (i := 26) rfl))
      | n + 1, h => exact absurd h (by omega)
    | 2, _ =>
      match i, hij with
      | 0, _ => exact Or.inl (hf (Jvm.Cond.not (Jvm.Cond.eq (Jvm.Term.string "MappingTexts$TextReader" (176 : Nat)) (Jvm.Term.string "MappingTexts$Kinds" (7 : Nat)))) (List.mem_of_getElem? (i := 35) rfl))
      | 1, _ => exact Or.inl (hf (Jvm.Cond.not (Jvm.Cond.eq (Jvm.Term.string "MappingTexts$TextReader" (181 : Nat)) (Jvm.Term.string "MappingTexts$Kinds" (7 : Nat)))) (List.mem_of_getElem? (i := 36) rfl))
      | n + 2, h => exact absurd h (by omega)
    | 3, _ =>
      match i, hij with
      | 0, _ => exact Or.inl (hf (Jvm.Cond.not (Jvm.Cond.eq (Jvm.Term.string "MappingTexts$TextReader" (176 : Nat)) (Jvm.Term.string "MappingTexts$Kinds" (9 : Nat)))) (List.mem_of_getElem? (i := 45) rfl))
      | 1, _ => exact Or.inl (hf (Jvm.Cond.not (Jvm.Cond.eq (Jvm.Term.string "MappingTexts$TextReader" (181 : Nat)) (Jvm.Term.string "MappingTexts$Kinds" (9 : Nat)))) (List.mem_of_getElem? (i := 46) rfl))
      | 2, _ => exact Or.inl (hf (Jvm.Cond.not (Jvm.Cond.eq (Jvm.Term.string "MappingTexts$Kinds" (7 : Nat)) (Jvm.Term.string "MappingTexts$Kinds" (9 : Nat)))) (List.mem_of_getElem? (i := 47) rfl))
      | n + 3, h => exact absurd h (by omega)
    | 4, _ =>
      match i, hij with
      | 0, _ => exact Or.inl (hf (Jvm.Cond.not (Jvm.Cond.eq (Jvm.Term.string "MappingTexts$TextReader" (176 : Nat)) (Jvm.Term.string "MappingTexts$Kinds" (11 : Nat)))) (List.mem_of_getElem? (i := 56) rfl))
      | 1, _ => exact Or.inl (hf (Jvm.Cond.not (Jvm.Cond.eq (Jvm.Term.string "MappingTexts$TextReader" (181 : Nat)) (Jvm.Term.string "MappingTexts$Kinds" (11 : Nat)))) (List.mem_of_getElem? (i := 57) rfl))
      | 2, _ => exact Or.inl (hf (Jvm.Cond.not (Jvm.Cond.eq (Jvm.Term.string "MappingTexts$Kinds" (7 : Nat)) (Jvm.Term.string "MappingTexts$Kinds" (11 : Nat)))) (List.mem_of_getElem? (i := 58) rfl))
      | 3, _ => exact Or.inl (hf (Jvm.Cond.not (Jvm.Cond.eq (Jvm.Term.string "MappingTexts$Kinds" (9 : Nat)) (Jvm.Term.string "MappingTexts$Kinds" (11 : Nat)))) (List.mem_of_getElem? (i := 59) rfl))
      | n + 4, h => exact absurd h (by omega)
    | 5, _ =>
      match i, hij with
      | 0, _ => exact Or.inl (hf (Jvm.Cond.not (Jvm.Cond.eq (Jvm.Term.string "MappingTexts$TextReader" (176 : Nat)) (Jvm.Term.string "MappingTexts$Kinds" (13 : Nat)))) (List.mem_of_getElem? (i := 68) rfl))
      | 1, _ => exact Or.inl (hf (Jvm.Cond.not (Jvm.Cond.eq (Jvm.Term.string "MappingTexts$TextReader" (181 : Nat)) (Jvm.Term.string "MappingTexts$Kinds" (13 : Nat)))) (List.mem_of_getElem? (i := 69) rfl))
      | 2, _ => exact Or.inl (hf (Jvm.Cond.not (Jvm.Cond.eq (Jvm.Term.string "MappingTexts$Kinds" (7 : Nat)) (Jvm.Term.string "MappingTexts$Kinds" (13 : Nat)))) (List.mem_of_getElem? (i := 70) rfl))
      | 3, _ => exact Or.inl (hf (Jvm.Cond.not (Jvm.Cond.eq (Jvm.Term.string "MappingTexts$Kinds" (9 : Nat)) (Jvm.Term.string "MappingTexts$Kinds" (13 : Nat)))) (List.mem_of_getElem? (i := 71) rfl))
      | 4, _ => exact Or.inl (hf (Jvm.Cond.not (Jvm.Cond.eq (Jvm.Term.string "MappingTexts$Kinds" (11 : Nat)) (Jvm.Term.string "MappingTexts$Kinds" (13 : Nat)))) (List.mem_of_getElem? (i := 72) rfl))
      | n + 5, h => exact absurd h (by omega)
    | 6, _ =>
      match i, hij with
      | 0, _ => exact Or.inl (hf (Jvm.Cond.not (Jvm.Cond.eq (Jvm.Term.string "MappingTexts$TextReader" (176 : Nat)) (Jvm.Term.string "MappingTexts$Kinds" (15 : Nat)))) (List.mem_of_getElem? (i := 81) rfl))
      | 1, _ => exact Or.inl (hf (Jvm.Cond.not (Jvm.Cond.eq (Jvm.Term.string "MappingTexts$TextReader" (181 : Nat)) (Jvm.Term.string "MappingTexts$Kinds" (15 : Nat)))) (List.mem_of_getElem? (i := 82) rfl))
      | 2, _ => exact Or.inl (hf (Jvm.Cond.not (Jvm.Cond.eq (Jvm.Term.string "MappingTexts$Kinds" (7 : Nat)) (Jvm.Term.string "MappingTexts$Kinds" (15 : Nat)))) (List.mem_of_getElem? (i := 83) rfl))
      | 3, _ => exact Or.inl (hf (Jvm.Cond.not (Jvm.Cond.eq (Jvm.Term.string "MappingTexts$Kinds" (9 : Nat)) (Jvm.Term.string "MappingTexts$Kinds" (15 : Nat)))) (List.mem_of_getElem? (i := 84) rfl))
      | 4, _ => exact Or.inl (hf (Jvm.Cond.not (Jvm.Cond.eq (Jvm.Term.string "MappingTexts$Kinds" (11 : Nat)) (Jvm.Term.string "MappingTexts$Kinds" (15 : Nat)))) (List.mem_of_getElem? (i := 85) rfl))
      | 5, _ => exact Or.inl (hf (Jvm.Cond.not (Jvm.Cond.eq (Jvm.Term.string "MappingTexts$Kinds" (13 : Nat)) (Jvm.Term.string "MappingTexts$Kinds" (15 : Nat)))) (List.mem_of_getElem? (i := 86) rfl))
      | n + 6, h => exact absurd h (by omega)
    | 7, _ =>
      match i, hij with
      | 0, _ => exact Or.inl (hf (Jvm.Cond.not (Jvm.Cond.eq (Jvm.Term.string "MappingTexts$TextReader" (176 : Nat)) (Jvm.Term.string "MappingTexts$Kinds" (17 : Nat)))) (List.mem_of_getElem? (i := 97) rfl))
      | 1, _ => exact Or.inl (hf (Jvm.Cond.not (Jvm.Cond.eq (Jvm.Term.string "MappingTexts$TextReader" (181 : Nat)) (Jvm.Term.string "MappingTexts$Kinds" (17 : Nat)))) (List.mem_of_getElem? (i := 98) rfl))
      | 2, _ => exact Or.inl (hf (Jvm.Cond.not (Jvm.Cond.eq (Jvm.Term.string "MappingTexts$Kinds" (7 : Nat)) (Jvm.Term.string "MappingTexts$Kinds" (17 : Nat)))) (List.mem_of_getElem? (i := 99) rfl))
      | 3, _ => exact Or.inl (hf (Jvm.Cond.not (Jvm.Cond.eq (Jvm.Term.string "MappingTexts$Kinds" (9 : Nat)) (Jvm.Term.string "MappingTexts$Kinds" (17 : Nat)))) (List.mem_of_getElem? (i := 100) rfl))
      | 4, _ => exact Or.inl (hf (Jvm.Cond.not (Jvm.Cond.eq (Jvm.Term.string "MappingTexts$Kinds" (11 : Nat)) (Jvm.Term.string "MappingTexts$Kinds" (17 : Nat)))) (List.mem_of_getElem? (i := 101) rfl))
      | 5, _ => exact Or.inl (hf (Jvm.Cond.not (Jvm.Cond.eq (Jvm.Term.string "MappingTexts$Kinds" (13 : Nat)) (Jvm.Term.string "MappingTexts$Kinds" (17 : Nat)))) (List.mem_of_getElem? (i := 102) rfl))
      | 6, _ => exact Or.inl (hf (Jvm.Cond.not (Jvm.Cond.eq (Jvm.Term.string "MappingTexts$Kinds" (15 : Nat)) (Jvm.Term.string "MappingTexts$Kinds" (17 : Nat)))) (List.mem_of_getElem? (i := 103) rfl))
      | n + 7, h => exact absurd h (by omega)
    | 8, _ =>
      match i, hij with
      | 0, _ => exact Or.inl (hf (Jvm.Cond.not (Jvm.Cond.eq (Jvm.Term.string "MappingTexts$TextReader" (176 : Nat)) (Jvm.Term.string "MappingTexts$Kinds" (19 : Nat)))) (List.mem_of_getElem? (i := 114) rfl))
      | 1, _ => exact Or.inl (hf (Jvm.Cond.not (Jvm.Cond.eq (Jvm.Term.string "MappingTexts$TextReader" (181 : Nat)) (Jvm.Term.string "MappingTexts$Kinds" (19 : Nat)))) (List.mem_of_getElem? (i := 115) rfl))
      | 2, _ => exact Or.inl (hf (Jvm.Cond.not (Jvm.Cond.eq (Jvm.Term.string "MappingTexts$Kinds" (7 : Nat)) (Jvm.Term.string "MappingTexts$Kinds" (19 : Nat)))) (List.mem_of_getElem? (i := 116) rfl))
      | 3, _ => exact Or.inl (hf (Jvm.Cond.not (Jvm.Cond.eq (Jvm.Term.string "MappingTexts$Kinds" (9 : Nat)) (Jvm.Term.string "MappingTexts$Kinds" (19 : Nat)))) (List.mem_of_getElem? (i := 117) rfl))
      | 4, _ => exact Or.inl (hf (Jvm.Cond.not (Jvm.Cond.eq (Jvm.Term.string "MappingTexts$Kinds" (11 : Nat)) (Jvm.Term.string "MappingTexts$Kinds" (19 : Nat)))) (List.mem_of_getElem? (i := 118) rfl))
      | 5, _ => exact Or.inl (hf (Jvm.Cond.not (Jvm.Cond.eq (Jvm.Term.string "MappingTexts$Kinds" (13 : Nat)) (Jvm.Term.string "MappingTexts$Kinds" (19 : Nat)))) (List.mem_of_getElem? (i := 119) rfl))
      | 6, _ => exact Or.inl (hf (Jvm.Cond.not (Jvm.Cond.eq (Jvm.Term.string "MappingTexts$Kinds" (15 : Nat)) (Jvm.Term.string "MappingTexts$Kinds" (19 : Nat)))) (List.mem_of_getElem? (i := 120) rfl))
      | 7, _ => exact Or.inl (hf (Jvm.Cond.not (Jvm.Cond.eq (Jvm.Term.string "MappingTexts$Kinds" (17 : Nat)) (Jvm.Term.string "MappingTexts$Kinds" (19 : Nat)))) (List.mem_of_getElem? (i := 121) rfl))
      | n + 8, h => exact absurd h (by omega)
    | 9, _ =>
      match i, hij with
      | 0, _ => exact Or.inl (hf (Jvm.Cond.not (Jvm.Cond.eq (Jvm.Term.string "MappingTexts$TextReader" (176 : Nat)) (Jvm.Term.string "MappingTexts$Kinds" (21 : Nat)))) (List.mem_of_getElem? (i := 131) rfl))
      | 1, _ => exact Or.inl (hf (Jvm.Cond.not (Jvm.Cond.eq (Jvm.Term.string "MappingTexts$TextReader" (181 : Nat)) (Jvm.Term.string "MappingTexts$Kinds" (21 : Nat)))) (List.mem_of_getElem? (i := 132) rfl))
      | 2, _ => exact Or.inl (hf (Jvm.Cond.not (Jvm.Cond.eq (Jvm.Term.string "MappingTexts$Kinds" (7 : Nat)) (Jvm.Term.string "MappingTexts$Kinds" (21 : Nat)))) (List.mem_of_getElem? (i := 133) rfl))
      | 3, _ => exact Or.inl (hf (Jvm.Cond.not (Jvm.Cond.eq (Jvm.Term.string "MappingTexts$Kinds" (9 : Nat)) (Jvm.Term.string "MappingTexts$Kinds" (21 : Nat)))) (List.mem_of_getElem? (i := 134) rfl))
      | 4, _ => exact Or.inl (hf (Jvm.Cond.not (Jvm.Cond.eq (Jvm.Term.string "MappingTexts$Kinds" (11 : Nat)) (Jvm.Term.string "MappingTexts$Kinds" (21 : Nat)))) (List.mem_of_getElem? (i := 135) rfl))
      | 5, _ => exact Or.inl (hf (Jvm.Cond.not (Jvm.Cond.eq (Jvm.Term.string "MappingTexts$Kinds" (13 : Nat)) (Jvm.Term.string "MappingTexts$Kinds" (21 : Nat)))) (List.mem_of_getElem? (i := 136) rfl))
      | 6, _ => exact Or.inl (hf (Jvm.Cond.not (Jvm.Cond.eq (Jvm.Term.string "MappingTexts$Kinds" (15 : Nat)) (Jvm.Term.string "MappingTexts$Kinds" (21 : Nat)))) (List.mem_of_getElem? (i := 137) rfl))
      | 7, _ => exact Or.inl (hf (Jvm.Cond.not (Jvm.Cond.eq (Jvm.Term.string "MappingTexts$Kinds" (17 : Nat)) (Jvm.Term.string "MappingTexts$Kinds" (21 : Nat)))) (List.mem_of_getElem? (i := 138) rfl))
      | 8, _ => exact Or.inl (hf (Jvm.Cond.not (Jvm.Cond.eq (Jvm.Term.string "MappingTexts$Kinds" (19 : Nat)) (Jvm.Term.string "MappingTexts$Kinds" (21 : Nat)))) (List.mem_of_getElem? (i := 139) rfl))
      | n + 9, h => exact absurd h (by omega)
    | 10, _ =>
      match i, hij with
      | 0, _ => exact Or.inl (hf (Jvm.Cond.not (Jvm.Cond.eq (Jvm.Term.string "MappingTexts$TextReader" (176 : Nat)) (Jvm.Term.string "MappingTexts$Kinds" (23 : Nat)))) (List.mem_of_getElem? (i := 150) rfl))
      | 1, _ => exact Or.inl (hf (Jvm.Cond.not (Jvm.Cond.eq (Jvm.Term.string "MappingTexts$TextReader" (181 : Nat)) (Jvm.Term.string "MappingTexts$Kinds" (23 : Nat)))) (List.mem_of_getElem? (i := 151) rfl))
      | 2, _ => exact Or.inl (hf (Jvm.Cond.not (Jvm.Cond.eq (Jvm.Term.string "MappingTexts$Kinds" (7 : Nat)) (Jvm.Term.string "MappingTexts$Kinds" (23 : Nat)))) (List.mem_of_getElem? (i := 152) rfl))
      | 3, _ => exact Or.inl (hf (Jvm.Cond.not (Jvm.Cond.eq (Jvm.Term.string "MappingTexts$Kinds" (9 : Nat)) (Jvm.Term.string "MappingTexts$Kinds" (23 : Nat)))) (List.mem_of_getElem? (i := 153) rfl))
      | 4, _ => exact Or.inl (hf (Jvm.Cond.not (Jvm.Cond.eq (Jvm.Term.string "MappingTexts$Kinds" (11 : Nat)) (Jvm.Term.string "MappingTexts$Kinds" (23 : Nat)))) (List.mem_of_getElem? (i := 154) rfl))
      | 5, _ => exact Or.inl (hf (Jvm.Cond.not (Jvm.Cond.eq (Jvm.Term.string "MappingTexts$Kinds" (13 : Nat)) (Jvm.Term.string "MappingTexts$Kinds" (23 : Nat)))) (List.mem_of_getElem? (i := 155) rfl))
      | 6, _ => exact Or.inl (hf (Jvm.Cond.not (Jvm.Cond.eq (Jvm.Term.string "MappingTexts$Kinds" (15 : Nat)) (Jvm.Term.string "MappingTexts$Kinds" (23 : Nat)))) (List.mem_of_getElem? (i := 156) rfl))
      | 7, _ => exact Or.inl (hf (Jvm.Cond.not (Jvm.Cond.eq (Jvm.Term.string "MappingTexts$Kinds" (17 : Nat)) (Jvm.Term.string "MappingTexts$Kinds" (23 : Nat)))) (List.mem_of_getElem? (i := 157) rfl))
      | 8, _ => exact Or.inl (hf (Jvm.Cond.not (Jvm.Cond.eq (Jvm.Term.string "MappingTexts$Kinds" (19 : Nat)) (Jvm.Term.string "MappingTexts$Kinds" (23 : Nat)))) (List.mem_of_getElem? (i := 158) rfl))
      | 9, _ => exact Or.inl (hf (Jvm.Cond.not (Jvm.Cond.eq (Jvm.Term.string "MappingTexts$Kinds" (21 : Nat)) (Jvm.Term.string "MappingTexts$Kinds" (23 : Nat)))) (List.mem_of_getElem? (i := 159) rfl))
      | n + 10, h => exact absurd h (by omega)
    | 11, _ =>
      match i, hij with
      | 0, _ => exact Or.inl (hf (Jvm.Cond.not (Jvm.Cond.eq (Jvm.Term.string "MappingTexts$TextReader" (176 : Nat)) (Jvm.Term.string "MappingTexts$Kinds" (25 : Nat)))) (List.mem_of_getElem? (i := 170) rfl))
      | 1, _ => exact Or.inl (hf (Jvm.Cond.not (Jvm.Cond.eq (Jvm.Term.string "MappingTexts$TextReader" (181 : Nat)) (Jvm.Term.string "MappingTexts$Kinds" (25 : Nat)))) (List.mem_of_getElem? (i := 171) rfl))
      | 2, _ => exact Or.inl (hf (Jvm.Cond.not (Jvm.Cond.eq (Jvm.Term.string "MappingTexts$Kinds" (7 : Nat)) (Jvm.Term.string "MappingTexts$Kinds" (25 : Nat)))) (List.mem_of_getElem? (i := 172) rfl))
      | 3, _ => exact Or.inl (hf (Jvm.Cond.not (Jvm.Cond.eq (Jvm.Term.string "MappingTexts$Kinds" (9 : Nat)) (Jvm.Term.string "MappingTexts$Kinds" (25 : Nat)))) (List.mem_of_getElem? (i := 173) rfl))
      | 4, _ => exact Or.inl (hf (Jvm.Cond.not (Jvm.Cond.eq (Jvm.Term.string "MappingTexts$Kinds" (11 : Nat)) (Jvm.Term.string "MappingTexts$Kinds" (25 : Nat)))) (List.mem_of_getElem? (i := 174) rfl))
      | 5, _ => exact Or.inl (hf (Jvm.Cond.not (Jvm.Cond.eq (Jvm.Term.string "MappingTexts$Kinds" (13 : Nat)) (Jvm.Term.string "MappingTexts$Kinds" (25 : Nat)))) (List.mem_of_getElem? (i := 175) rfl))
      | 6, _ => exact Or.inl (hf (Jvm.Cond.not (Jvm.Cond.eq (Jvm.Term.string "MappingTexts$Kinds" (15 : Nat)) (Jvm.Term.string "MappingTexts$Kinds" (25 : Nat)))) (List.mem_of_getElem? (i := 176) rfl))
      | 7, _ => exact Or.inl (hf (Jvm.Cond.not (Jvm.Cond.eq (Jvm.Term.string "MappingTexts$Kinds" (17 : Nat)) (Jvm.Term.string "MappingTexts$Kinds" (25 : Nat)))) (List.mem_of_getElem? (i := 177) rfl))
      | 8, _ => exact Or.inl (hf (Jvm.Cond.not (Jvm.Cond.eq (Jvm.Term.string "MappingTexts$Kinds" (19 : Nat)) (Jvm.Term.string "MappingTexts$Kinds" (25 : Nat)))) (List.mem_of_getElem? (i := 178) rfl))
      | 9, _ => exact Or.inl (hf (Jvm.Cond.not (Jvm.Cond.eq (Jvm.Term.string "MappingTexts$Kinds" (21 : Nat)) (Jvm.Term.string "MappingTexts$Kinds" (25 : Nat)))) (List.mem_of_getElem? (i := 179) rfl))
      | 10, _ => exact Or.inl (hf (Jvm.Cond.not (Jvm.Cond.eq (Jvm.Term.string "MappingTexts$Kinds" (23 : Nat)) (Jvm.Term.string "MappingTexts$Kinds" (25 : Nat)))) (List.mem_of_getElem? (i := 180) rfl))
      | n + 11, h => exact absurd h (by omega)
    | 12, _ =>
      match i, hij with
      | 0, _ => exact Or.inl (hf (Jvm.Cond.not (Jvm.Cond.eq (Jvm.Term.string "MappingTexts$TextReader" (176 : Nat)) (Jvm.Term.string "MappingTexts$Kinds" (27 : Nat)))) (List.mem_of_getElem? (i := 190) rfl))
      | 1, _ => exact Or.inl (hf (Jvm.Cond.not (Jvm.Cond.eq (Jvm.Term.string "MappingTexts$TextReader" (181 : Nat)) (Jvm.Term.string "MappingTexts$Kinds" (27 : Nat)))) (List.mem_of_getElem? (i := 191) rfl))
      | 2, _ => exact Or.inl (hf (Jvm.Cond.not (Jvm.Cond.eq (Jvm.Term.string "MappingTexts$Kinds" (7 : Nat)) (Jvm.Term.string "MappingTexts$Kinds" (27 : Nat)))) (List.mem_of_getElem? (i := 192) rfl))
      | 3, _ => exact Or.inl (hf (Jvm.Cond.not (Jvm.Cond.eq (Jvm.Term.string "MappingTexts$Kinds" (9 : Nat)) (Jvm.Term.string "MappingTexts$Kinds" (27 : Nat)))) (List.mem_of_getElem? (i := 193) rfl))
      | 4, _ => exact Or.inl (hf (Jvm.Cond.not (Jvm.Cond.eq (Jvm.Term.string "MappingTexts$Kinds" (11 : Nat)) (Jvm.Term.string "MappingTexts$Kinds" (27 : Nat)))) (List.mem_of_getElem? (i := 194) rfl))
      | 5, _ => exact Or.inl (hf (Jvm.Cond.not (Jvm.Cond.eq (Jvm.Term.string "MappingTexts$Kinds" (13 : Nat)) (Jvm.Term.string "MappingTexts$Kinds" (27 : Nat)))) (List.mem_of_getElem? (i := 195) rfl))
      | 6, _ => exact Or.inl (hf (Jvm.Cond.not (Jvm.Cond.eq (Jvm.Term.string "MappingTexts$Kinds" (15 : Nat)) (Jvm.Term.string "MappingTexts$Kinds" (27 : Nat)))) (List.mem_of_getElem? (i := 196) rfl))
      | 7, _ => exact Or.inl (hf (Jvm.Cond.not (Jvm.Cond.eq (Jvm.Term.string "MappingTexts$Kinds" (17 : Nat)) (Jvm.Term.string "MappingTexts$Kinds" (27 : Nat)))) (List.mem_of_getElem? (i := 197) rfl))
      | 8, _ => exact Or.inl (hf (Jvm.Cond.not (Jvm.Cond.eq (Jvm.Term.string "MappingTexts$Kinds" (19 : Nat)) (Jvm.Term.string "MappingTexts$Kinds" (27 : Nat)))) (List.mem_of_getElem? (i := 198) rfl))
      | 9, _ => exact Or.inl (hf (Jvm.Cond.not (Jvm.Cond.eq (Jvm.Term.string "MappingTexts$Kinds" (21 : Nat)) (Jvm.Term.string "MappingTexts$Kinds" (27 : Nat)))) (List.mem_of_getElem? (i := 199) rfl))
      | 10, _ => exact Or.inl (hf (Jvm.Cond.not (Jvm.Cond.eq (Jvm.Term.string "MappingTexts$Kinds" (23 : Nat)) (Jvm.Term.string "MappingTexts$Kinds" (27 : Nat)))) (List.mem_of_getElem? (i := 200) rfl))
      | 11, _ => exact Or.inl (hf (Jvm.Cond.not (Jvm.Cond.eq (Jvm.Term.string "MappingTexts$Kinds" (25 : Nat)) (Jvm.Term.string "MappingTexts$Kinds" (27 : Nat)))) (List.mem_of_getElem? (i := 201) rfl))
      | n + 12, h => exact absurd h (by omega)
    | 13, _ =>
      match i, hij with
      | 0, _ => exact Or.inl (hf (Jvm.Cond.not (Jvm.Cond.eq (Jvm.Term.string "MappingTexts$TextReader" (176 : Nat)) (Jvm.Term.string "MappingTexts$Kinds" (29 : Nat)))) (List.mem_of_getElem? (i := 210) rfl))
      | 1, _ => exact Or.inl (hf (Jvm.Cond.not (Jvm.Cond.eq (Jvm.Term.string "MappingTexts$TextReader" (181 : Nat)) (Jvm.Term.string "MappingTexts$Kinds" (29 : Nat)))) (List.mem_of_getElem? (i := 211) rfl))
      | 2, _ => exact Or.inl (hf (Jvm.Cond.not (Jvm.Cond.eq (Jvm.Term.string "MappingTexts$Kinds" (7 : Nat)) (Jvm.Term.string "MappingTexts$Kinds" (29 : Nat)))) (List.mem_of_getElem? (i := 212) rfl))
      | 3, _ => exact Or.inl (hf (Jvm.Cond.not (Jvm.Cond.eq (Jvm.Term.string "MappingTexts$Kinds" (9 : Nat)) (Jvm.Term.string "MappingTexts$Kinds" (29 : Nat)))) (List.mem_of_getElem? (i := 213) rfl))
      | 4, _ => exact Or.inl (hf (Jvm.Cond.not (Jvm.Cond.eq (Jvm.Term.string "MappingTexts$Kinds" (11 : Nat)) (Jvm.Term.string "MappingTexts$Kinds" (29 : Nat)))) (List.mem_of_getElem? (i := 214) rfl))
      | 5, _ => exact Or.inl (hf (Jvm.Cond.not (Jvm.Cond.eq (Jvm.Term.string "MappingTexts$Kinds" (13 : Nat)) (Jvm.Term.string "MappingTexts$Kinds" (29 : Nat)))) (List.mem_of_getElem? (i := 215) rfl))
      | 6, _ => exact Or.inl (hf (Jvm.Cond.not (Jvm.Cond.eq (Jvm.Term.string "MappingTexts$Kinds" (15 : Nat)) (Jvm.Term.string "MappingTexts$Kinds" (29 : Nat)))) (List.mem_of_getElem? (i := 216) rfl))
      | 7, _ => exact Or.inl (hf (Jvm.Cond.not (Jvm.Cond.eq (Jvm.Term.string "MappingTexts$Kinds" (17 : Nat)) (Jvm.Term.string "MappingTexts$Kinds" (29 : Nat)))) (List.mem_of_getElem? (i := 217) rfl))
      | 8, _ => exact Or.inl (hf (Jvm.Cond.not (Jvm.Cond.eq (Jvm.Term.string "MappingTexts$Kinds" (19 : Nat)) (Jvm.Term.string "MappingTexts$Kinds" (29 : Nat)))) (List.mem_of_getElem? (i := 218) rfl))
      | 9, _ => exact Or.inl (hf (Jvm.Cond.not (Jvm.Cond.eq (Jvm.Term.string "MappingTexts$Kinds" (21 : Nat)) (Jvm.Term.string "MappingTexts$Kinds" (29 : Nat)))) (List.mem_of_getElem? (i := 219) rfl))
      | 10, _ => exact Or.inl (hf (Jvm.Cond.not (Jvm.Cond.eq (Jvm.Term.string "MappingTexts$Kinds" (23 : Nat)) (Jvm.Term.string "MappingTexts$Kinds" (29 : Nat)))) (List.mem_of_getElem? (i := 220) rfl))
      | 11, _ => exact Or.inl (hf (Jvm.Cond.not (Jvm.Cond.eq (Jvm.Term.string "MappingTexts$Kinds" (25 : Nat)) (Jvm.Term.string "MappingTexts$Kinds" (29 : Nat)))) (List.mem_of_getElem? (i := 221) rfl))
      | 12, _ => exact Or.inl (hf (Jvm.Cond.not (Jvm.Cond.eq (Jvm.Term.string "MappingTexts$Kinds" (27 : Nat)) (Jvm.Term.string "MappingTexts$Kinds" (29 : Nat)))) (List.mem_of_getElem? (i := 222) rfl))
      | n + 13, h => exact absurd h (by omega)
    | 14, _ =>
      match i, hij with
      | 0, _ => exact Or.inl (hf (Jvm.Cond.not (Jvm.Cond.eq (Jvm.Term.string "MappingTexts$TextReader" (176 : Nat)) (Jvm.Term.string "MappingTexts$Kinds" (31 : Nat)))) (List.mem_of_getElem? (i := 231) rfl))
      | 1, _ => exact Or.inl (hf (Jvm.Cond.not (Jvm.Cond.eq (Jvm.Term.string "MappingTexts$TextReader" (181 : Nat)) (Jvm.Term.string "MappingTexts$Kinds" (31 : Nat)))) (List.mem_of_getElem? (i := 232) rfl))
      | 2, _ => exact Or.inl (hf (Jvm.Cond.not (Jvm.Cond.eq (Jvm.Term.string "MappingTexts$Kinds" (7 : Nat)) (Jvm.Term.string "MappingTexts$Kinds" (31 : Nat)))) (List.mem_of_getElem? (i := 233) rfl))
      | 3, _ => exact Or.inl (hf (Jvm.Cond.not (Jvm.Cond.eq (Jvm.Term.string "MappingTexts$Kinds" (9 : Nat)) (Jvm.Term.string "MappingTexts$Kinds" (31 : Nat)))) (List.mem_of_getElem? (i := 234) rfl))
      | 4, _ => exact Or.inl (hf (Jvm.Cond.not (Jvm.Cond.eq (Jvm.Term.string "MappingTexts$Kinds" (11 : Nat)) (Jvm.Term.string "MappingTexts$Kinds" (31 : Nat)))) (List.mem_of_getElem? (i := 235) rfl))
      | 5, _ => exact Or.inl (hf (Jvm.Cond.not (Jvm.Cond.eq (Jvm.Term.string "MappingTexts$Kinds" (13 : Nat)) (Jvm.Term.string "MappingTexts$Kinds" (31 : Nat)))) (List.mem_of_getElem? (i := 236) rfl))
      | 6, _ => exact Or.inl (hf (Jvm.Cond.not (Jvm.Cond.eq (Jvm.Term.string "MappingTexts$Kinds" (15 : Nat)) (Jvm.Term.string "MappingTexts$Kinds" (31 : Nat)))) (List.mem_of_getElem? (i := 237) rfl))
      | 7, _ => exact Or.inl (hf (Jvm.Cond.not (Jvm.Cond.eq (Jvm.Term.string "MappingTexts$Kinds" (17 : Nat)) (Jvm.Term.string "MappingTexts$Kinds" (31 : Nat)))) (List.mem_of_getElem? (i := 238) rfl))
      | 8, _ => exact Or.inl (hf (Jvm.Cond.not (Jvm.Cond.eq (Jvm.Term.string "MappingTexts$Kinds" (19 : Nat)) (Jvm.Term.string "MappingTexts$Kinds" (31 : Nat)))) (List.mem_of_getElem? (i := 239) rfl))
      | 9, _ => exact Or.inl (hf (Jvm.Cond.not (Jvm.Cond.eq (Jvm.Term.string "MappingTexts$Kinds" (21 : Nat)) (Jvm.Term.string "MappingTexts$Kinds" (31 : Nat)))) (List.mem_of_getElem? (i := 240) rfl))
      | 10, _ => exact Or.inl (hf (Jvm.Cond.not (Jvm.Cond.eq (Jvm.Term.string "MappingTexts$Kinds" (23 : Nat)) (Jvm.Term.string "MappingTexts$Kinds" (31 : Nat)))) (List.mem_of_getElem? (i := 241) rfl))
      | 11, _ => exact Or.inl (hf (Jvm.Cond.not (Jvm.Cond.eq (Jvm.Term.string "MappingTexts$Kinds" (25 : Nat)) (Jvm.Term.string "MappingTexts$Kinds" (31 : Nat)))) (List.mem_of_getElem? (i := 242) rfl))
      | 12, _ => exact Or.inl (hf (Jvm.Cond.not (Jvm.Cond.eq (Jvm.Term.string "MappingTexts$Kinds" (27 : Nat)) (Jvm.Term.string "MappingTexts$Kinds" (31 : Nat)))) (List.mem_of_getElem? (i := 243) rfl))
      | 13, _ => exact Or.inl (hf (Jvm.Cond.not (Jvm.Cond.eq (Jvm.Term.string "MappingTexts$Kinds" (29 : Nat)) (Jvm.Term.string "MappingTexts$Kinds" (31 : Nat)))) (List.mem_of_getElem? (i := 244) rfl))
      | n + 14, h => exact absurd h (by omega)
    | 15, _ =>
      match i, hij with
      | 0, _ => exact Or.inl (hf (Jvm.Cond.not (Jvm.Cond.eq (Jvm.Term.string "MappingTexts$TextReader" (176 : Nat)) (Jvm.Term.string "MappingTexts$Kinds" (33 : Nat)))) (List.mem_of_getElem? (i := 251) rfl))
      | 1, _ => exact Or.inl (hf (Jvm.Cond.not (Jvm.Cond.eq (Jvm.Term.string "MappingTexts$TextReader" (181 : Nat)) (Jvm.Term.string "MappingTexts$Kinds" (33 : Nat)))) (List.mem_of_getElem? (i := 252) rfl))
      | 2, _ => exact Or.inl (hf (Jvm.Cond.not (Jvm.Cond.eq (Jvm.Term.string "MappingTexts$Kinds" (7 : Nat)) (Jvm.Term.string "MappingTexts$Kinds" (33 : Nat)))) (List.mem_of_getElem? (i := 253) rfl))
      | 3, _ => exact Or.inl (hf (Jvm.Cond.not (Jvm.Cond.eq (Jvm.Term.string "MappingTexts$Kinds" (9 : Nat)) (Jvm.Term.string "MappingTexts$Kinds" (33 : Nat)))) (List.mem_of_getElem? (i := 254) rfl))
      | 4, _ => exact Or.inl (hf (Jvm.Cond.not (Jvm.Cond.eq (Jvm.Term.string "MappingTexts$Kinds" (11 : Nat)) (Jvm.Term.string "MappingTexts$Kinds" (33 : Nat)))) (List.mem_of_getElem? (i := 255) rfl))
      | 5, _ => exact Or.inl (hf (Jvm.Cond.not (Jvm.Cond.eq (Jvm.Term.string "MappingTexts$Kinds" (13 : Nat)) (Jvm.Term.string "MappingTexts$Kinds" (33 : Nat)))) (List.mem_of_getElem? (i := 256) rfl))
      | 6, _ => exact Or.inl (hf (Jvm.Cond.not (Jvm.Cond.eq (Jvm.Term.string "MappingTexts$Kinds" (15 : Nat)) (Jvm.Term.string "MappingTexts$Kinds" (33 : Nat)))) (List.mem_of_getElem? (i := 257) rfl))
      | 7, _ => exact Or.inl (hf (Jvm.Cond.not (Jvm.Cond.eq (Jvm.Term.string "MappingTexts$Kinds" (17 : Nat)) (Jvm.Term.string "MappingTexts$Kinds" (33 : Nat)))) (List.mem_of_getElem? (i := 258) rfl))
      | 8, _ => exact Or.inl (hf (Jvm.Cond.not (Jvm.Cond.eq (Jvm.Term.string "MappingTexts$Kinds" (19 : Nat)) (Jvm.Term.string "MappingTexts$Kinds" (33 : Nat)))) (List.mem_of_getElem? (i := 259) rfl))
      | 9, _ => exact Or.inl (hf (Jvm.Cond.not (Jvm.Cond.eq (Jvm.Term.string "MappingTexts$Kinds" (21 : Nat)) (Jvm.Term.string "MappingTexts$Kinds" (33 : Nat)))) (List.mem_of_getElem? (i := 260) rfl))
      | 10, _ => exact Or.inl (hf (Jvm.Cond.not (Jvm.Cond.eq (Jvm.Term.string "MappingTexts$Kinds" (23 : Nat)) (Jvm.Term.string "MappingTexts$Kinds" (33 : Nat)))) (List.mem_of_getElem? (i := 261) rfl))
      | 11, _ => exact Or.inl (hf (Jvm.Cond.not (Jvm.Cond.eq (Jvm.Term.string "MappingTexts$Kinds" (25 : Nat)) (Jvm.Term.string "MappingTexts$Kinds" (33 : Nat)))) (List.mem_of_getElem? (i := 262) rfl))
      | 12, _ => exact Or.inl (hf (Jvm.Cond.not (Jvm.Cond.eq (Jvm.Term.string "MappingTexts$Kinds" (27 : Nat)) (Jvm.Term.string "MappingTexts$Kinds" (33 : Nat)))) (List.mem_of_getElem? (i := 263) rfl))
      | 13, _ => exact Or.inl (hf (Jvm.Cond.not (Jvm.Cond.eq (Jvm.Term.string "MappingTexts$Kinds" (29 : Nat)) (Jvm.Term.string "MappingTexts$Kinds" (33 : Nat)))) (List.mem_of_getElem? (i := 264) rfl))
      | 14, _ => exact Or.inl (hf (Jvm.Cond.not (Jvm.Cond.eq (Jvm.Term.string "MappingTexts$Kinds" (31 : Nat)) (Jvm.Term.string "MappingTexts$Kinds" (33 : Nat)))) (List.mem_of_getElem? (i := 265) rfl))
      | n + 15, h => exact absurd h (by omega)
    | 16, _ =>
      match i, hij with
      | 0, _ => exact Or.inl (hf (Jvm.Cond.not (Jvm.Cond.eq (Jvm.Term.string "MappingTexts$TextReader" (176 : Nat)) (Jvm.Term.string "MappingTexts$Kinds" (35 : Nat)))) (List.mem_of_getElem? (i := 272) rfl))
      | 1, _ => exact Or.inl (hf (Jvm.Cond.not (Jvm.Cond.eq (Jvm.Term.string "MappingTexts$TextReader" (181 : Nat)) (Jvm.Term.string "MappingTexts$Kinds" (35 : Nat)))) (List.mem_of_getElem? (i := 273) rfl))
      | 2, _ => exact Or.inl (hf (Jvm.Cond.not (Jvm.Cond.eq (Jvm.Term.string "MappingTexts$Kinds" (7 : Nat)) (Jvm.Term.string "MappingTexts$Kinds" (35 : Nat)))) (List.mem_of_getElem? (i := 274) rfl))
      | 3, _ => exact Or.inl (hf (Jvm.Cond.not (Jvm.Cond.eq (Jvm.Term.string "MappingTexts$Kinds" (9 : Nat)) (Jvm.Term.string "MappingTexts$Kinds" (35 : Nat)))) (List.mem_of_getElem? (i := 275) rfl))
      | 4, _ => exact Or.inl (hf (Jvm.Cond.not (Jvm.Cond.eq (Jvm.Term.string "MappingTexts$Kinds" (11 : Nat)) (Jvm.Term.string "MappingTexts$Kinds" (35 : Nat)))) (List.mem_of_getElem? (i := 276) rfl))
      | 5, _ => exact Or.inl (hf (Jvm.Cond.not (Jvm.Cond.eq (Jvm.Term.string "MappingTexts$Kinds" (13 : Nat)) (Jvm.Term.string "MappingTexts$Kinds" (35 : Nat)))) (List.mem_of_getElem? (i := 277) rfl))
      | 6, _ => exact Or.inl (hf (Jvm.Cond.not (Jvm.Cond.eq (Jvm.Term.string "MappingTexts$Kinds" (15 : Nat)) (Jvm.Term.string "MappingTexts$Kinds" (35 : Nat)))) (List.mem_of_getElem? (i := 278) rfl))
      | 7, _ => exact Or.inl (hf (Jvm.Cond.not (Jvm.Cond.eq (Jvm.Term.string "MappingTexts$Kinds" (17 : Nat)) (Jvm.Term.string "MappingTexts$Kinds" (35 : Nat)))) (List.mem_of_getElem? (i := 279) rfl))
      | 8, _ => exact Or.inl (hf (Jvm.Cond.not (Jvm.Cond.eq (Jvm.Term.string "MappingTexts$Kinds" (19 : Nat)) (Jvm.Term.string "MappingTexts$Kinds" (35 : Nat)))) (List.mem_of_getElem? (i := 280) rfl))
      | 9, _ => exact Or.inl (hf (Jvm.Cond.not (Jvm.Cond.eq (Jvm.Term.string "MappingTexts$Kinds" (21 : Nat)) (Jvm.Term.string "MappingTexts$Kinds" (35 : Nat)))) (List.mem_of_getElem? (i := 281) rfl))
      | 10, _ => exact Or.inl (hf (Jvm.Cond.not (Jvm.Cond.eq (Jvm.Term.string "MappingTexts$Kinds" (23 : Nat)) (Jvm.Term.string "MappingTexts$Kinds" (35 : Nat)))) (List.mem_of_getElem? (i := 282) rfl))
      | 11, _ => exact Or.inl (hf (Jvm.Cond.not (Jvm.Cond.eq (Jvm.Term.string "MappingTexts$Kinds" (25 : Nat)) (Jvm.Term.string "MappingTexts$Kinds" (35 : Nat)))) (List.mem_of_getElem? (i := 283) rfl))
      | 12, _ => exact Or.inl (hf (Jvm.Cond.not (Jvm.Cond.eq (Jvm.Term.string "MappingTexts$Kinds" (27 : Nat)) (Jvm.Term.string "MappingTexts$Kinds" (35 : Nat)))) (List.mem_of_getElem? (i := 284) rfl))
      | 13, _ => exact Or.inl (hf (Jvm.Cond.not (Jvm.Cond.eq (Jvm.Term.string "MappingTexts$Kinds" (29 : Nat)) (Jvm.Term.string "MappingTexts$Kinds" (35 : Nat)))) (List.mem_of_getElem? (i := 285) rfl))
      | 14, _ => exact Or.inl (hf (Jvm.Cond.not (Jvm.Cond.eq (Jvm.Term.string "MappingTexts$Kinds" (31 : Nat)) (Jvm.Term.string "MappingTexts$Kinds" (35 : Nat)))) (List.mem_of_getElem? (i := 286) rfl))
      | 15, _ => exact Or.inl (hf (Jvm.Cond.not (Jvm.Cond.eq (Jvm.Term.string "MappingTexts$Kinds" (33 : Nat)) (Jvm.Term.string "MappingTexts$Kinds" (35 : Nat)))) (List.mem_of_getElem? (i := 287) rfl))
      | n + 16, h => exact absurd h (by omega)
    | 17, _ =>
      match i, hij with
      | 0, _ => exact Or.inl (hf (Jvm.Cond.not (Jvm.Cond.eq (Jvm.Term.string "MappingTexts$TextReader" (176 : Nat)) (Jvm.Term.string "MappingTexts$Version" (166 : Nat)))) (List.mem_of_getElem? (i := 346) rfl))
      | 1, _ => exact Or.inl (hf (Jvm.Cond.not (Jvm.Cond.eq (Jvm.Term.string "MappingTexts$TextReader" (181 : Nat)) (Jvm.Term.string "MappingTexts$Version" (166 : Nat)))) (List.mem_of_getElem? (i := 347) rfl))
      | 2, _ => exact Or.inl (hf (Jvm.Cond.not (Jvm.Cond.eq (Jvm.Term.string "MappingTexts$Kinds" (7 : Nat)) (Jvm.Term.string "MappingTexts$Version" (166 : Nat)))) (List.mem_of_getElem? (i := 348) rfl))
      | 3, _ => exact Or.inl (hf (Jvm.Cond.not (Jvm.Cond.eq (Jvm.Term.string "MappingTexts$Kinds" (9 : Nat)) (Jvm.Term.string "MappingTexts$Version" (166 : Nat)))) (List.mem_of_getElem? (i := 349) rfl))
      | 4, _ => exact Or.inl (hf (Jvm.Cond.not (Jvm.Cond.eq (Jvm.Term.string "MappingTexts$Kinds" (11 : Nat)) (Jvm.Term.string "MappingTexts$Version" (166 : Nat)))) (List.mem_of_getElem? (i := 350) rfl))
      | 5, _ => exact Or.inl (hf (Jvm.Cond.not (Jvm.Cond.eq (Jvm.Term.string "MappingTexts$Kinds" (13 : Nat)) (Jvm.Term.string "MappingTexts$Version" (166 : Nat)))) (List.mem_of_getElem? (i := 351) rfl))
      | 6, _ => exact Or.inl (hf (Jvm.Cond.not (Jvm.Cond.eq (Jvm.Term.string "MappingTexts$Kinds" (15 : Nat)) (Jvm.Term.string "MappingTexts$Version" (166 : Nat)))) (List.mem_of_getElem? (i := 352) rfl))
      | 7, _ => exact Or.inl (hf (Jvm.Cond.not (Jvm.Cond.eq (Jvm.Term.string "MappingTexts$Kinds" (17 : Nat)) (Jvm.Term.string "MappingTexts$Version" (166 : Nat)))) (List.mem_of_getElem? (i := 353) rfl))
      | 8, _ => exact Or.inl (hf (Jvm.Cond.not (Jvm.Cond.eq (Jvm.Term.string "MappingTexts$Kinds" (19 : Nat)) (Jvm.Term.string "MappingTexts$Version" (166 : Nat)))) (List.mem_of_getElem? (i := 354) rfl))
      | 9, _ => exact Or.inl (hf (Jvm.Cond.not (Jvm.Cond.eq (Jvm.Term.string "MappingTexts$Kinds" (21 : Nat)) (Jvm.Term.string "MappingTexts$Version" (166 : Nat)))) (List.mem_of_getElem? (i := 355) rfl))
      | 10, _ => exact Or.inl (hf (Jvm.Cond.not (Jvm.Cond.eq (Jvm.Term.string "MappingTexts$Kinds" (23 : Nat)) (Jvm.Term.string "MappingTexts$Version" (166 : Nat)))) (List.mem_of_getElem? (i := 356) rfl))
      | 11, _ => exact Or.inl (hf (Jvm.Cond.not (Jvm.Cond.eq (Jvm.Term.string "MappingTexts$Kinds" (25 : Nat)) (Jvm.Term.string "MappingTexts$Version" (166 : Nat)))) (List.mem_of_getElem? (i := 357) rfl))
      | 12, _ => exact Or.inl (hf (Jvm.Cond.not (Jvm.Cond.eq (Jvm.Term.string "MappingTexts$Kinds" (27 : Nat)) (Jvm.Term.string "MappingTexts$Version" (166 : Nat)))) (List.mem_of_getElem? (i := 358) rfl))
      | 13, _ => exact Or.inl (hf (Jvm.Cond.not (Jvm.Cond.eq (Jvm.Term.string "MappingTexts$Kinds" (29 : Nat)) (Jvm.Term.string "MappingTexts$Version" (166 : Nat)))) (List.mem_of_getElem? (i := 359) rfl))
      | 14, _ => exact Or.inl (hf (Jvm.Cond.not (Jvm.Cond.eq (Jvm.Term.string "MappingTexts$Kinds" (31 : Nat)) (Jvm.Term.string "MappingTexts$Version" (166 : Nat)))) (List.mem_of_getElem? (i := 360) rfl))
      | 15, _ => exact Or.inl (hf (Jvm.Cond.not (Jvm.Cond.eq (Jvm.Term.string "MappingTexts$Kinds" (33 : Nat)) (Jvm.Term.string "MappingTexts$Version" (166 : Nat)))) (List.mem_of_getElem? (i := 361) rfl))
      | 16, _ => exact Or.inl (hf (Jvm.Cond.not (Jvm.Cond.eq (Jvm.Term.string "MappingTexts$Kinds" (35 : Nat)) (Jvm.Term.string "MappingTexts$Version" (166 : Nat)))) (List.mem_of_getElem? (i := 362) rfl))
      | n + 17, h => exact absurd h (by omega)
    | 18, _ =>
      match i, hij with
      | 0, _ => exact Or.inl (hf (Jvm.Cond.not (Jvm.Cond.eq (Jvm.Term.string "MappingTexts$TextReader" (176 : Nat)) (Jvm.Term.string "MappingTexts$Rule" (52 : Nat)))) (List.mem_of_getElem? (i := 374) rfl))
      | 1, _ => exact Or.inl (hf (Jvm.Cond.not (Jvm.Cond.eq (Jvm.Term.string "MappingTexts$TextReader" (181 : Nat)) (Jvm.Term.string "MappingTexts$Rule" (52 : Nat)))) (List.mem_of_getElem? (i := 375) rfl))
      | 2, _ => exact Or.inl (hf (Jvm.Cond.not (Jvm.Cond.eq (Jvm.Term.string "MappingTexts$Kinds" (7 : Nat)) (Jvm.Term.string "MappingTexts$Rule" (52 : Nat)))) (List.mem_of_getElem? (i := 376) rfl))
      | 3, _ => exact Or.inl (hf (Jvm.Cond.not (Jvm.Cond.eq (Jvm.Term.string "MappingTexts$Kinds" (9 : Nat)) (Jvm.Term.string "MappingTexts$Rule" (52 : Nat)))) (List.mem_of_getElem? (i := 377) rfl))
      | 4, _ => exact Or.inl (hf (Jvm.Cond.not (Jvm.Cond.eq (Jvm.Term.string "MappingTexts$Kinds" (11 : Nat)) (Jvm.Term.string "MappingTexts$Rule" (52 : Nat)))) (List.mem_of_getElem? (i := 378) rfl))
      | 5, _ => exact Or.inl (hf (Jvm.Cond.not (Jvm.Cond.eq (Jvm.Term.string "MappingTexts$Kinds" (13 : Nat)) (Jvm.Term.string "MappingTexts$Rule" (52 : Nat)))) (List.mem_of_getElem? (i := 379) rfl))
      | 6, _ => exact Or.inl (hf (Jvm.Cond.not (Jvm.Cond.eq (Jvm.Term.string "MappingTexts$Kinds" (15 : Nat)) (Jvm.Term.string "MappingTexts$Rule" (52 : Nat)))) (List.mem_of_getElem? (i := 380) rfl))
      | 7, _ => exact Or.inl (hf (Jvm.Cond.not (Jvm.Cond.eq (Jvm.Term.string "MappingTexts$Kinds" (17 : Nat)) (Jvm.Term.string "MappingTexts$Rule" (52 : Nat)))) (List.mem_of_getElem? (i := 381) rfl))
      | 8, _ => exact Or.inl (hf (Jvm.Cond.not (Jvm.Cond.eq (Jvm.Term.string "MappingTexts$Kinds" (19 : Nat)) (Jvm.Term.string "MappingTexts$Rule" (52 : Nat)))) (List.mem_of_getElem? (i := 382) rfl))
      | 9, _ => exact Or.inl (hf (Jvm.Cond.not (Jvm.Cond.eq (Jvm.Term.string "MappingTexts$Kinds" (21 : Nat)) (Jvm.Term.string "MappingTexts$Rule" (52 : Nat)))) (List.mem_of_getElem? (i := 383) rfl))
      | 10, _ => exact Or.inl (hf (Jvm.Cond.not (Jvm.Cond.eq (Jvm.Term.string "MappingTexts$Kinds" (23 : Nat)) (Jvm.Term.string "MappingTexts$Rule" (52 : Nat)))) (List.mem_of_getElem? (i := 384) rfl))
      | 11, _ => exact Or.inl (hf (Jvm.Cond.not (Jvm.Cond.eq (Jvm.Term.string "MappingTexts$Kinds" (25 : Nat)) (Jvm.Term.string "MappingTexts$Rule" (52 : Nat)))) (List.mem_of_getElem? (i := 385) rfl))
      | 12, _ => exact Or.inl (hf (Jvm.Cond.not (Jvm.Cond.eq (Jvm.Term.string "MappingTexts$Kinds" (27 : Nat)) (Jvm.Term.string "MappingTexts$Rule" (52 : Nat)))) (List.mem_of_getElem? (i := 386) rfl))
      | 13, _ => exact Or.inl (hf (Jvm.Cond.not (Jvm.Cond.eq (Jvm.Term.string "MappingTexts$Kinds" (29 : Nat)) (Jvm.Term.string "MappingTexts$Rule" (52 : Nat)))) (List.mem_of_getElem? (i := 387) rfl))
      | 14, _ => exact Or.inl (hf (Jvm.Cond.not (Jvm.Cond.eq (Jvm.Term.string "MappingTexts$Kinds" (31 : Nat)) (Jvm.Term.string "MappingTexts$Rule" (52 : Nat)))) (List.mem_of_getElem? (i := 388) rfl))
      | 15, _ => exact Or.inl (hf (Jvm.Cond.not (Jvm.Cond.eq (Jvm.Term.string "MappingTexts$Kinds" (33 : Nat)) (Jvm.Term.string "MappingTexts$Rule" (52 : Nat)))) (List.mem_of_getElem? (i := 389) rfl))
      | 16, _ => exact Or.inl (hf (Jvm.Cond.not (Jvm.Cond.eq (Jvm.Term.string "MappingTexts$Kinds" (35 : Nat)) (Jvm.Term.string "MappingTexts$Rule" (52 : Nat)))) (List.mem_of_getElem? (i := 390) rfl))
      | 17, _ => exact Or.inl (hf (Jvm.Cond.not (Jvm.Cond.eq (Jvm.Term.string "MappingTexts$Version" (166 : Nat)) (Jvm.Term.string "MappingTexts$Rule" (52 : Nat)))) (List.mem_of_getElem? (i := 393) rfl))
      | n + 18, h => exact absurd h (by omega)
    | 19, _ =>
      match i, hij with
      | 0, _ => exact Or.inl (hf (Jvm.Cond.not (Jvm.Cond.eq (Jvm.Term.string "MappingTexts$TextReader" (176 : Nat)) (Jvm.Term.string "MappingTexts$Version" (157 : Nat)))) (List.mem_of_getElem? (i := 404) rfl))
      | 1, _ => exact Or.inl (hf (Jvm.Cond.not (Jvm.Cond.eq (Jvm.Term.string "MappingTexts$TextReader" (181 : Nat)) (Jvm.Term.string "MappingTexts$Version" (157 : Nat)))) (List.mem_of_getElem? (i := 405) rfl))
      | 2, _ => exact Or.inl (hf (Jvm.Cond.not (Jvm.Cond.eq (Jvm.Term.string "MappingTexts$Kinds" (7 : Nat)) (Jvm.Term.string "MappingTexts$Version" (157 : Nat)))) (List.mem_of_getElem? (i := 406) rfl))
      | 3, _ => exact Or.inl (hf (Jvm.Cond.not (Jvm.Cond.eq (Jvm.Term.string "MappingTexts$Kinds" (9 : Nat)) (Jvm.Term.string "MappingTexts$Version" (157 : Nat)))) (List.mem_of_getElem? (i := 407) rfl))
      | 4, _ => exact Or.inl (hf (Jvm.Cond.not (Jvm.Cond.eq (Jvm.Term.string "MappingTexts$Kinds" (11 : Nat)) (Jvm.Term.string "MappingTexts$Version" (157 : Nat)))) (List.mem_of_getElem? (i := 408) rfl))
      | 5, _ => exact Or.inl (hf (Jvm.Cond.not (Jvm.Cond.eq (Jvm.Term.string "MappingTexts$Kinds" (13 : Nat)) (Jvm.Term.string "MappingTexts$Version" (157 : Nat)))) (List.mem_of_getElem? (i := 409) rfl))
      | 6, _ => exact Or.inl (hf (Jvm.Cond.not (Jvm.Cond.eq (Jvm.Term.string "MappingTexts$Kinds" (15 : Nat)) (Jvm.Term.string "MappingTexts$Version" (157 : Nat)))) (List.mem_of_getElem? (i := 410) rfl))
      | 7, _ => exact Or.inl (hf (Jvm.Cond.not (Jvm.Cond.eq (Jvm.Term.string "MappingTexts$Kinds" (17 : Nat)) (Jvm.Term.string "MappingTexts$Version" (157 : Nat)))) (List.mem_of_getElem? (i := 411) rfl))
      | 8, _ => exact Or.inl (hf (Jvm.Cond.not (Jvm.Cond.eq (Jvm.Term.string "MappingTexts$Kinds" (19 : Nat)) (Jvm.Term.string "MappingTexts$Version" (157 : Nat)))) (List.mem_of_getElem? (i := 412) rfl))
      | 9, _ => exact Or.inl (hf (Jvm.Cond.not (Jvm.Cond.eq (Jvm.Term.string "MappingTexts$Kinds" (21 : Nat)) (Jvm.Term.string "MappingTexts$Version" (157 : Nat)))) (List.mem_of_getElem? (i := 413) rfl))
      | 10, _ => exact Or.inl (hf (Jvm.Cond.not (Jvm.Cond.eq (Jvm.Term.string "MappingTexts$Kinds" (23 : Nat)) (Jvm.Term.string "MappingTexts$Version" (157 : Nat)))) (List.mem_of_getElem? (i := 414) rfl))
      | 11, _ => exact Or.inl (hf (Jvm.Cond.not (Jvm.Cond.eq (Jvm.Term.string "MappingTexts$Kinds" (25 : Nat)) (Jvm.Term.string "MappingTexts$Version" (157 : Nat)))) (List.mem_of_getElem? (i := 415) rfl))
      | 12, _ => exact Or.inl (hf (Jvm.Cond.not (Jvm.Cond.eq (Jvm.Term.string "MappingTexts$Kinds" (27 : Nat)) (Jvm.Term.string "MappingTexts$Version" (157 : Nat)))) (List.mem_of_getElem? (i := 416) rfl))
      | 13, _ => exact Or.inl (hf (Jvm.Cond.not (Jvm.Cond.eq (Jvm.Term.string "MappingTexts$Kinds" (29 : Nat)) (Jvm.Term.string "MappingTexts$Version" (157 : Nat)))) (List.mem_of_getElem? (i := 417) rfl))
      | 14, _ => exact Or.inl (hf (Jvm.Cond.not (Jvm.Cond.eq (Jvm.Term.string "MappingTexts$Kinds" (31 : Nat)) (Jvm.Term.string "MappingTexts$Version" (157 : Nat)))) (List.mem_of_getElem? (i := 418) rfl))
      | 15, _ => exact Or.inl (hf (Jvm.Cond.not (Jvm.Cond.eq (Jvm.Term.string "MappingTexts$Kinds" (33 : Nat)) (Jvm.Term.string "MappingTexts$Version" (157 : Nat)))) (List.mem_of_getElem? (i := 419) rfl))
      | 16, _ => exact Or.inl (hf (Jvm.Cond.not (Jvm.Cond.eq (Jvm.Term.string "MappingTexts$Kinds" (35 : Nat)) (Jvm.Term.string "MappingTexts$Version" (157 : Nat)))) (List.mem_of_getElem? (i := 420) rfl))
      | 17, _ => exact Or.inl (hf (Jvm.Cond.not (Jvm.Cond.eq (Jvm.Term.string "MappingTexts$Version" (166 : Nat)) (Jvm.Term.string "MappingTexts$Version" (157 : Nat)))) (List.mem_of_getElem? (i := 423) rfl))
      | 18, _ => exact Or.inl (hf (Jvm.Cond.not (Jvm.Cond.eq (Jvm.Term.string "MappingTexts$Rule" (52 : Nat)) (Jvm.Term.string "MappingTexts$Version" (157 : Nat)))) (List.mem_of_getElem? (i := 424) rfl))
      | n + 19, h => exact absurd h (by omega)
    | n + 20, h => exact absurd h (by omega)
  intro i j hi hj hne
  rcases Nat.lt_or_ge i j with h | h
  · exact up i j h hj
  · exact (up j i (by omega) hi).symm
/-- two terms said to be one object -/
theorem eq_one {args : Array Value} {s : State} {t1 t2 : Term} {a : Nat} (h : (Cond.eq t1 t2).before args s = true) (h1 : t1.eval args s none [] s = some (.ref a)) : t2.eval args s none [] s = some (.ref a) := by
  obtain ⟨w, e1, e2⟩ := Cond.eq_one (show (Cond.eq t1 t2).holds args s none s [] = true from h)
  rw [h1] at e1
  cases e1
  exact e2
theorem eq_two {args : Array Value} {s : State} {t1 t2 : Term} {a : Nat} (h : (Cond.eq t2 t1).before args s = true) (h1 : t1.eval args s none [] s = some (.ref a)) : t2.eval args s none [] s = some (.ref a) := by
  obtain ⟨w, e1, e2⟩ := Cond.eq_one (show (Cond.eq t2 t1).holds args s none s [] = true from h)
  rw [h1] at e2
  cases e2
  exact e1
theorem str_any {A : Array Value} {s : State} {o : String} {k : Nat} {v : Value} (h : (Term.string o k).eval A s none [] s = some v) : (Term.string o k).eval #[] s none [] s = some v := by
  rw [Term.string_eval_of_vm (args := #[]) (rfl : s.vm = s.vm)]
  first | exact h | (rw [← Term.string_eval_of_vm (args := A) (rfl : s.vm = s.vm)]; exact h)
theorem vk_any {A : Array Value} {s : State} {o tx : String} {k : Nat} (h : (Cond.stringRef o k tx).before A s = true) : (Cond.stringRef o k tx).before #[] s = true := by
  first | exact h | (simp only [Cond.before, Cond.holds, Cond.value] at h ⊢; exact h)
set_option maxRecDepth 100000 in
set_option maxHeartbeats 4000000 in
theorem kk_start {args : Array Value} {s : State} (hts : ∀ w ∈ lw_tbl, w.before args s = true) (hgv : (Jvm.Cond.and given_1 narrow_1).before args s = true) : ∃ Ω : Wd, KK Ω (fun q => s.heap.size ≤ q) s := by
  have hf : ∀ c ∈ FL, c.before args s = true := flat_of_before _ hgv
  have hG : ∀ w ∈ GW, w.before args s = true := fun w h => hts w (gw_tbl h)
  have hA : ∀ a : Nat, a < s.heap.size → ¬ (fun q => s.heap.size ≤ q) a := fun a h => Nat.not_le.mpr h
  obtain ⟨c0, i0, k0⟩ := u_known (C := RX0) (T := TX0) (N := 4) hG inG0 (hG _ gw_1_71)
  obtain ⟨c1, i1, k1⟩ := u_known (C := RX1) (T := TX1) (N := 9) hG inG1 (hG _ gw_1_102)
  obtain ⟨c2, i2, k2⟩ := u_known (C := RX3) (T := TX3) (N := 3) hG inG3 (hG _ gw_1_26)
  obtain ⟨c3, i3, k3⟩ := u_known (C := RX4) (T := TX4) (N := 4) hG inG4 (hG _ gw_1_168)
  obtain ⟨c4, i4, k4⟩ := u_known (C := RX5) (T := TX5) (N := 17) hG inG5 (hG _ gw_1_225)
  obtain ⟨c5, i5, k5⟩ := u_known (C := RX6) (T := TX6) (N := 5) hG inG6 (hG _ gw_1_46)
  obtain ⟨c6, i6, k6⟩ := u_known (C := RX7) (T := TX7) (N := 6) hG inG7 (hG _ gw_1_93)
  obtain ⟨c7, i7, k7⟩ := u_known (C := RX8) (T := TX8) (N := 10) hG inG8 (hG _ gw_1_18)
  obtain ⟨c8, i8, k8⟩ := u_known (C := RX9) (T := TX9) (N := 58) hG inG9 (hG _ gw_4_224)
  obtain ⟨a0, ka0, co0, h0a, h0b, h0c⟩ := Cond.arrayClass_spec (show (Cond.arrayClass .int).holds args s none s [] = true from hG _ gw_1_67)
  obtain ⟨a1, ka1, co1, h1a, h1b, h1c⟩ := Cond.arrayClass_spec (show (Cond.arrayClass .byte).holds args s none s [] = true from hG _ gw_1_44)
  obtain ⟨a2, ka2, co2, h2a, h2b, h2c⟩ := Cond.arrayClass_spec (show (Cond.arrayClass .long).holds args s none s [] = true from hG _ gw_5_179)
  obtain ⟨a3, ka3, co3, h3a, h3b, h3c⟩ := Cond.arrayClass_spec (show (Cond.arrayClass .boolean).holds args s none s [] = true from hG _ gw_5_180)
  obtain ⟨co4, a4, ka4, h4a, -, h4b, h4c, h4d⟩ := Cond.arrayOver_spec (show (Cond.arrayOver (.object "MappingTexts$Field")).holds args s none s [] = true from hts _ lt_1_99)
  obtain ⟨co5, a5, ka5, h5a, -, h5b, h5c, h5d⟩ := Cond.arrayOver_spec (show (Cond.arrayOver (.object "MappingTexts$Rule")).holds args s none s [] = true from hts _ lt_1_101)
  obtain ⟨co6, a6, ka6, h6a, -, h6b, h6c, h6d⟩ := Cond.arrayOver_spec (show (Cond.arrayOver (.object "MappingTexts$Version")).holds args s none s [] = true from hts _ lt_1_69)
  obtain ⟨adK, adV, hS, hE⟩ := vk_Sof (args := args) (s := s) (N := nSt) (tm := tmS) (len := lenSt) (byt := stTxt) (A := fun q => s.heap.size ≤ q) (fun i hi => by have := (st_len i hi).2; omega) (ps_ex hf) (ps_co hf) (ps_ar hf) (ps_le hf) (ps_el hf) (ps_ne hf) hA
  refine ⟨((fun c => [c0, c1, c2, c3, c4, c5, c6, c7, c8].getD c 0, fun c => ([i0, i1, i2, i3, i4, i5, i6, i7, i8] : List (Nat → Nat)).getD c (fun _ => 0)), fun j => [a0, a1, a2, a3, a4, a5, a6].getD j 0, adK, adV), ⟨?_, ?_⟩, hS, ?_, ?_, ?_, ?_, ?_⟩
  · intro c q hq
    match c, hq with
    | 0, hq => cases hq; exact k0
    | 1, hq => cases hq; exact k1
    | 2, hq => cases hq; exact k2
    | 3, hq => cases hq; exact k3
    | 4, hq => cases hq; exact k4
    | 5, hq => cases hq; exact k5
    | 6, hq => cases hq; exact k6
    | 7, hq => cases hq; exact k7
    | 8, hq => cases hq; exact k8
    | n + 9, hq => exact absurd hq (by rw [List.getElem?_eq_none (Nat.le_add_left 9 n)]; exact fun h => nomatch h)
  · intro j q hq
    match j, hq with
    | 0, hq => cases hq; exact ⟨fun n z => ⟨fun k h => (by cases h), ka0, h0b, co0, h0c⟩, h0a⟩
    | 1, hq => cases hq; exact ⟨fun n z => ⟨fun k h => (by cases h), ka1, h1b, co1, h1c⟩, h1a⟩
    | 2, hq => cases hq; exact ⟨fun n z => ⟨fun k h => (by cases h), ka2, h2b, co2, h2c⟩, h2a⟩
    | 3, hq => cases hq; exact ⟨fun n z => ⟨fun k h => (by cases h), ka3, h3b, co3, h3c⟩, h3a⟩
    | 4, hq => cases hq; exact ⟨fun n z => ⟨fun k h => (by cases h), ka4, h4b, co4, h4c⟩, ka4, co4, h4b, h4c, h4a, h4d⟩
    | 5, hq => cases hq; exact ⟨fun n z => ⟨fun k h => (by cases h), ka5, h5b, co5, h5c⟩, ka5, co5, h5b, h5c, h5a, h5d⟩
    | 6, hq => cases hq; exact ⟨fun n z => ⟨fun k h => (by cases h), ka6, h6b, co6, h6c⟩, ka6, co6, h6b, h6c, h6a, h6d⟩
    | n + 7, hq => exact absurd hq (by rw [show (tysW _)[n + 7]? = none from List.getElem?_eq_none (Nat.le_add_left 7 n)]; exact fun h => nomatch h)
  · intro q hq
    obtain ⟨k, hk⟩ := List.getElem?_of_mem hq
    match k, hk with
    | 0, hk => cases hk; exact vk_R.of (A := #[]) (vk_any (hts _ lt_2_164)) (str_any (hE 0 (by decide)))
    | 1, hk => cases hk; exact vk_R.of (A := #[]) (vk_any (hts _ lt_2_223)) (str_any (hE 1 (by decide)))
    | 2, hk => cases hk; exact vk_R.of (A := #[]) (vk_any (hts _ lt_3_60)) (str_any (hE 2 (by decide)))
    | 3, hk => cases hk; exact vk_R.of (A := #[]) (vk_any (hts _ lt_3_61)) (str_any (hE 3 (by decide)))
    | 4, hk => cases hk; exact vk_R.of (A := #[]) (vk_any (hts _ lt_3_62)) (str_any (hE 4 (by decide)))
    | 5, hk => cases hk; exact vk_R.of (A := #[]) (vk_any (hts _ lt_3_63)) (str_any (hE 5 (by decide)))
    | 6, hk => cases hk; exact vk_R.of (A := #[]) (vk_any (hts _ lt_3_64)) (str_any (hE 6 (by decide)))
    | 7, hk => cases hk; exact vk_R.of (A := #[]) (vk_any (hts _ lt_3_65)) (str_any (hE 7 (by decide)))
    | 8, hk => cases hk; exact vk_R.of (A := #[]) (vk_any (hts _ lt_3_66)) (str_any (hE 8 (by decide)))
    | 9, hk => cases hk; exact vk_R.of (A := #[]) (vk_any (hts _ lt_3_67)) (str_any (hE 9 (by decide)))
    | 10, hk => cases hk; exact vk_R.of (A := #[]) (vk_any (hts _ lt_3_98)) (str_any (hE 10 (by decide)))
    | 11, hk => cases hk; exact vk_R.of (A := #[]) (vk_any (hts _ lt_3_99)) (str_any (hE 11 (by decide)))
    | 12, hk => cases hk; exact vk_R.of (A := #[]) (vk_any (hts _ lt_3_100)) (str_any (hE 12 (by decide)))
    | 13, hk => cases hk; exact vk_R.of (A := #[]) (vk_any (hts _ lt_3_101)) (str_any (hE 13 (by decide)))
    | 14, hk => cases hk; exact vk_R.of (A := #[]) (vk_any (hts _ lt_3_102)) (str_any (hE 14 (by decide)))
    | 15, hk => cases hk; exact vk_R.of (A := #[]) (vk_any (hts _ lt_3_103)) (str_any (hE 15 (by decide)))
    | 16, hk => cases hk; exact vk_R.of (A := #[]) (vk_any (hts _ lt_3_104)) (str_any (hE 16 (by decide)))
    | 17, hk => cases hk; exact vk_R.of (A := #[]) (vk_any (hts _ lt_4_32)) (str_any (eq_one (hf (Jvm.Cond.eq (Jvm.Term.string "MappingTexts$TextReader" (176 : Nat)) (Jvm.Term.string "MappingTexts$Version" (75 : Nat))) (List.mem_of_getElem? (i := 296) rfl)) (hE 0 (by decide))))
    | 18, hk => cases hk; exact vk_R.of (A := #[]) (vk_any (hts _ lt_4_34)) (str_any (eq_one (hf (Jvm.Cond.eq (Jvm.Term.string "MappingTexts$TextReader" (181 : Nat)) (Jvm.Term.string "MappingTexts$Version" (81 : Nat))) (List.mem_of_getElem? (i := 323) rfl)) (hE 1 (by decide))))
    | 19, hk => cases hk; exact vk_R.of (A := #[]) (vk_any (hts _ lt_4_136)) (str_any (hE 17 (by decide)))
    | 20, hk => cases hk; exact vk_R.of (A := #[]) (vk_any (hts _ lt_4_169)) (str_any (hE 18 (by decide)))
    | 21, hk => cases hk; exact vk_R.of (A := #[]) (vk_any (hts _ lt_4_174)) (str_any (hE 19 (by decide)))
    | n + 22, hk => exact absurd hk (by rw [List.getElem?_eq_none (Nat.le_add_left 22 n)]; exact fun h => nomatch h)
  · exact va_Zof (hts _ lt_2_183) (hG _ gw_1_11) (va_eqi (hf (Jvm.Cond.eq (Jvm.Term.static "java/lang/String" "COMPACT_STRINGS" "Z") (Jvm.Term.int (1 : Int32))) (List.mem_of_getElem? (i := 4) rfl))) hA
  · exact va_Zqof (hts _ lt_2_200) (hG _ gw_1_13) (hf (Jvm.Cond.isRef (Jvm.Term.static "jdk/internal/util/Preconditions" "SIOOBE_FORMATTER" "Ljava/util/function/BiFunction;")) (List.mem_of_getElem? (i := 5) rfl)) hA
  · intro q hq
    obtain ⟨k, hk⟩ := List.getElem?_of_mem hq
    match k, hk with
    | 0, hk => cases hk; exact va_Nw.of rfl (hts _ lt_1_72)
    | 1, hk => cases hk; exact va_Nw.of rfl (hts _ lt_1_103)
    | 2, hk => cases hk; exact va_Nw.of rfl (hts _ lt_1_169)
    | n + 3, hk => exact absurd hk (by rw [List.getElem?_eq_none (Nat.le_add_left 3 n)]; exact fun h => nomatch h)
  · intro q hq
    obtain ⟨k, hk⟩ := List.getElem?_of_mem hq
    match k, hk with
    | 0, hk => cases hk; exact va_AO.of (hts _ lt_1_99)
    | 1, hk => cases hk; exact va_AO.of (hts _ lt_1_101)
    | 2, hk => cases hk; exact va_AO.of (hts _ lt_1_69)
    | n + 3, hk => exact absurd hk (by rw [List.getElem?_eq_none (Nat.le_add_left 3 n)]; exact fun h => nomatch h)
