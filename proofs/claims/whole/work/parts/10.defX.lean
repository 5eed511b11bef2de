def rm_X0_addRow : Room := { frames := 0, cells := 0, slots := 0, locals := 0 }
theorem q_X0_addRow : yX0_addRow.cls ≠ "java/lang/invoke/MethodHandle" ∧ yX0_addRow.cls ≠ "java/lang/invoke/VarHandle" ∧ (parseMethodDescriptor yX0_addRow.desc).map (fun d => d.parameters.length) = some 3 := ⟨by decide +kernel, by decide +kernel, by decide +kernel⟩
def f_X0_addRow (σ : St) (a1 : Int32) (a2 : Int32) (a3 : Int32) : Option (St × Unit) :=
  if a1 = 0 then (
    some (σ, ())
  ) else (
    if (nI (lenX 15)) ≤ (gi σ 3 0) then (
      some (σ, ())
    ) else (
      ck (gi σ 3 0) (lenX 15) fun j1 =>
      bnd (sa σ 8 15 j1 a1) fun s2 =>
      ck (gi s2 3 0) (lenX 16) fun j3 =>
      bnd (sa s2 8 16 j3 a2) fun s4 =>
      ck (gi s4 3 0) (lenX 17) fun j5 =>
      bnd (sa s4 8 17 j5 a3) fun s6 =>
      bnd (si s6 3 0 ((gi s6 3 0) + 1)) fun s7 =>
      some (s7, ())
    )
  )
def rm_X3_holdsAt : Room := { frames := 0, cells := 0, slots := 0, locals := 0 }
theorem q_X3_holdsAt : yX3_holdsAt.cls ≠ "java/lang/invoke/MethodHandle" ∧ yX3_holdsAt.cls ≠ "java/lang/invoke/VarHandle" ∧ (parseMethodDescriptor yX3_holdsAt.desc).map (fun d => d.parameters.length) = some 2 := ⟨by decide +kernel, by decide +kernel, by decide +kernel⟩
def f_X3_holdsAt_21 : Nat → St → Nat → Int32 → Nat → Int32 → Option (St × Int32)
  | 0, _, _, _, _, _ => none
  | n + 1, σ, v0, v1, v2, v3 =>
    if (gi σ 201 v2) ≤ v3 then (
      some (σ, 1)
    ) else (
      ck (v1 + v3) (capX v0) fun j1 =>
      ck v3 (capX v2) fun j2 =>
      if (ga σ 2 v0 j1) = (ga σ 2 v2 j2) then (
        f_X3_holdsAt_21 n σ v0 v1 v2 (v3 + 1)
      ) else (
        some (σ, 0)
      )
    )
def f_X3_holdsAt (σ : St) (o : Nat) (a1 : Int32) (a2 : Nat) : Option (St × Int32) :=
  if a1 < 0 then (
    some (σ, 0)
  ) else (
    if a1 ≤ ((gi σ 201 o) - (gi σ 201 a2)) then (
      f_X3_holdsAt_21 fl σ o a1 a2 0
    ) else (
      some (σ, 0)
    )
  )
def rm_X3_sameAs : Room := { frames := 1, cells := 0, slots := 0, locals := 23 }
theorem q_X3_sameAs : yX3_sameAs.cls ≠ "java/lang/invoke/MethodHandle" ∧ yX3_sameAs.cls ≠ "java/lang/invoke/VarHandle" ∧ (parseMethodDescriptor yX3_sameAs.desc).map (fun d => d.parameters.length) = some 1 := ⟨by decide +kernel, by decide +kernel, by decide +kernel⟩
def f_X3_sameAs (σ : St) (o : Nat) (a1 : Nat) : Option (St × Int32) :=
  if (gi σ 201 o) = (gi σ 201 a1) then (
    cl (f_X3_holdsAt σ a1 0 o) fun s1 x2 =>
    if x2 = 0 then (
      some (s1, 0)
    ) else (
      some (s1, 1)
    )
  ) else (
    some (σ, 0)
  )
def rm_X0_isSamePath : Room := { frames := 2, cells := 0, slots := 0, locals := 44 }
theorem q_X0_isSamePath : yX0_isSamePath.cls ≠ "java/lang/invoke/MethodHandle" ∧ yX0_isSamePath.cls ≠ "java/lang/invoke/VarHandle" ∧ (parseMethodDescriptor yX0_isSamePath.desc).map (fun d => d.parameters.length) = some 4 := ⟨by decide +kernel, by decide +kernel, by decide +kernel⟩
def f_X0_isSamePath_8 (σ : St) (v1 : Int32) (v3 : Int32) : Option (St × Int32) :=
  if v1 = v3 then (
    some (σ, 1)
  ) else (
    some (σ, 0)
  )
def f_X0_isSamePath (σ : St) (a1 : Nat) (a2 : Int32) (a3 : Nat) (a4 : Int32) : Option (St × Int32) :=
  if a2 < 0 then (
    f_X0_isSamePath_8 σ a2 a4
  ) else (
    if 0 ≤ a4 then (
      ck a2 40 fun j1 =>
      ck a4 40 fun j2 =>
      cl (f_X3_sameAs σ (5 + 2 * (40 * a1 + j1)) (5 + 2 * (40 * a3 + j2))) fun s3 x4 =>
      cq (decide (x4 = 0 ∨ x4 = 1)) <| some (s3, x4)
    ) else (
      f_X0_isSamePath_8 σ a2 a4
    )
  )
def rm_X0_codeOf : Room := { frames := 3, cells := 0, slots := 0, locals := 67 }
theorem q_X0_codeOf : yX0_codeOf.cls ≠ "java/lang/invoke/MethodHandle" ∧ yX0_codeOf.cls ≠ "java/lang/invoke/VarHandle" ∧ (parseMethodDescriptor yX0_codeOf.desc).map (fun d => d.parameters.length) = some 4 := ⟨by decide +kernel, by decide +kernel, by decide +kernel⟩
def f_X0_codeOf_138 (k143 : St → Int32 → Option (St × Int32)) (σ : St) : Option (St × Int32) :=
  k143 σ 1
def f_X0_codeOf_143 (σ : St) (t0 : Int32) : Option (St × Int32) :=
  if t0 = 0 then (
    some (σ, 0)
  ) else (
    some (σ, 3)
  )
def f_X0_codeOf (σ : St) (a1 : Nat) (a2 : Int32) (a3 : Nat) (a4 : Int32) : Option (St × Int32) :=
  if 0 ≤ a2 then (
    if 0 ≤ a4 then (
      ck a2 40 fun j1 =>
      ck a4 40 fun j2 =>
      bnd ((gi σ 103 (40 * a1 + j1)) ^^^ (gi σ 103 (40 * a3 + j2))) fun x3 =>
      if (gi σ 102 (40 * a1 + j1)) = (gi σ 102 (40 * a3 + j2)) then (
        if (x3 &&& 38) = 0 then (
          cl (f_X3_sameAs σ (6 + 2 * (40 * a1 + j1)) (6 + 2 * (40 * a3 + j2))) fun s4 x5 =>
          if x5 = 0 then (
            some (s4, 4)
          ) else (
            if x3 = 0 then (
              if (gi s4 104 (40 * a1 + j1)) = (gi s4 104 (40 * a3 + j2)) then (
                cl (f_X0_isSamePath s4 a1 (gi s4 105 (40 * a1 + j1)) a3 (gi s4 105 (40 * a3 + j2))) fun s6 x7 =>
                if x7 = 0 then (
                  f_X0_codeOf_138 (f_X0_codeOf_143) s6
                ) else (
                  cl (f_X0_isSamePath s6 a1 (gi s6 106 (40 * a1 + j1)) a3 (gi s6 106 (40 * a3 + j2))) fun s8 x9 =>
                  if x9 = 0 then (
                    f_X0_codeOf_138 (f_X0_codeOf_143) s8
                  ) else (
                    f_X0_codeOf_143 s8 0
                  )
                )
              ) else (
                f_X0_codeOf_138 (f_X0_codeOf_143) s4
              )
            ) else (
              f_X0_codeOf_138 (f_X0_codeOf_143) s4
            )
          )
        ) else (
          some (σ, 4)
        )
      ) else (
        some (σ, 4)
      )
    ) else (
      some (σ, 2)
    )
  ) else (
    some (σ, 1)
  )
def rm_X3_compareWith : Room := { frames := 1, cells := 0, slots := 0, locals := 60 }
theorem q_X3_compareWith : yX3_compareWith.cls ≠ "java/lang/invoke/MethodHandle" ∧ yX3_compareWith.cls ≠ "java/lang/invoke/VarHandle" ∧ (parseMethodDescriptor yX3_compareWith.desc).map (fun d => d.parameters.length) = some 1 := ⟨by decide +kernel, by decide +kernel, by decide +kernel⟩
def f_X3_compareWith_14 : Nat → St → Nat → Nat → Int32 → Int32 → Option (St × Int32)
  | 0, _, _, _, _, _ => none
  | n + 1, σ, v0, v1, v2, v3 =>
    if v2 ≤ v3 then (
      some (σ, (gi σ 201 v0) - (gi σ 201 v1))
    ) else (
      ck v3 (capX v0) fun j2 =>
      ck v3 (capX v1) fun j3 =>
      if (ga σ 2 v0 j2) = (ga σ 2 v1 j3) then (
        f_X3_compareWith_14 n σ v0 v1 v2 (v3 + 1)
      ) else (
        ck v3 (capX v0) fun j4 =>
        ck v3 (capX v1) fun j5 =>
        some (σ, ((ga σ 2 v0 j4) &&& 255) - ((ga σ 2 v1 j5) &&& 255))
      )
    )
def f_X3_compareWith (σ : St) (o : Nat) (a1 : Nat) : Option (St × Int32) :=
  bnd ((if (gi σ 201 a1) < (gi σ 201 o) then (gi σ 201 a1) else (gi σ 201 o))) fun x1 =>
  f_X3_compareWith_14 fl σ o a1 x1 0
def rm_X0_sideOfNext : Room := { frames := 2, cells := 0, slots := 0, locals := 83 }
theorem q_X0_sideOfNext : yX0_sideOfNext.cls ≠ "java/lang/invoke/MethodHandle" ∧ yX0_sideOfNext.cls ≠ "java/lang/invoke/VarHandle" ∧ (parseMethodDescriptor yX0_sideOfNext.desc).map (fun d => d.parameters.length) = some 4 := ⟨by decide +kernel, by decide +kernel, by decide +kernel⟩
def f_X0_sideOfNext (σ : St) (a1 : Nat) (a2 : Int32) (a3 : Nat) (a4 : Int32) : Option (St × Int32) :=
  if a2 < (gi σ 603 a1) then (
    if a4 < (gi σ 603 a3) then (
      ck a2 (lenX a1) fun j1 =>
      ck (ga σ 8 a1 j1) 40 fun j2 =>
      ck a4 (lenX a3) fun j3 =>
      ck (ga σ 8 a3 j3) 40 fun j4 =>
      cl (f_X3_compareWith σ (5 + 2 * (40 * a1 + j2)) (5 + 2 * (40 * a3 + j4))) fun s5 x6 =>
      some (s5, x6)
    ) else (
      some (σ, (-1))
    )
  ) else (
    some (σ, 1)
  )
def rm_X0_compare : Room := { frames := 4, cells := 0, slots := 0, locals := 107 }
theorem q_X0_compare : yX0_compare.cls ≠ "java/lang/invoke/MethodHandle" ∧ yX0_compare.cls ≠ "java/lang/invoke/VarHandle" ∧ (parseMethodDescriptor yX0_compare.desc).map (fun d => d.parameters.length) = some 2 := ⟨by decide +kernel, by decide +kernel, by decide +kernel⟩
def f_X0_compare_137 (k24 : St → Nat → Nat → Int32 → Int32 → Int32 → Int32 → Option (St × Unit)) (σ : St) (t0 : Int32) (t1 : Int32) (v1 : Nat) (v2 : Nat) (v3 : Int32) (v5 : Int32) (v6 : Int32) : Option (St × Unit) :=
  k24 σ v1 v2 v3 (t0 + t1) v5 (v6 + 1)
def f_X0_compare_123 (k24 : St → Nat → Nat → Int32 → Int32 → Int32 → Int32 → Option (St × Unit)) (σ : St) (t0 : Int32) (t1 : Int32) (v1 : Nat) (v2 : Nat) (v4 : Int32) (v5 : Int32) (v6 : Int32) (v7 : Int32) : Option (St × Unit) :=
  if v7 < 0 then (
    f_X0_compare_137 k24 σ v4 0 v1 v2 (t0 + t1) v5 v6
  ) else (
    f_X0_compare_137 k24 σ v4 1 v1 v2 (t0 + t1) v5 v6
  )
def f_X0_compare_93 (k24 : St → Nat → Nat → Int32 → Int32 → Int32 → Int32 → Option (St × Unit)) (σ : St) (t0 : Int32) (v1 : Nat) (v2 : Nat) (v3 : Int32) (v4 : Int32) (v5 : Int32) (v6 : Int32) (v7 : Int32) (v8 : Int32) : Option (St × Unit) :=
  cl (f_X0_codeOf σ v1 v8 v2 t0) fun s7 x8 =>
  cl (f_X0_addRow s7 x8 v8 t0) fun s9 _u109 =>
  if 0 < v7 then (
    f_X0_compare_123 k24 s9 v3 0 v1 v2 v4 v5 v6 v7
  ) else (
    f_X0_compare_123 k24 s9 v3 1 v1 v2 v4 v5 v6 v7
  )
def f_X0_compare_74 (k24 : St → Nat → Nat → Int32 → Int32 → Int32 → Int32 → Option (St × Unit)) (σ : St) (t0 : Int32) (v1 : Nat) (v2 : Nat) (v3 : Int32) (v4 : Int32) (v5 : Int32) (v6 : Int32) (v7 : Int32) : Option (St × Unit) :=
  if v7 < 0 then (
    f_X0_compare_93 k24 σ (-2) v1 v2 v3 v4 v5 v6 v7 t0
  ) else (
    ck v4 (lenX v2) fun j6 =>
    f_X0_compare_93 k24 σ (ga σ 8 v2 j6) v1 v2 v3 v4 v5 v6 v7 t0
  )
def f_X0_compare_48 (k24 : St → Nat → Nat → Int32 → Int32 → Int32 → Int32 → Option (St × Unit)) (σ : St) (v1 : Nat) (v2 : Nat) (v3 : Int32) (v4 : Int32) (v5 : Int32) (v6 : Int32) : Option (St × Unit) :=
  cl (f_X0_sideOfNext σ v1 v3 v2 v4) fun s3 x4 =>
  if 0 < x4 then (
    f_X0_compare_74 k24 s3 (-2) v1 v2 v3 v4 v5 v6 x4
  ) else (
    ck v3 (lenX v1) fun j5 =>
    f_X0_compare_74 k24 s3 (ga s3 8 v1 j5) v1 v2 v3 v4 v5 v6 x4
  )
def f_X0_compare_24 : Nat → St → Nat → Nat → Int32 → Int32 → Int32 → Int32 → Option (St × Unit)
  | 0, _, _, _, _, _, _, _ => none
  | n + 1, σ, v1, v2, v3, v4, v5, v6 =>
    if v5 ≤ v6 then (
      some (σ, ())
    ) else (
      if v3 < (gi σ 603 v1) then (
        f_X0_compare_48 (f_X0_compare_24 n) σ v1 v2 v3 v4 v5 v6
      ) else (
        if (gi σ 603 v2) ≤ v4 then (
          some (σ, ())
        ) else (
          f_X0_compare_48 (f_X0_compare_24 n) σ v1 v2 v3 v4 v5 v6
        )
      )
    )
def f_X0_compare (σ : St) (a1 : Nat) (a2 : Nat) : Option (St × Unit) :=
  bnd (si σ 3 0 0) fun s1 =>
  bnd ((gi s1 603 a1) + (gi s1 603 a2)) fun x2 =>
  f_X0_compare_24 fl s1 a1 a2 0 0 x2 0
def rm_X3_clear : Room := { frames := 0, cells := 0, slots := 0, locals := 0 }
theorem q_X3_clear : yX3_clear.cls ≠ "java/lang/invoke/MethodHandle" ∧ yX3_clear.cls ≠ "java/lang/invoke/VarHandle" ∧ (parseMethodDescriptor yX3_clear.desc).map (fun d => d.parameters.length) = some 0 := ⟨by decide +kernel, by decide +kernel, by decide +kernel⟩
def f_X3_clear (σ : St) (o : Nat) : Option (St × Unit) :=
  bnd (si σ 201 o 0) fun s1 =>
  bnd (si s1 202 o 0) fun s2 =>
  some (s2, ())
def rm_X1_begin : Room := { frames := 1, cells := 0, slots := 0, locals := 20 }
theorem q_X1_begin : yX1_begin.cls ≠ "java/lang/invoke/MethodHandle" ∧ yX1_begin.cls ≠ "java/lang/invoke/VarHandle" ∧ (parseMethodDescriptor yX1_begin.desc).map (fun d => d.parameters.length) = some 0 := ⟨by decide +kernel, by decide +kernel, by decide +kernel⟩
def f_X1_begin (σ : St) (o : Nat) : Option (St × Unit) :=
  cl (f_X3_clear σ (5 + 2 * o)) fun s1 _u4 =>
  cl (f_X3_clear s1 (6 + 2 * o)) fun s2 _u11 =>
  bnd (si s2 102 o 0) fun s3 =>
  bnd (si s3 103 o 0) fun s4 =>
  bnd (si s4 104 o (-2)) fun s5 =>
  bnd (si s5 105 o (-2)) fun s6 =>
  bnd (si s6 106 o (-2)) fun s7 =>
  bnd (si s7 107 o (-2)) fun s8 =>
  bnd (si s8 108 o 0) fun s9 =>
  some (s9, ())
def rm_X1_has : Room := { frames := 0, cells := 0, slots := 0, locals := 0 }
theorem q_X1_has : yX1_has.cls ≠ "java/lang/invoke/MethodHandle" ∧ yX1_has.cls ≠ "java/lang/invoke/VarHandle" ∧ (parseMethodDescriptor yX1_has.desc).map (fun d => d.parameters.length) = some 1 := ⟨by decide +kernel, by decide +kernel, by decide +kernel⟩
def f_X1_has (σ : St) (o : Nat) (a1 : Int32) : Option (St × Int32) :=
  if (((gi σ 103 o) >>> (a1 &&& 31)) &&& 1) = 0 then (
    some (σ, 0)
  ) else (
    some (σ, 1)
  )
def rm_X1_moved : Room := { frames := 0, cells := 0, slots := 0, locals := 0 }
theorem q_X1_moved : yX1_moved.cls ≠ "java/lang/invoke/MethodHandle" ∧ yX1_moved.cls ≠ "java/lang/invoke/VarHandle" ∧ (parseMethodDescriptor yX1_moved.desc).map (fun d => d.parameters.length) = some 2 := ⟨by decide +kernel, by decide +kernel, by decide +kernel⟩
def f_X1_moved (σ : St) (a1 : Int32) (a2 : Int32) : Option (St × Int32) :=
  if a1 < a2 then (
    some (σ, a1)
  ) else (
    some (σ, a1 + 1)
  )
def rm_X3_addPart : Room := { frames := 1, cells := 0, slots := 0, locals := 60 }
theorem q_X3_addPart : yX3_addPart.cls ≠ "java/lang/invoke/MethodHandle" ∧ yX3_addPart.cls ≠ "java/lang/invoke/VarHandle" ∧ (parseMethodDescriptor yX3_addPart.desc).map (fun d => d.parameters.length) = some 3 := ⟨by decide +kernel, by decide +kernel, by decide +kernel⟩
def f_X3_addPart (σ : St) (o : Nat) (a1 : Nat) (a2 : Int32) (a3 : Int32) : Option (St × Unit) :=
  if a2 < 0 then (
    some (σ, ())
  ) else (
    if a3 < 0 then (
      some (σ, ())
    ) else (
      if a2 ≤ ((gi σ 201 a1) - a3) then (
        if a3 ≤ ((nI (capX o)) - (gi σ 201 o)) then (
          cq (decide (0 ≤ a2 ∧ 0 ≤ (gi σ 201 o) ∧ 0 ≤ a3 ∧ (Int32.toInt a2).toNat + (Int32.toInt a3).toNat ≤ capX a1 ∧ (Int32.toInt (gi σ 201 o)).toNat + (Int32.toInt a3).toNat ≤ capX o)) <|
          bnd (sg σ 2 o (va_cpy (ga σ 2 a1) (ga σ 2 o) (Int32.toInt a2).toNat (Int32.toInt (gi σ 201 o)).toNat (Int32.toInt a3).toNat)) fun s1 =>
          bnd (si s1 201 o ((gi s1 201 o) + a3)) fun s2 =>
          some (s2, ())
        ) else (
          bnd (si σ 202 o 1) fun s3 =>
          some (s3, ())
        )
      ) else (
        some (σ, ())
      )
    )
  )
def rm_X3_copyFrom : Room := { frames := 2, cells := 0, slots := 0, locals := 83 }
theorem q_X3_copyFrom : yX3_copyFrom.cls ≠ "java/lang/invoke/MethodHandle" ∧ yX3_copyFrom.cls ≠ "java/lang/invoke/VarHandle" ∧ (parseMethodDescriptor yX3_copyFrom.desc).map (fun d => d.parameters.length) = some 1 := ⟨by decide +kernel, by decide +kernel, by decide +kernel⟩
def f_X3_copyFrom (σ : St) (o : Nat) (a1 : Nat) : Option (St × Unit) :=
  cl (f_X3_clear σ o) fun s1 _u1 =>
  cl (f_X3_addPart s1 o a1 0 (gi s1 201 a1)) fun s2 _u11 =>
  some (s2, ())
def rm_X1_copyFrom : Room := { frames := 3, cells := 0, slots := 0, locals := 104 }
theorem q_X1_copyFrom : yX1_copyFrom.cls ≠ "java/lang/invoke/MethodHandle" ∧ yX1_copyFrom.cls ≠ "java/lang/invoke/VarHandle" ∧ (parseMethodDescriptor yX1_copyFrom.desc).map (fun d => d.parameters.length) = some 2 := ⟨by decide +kernel, by decide +kernel, by decide +kernel⟩
def f_X1_copyFrom (σ : St) (o : Nat) (a1 : Nat) (a2 : Int32) : Option (St × Unit) :=
  cl (f_X3_copyFrom σ (5 + 2 * o) (5 + 2 * a1)) fun s1 _u8 =>
  cl (f_X3_copyFrom s1 (6 + 2 * o) (6 + 2 * a1)) fun s2 _u19 =>
  bnd (si s2 102 o (gi s2 102 a1)) fun s3 =>
  bnd (si s3 103 o (gi s3 103 a1)) fun s4 =>
  bnd (si s4 104 o (gi s4 104 a1)) fun s5 =>
  cl (f_X1_moved s5 (gi s5 105 a1) a2) fun s6 x7 =>
  bnd (si s6 105 o x7) fun s8 =>
  cl (f_X1_moved s8 (gi s8 106 a1) a2) fun s9 x10 =>
  bnd (si s9 106 o x10) fun s11 =>
  cl (f_X1_moved s11 (gi s11 107 a1) a2) fun s12 x13 =>
  bnd (si s12 107 o x13) fun s14 =>
  bnd (si s14 108 o (gi s14 108 a1)) fun s15 =>
  some (s15, ())
def rm_X2_kindWord : Room := { frames := 0, cells := 0, slots := 0, locals := 0 }
theorem q_X2_kindWord : yX2_kindWord.cls ≠ "java/lang/invoke/MethodHandle" ∧ yX2_kindWord.cls ≠ "java/lang/invoke/VarHandle" ∧ (parseMethodDescriptor yX2_kindWord.desc).map (fun d => d.parameters.length) = some 1 := ⟨by decide +kernel, by decide +kernel, by decide +kernel⟩
def f_X2_kindWord (σ : St) (a1 : Int32) : Option (St × Nat) :=
  bnd (a1) fun x1 =>
  if x1 = 0 then (
    some (σ, 2)
  ) else (
  if x1 = 1 then (
    some (σ, 3)
  ) else (
  if x1 = 2 then (
    some (σ, 4)
  ) else (
  if x1 = 3 then (
    some (σ, 5)
  ) else (
  if x1 = 4 then (
    some (σ, 6)
  ) else (
  if x1 = 5 then (
    some (σ, 7)
  ) else (
  if x1 = 6 then (
    some (σ, 8)
  ) else (
    some (σ, 9)
  )))))))
theorem b_X2_kindWord {σ s : St} {a1 : Int32} {x : Nat} (h : f_X2_kindWord σ a1 = some (s, x)) : x < nSt := by
  simp only [f_X2_kindWord, bnd] at h
  repeat' split at h
  all_goals
    cases h
    decide
def rm_X2_optionWord : Room := { frames := 0, cells := 0, slots := 0, locals := 0 }
theorem q_X2_optionWord : yX2_optionWord.cls ≠ "java/lang/invoke/MethodHandle" ∧ yX2_optionWord.cls ≠ "java/lang/invoke/VarHandle" ∧ (parseMethodDescriptor yX2_optionWord.desc).map (fun d => d.parameters.length) = some 1 := ⟨by decide +kernel, by decide +kernel, by decide +kernel⟩
def f_X2_optionWord (σ : St) (a1 : Int32) : Option (St × Nat) :=
  bnd (a1) fun x1 =>
  if x1 = 0 then (
    some (σ, 10)
  ) else (
  if x1 = 1 then (
    some (σ, 11)
  ) else (
  if x1 = 2 then (
    some (σ, 12)
  ) else (
  if x1 = 3 then (
    some (σ, 13)
  ) else (
  if x1 = 4 then (
    some (σ, 14)
  ) else (
  if x1 = 5 then (
    some (σ, 15)
  ) else (
    some (σ, 16)
  ))))))
theorem b_X2_optionWord {σ s : St} {a1 : Int32} {x : Nat} (h : f_X2_optionWord σ a1 = some (s, x)) : x < nSt := by
  simp only [f_X2_optionWord, bnd] at h
  repeat' split at h
  all_goals
    cases h
    decide
def rm_X2_isLeaf : Room := { frames := 0, cells := 0, slots := 0, locals := 0 }
theorem q_X2_isLeaf : yX2_isLeaf.cls ≠ "java/lang/invoke/MethodHandle" ∧ yX2_isLeaf.cls ≠ "java/lang/invoke/VarHandle" ∧ (parseMethodDescriptor yX2_isLeaf.desc).map (fun d => d.parameters.length) = some 1 := ⟨by decide +kernel, by decide +kernel, by decide +kernel⟩
def f_X2_isLeaf (σ : St) (a1 : Int32) : Option (St × Int32) :=
  if a1 < 0 then (
    some (σ, 0)
  ) else (
    if 4 < a1 then (
      some (σ, 0)
    ) else (
      some (σ, 1)
    )
  )
def rm_X2_isHolder : Room := { frames := 0, cells := 0, slots := 0, locals := 0 }
theorem q_X2_isHolder : yX2_isHolder.cls ≠ "java/lang/invoke/MethodHandle" ∧ yX2_isHolder.cls ≠ "java/lang/invoke/VarHandle" ∧ (parseMethodDescriptor yX2_isHolder.desc).map (fun d => d.parameters.length) = some 1 := ⟨by decide +kernel, by decide +kernel, by decide +kernel⟩
def f_X2_isHolder_11 (σ : St) : Option (St × Int32) :=
  some (σ, 1)
def f_X2_isHolder (σ : St) (a1 : Int32) : Option (St × Int32) :=
  if a1 = 5 then (
    f_X2_isHolder_11 σ
  ) else (
    if a1 = 6 then (
      f_X2_isHolder_11 σ
    ) else (
      some (σ, 0)
    )
  )
def rm_X2_mayHave : Room := { frames := 1, cells := 0, slots := 0, locals := 20 }
theorem q_X2_mayHave : yX2_mayHave.cls ≠ "java/lang/invoke/MethodHandle" ∧ yX2_mayHave.cls ≠ "java/lang/invoke/VarHandle" ∧ (parseMethodDescriptor yX2_mayHave.desc).map (fun d => d.parameters.length) = some 2 := ⟨by decide +kernel, by decide +kernel, by decide +kernel⟩
def f_X2_mayHave_75 (σ : St) (v0 : Int32) : Option (St × Int32) :=
  cl (f_X2_isLeaf σ v0) fun s2 x3 =>
  cq (decide (x3 = 0 ∨ x3 = 1)) <| some (s2, x3)
def f_X2_mayHave_36 (σ : St) (v0 : Int32) : Option (St × Int32) :=
  if v0 = 1 then (
    some (σ, 1)
  ) else (
    some (σ, 0)
  )
def f_X2_mayHave (σ : St) (a1 : Int32) (a2 : Int32) : Option (St × Int32) :=
  bnd (a2) fun x1 =>
  if x1 = 2 then (
    f_X2_mayHave_36 σ a1
  ) else (
  if x1 = 3 then (
    if a1 < 2 then (
      some (σ, 0)
    ) else (
      if 4 < a1 then (
        some (σ, 0)
      ) else (
        some (σ, 1)
      )
    )
  ) else (
  if x1 = 4 then (
    f_X2_mayHave_75 σ a1
  ) else (
  if x1 = 5 then (
    f_X2_mayHave_36 σ a1
  ) else (
  if x1 = 6 then (
    if a1 = 7 then (
      some (σ, 1)
    ) else (
      some (σ, 0)
    )
  ) else (
    f_X2_mayHave_75 σ a1
  )))))
def rm_X2_mayBeMeant : Room := { frames := 1, cells := 0, slots := 0, locals := 20 }
theorem q_X2_mayBeMeant : yX2_mayBeMeant.cls ≠ "java/lang/invoke/MethodHandle" ∧ yX2_mayBeMeant.cls ≠ "java/lang/invoke/VarHandle" ∧ (parseMethodDescriptor yX2_mayBeMeant.desc).map (fun d => d.parameters.length) = some 2 := ⟨by decide +kernel, by decide +kernel, by decide +kernel⟩
def f_X2_mayBeMeant_14 (σ : St) : Option (St × Int32) :=
  some (σ, 1)
def f_X2_mayBeMeant (σ : St) (a1 : Int32) (a2 : Int32) : Option (St × Int32) :=
  if a2 = 4 then (
    if a1 = 0 then (
      f_X2_mayBeMeant_14 σ
    ) else (
      if a1 = 1 then (
        f_X2_mayBeMeant_14 σ
      ) else (
        some (σ, 0)
      )
    )
  ) else (
    cl (f_X2_isLeaf σ a1) fun s1 x2 =>
    cq (decide (x2 = 0 ∨ x2 = 1)) <| some (s1, x2)
  )
def rm_X2_fits : Room := { frames := 0, cells := 0, slots := 0, locals := 0 }
theorem q_X2_fits : yX2_fits.cls ≠ "java/lang/invoke/MethodHandle" ∧ yX2_fits.cls ≠ "java/lang/invoke/VarHandle" ∧ (parseMethodDescriptor yX2_fits.desc).map (fun d => d.parameters.length) = some 2 := ⟨by decide +kernel, by decide +kernel, by decide +kernel⟩
def f_X2_fits_91 (σ : St) (v1 : Int32) : Option (St × Int32) :=
  if v1 = 3 then (
    some (σ, 1)
  ) else (
    some (σ, 0)
  )
def f_X2_fits_69 (σ : St) (v1 : Int32) : Option (St × Int32) :=
  if v1 = 1 then (
    some (σ, 1)
  ) else (
    some (σ, 0)
  )
def f_X2_fits (σ : St) (a1 : Int32) (a2 : Int32) : Option (St × Int32) :=
  bnd (a1) fun x1 =>
  if x1 = 0 then (
    if a2 < 0 then (
      some (σ, 0)
    ) else (
      if 2 < a2 then (
        some (σ, 0)
      ) else (
        some (σ, 1)
      )
    )
  ) else (
  if x1 = 1 then (
    if a2 = 0 then (
      some (σ, 1)
    ) else (
      some (σ, 0)
    )
  ) else (
  if x1 = 2 then (
    f_X2_fits_69 σ a2
  ) else (
  if x1 = 3 then (
    f_X2_fits_69 σ a2
  ) else (
  if x1 = 4 then (
    if a2 = 2 then (
      some (σ, 1)
    ) else (
      some (σ, 0)
    )
  ) else (
  if x1 = 5 then (
    f_X2_fits_91 σ a2
  ) else (
  if x1 = 6 then (
    f_X2_fits_91 σ a2
  ) else (
    some (σ, 0)
  )))))))
def rm_X3_length : Room := { frames := 0, cells := 0, slots := 0, locals := 0 }
theorem q_X3_length : yX3_length.cls ≠ "java/lang/invoke/MethodHandle" ∧ yX3_length.cls ≠ "java/lang/invoke/VarHandle" ∧ (parseMethodDescriptor yX3_length.desc).map (fun d => d.parameters.length) = some 0 := ⟨by decide +kernel, by decide +kernel, by decide +kernel⟩
def f_X3_length (σ : St) (o : Nat) : Option (St × Int32) :=
  some (σ, gi σ 201 o)
def rm_X3_isOver : Room := { frames := 0, cells := 0, slots := 0, locals := 0 }
theorem q_X3_isOver : yX3_isOver.cls ≠ "java/lang/invoke/MethodHandle" ∧ yX3_isOver.cls ≠ "java/lang/invoke/VarHandle" ∧ (parseMethodDescriptor yX3_isOver.desc).map (fun d => d.parameters.length) = some 0 := ⟨by decide +kernel, by decide +kernel, by decide +kernel⟩
def f_X3_isOver (σ : St) (o : Nat) : Option (St × Int32) :=
  cq (decide ((gi σ 202 o) = 0 ∨ (gi σ 202 o) = 1)) <| some (σ, gi σ 202 o)
def rm_X3_hasRoomFor : Room := { frames := 0, cells := 0, slots := 0, locals := 0 }
theorem q_X3_hasRoomFor : yX3_hasRoomFor.cls ≠ "java/lang/invoke/MethodHandle" ∧ yX3_hasRoomFor.cls ≠ "java/lang/invoke/VarHandle" ∧ (parseMethodDescriptor yX3_hasRoomFor.desc).map (fun d => d.parameters.length) = some 1 := ⟨by decide +kernel, by decide +kernel, by decide +kernel⟩
def f_X3_hasRoomFor (σ : St) (o : Nat) (a1 : Int32) : Option (St × Int32) :=
  if ((nI (capX o)) - (gi σ 201 o)) < a1 then (
    some (σ, 0)
  ) else (
    some (σ, 1)
  )
def rm_X3_at : Room := { frames := 0, cells := 0, slots := 0, locals := 0 }
theorem q_X3_at : yX3_at.cls ≠ "java/lang/invoke/MethodHandle" ∧ yX3_at.cls ≠ "java/lang/invoke/VarHandle" ∧ (parseMethodDescriptor yX3_at.desc).map (fun d => d.parameters.length) = some 1 := ⟨by decide +kernel, by decide +kernel, by decide +kernel⟩
def f_X3_at (σ : St) (o : Nat) (a1 : Int32) : Option (St × Int32) :=
  if a1 < 0 then (
    some (σ, (-1))
  ) else (
    if (gi σ 201 o) ≤ a1 then (
      some (σ, (-1))
    ) else (
      ck a1 (capX o) fun j1 =>
      some (σ, (ga σ 2 o j1) &&& 255)
    )
  )
def rm_X3_add : Room := { frames := 0, cells := 0, slots := 0, locals := 0 }
theorem q_X3_add : yX3_add.cls ≠ "java/lang/invoke/MethodHandle" ∧ yX3_add.cls ≠ "java/lang/invoke/VarHandle" ∧ (parseMethodDescriptor yX3_add.desc).map (fun d => d.parameters.length) = some 1 := ⟨by decide +kernel, by decide +kernel, by decide +kernel⟩
def f_X3_add (σ : St) (o : Nat) (a1 : Int32) : Option (St × Unit) :=
  if (gi σ 201 o) < (nI (capX o)) then (
    ck (gi σ 201 o) (capX o) fun j1 =>
    bnd (sa σ 2 o j1 (vp_nar .byte (Int8.toInt32 (Int32.toInt8 a1)))) fun s2 =>
    bnd (si s2 201 o ((gi s2 201 o) + 1)) fun s3 =>
    some (s3, ())
  ) else (
    bnd (si σ 202 o 1) fun s4 =>
    some (s4, ())
  )
def rm_X3_addWord : Room := { frames := 4, cells := 0, slots := 0, locals := 85 }
theorem q_X3_addWord : yX3_addWord.cls ≠ "java/lang/invoke/MethodHandle" ∧ yX3_addWord.cls ≠ "java/lang/invoke/VarHandle" ∧ (parseMethodDescriptor yX3_addWord.desc).map (fun d => d.parameters.length) = some 1 := ⟨by decide +kernel, by decide +kernel, by decide +kernel⟩
def f_X3_addWord_2 : Nat → St → Nat → Nat → Int32 → Option (St × Unit)
  | 0, _, _, _, _ => none
  | n + 1, σ, v0, v1, v2 =>
    if (nI (lenSt.getD v1 0)) ≤ v2 then (
      some (σ, ())
    ) else (
      ck v2 (lenSt.getD v1 0) fun j1 =>
      cl (f_X3_add σ v0 (stc v1 j1)) fun s2 _u16 =>
      f_X3_addWord_2 n s2 v0 v1 (v2 + 1)
    )
def f_X3_addWord (σ : St) (o : Nat) (a1 : Nat) : Option (St × Unit) :=
  f_X3_addWord_2 fl σ o a1 0
def rm_X3_addAll : Room := { frames := 2, cells := 0, slots := 0, locals := 83 }
theorem q_X3_addAll : yX3_addAll.cls ≠ "java/lang/invoke/MethodHandle" ∧ yX3_addAll.cls ≠ "java/lang/invoke/VarHandle" ∧ (parseMethodDescriptor yX3_addAll.desc).map (fun d => d.parameters.length) = some 1 := ⟨by decide +kernel, by decide +kernel, by decide +kernel⟩
def f_X3_addAll (σ : St) (o : Nat) (a1 : Nat) : Option (St × Unit) :=
  cl (f_X3_addPart σ o a1 0 (gi σ 201 a1)) fun s1 _u7 =>
  some (s1, ())
def rm_X3_addNumber : Room := { frames := 1, cells := 0, slots := 0, locals := 21 }
theorem q_X3_addNumber : yX3_addNumber.cls ≠ "java/lang/invoke/MethodHandle" ∧ yX3_addNumber.cls ≠ "java/lang/invoke/VarHandle" ∧ (parseMethodDescriptor yX3_addNumber.desc).map (fun d => d.parameters.length) = some 1 := ⟨by decide +kernel, by decide +kernel, by decide +kernel⟩
def f_X3_addNumber_26 (k4 : St → Nat → Int32 → Int32 → Int32 → Option (St × Unit)) (σ : St) (t0 : Int32) (v0 : Nat) (v1 : Int32) (v3 : Int32) : Option (St × Unit) :=
  k4 σ v0 v1 t0 (v3 + 1)
def f_X3_addNumber_35 : Nat → St → Nat → Int32 → Int32 → Option (St × Unit)
  | 0, _, _, _, _ => none
  | n + 1, σ, v0, v1, v3 =>
    if v3 ≤ 0 then (
      some (σ, ())
    ) else (
      cq (decide (¬ v3 = 0)) <|
      cl (f_X3_add σ v0 (48 + ((v1 / v3) - (v1 / v3) / 10 * 10))) fun s1 _u49 =>
      f_X3_addNumber_35 n s1 v0 v1 (v3 / 10)
    )
def f_X3_addNumber_4 : Nat → St → Nat → Int32 → Int32 → Int32 → Option (St × Unit)
  | 0, _, _, _, _, _ => none
  | n + 1, σ, v0, v1, v2, v3 =>
    if 6 ≤ v3 then (
      f_X3_addNumber_35 fl σ v0 v1 v2
    ) else (
      cq (decide (¬ v2 = 0)) <|
      if (v1 / v2) < 10 then (
        f_X3_addNumber_26 (f_X3_addNumber_4 n) σ v2 v0 v1 v3
      ) else (
        f_X3_addNumber_26 (f_X3_addNumber_4 n) σ (v2 * 10) v0 v1 v3
      )
    )
def f_X3_addNumber (σ : St) (o : Nat) (a1 : Int32) : Option (St × Unit) :=
  f_X3_addNumber_4 fl σ o a1 1 1
def rm_X3_isStartOf : Room := { frames := 1, cells := 0, slots := 0, locals := 23 }
theorem q_X3_isStartOf : yX3_isStartOf.cls ≠ "java/lang/invoke/MethodHandle" ∧ yX3_isStartOf.cls ≠ "java/lang/invoke/VarHandle" ∧ (parseMethodDescriptor yX3_isStartOf.desc).map (fun d => d.parameters.length) = some 2 := ⟨by decide +kernel, by decide +kernel, by decide +kernel⟩
def f_X3_isStartOf (σ : St) (o : Nat) (a1 : Nat) (a2 : Int32) : Option (St × Int32) :=
  if (gi σ 201 o) = a2 then (
    cl (f_X3_holdsAt σ a1 0 o) fun s1 x2 =>
    if x2 = 0 then (
      some (s1, 0)
    ) else (
      some (s1, 1)
    )
  ) else (
    some (σ, 0)
  )
def rm_X3_isWordAt : Room := { frames := 4, cells := 0, slots := 0, locals := 85 }
theorem q_X3_isWordAt : yX3_isWordAt.cls ≠ "java/lang/invoke/MethodHandle" ∧ yX3_isWordAt.cls ≠ "java/lang/invoke/VarHandle" ∧ (parseMethodDescriptor yX3_isWordAt.desc).map (fun d => d.parameters.length) = some 3 := ⟨by decide +kernel, by decide +kernel, by decide +kernel⟩
def f_X3_isWordAt_13 : Nat → St → Nat → Int32 → Int32 → Nat → Int32 → Option (St × Int32)
  | 0, _, _, _, _, _, _ => none
  | n + 1, σ, v0, v1, v2, v3, v4 =>
    if v2 ≤ v4 then (
      some (σ, 1)
    ) else (
      cl (f_X3_at σ v0 (v1 + v4)) fun s1 x2 =>
      ck v4 (lenSt.getD v3 0) fun j3 =>
      if x2 = (stc v3 j3) then (
        f_X3_isWordAt_13 n s1 v0 v1 v2 v3 (v4 + 1)
      ) else (
        some (s1, 0)
      )
    )
def f_X3_isWordAt (σ : St) (o : Nat) (a1 : Int32) (a2 : Int32) (a3 : Nat) : Option (St × Int32) :=
  if a2 = (nI (lenSt.getD a3 0)) then (
    f_X3_isWordAt_13 fl σ o a1 a2 a3 0
  ) else (
    some (σ, 0)
  )
def rm_X3_lastPoint : Room := { frames := 0, cells := 0, slots := 0, locals := 0 }
theorem q_X3_lastPoint : yX3_lastPoint.cls ≠ "java/lang/invoke/MethodHandle" ∧ yX3_lastPoint.cls ≠ "java/lang/invoke/VarHandle" ∧ (parseMethodDescriptor yX3_lastPoint.desc).map (fun d => d.parameters.length) = some 0 := ⟨by decide +kernel, by decide +kernel, by decide +kernel⟩
def f_X3_lastPoint_7 : Nat → St → Nat → Int32 → Option (St × Int32)
  | 0, _, _, _ => none
  | n + 1, σ, v0, v1 =>
    if v1 < 0 then (
      some (σ, (-2))
    ) else (
      ck v1 (capX v0) fun j1 =>
      if (ga σ 2 v0 j1) = 46 then (
        some (σ, v1)
      ) else (
        f_X3_lastPoint_7 n σ v0 (v1 + (-1))
      )
    )
def f_X3_lastPoint (σ : St) (o : Nat) : Option (St × Int32) :=
  f_X3_lastPoint_7 fl σ o ((gi σ 201 o) - 1)
def rm_X3_nameStart : Room := { frames := 1, cells := 0, slots := 0, locals := 60 }
theorem q_X3_nameStart : yX3_nameStart.cls ≠ "java/lang/invoke/MethodHandle" ∧ yX3_nameStart.cls ≠ "java/lang/invoke/VarHandle" ∧ (parseMethodDescriptor yX3_nameStart.desc).map (fun d => d.parameters.length) = some 0 := ⟨by decide +kernel, by decide +kernel, by decide +kernel⟩
def f_X3_nameStart (σ : St) (o : Nat) : Option (St × Int32) :=
  cl (f_X3_lastPoint σ o) fun s1 x2 =>
  some (s1, (if x2 < (-1) then (-1) else x2) + 1)
def rm_X4_begin : Room := { frames := 1, cells := 0, slots := 0, locals := 20 }
theorem q_X4_begin : yX4_begin.cls ≠ "java/lang/invoke/MethodHandle" ∧ yX4_begin.cls ≠ "java/lang/invoke/VarHandle" ∧ (parseMethodDescriptor yX4_begin.desc).map (fun d => d.parameters.length) = some 0 := ⟨by decide +kernel, by decide +kernel, by decide +kernel⟩
def f_X4_begin (σ : St) (o : Nat) : Option (St × Unit) :=
  cl (f_X3_clear σ (645 + 2 * o)) fun s1 _u4 =>
  cl (f_X3_clear s1 (646 + 2 * o)) fun s2 _u11 =>
  bnd (si s2 302 o 0) fun s3 =>
  bnd (si s3 303 o 0) fun s4 =>
  some (s4, ())
def rm_X4_copyFrom : Room := { frames := 3, cells := 0, slots := 0, locals := 104 }
theorem q_X4_copyFrom : yX4_copyFrom.cls ≠ "java/lang/invoke/MethodHandle" ∧ yX4_copyFrom.cls ≠ "java/lang/invoke/VarHandle" ∧ (parseMethodDescriptor yX4_copyFrom.desc).map (fun d => d.parameters.length) = some 1 := ⟨by decide +kernel, by decide +kernel, by decide +kernel⟩
def f_X4_copyFrom (σ : St) (o : Nat) (a1 : Nat) : Option (St × Unit) :=
  cl (f_X3_copyFrom σ (645 + 2 * o) (645 + 2 * a1)) fun s1 _u8 =>
  cl (f_X3_copyFrom s1 (646 + 2 * o) (646 + 2 * a1)) fun s2 _u19 =>
  cq (decide ((gi s2 302 a1) = 0 ∨ (gi s2 302 a1) = 1)) <|
  bnd (si s2 302 o (gi s2 302 a1)) fun s3 =>
  bnd (si s3 303 o (gi s3 303 a1)) fun s4 =>
  some (s4, ())
def rm_X4_fits : Room := { frames := 1, cells := 0, slots := 0, locals := 23 }
theorem q_X4_fits : yX4_fits.cls ≠ "java/lang/invoke/MethodHandle" ∧ yX4_fits.cls ≠ "java/lang/invoke/VarHandle" ∧ (parseMethodDescriptor yX4_fits.desc).map (fun d => d.parameters.length) = some 3 := ⟨by decide +kernel, by decide +kernel, by decide +kernel⟩
def f_X4_fits_48 (σ : St) (v0 : Nat) (v1 : Nat) (v2 : Int32) (v3 : Int32) : Option (St × Int32) :=
  cl (f_X2_fits σ (gi σ 303 v0) v3) fun s7 x8 =>
  if x8 = 0 then (
    some (s7, 0)
  ) else (
    cl (f_X3_holdsAt s7 v1 v2 (645 + 2 * v0)) fun s9 x10 =>
    if x10 = 0 then (
      some (s9, 0)
    ) else (
      cl (f_X3_length s9 v1) fun s11 x12 =>
      cl (f_X3_length s11 (646 + 2 * v0)) fun s13 x14 =>
      cl (f_X3_holdsAt s13 v1 (x12 - x14) (646 + 2 * v0)) fun s15 x16 =>
      if x16 = 0 then (
        some (s15, 0)
      ) else (
        some (s15, 1)
      )
    )
  )
def f_X4_fits (σ : St) (o : Nat) (a1 : Nat) (a2 : Int32) (a3 : Int32) : Option (St × Int32) :=
  cl (f_X3_length σ a1) fun s1 x2 =>
  cl (f_X3_length s1 (645 + 2 * o)) fun s3 x4 =>
  cl (f_X3_length s3 (646 + 2 * o)) fun s5 x6 =>
  if (x2 - a2) < (x4 + x6) then (
    some (s5, 0)
  ) else (
    if (x2 - a2) ≤ (x4 + x6) then (
      f_X4_fits_48 s5 o a1 a2 a3
    ) else (
      if (gi s5 302 o) = 0 then (
        some (s5, 0)
      ) else (
        f_X4_fits_48 s5 o a1 a2 a3
      )
    )
  )
def rm_X4_printTo : Room := { frames := 5, cells := 0, slots := 0, locals := 107 }
theorem q_X4_printTo : yX4_printTo.cls ≠ "java/lang/invoke/MethodHandle" ∧ yX4_printTo.cls ≠ "java/lang/invoke/VarHandle" ∧ (parseMethodDescriptor yX4_printTo.desc).map (fun d => d.parameters.length) = some 1 := ⟨by decide +kernel, by decide +kernel, by decide +kernel⟩
def f_X4_printTo_27 (σ : St) (v0 : Nat) (v1 : Nat) : Option (St × Unit) :=
  cl (f_X3_addAll σ v1 (646 + 2 * v0)) fun s4 _u32 =>
  cl (f_X3_add s4 v1 58) fun s5 _u38 =>
  cl (f_X2_kindWord s5 (gi s5 303 v0)) fun s6 x7 =>
  cl (f_X3_addWord s6 v1 x7) fun s8 _u49 =>
  cl (f_X3_add s8 v1 59) fun s9 _u55 =>
  some (s9, ())
def f_X4_printTo (σ : St) (o : Nat) (a1 : Nat) : Option (St × Unit) :=
  cl (f_X3_addWord σ a1 18) fun s1 _u3 =>
  cl (f_X3_addAll s1 a1 (645 + 2 * o)) fun s2 _u11 =>
  if (gi s2 302 o) = 0 then (
    f_X4_printTo_27 s2 o a1
  ) else (
    cl (f_X3_add s2 a1 42) fun s3 _u24 =>
    f_X4_printTo_27 s3 o a1
  )
def rm_X5_placeOfFault : Room := { frames := 0, cells := 0, slots := 0, locals := 0 }
theorem q_X5_placeOfFault : yX5_placeOfFault.cls ≠ "java/lang/invoke/MethodHandle" ∧ yX5_placeOfFault.cls ≠ "java/lang/invoke/VarHandle" ∧ (parseMethodDescriptor yX5_placeOfFault.desc).map (fun d => d.parameters.length) = some 0 := ⟨by decide +kernel, by decide +kernel, by decide +kernel⟩
def f_X5_placeOfFault (σ : St) : Option (St × Int32) :=
  some (σ, gi σ 416 0)
def rm_X7_begin : Room := { frames := 0, cells := 0, slots := 0, locals := 0 }
theorem q_X7_begin : yX7_begin.cls ≠ "java/lang/invoke/MethodHandle" ∧ yX7_begin.cls ≠ "java/lang/invoke/VarHandle" ∧ (parseMethodDescriptor yX7_begin.desc).map (fun d => d.parameters.length) = some 0 := ⟨by decide +kernel, by decide +kernel, by decide +kernel⟩
def f_X7_begin (σ : St) (o : Nat) : Option (St × Unit) :=
  bnd (si σ 603 o 0) fun s1 =>
  bnd (si s1 604 o 0) fun s2 =>
  bnd (si s2 605 o 40) fun s3 =>
  some (s3, ())
def rm_X5_begin : Room := { frames := 1, cells := 0, slots := 0, locals := 20 }
theorem q_X5_begin : yX5_begin.cls ≠ "java/lang/invoke/MethodHandle" ∧ yX5_begin.cls ≠ "java/lang/invoke/VarHandle" ∧ (parseMethodDescriptor yX5_begin.desc).map (fun d => d.parameters.length) = some 1 := ⟨by decide +kernel, by decide +kernel, by decide +kernel⟩
def f_X5_begin (σ : St) (a1 : Nat) : Option (St × Unit) :=
  bnd (sr σ 2 0 a1) fun s1 =>
  cl (f_X7_begin s1 (gr s1 2 0)) fun s2 _u9 =>
  bnd (si s2 409 0 0) fun s3 =>
  bnd (si s3 410 0 0) fun s4 =>
  bnd (si s4 414 0 (-2)) fun s5 =>
  bnd (si s5 415 0 0) fun s6 =>
  bnd (si s6 416 0 (-2)) fun s7 =>
  some (s7, ())
def rm_X5_blame : Room := { frames := 0, cells := 0, slots := 0, locals := 0 }
theorem q_X5_blame : yX5_blame.cls ≠ "java/lang/invoke/MethodHandle" ∧ yX5_blame.cls ≠ "java/lang/invoke/VarHandle" ∧ (parseMethodDescriptor yX5_blame.desc).map (fun d => d.parameters.length) = some 2 := ⟨by decide +kernel, by decide +kernel, by decide +kernel⟩
def f_X5_blame_31 (σ : St) (v1 : Int32) (v2 : Int32) : Option (St × Unit) :=
  bnd (si σ 415 0 v1) fun s1 =>
  bnd (si s1 416 0 v2) fun s2 =>
  some (s2, ())
def f_X5_blame (σ : St) (a1 : Int32) (a2 : Int32) : Option (St × Unit) :=
  if (gi σ 415 0) = 0 then (
    f_X5_blame_31 σ a1 a2
  ) else (
    if a2 < (gi σ 416 0) then (
      f_X5_blame_31 σ a1 a2
    ) else (
      if a2 = (gi σ 416 0) then (
        if (gi σ 415 0) ≤ a1 then (
          some (σ, ())
        ) else (
          f_X5_blame_31 σ a1 a2
        )
      ) else (
        some (σ, ())
      )
    )
  )
def rm_X5_isInCircle : Room := { frames := 0, cells := 0, slots := 0, locals := 0 }
theorem q_X5_isInCircle : yX5_isInCircle.cls ≠ "java/lang/invoke/MethodHandle" ∧ yX5_isInCircle.cls ≠ "java/lang/invoke/VarHandle" ∧ (parseMethodDescriptor yX5_isInCircle.desc).map (fun d => d.parameters.length) = some 1 := ⟨by decide +kernel, by decide +kernel, by decide +kernel⟩
def f_X5_isInCircle_37 (σ : St) (v1 : Int32) (v2 : Int32) : Option (St × Int32) :=
  if v2 = v1 then (
    some (σ, 1)
  ) else (
    some (σ, 0)
  )
def f_X5_isInCircle_4 : Nat → St → Int32 → Int32 → Int32 → Option (St × Int32)
  | 0, _, _, _, _ => none
  | n + 1, σ, v1, v2, v3 =>
    if (gi σ 603 (gr σ 2 0)) ≤ v3 then (
      some (σ, 0)
    ) else (
      ck v2 40 fun j1 =>
      bnd (gi σ 105 (40 * (gr σ 2 0) + j1)) fun x2 =>
      if x2 < 0 then (
        f_X5_isInCircle_37 σ v1 x2
      ) else (
        if x2 = v1 then (
          f_X5_isInCircle_37 σ v1 x2
        ) else (
          f_X5_isInCircle_4 n σ v1 x2 (v3 + 1)
        )
      )
    )
def f_X5_isInCircle (σ : St) (a1 : Int32) : Option (St × Int32) :=
  f_X5_isInCircle_4 fl σ a1 a1 0
def rm_X6_placeAt : Room := { frames := 1, cells := 0, slots := 0, locals := 20 }
theorem q_X6_placeAt : yX6_placeAt.cls ≠ "java/lang/invoke/MethodHandle" ∧ yX6_placeAt.cls ≠ "java/lang/invoke/VarHandle" ∧ (parseMethodDescriptor yX6_placeAt.desc).map (fun d => d.parameters.length) = some 1 := ⟨by decide +kernel, by decide +kernel, by decide +kernel⟩
def f_X6_placeAt_21 (σ : St) : Option (St × Int32) :=
  cl (f_X3_length σ 0) fun s2 x3 =>
  some (s2, x3)
def f_X6_placeAt (σ : St) (a1 : Int32) : Option (St × Int32) :=
  if a1 < 0 then (
    f_X6_placeAt_21 σ
  ) else (
    if (gi σ 504 0) ≤ a1 then (
      f_X6_placeAt_21 σ
    ) else (
      ck a1 (lenX 9) fun j1 =>
      some (σ, ga σ 8 9 j1)
    )
  )
def rm_X5_lookAtCircles : Room := { frames := 2, cells := 0, slots := 0, locals := 41 }
theorem q_X5_lookAtCircles : yX5_lookAtCircles.cls ≠ "java/lang/invoke/MethodHandle" ∧ yX5_lookAtCircles.cls ≠ "java/lang/invoke/VarHandle" ∧ (parseMethodDescriptor yX5_lookAtCircles.desc).map (fun d => d.parameters.length) = some 0 := ⟨by decide +kernel, by decide +kernel, by decide +kernel⟩
def f_X5_lookAtCircles_40 (k2 : St → Int32 → Option (St × Unit)) (σ : St) (v1 : Int32) : Option (St × Unit) :=
  k2 σ (v1 + 1)
def f_X5_lookAtCircles_2 : Nat → St → Int32 → Option (St × Unit)
  | 0, _, _ => none
  | n + 1, σ, v1 =>
    if (gi σ 603 (gr σ 2 0)) ≤ v1 then (
      some (σ, ())
    ) else (
      cl (f_X5_isInCircle σ v1) fun s1 x2 =>
      if x2 = 0 then (
        f_X5_lookAtCircles_40 (f_X5_lookAtCircles_2 n) s1 v1
      ) else (
        ck v1 (lenX 12) fun j3 =>
        cl (f_X6_placeAt s1 (ga s1 8 12 j3)) fun s4 x5 =>
        cl (f_X5_blame s4 9 x5) fun s6 _u37 =>
        f_X5_lookAtCircles_40 (f_X5_lookAtCircles_2 n) s6 v1
      )
    )
def f_X5_lookAtCircles (σ : St) : Option (St × Unit) :=
  f_X5_lookAtCircles_2 fl σ 0
def rm_X6_kindAt : Room := { frames := 0, cells := 0, slots := 0, locals := 0 }
theorem q_X6_kindAt : yX6_kindAt.cls ≠ "java/lang/invoke/MethodHandle" ∧ yX6_kindAt.cls ≠ "java/lang/invoke/VarHandle" ∧ (parseMethodDescriptor yX6_kindAt.desc).map (fun d => d.parameters.length) = some 1 := ⟨by decide +kernel, by decide +kernel, by decide +kernel⟩
def f_X6_kindAt (σ : St) (a1 : Int32) : Option (St × Int32) :=
  if a1 < 0 then (
    some (σ, 0)
  ) else (
    if (gi σ 504 0) ≤ a1 then (
      some (σ, 0)
    ) else (
      ck a1 (lenX 8) fun j1 =>
      some (σ, ga σ 8 8 j1)
    )
  )
def rm_X6_numberAt : Room := { frames := 1, cells := 0, slots := 0, locals := 21 }
theorem q_X6_numberAt : yX6_numberAt.cls ≠ "java/lang/invoke/MethodHandle" ∧ yX6_numberAt.cls ≠ "java/lang/invoke/VarHandle" ∧ (parseMethodDescriptor yX6_numberAt.desc).map (fun d => d.parameters.length) = some 1 := ⟨by decide +kernel, by decide +kernel, by decide +kernel⟩
def f_X6_numberAt_4 : Nat → St → Int32 → Int32 → Int32 → Option (St × Int32)
  | 0, _, _, _, _ => none
  | n + 1, σ, v1, v2, v3 =>
    cl (f_X6_kindAt σ v1) fun s1 x2 =>
    if x2 = 2 then (
      ck v1 (lenX 10) fun j3 =>
      if (ga s1 8 10 j3) ≤ v3 then (
        some (s1, v2)
      ) else (
        ck v1 (lenX 9) fun j4 =>
        cl (f_X3_at s1 0 ((ga s1 8 9 j4) + v3)) fun s5 x6 =>
        f_X6_numberAt_4 n s5 v1 (((v2 * 10) + x6) - 48) (v3 + 1)
      )
    ) else (
      some (s1, v2)
    )
def f_X6_numberAt (σ : St) (a1 : Int32) : Option (St × Int32) :=
  f_X6_numberAt_4 fl σ a1 0 0
def rm_X5_lookAtLimit : Room := { frames := 2, cells := 0, slots := 0, locals := 44 }
theorem q_X5_lookAtLimit : yX5_lookAtLimit.cls ≠ "java/lang/invoke/MethodHandle" ∧ yX5_lookAtLimit.cls ≠ "java/lang/invoke/VarHandle" ∧ (parseMethodDescriptor yX5_lookAtLimit.desc).map (fun d => d.parameters.length) = some 0 := ⟨by decide +kernel, by decide +kernel, by decide +kernel⟩
def f_X5_lookAtLimit_55 (σ : St) : Option (St × Unit) :=
  cl (f_X6_placeAt σ (gi σ 414 0)) fun s4 x5 =>
  cl (f_X5_blame s4 10 x5) fun s6 _u69 =>
  some (s6, ())
def f_X5_lookAtLimit (σ : St) : Option (St × Unit) :=
  if 0 ≤ (gi σ 414 0) then (
    cl (f_X6_numberAt σ (gi σ 414 0)) fun s1 x2 =>
    bnd (si s1 605 (gr σ 2 0) x2) fun s3 =>
    if 40 < (gi s3 605 (gr s3 2 0)) then (
      f_X5_lookAtLimit_55 s3
    ) else (
      if (gi s3 603 (gr s3 2 0)) ≤ (gi s3 605 (gr s3 2 0)) then (
        some (s3, ())
      ) else (
        f_X5_lookAtLimit_55 s3
      )
    )
  ) else (
    some (σ, ())
  )
def rm_X6_addTo : Room := { frames := 2, cells := 0, slots := 0, locals := 83 }
theorem q_X6_addTo : yX6_addTo.cls ≠ "java/lang/invoke/MethodHandle" ∧ yX6_addTo.cls ≠ "java/lang/invoke/VarHandle" ∧ (parseMethodDescriptor yX6_addTo.desc).map (fun d => d.parameters.length) = some 2 := ⟨by decide +kernel, by decide +kernel, by decide +kernel⟩
def f_X6_addTo (σ : St) (a1 : Nat) (a2 : Int32) : Option (St × Unit) :=
  if a2 < 0 then (
    some (σ, ())
  ) else (
    if (gi σ 504 0) ≤ a2 then (
      some (σ, ())
    ) else (
      ck a2 (lenX 9) fun j1 =>
      ck a2 (lenX 10) fun j2 =>
      cl (f_X3_addPart σ a1 0 (ga σ 8 9 j1) (ga σ 8 10 j2)) fun s3 _u29 =>
      some (s3, ())
    )
  )
def rm_X6_joinPath : Room := { frames := 3, cells := 0, slots := 0, locals := 105 }
theorem q_X6_joinPath : yX6_joinPath.cls ≠ "java/lang/invoke/MethodHandle" ∧ yX6_joinPath.cls ≠ "java/lang/invoke/VarHandle" ∧ (parseMethodDescriptor yX6_joinPath.desc).map (fun d => d.parameters.length) = some 2 := ⟨by decide +kernel, by decide +kernel, by decide +kernel⟩
def f_X6_joinPath_2 : Nat → St → Nat → Int32 → Option (St × Unit)
  | 0, _, _, _ => none
  | n + 1, σ, v2, v3 =>
    if (gi σ 504 0) ≤ v3 then (
      some (σ, ())
    ) else (
      cl (f_X6_addTo σ v2 v3) fun s1 _u13 =>
      cl (f_X6_kindAt s1 (v3 + 1)) fun s2 x3 =>
      if x3 = 46 then (
        cl (f_X3_add s2 v2 46) fun s4 _u32 =>
        f_X6_joinPath_2 n s4 v2 (v3 + 2)
      ) else (
        some (s2, ())
      )
    )
def f_X6_joinPath (σ : St) (a1 : Int32) (a2 : Nat) : Option (St × Unit) :=
  f_X6_joinPath_2 fl σ a2 a1
def rm_X7_fieldOf : Room := { frames := 2, cells := 0, slots := 0, locals := 45 }
theorem q_X7_fieldOf : yX7_fieldOf.cls ≠ "java/lang/invoke/MethodHandle" ∧ yX7_fieldOf.cls ≠ "java/lang/invoke/VarHandle" ∧ (parseMethodDescriptor yX7_fieldOf.desc).map (fun d => d.parameters.length) = some 2 := ⟨by decide +kernel, by decide +kernel, by decide +kernel⟩
def f_X7_fieldOf_2 : Nat → St → Nat → Nat → Int32 → Int32 → Option (St × Int32)
  | 0, _, _, _, _, _ => none
  | n + 1, σ, v0, v1, v2, v3 =>
    if (gi σ 603 v0) ≤ v3 then (
      some (σ, (-2))
    ) else (
      ck v3 40 fun j1 =>
      cl (f_X3_isStartOf σ (5 + 2 * (40 * v0 + j1)) v1 v2) fun s2 x3 =>
      if x3 = 0 then (
        f_X7_fieldOf_2 n s2 v0 v1 v2 (v3 + 1)
      ) else (
        some (s2, v3)
      )
    )
def f_X7_fieldOf (σ : St) (o : Nat) (a1 : Nat) (a2 : Int32) : Option (St × Int32) :=
  f_X7_fieldOf_2 fl σ o a1 a2 0
def rm_X5_fieldMeant : Room := { frames := 4, cells := 0, slots := 0, locals := 128 }
theorem q_X5_fieldMeant : yX5_fieldMeant.cls ≠ "java/lang/invoke/MethodHandle" ∧ yX5_fieldMeant.cls ≠ "java/lang/invoke/VarHandle" ∧ (parseMethodDescriptor yX5_fieldMeant.desc).map (fun d => d.parameters.length) = some 2 := ⟨by decide +kernel, by decide +kernel, by decide +kernel⟩
def f_X5_fieldMeant_76 (σ : St) (v1 : Int32) (v3 : Int32) : Option (St × Int32) :=
  cl (f_X6_placeAt σ v1) fun s12 x13 =>
  cl (f_X5_blame s12 8 x13) fun s14 _u87 =>
  some (s14, v3)
def f_X5_fieldMeant_52 (σ : St) (t0 : Int32) (v1 : Int32) (v2 : Int32) : Option (St × Int32) :=
  if t0 < 0 then (
    f_X5_fieldMeant_76 σ v1 t0
  ) else (
    ck t0 40 fun j9 =>
    cl (f_X2_mayBeMeant σ (gi σ 102 (40 * (gr σ 2 0) + j9)) v2) fun s10 x11 =>
    if x11 = 0 then (
      f_X5_fieldMeant_76 s10 v1 t0
    ) else (
      some (s10, t0)
    )
  )
def f_X5_fieldMeant (σ : St) (a1 : Int32) (a2 : Int32) : Option (St × Int32) :=
  cl (f_X3_clear σ 4) fun s1 _u4 =>
  cl (f_X6_joinPath s1 a1 4) fun s2 _u16 =>
  cl (f_X3_isOver s2 4) fun s3 x4 =>
  if x4 = 0 then (
    cl (f_X3_length s3 4) fun s5 x6 =>
    cl (f_X7_fieldOf s5 (gr s3 2 0) 4 x6) fun s7 x8 =>
    f_X5_fieldMeant_52 s7 x8 a1 a2
  ) else (
    f_X5_fieldMeant_52 s3 (-2) a1 a2
  )
def rm_X5_lookAtPaths : Room := { frames := 5, cells := 0, slots := 0, locals := 151 }
theorem q_X5_lookAtPaths : yX5_lookAtPaths.cls ≠ "java/lang/invoke/MethodHandle" ∧ yX5_lookAtPaths.cls ≠ "java/lang/invoke/VarHandle" ∧ (parseMethodDescriptor yX5_lookAtPaths.desc).map (fun d => d.parameters.length) = some 0 := ⟨by decide +kernel, by decide +kernel, by decide +kernel⟩
def f_X5_lookAtPaths_71 (k2 : St → Int32 → Option (St × Unit)) (σ : St) (v1 : Int32) : Option (St × Unit) :=
  k2 σ (v1 + 1)
def f_X5_lookAtPaths_46 (k2 : St → Int32 → Option (St × Unit)) (σ : St) (v1 : Int32) (v2 : Nat) : Option (St × Unit) :=
  cl (f_X1_has σ v2 6) fun s8 x9 =>
  if x9 = 0 then (
    f_X5_lookAtPaths_71 k2 s8 v1
  ) else (
    ck v1 (lenX 14) fun j10 =>
    cl (f_X5_fieldMeant s8 (ga s8 8 14 j10) 6) fun s11 x12 =>
    bnd (si s11 106 v2 x12) fun s13 =>
    f_X5_lookAtPaths_71 k2 s13 v1
  )
def f_X5_lookAtPaths_2 : Nat → St → Int32 → Option (St × Unit)
  | 0, _, _ => none
  | n + 1, σ, v1 =>
    if (gi σ 603 (gr σ 2 0)) ≤ v1 then (
      some (σ, ())
    ) else (
      ck v1 40 fun j1 =>
      cl (f_X1_has σ (40 * (gr σ 2 0) + j1) 4) fun s2 x3 =>
      if x3 = 0 then (
        f_X5_lookAtPaths_46 (f_X5_lookAtPaths_2 n) s2 v1 (40 * (gr σ 2 0) + j1)
      ) else (
        ck v1 (lenX 13) fun j4 =>
        cl (f_X5_fieldMeant s2 (ga s2 8 13 j4) 4) fun s5 x6 =>
        bnd (si s5 105 (40 * (gr σ 2 0) + j1) x6) fun s7 =>
        f_X5_lookAtPaths_46 (f_X5_lookAtPaths_2 n) s7 v1 (40 * (gr σ 2 0) + j1)
      )
    )
def f_X5_lookAtPaths (σ : St) : Option (St × Unit) :=
  f_X5_lookAtPaths_2 fl σ 0
def rm_X5_expect : Room := { frames := 1, cells := 0, slots := 0, locals := 21 }
theorem q_X5_expect : yX5_expect.cls ≠ "java/lang/invoke/MethodHandle" ∧ yX5_expect.cls ≠ "java/lang/invoke/VarHandle" ∧ (parseMethodDescriptor yX5_expect.desc).map (fun d => d.parameters.length) = some 3 := ⟨by decide +kernel, by decide +kernel, by decide +kernel⟩
def f_X5_expect (σ : St) (a1 : Int32) (a2 : Int32) (a3 : Int32) : Option (St × Int32) :=
  cl (f_X6_kindAt σ a1) fun s1 x2 =>
  if x2 = a2 then (
    bnd (si s1 409 0 a3) fun s3 =>
    some (s3, 0)
  ) else (
    some (s1, 2)
  )
def rm_X6_isWord : Room := { frames := 5, cells := 0, slots := 0, locals := 109 }
theorem q_X6_isWord : yX6_isWord.cls ≠ "java/lang/invoke/MethodHandle" ∧ yX6_isWord.cls ≠ "java/lang/invoke/VarHandle" ∧ (parseMethodDescriptor yX6_isWord.desc).map (fun d => d.parameters.length) = some 2 := ⟨by decide +kernel, by decide +kernel, by decide +kernel⟩
def f_X6_isWord (σ : St) (a1 : Int32) (a2 : Nat) : Option (St × Int32) :=
  cl (f_X6_kindAt σ a1) fun s1 x2 =>
  if x2 = 1 then (
    ck a1 (lenX 9) fun j3 =>
    ck a1 (lenX 10) fun j4 =>
    cl (f_X3_isWordAt s1 0 (ga s1 8 9 j3) (ga s1 8 10 j4) a2) fun s5 x6 =>
    if x6 = 0 then (
      some (s5, 0)
    ) else (
      some (s5, 1)
    )
  ) else (
    some (s1, 0)
  )
def rm_X5_isFieldName : Room := { frames := 6, cells := 0, slots := 0, locals := 131 }
theorem q_X5_isFieldName : yX5_isFieldName.cls ≠ "java/lang/invoke/MethodHandle" ∧ yX5_isFieldName.cls ≠ "java/lang/invoke/VarHandle" ∧ (parseMethodDescriptor yX5_isFieldName.desc).map (fun d => d.parameters.length) = some 1 := ⟨by decide +kernel, by decide +kernel, by decide +kernel⟩
def f_X5_isFieldName (σ : St) (a1 : Int32) : Option (St × Int32) :=
  cl (f_X6_kindAt σ a1) fun s1 x2 =>
  if x2 = 1 then (
    cl (f_X6_isWord s1 a1 0) fun s3 x4 =>
    if x4 = 0 then (
      cl (f_X6_isWord s3 a1 1) fun s5 x6 =>
      if x6 = 0 then (
        some (s5, 1)
      ) else (
        some (s5, 0)
      )
    ) else (
      some (s3, 0)
    )
  ) else (
    some (s1, 0)
  )
def rm_X5_stepStar : Room := { frames := 2, cells := 0, slots := 0, locals := 44 }
theorem q_X5_stepStar : yX5_stepStar.cls ≠ "java/lang/invoke/MethodHandle" ∧ yX5_stepStar.cls ≠ "java/lang/invoke/VarHandle" ∧ (parseMethodDescriptor yX5_stepStar.desc).map (fun d => d.parameters.length) = some 1 := ⟨by decide +kernel, by decide +kernel, by decide +kernel⟩
def f_X5_stepStar (σ : St) (a1 : Int32) : Option (St × Int32) :=
  cl (f_X5_expect σ a1 42 13) fun s1 x2 =>
  if x2 = 0 then (
    bnd (si s1 302 (gr s1 4 0) 1) fun s4 =>
    some (s4, x2)
  ) else (
    bnd (si s1 302 (gr s1 4 0) 0) fun s3 =>
    some (s3, x2)
  )
def rm_X5_stepBehindHead : Room := { frames := 3, cells := 0, slots := 0, locals := 66 }
theorem q_X5_stepBehindHead : yX5_stepBehindHead.cls ≠ "java/lang/invoke/MethodHandle" ∧ yX5_stepBehindHead.cls ≠ "java/lang/invoke/VarHandle" ∧ (parseMethodDescriptor yX5_stepBehindHead.desc).map (fun d => d.parameters.length) = some 1 := ⟨by decide +kernel, by decide +kernel, by decide +kernel⟩
def f_X5_stepBehindHead (σ : St) (a1 : Int32) : Option (St × Int32) :=
  cl (f_X6_kindAt σ a1) fun s1 x2 =>
  if x2 = 42 then (
    cl (f_X5_stepStar s1 a1) fun s5 x6 =>
    some (s5, x6)
  ) else (
    cl (f_X5_expect s1 a1 58 15) fun s3 x4 =>
    some (s3, x4)
  )
def rm_X5_openHolder : Room := { frames := 2, cells := 0, slots := 0, locals := 41 }
theorem q_X5_openHolder : yX5_openHolder.cls ≠ "java/lang/invoke/MethodHandle" ∧ yX5_openHolder.cls ≠ "java/lang/invoke/VarHandle" ∧ (parseMethodDescriptor yX5_openHolder.desc).map (fun d => d.parameters.length) = some 1 := ⟨by decide +kernel, by decide +kernel, by decide +kernel⟩
def f_X5_openHolder_27 (σ : St) : Option (St × Unit) :=
  if 4 ≤ (gi σ 410 0) then (
    some (σ, ())
  ) else (
    ck (gi σ 410 0) (lenX 11) fun j6 =>
    bnd (sa σ 8 11 j6 ((gi σ 603 (gr σ 2 0)) - 1)) fun s7 =>
    bnd (si s7 410 0 ((gi s7 410 0) + 1)) fun s8 =>
    some (s8, ())
  )
def f_X5_openHolder (σ : St) (a1 : Int32) : Option (St × Unit) :=
  cl (f_X2_isHolder σ (gi σ 102 (gr σ 3 0))) fun s1 x2 =>
  if x2 = 0 then (
    cl (f_X6_placeAt s1 a1) fun s3 x4 =>
    cl (f_X5_blame s3 6 x4) fun s5 _u24 =>
    f_X5_openHolder_27 s5
  ) else (
    f_X5_openHolder_27 s1
  )
def rm_X5_stepHeadEnd : Room := { frames := 3, cells := 0, slots := 0, locals := 62 }
theorem q_X5_stepHeadEnd : yX5_stepHeadEnd.cls ≠ "java/lang/invoke/MethodHandle" ∧ yX5_stepHeadEnd.cls ≠ "java/lang/invoke/VarHandle" ∧ (parseMethodDescriptor yX5_stepHeadEnd.desc).map (fun d => d.parameters.length) = some 1 := ⟨by decide +kernel, by decide +kernel, by decide +kernel⟩
def f_X5_stepHeadEnd_91 (σ : St) : Option (St × Int32) :=
  bnd (si σ 409 0 0) fun s9 =>
  some (s9, 0)
def f_X5_stepHeadEnd_80 (σ : St) (v1 : Int32) (v2 : Int32) : Option (St × Int32) :=
  if v2 = 123 then (
    cl (f_X5_openHolder σ v1) fun s8 _u88 =>
    f_X5_stepHeadEnd_91 s8
  ) else (
    f_X5_stepHeadEnd_91 σ
  )
def f_X5_stepHeadEnd_39 (σ : St) (v1 : Int32) (v2 : Int32) : Option (St × Int32) :=
  if (gi σ 102 (gr σ 3 0)) = 7 then (
    cl (f_X1_has σ (gr σ 3 0) 6) fun s3 x4 =>
    if x4 = 0 then (
      cl (f_X6_placeAt s3 (gi s3 411 0)) fun s5 x6 =>
      cl (f_X5_blame s5 7 x6) fun s7 _u77 =>
      f_X5_stepHeadEnd_80 s7 v1 v2
    ) else (
      f_X5_stepHeadEnd_80 s3 v1 v2
    )
  ) else (
    f_X5_stepHeadEnd_80 σ v1 v2
  )
def f_X5_stepHeadEnd_23 (σ : St) (v1 : Int32) (v2 : Int32) : Option (St × Int32) :=
  if v2 = 123 then (
    if (gi σ 410 0) < 4 then (
      f_X5_stepHeadEnd_39 σ v1 v2
    ) else (
      some (σ, 3)
    )
  ) else (
    f_X5_stepHeadEnd_39 σ v1 v2
  )
def f_X5_stepHeadEnd (σ : St) (a1 : Int32) : Option (St × Int32) :=
  cl (f_X6_kindAt σ a1) fun s1 x2 =>
  if x2 = 123 then (
    f_X5_stepHeadEnd_23 s1 a1 x2
  ) else (
    if x2 = 59 then (
      f_X5_stepHeadEnd_23 s1 a1 x2
    ) else (
      some (s1, 2)
    )
  )
def rm_X5_stepBehindKind : Room := { frames := 4, cells := 0, slots := 0, locals := 84 }
theorem q_X5_stepBehindKind : yX5_stepBehindKind.cls ≠ "java/lang/invoke/MethodHandle" ∧ yX5_stepBehindKind.cls ≠ "java/lang/invoke/VarHandle" ∧ (parseMethodDescriptor yX5_stepBehindKind.desc).map (fun d => d.parameters.length) = some 1 := ⟨by decide +kernel, by decide +kernel, by decide +kernel⟩
def f_X5_stepBehindKind (σ : St) (a1 : Int32) : Option (St × Int32) :=
  cl (f_X6_kindAt σ a1) fun s1 x2 =>
  if x2 = 40 then (
    bnd (si s1 409 0 4) fun s5 =>
    some (s5, 0)
  ) else (
    cl (f_X5_stepHeadEnd s1 a1) fun s3 x4 =>
    some (s3, x4)
  )
def rm_X5_stepBehindStar : Room := { frames := 3, cells := 0, slots := 0, locals := 105 }
theorem q_X5_stepBehindStar : yX5_stepBehindStar.cls ≠ "java/lang/invoke/MethodHandle" ∧ yX5_stepBehindStar.cls ≠ "java/lang/invoke/VarHandle" ∧ (parseMethodDescriptor yX5_stepBehindStar.desc).map (fun d => d.parameters.length) = some 1 := ⟨by decide +kernel, by decide +kernel, by decide +kernel⟩
def f_X5_stepBehindStar (σ : St) (a1 : Int32) : Option (St × Int32) :=
  cl (f_X6_kindAt σ a1) fun s1 x2 =>
  if x2 = 1 then (
    cl (f_X6_addTo s1 (646 + 2 * (gr s1 4 0)) a1) fun s5 _u24 =>
    bnd (si s5 409 0 14) fun s6 =>
    some (s6, 0)
  ) else (
    cl (f_X5_expect s1 a1 58 15) fun s3 x4 =>
    some (s3, x4)
  )
def rm_X5_stepBehindValue : Room := { frames := 2, cells := 0, slots := 0, locals := 44 }
theorem q_X5_stepBehindValue : yX5_stepBehindValue.cls ≠ "java/lang/invoke/MethodHandle" ∧ yX5_stepBehindValue.cls ≠ "java/lang/invoke/VarHandle" ∧ (parseMethodDescriptor yX5_stepBehindValue.desc).map (fun d => d.parameters.length) = some 1 := ⟨by decide +kernel, by decide +kernel, by decide +kernel⟩
def f_X5_stepBehindValue (σ : St) (a1 : Int32) : Option (St × Int32) :=
  cl (f_X6_kindAt σ a1) fun s1 x2 =>
  if x2 = 44 then (
    bnd (si s1 409 0 4) fun s5 =>
    some (s5, 0)
  ) else (
    cl (f_X5_expect s1 a1 41 10) fun s3 x4 =>
    some (s3, x4)
  )
def rm_X5_isNameTwice : Room := { frames := 2, cells := 0, slots := 0, locals := 44 }
theorem q_X5_isNameTwice : yX5_isNameTwice.cls ≠ "java/lang/invoke/MethodHandle" ∧ yX5_isNameTwice.cls ≠ "java/lang/invoke/VarHandle" ∧ (parseMethodDescriptor yX5_isNameTwice.desc).map (fun d => d.parameters.length) = some 1 := ⟨by decide +kernel, by decide +kernel, by decide +kernel⟩
def f_X5_isNameTwice_50 (k2 : St → Int32 → Int32 → Option (St × Int32)) (σ : St) (v1 : Int32) (v2 : Int32) : Option (St × Int32) :=
  k2 σ v1 (v2 + 1)
def f_X5_isNameTwice_2 : Nat → St → Int32 → Int32 → Option (St × Int32)
  | 0, _, _, _ => none
  | n + 1, σ, v1, v2 =>
    if v1 ≤ v2 then (
      some (σ, 0)
    ) else (
      ck v2 40 fun j1 =>
      if (gi σ 107 (40 * (gr σ 2 0) + j1)) = (gi σ 107 (gr σ 3 0)) then (
        cl (f_X3_sameAs σ (5 + 2 * (40 * (gr σ 2 0) + j1)) (5 + 2 * (gr σ 3 0))) fun s2 x3 =>
        if x3 = 0 then (
          f_X5_isNameTwice_50 (f_X5_isNameTwice_2 n) s2 v1 v2
        ) else (
          some (s2, 1)
        )
      ) else (
        f_X5_isNameTwice_50 (f_X5_isNameTwice_2 n) σ v1 v2
      )
    )
def f_X5_isNameTwice (σ : St) (a1 : Int32) : Option (St × Int32) :=
  f_X5_isNameTwice_2 fl σ a1 0
def rm_X7_beginField : Room := { frames := 2, cells := 0, slots := 0, locals := 83 }
theorem q_X7_beginField : yX7_beginField.cls ≠ "java/lang/invoke/MethodHandle" ∧ yX7_beginField.cls ≠ "java/lang/invoke/VarHandle" ∧ (parseMethodDescriptor yX7_beginField.desc).map (fun d => d.parameters.length) = some 2 := ⟨by decide +kernel, by decide +kernel, by decide +kernel⟩
def f_X7_beginField (σ : St) (o : Nat) (a1 : Int32) (a2 : Int32) : Option (St × Unit) :=
  ck a1 40 fun j1 =>
  cl (f_X1_begin σ (40 * o + j1)) fun s2 _u6 =>
  if a2 < 0 then (
    some (s2, ())
  ) else (
    if a1 ≤ a2 then (
      some (s2, ())
    ) else (
      ck a1 40 fun j3 =>
      bnd (si s2 107 (40 * o + j3) a2) fun s4 =>
      ck a1 40 fun j5 =>
      ck a2 40 fun j6 =>
      bnd (si s4 108 (40 * o + j5) ((gi s4 108 (40 * o + j6)) + 1)) fun s7 =>
      ck a1 40 fun j8 =>
      ck a2 40 fun j9 =>
      ck a2 40 fun j10 =>
      cl (f_X3_length s7 (5 + 2 * (40 * o + j10))) fun s11 x12 =>
      cl (f_X3_addPart s11 (5 + 2 * (40 * o + j8)) (5 + 2 * (40 * o + j9)) 0 x12) fun s13 _u79 =>
      ck a1 40 fun j14 =>
      cl (f_X3_add s13 (5 + 2 * (40 * o + j14)) 46) fun s15 _u93 =>
      some (s15, ())
    )
  )
def rm_X5_stepFieldName : Room := { frames := 3, cells := 0, slots := 0, locals := 105 }
theorem q_X5_stepFieldName : yX5_stepFieldName.cls ≠ "java/lang/invoke/MethodHandle" ∧ yX5_stepFieldName.cls ≠ "java/lang/invoke/VarHandle" ∧ (parseMethodDescriptor yX5_stepFieldName.desc).map (fun d => d.parameters.length) = some 1 := ⟨by decide +kernel, by decide +kernel, by decide +kernel⟩
def f_X5_stepFieldName_101 (σ : St) : Option (St × Int32) :=
  bnd (si σ 603 (gr σ 2 0) ((gi σ 603 (gr σ 2 0)) + 1)) fun s12 =>
  bnd (si s12 409 0 1) fun s13 =>
  some (s13, 0)
def f_X5_stepFieldName_44 (σ : St) (t0 : Nat) (t1 : Int32) (t2 : Int32) (v1 : Int32) (v2 : Int32) : Option (St × Int32) :=
  cl (f_X7_beginField σ t0 t1 t2) fun s2 _u44 =>
  ck v2 40 fun j3 =>
  bnd (sr s2 3 0 (40 * (gr s2 2 0) + j3)) fun s4 =>
  bnd (si s4 411 0 v1) fun s5 =>
  cl (f_X6_addTo s5 (5 + 2 * (gr s5 3 0)) v1) fun s6 _u77 =>
  cl (f_X5_isNameTwice s6 v2) fun s7 x8 =>
  if x8 = 0 then (
    f_X5_stepFieldName_101 s7
  ) else (
    cl (f_X6_placeAt s7 v1) fun s9 x10 =>
    cl (f_X5_blame s9 4 x10) fun s11 _u98 =>
    f_X5_stepFieldName_101 s11
  )
def f_X5_stepFieldName (σ : St) (a1 : Int32) : Option (St × Int32) :=
  if (gi σ 603 (gr σ 2 0)) < 40 then (
    if (gi σ 410 0) ≤ 0 then (
      f_X5_stepFieldName_44 σ (gr σ 2 0) (gi σ 603 (gr σ 2 0)) (-2) a1 (gi σ 603 (gr σ 2 0))
    ) else (
      ck ((gi σ 410 0) - 1) (lenX 11) fun j1 =>
      f_X5_stepFieldName_44 σ (gr σ 2 0) (gi σ 603 (gr σ 2 0)) (ga σ 8 11 j1) a1 (gi σ 603 (gr σ 2 0))
    )
  ) else (
    some (σ, 3)
  )
def rm_X5_stepInPath : Room := { frames := 3, cells := 0, slots := 0, locals := 65 }
theorem q_X5_stepInPath : yX5_stepInPath.cls ≠ "java/lang/invoke/MethodHandle" ∧ yX5_stepInPath.cls ≠ "java/lang/invoke/VarHandle" ∧ (parseMethodDescriptor yX5_stepInPath.desc).map (fun d => d.parameters.length) = some 1 := ⟨by decide +kernel, by decide +kernel, by decide +kernel⟩
def f_X5_stepInPath (σ : St) (a1 : Int32) : Option (St × Int32) :=
  cl (f_X6_kindAt σ a1) fun s1 x2 =>
  if x2 = 46 then (
    bnd (si s1 409 0 8) fun s5 =>
    some (s5, 0)
  ) else (
    cl (f_X5_stepBehindValue s1 a1) fun s3 x4 =>
    some (s3, x4)
  )
def rm_X5_stepLimitWord : Room := { frames := 2, cells := 0, slots := 0, locals := 41 }
theorem q_X5_stepLimitWord : yX5_stepLimitWord.cls ≠ "java/lang/invoke/MethodHandle" ∧ yX5_stepLimitWord.cls ≠ "java/lang/invoke/VarHandle" ∧ (parseMethodDescriptor yX5_stepLimitWord.desc).map (fun d => d.parameters.length) = some 1 := ⟨by decide +kernel, by decide +kernel, by decide +kernel⟩
def f_X5_stepLimitWord_21 (σ : St) : Option (St × Int32) :=
  bnd (si σ 409 0 16) fun s4 =>
  some (s4, 0)
def f_X5_stepLimitWord (σ : St) (a1 : Int32) : Option (St × Int32) :=
  if (gi σ 414 0) < 0 then (
    f_X5_stepLimitWord_21 σ
  ) else (
    cl (f_X6_placeAt σ a1) fun s1 x2 =>
    cl (f_X5_blame s1 10 x2) fun s3 _u18 =>
    f_X5_stepLimitWord_21 s3
  )
def rm_X5_stepRuleWord : Room := { frames := 2, cells := 0, slots := 0, locals := 40 }
theorem q_X5_stepRuleWord : yX5_stepRuleWord.cls ≠ "java/lang/invoke/MethodHandle" ∧ yX5_stepRuleWord.cls ≠ "java/lang/invoke/VarHandle" ∧ (parseMethodDescriptor yX5_stepRuleWord.desc).map (fun d => d.parameters.length) = some 0 := ⟨by decide +kernel, by decide +kernel, by decide +kernel⟩
def f_X5_stepRuleWord (σ : St) : Option (St × Int32) :=
  if (gi σ 604 (gr σ 2 0)) < 8 then (
    ck (gi σ 604 (gr σ 2 0)) 8 fun j1 =>
    bnd (sr σ 4 0 (8 * (gr σ 2 0) + j1)) fun s2 =>
    cl (f_X4_begin s2 (gr s2 4 0)) fun s3 _u37 =>
    bnd (si s3 604 (gr s3 2 0) ((gi s3 604 (gr s3 2 0)) + 1)) fun s4 =>
    bnd (si s4 409 0 11) fun s5 =>
    some (s5, 0)
  ) else (
    some (σ, 3)
  )
def rm_X5_stepItem : Room := { frames := 6, cells := 0, slots := 0, locals := 131 }
theorem q_X5_stepItem : yX5_stepItem.cls ≠ "java/lang/invoke/MethodHandle" ∧ yX5_stepItem.cls ≠ "java/lang/invoke/VarHandle" ∧ (parseMethodDescriptor yX5_stepItem.desc).map (fun d => d.parameters.length) = some 1 := ⟨by decide +kernel, by decide +kernel, by decide +kernel⟩
def f_X5_stepItem (σ : St) (a1 : Int32) : Option (St × Int32) :=
  if (gi σ 410 0) ≤ 0 then (
    cl (f_X6_kindAt σ a1) fun s1 x2 =>
    if x2 = 1 then (
      cl (f_X6_isWord s1 a1 0) fun s3 x4 =>
      if x4 = 0 then (
        cl (f_X5_stepLimitWord s3 a1) fun s5 x6 =>
        some (s5, x6)
      ) else (
        cl (f_X5_stepRuleWord s3) fun s7 x8 =>
        some (s7, x8)
      )
    ) else (
      some (s1, 2)
    )
  ) else (
    cl (f_X5_expect σ a1 125 17) fun s9 x10 =>
    if x10 = 0 then (
      bnd (si s9 410 0 ((gi s9 410 0) - 1)) fun s12 =>
      some (s12, x10)
    ) else (
      bnd (si s9 410 0 ((gi s9 410 0) - 0)) fun s11 =>
      some (s11, x10)
    )
  )
def rm_X5_kindOf : Room := { frames := 6, cells := 0, slots := 0, locals := 131 }
theorem q_X5_kindOf : yX5_kindOf.cls ≠ "java/lang/invoke/MethodHandle" ∧ yX5_kindOf.cls ≠ "java/lang/invoke/VarHandle" ∧ (parseMethodDescriptor yX5_kindOf.desc).map (fun d => d.parameters.length) = some 1 := ⟨by decide +kernel, by decide +kernel, by decide +kernel⟩
def f_X5_kindOf_2 : Nat → St → Int32 → Int32 → Option (St × Int32)
  | 0, _, _, _ => none
  | n + 1, σ, v1, v2 =>
    if 8 ≤ v2 then (
      some (σ, (-2))
    ) else (
      cl (f_X2_kindWord σ v2) fun s1 x2 =>
      cl (f_X6_isWord s1 v1 x2) fun s3 x4 =>
      if x4 = 0 then (
        f_X5_kindOf_2 n s3 v1 (v2 + 1)
      ) else (
        some (s3, v2)
      )
    )
def f_X5_kindOf (σ : St) (a1 : Int32) : Option (St × Int32) :=
  f_X5_kindOf_2 fl σ a1 0
def rm_X5_stepKind : Room := { frames := 7, cells := 0, slots := 0, locals := 153 }
theorem q_X5_stepKind : yX5_stepKind.cls ≠ "java/lang/invoke/MethodHandle" ∧ yX5_stepKind.cls ≠ "java/lang/invoke/VarHandle" ∧ (parseMethodDescriptor yX5_stepKind.desc).map (fun d => d.parameters.length) = some 1 := ⟨by decide +kernel, by decide +kernel, by decide +kernel⟩
def f_X5_stepKind (σ : St) (a1 : Int32) : Option (St × Int32) :=
  cl (f_X5_kindOf σ a1) fun s1 x2 =>
  if 0 ≤ x2 then (
    bnd (si s1 102 (gr s1 3 0) x2) fun s3 =>
    bnd (si s3 409 0 3) fun s4 =>
    some (s4, 0)
  ) else (
    some (s1, 2)
  )
def rm_X5_stepLimitNumber : Room := { frames := 2, cells := 0, slots := 0, locals := 44 }
theorem q_X5_stepLimitNumber : yX5_stepLimitNumber.cls ≠ "java/lang/invoke/MethodHandle" ∧ yX5_stepLimitNumber.cls ≠ "java/lang/invoke/VarHandle" ∧ (parseMethodDescriptor yX5_stepLimitNumber.desc).map (fun d => d.parameters.length) = some 1 := ⟨by decide +kernel, by decide +kernel, by decide +kernel⟩
def f_X5_stepLimitNumber_12 (σ : St) (v1 : Int32) : Option (St × Int32) :=
  cl (f_X5_expect σ v1 2 17) fun s2 x3 =>
  some (s2, x3)
def f_X5_stepLimitNumber (σ : St) (a1 : Int32) : Option (St × Int32) :=
  if 0 ≤ (gi σ 414 0) then (
    f_X5_stepLimitNumber_12 σ a1
  ) else (
    bnd (si σ 414 0 a1) fun s1 =>
    f_X5_stepLimitNumber_12 s1 a1
  )
def rm_X5_noteToken : Room := { frames := 0, cells := 0, slots := 0, locals := 0 }
theorem q_X5_noteToken : yX5_noteToken.cls ≠ "java/lang/invoke/MethodHandle" ∧ yX5_noteToken.cls ≠ "java/lang/invoke/VarHandle" ∧ (parseMethodDescriptor yX5_noteToken.desc).map (fun d => d.parameters.length) = some 3 := ⟨by decide +kernel, by decide +kernel, by decide +kernel⟩
def f_X5_noteToken (σ : St) (a1 : Int32) (a2 : Nat) (a3 : Int32) : Option (St × Unit) :=
  if a1 = 0 then (
    some (σ, ())
  ) else (
    if (gi σ 413 0) = 0 then (
      if ((gi σ 603 (gr σ 2 0)) - 1) < 0 then (
        some (σ, ())
      ) else (
        if (nI (lenX a2)) ≤ ((gi σ 603 (gr σ 2 0)) - 1) then (
          some (σ, ())
        ) else (
          ck ((gi σ 603 (gr σ 2 0)) - 1) (lenX a2) fun j1 =>
          bnd (sa σ 8 a2 j1 a3) fun s2 =>
          some (s2, ())
        )
      )
    ) else (
      some (σ, ())
    )
  )
def rm_X5_optionOf : Room := { frames := 6, cells := 0, slots := 0, locals := 131 }
theorem q_X5_optionOf : yX5_optionOf.cls ≠ "java/lang/invoke/MethodHandle" ∧ yX5_optionOf.cls ≠ "java/lang/invoke/VarHandle" ∧ (parseMethodDescriptor yX5_optionOf.desc).map (fun d => d.parameters.length) = some 1 := ⟨by decide +kernel, by decide +kernel, by decide +kernel⟩
def f_X5_optionOf_2 : Nat → St → Int32 → Int32 → Option (St × Int32)
  | 0, _, _, _ => none
  | n + 1, σ, v1, v2 =>
    if 7 ≤ v2 then (
      some (σ, (-2))
    ) else (
      cl (f_X2_optionWord σ v2) fun s1 x2 =>
      cl (f_X6_isWord s1 v1 x2) fun s3 x4 =>
      if x4 = 0 then (
        f_X5_optionOf_2 n s3 v1 (v2 + 1)
      ) else (
        some (s3, v2)
      )
    )
def f_X5_optionOf (σ : St) (a1 : Int32) : Option (St × Int32) :=
  f_X5_optionOf_2 fl σ a1 0
def rm_X5_stepOption : Room := { frames := 7, cells := 0, slots := 0, locals := 153 }
theorem q_X5_stepOption : yX5_stepOption.cls ≠ "java/lang/invoke/MethodHandle" ∧ yX5_stepOption.cls ≠ "java/lang/invoke/VarHandle" ∧ (parseMethodDescriptor yX5_stepOption.desc).map (fun d => d.parameters.length) = some 1 := ⟨by decide +kernel, by decide +kernel, by decide +kernel⟩
def f_X5_stepOption_57 (k70 : St → Int32 → Option (St × Int32)) (σ : St) (v1 : Int32) : Option (St × Int32) :=
  cl (f_X6_placeAt σ v1) fun s9 x10 =>
  cl (f_X5_blame s9 5 x10) fun s11 _u67 =>
  k70 s11 v1
def f_X5_stepOption_102 (σ : St) (t1 : Int32) (v1 : Int32) : Option (St × Int32) :=
  cl (f_X5_noteToken σ t1 12 v1) fun s13 _u107 =>
  if 3 ≤ (gi s13 412 0) then (
    bnd (si s13 409 0 5) fun s14 =>
    some (s14, 0)
  ) else (
    bnd (si s13 409 0 7) fun s15 =>
    some (s15, 0)
  )
def f_X5_stepOption_70 (σ : St) (v1 : Int32) : Option (St × Int32) :=
  bnd (si σ 103 (gr σ 3 0) ((gi σ 103 (gr σ 3 0)) ||| (1 <<< ((gi σ 412 0) &&& 31)))) fun s12 =>
  if (gi s12 412 0) = 4 then (
    f_X5_stepOption_102 s12 1 v1
  ) else (
    f_X5_stepOption_102 s12 0 v1
  )
def f_X5_stepOption (σ : St) (a1 : Int32) : Option (St × Int32) :=
  cl (f_X5_optionOf σ a1) fun s1 x2 =>
  bnd (si s1 412 0 x2) fun s3 =>
  if 0 ≤ (gi s3 412 0) then (
    cl (f_X1_has s3 (gr s3 3 0) (gi s3 412 0)) fun s4 x5 =>
    cq (decide (x5 = 0 ∨ x5 = 1)) <|
    bnd (si s4 413 0 x5) fun s6 =>
    if (gi s6 413 0) = 0 then (
      cl (f_X2_mayHave s6 (gi s6 102 (gr s6 3 0)) (gi s6 412 0)) fun s7 x8 =>
      if x8 = 0 then (
        f_X5_stepOption_57 (f_X5_stepOption_70) s7 a1
      ) else (
        f_X5_stepOption_70 s7 a1
      )
    ) else (
      f_X5_stepOption_57 (f_X5_stepOption_70) s6 a1
    )
  ) else (
    some (s3, 2)
  )
def rm_X5_stepPattern : Room := { frames := 3, cells := 0, slots := 0, locals := 105 }
theorem q_X5_stepPattern : yX5_stepPattern.cls ≠ "java/lang/invoke/MethodHandle" ∧ yX5_stepPattern.cls ≠ "java/lang/invoke/VarHandle" ∧ (parseMethodDescriptor yX5_stepPattern.desc).map (fun d => d.parameters.length) = some 1 := ⟨by decide +kernel, by decide +kernel, by decide +kernel⟩
def f_X5_stepPattern (σ : St) (a1 : Int32) : Option (St × Int32) :=
  cl (f_X6_kindAt σ a1) fun s1 x2 =>
  if x2 = 1 then (
    cl (f_X6_addTo s1 (645 + 2 * (gr s1 4 0)) a1) fun s5 _u24 =>
    bnd (si s5 409 0 12) fun s6 =>
    some (s6, 0)
  ) else (
    cl (f_X5_stepStar s1 a1) fun s3 x4 =>
    some (s3, x4)
  )
def rm_X5_stepRuleKind : Room := { frames := 7, cells := 0, slots := 0, locals := 153 }
theorem q_X5_stepRuleKind : yX5_stepRuleKind.cls ≠ "java/lang/invoke/MethodHandle" ∧ yX5_stepRuleKind.cls ≠ "java/lang/invoke/VarHandle" ∧ (parseMethodDescriptor yX5_stepRuleKind.desc).map (fun d => d.parameters.length) = some 1 := ⟨by decide +kernel, by decide +kernel, by decide +kernel⟩
def f_X5_stepRuleKind (σ : St) (a1 : Int32) : Option (St × Int32) :=
  cl (f_X5_kindOf σ a1) fun s1 x2 =>
  if 0 ≤ x2 then (
    bnd (si s1 303 (gr s1 4 0) x2) fun s3 =>
    bnd (si s3 409 0 17) fun s4 =>
    some (s4, 0)
  ) else (
    some (s1, 2)
  )
def rm_X5_takeNull : Room := { frames := 2, cells := 0, slots := 0, locals := 44 }
theorem q_X5_takeNull : yX5_takeNull.cls ≠ "java/lang/invoke/MethodHandle" ∧ yX5_takeNull.cls ≠ "java/lang/invoke/VarHandle" ∧ (parseMethodDescriptor yX5_takeNull.desc).map (fun d => d.parameters.length) = some 1 := ⟨by decide +kernel, by decide +kernel, by decide +kernel⟩
def f_X5_takeNull (σ : St) (a1 : Int32) : Option (St × Unit) :=
  cl (f_X6_numberAt σ a1) fun s1 x2 =>
  bnd (si s1 104 (gr σ 3 0) x2) fun s3 =>
  if (gi s3 102 (gr s3 3 0)) = 4 then (
    if (gi s3 104 (gr s3 3 0)) ≤ 1 then (
      some (s3, ())
    ) else (
      cl (f_X6_placeAt s3 a1) fun s4 x5 =>
      cl (f_X5_blame s4 5 x5) fun s6 _u47 =>
      some (s6, ())
    )
  ) else (
    some (s3, ())
  )
def rm_X5_stepValue : Room := { frames := 3, cells := 0, slots := 0, locals := 105 }
theorem q_X5_stepValue : yX5_stepValue.cls ≠ "java/lang/invoke/MethodHandle" ∧ yX5_stepValue.cls ≠ "java/lang/invoke/VarHandle" ∧ (parseMethodDescriptor yX5_stepValue.desc).map (fun d => d.parameters.length) = some 1 := ⟨by decide +kernel, by decide +kernel, by decide +kernel⟩
def f_X5_stepValue_121 (σ : St) (t1 : Int32) (v1 : Int32) : Option (St × Int32) :=
  cl (f_X5_noteToken σ t1 14 v1) fun s8 _u126 =>
  bnd (si s8 409 0 9) fun s9 =>
  some (s9, 0)
def f_X5_stepValue_98 (σ : St) (t1 : Int32) (v1 : Int32) : Option (St × Int32) :=
  cl (f_X5_noteToken σ t1 13 v1) fun s7 _u103 =>
  if (gi s7 412 0) = 6 then (
    f_X5_stepValue_121 s7 1 v1
  ) else (
    f_X5_stepValue_121 s7 0 v1
  )
def f_X5_stepValue_21 (σ : St) (t0 : Int32) (t1 : Int32) (v1 : Int32) : Option (St × Int32) :=
  if t0 = t1 then (
    bnd (si σ 409 0 7) fun s3 =>
    if (gi s3 412 0) = 3 then (
      cl (f_X5_takeNull s3 v1) fun s6 _u42 =>
      some (s6, 0)
    ) else (
      if (gi s3 412 0) = 5 then (
        cl (f_X3_clear s3 (6 + 2 * (gr s3 3 0))) fun s4 _u63 =>
        cl (f_X6_addTo s4 (6 + 2 * (gr s4 3 0)) v1) fun s5 _u78 =>
        some (s5, 0)
      ) else (
        if (gi s3 412 0) = 4 then (
          f_X5_stepValue_98 s3 1 v1
        ) else (
          f_X5_stepValue_98 s3 0 v1
        )
      )
    )
  ) else (
    some (σ, 2)
  )
def f_X5_stepValue (σ : St) (a1 : Int32) : Option (St × Int32) :=
  cl (f_X6_kindAt σ a1) fun s1 x2 =>
  if (gi s1 412 0) = 3 then (
    f_X5_stepValue_21 s1 x2 2 a1
  ) else (
    f_X5_stepValue_21 s1 x2 1 a1
  )
def rm_X5_step : Room := { frames := 8, cells := 0, slots := 0, locals := 175 }
theorem q_X5_step : yX5_step.cls ≠ "java/lang/invoke/MethodHandle" ∧ yX5_step.cls ≠ "java/lang/invoke/VarHandle" ∧ (parseMethodDescriptor yX5_step.desc).map (fun d => d.parameters.length) = some 1 := ⟨by decide +kernel, by decide +kernel, by decide +kernel⟩
def f_X5_step (σ : St) (a1 : Int32) : Option (St × Int32) :=
  bnd (gi σ 409 0) fun x1 =>
  if x1 = 0 then (
    cl (f_X5_isFieldName σ a1) fun s2 x3 =>
    if x3 = 0 then (
      cl (f_X5_stepItem s2 a1) fun s4 x5 =>
      some (s4, x5)
    ) else (
      cl (f_X5_stepFieldName s2 a1) fun s6 x7 =>
      some (s6, x7)
    )
  ) else (
  if x1 = 1 then (
    cl (f_X5_expect σ a1 58 2) fun s8 x9 =>
    some (s8, x9)
  ) else (
  if x1 = 2 then (
    cl (f_X5_stepKind σ a1) fun s10 x11 =>
    some (s10, x11)
  ) else (
  if x1 = 3 then (
    cl (f_X5_stepBehindKind σ a1) fun s12 x13 =>
    some (s12, x13)
  ) else (
  if x1 = 4 then (
    cl (f_X5_stepOption σ a1) fun s14 x15 =>
    some (s14, x15)
  ) else (
  if x1 = 5 then (
    cl (f_X5_expect σ a1 61 6) fun s16 x17 =>
    some (s16, x17)
  ) else (
  if x1 = 6 then (
    cl (f_X5_stepValue σ a1) fun s18 x19 =>
    some (s18, x19)
  ) else (
  if x1 = 7 then (
    cl (f_X5_stepBehindValue σ a1) fun s20 x21 =>
    some (s20, x21)
  ) else (
  if x1 = 8 then (
    cl (f_X5_expect σ a1 1 9) fun s22 x23 =>
    some (s22, x23)
  ) else (
  if x1 = 9 then (
    cl (f_X5_stepInPath σ a1) fun s24 x25 =>
    some (s24, x25)
  ) else (
  if x1 = 10 then (
    cl (f_X5_stepHeadEnd σ a1) fun s26 x27 =>
    some (s26, x27)
  ) else (
  if x1 = 11 then (
    cl (f_X5_stepPattern σ a1) fun s28 x29 =>
    some (s28, x29)
  ) else (
  if x1 = 12 then (
    cl (f_X5_stepBehindHead σ a1) fun s30 x31 =>
    some (s30, x31)
  ) else (
  if x1 = 13 then (
    cl (f_X5_stepBehindStar σ a1) fun s32 x33 =>
    some (s32, x33)
  ) else (
  if x1 = 14 then (
    cl (f_X5_expect σ a1 58 15) fun s34 x35 =>
    some (s34, x35)
  ) else (
  if x1 = 15 then (
    cl (f_X5_stepRuleKind σ a1) fun s36 x37 =>
    some (s36, x37)
  ) else (
  if x1 = 16 then (
    cl (f_X5_stepLimitNumber σ a1) fun s38 x39 =>
    some (s38, x39)
  ) else (
    cl (f_X5_expect σ a1 59 0) fun s40 x41 =>
    some (s40, x41)
  )))))))))))))))))
def rm_X5_stop : Room := { frames := 0, cells := 0, slots := 0, locals := 0 }
theorem q_X5_stop : yX5_stop.cls ≠ "java/lang/invoke/MethodHandle" ∧ yX5_stop.cls ≠ "java/lang/invoke/VarHandle" ∧ (parseMethodDescriptor yX5_stop.desc).map (fun d => d.parameters.length) = some 2 := ⟨by decide +kernel, by decide +kernel, by decide +kernel⟩
def f_X5_stop (σ : St) (a1 : Int32) (a2 : Int32) : Option (St × Int32) :=
  bnd (si σ 415 0 a1) fun s1 =>
  bnd (si s1 416 0 a2) fun s2 =>
  some (s2, a1)
def rm_X6_count : Room := { frames := 0, cells := 0, slots := 0, locals := 0 }
theorem q_X6_count : yX6_count.cls ≠ "java/lang/invoke/MethodHandle" ∧ yX6_count.cls ≠ "java/lang/invoke/VarHandle" ∧ (parseMethodDescriptor yX6_count.desc).map (fun d => d.parameters.length) = some 0 := ⟨by decide +kernel, by decide +kernel, by decide +kernel⟩
def f_X6_count (σ : St) : Option (St × Int32) :=
  some (σ, gi σ 504 0)
def rm_X6_begin : Room := { frames := 0, cells := 0, slots := 0, locals := 0 }
theorem q_X6_begin : yX6_begin.cls ≠ "java/lang/invoke/MethodHandle" ∧ yX6_begin.cls ≠ "java/lang/invoke/VarHandle" ∧ (parseMethodDescriptor yX6_begin.desc).map (fun d => d.parameters.length) = some 2 := ⟨by decide +kernel, by decide +kernel, by decide +kernel⟩
def f_X6_begin (σ : St) (a1 : Int32) (a2 : Int32) : Option (St × Unit) :=
  if 2000 ≤ (gi σ 504 0) then (
    some (σ, ())
  ) else (
    ck (gi σ 504 0) (lenX 8) fun j1 =>
    bnd (sa σ 8 8 j1 a1) fun s2 =>
    ck (gi s2 504 0) (lenX 9) fun j3 =>
    bnd (sa s2 8 9 j3 a2) fun s4 =>
    ck (gi s4 504 0) (lenX 10) fun j5 =>
    bnd (sa s4 8 10 j5 1) fun s6 =>
    bnd (si s6 504 0 ((gi s6 504 0) + 1)) fun s7 =>
    some (s7, ())
  )
def rm_X6_isDigit : Room := { frames := 0, cells := 0, slots := 0, locals := 0 }
theorem q_X6_isDigit : yX6_isDigit.cls ≠ "java/lang/invoke/MethodHandle" ∧ yX6_isDigit.cls ≠ "java/lang/invoke/VarHandle" ∧ (parseMethodDescriptor yX6_isDigit.desc).map (fun d => d.parameters.length) = some 1 := ⟨by decide +kernel, by decide +kernel, by decide +kernel⟩
def f_X6_isDigit (σ : St) (a1 : Int32) : Option (St × Int32) :=
  if a1 < 48 then (
    some (σ, 0)
  ) else (
    if 57 < a1 then (
      some (σ, 0)
    ) else (
      some (σ, 1)
    )
  )
def rm_X6_isSmall : Room := { frames := 0, cells := 0, slots := 0, locals := 0 }
theorem q_X6_isSmall : yX6_isSmall.cls ≠ "java/lang/invoke/MethodHandle" ∧ yX6_isSmall.cls ≠ "java/lang/invoke/VarHandle" ∧ (parseMethodDescriptor yX6_isSmall.desc).map (fun d => d.parameters.length) = some 1 := ⟨by decide +kernel, by decide +kernel, by decide +kernel⟩
def f_X6_isSmall (σ : St) (a1 : Int32) : Option (St × Int32) :=
  if a1 < 97 then (
    some (σ, 0)
  ) else (
    if 122 < a1 then (
      some (σ, 0)
    ) else (
      some (σ, 1)
    )
  )
def rm_X6_goesOn : Room := { frames := 1, cells := 0, slots := 0, locals := 20 }
theorem q_X6_goesOn : yX6_goesOn.cls ≠ "java/lang/invoke/MethodHandle" ∧ yX6_goesOn.cls ≠ "java/lang/invoke/VarHandle" ∧ (parseMethodDescriptor yX6_goesOn.desc).map (fun d => d.parameters.length) = some 2 := ⟨by decide +kernel, by decide +kernel, by decide +kernel⟩
def f_X6_goesOn_25 (k37 : St → Option (St × Int32)) (σ : St) (v0 : Int32) (v1 : Int32) : Option (St × Int32) :=
  if v0 = 2 then (
    cl (f_X6_isDigit σ v1) fun s5 x6 =>
    if x6 = 0 then (
      some (s5, 0)
    ) else (
      k37 s5
    )
  ) else (
    some (σ, 0)
  )
def f_X6_goesOn_37 (σ : St) : Option (St × Int32) :=
  some (σ, 1)
def f_X6_goesOn (σ : St) (a1 : Int32) (a2 : Int32) : Option (St × Int32) :=
  if a1 = 1 then (
    cl (f_X6_isSmall σ a2) fun s1 x2 =>
    if x2 = 0 then (
      cl (f_X6_isDigit s1 a2) fun s3 x4 =>
      if x4 = 0 then (
        if a2 = 95 then (
          f_X6_goesOn_37 s3
        ) else (
          f_X6_goesOn_25 (f_X6_goesOn_37) s3 a1 a2
        )
      ) else (
        f_X6_goesOn_37 s3
      )
    ) else (
      f_X6_goesOn_37 s1
    )
  ) else (
    f_X6_goesOn_25 (f_X6_goesOn_37) σ a1 a2
  )
def rm_X6_kindBegunBy : Room := { frames := 1, cells := 0, slots := 0, locals := 20 }
theorem q_X6_kindBegunBy : yX6_kindBegunBy.cls ≠ "java/lang/invoke/MethodHandle" ∧ yX6_kindBegunBy.cls ≠ "java/lang/invoke/VarHandle" ∧ (parseMethodDescriptor yX6_kindBegunBy.desc).map (fun d => d.parameters.length) = some 1 := ⟨by decide +kernel, by decide +kernel, by decide +kernel⟩
def f_X6_kindBegunBy (σ : St) (a1 : Int32) : Option (St × Int32) :=
  cl (f_X6_isSmall σ a1) fun s1 x2 =>
  if x2 = 0 then (
    cl (f_X6_isDigit s1 a1) fun s3 x4 =>
    if x4 = 0 then (
      bnd (a1) fun x5 =>
      if x5 = 40 then (
        some (s3, a1)
      ) else (
      if x5 = 41 then (
        some (s3, a1)
      ) else (
      if x5 = 42 then (
        some (s3, a1)
      ) else (
      if x5 = 44 then (
        some (s3, a1)
      ) else (
      if x5 = 46 then (
        some (s3, a1)
      ) else (
      if x5 = 58 then (
        some (s3, a1)
      ) else (
      if x5 = 59 then (
        some (s3, a1)
      ) else (
      if x5 = 61 then (
        some (s3, a1)
      ) else (
      if x5 = 123 then (
        some (s3, a1)
      ) else (
      if x5 = 125 then (
        some (s3, a1)
      ) else (
        some (s3, 0)
      ))))))))))
    ) else (
      some (s3, 2)
    )
  ) else (
    some (s1, 1)
  )
def rm_X6_lengthenLast : Room := { frames := 0, cells := 0, slots := 0, locals := 0 }
theorem q_X6_lengthenLast : yX6_lengthenLast.cls ≠ "java/lang/invoke/MethodHandle" ∧ yX6_lengthenLast.cls ≠ "java/lang/invoke/VarHandle" ∧ (parseMethodDescriptor yX6_lengthenLast.desc).map (fun d => d.parameters.length) = some 1 := ⟨by decide +kernel, by decide +kernel, by decide +kernel⟩
def f_X6_lengthenLast_48 (σ : St) (t0 : Int32) (t1 : Int32) : Option (St × Int32) :=
  if t1 < t0 then (
    some (σ, 0)
  ) else (
    some (σ, 1)
  )
def f_X6_lengthenLast (σ : St) (a1 : Int32) : Option (St × Int32) :=
  if 1 ≤ (gi σ 504 0) then (
    ck ((gi σ 504 0) - 1) (lenX 10) fun j1 =>
    ck ((gi σ 504 0) - 1) (lenX 10) fun j2 =>
    bnd (sa σ 8 10 j2 ((ga σ 8 10 j1) + 1)) fun s3 =>
    ck ((gi s3 504 0) - 1) (lenX 10) fun j4 =>
    if a1 = 1 then (
      f_X6_lengthenLast_48 s3 (ga s3 8 10 j4) 12
    ) else (
      f_X6_lengthenLast_48 s3 (ga s3 8 10 j4) 6
    )
  ) else (
    some (σ, 0)
  )
def rm_X6_readAll : Room := { frames := 2, cells := 0, slots := 0, locals := 41 }
theorem q_X6_readAll : yX6_readAll.cls ≠ "java/lang/invoke/MethodHandle" ∧ yX6_readAll.cls ≠ "java/lang/invoke/VarHandle" ∧ (parseMethodDescriptor yX6_readAll.desc).map (fun d => d.parameters.length) = some 0 := ⟨by decide +kernel, by decide +kernel, by decide +kernel⟩
def f_X6_readAll_68 (k90 : St → Int32 → Int32 → Option (St × Int32)) (σ : St) (v2 : Int32) : Option (St × Int32) :=
  k90 σ 0 v2
def f_X6_readAll_90 (k9 : St → Int32 → Int32 → Option (St × Int32)) (σ : St) (v1 : Int32) (v2 : Int32) : Option (St × Int32) :=
  k9 σ v1 (v2 + 1)
def f_X6_readAll_9 : Nat → St → Int32 → Int32 → Option (St × Int32)
  | 0, _, _, _ => none
  | n + 1, σ, v1, v2 =>
    cl (f_X3_length σ 0) fun s2 x3 =>
    if x3 ≤ v2 then (
      some (s2, (-1))
    ) else (
      cl (f_X3_at s2 0 v2) fun s4 x5 =>
      cl (f_X6_goesOn s4 v1 x5) fun s6 x7 =>
      if x7 = 0 then (
        if x5 = 32 then (
          f_X6_readAll_68 (f_X6_readAll_90 (f_X6_readAll_9 n)) s6 v2
        ) else (
          if x5 = 10 then (
            f_X6_readAll_68 (f_X6_readAll_90 (f_X6_readAll_9 n)) s6 v2
          ) else (
            cl (f_X6_kindBegunBy s6 x5) fun s8 x9 =>
            if x9 = 0 then (
              some (s8, v2)
            ) else (
              cl (f_X6_begin s8 x9 v2) fun s10 _u87 =>
              f_X6_readAll_90 (f_X6_readAll_9 n) s10 x9 v2
            )
          )
        )
      ) else (
        cl (f_X6_lengthenLast s6 v1) fun s11 x12 =>
        if x12 = 0 then (
          cl (f_X6_placeAt s11 ((gi s11 504 0) - 1)) fun s13 x14 =>
          some (s13, x14)
        ) else (
          f_X6_readAll_90 (f_X6_readAll_9 n) s11 v1 v2
        )
      )
    )
def f_X6_readAll (σ : St) : Option (St × Int32) :=
  bnd (si σ 504 0 0) fun s1 =>
  f_X6_readAll_9 fl s1 0 0
def rm_X6_textLength : Room := { frames := 1, cells := 0, slots := 0, locals := 20 }
theorem q_X6_textLength : yX6_textLength.cls ≠ "java/lang/invoke/MethodHandle" ∧ yX6_textLength.cls ≠ "java/lang/invoke/VarHandle" ∧ (parseMethodDescriptor yX6_textLength.desc).map (fun d => d.parameters.length) = some 0 := ⟨by decide +kernel, by decide +kernel, by decide +kernel⟩
def f_X6_textLength (σ : St) : Option (St × Int32) :=
  cl (f_X3_length σ 0) fun s1 x2 =>
  some (s1, x2)
def rm_X5_readInto : Room := { frames := 9, cells := 0, slots := 0, locals := 196 }
theorem q_X5_readInto : yX5_readInto.cls ≠ "java/lang/invoke/MethodHandle" ∧ yX5_readInto.cls ≠ "java/lang/invoke/VarHandle" ∧ (parseMethodDescriptor yX5_readInto.desc).map (fun d => d.parameters.length) = some 1 := ⟨by decide +kernel, by decide +kernel, by decide +kernel⟩
def f_X5_readInto_85 (σ : St) : Option (St × Int32) :=
  cl (f_X6_textLength σ) fun s17 x18 =>
  cl (f_X5_stop s17 2 x18) fun s19 x20 =>
  some (s19, x20)
def f_X5_readInto_27 : Nat → St → Int32 → Option (St × Int32)
  | 0, _, _ => none
  | n + 1, σ, v3 =>
    cl (f_X6_count σ) fun s6 x7 =>
    if x7 ≤ v3 then (
      if (gi s6 409 0) = 0 then (
        if (gi s6 410 0) ≤ 0 then (
          cl (f_X5_lookAtPaths s6) fun s8 _u99 =>
          cl (f_X5_lookAtCircles s8) fun s9 _u103 =>
          cl (f_X5_lookAtLimit s9) fun s10 _u107 =>
          some (s10, gi s10 415 0)
        ) else (
          f_X5_readInto_85 s6
        )
      ) else (
        f_X5_readInto_85 s6
      )
    ) else (
      cl (f_X5_step s6 v3) fun s11 x12 =>
      if x12 = 0 then (
        f_X5_readInto_27 n s11 (v3 + 1)
      ) else (
        cl (f_X6_placeAt s11 v3) fun s13 x14 =>
        cl (f_X5_stop s13 x12 x14) fun s15 x16 =>
        some (s15, x16)
      )
    )
def f_X5_readInto (σ : St) (a1 : Nat) : Option (St × Int32) :=
  cl (f_X5_begin σ a1) fun s1 _u2 =>
  cl (f_X6_readAll s1) fun s2 x3 =>
  if x3 = (-1) then (
    f_X5_readInto_27 fl s2 0
  ) else (
    cl (f_X5_stop s2 1 x3) fun s4 x5 =>
    some (s4, x5)
  )
def rm_X6_arePath : Room := { frames := 0, cells := 0, slots := 0, locals := 0 }
theorem q_X6_arePath : yX6_arePath.cls ≠ "java/lang/invoke/MethodHandle" ∧ yX6_arePath.cls ≠ "java/lang/invoke/VarHandle" ∧ (parseMethodDescriptor yX6_arePath.desc).map (fun d => d.parameters.length) = some 0 := ⟨by decide +kernel, by decide +kernel, by decide +kernel⟩
def f_X6_arePath_28 (k2 : St → Int32 → Option (St × Int32)) (σ : St) (t0 : Int32) (t1 : Int32) (v1 : Int32) : Option (St × Int32) :=
  if t0 = t1 then (
    k2 σ (v1 + 1)
  ) else (
    some (σ, 0)
  )
def f_X6_arePath_2 : Nat → St → Int32 → Option (St × Int32)
  | 0, _, _ => none
  | n + 1, σ, v1 =>
    if (gi σ 504 0) ≤ v1 then (
      if ((gi σ 504 0) - (gi σ 504 0) / 2 * 2) = 1 then (
        some (σ, 1)
      ) else (
        some (σ, 0)
      )
    ) else (
      ck v1 (lenX 8) fun j1 =>
      if (v1 - v1 / 2 * 2) = 0 then (
        f_X6_arePath_28 (f_X6_arePath_2 n) σ (ga σ 8 8 j1) 1 v1
      ) else (
        f_X6_arePath_28 (f_X6_arePath_2 n) σ (ga σ 8 8 j1) 46 v1
      )
    )
def f_X6_arePath (σ : St) : Option (St × Int32) :=
  f_X6_arePath_2 fl σ 0
def rm_X7_ruleFor : Room := { frames := 2, cells := 0, slots := 0, locals := 48 }
theorem q_X7_ruleFor : yX7_ruleFor.cls ≠ "java/lang/invoke/MethodHandle" ∧ yX7_ruleFor.cls ≠ "java/lang/invoke/VarHandle" ∧ (parseMethodDescriptor yX7_ruleFor.desc).map (fun d => d.parameters.length) = some 3 := ⟨by decide +kernel, by decide +kernel, by decide +kernel⟩
def f_X7_ruleFor_3 : Nat → St → Nat → Nat → Int32 → Int32 → Int32 → Option (St × Int32)
  | 0, _, _, _, _, _, _ => none
  | n + 1, σ, v0, v1, v2, v3, v4 =>
    if (gi σ 604 v0) ≤ v4 then (
      some (σ, (-2))
    ) else (
      ck v4 8 fun j1 =>
      cl (f_X4_fits σ (8 * v0 + j1) v1 v2 v3) fun s2 x3 =>
      if x3 = 0 then (
        f_X7_ruleFor_3 n s2 v0 v1 v2 v3 (v4 + 1)
      ) else (
        some (s2, v4)
      )
    )
def f_X7_ruleFor (σ : St) (o : Nat) (a1 : Nat) (a2 : Int32) (a3 : Int32) : Option (St × Int32) :=
  f_X7_ruleFor_3 fl σ o a1 a2 a3 0
def rm_X7_countWithin : Room := { frames := 0, cells := 0, slots := 0, locals := 0 }
theorem q_X7_countWithin : yX7_countWithin.cls ≠ "java/lang/invoke/MethodHandle" ∧ yX7_countWithin.cls ≠ "java/lang/invoke/VarHandle" ∧ (parseMethodDescriptor yX7_countWithin.desc).map (fun d => d.parameters.length) = some 1 := ⟨by decide +kernel, by decide +kernel, by decide +kernel⟩
def f_X7_countWithin_31 (k4 : St → Nat → Int32 → Int32 → Int32 → Option (St × Int32)) (σ : St) (t0 : Int32) (t1 : Int32) (v0 : Nat) (v1 : Int32) (v3 : Int32) : Option (St × Int32) :=
  k4 σ v0 v1 (t0 + t1) (v3 + 1)
def f_X7_countWithin_4 : Nat → St → Nat → Int32 → Int32 → Int32 → Option (St × Int32)
  | 0, _, _, _, _, _ => none
  | n + 1, σ, v0, v1, v2, v3 =>
    if (gi σ 603 v0) ≤ v3 then (
      some (σ, v2)
    ) else (
      ck v3 40 fun j1 =>
      if (gi σ 107 (40 * v0 + j1)) = v1 then (
        f_X7_countWithin_31 (f_X7_countWithin_4 n) σ v2 1 v0 v1 v3
      ) else (
        f_X7_countWithin_31 (f_X7_countWithin_4 n) σ v2 0 v0 v1 v3
      )
    )
def f_X7_countWithin (σ : St) (o : Nat) (a1 : Int32) : Option (St × Int32) :=
  f_X7_countWithin_4 fl σ o a1 0 0
def rm_X7_countLeaves : Room := { frames := 1, cells := 0, slots := 0, locals := 20 }
theorem q_X7_countLeaves : yX7_countLeaves.cls ≠ "java/lang/invoke/MethodHandle" ∧ yX7_countLeaves.cls ≠ "java/lang/invoke/VarHandle" ∧ (parseMethodDescriptor yX7_countLeaves.desc).map (fun d => d.parameters.length) = some 0 := ⟨by decide +kernel, by decide +kernel, by decide +kernel⟩
def f_X7_countLeaves_33 (k4 : St → Nat → Int32 → Int32 → Option (St × Int32)) (σ : St) (t0 : Int32) (t1 : Int32) (v0 : Nat) (v2 : Int32) : Option (St × Int32) :=
  k4 σ v0 (t0 + t1) (v2 + 1)
def f_X7_countLeaves_4 : Nat → St → Nat → Int32 → Int32 → Option (St × Int32)
  | 0, _, _, _, _ => none
  | n + 1, σ, v0, v1, v2 =>
    if (gi σ 603 v0) ≤ v2 then (
      some (σ, v1)
    ) else (
      ck v2 40 fun j1 =>
      cl (f_X2_isLeaf σ (gi σ 102 (40 * v0 + j1))) fun s2 x3 =>
      if x3 = 0 then (
        f_X7_countLeaves_33 (f_X7_countLeaves_4 n) s2 v1 0 v0 v2
      ) else (
        f_X7_countLeaves_33 (f_X7_countLeaves_4 n) s2 v1 1 v0 v2
      )
    )
def f_X7_countLeaves (σ : St) (o : Nat) : Option (St × Int32) :=
  f_X7_countLeaves_4 fl σ o 0 0
def rm_X7_countReached : Room := { frames := 1, cells := 0, slots := 0, locals := 20 }
theorem q_X7_countReached : yX7_countReached.cls ≠ "java/lang/invoke/MethodHandle" ∧ yX7_countReached.cls ≠ "java/lang/invoke/VarHandle" ∧ (parseMethodDescriptor yX7_countReached.desc).map (fun d => d.parameters.length) = some 1 := ⟨by decide +kernel, by decide +kernel, by decide +kernel⟩
def f_X7_countReached_33 : Nat → St → Nat → Int32 → Int32 → Option (St × Int32)
  | 0, _, _, _, _ => none
  | n + 1, σ, v0, v2, v3 =>
    if (gi σ 603 v0) ≤ v3 then (
      some (σ, gi σ 603 v0)
    ) else (
      ck v2 40 fun j4 =>
      if (gi σ 105 (40 * v0 + j4)) < 0 then (
        some (σ, v3)
      ) else (
        if (gi σ 105 (40 * v0 + j4)) < (gi σ 603 v0) then (
          f_X7_countReached_33 n σ v0 (gi σ 105 (40 * v0 + j4)) (v3 + 1)
        ) else (
          some (σ, v3)
        )
      )
    )
def f_X7_countReached (σ : St) (o : Nat) (a1 : Int32) : Option (St × Int32) :=
  if a1 < 0 then (
    some (σ, 0)
  ) else (
    if (gi σ 603 o) ≤ a1 then (
      some (σ, 0)
    ) else (
      ck a1 40 fun j1 =>
      cl (f_X2_isLeaf σ (gi σ 102 (40 * o + j1))) fun s2 x3 =>
      if x3 = 0 then (
        some (s2, 0)
      ) else (
        f_X7_countReached_33 fl s2 o a1 1
      )
    )
  )
def rm_X7_hasPlaceFor : Room := { frames := 3, cells := 0, slots := 0, locals := 68 }
theorem q_X7_hasPlaceFor : yX7_hasPlaceFor.cls ≠ "java/lang/invoke/MethodHandle" ∧ yX7_hasPlaceFor.cls ≠ "java/lang/invoke/VarHandle" ∧ (parseMethodDescriptor yX7_hasPlaceFor.desc).map (fun d => d.parameters.length) = some 1 := ⟨by decide +kernel, by decide +kernel, by decide +kernel⟩
def f_X7_hasPlaceFor (σ : St) (o : Nat) (a1 : Nat) : Option (St × Int32) :=
  cl (f_X3_lastPoint σ a1) fun s1 x2 =>
  if 0 ≤ x2 then (
    cl (f_X7_fieldOf s1 o a1 x2) fun s3 x4 =>
    if x4 < 0 then (
      some (s3, 0)
    ) else (
      ck x4 40 fun j5 =>
      cl (f_X2_isHolder s3 (gi s3 102 (40 * o + j5))) fun s6 x7 =>
      if x7 = 0 then (
        some (s6, 0)
      ) else (
        ck x4 40 fun j8 =>
        if 4 ≤ (gi s6 108 (40 * o + j8)) then (
          some (s6, 0)
        ) else (
          some (s6, 1)
        )
      )
    )
  ) else (
    some (s1, 1)
  )
def rm_X7_kindToCome : Room := { frames := 5, cells := 0, slots := 0, locals := 109 }
theorem q_X7_kindToCome : yX7_kindToCome.cls ≠ "java/lang/invoke/MethodHandle" ∧ yX7_kindToCome.cls ≠ "java/lang/invoke/VarHandle" ∧ (parseMethodDescriptor yX7_kindToCome.desc).map (fun d => d.parameters.length) = some 2 := ⟨by decide +kernel, by decide +kernel, by decide +kernel⟩
def f_X7_kindToCome_37 (k42 : St → Int32 → Nat → Nat → Int32 → Int32 → Option (St × Int32)) (σ : St) (v0 : Nat) (v1 : Nat) (v2 : Int32) (v3 : Int32) : Option (St × Int32) :=
  k42 σ 1 v0 v1 v2 v3
def f_X7_kindToCome_42 (σ : St) (t0 : Int32) (v0 : Nat) (v1 : Nat) (v2 : Int32) (v3 : Int32) : Option (St × Int32) :=
  if t0 = 0 then (
    if (gi σ 605 v0) ≤ (gi σ 603 v0) then (
      some (σ, (-2))
    ) else (
      if 40 ≤ (gi σ 603 v0) then (
        some (σ, (-2))
      ) else (
        cl (f_X7_hasPlaceFor σ v0 v1) fun s9 x10 =>
        if x10 = 0 then (
          some (s9, (-2))
        ) else (
          cl (f_X7_ruleFor s9 v0 v1 v3 v2) fun s11 x12 =>
          if 0 ≤ x12 then (
            ck x12 8 fun j13 =>
            some (s11, gi s11 303 (8 * v0 + j13))
          ) else (
            some (s11, (-2))
          )
        )
      )
    )
  ) else (
    some (σ, (-2))
  )
def f_X7_kindToCome (σ : St) (o : Nat) (a1 : Nat) (a2 : Int32) : Option (St × Int32) :=
  cl (f_X3_nameStart σ a1) fun s1 x2 =>
  cl (f_X3_length s1 a1) fun s3 x4 =>
  cl (f_X3_isWordAt s3 a1 x2 (x4 - x2) 0) fun s5 x6 =>
  if x6 = 0 then (
    cl (f_X3_isWordAt s5 a1 x2 (x4 - x2) 1) fun s7 x8 =>
    if x8 = 0 then (
      f_X7_kindToCome_42 s7 0 o a1 a2 x2
    ) else (
      f_X7_kindToCome_37 (f_X7_kindToCome_42) s7 o a1 a2 x2
    )
  ) else (
    f_X7_kindToCome_37 (f_X7_kindToCome_42) s5 o a1 a2 x2
  )
def rm_X7_endOf : Room := { frames := 0, cells := 0, slots := 0, locals := 0 }
theorem q_X7_endOf : yX7_endOf.cls ≠ "java/lang/invoke/MethodHandle" ∧ yX7_endOf.cls ≠ "java/lang/invoke/VarHandle" ∧ (parseMethodDescriptor yX7_endOf.desc).map (fun d => d.parameters.length) = some 1 := ⟨by decide +kernel, by decide +kernel, by decide +kernel⟩
def f_X7_endOf_21 : Nat → St → Nat → Int32 → Int32 → Option (St × Int32)
  | 0, _, _, _, _ => none
  | n + 1, σ, v0, v1, v2 =>
    if (gi σ 603 v0) ≤ v2 then (
      some (σ, gi σ 603 v0)
    ) else (
      ck v2 40 fun j1 =>
      ck v1 40 fun j2 =>
      if (gi σ 108 (40 * v0 + j2)) < (gi σ 108 (40 * v0 + j1)) then (
        f_X7_endOf_21 n σ v0 v1 (v2 + 1)
      ) else (
        some (σ, v2)
      )
    )
def f_X7_endOf (σ : St) (o : Nat) (a1 : Int32) : Option (St × Int32) :=
  if a1 < 0 then (
    some (σ, gi σ 603 o)
  ) else (
    if a1 < (gi σ 603 o) then (
      f_X7_endOf_21 fl σ o a1 (a1 + 1)
    ) else (
      some (σ, gi σ 603 o)
    )
  )
def rm_X7_growFrom : Room := { frames := 4, cells := 0, slots := 0, locals := 126 }
theorem q_X7_growFrom : yX7_growFrom.cls ≠ "java/lang/invoke/MethodHandle" ∧ yX7_growFrom.cls ≠ "java/lang/invoke/VarHandle" ∧ (parseMethodDescriptor yX7_growFrom.desc).map (fun d => d.parameters.length) = some 3 := ⟨by decide +kernel, by decide +kernel, by decide +kernel⟩
def f_X7_growFrom_139 (k37 : St → Nat → Nat → Nat → Int32 → Int32 → Int32 → Int32 → Option (St × Unit)) (σ : St) (v0 : Nat) (v1 : Nat) (v2 : Nat) (v3 : Int32) (v4 : Int32) (v5 : Int32) (v6 : Int32) : Option (St × Unit) :=
  k37 σ v0 v1 v2 v3 v4 v5 (v6 + 1)
def f_X7_growFrom_156 : Nat → St → Nat → Nat → Int32 → Option (St × Unit)
  | 0, _, _, _, _ => none
  | n + 1, σ, v0, v1, v6 =>
    if (gi σ 604 v0) ≤ v6 then (
      bnd (si σ 605 v0 (gi σ 605 v1)) fun s20 =>
      some (s20, ())
    ) else (
      ck v6 8 fun j21 =>
      ck v6 8 fun j22 =>
      cl (f_X4_copyFrom σ (8 * v0 + j21) (8 * v1 + j22)) fun s23 _u179 =>
      f_X7_growFrom_156 n s23 v0 v1 (v6 + 1)
    )
def f_X7_growFrom_37 : Nat → St → Nat → Nat → Nat → Int32 → Int32 → Int32 → Int32 → Option (St × Unit)
  | 0, _, _, _, _, _, _, _, _ => none
  | n + 1, σ, v0, v1, v2, v3, v4, v5, v6 =>
    if (gi σ 603 v0) ≤ v6 then (
      bnd (si σ 604 v0 (gi σ 604 v1)) fun s8 =>
      f_X7_growFrom_156 fl s8 v0 v1 0
    ) else (
      if v5 ≤ v6 then (
        if v6 ≤ v5 then (
          cl (f_X7_beginField σ v0 v6 v4) fun s9 _u111 =>
          ck v6 40 fun j10 =>
          cl (f_X3_copyFrom s9 (5 + 2 * (40 * v0 + j10)) v2) fun s11 _u125 =>
          ck v6 40 fun j12 =>
          bnd (si s11 102 (40 * v0 + j12) v3) fun s13 =>
          f_X7_growFrom_139 (f_X7_growFrom_37 n) s13 v0 v1 v2 v3 v4 v5 v6
        ) else (
          ck v6 40 fun j14 =>
          ck (v6 - 1) 40 fun j15 =>
          cl (f_X1_copyFrom σ (40 * v0 + j14) (40 * v1 + j15) v5) fun s16 _u100 =>
          f_X7_growFrom_139 (f_X7_growFrom_37 n) s16 v0 v1 v2 v3 v4 v5 v6
        )
      ) else (
        ck v6 40 fun j17 =>
        ck v6 40 fun j18 =>
        cl (f_X1_copyFrom σ (40 * v0 + j17) (40 * v1 + j18) v5) fun s19 _u69 =>
        f_X7_growFrom_139 (f_X7_growFrom_37 n) s19 v0 v1 v2 v3 v4 v5 v6
      )
    )
def f_X7_growFrom (σ : St) (o : Nat) (a1 : Nat) (a2 : Nat) (a3 : Int32) : Option (St × Unit) :=
  cl (f_X3_lastPoint σ a2) fun s1 x2 =>
  cl (f_X7_fieldOf s1 a1 a2 x2) fun s3 x4 =>
  cl (f_X7_endOf s3 a1 x4) fun s5 x6 =>
  bnd (si s5 603 o (if 40 < ((gi s5 603 a1) + 1) then 40 else ((gi s5 603 a1) + 1))) fun s7 =>
  f_X7_growFrom_37 fl s7 o a1 a2 a3 x4 x6 0
def rm_X7_comesBefore : Room := { frames := 2, cells := 0, slots := 0, locals := 83 }
theorem q_X7_comesBefore : yX7_comesBefore.cls ≠ "java/lang/invoke/MethodHandle" ∧ yX7_comesBefore.cls ≠ "java/lang/invoke/VarHandle" ∧ (parseMethodDescriptor yX7_comesBefore.desc).map (fun d => d.parameters.length) = some 2 := ⟨by decide +kernel, by decide +kernel, by decide +kernel⟩
def f_X7_comesBefore (σ : St) (o : Nat) (a1 : Int32) (a2 : Int32) : Option (St × Int32) :=
  ck a1 40 fun j1 =>
  ck a2 40 fun j2 =>
  cl (f_X3_compareWith σ (5 + 2 * (40 * o + j1)) (5 + 2 * (40 * o + j2))) fun s3 x4 =>
  if 0 ≤ x4 then (
    some (s3, 0)
  ) else (
    some (s3, 1)
  )
def rm_X7_sortByPath : Room := { frames := 3, cells := 0, slots := 0, locals := 105 }
theorem q_X7_sortByPath : yX7_sortByPath.cls ≠ "java/lang/invoke/MethodHandle" ∧ yX7_sortByPath.cls ≠ "java/lang/invoke/VarHandle" ∧ (parseMethodDescriptor yX7_sortByPath.desc).map (fun d => d.parameters.length) = some 0 := ⟨by decide +kernel, by decide +kernel, by decide +kernel⟩
def f_X7_sortByPath_58 (k2 : St → Nat → Int32 → Option (St × Unit)) (σ : St) (v0 : Nat) (v1 : Int32) (v2 : Int32) : Option (St × Unit) :=
  ck v2 (lenX v0) fun j7 =>
  bnd (sa σ 8 v0 j7 v1) fun s8 =>
  k2 s8 v0 (v1 + 1)
def f_X7_sortByPath_14 (k2 : St → Nat → Int32 → Option (St × Unit)) : Nat → St → Nat → Int32 → Int32 → Int32 → Option (St × Unit)
  | 0, _, _, _, _, _ => none
  | n + 1, σ, v0, v1, v2, v3 =>
    if v3 ≤ 0 then (
      f_X7_sortByPath_58 k2 σ v0 v1 v2
    ) else (
      ck (v3 - 1) (lenX v0) fun j1 =>
      cl (f_X7_comesBefore σ v0 v1 (ga σ 8 v0 j1)) fun s2 x3 =>
      if x3 = 0 then (
        f_X7_sortByPath_58 k2 s2 v0 v1 v2
      ) else (
        ck (v3 - 1) (lenX v0) fun j4 =>
        ck v3 (lenX v0) fun j5 =>
        bnd (sa s2 8 v0 j5 (ga s2 8 v0 j4)) fun s6 =>
        f_X7_sortByPath_14 k2 n s6 v0 v1 (v3 - 1) (v3 + (-1))
      )
    )
def f_X7_sortByPath_2 : Nat → St → Nat → Int32 → Option (St × Unit)
  | 0, _, _, _ => none
  | n + 1, σ, v0, v1 =>
    if (gi σ 603 v0) ≤ v1 then (
      some (σ, ())
    ) else (
      f_X7_sortByPath_14 (f_X7_sortByPath_2 n) fl σ v0 v1 v1 v1
    )
def f_X7_sortByPath (σ : St) (o : Nat) : Option (St × Unit) :=
  f_X7_sortByPath_2 fl σ o 0
def rm_X7_printBetween : Room := { frames := 5, cells := 0, slots := 0, locals := 107 }
theorem q_X7_printBetween : yX7_printBetween.cls ≠ "java/lang/invoke/MethodHandle" ∧ yX7_printBetween.cls ≠ "java/lang/invoke/VarHandle" ∧ (parseMethodDescriptor yX7_printBetween.desc).map (fun d => d.parameters.length) = some 3 := ⟨by decide +kernel, by decide +kernel, by decide +kernel⟩
def f_X7_printBetween_20 : Nat → St → Nat → Int32 → Int32 → Option (St × Unit)
  | 0, _, _, _, _ => none
  | n + 1, σ, v0, v1, v3 =>
    if v1 ≤ v3 then (
      some (σ, ())
    ) else (
      cl (f_X3_addWord σ v0 17) fun s3 _u28 =>
      f_X7_printBetween_20 n s3 v0 v1 (v3 + 1)
    )
def f_X7_printBetween (σ : St) (a1 : Nat) (a2 : Int32) (a3 : Int32) : Option (St × Unit) :=
  if a3 ≤ a2 then (
    cl (f_X3_add σ a1 59) fun s1 _u15 =>
    f_X7_printBetween_20 fl s1 a1 a2 a3
  ) else (
    cl (f_X3_add σ a1 123) fun s2 _u8 =>
    some (s2, ())
  )
def rm_X7_printPath : Room := { frames := 2, cells := 0, slots := 0, locals := 83 }
theorem q_X7_printPath : yX7_printPath.cls ≠ "java/lang/invoke/MethodHandle" ∧ yX7_printPath.cls ≠ "java/lang/invoke/VarHandle" ∧ (parseMethodDescriptor yX7_printPath.desc).map (fun d => d.parameters.length) = some 2 := ⟨by decide +kernel, by decide +kernel, by decide +kernel⟩
def f_X7_printPath (σ : St) (o : Nat) (a1 : Nat) (a2 : Int32) : Option (St × Unit) :=
  if a2 < 0 then (
    some (σ, ())
  ) else (
    if (gi σ 603 o) ≤ a2 then (
      some (σ, ())
    ) else (
      ck a2 40 fun j1 =>
      ck a2 40 fun j2 =>
      cl (f_X3_length σ (5 + 2 * (40 * o + j2))) fun s3 x4 =>
      cl (f_X3_addPart s3 a1 (5 + 2 * (40 * o + j1)) 0 x4) fun s5 _u35 =>
      some (s5, ())
    )
  )
def rm_X7_printOption : Room := { frames := 5, cells := 0, slots := 0, locals := 107 }
theorem q_X7_printOption : yX7_printOption.cls ≠ "java/lang/invoke/MethodHandle" ∧ yX7_printOption.cls ≠ "java/lang/invoke/VarHandle" ∧ (parseMethodDescriptor yX7_printOption.desc).map (fun d => d.parameters.length) = some 3 := ⟨by decide +kernel, by decide +kernel, by decide +kernel⟩
def f_X7_printOption (σ : St) (o : Nat) (a1 : Nat) (a2 : Nat) (a3 : Int32) : Option (St × Unit) :=
  cl (f_X2_optionWord σ a3) fun s1 x2 =>
  cl (f_X3_addWord s1 a1 x2) fun s3 _u5 =>
  if 3 ≤ a3 then (
    cl (f_X3_add s3 a1 61) fun s4 _u17 =>
    bnd (a3) fun x5 =>
    if x5 = 3 then (
      cl (f_X3_addNumber s4 a1 (gi s4 104 a2)) fun s6 _u53 =>
      some (s6, ())
    ) else (
    if x5 = 4 then (
      cl (f_X7_printPath s4 o a1 (gi s4 105 a2)) fun s7 _u76 =>
      some (s7, ())
    ) else (
    if x5 = 5 then (
      cl (f_X3_addAll s4 a1 (6 + 2 * a2)) fun s8 _u64 =>
      some (s8, ())
    ) else (
      cl (f_X7_printPath s4 o a1 (gi s4 106 a2)) fun s9 _u88 =>
      some (s9, ())
    )))
  ) else (
    some (s3, ())
  )
def rm_X7_printHead : Room := { frames := 6, cells := 0, slots := 0, locals := 130 }
theorem q_X7_printHead : yX7_printHead.cls ≠ "java/lang/invoke/MethodHandle" ∧ yX7_printHead.cls ≠ "java/lang/invoke/VarHandle" ∧ (parseMethodDescriptor yX7_printHead.desc).map (fun d => d.parameters.length) = some 2 := ⟨by decide +kernel, by decide +kernel, by decide +kernel⟩
def f_X7_printHead_84 (k50 : St → Nat → Nat → Nat → Int32 → Int32 → Option (St × Unit)) (σ : St) (v0 : Nat) (v1 : Nat) (v2 : Nat) (v4 : Int32) (v5 : Int32) : Option (St × Unit) :=
  k50 σ v0 v1 v2 v4 (v5 + 1)
def f_X7_printHead_50 : Nat → St → Nat → Nat → Nat → Int32 → Int32 → Option (St × Unit)
  | 0, _, _, _, _, _, _ => none
  | n + 1, σ, v0, v1, v2, v4, v5 =>
    if 7 ≤ v5 then (
      if v4 = 44 then (
        cl (f_X3_add σ v1 41) fun s10 _u100 =>
        some (s10, ())
      ) else (
        some (σ, ())
      )
    ) else (
      cl (f_X1_has σ v2 v5) fun s11 x12 =>
      if x12 = 0 then (
        f_X7_printHead_84 (f_X7_printHead_50 n) s11 v0 v1 v2 v4 v5
      ) else (
        cl (f_X3_add s11 v1 v4) fun s13 _u69 =>
        cl (f_X7_printOption s13 v0 v1 v2 v5) fun s14 _u77 =>
        f_X7_printHead_84 (f_X7_printHead_50 n) s14 v0 v1 v2 44 v5
      )
    )
def f_X7_printHead (σ : St) (o : Nat) (a1 : Nat) (a2 : Nat) : Option (St × Unit) :=
  cl (f_X3_nameStart σ (5 + 2 * a2)) fun s1 x2 =>
  cl (f_X3_length s1 (5 + 2 * a2)) fun s3 x4 =>
  cl (f_X3_addPart s3 a1 (5 + 2 * a2) x2 (x4 - x2)) fun s5 _u23 =>
  cl (f_X3_add s5 a1 58) fun s6 _u29 =>
  cl (f_X2_kindWord s6 (gi s6 102 a2)) fun s7 x8 =>
  cl (f_X3_addWord s7 a1 x8) fun s9 _u40 =>
  f_X7_printHead_50 fl s9 o a1 a2 40 0
def rm_X7_printTo : Room := { frames := 7, cells := 0, slots := 0, locals := 155 }
theorem q_X7_printTo : yX7_printTo.cls ≠ "java/lang/invoke/MethodHandle" ∧ yX7_printTo.cls ≠ "java/lang/invoke/VarHandle" ∧ (parseMethodDescriptor yX7_printTo.desc).map (fun d => d.parameters.length) = some 1 := ⟨by decide +kernel, by decide +kernel, by decide +kernel⟩
def f_X7_printTo_30 (k4 : St → Nat → Nat → Int32 → Int32 → Option (St × Unit)) (σ : St) (v0 : Nat) (v1 : Nat) (v3 : Int32) : Option (St × Unit) :=
  ck v3 40 fun j4 =>
  ck v3 40 fun j5 =>
  cl (f_X7_printHead σ v0 v1 (40 * v0 + j5)) fun s6 _u48 =>
  k4 s6 v0 v1 (gi σ 108 (40 * v0 + j4)) (v3 + 1)
def f_X7_printTo_72 : Nat → St → Nat → Nat → Int32 → Option (St × Unit)
  | 0, _, _, _, _ => none
  | n + 1, σ, v0, v1, v3 =>
    if (gi σ 604 v0) ≤ v3 then (
      if (gi σ 605 v0) = 40 then (
        some (σ, ())
      ) else (
        cl (f_X3_addWord σ v1 19) fun s7 _u108 =>
        cl (f_X3_addNumber s7 v1 (gi s7 605 v0)) fun s8 _u116 =>
        cl (f_X3_add s8 v1 59) fun s9 _u122 =>
        some (s9, ())
      )
    ) else (
      ck v3 8 fun j10 =>
      cl (f_X4_printTo σ (8 * v0 + j10) v1) fun s11 _u87 =>
      f_X7_printTo_72 n s11 v0 v1 (v3 + 1)
    )
def f_X7_printTo_70 (σ : St) (v0 : Nat) (v1 : Nat) : Option (St × Unit) :=
  f_X7_printTo_72 fl σ v0 v1 0
def f_X7_printTo_4 : Nat → St → Nat → Nat → Int32 → Int32 → Option (St × Unit)
  | 0, _, _, _, _, _ => none
  | n + 1, σ, v0, v1, v2, v3 =>
    if (gi σ 603 v0) ≤ v3 then (
      if (gi σ 603 v0) ≤ 0 then (
        f_X7_printTo_70 σ v0 v1
      ) else (
        cl (f_X7_printBetween σ v1 v2 0) fun s1 _u67 =>
        f_X7_printTo_70 s1 v0 v1
      )
    ) else (
      if v3 ≤ 0 then (
        f_X7_printTo_30 (f_X7_printTo_4 n) σ v0 v1 v3
      ) else (
        ck v3 40 fun j2 =>
        cl (f_X7_printBetween σ v1 v2 (gi σ 108 (40 * v0 + j2))) fun s3 _u27 =>
        f_X7_printTo_30 (f_X7_printTo_4 n) s3 v0 v1 v3
      )
    )
def f_X7_printTo (σ : St) (o : Nat) (a1 : Nat) : Option (St × Unit) :=
  f_X7_printTo_4 fl σ o a1 0 0
def rm_X8_feed : Room := { frames := 1, cells := 0, slots := 0, locals := 21 }
theorem q_X8_feed : yX8_feed.cls ≠ "java/lang/invoke/MethodHandle" ∧ yX8_feed.cls ≠ "java/lang/invoke/VarHandle" ∧ (parseMethodDescriptor yX8_feed.desc).map (fun d => d.parameters.length) = some 2 := ⟨by decide +kernel, by decide +kernel, by decide +kernel⟩
def f_X8_feed_30 : Nat → St → Int32 → Int64 → Int32 → Option (St × Int32)
  | 0, _, _, _, _ => none
  | n + 1, σ, v1, v2, v4 =>
    if v1 ≤ v4 then (
      cl (f_X3_length σ 0) fun s3 x4 =>
      some (s3, x4)
    ) else (
      cl (f_X3_add σ 0 ((Int64.toInt32 (UInt64.toInt64 (Int64.toUInt64 v2 >>> (Int64.toUInt64 (Int32.toInt64 (8 * v4)) &&& Int64.toUInt64 63)))) &&& 255)) fun s5 _u52 =>
      f_X8_feed_30 n s5 v1 v2 (v4 + 1)
    )
def f_X8_feed (σ : St) (a1 : Int32) (a2 : Int64) : Option (St × Int32) :=
  if a1 < 1 then (
    some (σ, (-1))
  ) else (
    if a1 ≤ 8 then (
      cl (f_X3_hasRoomFor σ 0 a1) fun s1 x2 =>
      if x2 = 0 then (
        some (s1, (-3))
      ) else (
        f_X8_feed_30 fl s1 a1 a2 0
      )
    ) else (
      some (σ, (-1))
    )
  )
def rm_X8_keep : Room := { frames := 4, cells := 0, slots := 0, locals := 128 }
theorem q_X8_keep : yX8_keep.cls ≠ "java/lang/invoke/MethodHandle" ∧ yX8_keep.cls ≠ "java/lang/invoke/VarHandle" ∧ (parseMethodDescriptor yX8_keep.desc).map (fun d => d.parameters.length) = some 1 := ⟨by decide +kernel, by decide +kernel, by decide +kernel⟩
def f_X8_keep (σ : St) (a1 : Nat) : Option (St × Int32) :=
  cl (f_X7_sortByPath σ a1) fun s1 _u1 =>
  bnd (si s1 708 0 ((gi s1 708 0) + 1)) fun s2 =>
  some (s2, (gi s2 708 0) - 1)
def rm_X8_read : Room := { frames := 10, cells := 0, slots := 0, locals := 220 }
theorem q_X8_read : yX8_read.cls ≠ "java/lang/invoke/MethodHandle" ∧ yX8_read.cls ≠ "java/lang/invoke/VarHandle" ∧ (parseMethodDescriptor yX8_read.desc).map (fun d => d.parameters.length) = some 0 := ⟨by decide +kernel, by decide +kernel, by decide +kernel⟩
def f_X8_read (σ : St) : Option (St × Int32) :=
  if (gi σ 708 0) < 8 then (
    ck (gi σ 708 0) 8 fun j1 =>
    cl (f_X5_readInto σ j1) fun s2 x3 =>
    cl (f_X5_placeOfFault s2) fun s4 x5 =>
    bnd (si s4 709 0 x5) fun s6 =>
    cl (f_X3_clear s6 0) fun s7 _u59 =>
    if x3 = 0 then (
      cl (f_X8_keep s7 j1) fun s8 x9 =>
      some (s8, x9)
    ) else (
      some (s7, (-10) - x3)
    )
  ) else (
    bnd (si σ 709 0 (-2)) fun s10 =>
    cl (f_X3_clear s10 0) fun s11 _u19 =>
    some (s11, (-3))
  )
def rm_X8_place : Room := { frames := 0, cells := 0, slots := 0, locals := 0 }
theorem q_X8_place : yX8_place.cls ≠ "java/lang/invoke/MethodHandle" ∧ yX8_place.cls ≠ "java/lang/invoke/VarHandle" ∧ (parseMethodDescriptor yX8_place.desc).map (fun d => d.parameters.length) = some 0 := ⟨by decide +kernel, by decide +kernel, by decide +kernel⟩
def f_X8_place (σ : St) : Option (St × Int32) :=
  some (σ, gi σ 709 0)
def rm_X8_growByPath : Room := { frames := 6, cells := 0, slots := 0, locals := 152 }
theorem q_X8_growByPath : yX8_growByPath.cls ≠ "java/lang/invoke/MethodHandle" ∧ yX8_growByPath.cls ≠ "java/lang/invoke/VarHandle" ∧ (parseMethodDescriptor yX8_growByPath.desc).map (fun d => d.parameters.length) = some 2 := ⟨by decide +kernel, by decide +kernel, by decide +kernel⟩
def f_X8_growByPath (σ : St) (a1 : Int32) (a2 : Int32) : Option (St × Int32) :=
  ck a1 8 fun j1 =>
  cl (f_X3_length σ 1) fun s2 x3 =>
  cl (f_X7_fieldOf s2 j1 1 x3) fun s4 x5 =>
  if x5 < 0 then (
    cl (f_X7_kindToCome s4 j1 1 a2) fun s6 x7 =>
    if 0 ≤ x7 then (
      if (gi s6 708 0) < 8 then (
        ck (gi s6 708 0) 8 fun j8 =>
        cl (f_X7_growFrom s6 j8 j1 1 x7) fun s9 _u78 =>
        cl (f_X8_keep s9 j8) fun s10 x11 =>
        some (s10, x11)
      ) else (
        some (s6, (-3))
      )
    ) else (
      some (s6, (-2))
    )
  ) else (
    some (s4, a1)
  )
def rm_X8_isMet : Room := { frames := 0, cells := 0, slots := 0, locals := 0 }
theorem q_X8_isMet : yX8_isMet.cls ≠ "java/lang/invoke/MethodHandle" ∧ yX8_isMet.cls ≠ "java/lang/invoke/VarHandle" ∧ (parseMethodDescriptor yX8_isMet.desc).map (fun d => d.parameters.length) = some 1 := ⟨by decide +kernel, by decide +kernel, by decide +kernel⟩
def f_X8_isMet (σ : St) (a1 : Int32) : Option (St × Int32) :=
  if a1 < 0 then (
    some (σ, 0)
  ) else (
    if 3 < a1 then (
      some (σ, 0)
    ) else (
      some (σ, 1)
    )
  )
def rm_X8_isVersion : Room := { frames := 0, cells := 0, slots := 0, locals := 0 }
theorem q_X8_isVersion : yX8_isVersion.cls ≠ "java/lang/invoke/MethodHandle" ∧ yX8_isVersion.cls ≠ "java/lang/invoke/VarHandle" ∧ (parseMethodDescriptor yX8_isVersion.desc).map (fun d => d.parameters.length) = some 1 := ⟨by decide +kernel, by decide +kernel, by decide +kernel⟩
def f_X8_isVersion (σ : St) (a1 : Int32) : Option (St × Int32) :=
  if a1 < 0 then (
    some (σ, 0)
  ) else (
    if (gi σ 708 0) ≤ a1 then (
      some (σ, 0)
    ) else (
      some (σ, 1)
    )
  )
def rm_X8_takePath : Room := { frames := 4, cells := 0, slots := 0, locals := 128 }
theorem q_X8_takePath : yX8_takePath.cls ≠ "java/lang/invoke/MethodHandle" ∧ yX8_takePath.cls ≠ "java/lang/invoke/VarHandle" ∧ (parseMethodDescriptor yX8_takePath.desc).map (fun d => d.parameters.length) = some 0 := ⟨by decide +kernel, by decide +kernel, by decide +kernel⟩
def f_X8_takePath_25 (k26 : St → Int32 → Option (St × Int32)) (σ : St) : Option (St × Int32) :=
  k26 σ 0
def f_X8_takePath_50 (σ : St) (v1 : Int32) : Option (St × Int32) :=
  cl (f_X3_clear σ 0) fun s7 _u54 =>
  if v1 = 0 then (
    some (s7, 0)
  ) else (
    cl (f_X3_isOver s7 1) fun s8 x9 =>
    if x9 = 0 then (
      some (s8, 1)
    ) else (
      some (s8, 0)
    )
  )
def f_X8_takePath_26 (σ : St) (t0 : Int32) : Option (St × Int32) :=
  cl (f_X3_clear σ 1) fun s5 _u31 =>
  if t0 = 0 then (
    f_X8_takePath_50 s5 t0
  ) else (
    cl (f_X6_joinPath s5 0 1) fun s6 _u47 =>
    f_X8_takePath_50 s6 t0
  )
def f_X8_takePath (σ : St) : Option (St × Int32) :=
  cl (f_X6_readAll σ) fun s1 x2 =>
  if x2 = (-1) then (
    cl (f_X6_arePath s1) fun s3 x4 =>
    if x4 = 0 then (
      f_X8_takePath_25 (f_X8_takePath_26) s3
    ) else (
      f_X8_takePath_26 s3 1
    )
  ) else (
    f_X8_takePath_25 (f_X8_takePath_26) s1
  )
def rm_X8_grow : Room := { frames := 7, cells := 0, slots := 0, locals := 177 }
theorem q_X8_grow : yX8_grow.cls ≠ "java/lang/invoke/MethodHandle" ∧ yX8_grow.cls ≠ "java/lang/invoke/VarHandle" ∧ (parseMethodDescriptor yX8_grow.desc).map (fun d => d.parameters.length) = some 2 := ⟨by decide +kernel, by decide +kernel, by decide +kernel⟩
def f_X8_grow (σ : St) (a1 : Int32) (a2 : Int32) : Option (St × Int32) :=
  cl (f_X8_takePath σ) fun s1 x2 =>
  cl (f_X8_isVersion s1 a1) fun s3 x4 =>
  if x4 = 0 then (
    some (s3, (-1))
  ) else (
    cl (f_X8_isMet s3 a2) fun s5 x6 =>
    if x6 = 0 then (
      some (s5, (-1))
    ) else (
      if x2 = 0 then (
        some (s5, (-2))
      ) else (
        cl (f_X8_growByPath s5 a1 a2) fun s7 x8 =>
        some (s7, x8)
      )
    )
  )
def rm_X8_drop : Room := { frames := 0, cells := 0, slots := 0, locals := 0 }
theorem q_X8_drop : yX8_drop.cls ≠ "java/lang/invoke/MethodHandle" ∧ yX8_drop.cls ≠ "java/lang/invoke/VarHandle" ∧ (parseMethodDescriptor yX8_drop.desc).map (fun d => d.parameters.length) = some 0 := ⟨by decide +kernel, by decide +kernel, by decide +kernel⟩
def f_X8_drop (σ : St) : Option (St × Int32) :=
  if (gi σ 708 0) = 0 then (
    some (σ, (-2))
  ) else (
    bnd (si σ 708 0 ((gi σ 708 0) - 1)) fun s1 =>
    some (s1, gi s1 708 0)
  )
def rm_X8_find : Room := { frames := 5, cells := 0, slots := 0, locals := 149 }
theorem q_X8_find : yX8_find.cls ≠ "java/lang/invoke/MethodHandle" ∧ yX8_find.cls ≠ "java/lang/invoke/VarHandle" ∧ (parseMethodDescriptor yX8_find.desc).map (fun d => d.parameters.length) = some 1 := ⟨by decide +kernel, by decide +kernel, by decide +kernel⟩
def f_X8_find (σ : St) (a1 : Int32) : Option (St × Int32) :=
  cl (f_X8_takePath σ) fun s1 x2 =>
  cl (f_X8_isVersion s1 a1) fun s3 x4 =>
  if x4 = 0 then (
    some (s3, (-1))
  ) else (
    if x2 = 0 then (
      some (s3, (-2))
    ) else (
      ck a1 8 fun j5 =>
      cl (f_X3_length s3 1) fun s6 x7 =>
      cl (f_X7_fieldOf s6 j5 1 x7) fun s8 x9 =>
      some (s8, x9)
    )
  )
def rm_X8_isField : Room := { frames := 1, cells := 0, slots := 0, locals := 21 }
theorem q_X8_isField : yX8_isField.cls ≠ "java/lang/invoke/MethodHandle" ∧ yX8_isField.cls ≠ "java/lang/invoke/VarHandle" ∧ (parseMethodDescriptor yX8_isField.desc).map (fun d => d.parameters.length) = some 2 := ⟨by decide +kernel, by decide +kernel, by decide +kernel⟩
def f_X8_isField (σ : St) (a1 : Int32) (a2 : Int32) : Option (St × Int32) :=
  cl (f_X8_isVersion σ a1) fun s1 x2 =>
  if x2 = 0 then (
    some (s1, 0)
  ) else (
    if a2 < 0 then (
      some (s1, 0)
    ) else (
      ck a1 8 fun j3 =>
      if (gi s1 603 j3) ≤ a2 then (
        some (s1, 0)
      ) else (
        some (s1, 1)
      )
    )
  )
def rm_X8_field : Room := { frames := 2, cells := 0, slots := 0, locals := 43 }
theorem q_X8_field : yX8_field.cls ≠ "java/lang/invoke/MethodHandle" ∧ yX8_field.cls ≠ "java/lang/invoke/VarHandle" ∧ (parseMethodDescriptor yX8_field.desc).map (fun d => d.parameters.length) = some 3 := ⟨by decide +kernel, by decide +kernel, by decide +kernel⟩
def f_X8_field (σ : St) (a1 : Int32) (a2 : Int32) (a3 : Int32) : Option (St × Int32) :=
  cl (f_X8_isField σ a1 a2) fun s1 x2 =>
  if x2 = 0 then (
    some (s1, (-1))
  ) else (
    ck a1 8 fun j3 =>
    ck a2 40 fun j4 =>
    bnd (a3) fun x5 =>
    if x5 = 0 then (
      some (s1, gi s1 102 (40 * j3 + j4))
    ) else (
    if x5 = 1 then (
      some (s1, gi s1 103 (40 * j3 + j4))
    ) else (
    if x5 = 2 then (
      some (s1, gi s1 104 (40 * j3 + j4))
    ) else (
    if x5 = 3 then (
      some (s1, gi s1 105 (40 * j3 + j4))
    ) else (
    if x5 = 4 then (
      some (s1, gi s1 106 (40 * j3 + j4))
    ) else (
    if x5 = 5 then (
      some (s1, gi s1 107 (40 * j3 + j4))
    ) else (
    if x5 = 6 then (
      cl (f_X7_countWithin s1 j3 a2) fun s6 x7 =>
      some (s6, x7)
    ) else (
    if x5 = 7 then (
      cl (f_X3_length s1 (5 + 2 * (40 * j3 + j4))) fun s8 x9 =>
      some (s8, x9)
    ) else (
    if x5 = 8 then (
      cl (f_X3_length s1 (6 + 2 * (40 * j3 + j4))) fun s10 x11 =>
      some (s10, x11)
    ) else (
    if x5 = 9 then (
      cl (f_X7_countReached s1 j3 a2) fun s12 x13 =>
      some (s12, x13)
    ) else (
      some (s1, (-1))
    ))))))))))
  )
def rm_X8_letter : Room := { frames := 2, cells := 0, slots := 0, locals := 43 }
theorem q_X8_letter : yX8_letter.cls ≠ "java/lang/invoke/MethodHandle" ∧ yX8_letter.cls ≠ "java/lang/invoke/VarHandle" ∧ (parseMethodDescriptor yX8_letter.desc).map (fun d => d.parameters.length) = some 3 := ⟨by decide +kernel, by decide +kernel, by decide +kernel⟩
def f_X8_letter (σ : St) (a1 : Int32) (a2 : Int32) (a3 : Int32) : Option (St × Int32) :=
  cl (f_X8_isField σ a1 a2) fun s1 x2 =>
  if x2 = 0 then (
    some (s1, (-1))
  ) else (
    ck a1 8 fun j3 =>
    ck a2 40 fun j4 =>
    cl (f_X3_at s1 (5 + 2 * (40 * j3 + j4)) a3) fun s5 x6 =>
    some (s5, x6)
  )
def rm_X8_leaf : Room := { frames := 2, cells := 0, slots := 0, locals := 43 }
theorem q_X8_leaf : yX8_leaf.cls ≠ "java/lang/invoke/MethodHandle" ∧ yX8_leaf.cls ≠ "java/lang/invoke/VarHandle" ∧ (parseMethodDescriptor yX8_leaf.desc).map (fun d => d.parameters.length) = some 2 := ⟨by decide +kernel, by decide +kernel, by decide +kernel⟩
def f_X8_leaf (σ : St) (a1 : Int32) (a2 : Int32) : Option (St × Int32) :=
  cl (f_X8_isField σ a1 a2) fun s1 x2 =>
  if x2 = 0 then (
    some (s1, (-1))
  ) else (
    ck a1 8 fun j3 =>
    ck a2 40 fun j4 =>
    cl (f_X2_isLeaf s1 (gi s1 102 (40 * j3 + j4))) fun s5 x6 =>
    if x6 = 0 then (
      some (s5, gi s5 106 (40 * j3 + j4))
    ) else (
      some (s5, a2)
    )
  )
def rm_X8_rule : Room := { frames := 5, cells := 0, slots := 0, locals := 149 }
theorem q_X8_rule : yX8_rule.cls ≠ "java/lang/invoke/MethodHandle" ∧ yX8_rule.cls ≠ "java/lang/invoke/VarHandle" ∧ (parseMethodDescriptor yX8_rule.desc).map (fun d => d.parameters.length) = some 2 := ⟨by decide +kernel, by decide +kernel, by decide +kernel⟩
def f_X8_rule_22 (k23 : St → Int32 → Int32 → Int32 → Option (St × Int32)) (σ : St) (v1 : Int32) (v2 : Int32) : Option (St × Int32) :=
  k23 σ 0 v1 v2
def f_X8_rule_23 (σ : St) (t0 : Int32) (v1 : Int32) (v2 : Int32) : Option (St × Int32) :=
  cl (f_X8_isVersion σ v1) fun s5 x6 =>
  if x6 = 0 then (
    some (s5, (-1))
  ) else (
    cl (f_X8_isMet s5 v2) fun s7 x8 =>
    if x8 = 0 then (
      some (s7, (-1))
    ) else (
      if t0 = 0 then (
        some (s7, (-2))
      ) else (
        ck v1 8 fun j9 =>
        cl (f_X7_ruleFor s7 j9 1 0 v2) fun s10 x11 =>
        some (s10, x11)
      )
    )
  )
def f_X8_rule (σ : St) (a1 : Int32) (a2 : Int32) : Option (St × Int32) :=
  cl (f_X8_takePath σ) fun s1 x2 =>
  if x2 = 0 then (
    f_X8_rule_22 (f_X8_rule_23) s1 a1 a2
  ) else (
    cl (f_X6_count s1) fun s3 x4 =>
    if x4 = 1 then (
      f_X8_rule_23 s3 1 a1 a2
    ) else (
      f_X8_rule_22 (f_X8_rule_23) s3 a1 a2
    )
  )
def rm_X8_print : Room := { frames := 8, cells := 0, slots := 0, locals := 178 }
theorem q_X8_print : yX8_print.cls ≠ "java/lang/invoke/MethodHandle" ∧ yX8_print.cls ≠ "java/lang/invoke/VarHandle" ∧ (parseMethodDescriptor yX8_print.desc).map (fun d => d.parameters.length) = some 1 := ⟨by decide +kernel, by decide +kernel, by decide +kernel⟩
def f_X8_print (σ : St) (a1 : Int32) : Option (St × Int32) :=
  cl (f_X8_isVersion σ a1) fun s1 x2 =>
  if x2 = 0 then (
    some (s1, (-1))
  ) else (
    cl (f_X3_clear s1 (gr s1 1 0)) fun s3 _u14 =>
    ck a1 8 fun j4 =>
    cl (f_X7_printTo s3 j4 (gr s3 1 0)) fun s5 _u27 =>
    cl (f_X3_isOver s5 (gr s5 1 0)) fun s6 x7 =>
    if x7 = 0 then (
      bnd (sr s6 0 0 (gr s6 1 0)) fun s8 =>
      bnd (sr s8 1 0 (gr s6 0 0)) fun s9 =>
      cl (f_X3_length s9 (gr s9 0 0)) fun s10 x11 =>
      some (s10, x11)
    ) else (
      some (s6, (-3))
    )
  )
def rm_X8_out : Room := { frames := 1, cells := 0, slots := 0, locals := 21 }
theorem q_X8_out : yX8_out.cls ≠ "java/lang/invoke/MethodHandle" ∧ yX8_out.cls ≠ "java/lang/invoke/VarHandle" ∧ (parseMethodDescriptor yX8_out.desc).map (fun d => d.parameters.length) = some 1 := ⟨by decide +kernel, by decide +kernel, by decide +kernel⟩
def f_X8_out (σ : St) (a1 : Int32) : Option (St × Int32) :=
  cl (f_X3_at σ (gr σ 0 0) a1) fun s1 x2 =>
  some (s1, x2)
def rm_X8_take : Room := { frames := 3, cells := 0, slots := 0, locals := 104 }
theorem q_X8_take : yX8_take.cls ≠ "java/lang/invoke/MethodHandle" ∧ yX8_take.cls ≠ "java/lang/invoke/VarHandle" ∧ (parseMethodDescriptor yX8_take.desc).map (fun d => d.parameters.length) = some 0 := ⟨by decide +kernel, by decide +kernel, by decide +kernel⟩
def f_X8_take (σ : St) : Option (St × Int32) :=
  cl (f_X3_length σ (gr σ 0 0)) fun s1 x2 =>
  if x2 ≤ 2000 then (
    cl (f_X3_copyFrom s1 0 (gr s1 0 0)) fun s3 _u24 =>
    cl (f_X3_length s3 0) fun s4 x5 =>
    some (s4, x5)
  ) else (
    some (s1, (-3))
  )
def rm_X8_differences : Room := { frames := 5, cells := 0, slots := 0, locals := 136 }
theorem q_X8_differences : yX8_differences.cls ≠ "java/lang/invoke/MethodHandle" ∧ yX8_differences.cls ≠ "java/lang/invoke/VarHandle" ∧ (parseMethodDescriptor yX8_differences.desc).map (fun d => d.parameters.length) = some 2 := ⟨by decide +kernel, by decide +kernel, by decide +kernel⟩
def f_X8_differences (σ : St) (a1 : Int32) (a2 : Int32) : Option (St × Int32) :=
  cl (f_X8_isVersion σ a1) fun s1 x2 =>
  if x2 = 0 then (
    some (s1, (-1))
  ) else (
    cl (f_X8_isVersion s1 a2) fun s3 x4 =>
    if x4 = 0 then (
      some (s3, (-1))
    ) else (
      ck a1 8 fun j5 =>
      ck a2 8 fun j6 =>
      cl (f_X0_compare s3 j5 j6) fun s7 _u34 =>
      some (s7, gi s7 3 0)
    )
  )
def rm_X8_difference : Room := { frames := 6, cells := 0, slots := 0, locals := 158 }
theorem q_X8_difference : yX8_difference.cls ≠ "java/lang/invoke/MethodHandle" ∧ yX8_difference.cls ≠ "java/lang/invoke/VarHandle" ∧ (parseMethodDescriptor yX8_difference.desc).map (fun d => d.parameters.length) = some 4 := ⟨by decide +kernel, by decide +kernel, by decide +kernel⟩
def f_X8_difference (σ : St) (a1 : Int32) (a2 : Int32) (a3 : Int32) (a4 : Int32) : Option (St × Int32) :=
  cl (f_X8_differences σ a1 a2) fun s1 x2 =>
  if x2 < 0 then (
    some (s1, (-1))
  ) else (
    if a3 < 0 then (
      some (s1, (-1))
    ) else (
      if a3 < x2 then (
        bnd (a4) fun x3 =>
        if x3 = 0 then (
          ck a3 (lenX 15) fun j4 =>
          some (s1, ga s1 8 15 j4)
        ) else (
        if x3 = 1 then (
          ck a3 (lenX 16) fun j5 =>
          some (s1, ga s1 8 16 j5)
        ) else (
        if x3 = 2 then (
          ck a3 (lenX 17) fun j6 =>
          some (s1, ga s1 8 17 j6)
        ) else (
          some (s1, (-1))
        )))
      ) else (
        some (s1, (-1))
      )
    )
  )
def rm_X8_toldOf : Room := { frames := 2, cells := 0, slots := 0, locals := 42 }
theorem q_X8_toldOf : yX8_toldOf.cls ≠ "java/lang/invoke/MethodHandle" ∧ yX8_toldOf.cls ≠ "java/lang/invoke/VarHandle" ∧ (parseMethodDescriptor yX8_toldOf.desc).map (fun d => d.parameters.length) = some 2 := ⟨by decide +kernel, by decide +kernel, by decide +kernel⟩
def f_X8_toldOf (σ : St) (a1 : Nat) (a2 : Int32) : Option (St × Int32) :=
  bnd (a2) fun x1 =>
  if x1 = 3 then (
    some (σ, gi σ 603 a1)
  ) else (
  if x1 = 4 then (
    some (σ, gi σ 604 a1)
  ) else (
  if x1 = 5 then (
    some (σ, gi σ 605 a1)
  ) else (
  if x1 = 6 then (
    cl (f_X7_countLeaves σ a1) fun s2 x3 =>
    some (s2, x3)
  ) else (
    some (σ, (-1))
  ))))
def rm_X8_told : Room := { frames := 3, cells := 0, slots := 0, locals := 63 }
theorem q_X8_told : yX8_told.cls ≠ "java/lang/invoke/MethodHandle" ∧ yX8_told.cls ≠ "java/lang/invoke/VarHandle" ∧ (parseMethodDescriptor yX8_told.desc).map (fun d => d.parameters.length) = some 2 := ⟨by decide +kernel, by decide +kernel, by decide +kernel⟩
def f_X8_told (σ : St) (a1 : Int32) (a2 : Int32) : Option (St × Int32) :=
  bnd (a2) fun x1 =>
  if x1 = 0 then (
    some (σ, gi σ 708 0)
  ) else (
  if x1 = 1 then (
    cl (f_X3_length σ 0) fun s2 x3 =>
    some (s2, x3)
  ) else (
  if x1 = 2 then (
    cl (f_X3_length σ (gr σ 0 0)) fun s4 x5 =>
    some (s4, x5)
  ) else (
    cl (f_X8_isVersion σ a1) fun s6 x7 =>
    if x7 = 0 then (
      some (s6, (-1))
    ) else (
      ck a1 8 fun j8 =>
      cl (f_X8_toldOf s6 j8 a2) fun s9 x10 =>
      some (s9, x10)
    )
  )))
