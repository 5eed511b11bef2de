def rm_X9_in : Room := { frames := 0, cells := 0, slots := 0, locals := 0 }
theorem q_X9_in : yX9_in.cls ≠ "java/lang/invoke/MethodHandle" ∧ yX9_in.cls ≠ "java/lang/invoke/VarHandle" ∧ (parseMethodDescriptor yX9_in.desc).map (fun d => d.parameters.length) = some 3 := ⟨by decide +kernel, by decide +kernel, by decide +kernel⟩
def f_X9_in (σ : St) (a1 : Int32) (a2 : Int32) (a3 : Int32) : Option (St × Int32) :=
  if a1 < a2 then (
    some (σ, 0)
  ) else (
    if a3 < a1 then (
      some (σ, 0)
    ) else (
      some (σ, 1)
    )
  )
def rm_X9_isVersion : Room := { frames := 1, cells := 0, slots := 0, locals := 22 }
theorem q_X9_isVersion : yX9_isVersion.cls ≠ "java/lang/invoke/MethodHandle" ∧ yX9_isVersion.cls ≠ "java/lang/invoke/VarHandle" ∧ (parseMethodDescriptor yX9_isVersion.desc).map (fun d => d.parameters.length) = some 1 := ⟨by decide +kernel, by decide +kernel, by decide +kernel⟩
def f_X9_isVersion (σ : St) (a1 : Int32) : Option (St × Int32) :=
  cl (f_X9_in σ a1 0 ((gi σ 810 0) - 1)) fun s1 x2 =>
  cq (decide (x2 = 0 ∨ x2 = 1)) <| some (s1, x2)
def rm_X9_feed : Room := { frames := 1, cells := 0, slots := 0, locals := 22 }
theorem q_X9_feed : yX9_feed.cls ≠ "java/lang/invoke/MethodHandle" ∧ yX9_feed.cls ≠ "java/lang/invoke/VarHandle" ∧ (parseMethodDescriptor yX9_feed.desc).map (fun d => d.parameters.length) = some 2 := ⟨by decide +kernel, by decide +kernel, by decide +kernel⟩
def f_X9_feed_30 : Nat → St → Int32 → Int64 → Int32 → Option (St × Int32)
  | 0, _, _, _, _ => none
  | n + 1, σ, v1, v2, v4 =>
    if v1 ≤ v4 then (
      some (σ, gi σ 803 0)
    ) else (
      ck (gi σ 803 0) 2000 fun j3 =>
      bnd (sa σ 2 0 j3 (vp_nar .byte (Int8.toInt32 (Int32.toInt8 (Int64.toInt32 (v2 >>> (Int32.toInt64 (8 * v4) &&& 63))))))) fun s4 =>
      bnd (si s4 803 0 ((gi s4 803 0) + 1)) fun s5 =>
      f_X9_feed_30 n s5 v1 v2 (v4 + 1)
    )
def f_X9_feed (σ : St) (a1 : Int32) (a2 : Int64) : Option (St × Int32) :=
  cl (f_X9_in σ a1 1 8) fun s1 x2 =>
  if x2 = 0 then (
    some (s1, (-1))
  ) else (
    if ((gi s1 803 0) + a1) ≤ 2000 then (
      f_X9_feed_30 fl s1 a1 a2 0
    ) else (
      some (s1, (-3))
    )
  )
def rm_X9_isLetter : Room := { frames := 1, cells := 0, slots := 0, locals := 22 }
theorem q_X9_isLetter : yX9_isLetter.cls ≠ "java/lang/invoke/MethodHandle" ∧ yX9_isLetter.cls ≠ "java/lang/invoke/VarHandle" ∧ (parseMethodDescriptor yX9_isLetter.desc).map (fun d => d.parameters.length) = some 1 := ⟨by decide +kernel, by decide +kernel, by decide +kernel⟩
def f_X9_isLetter (σ : St) (a1 : Int32) : Option (St × Int32) :=
  cl (f_X9_in σ a1 97 122) fun s1 x2 =>
  cq (decide (x2 = 0 ∨ x2 = 1)) <| some (s1, x2)
def rm_X9_isDigit : Room := { frames := 1, cells := 0, slots := 0, locals := 22 }
theorem q_X9_isDigit : yX9_isDigit.cls ≠ "java/lang/invoke/MethodHandle" ∧ yX9_isDigit.cls ≠ "java/lang/invoke/VarHandle" ∧ (parseMethodDescriptor yX9_isDigit.desc).map (fun d => d.parameters.length) = some 1 := ⟨by decide +kernel, by decide +kernel, by decide +kernel⟩
def f_X9_isDigit (σ : St) (a1 : Int32) : Option (St × Int32) :=
  cl (f_X9_in σ a1 48 57) fun s1 x2 =>
  cq (decide (x2 = 0 ∨ x2 = 1)) <| some (s1, x2)
def rm_X9_isMark : Room := { frames := 0, cells := 0, slots := 0, locals := 0 }
theorem q_X9_isMark : yX9_isMark.cls ≠ "java/lang/invoke/MethodHandle" ∧ yX9_isMark.cls ≠ "java/lang/invoke/VarHandle" ∧ (parseMethodDescriptor yX9_isMark.desc).map (fun d => d.parameters.length) = some 1 := ⟨by decide +kernel, by decide +kernel, by decide +kernel⟩
def f_X9_isMark_60 (σ : St) : Option (St × Int32) :=
  some (σ, 1)
def f_X9_isMark (σ : St) (a1 : Int32) : Option (St × Int32) :=
  if a1 = 123 then (
    f_X9_isMark_60 σ
  ) else (
    if a1 = 125 then (
      f_X9_isMark_60 σ
    ) else (
      if a1 = 40 then (
        f_X9_isMark_60 σ
      ) else (
        if a1 = 41 then (
          f_X9_isMark_60 σ
        ) else (
          if a1 = 58 then (
            f_X9_isMark_60 σ
          ) else (
            if a1 = 59 then (
              f_X9_isMark_60 σ
            ) else (
              if a1 = 44 then (
                f_X9_isMark_60 σ
              ) else (
                if a1 = 61 then (
                  f_X9_isMark_60 σ
                ) else (
                  if a1 = 42 then (
                    f_X9_isMark_60 σ
                  ) else (
                    if a1 = 46 then (
                      f_X9_isMark_60 σ
                    ) else (
                      some (σ, 0)
                    )
                  )
                )
              )
            )
          )
        )
      )
    )
  )
def rm_X9_cut : Room := { frames := 2, cells := 0, slots := 0, locals := 42 }
theorem q_X9_cut : yX9_cut.cls ≠ "java/lang/invoke/MethodHandle" ∧ yX9_cut.cls ≠ "java/lang/invoke/VarHandle" ∧ (parseMethodDescriptor yX9_cut.desc).map (fun d => d.parameters.length) = some 0 := ⟨by decide +kernel, by decide +kernel, by decide +kernel⟩
def f_X9_cut_107 (k64 : St → Int32 → Int32 → Int32 → Option (St × Int32)) (σ : St) (v1 : Int32) (v2 : Int32) (v3 : Int32) : Option (St × Int32) :=
  k64 σ v1 v2 (v3 + 1)
def f_X9_cut_64 (k146 : St → Int32 → Int32 → Int32 → Option (St × Int32)) : Nat → St → Int32 → Int32 → Int32 → Option (St × Int32)
  | 0, _, _, _, _ => none
  | n + 1, σ, v1, v2, v3 =>
    if (gi σ 804 0) ≤ v3 then (
      k146 σ v1 v2 v3
    ) else (
      ck v3 2000 fun j15 =>
      cl (f_X9_isLetter σ (ga σ 2 0 j15)) fun s16 x17 =>
      if x17 = 0 then (
        ck v3 2000 fun j18 =>
        cl (f_X9_isDigit s16 (ga s16 2 0 j18)) fun s19 x20 =>
        if x20 = 0 then (
          ck v3 2000 fun j21 =>
          if (ga s19 2 0 j21) = 95 then (
            f_X9_cut_107 (f_X9_cut_64 k146 n) s19 v1 v2 v3
          ) else (
            k146 s19 v1 v2 v3
          )
        ) else (
          f_X9_cut_107 (f_X9_cut_64 k146 n) s19 v1 v2 v3
        )
      ) else (
        f_X9_cut_107 (f_X9_cut_64 k146 n) s16 v1 v2 v3
      )
    )
def f_X9_cut_120 (k146 : St → Int32 → Int32 → Int32 → Option (St × Int32)) : Nat → St → Int32 → Int32 → Int32 → Option (St × Int32)
  | 0, _, _, _, _ => none
  | n + 1, σ, v1, v2, v3 =>
    if (gi σ 804 0) ≤ v3 then (
      k146 σ v1 v2 v3
    ) else (
      ck v3 2000 fun j22 =>
      cl (f_X9_isDigit σ (ga σ 2 0 j22)) fun s23 x24 =>
      if x24 = 0 then (
        k146 s23 v1 v2 v3
      ) else (
        f_X9_cut_120 k146 n s23 v1 v2 (v3 + 1)
      )
    )
def f_X9_cut_176 (k183 : St → Int32 → Int32 → Int32 → Option (St × Int32)) (k188 : St → Int32 → Int32 → Int32 → Int32 → Option (St × Int32)) (σ : St) (v1 : Int32) (v2 : Int32) (v3 : Int32) : Option (St × Int32) :=
  cl (f_X9_isMark σ v2) fun s29 x30 =>
  if x30 = 0 then (
    k188 s29 0 v1 v2 v3
  ) else (
    k183 s29 v1 v2 v3
  )
def f_X9_cut_161 (k183 : St → Int32 → Int32 → Int32 → Option (St × Int32)) (k188 : St → Int32 → Int32 → Int32 → Int32 → Option (St × Int32)) (σ : St) (v1 : Int32) (v2 : Int32) (v3 : Int32) : Option (St × Int32) :=
  cl (f_X9_isDigit σ v2) fun s27 x28 =>
  if x28 = 0 then (
    f_X9_cut_176 k183 k188 s27 v1 v2 v3
  ) else (
    if (v3 - v1) ≤ 6 then (
      k183 s27 v1 v2 v3
    ) else (
      f_X9_cut_176 k183 k188 s27 v1 v2 v3
    )
  )
def f_X9_cut_183 (k188 : St → Int32 → Int32 → Int32 → Int32 → Option (St × Int32)) (σ : St) (v1 : Int32) (v2 : Int32) (v3 : Int32) : Option (St × Int32) :=
  k188 σ 1 v1 v2 v3
def f_X9_cut_228 (k263 : St → Int32 → Option (St × Int32)) (σ : St) (t0 : Nat) (t1 : Int32) (t2 : Int32) (v1 : Int32) (v3 : Int32) : Option (St × Int32) :=
  ck t1 (lenMi.getD t0 0) fun j35 =>
  bnd (sa σ 1 t0 j35 t2) fun s36 =>
  ck (gi s36 830 0) 2001 fun j37 =>
  bnd (sa s36 1 15 j37 v1) fun s38 =>
  ck (gi s38 830 0) 2001 fun j39 =>
  bnd (sa s38 1 16 j39 (v3 - v1)) fun s40 =>
  bnd (si s40 830 0 ((gi s40 830 0) + 1)) fun s41 =>
  k263 s41 v3
def f_X9_cut_188 (k263 : St → Int32 → Option (St × Int32)) (σ : St) (t0 : Int32) (v1 : Int32) (v2 : Int32) (v3 : Int32) : Option (St × Int32) :=
  if t0 = 0 then (
    some (σ, v1)
  ) else (
    cl (f_X9_isLetter σ v2) fun s31 x32 =>
    if x32 = 0 then (
      cl (f_X9_isDigit s31 v2) fun s33 x34 =>
      if x34 = 0 then (
        f_X9_cut_228 k263 s33 14 (gi σ 830 0) v2 v1 v3
      ) else (
        f_X9_cut_228 k263 s33 14 (gi σ 830 0) 2 v1 v3
      )
    ) else (
      f_X9_cut_228 k263 s31 14 (gi σ 830 0) 1 v1 v3
    )
  )
def f_X9_cut_146 (k263 : St → Int32 → Option (St × Int32)) (σ : St) (v1 : Int32) (v2 : Int32) (v3 : Int32) : Option (St × Int32) :=
  cl (f_X9_isLetter σ v2) fun s25 x26 =>
  if x26 = 0 then (
    f_X9_cut_161 (f_X9_cut_183 (f_X9_cut_188 k263)) (f_X9_cut_188 k263) s25 v1 v2 v3
  ) else (
    if (v3 - v1) ≤ 12 then (
      f_X9_cut_183 (f_X9_cut_188 k263) s25 v1 v2 v3
    ) else (
      f_X9_cut_161 (f_X9_cut_183 (f_X9_cut_188 k263)) (f_X9_cut_188 k263) s25 v1 v2 v3
    )
  )
def f_X9_cut_47 (k263 : St → Int32 → Option (St × Int32)) (σ : St) (v1 : Int32) : Option (St × Int32) :=
  k263 σ (v1 + 1)
def f_X9_cut_263 (k20 : St → Int32 → Option (St × Int32)) (σ : St) (v1 : Int32) : Option (St × Int32) :=
  k20 σ v1
def f_X9_cut_20 : Nat → St → Int32 → Option (St × Int32)
  | 0, _, _ => none
  | n + 1, σ, v1 =>
    if (gi σ 804 0) ≤ v1 then (
      ck (gi σ 830 0) 2001 fun j4 =>
      bnd (sa σ 1 14 j4 0) fun s5 =>
      ck (gi s5 830 0) 2001 fun j6 =>
      bnd (sa s5 1 15 j6 (gi s5 804 0)) fun s7 =>
      ck (gi s7 830 0) 2001 fun j8 =>
      bnd (sa s7 1 16 j8 0) fun s9 =>
      some (s9, (-1))
    ) else (
      ck v1 2000 fun j10 =>
      if (ga σ 2 0 j10) = 10 then (
        f_X9_cut_47 (f_X9_cut_263 (f_X9_cut_20 n)) σ v1
      ) else (
        if (ga σ 2 0 j10) = 32 then (
          f_X9_cut_47 (f_X9_cut_263 (f_X9_cut_20 n)) σ v1
        ) else (
          cl (f_X9_isLetter σ (ga σ 2 0 j10)) fun s11 x12 =>
          if x12 = 0 then (
            cl (f_X9_isDigit s11 (ga σ 2 0 j10)) fun s13 x14 =>
            if x14 = 0 then (
              f_X9_cut_146 (f_X9_cut_263 (f_X9_cut_20 n)) s13 v1 (ga σ 2 0 j10) (v1 + 1)
            ) else (
              f_X9_cut_120 (f_X9_cut_146 (f_X9_cut_263 (f_X9_cut_20 n))) fl s13 v1 (ga σ 2 0 j10) (v1 + 1)
            )
          ) else (
            f_X9_cut_64 (f_X9_cut_146 (f_X9_cut_263 (f_X9_cut_20 n))) fl s11 v1 (ga σ 2 0 j10) (v1 + 1)
          )
        )
      )
    )
def f_X9_cut (σ : St) : Option (St × Int32) :=
  bnd (si σ 804 0 (gi σ 803 0)) fun s1 =>
  bnd (si s1 803 0 0) fun s2 =>
  bnd (si s2 830 0 0) fun s3 =>
  f_X9_cut_20 fl s3 0
def rm_X9_word : Room := { frames := 0, cells := 0, slots := 0, locals := 0 }
theorem q_X9_word : yX9_word.cls ≠ "java/lang/invoke/MethodHandle" ∧ yX9_word.cls ≠ "java/lang/invoke/VarHandle" ∧ (parseMethodDescriptor yX9_word.desc).map (fun d => d.parameters.length) = some 1 := ⟨by decide +kernel, by decide +kernel, by decide +kernel⟩
def f_X9_word_28 : Nat → St → Int32 → Int64 → Int32 → Option (St × Int64)
  | 0, _, _, _, _ => none
  | n + 1, σ, v1, v2, v4 =>
    ck v1 2001 fun j3 =>
    if (ga σ 1 16 j3) ≤ v4 then (
      some (σ, v2)
    ) else (
      ck v1 2001 fun j4 =>
      ck ((ga σ 1 15 j4) + v4) 2000 fun j5 =>
      bnd ((v2 <<< (Int32.toInt64 8 &&& 63)) ||| (Int32.toInt64 (ga σ 2 0 j5))) fun x6 =>
      f_X9_word_28 n σ v1 x6 (v4 + 1)
    )
def f_X9_word (σ : St) (a1 : Int32) : Option (St × Int64) :=
  ck a1 2001 fun j1 =>
  if (ga σ 1 14 j1) = 1 then (
    ck a1 2001 fun j2 =>
    if (ga σ 1 16 j2) ≤ 7 then (
      f_X9_word_28 fl σ a1 (0 : Int64) 0
    ) else (
      some (σ, (0 : Int64))
    )
  ) else (
    some (σ, (0 : Int64))
  )
def rm_X9_number : Room := { frames := 0, cells := 0, slots := 0, locals := 0 }
theorem q_X9_number : yX9_number.cls ≠ "java/lang/invoke/MethodHandle" ∧ yX9_number.cls ≠ "java/lang/invoke/VarHandle" ∧ (parseMethodDescriptor yX9_number.desc).map (fun d => d.parameters.length) = some 1 := ⟨by decide +kernel, by decide +kernel, by decide +kernel⟩
def f_X9_number_4 : Nat → St → Int32 → Int32 → Int32 → Option (St × Int32)
  | 0, _, _, _, _ => none
  | n + 1, σ, v1, v2, v3 =>
    ck v1 2001 fun j1 =>
    if (ga σ 1 16 j1) ≤ v3 then (
      some (σ, v2)
    ) else (
      ck v1 2001 fun j2 =>
      ck ((ga σ 1 15 j2) + v3) 2000 fun j3 =>
      bnd (((10 * v2) + (ga σ 2 0 j3)) - 48) fun x4 =>
      f_X9_number_4 n σ v1 x4 (v3 + 1)
    )
def f_X9_number (σ : St) (a1 : Int32) : Option (St × Int32) :=
  f_X9_number_4 fl σ a1 0 0
def rm_X9_among : Room := { frames := 0, cells := 0, slots := 0, locals := 0 }
theorem q_X9_among : yX9_among.cls ≠ "java/lang/invoke/MethodHandle" ∧ yX9_among.cls ≠ "java/lang/invoke/VarHandle" ∧ (parseMethodDescriptor yX9_among.desc).map (fun d => d.parameters.length) = some 2 := ⟨by decide +kernel, by decide +kernel, by decide +kernel⟩
def f_X9_among_2 : Nat → St → Nat → Int64 → Int32 → Option (St × Int32)
  | 0, _, _, _, _ => none
  | n + 1, σ, v0, v1, v3 =>
    if (nI (lenMl.getD v0 0)) ≤ v3 then (
      some (σ, (-1))
    ) else (
      ck v3 (lenMl.getD v0 0) fun j1 =>
      if (lg_cmp (wdM v0 j1) v1) = 0 then (
        some (σ, v3)
      ) else (
        f_X9_among_2 n σ v0 v1 (v3 + 1)
      )
    )
def f_X9_among (σ : St) (a1 : Nat) (a2 : Int64) : Option (St × Int32) :=
  f_X9_among_2 fl σ a1 a2 0
def rm_X9_fails : Room := { frames := 0, cells := 0, slots := 0, locals := 0 }
theorem q_X9_fails : yX9_fails.cls ≠ "java/lang/invoke/MethodHandle" ∧ yX9_fails.cls ≠ "java/lang/invoke/VarHandle" ∧ (parseMethodDescriptor yX9_fails.desc).map (fun d => d.parameters.length) = some 2 := ⟨by decide +kernel, by decide +kernel, by decide +kernel⟩
def f_X9_fails (σ : St) (a1 : Int32) (a2 : Int32) : Option (St × Unit) :=
  if (gi σ 835 0) = 0 then (
    bnd (si σ 835 0 a1) fun s1 =>
    bnd (si s1 809 0 a2) fun s2 =>
    some (s2, ())
  ) else (
    some (σ, ())
  )
def rm_X9_note : Room := { frames := 0, cells := 0, slots := 0, locals := 0 }
theorem q_X9_note : yX9_note.cls ≠ "java/lang/invoke/MethodHandle" ∧ yX9_note.cls ≠ "java/lang/invoke/VarHandle" ∧ (parseMethodDescriptor yX9_note.desc).map (fun d => d.parameters.length) = some 2 := ⟨by decide +kernel, by decide +kernel, by decide +kernel⟩
def f_X9_note_31 (σ : St) (v1 : Int32) (v2 : Int32) : Option (St × Unit) :=
  bnd (si σ 836 0 v1) fun s1 =>
  bnd (si s1 837 0 v2) fun s2 =>
  some (s2, ())
def f_X9_note (σ : St) (a1 : Int32) (a2 : Int32) : Option (St × Unit) :=
  if (gi σ 836 0) = 0 then (
    f_X9_note_31 σ a1 a2
  ) else (
    if a2 < (gi σ 837 0) then (
      f_X9_note_31 σ a1 a2
    ) else (
      if a2 = (gi σ 837 0) then (
        if (gi σ 836 0) ≤ a1 then (
          some (σ, ())
        ) else (
          f_X9_note_31 σ a1 a2
        )
      ) else (
        some (σ, ())
      )
    )
  )
def rm_X9_want : Room := { frames := 1, cells := 0, slots := 0, locals := 22 }
theorem q_X9_want : yX9_want.cls ≠ "java/lang/invoke/MethodHandle" ∧ yX9_want.cls ≠ "java/lang/invoke/VarHandle" ∧ (parseMethodDescriptor yX9_want.desc).map (fun d => d.parameters.length) = some 1 := ⟨by decide +kernel, by decide +kernel, by decide +kernel⟩
def f_X9_want_34 (σ : St) : Option (St × Unit) :=
  if (gi σ 835 0) = 0 then (
    bnd (si σ 834 0 ((gi σ 834 0) + 1)) fun s4 =>
    some (s4, ())
  ) else (
    some (σ, ())
  )
def f_X9_want (σ : St) (a1 : Int32) : Option (St × Unit) :=
  if (gi σ 835 0) = 0 then (
    ck (gi σ 834 0) 2001 fun j1 =>
    if (ga σ 1 14 j1) = a1 then (
      f_X9_want_34 σ
    ) else (
      ck (gi σ 834 0) 2001 fun j2 =>
      cl (f_X9_fails σ 2 (ga σ 1 15 j2)) fun s3 _u31 =>
      f_X9_want_34 s3
    )
  ) else (
    f_X9_want_34 σ
  )
def rm_X9_wantKind : Room := { frames := 1, cells := 0, slots := 0, locals := 24 }
theorem q_X9_wantKind : yX9_wantKind.cls ≠ "java/lang/invoke/MethodHandle" ∧ yX9_wantKind.cls ≠ "java/lang/invoke/VarHandle" ∧ (parseMethodDescriptor yX9_wantKind.desc).map (fun d => d.parameters.length) = some 0 := ⟨by decide +kernel, by decide +kernel, by decide +kernel⟩
def f_X9_wantKind_52 (σ : St) (v1 : Int32) : Option (St × Int32) :=
  if (gi σ 835 0) = 0 then (
    bnd (si σ 834 0 ((gi σ 834 0) + 1)) fun s7 =>
    some (s7, v1)
  ) else (
    some (σ, v1)
  )
def f_X9_wantKind_26 (σ : St) (t0 : Int32) : Option (St × Int32) :=
  if (gi σ 835 0) = 0 then (
    if 0 ≤ t0 then (
      f_X9_wantKind_52 σ t0
    ) else (
      ck (gi σ 834 0) 2001 fun j5 =>
      cl (f_X9_fails σ 2 (ga σ 1 15 j5)) fun s6 _u49 =>
      f_X9_wantKind_52 s6 t0
    )
  ) else (
    f_X9_wantKind_52 σ t0
  )
def f_X9_wantKind (σ : St) : Option (St × Int32) :=
  if (gi σ 835 0) = 0 then (
    cl (f_X9_word σ (gi σ 834 0)) fun s1 x2 =>
    cl (f_X9_among s1 0 x2) fun s3 x4 =>
    f_X9_wantKind_26 s3 x4
  ) else (
    f_X9_wantKind_26 σ (-1)
  )
def rm_X9_copyName : Room := { frames := 0, cells := 0, slots := 0, locals := 0 }
theorem q_X9_copyName : yX9_copyName.cls ≠ "java/lang/invoke/MethodHandle" ∧ yX9_copyName.cls ≠ "java/lang/invoke/VarHandle" ∧ (parseMethodDescriptor yX9_copyName.desc).map (fun d => d.parameters.length) = some 3 := ⟨by decide +kernel, by decide +kernel, by decide +kernel⟩
def f_X9_copyName_3 : Nat → St → Int32 → Nat → Int32 → Int32 → Option (St × Unit)
  | 0, _, _, _, _, _ => none
  | n + 1, σ, v1, v2, v3, v4 =>
    ck v1 2001 fun j1 =>
    if (ga σ 1 16 j1) ≤ v4 then (
      some (σ, ())
    ) else (
      ck v1 2001 fun j2 =>
      ck ((ga σ 1 15 j2) + v4) 2000 fun j3 =>
      ck (v3 + v4) (lenMb.getD v2 0) fun j4 =>
      bnd (sa σ 2 v2 j4 (vp_nar .byte (ga σ 2 0 j3))) fun s5 =>
      f_X9_copyName_3 n s5 v1 v2 v3 (v4 + 1)
    )
def f_X9_copyName (σ : St) (a1 : Int32) (a2 : Nat) (a3 : Int32) : Option (St × Unit) :=
  f_X9_copyName_3 fl σ a1 a2 a3 0
def rm_X9_wantPath : Room := { frames := 2, cells := 0, slots := 0, locals := 43 }
theorem q_X9_wantPath : yX9_wantPath.cls ≠ "java/lang/invoke/MethodHandle" ∧ yX9_wantPath.cls ≠ "java/lang/invoke/VarHandle" ∧ (parseMethodDescriptor yX9_wantPath.desc).map (fun d => d.parameters.length) = some 0 := ⟨by decide +kernel, by decide +kernel, by decide +kernel⟩
def f_X9_wantPath_48 (k49 : St → Int32 → Int32 → Option (St × Int32)) (σ : St) (v1 : Int32) : Option (St × Int32) :=
  k49 σ 0 v1
def f_X9_wantPath_49 (k4 : St → Int32 → Int32 → Option (St × Int32)) (σ : St) (t0 : Int32) (v1 : Int32) : Option (St × Int32) :=
  if t0 = 0 then (
    k4 σ v1 t0
  ) else (
    bnd (si σ 834 0 ((gi σ 834 0) + 1)) fun s3 =>
    k4 s3 v1 t0
  )
def f_X9_wantPath_4 : Nat → St → Int32 → Int32 → Option (St × Int32)
  | 0, _, _, _ => none
  | n + 1, σ, v1, v2 =>
    if v2 = 0 then (
      some (σ, v1)
    ) else (
      if (gi σ 835 0) = 0 then (
        cl (f_X9_want σ 1) fun s1 _u17 =>
        if (gi s1 835 0) = 0 then (
          ck (gi s1 834 0) 2001 fun j2 =>
          if (ga s1 1 14 j2) = 46 then (
            f_X9_wantPath_49 (f_X9_wantPath_4 n) s1 1 (v1 + 1)
          ) else (
            f_X9_wantPath_48 (f_X9_wantPath_49 (f_X9_wantPath_4 n)) s1 (v1 + 1)
          )
        ) else (
          f_X9_wantPath_48 (f_X9_wantPath_49 (f_X9_wantPath_4 n)) s1 (v1 + 1)
        )
      ) else (
        some (σ, v1)
      )
    )
def f_X9_wantPath (σ : St) : Option (St × Int32) :=
  f_X9_wantPath_4 fl σ 0 1
def rm_X9_mayHave : Room := { frames := 1, cells := 0, slots := 0, locals := 22 }
theorem q_X9_mayHave : yX9_mayHave.cls ≠ "java/lang/invoke/MethodHandle" ∧ yX9_mayHave.cls ≠ "java/lang/invoke/VarHandle" ∧ (parseMethodDescriptor yX9_mayHave.desc).map (fun d => d.parameters.length) = some 2 := ⟨by decide +kernel, by decide +kernel, by decide +kernel⟩
def f_X9_mayHave_51 (σ : St) (v1 : Int32) : Option (St × Int32) :=
  if v1 = 1 then (
    some (σ, 1)
  ) else (
    some (σ, 0)
  )
def f_X9_mayHave_40 (σ : St) (v1 : Int32) : Option (St × Int32) :=
  if 4 < v1 then (
    some (σ, 0)
  ) else (
    some (σ, 1)
  )
def f_X9_mayHave (σ : St) (a1 : Int32) (a2 : Int32) : Option (St × Int32) :=
  bnd (a2) fun x1 =>
  if x1 = 0 then (
    f_X9_mayHave_40 σ a1
  ) else (
  if x1 = 1 then (
    f_X9_mayHave_40 σ a1
  ) else (
  if x1 = 2 then (
    f_X9_mayHave_51 σ a1
  ) else (
  if x1 = 3 then (
    cl (f_X9_in σ a1 2 4) fun s2 x3 =>
    cq (decide (x3 = 0 ∨ x3 = 1)) <| some (s2, x3)
  ) else (
  if x1 = 4 then (
    f_X9_mayHave_40 σ a1
  ) else (
  if x1 = 5 then (
    f_X9_mayHave_51 σ a1
  ) else (
    if a1 = 7 then (
      some (σ, 1)
    ) else (
      some (σ, 0)
    )
  ))))))
def rm_X9_option : Room := { frames := 3, cells := 0, slots := 0, locals := 65 }
theorem q_X9_option : yX9_option.cls ≠ "java/lang/invoke/MethodHandle" ∧ yX9_option.cls ≠ "java/lang/invoke/VarHandle" ∧ (parseMethodDescriptor yX9_option.desc).map (fun d => d.parameters.length) = some 2 := ⟨by decide +kernel, by decide +kernel, by decide +kernel⟩
def f_X9_option_81 (k93 : St → Int32 → Int32 → Int32 → Int32 → Option (St × Unit)) (σ : St) (v1 : Int32) (v2 : Int32) (v3 : Int32) (v4 : Int32) : Option (St × Unit) :=
  ck v4 2001 fun j11 =>
  cl (f_X9_note σ 5 (ga σ 1 15 j11)) fun s12 _u90 =>
  k93 s12 v1 v2 v3 v4
def f_X9_option_93 (σ : St) (v1 : Int32) (v2 : Int32) (v3 : Int32) (v4 : Int32) : Option (St × Unit) :=
  ck v1 320 fun j13 =>
  ck v1 320 fun j14 =>
  bnd (sa σ 1 5 j14 ((ga σ 1 5 j13) ||| (1 <<< (v3 &&& 31)))) fun s15 =>
  bnd (si s15 834 0 ((gi s15 834 0) + 1)) fun s16 =>
  if 3 ≤ v3 then (
    cl (f_X9_want s16 61) fun s17 _u128 =>
    if v3 = 3 then (
      cl (f_X9_want s17 2) fun s36 _u144 =>
      if (gi s36 835 0) = 0 then (
        cl (f_X9_number s36 (gi s17 834 0)) fun s37 x38 =>
        ck v1 320 fun j39 =>
        bnd (sa s37 1 6 j39 x38) fun s40 =>
        ck v1 320 fun j41 =>
        if (ga s40 1 4 j41) = 4 then (
          ck v1 320 fun j42 =>
          if (ga s40 1 6 j42) ≤ 1 then (
            some (s40, ())
          ) else (
            ck (gi s17 834 0) 2001 fun j43 =>
            cl (f_X9_note s40 5 (ga s40 1 15 j43)) fun s44 _u195 =>
            some (s44, ())
          )
        ) else (
          some (s40, ())
        )
      ) else (
        some (s36, ())
      )
    ) else (
      if v3 = 5 then (
        cl (f_X9_want s17 1) fun s31 _u208 =>
        if (gi s31 835 0) = 0 then (
          ck (gi s17 834 0) 2001 fun j32 =>
          ck v1 320 fun j33 =>
          bnd (sa s31 1 9 j33 (ga s31 1 16 j32)) fun s34 =>
          cl (f_X9_copyName s34 (gi s17 834 0) 4 (12 * v1)) fun s35 _u242 =>
          some (s35, ())
        ) else (
          some (s31, ())
        )
      ) else (
        cl (f_X9_wantPath s17) fun s18 x19 =>
        if (gi s18 835 0) = 0 then (
          ck (gi s18 838 0) 700 fun j20 =>
          bnd (sa s18 1 17 j20 v2) fun s21 =>
          ck (gi s21 838 0) 700 fun j22 =>
          bnd (sa s21 1 18 j22 v3) fun s23 =>
          ck (gi s23 838 0) 700 fun j24 =>
          bnd (sa s23 1 19 j24 (gi s17 834 0)) fun s25 =>
          ck (gi s25 838 0) 700 fun j26 =>
          bnd (sa s25 1 20 j26 x19) fun s27 =>
          ck (gi s27 838 0) 700 fun j28 =>
          bnd (sa s27 1 21 j28 v4) fun s29 =>
          bnd (si s29 838 0 ((gi s29 838 0) + 1)) fun s30 =>
          some (s30, ())
        ) else (
          some (s18, ())
        )
      )
    )
  ) else (
    some (s16, ())
  )
def f_X9_option_60 (σ : St) (t0 : Int32) (v1 : Int32) (v2 : Int32) (v3 : Int32) (v4 : Int32) : Option (St × Unit) :=
  if t0 = 0 then (
    ck v1 320 fun j8 =>
    cl (f_X9_mayHave σ (ga σ 1 4 j8) v3) fun s9 x10 =>
    if x10 = 0 then (
      f_X9_option_81 (f_X9_option_93) s9 v1 v2 v3 v4
    ) else (
      f_X9_option_93 s9 v1 v2 v3 v4
    )
  ) else (
    f_X9_option_81 (f_X9_option_93) σ v1 v2 v3 v4
  )
def f_X9_option (σ : St) (a1 : Int32) (a2 : Int32) : Option (St × Unit) :=
  cl (f_X9_word σ (gi σ 834 0)) fun s1 x2 =>
  cl (f_X9_among s1 1 x2) fun s3 x4 =>
  if 0 ≤ x4 then (
    ck a1 320 fun j5 =>
    if (((ga s3 1 5 j5) >>> (x4 &&& 31)) &&& 1) = 1 then (
      f_X9_option_60 s3 1 a1 a2 x4 (gi s3 834 0)
    ) else (
      f_X9_option_60 s3 0 a1 a2 x4 (gi s3 834 0)
    )
  ) else (
    ck (gi s3 834 0) 2001 fun j6 =>
    cl (f_X9_fails s3 2 (ga s3 1 15 j6)) fun s7 _u31 =>
    some (s7, ())
  )
def rm_X9_begin : Room := { frames := 0, cells := 0, slots := 0, locals := 0 }
theorem q_X9_begin : yX9_begin.cls ≠ "java/lang/invoke/MethodHandle" ∧ yX9_begin.cls ≠ "java/lang/invoke/VarHandle" ∧ (parseMethodDescriptor yX9_begin.desc).map (fun d => d.parameters.length) = some 1 := ⟨by decide +kernel, by decide +kernel, by decide +kernel⟩
def f_X9_begin (σ : St) (a1 : Int32) : Option (St × Unit) :=
  ck a1 320 fun j1 =>
  bnd (sa σ 1 5 j1 0) fun s2 =>
  ck a1 320 fun j3 =>
  bnd (sa s2 1 6 j3 (-2)) fun s4 =>
  ck a1 320 fun j5 =>
  bnd (sa s4 1 7 j5 (-2)) fun s6 =>
  ck a1 320 fun j7 =>
  bnd (sa s6 1 8 j7 (-2)) fun s8 =>
  ck a1 320 fun j9 =>
  bnd (sa s8 1 9 j9 0) fun s10 =>
  ck a1 320 fun j11 =>
  bnd (sa s10 1 3 j11 0) fun s12 =>
  some (s12, ())
def rm_X9_isSameName : Room := { frames := 0, cells := 0, slots := 0, locals := 0 }
theorem q_X9_isSameName : yX9_isSameName.cls ≠ "java/lang/invoke/MethodHandle" ∧ yX9_isSameName.cls ≠ "java/lang/invoke/VarHandle" ∧ (parseMethodDescriptor yX9_isSameName.desc).map (fun d => d.parameters.length) = some 2 := ⟨by decide +kernel, by decide +kernel, by decide +kernel⟩
def f_X9_isSameName_71 (k24 : St → Int32 → Int32 → Int32 → Int32 → Option (St × Int32)) (σ : St) (t0 : Int32) (v1 : Int32) (v2 : Int32) (v4 : Int32) : Option (St × Int32) :=
  k24 σ v1 v2 t0 (v4 + 1)
def f_X9_isSameName_24 : Nat → St → Int32 → Int32 → Int32 → Int32 → Option (St × Int32)
  | 0, _, _, _, _, _ => none
  | n + 1, σ, v1, v2, v3, v4 =>
    ck v1 320 fun j3 =>
    if (ga σ 1 3 j3) ≤ v4 then (
      cq (decide (v3 = 0 ∨ v3 = 1)) <| some (σ, v3)
    ) else (
      if v3 = 0 then (
        cq (decide (v3 = 0 ∨ v3 = 1)) <| some (σ, v3)
      ) else (
        ck ((12 * v1) + v4) 3840 fun j4 =>
        ck ((12 * v2) + v4) 3840 fun j5 =>
        if (ga σ 2 3 j4) = (ga σ 2 3 j5) then (
          f_X9_isSameName_71 (f_X9_isSameName_24 n) σ 1 v1 v2 v4
        ) else (
          f_X9_isSameName_71 (f_X9_isSameName_24 n) σ 0 v1 v2 v4
        )
      )
    )
def f_X9_isSameName_20 (σ : St) (t0 : Int32) (v1 : Int32) (v2 : Int32) : Option (St × Int32) :=
  f_X9_isSameName_24 fl σ v1 v2 t0 0
def f_X9_isSameName (σ : St) (a1 : Int32) (a2 : Int32) : Option (St × Int32) :=
  ck a1 320 fun j1 =>
  ck a2 320 fun j2 =>
  if (ga σ 1 3 j1) = (ga σ 1 3 j2) then (
    f_X9_isSameName_20 σ 1 a1 a2
  ) else (
    f_X9_isSameName_20 σ 0 a1 a2
  )
def rm_X9_field : Room := { frames := 4, cells := 0, slots := 0, locals := 92 }
theorem q_X9_field : yX9_field.cls ≠ "java/lang/invoke/MethodHandle" ∧ yX9_field.cls ≠ "java/lang/invoke/VarHandle" ∧ (parseMethodDescriptor yX9_field.desc).map (fun d => d.parameters.length) = some 1 := ⟨by decide +kernel, by decide +kernel, by decide +kernel⟩
def f_X9_field_174 (k118 : St → Int32 → Int32 → Int32 → Int32 → Option (St × Unit)) (σ : St) (v1 : Int32) (v2 : Int32) (v3 : Int32) (v4 : Int32) : Option (St × Unit) :=
  k118 σ v1 v2 v3 (v4 + 1)
def f_X9_field_293 (k299 : St → Int32 → Int32 → Option (St × Unit)) (σ : St) (v2 : Int32) (v3 : Int32) : Option (St × Unit) :=
  cl (f_X9_want σ 41) fun s43 _u296 =>
  k299 s43 v2 v3
def f_X9_field_253 (k299 : St → Int32 → Int32 → Option (St × Unit)) : Nat → St → Int32 → Int32 → Option (St × Unit)
  | 0, _, _, _ => none
  | n + 1, σ, v2, v3 =>
    if (gi σ 835 0) = 0 then (
      ck (gi σ 834 0) 2001 fun j33 =>
      if (ga σ 1 14 j33) = 44 then (
        bnd (si σ 834 0 ((gi σ 834 0) + 1)) fun s34 =>
        cl (f_X9_option s34 v3 v2) fun s35 _u287 =>
        f_X9_field_253 k299 n s35 v2 v3
      ) else (
        f_X9_field_293 k299 σ v2 v3
      )
    ) else (
      f_X9_field_293 k299 σ v2 v3
    )
def f_X9_field_379 (k418 : St → Int32 → Int32 → Option (St × Unit)) (σ : St) (v2 : Int32) (v3 : Int32) : Option (St × Unit) :=
  ck (gi σ 847 0) 5 fun j44 =>
  bnd (sa σ 1 24 j44 v2) fun s45 =>
  bnd (si s45 847 0 ((gi s45 847 0) + 1)) fun s46 =>
  bnd (si s46 834 0 ((gi s46 834 0) + 1)) fun s47 =>
  k418 s47 v2 v3
def f_X9_field_412 (k418 : St → Int32 → Int32 → Option (St × Unit)) (σ : St) (v2 : Int32) (v3 : Int32) : Option (St × Unit) :=
  cl (f_X9_want σ 59) fun s48 _u415 =>
  k418 s48 v2 v3
def f_X9_field_418 (σ : St) (v2 : Int32) (v3 : Int32) : Option (St × Unit) :=
  if (gi σ 835 0) = 0 then (
    ck v3 320 fun j49 =>
    if (ga σ 1 4 j49) = 7 then (
      ck v3 320 fun j50 =>
      if (((ga σ 1 5 j50) >>> (6 &&& 31)) &&& 1) = 0 then (
        ck v2 40 fun j51 =>
        ck (ga σ 1 23 j51) 2001 fun j52 =>
        cl (f_X9_note σ 7 (ga σ 1 15 j52)) fun s53 _u464 =>
        some (s53, ())
      ) else (
        some (σ, ())
      )
    ) else (
      some (σ, ())
    )
  ) else (
    some (σ, ())
  )
def f_X9_field_299 (σ : St) (v2 : Int32) (v3 : Int32) : Option (St × Unit) :=
  if (gi σ 835 0) = 0 then (
    ck (gi σ 834 0) 2001 fun j36 =>
    if (ga σ 1 14 j36) = 123 then (
      if (gi σ 847 0) = 4 then (
        ck (gi σ 834 0) 2001 fun j41 =>
        cl (f_X9_fails σ 3 (ga σ 1 15 j41)) fun s42 _u339 =>
        some (s42, ())
      ) else (
        ck v3 320 fun j37 =>
        if (ga σ 1 4 j37) = 5 then (
          f_X9_field_379 (f_X9_field_418) σ v2 v3
        ) else (
          ck v3 320 fun j38 =>
          if (ga σ 1 4 j38) = 6 then (
            f_X9_field_379 (f_X9_field_418) σ v2 v3
          ) else (
            ck (gi σ 834 0) 2001 fun j39 =>
            cl (f_X9_note σ 6 (ga σ 1 15 j39)) fun s40 _u376 =>
            f_X9_field_379 (f_X9_field_418) s40 v2 v3
          )
        )
      )
    ) else (
      f_X9_field_412 (f_X9_field_418) σ v2 v3
    )
  ) else (
    f_X9_field_412 (f_X9_field_418) σ v2 v3
  )
def f_X9_field_118 : Nat → St → Int32 → Int32 → Int32 → Int32 → Option (St × Unit)
  | 0, _, _, _, _, _ => none
  | n + 1, σ, v1, v2, v3, v4 =>
    if v2 ≤ v4 then (
      ck v1 8 fun j15 =>
      ck v1 8 fun j16 =>
      bnd (sa σ 1 0 j16 ((ga σ 1 0 j15) + 1)) fun s17 =>
      bnd (si s17 834 0 ((gi s17 834 0) + 1)) fun s18 =>
      cl (f_X9_want s18 58) fun s19 _u203 =>
      cl (f_X9_wantKind s19) fun s20 x21 =>
      ck v3 320 fun j22 =>
      bnd (sa s20 1 4 j22 x21) fun s23 =>
      if (gi s23 835 0) = 0 then (
        ck (gi s23 834 0) 2001 fun j24 =>
        if (ga s23 1 14 j24) = 40 then (
          bnd (si s23 834 0 ((gi s23 834 0) + 1)) fun s25 =>
          cl (f_X9_option s25 v3 v2) fun s26 _u250 =>
          f_X9_field_253 (f_X9_field_299) fl s26 v2 v3
        ) else (
          f_X9_field_299 s23 v2 v3
        )
      ) else (
        f_X9_field_299 s23 v2 v3
      )
    ) else (
      ck ((40 * v1) + v4) 320 fun j27 =>
      ck v3 320 fun j28 =>
      if (ga σ 1 10 j27) = (ga σ 1 10 j28) then (
        cl (f_X9_isSameName σ ((40 * v1) + v4) v3) fun s29 x30 =>
        if x30 = 0 then (
          f_X9_field_174 (f_X9_field_118 n) s29 v1 v2 v3 v4
        ) else (
          ck (gi s29 834 0) 2001 fun j31 =>
          cl (f_X9_note s29 4 (ga s29 1 15 j31)) fun s32 _u171 =>
          f_X9_field_174 (f_X9_field_118 n) s32 v1 v2 v3 v4
        )
      ) else (
        f_X9_field_174 (f_X9_field_118 n) σ v1 v2 v3 v4
      )
    )
def f_X9_field_114 (σ : St) (t0 : Nat) (t1 : Int32) (t2 : Int32) (v1 : Int32) (v2 : Int32) (v3 : Int32) : Option (St × Unit) :=
  ck t1 (lenMi.getD t0 0) fun j13 =>
  bnd (sa σ 1 t0 j13 t2) fun s14 =>
  f_X9_field_118 fl s14 v1 v2 v3 0
def f_X9_field (σ : St) (a1 : Int32) : Option (St × Unit) :=
  ck a1 8 fun j1 =>
  if (ga σ 1 0 j1) = 40 then (
    ck (gi σ 834 0) 2001 fun j11 =>
    cl (f_X9_fails σ 3 (ga σ 1 15 j11)) fun s12 _u22 =>
    some (s12, ())
  ) else (
    ck a1 8 fun j2 =>
    cl (f_X9_begin σ ((40 * a1) + (ga σ 1 0 j2))) fun s3 _u42 =>
    ck (ga σ 1 0 j2) 40 fun j4 =>
    bnd (sa s3 1 23 j4 (gi s3 834 0)) fun s5 =>
    ck (gi s5 834 0) 2001 fun j6 =>
    ck ((40 * a1) + (ga σ 1 0 j2)) 320 fun j7 =>
    bnd (sa s5 1 3 j7 (ga s5 1 16 j6)) fun s8 =>
    cl (f_X9_copyName s8 (gi s8 834 0) 3 (12 * ((40 * a1) + (ga σ 1 0 j2)))) fun s9 _u83 =>
    if (gi s9 847 0) = 0 then (
      f_X9_field_114 s9 10 ((40 * a1) + (ga σ 1 0 j2)) (-2) a1 (ga σ 1 0 j2) ((40 * a1) + (ga σ 1 0 j2))
    ) else (
      ck ((gi s9 847 0) - 1) 5 fun j10 =>
      f_X9_field_114 s9 10 ((40 * a1) + (ga σ 1 0 j2)) (ga s9 1 24 j10) a1 (ga σ 1 0 j2) ((40 * a1) + (ga σ 1 0 j2))
    )
  )
def rm_X9_rule : Room := { frames := 2, cells := 0, slots := 0, locals := 45 }
theorem q_X9_rule : yX9_rule.cls ≠ "java/lang/invoke/MethodHandle" ∧ yX9_rule.cls ≠ "java/lang/invoke/VarHandle" ∧ (parseMethodDescriptor yX9_rule.desc).map (fun d => d.parameters.length) = some 1 := ⟨by decide +kernel, by decide +kernel, by decide +kernel⟩
def f_X9_rule_240 (σ : St) (v1 : Int32) (v2 : Int32) : Option (St × Unit) :=
  cl (f_X9_want σ 58) fun s31 _u243 =>
  cl (f_X9_wantKind s31) fun s32 x33 =>
  ck v2 64 fun j34 =>
  bnd (sa s32 1 13 j34 x33) fun s35 =>
  cl (f_X9_want s35 59) fun s36 _u259 =>
  ck v1 8 fun j37 =>
  ck v1 8 fun j38 =>
  bnd (sa s36 1 1 j38 ((ga s36 1 1 j37) + 1)) fun s39 =>
  some (s39, ())
def f_X9_rule_155 (σ : St) (v1 : Int32) (v2 : Int32) : Option (St × Unit) :=
  ck (gi σ 834 0) 2001 fun j21 =>
  if (ga σ 1 14 j21) = 42 then (
    ck v2 64 fun j22 =>
    bnd (sa σ 4 0 j22 (vp_nar .boolean 1)) fun s23 =>
    bnd (si s23 834 0 ((gi s23 834 0) + 1)) fun s24 =>
    ck (gi s24 834 0) 2001 fun j25 =>
    if (ga s24 1 14 j25) = 1 then (
      ck (gi s24 834 0) 2001 fun j26 =>
      ck v2 64 fun j27 =>
      bnd (sa s24 1 12 j27 (ga s24 1 16 j26)) fun s28 =>
      cl (f_X9_copyName s28 (gi s28 834 0) 6 (12 * v2)) fun s29 _u227 =>
      bnd (si s29 834 0 ((gi s29 834 0) + 1)) fun s30 =>
      f_X9_rule_240 s30 v1 v2
    ) else (
      f_X9_rule_240 s24 v1 v2
    )
  ) else (
    f_X9_rule_240 σ v1 v2
  )
def f_X9_rule (σ : St) (a1 : Int32) : Option (St × Unit) :=
  ck a1 8 fun j1 =>
  if (ga σ 1 1 j1) = 8 then (
    ck (gi σ 834 0) 2001 fun j19 =>
    cl (f_X9_fails σ 3 (ga σ 1 15 j19)) fun s20 _u22 =>
    some (s20, ())
  ) else (
    ck a1 8 fun j2 =>
    bnd (si σ 834 0 ((gi σ 834 0) + 1)) fun s3 =>
    ck ((8 * a1) + (ga σ 1 1 j2)) 64 fun j4 =>
    bnd (sa s3 1 11 j4 0) fun s5 =>
    ck ((8 * a1) + (ga σ 1 1 j2)) 64 fun j6 =>
    bnd (sa s5 1 12 j6 0) fun s7 =>
    ck ((8 * a1) + (ga σ 1 1 j2)) 64 fun j8 =>
    bnd (sa s7 4 0 j8 (vp_nar .boolean 0)) fun s9 =>
    ck (gi s9 834 0) 2001 fun j10 =>
    if (ga s9 1 14 j10) = 1 then (
      ck (gi s9 834 0) 2001 fun j14 =>
      ck ((8 * a1) + (ga σ 1 1 j2)) 64 fun j15 =>
      bnd (sa s9 1 11 j15 (ga s9 1 16 j14)) fun s16 =>
      cl (f_X9_copyName s16 (gi s16 834 0) 5 (12 * ((8 * a1) + (ga σ 1 1 j2)))) fun s17 _u110 =>
      bnd (si s17 834 0 ((gi s17 834 0) + 1)) fun s18 =>
      f_X9_rule_155 s18 a1 ((8 * a1) + (ga σ 1 1 j2))
    ) else (
      ck (gi s9 834 0) 2001 fun j11 =>
      if (ga s9 1 14 j11) = 42 then (
        f_X9_rule_155 s9 a1 ((8 * a1) + (ga σ 1 1 j2))
      ) else (
        ck (gi s9 834 0) 2001 fun j12 =>
        cl (f_X9_fails s9 2 (ga s9 1 15 j12)) fun s13 _u151 =>
        some (s13, ())
      )
    )
  )
def rm_X9_limitItem : Room := { frames := 2, cells := 0, slots := 0, locals := 43 }
theorem q_X9_limitItem : yX9_limitItem.cls ≠ "java/lang/invoke/MethodHandle" ∧ yX9_limitItem.cls ≠ "java/lang/invoke/VarHandle" ∧ (parseMethodDescriptor yX9_limitItem.desc).map (fun d => d.parameters.length) = some 0 := ⟨by decide +kernel, by decide +kernel, by decide +kernel⟩
def f_X9_limitItem_69 (σ : St) : Option (St × Unit) :=
  cl (f_X9_want σ 59) fun s8 _u72 =>
  some (s8, ())
def f_X9_limitItem_22 (σ : St) : Option (St × Unit) :=
  bnd (si σ 834 0 ((gi σ 834 0) + 1)) fun s3 =>
  cl (f_X9_want s3 2) fun s4 _u39 =>
  if (gi s4 835 0) = 0 then (
    ck (gi s4 844 0) 700 fun j5 =>
    bnd (sa s4 1 22 j5 (gi s3 834 0)) fun s6 =>
    bnd (si s6 844 0 ((gi s6 844 0) + 1)) fun s7 =>
    f_X9_limitItem_69 s7
  ) else (
    f_X9_limitItem_69 s4
  )
def f_X9_limitItem (σ : St) : Option (St × Unit) :=
  if (gi σ 844 0) ≤ 0 then (
    f_X9_limitItem_22 σ
  ) else (
    ck (gi σ 834 0) 2001 fun j1 =>
    cl (f_X9_note σ 10 (ga σ 1 15 j1)) fun s2 _u19 =>
    f_X9_limitItem_22 s2
  )
def rm_X9_text : Room := { frames := 5, cells := 0, slots := 0, locals := 116 }
theorem q_X9_text : yX9_text.cls ≠ "java/lang/invoke/MethodHandle" ∧ yX9_text.cls ≠ "java/lang/invoke/VarHandle" ∧ (parseMethodDescriptor yX9_text.desc).map (fun d => d.parameters.length) = some 1 := ⟨by decide +kernel, by decide +kernel, by decide +kernel⟩
def f_X9_text_147 (k183 : St → Int32 → Option (St × Unit)) (σ : St) (v1 : Int32) (v2 : Int64) : Option (St × Unit) :=
  if (lg_cmp v2 (1920298085 : Int64)) = 0 then (
    cl (f_X9_rule σ v1) fun s12 _u157 =>
    k183 s12 v1
  ) else (
    if (lg_cmp v2 (465625246068 : Int64)) = 0 then (
      cl (f_X9_limitItem σ) fun s11 _u172 =>
      k183 s11 v1
    ) else (
      cl (f_X9_field σ v1) fun s10 _u180 =>
      k183 s10 v1
    )
  )
def f_X9_text_130 (k183 : St → Int32 → Option (St × Unit)) (σ : St) (v1 : Int32) : Option (St × Unit) :=
  ck (gi σ 834 0) 2001 fun j13 =>
  cl (f_X9_fails σ 2 (ga σ 1 15 j13)) fun s14 _u141 =>
  k183 s14 v1
def f_X9_text_94 (k183 : St → Int32 → Option (St × Unit)) (σ : St) (v1 : Int32) (v2 : Int64) : Option (St × Unit) :=
  ck (gi σ 834 0) 2001 fun j9 =>
  if (ga σ 1 14 j9) = 1 then (
    if (gi σ 847 0) ≤ 0 then (
      f_X9_text_147 k183 σ v1 v2
    ) else (
      if (lg_cmp v2 (1920298085 : Int64)) = 0 then (
        f_X9_text_130 k183 σ v1
      ) else (
        if (lg_cmp v2 (465625246068 : Int64)) = 0 then (
          f_X9_text_130 k183 σ v1
        ) else (
          f_X9_text_147 k183 σ v1 v2
        )
      )
    )
  ) else (
    f_X9_text_130 k183 σ v1
  )
def f_X9_text_183 (k10 : St → Int32 → Option (St × Unit)) (σ : St) (v1 : Int32) : Option (St × Unit) :=
  k10 σ v1
def f_X9_text_35 (k10 : St → Int32 → Option (St × Unit)) (σ : St) (v1 : Int32) : Option (St × Unit) :=
  cl (f_X9_word σ (gi σ 834 0)) fun s3 x4 =>
  if (gi s3 847 0) ≤ 0 then (
    f_X9_text_94 (f_X9_text_183 k10) s3 v1 x4
  ) else (
    ck (gi s3 834 0) 2001 fun j5 =>
    if (ga s3 1 14 j5) = 125 then (
      bnd (si s3 847 0 ((gi s3 847 0) - 1)) fun s6 =>
      bnd (si s6 834 0 ((gi s6 834 0) + 1)) fun s7 =>
      cl (f_X9_want s7 59) fun s8 _u88 =>
      f_X9_text_183 k10 s8 v1
    ) else (
      f_X9_text_94 (f_X9_text_183 k10) s3 v1 x4
    )
  )
def f_X9_text_10 : Nat → St → Int32 → Option (St × Unit)
  | 0, _, _ => none
  | n + 1, σ, v1 =>
    if (gi σ 835 0) = 0 then (
      if 0 < (gi σ 847 0) then (
        f_X9_text_35 (f_X9_text_10 n) σ v1
      ) else (
        if (gi σ 830 0) ≤ (gi σ 834 0) then (
          some (σ, ())
        ) else (
          f_X9_text_35 (f_X9_text_10 n) σ v1
        )
      )
    ) else (
      some (σ, ())
    )
def f_X9_text (σ : St) (a1 : Int32) : Option (St × Unit) :=
  bnd (si σ 834 0 0) fun s1 =>
  bnd (si s1 847 0 0) fun s2 =>
  f_X9_text_10 fl s2 a1
def rm_X9_spell : Room := { frames := 0, cells := 0, slots := 0, locals := 0 }
theorem q_X9_spell : yX9_spell.cls ≠ "java/lang/invoke/MethodHandle" ∧ yX9_spell.cls ≠ "java/lang/invoke/VarHandle" ∧ (parseMethodDescriptor yX9_spell.desc).map (fun d => d.parameters.length) = some 3 := ⟨by decide +kernel, by decide +kernel, by decide +kernel⟩
def f_X9_spell_125 (k51 : St → Int32 → Nat → Int32 → Int32 → Option (St × Int32)) (σ : St) (v1 : Int32) (v3 : Nat) (v5 : Int32) (v6 : Int32) : Option (St × Int32) :=
  k51 σ v1 v3 v5 (v6 + (-1))
def f_X9_spell_73 (k51 : St → Int32 → Nat → Int32 → Int32 → Option (St × Int32)) : Nat → St → Int32 → Nat → Int32 → Int32 → Int32 → Int32 → Option (St × Int32)
  | 0, _, _, _, _, _, _, _ => none
  | n + 1, σ, v1, v3, v5, v6, v7, v8 =>
    ck v7 320 fun j5 =>
    if (ga σ 1 3 j5) ≤ v8 then (
      if v6 ≤ 0 then (
        f_X9_spell_125 k51 σ v1 v3 v5 v6
      ) else (
        ck v5 (lenMb.getD v3 0) fun j6 =>
        bnd (sa σ 2 v3 j6 (vp_nar .byte 46)) fun s7 =>
        f_X9_spell_125 k51 s7 v1 v3 (v5 + 1) v6
      )
    ) else (
      ck ((12 * v7) + v8) 3840 fun j8 =>
      ck v5 (lenMb.getD v3 0) fun j9 =>
      bnd (sa σ 2 v3 j9 (vp_nar .byte (ga σ 2 3 j8))) fun s10 =>
      f_X9_spell_73 k51 n s10 v1 v3 (v5 + 1) v6 v7 (v8 + 1)
    )
def f_X9_spell_51 : Nat → St → Int32 → Nat → Int32 → Int32 → Option (St × Int32)
  | 0, _, _, _, _, _ => none
  | n + 1, σ, v1, v3, v5, v6 =>
    if v6 < 0 then (
      some (σ, v5)
    ) else (
      ck v6 6 fun j4 =>
      f_X9_spell_73 (f_X9_spell_51 n) fl σ v1 v3 v5 v6 ((40 * v1) + (ga σ 1 25 j4)) 0
    )
def f_X9_spell_6 : Nat → St → Int32 → Nat → Int32 → Int32 → Option (St × Int32)
  | 0, _, _, _, _, _ => none
  | n + 1, σ, v1, v3, v4, v5 =>
    if v5 = (-2) then (
      f_X9_spell_51 fl σ v1 v3 0 (v4 - 1)
    ) else (
      ck v4 6 fun j1 =>
      bnd (sa σ 1 25 j1 v5) fun s2 =>
      ck ((40 * v1) + v5) 320 fun j3 =>
      f_X9_spell_6 n s2 v1 v3 (v4 + 1) (ga s2 1 10 j3)
    )
def f_X9_spell (σ : St) (a1 : Int32) (a2 : Int32) (a3 : Nat) : Option (St × Int32) :=
  f_X9_spell_6 fl σ a1 a3 0 a2
def rm_X9_isToken : Room := { frames := 0, cells := 0, slots := 0, locals := 0 }
theorem q_X9_isToken : yX9_isToken.cls ≠ "java/lang/invoke/MethodHandle" ∧ yX9_isToken.cls ≠ "java/lang/invoke/VarHandle" ∧ (parseMethodDescriptor yX9_isToken.desc).map (fun d => d.parameters.length) = some 2 := ⟨by decide +kernel, by decide +kernel, by decide +kernel⟩
def f_X9_isToken_73 (k24 : St → Int32 → Int32 → Int32 → Int32 → Option (St × Int32)) (σ : St) (t0 : Int32) (v1 : Int32) (v2 : Int32) (v4 : Int32) : Option (St × Int32) :=
  k24 σ v1 v2 t0 (v4 + 1)
def f_X9_isToken_24 : Nat → St → Int32 → Int32 → Int32 → Int32 → Option (St × Int32)
  | 0, _, _, _, _, _ => none
  | n + 1, σ, v1, v2, v3, v4 =>
    ck v1 320 fun j3 =>
    if (ga σ 1 3 j3) ≤ v4 then (
      cq (decide (v3 = 0 ∨ v3 = 1)) <| some (σ, v3)
    ) else (
      if v3 = 0 then (
        cq (decide (v3 = 0 ∨ v3 = 1)) <| some (σ, v3)
      ) else (
        ck ((12 * v1) + v4) 3840 fun j4 =>
        ck v2 2001 fun j5 =>
        ck ((ga σ 1 15 j5) + v4) 2000 fun j6 =>
        if (ga σ 2 3 j4) = (ga σ 2 0 j6) then (
          f_X9_isToken_73 (f_X9_isToken_24 n) σ 1 v1 v2 v4
        ) else (
          f_X9_isToken_73 (f_X9_isToken_24 n) σ 0 v1 v2 v4
        )
      )
    )
def f_X9_isToken_20 (σ : St) (t0 : Int32) (v1 : Int32) (v2 : Int32) : Option (St × Int32) :=
  f_X9_isToken_24 fl σ v1 v2 t0 0
def f_X9_isToken (σ : St) (a1 : Int32) (a2 : Int32) : Option (St × Int32) :=
  ck a1 320 fun j1 =>
  ck a2 2001 fun j2 =>
  if (ga σ 1 3 j1) = (ga σ 1 16 j2) then (
    f_X9_isToken_20 σ 1 a1 a2
  ) else (
    f_X9_isToken_20 σ 0 a1 a2
  )
def rm_X9_fieldOf : Room := { frames := 1, cells := 0, slots := 0, locals := 24 }
theorem q_X9_fieldOf : yX9_fieldOf.cls ≠ "java/lang/invoke/MethodHandle" ∧ yX9_fieldOf.cls ≠ "java/lang/invoke/VarHandle" ∧ (parseMethodDescriptor yX9_fieldOf.desc).map (fun d => d.parameters.length) = some 3 := ⟨by decide +kernel, by decide +kernel, by decide +kernel⟩
def f_X9_fieldOf_71 (k72 : St → Int32 → Int32 → Int32 → Int32 → Int32 → Int32 → Int32 → Int32 → Option (St × Int32)) (σ : St) (v1 : Int32) (v2 : Int32) (v3 : Int32) (v4 : Int32) (v5 : Int32) (v6 : Int32) (v8 : Int32) : Option (St × Int32) :=
  k72 σ 0 v1 v2 v3 v4 v5 v6 v8
def f_X9_fieldOf_96 (k33 : St → Int32 → Int32 → Int32 → Int32 → Int32 → Int32 → Int32 → Int32 → Option (St × Int32)) (σ : St) (t0 : Int32) (v1 : Int32) (v2 : Int32) (v3 : Int32) (v4 : Int32) (v6 : Int32) (v7 : Int32) (v8 : Int32) : Option (St × Int32) :=
  k33 σ v1 v2 v3 v4 t0 (v6 + (-2)) v7 (v8 + 1)
def f_X9_fieldOf_72 (k33 : St → Int32 → Int32 → Int32 → Int32 → Int32 → Int32 → Int32 → Int32 → Option (St × Int32)) (σ : St) (t0 : Int32) (v1 : Int32) (v2 : Int32) (v3 : Int32) (v4 : Int32) (v5 : Int32) (v6 : Int32) (v8 : Int32) : Option (St × Int32) :=
  if t0 = 0 then (
    f_X9_fieldOf_96 k33 σ v5 v1 v2 v3 v4 v6 t0 v8
  ) else (
    ck ((40 * v1) + v5) 320 fun j4 =>
    f_X9_fieldOf_96 k33 σ (ga σ 1 10 j4) v1 v2 v3 v4 v6 t0 v8
  )
def f_X9_fieldOf_122 (k3 : St → Int32 → Int32 → Int32 → Int32 → Option (St × Int32)) (σ : St) (v1 : Int32) (v2 : Int32) (v3 : Int32) (v4 : Int32) : Option (St × Int32) :=
  k3 σ v1 v2 v3 (v4 + 1)
def f_X9_fieldOf_107 (k3 : St → Int32 → Int32 → Int32 → Int32 → Option (St × Int32)) (σ : St) (v1 : Int32) (v2 : Int32) (v3 : Int32) (v4 : Int32) (v5 : Int32) (v7 : Int32) : Option (St × Int32) :=
  if v7 = 0 then (
    f_X9_fieldOf_122 k3 σ v1 v2 v3 v4
  ) else (
    if v5 = (-2) then (
      some (σ, v4)
    ) else (
      f_X9_fieldOf_122 k3 σ v1 v2 v3 v4
    )
  )
def f_X9_fieldOf_33 (k3 : St → Int32 → Int32 → Int32 → Int32 → Option (St × Int32)) : Nat → St → Int32 → Int32 → Int32 → Int32 → Int32 → Int32 → Int32 → Int32 → Option (St × Int32)
  | 0, _, _, _, _, _, _, _, _, _ => none
  | n + 1, σ, v1, v2, v3, v4, v5, v6, v7, v8 =>
    if v3 ≤ v8 then (
      f_X9_fieldOf_107 k3 σ v1 v2 v3 v4 v5 v7
    ) else (
      if v7 = 0 then (
        f_X9_fieldOf_107 k3 σ v1 v2 v3 v4 v5 v7
      ) else (
        if v5 = (-2) then (
          f_X9_fieldOf_71 (f_X9_fieldOf_72 (f_X9_fieldOf_33 k3 n)) σ v1 v2 v3 v4 v5 v6 v8
        ) else (
          cl (f_X9_isToken σ ((40 * v1) + v5) v6) fun s2 x3 =>
          if x3 = 0 then (
            f_X9_fieldOf_71 (f_X9_fieldOf_72 (f_X9_fieldOf_33 k3 n)) s2 v1 v2 v3 v4 v5 v6 v8
          ) else (
            f_X9_fieldOf_72 (f_X9_fieldOf_33 k3 n) s2 1 v1 v2 v3 v4 v5 v6 v8
          )
        )
      )
    )
def f_X9_fieldOf_3 : Nat → St → Int32 → Int32 → Int32 → Int32 → Option (St × Int32)
  | 0, _, _, _, _, _ => none
  | n + 1, σ, v1, v2, v3, v4 =>
    ck v1 8 fun j1 =>
    if (ga σ 1 0 j1) ≤ v4 then (
      some (σ, (-2))
    ) else (
      f_X9_fieldOf_33 (f_X9_fieldOf_3 n) fl σ v1 v2 v3 v4 v4 (v2 + (2 * (v3 - 1))) 1 0
    )
def f_X9_fieldOf (σ : St) (a1 : Int32) (a2 : Int32) (a3 : Int32) : Option (St × Int32) :=
  f_X9_fieldOf_3 fl σ a1 a2 a3 0
def rm_X9_isFirst : Room := { frames := 0, cells := 0, slots := 0, locals := 0 }
theorem q_X9_isFirst : yX9_isFirst.cls ≠ "java/lang/invoke/MethodHandle" ∧ yX9_isFirst.cls ≠ "java/lang/invoke/VarHandle" ∧ (parseMethodDescriptor yX9_isFirst.desc).map (fun d => d.parameters.length) = some 1 := ⟨by decide +kernel, by decide +kernel, by decide +kernel⟩
def f_X9_isFirst_39 (k2 : St → Int32 → Int32 → Option (St × Int32)) (σ : St) (v1 : Int32) (v2 : Int32) : Option (St × Int32) :=
  k2 σ v1 (v2 + 1)
def f_X9_isFirst_2 : Nat → St → Int32 → Int32 → Option (St × Int32)
  | 0, _, _, _ => none
  | n + 1, σ, v1, v2 =>
    if v1 ≤ v2 then (
      some (σ, 1)
    ) else (
      ck v2 700 fun j1 =>
      ck v1 700 fun j2 =>
      if (ga σ 1 17 j1) = (ga σ 1 17 j2) then (
        ck v2 700 fun j3 =>
        ck v1 700 fun j4 =>
        if (ga σ 1 18 j3) = (ga σ 1 18 j4) then (
          some (σ, 0)
        ) else (
          f_X9_isFirst_39 (f_X9_isFirst_2 n) σ v1 v2
        )
      ) else (
        f_X9_isFirst_39 (f_X9_isFirst_2 n) σ v1 v2
      )
    )
def f_X9_isFirst (σ : St) (a1 : Int32) : Option (St × Int32) :=
  f_X9_isFirst_2 fl σ a1 0
def rm_X9_judge : Room := { frames := 2, cells := 0, slots := 0, locals := 52 }
theorem q_X9_judge : yX9_judge.cls ≠ "java/lang/invoke/MethodHandle" ∧ yX9_judge.cls ≠ "java/lang/invoke/VarHandle" ∧ (parseMethodDescriptor yX9_judge.desc).map (fun d => d.parameters.length) = some 1 := ⟨by decide +kernel, by decide +kernel, by decide +kernel⟩
def f_X9_judge_133 (k149 : St → Int32 → Int32 → Option (St × Unit)) (σ : St) (v1 : Int32) (v2 : Int32) (v3 : Int32) (v4 : Int32) : Option (St × Unit) :=
  cl (f_X9_isFirst σ v2) fun s38 x39 =>
  if x39 = 0 then (
    k149 s38 v1 v2
  ) else (
    ck v3 320 fun j40 =>
    bnd (sa s38 1 8 j40 v4) fun s41 =>
    k149 s41 v1 v2
  )
def f_X9_judge_149 (k2 : St → Int32 → Int32 → Option (St × Unit)) (σ : St) (v1 : Int32) (v2 : Int32) : Option (St × Unit) :=
  k2 σ v1 (v2 + 1)
def f_X9_judge_104 (k2 : St → Int32 → Int32 → Option (St × Unit)) (σ : St) (v1 : Int32) (v2 : Int32) (v3 : Int32) (v4 : Int32) : Option (St × Unit) :=
  cl (f_X9_isFirst σ v2) fun s24 x25 =>
  if x25 = 0 then (
    f_X9_judge_133 (f_X9_judge_149 k2) s24 v1 v2 v3 v4
  ) else (
    ck v2 700 fun j26 =>
    if (ga s24 1 18 j26) = 4 then (
      ck v3 320 fun j27 =>
      bnd (sa s24 1 7 j27 v4) fun s28 =>
      f_X9_judge_149 k2 s28 v1 v2
    ) else (
      f_X9_judge_133 (f_X9_judge_149 k2) s24 v1 v2 v3 v4
    )
  )
def f_X9_judge_84 (k2 : St → Int32 → Int32 → Option (St × Unit)) (σ : St) (t0 : Int32) (t1 : Int32) (v1 : Int32) (v2 : Int32) (v3 : Int32) (v4 : Int32) : Option (St × Unit) :=
  if t0 ≤ t1 then (
    f_X9_judge_104 k2 σ v1 v2 v3 v4
  ) else (
    ck v2 700 fun j15 =>
    ck (ga σ 1 19 j15) 2001 fun j16 =>
    cl (f_X9_note σ 8 (ga σ 1 15 j16)) fun s17 _u101 =>
    f_X9_judge_104 k2 s17 v1 v2 v3 v4
  )
def f_X9_judge_65 (k2 : St → Int32 → Int32 → Option (St × Unit)) (σ : St) (t0 : Int32) (v1 : Int32) (v2 : Int32) (v3 : Int32) (v4 : Int32) : Option (St × Unit) :=
  ck v2 700 fun j7 =>
  if (ga σ 1 18 j7) = 4 then (
    f_X9_judge_84 k2 σ t0 1 v1 v2 v3 v4
  ) else (
    f_X9_judge_84 k2 σ t0 4 v1 v2 v3 v4
  )
def f_X9_judge_244 (k271 : St → Int32 → Int32 → Option (St × Unit)) (σ : St) (v1 : Int32) (v2 : Int32) (v3 : Int32) : Option (St × Unit) :=
  ck v2 700 fun j29 =>
  if v3 = (ga σ 1 17 j29) then (
    ck v2 700 fun j30 =>
    ck (ga σ 1 21 j30) 2001 fun j31 =>
    cl (f_X9_note σ 9 (ga σ 1 15 j31)) fun s32 _u268 =>
    k271 s32 v1 v2
  ) else (
    k271 σ v1 v2
  )
def f_X9_judge_203 (k271 : St → Int32 → Int32 → Option (St × Unit)) : Nat → St → Int32 → Int32 → Int32 → Int32 → Option (St × Unit)
  | 0, _, _, _, _, _ => none
  | n + 1, σ, v1, v2, v3, v4 =>
    if 40 ≤ v4 then (
      f_X9_judge_244 k271 σ v1 v2 v3
    ) else (
      if v3 = (-2) then (
        f_X9_judge_244 k271 σ v1 v2 v3
      ) else (
        ck v2 700 fun j18 =>
        if v3 = (ga σ 1 17 j18) then (
          f_X9_judge_244 k271 σ v1 v2 v3
        ) else (
          ck ((40 * v1) + v3) 320 fun j19 =>
          f_X9_judge_203 k271 n σ v1 v2 (ga σ 1 7 j19) (v4 + 1)
        )
      )
    )
def f_X9_judge_271 (k157 : St → Int32 → Int32 → Option (St × Unit)) (σ : St) (v1 : Int32) (v2 : Int32) : Option (St × Unit) :=
  k157 σ v1 (v2 + 1)
def f_X9_judge_322 (k339 : St → Int32 → Int32 → Int32 → Option (St × Unit)) (σ : St) (v1 : Int32) (v2 : Int32) (v3 : Int32) : Option (St × Unit) :=
  ck v2 700 fun j33 =>
  ck (ga σ 1 22 j33) 2001 fun j34 =>
  cl (f_X9_note σ 10 (ga σ 1 15 j34)) fun s35 _u336 =>
  k339 s35 v1 v2 v3
def f_X9_judge_339 (k287 : St → Int32 → Int32 → Option (St × Unit)) (σ : St) (v1 : Int32) (v2 : Int32) (v3 : Int32) : Option (St × Unit) :=
  ck v1 8 fun j36 =>
  bnd (sa σ 1 2 j36 v3) fun s37 =>
  k287 s37 v1 (v2 + 1)
def f_X9_judge_287 : Nat → St → Int32 → Int32 → Option (St × Unit)
  | 0, _, _, _ => none
  | n + 1, σ, v1, v2 =>
    if (gi σ 844 0) ≤ v2 then (
      some (σ, ())
    ) else (
      ck v2 700 fun j20 =>
      cl (f_X9_number σ (ga σ 1 22 j20)) fun s21 x22 =>
      if 40 < x22 then (
        f_X9_judge_322 (f_X9_judge_339 (f_X9_judge_287 n)) s21 v1 v2 x22
      ) else (
        ck v1 8 fun j23 =>
        if (ga s21 1 0 j23) ≤ x22 then (
          f_X9_judge_339 (f_X9_judge_287 n) s21 v1 v2 x22
        ) else (
          f_X9_judge_322 (f_X9_judge_339 (f_X9_judge_287 n)) s21 v1 v2 x22
        )
      )
    )
def f_X9_judge_157 : Nat → St → Int32 → Int32 → Option (St × Unit)
  | 0, _, _, _ => none
  | n + 1, σ, v1, v2 =>
    if (gi σ 838 0) ≤ v2 then (
      ck v1 8 fun j8 =>
      bnd (sa σ 1 2 j8 40) fun s9 =>
      f_X9_judge_287 fl s9 v1 0
    ) else (
      ck v2 700 fun j10 =>
      if (ga σ 1 18 j10) = 4 then (
        cl (f_X9_isFirst σ v2) fun s11 x12 =>
        if x12 = 0 then (
          f_X9_judge_271 (f_X9_judge_157 n) s11 v1 v2
        ) else (
          ck v2 700 fun j13 =>
          ck ((40 * v1) + (ga s11 1 17 j13)) 320 fun j14 =>
          f_X9_judge_203 (f_X9_judge_271 (f_X9_judge_157 n)) fl s11 v1 v2 (ga s11 1 7 j14) 0
        )
      ) else (
        f_X9_judge_271 (f_X9_judge_157 n) σ v1 v2
      )
    )
def f_X9_judge_2 : Nat → St → Int32 → Int32 → Option (St × Unit)
  | 0, _, _, _ => none
  | n + 1, σ, v1, v2 =>
    if (gi σ 838 0) ≤ v2 then (
      f_X9_judge_157 fl σ v1 0
    ) else (
      ck v2 700 fun j1 =>
      ck v2 700 fun j2 =>
      ck v2 700 fun j3 =>
      cl (f_X9_fieldOf σ v1 (ga σ 1 19 j2) (ga σ 1 20 j3)) fun s4 x5 =>
      if x5 = (-2) then (
        f_X9_judge_65 (f_X9_judge_2 n) s4 9 v1 v2 ((40 * v1) + (ga σ 1 17 j1)) x5
      ) else (
        ck ((40 * v1) + x5) 320 fun j6 =>
        f_X9_judge_65 (f_X9_judge_2 n) s4 (ga s4 1 4 j6) v1 v2 ((40 * v1) + (ga σ 1 17 j1)) x5
      )
    )
def f_X9_judge (σ : St) (a1 : Int32) : Option (St × Unit) :=
  f_X9_judge_2 fl σ a1 0
def rm_X9_read : Room := { frames := 6, cells := 0, slots := 0, locals := 139 }
theorem q_X9_read : yX9_read.cls ≠ "java/lang/invoke/MethodHandle" ∧ yX9_read.cls ≠ "java/lang/invoke/VarHandle" ∧ (parseMethodDescriptor yX9_read.desc).map (fun d => d.parameters.length) = some 0 := ⟨by decide +kernel, by decide +kernel, by decide +kernel⟩
def f_X9_read_131 (σ : St) (v1 : Int32) : Option (St × Int32) :=
  if (gi σ 835 0) = 0 then (
    bnd (si σ 810 0 ((gi σ 810 0) + 1)) fun s19 =>
    some (s19, v1)
  ) else (
    some (σ, (-10) - (gi σ 835 0))
  )
def f_X9_read_100 (σ : St) (v1 : Int32) : Option (St × Int32) :=
  if (gi σ 835 0) = 0 then (
    cl (f_X9_judge σ v1) fun s17 _u109 =>
    if (gi s17 836 0) = 0 then (
      f_X9_read_131 s17 v1
    ) else (
      cl (f_X9_fails s17 (gi s17 836 0) (gi s17 837 0)) fun s18 _u128 =>
      f_X9_read_131 s18 v1
    )
  ) else (
    f_X9_read_131 σ v1
  )
def f_X9_read_88 (σ : St) (v1 : Int32) : Option (St × Int32) :=
  if (gi σ 835 0) = 0 then (
    cl (f_X9_text σ v1) fun s16 _u97 =>
    f_X9_read_100 s16 v1
  ) else (
    f_X9_read_100 σ v1
  )
def f_X9_read (σ : St) : Option (St × Int32) :=
  if (gi σ 810 0) = 8 then (
    bnd (si σ 803 0 0) fun s14 =>
    bnd (si s14 809 0 (-2)) fun s15 =>
    some (s15, (-3))
  ) else (
    ck (gi σ 810 0) 8 fun j1 =>
    bnd (sa σ 1 0 j1 0) fun s2 =>
    ck (gi σ 810 0) 8 fun j3 =>
    bnd (sa s2 1 1 j3 0) fun s4 =>
    bnd (si s4 838 0 0) fun s5 =>
    bnd (si s5 844 0 0) fun s6 =>
    bnd (si s6 835 0 0) fun s7 =>
    bnd (si s7 836 0 0) fun s8 =>
    bnd (si s8 837 0 0) fun s9 =>
    bnd (si s9 809 0 (-2)) fun s10 =>
    cl (f_X9_cut s10) fun s11 x12 =>
    if x12 < 0 then (
      f_X9_read_88 s11 (gi σ 810 0)
    ) else (
      cl (f_X9_fails s11 1 x12) fun s13 _u85 =>
      f_X9_read_88 s13 (gi σ 810 0)
    )
  )
def rm_X9_place : Room := { frames := 0, cells := 0, slots := 0, locals := 0 }
theorem q_X9_place : yX9_place.cls ≠ "java/lang/invoke/MethodHandle" ∧ yX9_place.cls ≠ "java/lang/invoke/VarHandle" ∧ (parseMethodDescriptor yX9_place.desc).map (fun d => d.parameters.length) = some 0 := ⟨by decide +kernel, by decide +kernel, by decide +kernel⟩
def f_X9_place (σ : St) : Option (St × Int32) :=
  some (σ, gi σ 809 0)
def rm_X9_drop : Room := { frames := 0, cells := 0, slots := 0, locals := 0 }
theorem q_X9_drop : yX9_drop.cls ≠ "java/lang/invoke/MethodHandle" ∧ yX9_drop.cls ≠ "java/lang/invoke/VarHandle" ∧ (parseMethodDescriptor yX9_drop.desc).map (fun d => d.parameters.length) = some 0 := ⟨by decide +kernel, by decide +kernel, by decide +kernel⟩
def f_X9_drop (σ : St) : Option (St × Int32) :=
  if (gi σ 810 0) = 0 then (
    some (σ, (-2))
  ) else (
    bnd (si σ 810 0 ((gi σ 810 0) - 1)) fun s1 =>
    some (s1, gi s1 810 0)
  )
def rm_X9_tapePath : Room := { frames := 3, cells := 0, slots := 0, locals := 66 }
theorem q_X9_tapePath : yX9_tapePath.cls ≠ "java/lang/invoke/MethodHandle" ∧ yX9_tapePath.cls ≠ "java/lang/invoke/VarHandle" ∧ (parseMethodDescriptor yX9_tapePath.desc).map (fun d => d.parameters.length) = some 0 := ⟨by decide +kernel, by decide +kernel, by decide +kernel⟩
def f_X9_tapePath_46 (k20 : St → Int32 → Option (St × Int32)) (σ : St) (t0 : Int32) (t1 : Int32) (v1 : Int32) : Option (St × Int32) :=
  if t0 = t1 then (
    k20 σ (v1 + 1)
  ) else (
    some (σ, 0)
  )
def f_X9_tapePath_20 : Nat → St → Int32 → Option (St × Int32)
  | 0, _, _ => none
  | n + 1, σ, v1 =>
    if (gi σ 830 0) ≤ v1 then (
      some (σ, ((gi σ 830 0) + 1) / 2)
    ) else (
      ck v1 2001 fun j3 =>
      if (v1 - v1 / 2 * 2) = 0 then (
        f_X9_tapePath_46 (f_X9_tapePath_20 n) σ (ga σ 1 14 j3) 1 v1
      ) else (
        f_X9_tapePath_46 (f_X9_tapePath_20 n) σ (ga σ 1 14 j3) 46 v1
      )
    )
def f_X9_tapePath (σ : St) : Option (St × Int32) :=
  cl (f_X9_cut σ) fun s1 x2 =>
  if 0 ≤ x2 then (
    some (s1, 0)
  ) else (
    if ((gi s1 830 0) - (gi s1 830 0) / 2 * 2) = 0 then (
      some (s1, 0)
    ) else (
      f_X9_tapePath_20 fl s1 0
    )
  )
def rm_X9_find : Room := { frames := 4, cells := 0, slots := 0, locals := 87 }
theorem q_X9_find : yX9_find.cls ≠ "java/lang/invoke/MethodHandle" ∧ yX9_find.cls ≠ "java/lang/invoke/VarHandle" ∧ (parseMethodDescriptor yX9_find.desc).map (fun d => d.parameters.length) = some 1 := ⟨by decide +kernel, by decide +kernel, by decide +kernel⟩
def f_X9_find (σ : St) (a1 : Int32) : Option (St × Int32) :=
  cl (f_X9_tapePath σ) fun s1 x2 =>
  cl (f_X9_isVersion s1 a1) fun s3 x4 =>
  if x4 = 0 then (
    some (s3, (-1))
  ) else (
    if x2 = 0 then (
      some (s3, (-2))
    ) else (
      cl (f_X9_fieldOf s3 a1 0 x2) fun s5 x6 =>
      some (s5, x6)
    )
  )
def rm_X9_fits : Room := { frames := 0, cells := 0, slots := 0, locals := 0 }
theorem q_X9_fits : yX9_fits.cls ≠ "java/lang/invoke/MethodHandle" ∧ yX9_fits.cls ≠ "java/lang/invoke/VarHandle" ∧ (parseMethodDescriptor yX9_fits.desc).map (fun d => d.parameters.length) = some 2 := ⟨by decide +kernel, by decide +kernel, by decide +kernel⟩
def f_X9_fits_111 (k65 : St → Int32 → Int32 → Int32 → Int32 → Int32 → Int32 → Int32 → Option (St × Int32)) (σ : St) (t0 : Int32) (v1 : Int32) (v2 : Int32) (v3 : Int32) (v4 : Int32) (v5 : Int32) (v7 : Int32) : Option (St × Int32) :=
  k65 σ v1 v2 v3 v4 v5 t0 (v7 + 1)
def f_X9_fits_173 (k122 : St → Int32 → Int32 → Int32 → Int32 → Int32 → Int32 → Option (St × Int32)) (σ : St) (t0 : Int32) (v1 : Int32) (v2 : Int32) (v3 : Int32) (v5 : Int32) (v7 : Int32) : Option (St × Int32) :=
  k122 σ v1 v2 v3 v5 t0 (v7 + 1)
def f_X9_fits_122 : Nat → St → Int32 → Int32 → Int32 → Int32 → Int32 → Int32 → Option (St × Int32)
  | 0, _, _, _, _, _, _, _ => none
  | n + 1, σ, v1, v2, v3, v5, v6, v7 =>
    if v5 ≤ v7 then (
      cq (decide (v6 = 0 ∨ v6 = 1)) <| some (σ, v6)
    ) else (
      if v6 = 0 then (
        cq (decide (v6 = 0 ∨ v6 = 1)) <| some (σ, v6)
      ) else (
        ck v2 2001 fun j8 =>
        ck ((((ga σ 1 15 j8) + v3) - v5) + v7) 2000 fun j9 =>
        ck ((12 * v1) + v7) 768 fun j10 =>
        if (ga σ 2 0 j9) = (ga σ 2 6 j10) then (
          f_X9_fits_173 (f_X9_fits_122 n) σ 1 v1 v2 v3 v5 v7
        ) else (
          f_X9_fits_173 (f_X9_fits_122 n) σ 0 v1 v2 v3 v5 v7
        )
      )
    )
def f_X9_fits_119 (σ : St) (v1 : Int32) (v2 : Int32) (v3 : Int32) (v5 : Int32) (v6 : Int32) : Option (St × Int32) :=
  f_X9_fits_122 fl σ v1 v2 v3 v5 v6 0
def f_X9_fits_65 : Nat → St → Int32 → Int32 → Int32 → Int32 → Int32 → Int32 → Int32 → Option (St × Int32)
  | 0, _, _, _, _, _, _, _, _ => none
  | n + 1, σ, v1, v2, v3, v4, v5, v6, v7 =>
    if v4 ≤ v7 then (
      f_X9_fits_119 σ v1 v2 v3 v5 v6
    ) else (
      if v6 = 0 then (
        f_X9_fits_119 σ v1 v2 v3 v5 v6
      ) else (
        ck v2 2001 fun j5 =>
        ck ((ga σ 1 15 j5) + v7) 2000 fun j6 =>
        ck ((12 * v1) + v7) 768 fun j7 =>
        if (ga σ 2 0 j6) = (ga σ 2 5 j7) then (
          f_X9_fits_111 (f_X9_fits_65 n) σ 1 v1 v2 v3 v4 v5 v7
        ) else (
          f_X9_fits_111 (f_X9_fits_65 n) σ 0 v1 v2 v3 v4 v5 v7
        )
      )
    )
def f_X9_fits_60 (σ : St) (t0 : Int32) (v1 : Int32) (v2 : Int32) (v3 : Int32) (v4 : Int32) (v5 : Int32) : Option (St × Int32) :=
  f_X9_fits_65 fl σ v1 v2 v3 v4 v5 t0 0
def f_X9_fits (σ : St) (a1 : Int32) (a2 : Int32) : Option (St × Int32) :=
  ck a2 2001 fun j1 =>
  ck a1 64 fun j2 =>
  ck a1 64 fun j3 =>
  ck a1 64 fun j4 =>
  if (ga σ 4 0 j4) = 0 then (
    if (ga σ 1 16 j1) = (ga σ 1 11 j2) then (
      f_X9_fits_60 σ 1 a1 a2 (ga σ 1 16 j1) (ga σ 1 11 j2) (ga σ 1 12 j3)
    ) else (
      f_X9_fits_60 σ 0 a1 a2 (ga σ 1 16 j1) (ga σ 1 11 j2) (ga σ 1 12 j3)
    )
  ) else (
    if (ga σ 1 16 j1) < ((ga σ 1 11 j2) + (ga σ 1 12 j3)) then (
      f_X9_fits_60 σ 0 a1 a2 (ga σ 1 16 j1) (ga σ 1 11 j2) (ga σ 1 12 j3)
    ) else (
      f_X9_fits_60 σ 1 a1 a2 (ga σ 1 16 j1) (ga σ 1 11 j2) (ga σ 1 12 j3)
    )
  )
def rm_X9_suits : Room := { frames := 0, cells := 0, slots := 0, locals := 0 }
theorem q_X9_suits : yX9_suits.cls ≠ "java/lang/invoke/MethodHandle" ∧ yX9_suits.cls ≠ "java/lang/invoke/VarHandle" ∧ (parseMethodDescriptor yX9_suits.desc).map (fun d => d.parameters.length) = some 2 := ⟨by decide +kernel, by decide +kernel, by decide +kernel⟩
def f_X9_suits_44 (σ : St) (v1 : Int32) : Option (St × Int32) :=
  if v1 = 1 then (
    some (σ, 1)
  ) else (
    some (σ, 0)
  )
def f_X9_suits (σ : St) (a1 : Int32) (a2 : Int32) : Option (St × Int32) :=
  if a1 = 0 then (
    if 2 < a2 then (
      some (σ, 0)
    ) else (
      some (σ, 1)
    )
  ) else (
    if a1 = 1 then (
      if a2 = 0 then (
        some (σ, 1)
      ) else (
        some (σ, 0)
      )
    ) else (
      if a1 = 2 then (
        f_X9_suits_44 σ a2
      ) else (
        if a1 = 3 then (
          f_X9_suits_44 σ a2
        ) else (
          if a1 = 4 then (
            if a2 = 2 then (
              some (σ, 1)
            ) else (
              some (σ, 0)
            )
          ) else (
            if 6 < a1 then (
              some (σ, 0)
            ) else (
              if a2 = 3 then (
                some (σ, 1)
              ) else (
                some (σ, 0)
              )
            )
          )
        )
      )
    )
  )
def rm_X9_firstRule : Room := { frames := 1, cells := 0, slots := 0, locals := 27 }
theorem q_X9_firstRule : yX9_firstRule.cls ≠ "java/lang/invoke/MethodHandle" ∧ yX9_firstRule.cls ≠ "java/lang/invoke/VarHandle" ∧ (parseMethodDescriptor yX9_firstRule.desc).map (fun d => d.parameters.length) = some 3 := ⟨by decide +kernel, by decide +kernel, by decide +kernel⟩
def f_X9_firstRule_51 (k3 : St → Int32 → Int32 → Int32 → Int32 → Option (St × Int32)) (σ : St) (v1 : Int32) (v2 : Int32) (v3 : Int32) (v4 : Int32) : Option (St × Int32) :=
  k3 σ v1 v2 v3 (v4 + 1)
def f_X9_firstRule_3 : Nat → St → Int32 → Int32 → Int32 → Int32 → Option (St × Int32)
  | 0, _, _, _, _, _ => none
  | n + 1, σ, v1, v2, v3, v4 =>
    ck v1 8 fun j1 =>
    if (ga σ 1 1 j1) ≤ v4 then (
      some (σ, (-2))
    ) else (
      cl (f_X9_fits σ ((8 * v1) + v4) v2) fun s2 x3 =>
      if x3 = 0 then (
        f_X9_firstRule_51 (f_X9_firstRule_3 n) s2 v1 v2 v3 v4
      ) else (
        ck ((8 * v1) + v4) 64 fun j4 =>
        cl (f_X9_suits s2 (ga s2 1 13 j4) v3) fun s5 x6 =>
        if x6 = 0 then (
          f_X9_firstRule_51 (f_X9_firstRule_3 n) s5 v1 v2 v3 v4
        ) else (
          some (s5, v4)
        )
      )
    )
def f_X9_firstRule (σ : St) (a1 : Int32) (a2 : Int32) (a3 : Int32) : Option (St × Int32) :=
  f_X9_firstRule_3 fl σ a1 a2 a3 0
def rm_X9_rule_ : Room := { frames := 4, cells := 0, slots := 0, locals := 87 }
theorem q_X9_rule_ : yX9_rule_.cls ≠ "java/lang/invoke/MethodHandle" ∧ yX9_rule_.cls ≠ "java/lang/invoke/VarHandle" ∧ (parseMethodDescriptor yX9_rule_.desc).map (fun d => d.parameters.length) = some 2 := ⟨by decide +kernel, by decide +kernel, by decide +kernel⟩
def f_X9_rule_ (σ : St) (a1 : Int32) (a2 : Int32) : Option (St × Int32) :=
  cl (f_X9_tapePath σ) fun s1 x2 =>
  cl (f_X9_isVersion s1 a1) fun s3 x4 =>
  if x4 = 0 then (
    some (s3, (-1))
  ) else (
    cl (f_X9_in s3 a2 0 3) fun s5 x6 =>
    if x6 = 0 then (
      some (s5, (-1))
    ) else (
      if x2 = 1 then (
        cl (f_X9_firstRule s5 a1 0 a2) fun s7 x8 =>
        some (s7, x8)
      ) else (
        some (s5, (-2))
      )
    )
  )
def rm_X9_depthOf : Room := { frames := 0, cells := 0, slots := 0, locals := 0 }
theorem q_X9_depthOf : yX9_depthOf.cls ≠ "java/lang/invoke/MethodHandle" ∧ yX9_depthOf.cls ≠ "java/lang/invoke/VarHandle" ∧ (parseMethodDescriptor yX9_depthOf.desc).map (fun d => d.parameters.length) = some 2 := ⟨by decide +kernel, by decide +kernel, by decide +kernel⟩
def f_X9_depthOf_15 : Nat → St → Int32 → Int32 → Int32 → Option (St × Int32)
  | 0, _, _, _, _ => none
  | n + 1, σ, v1, v3, v4 =>
    if v4 = (-2) then (
      some (σ, v3)
    ) else (
      ck ((40 * v1) + v4) 320 fun j2 =>
      f_X9_depthOf_15 n σ v1 (v3 + 1) (ga σ 1 10 j2)
    )
def f_X9_depthOf (σ : St) (a1 : Int32) (a2 : Int32) : Option (St × Int32) :=
  ck ((40 * a1) + a2) 320 fun j1 =>
  f_X9_depthOf_15 fl σ a1 0 (ga σ 1 10 j1)
def rm_X9_copyField : Room := { frames := 0, cells := 0, slots := 0, locals := 0 }
theorem q_X9_copyField : yX9_copyField.cls ≠ "java/lang/invoke/MethodHandle" ∧ yX9_copyField.cls ≠ "java/lang/invoke/VarHandle" ∧ (parseMethodDescriptor yX9_copyField.desc).map (fun d => d.parameters.length) = some 2 := ⟨by decide +kernel, by decide +kernel, by decide +kernel⟩
def f_X9_copyField_62 : Nat → St → Int32 → Int32 → Int32 → Option (St × Unit)
  | 0, _, _, _, _ => none
  | n + 1, σ, v1, v2, v3 =>
    if 12 ≤ v3 then (
      some (σ, ())
    ) else (
      ck ((12 * v1) + v3) 3840 fun j16 =>
      ck ((12 * v2) + v3) 3840 fun j17 =>
      bnd (sa σ 2 3 j17 (vp_nar .byte (ga σ 2 3 j16))) fun s18 =>
      ck ((12 * v1) + v3) 3840 fun j19 =>
      ck ((12 * v2) + v3) 3840 fun j20 =>
      bnd (sa s18 2 4 j20 (vp_nar .byte (ga s18 2 4 j19))) fun s21 =>
      f_X9_copyField_62 n s21 v1 v2 (v3 + 1)
    )
def f_X9_copyField (σ : St) (a1 : Int32) (a2 : Int32) : Option (St × Unit) :=
  ck a1 320 fun j1 =>
  ck a2 320 fun j2 =>
  bnd (sa σ 1 3 j2 (ga σ 1 3 j1)) fun s3 =>
  ck a1 320 fun j4 =>
  ck a2 320 fun j5 =>
  bnd (sa s3 1 9 j5 (ga s3 1 9 j4)) fun s6 =>
  ck a1 320 fun j7 =>
  ck a2 320 fun j8 =>
  bnd (sa s6 1 4 j8 (ga s6 1 4 j7)) fun s9 =>
  ck a1 320 fun j10 =>
  ck a2 320 fun j11 =>
  bnd (sa s9 1 5 j11 (ga s9 1 5 j10)) fun s12 =>
  ck a1 320 fun j13 =>
  ck a2 320 fun j14 =>
  bnd (sa s12 1 6 j14 (ga s12 1 6 j13)) fun s15 =>
  f_X9_copyField_62 fl s15 a1 a2 0
def rm_X9_copyRule : Room := { frames := 0, cells := 0, slots := 0, locals := 0 }
theorem q_X9_copyRule : yX9_copyRule.cls ≠ "java/lang/invoke/MethodHandle" ∧ yX9_copyRule.cls ≠ "java/lang/invoke/VarHandle" ∧ (parseMethodDescriptor yX9_copyRule.desc).map (fun d => d.parameters.length) = some 2 := ⟨by decide +kernel, by decide +kernel, by decide +kernel⟩
def f_X9_copyRule_50 : Nat → St → Int32 → Int32 → Int32 → Option (St × Unit)
  | 0, _, _, _, _ => none
  | n + 1, σ, v1, v2, v3 =>
    if 12 ≤ v3 then (
      some (σ, ())
    ) else (
      ck ((12 * v1) + v3) 768 fun j13 =>
      ck ((12 * v2) + v3) 768 fun j14 =>
      bnd (sa σ 2 5 j14 (vp_nar .byte (ga σ 2 5 j13))) fun s15 =>
      ck ((12 * v1) + v3) 768 fun j16 =>
      ck ((12 * v2) + v3) 768 fun j17 =>
      bnd (sa s15 2 6 j17 (vp_nar .byte (ga s15 2 6 j16))) fun s18 =>
      f_X9_copyRule_50 n s18 v1 v2 (v3 + 1)
    )
def f_X9_copyRule (σ : St) (a1 : Int32) (a2 : Int32) : Option (St × Unit) :=
  ck a1 64 fun j1 =>
  ck a2 64 fun j2 =>
  bnd (sa σ 1 11 j2 (ga σ 1 11 j1)) fun s3 =>
  ck a1 64 fun j4 =>
  ck a2 64 fun j5 =>
  bnd (sa s3 1 12 j5 (ga s3 1 12 j4)) fun s6 =>
  ck a1 64 fun j7 =>
  ck a2 64 fun j8 =>
  bnd (sa s6 4 0 j8 (vp_nar .boolean (ga s6 4 0 j7))) fun s9 =>
  ck a1 64 fun j10 =>
  ck a2 64 fun j11 =>
  bnd (sa s9 1 13 j11 (ga s9 1 13 j10)) fun s12 =>
  f_X9_copyRule_50 fl s12 a1 a2 0
def rm_X9_isWithin : Room := { frames := 0, cells := 0, slots := 0, locals := 0 }
theorem q_X9_isWithin : yX9_isWithin.cls ≠ "java/lang/invoke/MethodHandle" ∧ yX9_isWithin.cls ≠ "java/lang/invoke/VarHandle" ∧ (parseMethodDescriptor yX9_isWithin.desc).map (fun d => d.parameters.length) = some 3 := ⟨by decide +kernel, by decide +kernel, by decide +kernel⟩
def f_X9_isWithin_33 (σ : St) (v3 : Int32) (v4 : Int32) : Option (St × Int32) :=
  if v4 = v3 then (
    some (σ, 1)
  ) else (
    some (σ, 0)
  )
def f_X9_isWithin_3 : Nat → St → Int32 → Int32 → Int32 → Option (St × Int32)
  | 0, _, _, _, _ => none
  | n + 1, σ, v1, v3, v4 =>
    if v4 = (-2) then (
      f_X9_isWithin_33 σ v3 v4
    ) else (
      if v4 = v3 then (
        f_X9_isWithin_33 σ v3 v4
      ) else (
        ck ((40 * v1) + v4) 320 fun j1 =>
        f_X9_isWithin_3 n σ v1 v3 (ga σ 1 10 j1)
      )
    )
def f_X9_isWithin (σ : St) (a1 : Int32) (a2 : Int32) (a3 : Int32) : Option (St × Int32) :=
  f_X9_isWithin_3 fl σ a1 a3 a2
def rm_X9_moved : Room := { frames := 0, cells := 0, slots := 0, locals := 0 }
theorem q_X9_moved : yX9_moved.cls ≠ "java/lang/invoke/MethodHandle" ∧ yX9_moved.cls ≠ "java/lang/invoke/VarHandle" ∧ (parseMethodDescriptor yX9_moved.desc).map (fun d => d.parameters.length) = some 2 := ⟨by decide +kernel, by decide +kernel, by decide +kernel⟩
def f_X9_moved (σ : St) (a1 : Int32) (a2 : Int32) : Option (St × Int32) :=
  if a1 = (-2) then (
    some (σ, a1)
  ) else (
    if a1 < a2 then (
      some (σ, a1)
    ) else (
      some (σ, a1 + 1)
    )
  )
def rm_X9_grown : Room := { frames := 1, cells := 0, slots := 0, locals := 24 }
theorem q_X9_grown : yX9_grown.cls ≠ "java/lang/invoke/MethodHandle" ∧ yX9_grown.cls ≠ "java/lang/invoke/VarHandle" ∧ (parseMethodDescriptor yX9_grown.desc).map (fun d => d.parameters.length) = some 4 := ⟨by decide +kernel, by decide +kernel, by decide +kernel⟩
def f_X9_grown_25 (k53 : St → Int32 → Int32 → Int32 → Int32 → Int32 → Int32 → Option (St × Unit)) : Nat → St → Int32 → Int32 → Int32 → Int32 → Int32 → Int32 → Option (St × Unit)
  | 0, _, _, _, _, _, _, _ => none
  | n + 1, σ, v1, v2, v3, v4, v5, v6 =>
    ck v1 8 fun j2 =>
    if (ga σ 1 0 j2) ≤ v6 then (
      k53 σ v1 v2 v3 v4 v5 v6
    ) else (
      cl (f_X9_isWithin σ v1 v6 v2) fun s3 x4 =>
      if x4 = 0 then (
        k53 s3 v1 v2 v3 v4 v5 v6
      ) else (
        f_X9_grown_25 k53 n s3 v1 v2 v3 v4 v5 (v6 + 1)
      )
    )
def f_X9_grown_266 : Nat → St → Int32 → Int32 → Int32 → Option (St × Unit)
  | 0, _, _, _, _ => none
  | n + 1, σ, v1, v5, v8 =>
    ck v5 8 fun j42 =>
    if (ga σ 1 1 j42) ≤ v8 then (
      some (σ, ())
    ) else (
      cl (f_X9_copyRule σ ((8 * v1) + v8) ((8 * v5) + v8)) fun s43 _u294 =>
      f_X9_grown_266 n s43 v1 v5 (v8 + 1)
    )
def f_X9_grown_97 : Nat → St → Int32 → Int32 → Int32 → Int32 → Int32 → Int32 → Int32 → Option (St × Unit)
  | 0, _, _, _, _, _, _, _, _ => none
  | n + 1, σ, v1, v2, v3, v4, v5, v6, v7 =>
    ck v1 8 fun j14 =>
    if (ga σ 1 0 j14) ≤ v7 then (
      cl (f_X9_begin σ ((40 * v5) + v6)) fun s15 _u216 =>
      ck v3 2001 fun j16 =>
      ck ((40 * v5) + v6) 320 fun j17 =>
      bnd (sa s15 1 3 j17 (ga s15 1 16 j16)) fun s18 =>
      cl (f_X9_copyName s18 v3 3 (12 * ((40 * v5) + v6))) fun s19 _u243 =>
      ck ((40 * v5) + v6) 320 fun j20 =>
      bnd (sa s19 1 4 j20 v4) fun s21 =>
      ck ((40 * v5) + v6) 320 fun j22 =>
      bnd (sa s21 1 10 j22 v2) fun s23 =>
      f_X9_grown_266 fl s23 v1 v5 0
    ) else (
      cl (f_X9_moved σ v7 v6) fun s24 x25 =>
      cl (f_X9_copyField s24 ((40 * v1) + v7) ((40 * v5) + x25)) fun s26 _u137 =>
      ck ((40 * v1) + v7) 320 fun j27 =>
      cl (f_X9_moved s26 (ga s26 1 10 j27) v6) fun s28 x29 =>
      ck ((40 * v5) + x25) 320 fun j30 =>
      bnd (sa s28 1 10 j30 x29) fun s31 =>
      ck ((40 * v1) + v7) 320 fun j32 =>
      cl (f_X9_moved s31 (ga s31 1 7 j32) v6) fun s33 x34 =>
      ck ((40 * v5) + x25) 320 fun j35 =>
      bnd (sa s33 1 7 j35 x34) fun s36 =>
      ck ((40 * v1) + v7) 320 fun j37 =>
      cl (f_X9_moved s36 (ga s36 1 8 j37) v6) fun s38 x39 =>
      ck ((40 * v5) + x25) 320 fun j40 =>
      bnd (sa s38 1 8 j40 x39) fun s41 =>
      f_X9_grown_97 n s41 v1 v2 v3 v4 v5 v6 (v7 + 1)
    )
def f_X9_grown_53 (σ : St) (v1 : Int32) (v2 : Int32) (v3 : Int32) (v4 : Int32) (v5 : Int32) (v6 : Int32) : Option (St × Unit) :=
  ck v1 8 fun j5 =>
  ck v5 8 fun j6 =>
  bnd (sa σ 1 0 j6 ((ga σ 1 0 j5) + 1)) fun s7 =>
  ck v1 8 fun j8 =>
  ck v5 8 fun j9 =>
  bnd (sa s7 1 1 j9 (ga s7 1 1 j8)) fun s10 =>
  ck v1 8 fun j11 =>
  ck v5 8 fun j12 =>
  bnd (sa s10 1 2 j12 (ga s10 1 2 j11)) fun s13 =>
  f_X9_grown_97 fl s13 v1 v2 v3 v4 v5 v6 0
def f_X9_grown (σ : St) (a1 : Int32) (a2 : Int32) (a3 : Int32) (a4 : Int32) : Option (St × Unit) :=
  ck a1 8 fun j1 =>
  if a2 = (-2) then (
    f_X9_grown_53 σ a1 a2 a3 a4 (gi σ 810 0) (ga σ 1 0 j1)
  ) else (
    f_X9_grown_25 (f_X9_grown_53) fl σ a1 a2 a3 a4 (gi σ 810 0) (a2 + 1)
  )
def rm_X9_grow : Room := { frames := 4, cells := 0, slots := 0, locals := 87 }
theorem q_X9_grow : yX9_grow.cls ≠ "java/lang/invoke/MethodHandle" ∧ yX9_grow.cls ≠ "java/lang/invoke/VarHandle" ∧ (parseMethodDescriptor yX9_grow.desc).map (fun d => d.parameters.length) = some 2 := ⟨by decide +kernel, by decide +kernel, by decide +kernel⟩
def f_X9_grow_158 (k163 : St → Int32 → Int32 → Int32 → Int32 → Int32 → Option (St × Int32)) (σ : St) (v1 : Int32) (v4 : Int32) (v5 : Int32) (v6 : Int32) : Option (St × Int32) :=
  k163 σ 1 v1 v4 v5 v6
def f_X9_grow_195 (σ : St) (v1 : Int32) (v4 : Int32) (v5 : Int32) (v6 : Int32) : Option (St × Int32) :=
  ck v1 8 fun j21 =>
  ck v1 8 fun j22 =>
  if (ga σ 1 0 j21) = (ga σ 1 2 j22) then (
    some (σ, (-2))
  ) else (
    if (gi σ 810 0) = 8 then (
      some (σ, (-3))
    ) else (
      ck ((8 * v1) + v6) 64 fun j23 =>
      cl (f_X9_grown σ v1 v4 v5 (ga σ 1 13 j23)) fun s24 _u243 =>
      bnd (si s24 810 0 ((gi s24 810 0) + 1)) fun s25 =>
      some (s25, (gi s25 810 0) - 1)
    )
  )
def f_X9_grow_163 (σ : St) (t0 : Int32) (v1 : Int32) (v4 : Int32) (v5 : Int32) (v6 : Int32) : Option (St × Int32) :=
  if t0 = 0 then (
    if v6 = (-2) then (
      some (σ, (-2))
    ) else (
      if v4 = (-2) then (
        f_X9_grow_195 σ v1 v4 v5 v6
      ) else (
        cl (f_X9_depthOf σ v1 v4) fun s19 x20 =>
        if x20 = 4 then (
          some (s19, (-2))
        ) else (
          f_X9_grow_195 s19 v1 v4 v5 v6
        )
      )
    )
  ) else (
    some (σ, (-2))
  )
def f_X9_grow_114 (σ : St) (v1 : Int32) (v2 : Int32) (v4 : Int32) : Option (St × Int32) :=
  cl (f_X9_firstRule σ v1 ((gi σ 830 0) - 1) v2) fun s13 x14 =>
  cl (f_X9_word s13 ((gi σ 830 0) - 1)) fun s15 x16 =>
  if (lg_cmp x16 (1920298085 : Int64)) = 0 then (
    f_X9_grow_158 (f_X9_grow_163) s15 v1 v4 ((gi σ 830 0) - 1) x14
  ) else (
    cl (f_X9_word s15 ((gi σ 830 0) - 1)) fun s17 x18 =>
    if (lg_cmp x18 (465625246068 : Int64)) = 0 then (
      f_X9_grow_158 (f_X9_grow_163) s17 v1 v4 ((gi σ 830 0) - 1) x14
    ) else (
      f_X9_grow_163 s17 0 v1 v4 ((gi σ 830 0) - 1) x14
    )
  )
def f_X9_grow_64 (σ : St) (t0 : Int32) (v1 : Int32) (v2 : Int32) (v3 : Int32) : Option (St × Int32) :=
  if v3 ≤ 1 then (
    f_X9_grow_114 σ v1 v2 t0
  ) else (
    if t0 = (-2) then (
      some (σ, (-2))
    ) else (
      ck ((40 * v1) + t0) 320 fun j11 =>
      if (ga σ 1 4 j11) = 5 then (
        f_X9_grow_114 σ v1 v2 t0
      ) else (
        ck ((40 * v1) + t0) 320 fun j12 =>
        if (ga σ 1 4 j12) = 6 then (
          f_X9_grow_114 σ v1 v2 t0
        ) else (
          some (σ, (-2))
        )
      )
    )
  )
def f_X9_grow (σ : St) (a1 : Int32) (a2 : Int32) : Option (St × Int32) :=
  cl (f_X9_tapePath σ) fun s1 x2 =>
  cl (f_X9_isVersion s1 a1) fun s3 x4 =>
  if x4 = 0 then (
    some (s3, (-1))
  ) else (
    cl (f_X9_in s3 a2 0 3) fun s5 x6 =>
    if x6 = 0 then (
      some (s5, (-1))
    ) else (
      if x2 = 0 then (
        some (s5, (-2))
      ) else (
        cl (f_X9_fieldOf s5 a1 0 x2) fun s7 x8 =>
        if x8 = (-2) then (
          if x2 = 1 then (
            f_X9_grow_64 s7 (-2) a1 a2 x2
          ) else (
            cl (f_X9_fieldOf s7 a1 0 (x2 - 1)) fun s9 x10 =>
            f_X9_grow_64 s9 x10 a1 a2 x2
          )
        ) else (
          some (s7, a1)
        )
      )
    )
  )
def rm_X9_isField : Room := { frames := 2, cells := 0, slots := 0, locals := 43 }
theorem q_X9_isField : yX9_isField.cls ≠ "java/lang/invoke/MethodHandle" ∧ yX9_isField.cls ≠ "java/lang/invoke/VarHandle" ∧ (parseMethodDescriptor yX9_isField.desc).map (fun d => d.parameters.length) = some 2 := ⟨by decide +kernel, by decide +kernel, by decide +kernel⟩
def f_X9_isField (σ : St) (a1 : Int32) (a2 : Int32) : Option (St × Int32) :=
  cl (f_X9_isVersion σ a1) fun s1 x2 =>
  if x2 = 0 then (
    some (s1, 0)
  ) else (
    ck a1 8 fun j3 =>
    cl (f_X9_in s1 a2 0 ((ga s1 1 0 j3) - 1)) fun s4 x5 =>
    if x5 = 0 then (
      some (s4, 0)
    ) else (
      some (s4, 1)
    )
  )
def rm_X9_field_ : Room := { frames := 3, cells := 0, slots := 0, locals := 65 }
theorem q_X9_field_ : yX9_field_.cls ≠ "java/lang/invoke/MethodHandle" ∧ yX9_field_.cls ≠ "java/lang/invoke/VarHandle" ∧ (parseMethodDescriptor yX9_field_.desc).map (fun d => d.parameters.length) = some 3 := ⟨by decide +kernel, by decide +kernel, by decide +kernel⟩
def f_X9_field__203 : Nat → St → Int32 → Int32 → Int32 → Int32 → Option (St × Int32)
  | 0, _, _, _, _, _ => none
  | n + 1, σ, v1, v4, v5, v6 =>
    ck v4 320 fun j15 =>
    if 4 < (ga σ 1 4 j15) then (
      some (σ, v5)
    ) else (
      if v6 = (-2) then (
        some (σ, v5)
      ) else (
        ck ((40 * v1) + v6) 320 fun j16 =>
        f_X9_field__203 n σ v1 v4 (v5 + 1) (ga σ 1 7 j16)
      )
    )
def f_X9_field__169 (k135 : St → Int32 → Int32 → Int32 → Int32 → Option (St × Int32)) (σ : St) (t0 : Int32) (t1 : Int32) (v1 : Int32) (v2 : Int32) (v6 : Int32) : Option (St × Int32) :=
  k135 σ v1 v2 (t0 + t1) (v6 + 1)
def f_X9_field__135 : Nat → St → Int32 → Int32 → Int32 → Int32 → Option (St × Int32)
  | 0, _, _, _, _, _ => none
  | n + 1, σ, v1, v2, v5, v6 =>
    ck v1 8 fun j17 =>
    if (ga σ 1 0 j17) ≤ v6 then (
      some (σ, v5)
    ) else (
      ck ((40 * v1) + v6) 320 fun j18 =>
      if (ga σ 1 10 j18) = v2 then (
        f_X9_field__169 (f_X9_field__135 n) σ v5 1 v1 v2 v6
      ) else (
        f_X9_field__169 (f_X9_field__135 n) σ v5 0 v1 v2 v6
      )
    )
def f_X9_field_ (σ : St) (a1 : Int32) (a2 : Int32) (a3 : Int32) : Option (St × Int32) :=
  cl (f_X9_isField σ a1 a2) fun s1 x2 =>
  if x2 = 0 then (
    some (s1, (-1))
  ) else (
    cl (f_X9_in s1 a3 0 9) fun s3 x4 =>
    if x4 = 0 then (
      some (s3, (-1))
    ) else (
      bnd (a3) fun x5 =>
      if x5 = 0 then (
        ck ((40 * a1) + a2) 320 fun j6 =>
        some (s3, ga s3 1 4 j6)
      ) else (
      if x5 = 1 then (
        ck ((40 * a1) + a2) 320 fun j7 =>
        some (s3, ga s3 1 5 j7)
      ) else (
      if x5 = 2 then (
        ck ((40 * a1) + a2) 320 fun j8 =>
        some (s3, ga s3 1 6 j8)
      ) else (
      if x5 = 3 then (
        ck ((40 * a1) + a2) 320 fun j9 =>
        some (s3, ga s3 1 7 j9)
      ) else (
      if x5 = 4 then (
        ck ((40 * a1) + a2) 320 fun j10 =>
        some (s3, ga s3 1 8 j10)
      ) else (
      if x5 = 5 then (
        ck ((40 * a1) + a2) 320 fun j11 =>
        some (s3, ga s3 1 10 j11)
      ) else (
      if x5 = 6 then (
        f_X9_field__135 fl s3 a1 a2 0 0
      ) else (
      if x5 = 7 then (
        cl (f_X9_spell s3 a1 a2 7) fun s12 x13 =>
        some (s12, x13)
      ) else (
      if x5 = 8 then (
        ck ((40 * a1) + a2) 320 fun j14 =>
        some (s3, ga s3 1 9 j14)
      ) else (
        f_X9_field__203 fl s3 a1 ((40 * a1) + a2) 0 a2
      )))))))))
    )
  )
def rm_X9_letter : Room := { frames := 3, cells := 0, slots := 0, locals := 65 }
theorem q_X9_letter : yX9_letter.cls ≠ "java/lang/invoke/MethodHandle" ∧ yX9_letter.cls ≠ "java/lang/invoke/VarHandle" ∧ (parseMethodDescriptor yX9_letter.desc).map (fun d => d.parameters.length) = some 3 := ⟨by decide +kernel, by decide +kernel, by decide +kernel⟩
def f_X9_letter (σ : St) (a1 : Int32) (a2 : Int32) (a3 : Int32) : Option (St × Int32) :=
  cl (f_X9_isField σ a1 a2) fun s1 x2 =>
  if x2 = 0 then (
    some (s1, (-1))
  ) else (
    cl (f_X9_spell s1 a1 a2 7) fun s3 x4 =>
    cl (f_X9_in s3 a3 0 (x4 - 1)) fun s5 x6 =>
    if x6 = 0 then (
      some (s5, (-1))
    ) else (
      ck a3 128 fun j7 =>
      some (s5, ga s5 2 7 j7)
    )
  )
def rm_X9_leaf : Room := { frames := 3, cells := 0, slots := 0, locals := 65 }
theorem q_X9_leaf : yX9_leaf.cls ≠ "java/lang/invoke/MethodHandle" ∧ yX9_leaf.cls ≠ "java/lang/invoke/VarHandle" ∧ (parseMethodDescriptor yX9_leaf.desc).map (fun d => d.parameters.length) = some 2 := ⟨by decide +kernel, by decide +kernel, by decide +kernel⟩
def f_X9_leaf (σ : St) (a1 : Int32) (a2 : Int32) : Option (St × Int32) :=
  cl (f_X9_isField σ a1 a2) fun s1 x2 =>
  if x2 = 0 then (
    some (s1, (-1))
  ) else (
    ck ((40 * a1) + a2) 320 fun j3 =>
    if 4 < (ga s1 1 4 j3) then (
      ck ((40 * a1) + a2) 320 fun j4 =>
      if (ga s1 1 4 j4) = 7 then (
        ck ((40 * a1) + a2) 320 fun j5 =>
        some (s1, ga s1 1 8 j5)
      ) else (
        some (s1, (-2))
      )
    ) else (
      some (s1, a2)
    )
  )
def rm_X9_put : Room := { frames := 0, cells := 0, slots := 0, locals := 0 }
theorem q_X9_put : yX9_put.cls ≠ "java/lang/invoke/MethodHandle" ∧ yX9_put.cls ≠ "java/lang/invoke/VarHandle" ∧ (parseMethodDescriptor yX9_put.desc).map (fun d => d.parameters.length) = some 1 := ⟨by decide +kernel, by decide +kernel, by decide +kernel⟩
def f_X9_put (σ : St) (a1 : Int32) : Option (St × Unit) :=
  ck (gi σ 808 0) 20000 fun j1 =>
  bnd (sa σ 2 2 j1 (vp_nar .byte (Int8.toInt32 (Int32.toInt8 a1)))) fun s2 =>
  bnd (si s2 808 0 ((gi s2 808 0) + 1)) fun s3 =>
  some (s3, ())
def rm_X9_putWord : Room := { frames := 1, cells := 0, slots := 0, locals := 21 }
theorem q_X9_putWord : yX9_putWord.cls ≠ "java/lang/invoke/MethodHandle" ∧ yX9_putWord.cls ≠ "java/lang/invoke/VarHandle" ∧ (parseMethodDescriptor yX9_putWord.desc).map (fun d => d.parameters.length) = some 1 := ⟨by decide +kernel, by decide +kernel, by decide +kernel⟩
def f_X9_putWord_28 (k3 : St → Int64 → Int32 → Option (St × Unit)) (σ : St) (v1 : Int64) (v3 : Int32) : Option (St × Unit) :=
  k3 σ v1 (v3 + (-8))
def f_X9_putWord_3 : Nat → St → Int64 → Int32 → Option (St × Unit)
  | 0, _, _, _ => none
  | n + 1, σ, v1, v3 =>
    if v3 < 0 then (
      some (σ, ())
    ) else (
      bnd (Int64.toInt32 ((v1 >>> (Int32.toInt64 v3 &&& 63)) &&& (255 : Int64))) fun x1 =>
      if x1 = 0 then (
        f_X9_putWord_28 (f_X9_putWord_3 n) σ v1 v3
      ) else (
        cl (f_X9_put σ x1) fun s2 _u25 =>
        f_X9_putWord_28 (f_X9_putWord_3 n) s2 v1 v3
      )
    )
def f_X9_putWord (σ : St) (a1 : Int64) : Option (St × Unit) :=
  f_X9_putWord_3 fl σ a1 56
def rm_X9_putBytes : Room := { frames := 1, cells := 0, slots := 0, locals := 21 }
theorem q_X9_putBytes : yX9_putBytes.cls ≠ "java/lang/invoke/MethodHandle" ∧ yX9_putBytes.cls ≠ "java/lang/invoke/VarHandle" ∧ (parseMethodDescriptor yX9_putBytes.desc).map (fun d => d.parameters.length) = some 3 := ⟨by decide +kernel, by decide +kernel, by decide +kernel⟩
def f_X9_putBytes_3 : Nat → St → Nat → Int32 → Int32 → Int32 → Option (St × Unit)
  | 0, _, _, _, _, _ => none
  | n + 1, σ, v1, v2, v3, v4 =>
    if v3 ≤ v4 then (
      some (σ, ())
    ) else (
      ck (v2 + v4) (lenMb.getD v1 0) fun j1 =>
      cl (f_X9_put σ (ga σ 2 v1 j1)) fun s2 _u16 =>
      f_X9_putBytes_3 n s2 v1 v2 v3 (v4 + 1)
    )
def f_X9_putBytes (σ : St) (a1 : Nat) (a2 : Int32) (a3 : Int32) : Option (St × Unit) :=
  f_X9_putBytes_3 fl σ a1 a2 a3 0
def rm_X9_putNumber : Room := { frames := 1, cells := 0, slots := 0, locals := 21 }
theorem q_X9_putNumber : yX9_putNumber.cls ≠ "java/lang/invoke/MethodHandle" ∧ yX9_putNumber.cls ≠ "java/lang/invoke/VarHandle" ∧ (parseMethodDescriptor yX9_putNumber.desc).map (fun d => d.parameters.length) = some 1 := ⟨by decide +kernel, by decide +kernel, by decide +kernel⟩
def f_X9_putNumber_22 : Nat → St → Int32 → Int32 → Option (St × Unit)
  | 0, _, _, _ => none
  | n + 1, σ, v1, v2 =>
    if v2 ≤ 0 then (
      some (σ, ())
    ) else (
      cq (decide (¬ v2 = 0)) <|
      cl (f_X9_put σ (48 + ((v1 / v2) - (v1 / v2) / 10 * 10))) fun s1 _u36 =>
      f_X9_putNumber_22 n s1 v1 (v2 / 10)
    )
def f_X9_putNumber_4 : Nat → St → Int32 → Int32 → Option (St × Unit)
  | 0, _, _, _ => none
  | n + 1, σ, v1, v2 =>
    if v2 ≤ 1 then (
      f_X9_putNumber_22 fl σ v1 v2
    ) else (
      if v2 ≤ v1 then (
        f_X9_putNumber_22 fl σ v1 v2
      ) else (
        f_X9_putNumber_4 n σ v1 (v2 / 10)
      )
    )
def f_X9_putNumber (σ : St) (a1 : Int32) : Option (St × Unit) :=
  f_X9_putNumber_4 fl σ a1 100000
def rm_X9_putPath : Room := { frames := 2, cells := 0, slots := 0, locals := 45 }
theorem q_X9_putPath : yX9_putPath.cls ≠ "java/lang/invoke/MethodHandle" ∧ yX9_putPath.cls ≠ "java/lang/invoke/VarHandle" ∧ (parseMethodDescriptor yX9_putPath.desc).map (fun d => d.parameters.length) = some 2 := ⟨by decide +kernel, by decide +kernel, by decide +kernel⟩
def f_X9_putPath (σ : St) (a1 : Int32) (a2 : Int32) : Option (St × Unit) :=
  cl (f_X9_spell σ a1 a2 7) fun s1 x2 =>
  bnd (si s1 850 0 x2) fun s3 =>
  cl (f_X9_putBytes s3 7 0 (gi s3 850 0)) fun s4 _u24 =>
  some (s4, ())
def rm_X9_putOptions : Room := { frames := 3, cells := 0, slots := 0, locals := 67 }
theorem q_X9_putOptions : yX9_putOptions.cls ≠ "java/lang/invoke/MethodHandle" ∧ yX9_putOptions.cls ≠ "java/lang/invoke/VarHandle" ∧ (parseMethodDescriptor yX9_putOptions.desc).map (fun d => d.parameters.length) = some 2 := ⟨by decide +kernel, by decide +kernel, by decide +kernel⟩
def f_X9_putOptions_122 (k152 : St → Int32 → Int32 → Int32 → Int32 → Option (St × Unit)) (σ : St) (t1 : Int32) (t2 : Int32) (v1 : Int32) (v2 : Int32) (v3 : Int32) (v4 : Int32) : Option (St × Unit) :=
  cl (f_X9_putPath σ t1 t2) fun s13 _u122 =>
  k152 s13 v1 v2 v3 v4
def f_X9_putOptions_99 (k152 : St → Int32 → Int32 → Int32 → Int32 → Option (St × Unit)) (σ : St) (v1 : Int32) (v2 : Int32) (v3 : Int32) (v4 : Int32) : Option (St × Unit) :=
  if v4 = 4 then (
    ck v2 320 fun j12 =>
    f_X9_putOptions_122 k152 σ v1 (ga σ 1 7 j12) v1 v2 v3 v4
  ) else (
    ck v2 320 fun j11 =>
    f_X9_putOptions_122 k152 σ v1 (ga σ 1 8 j11) v1 v2 v3 v4
  )
def f_X9_putOptions_67 (k152 : St → Int32 → Int32 → Int32 → Int32 → Option (St × Unit)) (σ : St) (v1 : Int32) (v2 : Int32) (v3 : Int32) (v4 : Int32) : Option (St × Unit) :=
  if v4 = 3 then (
    ck v2 320 fun j9 =>
    cl (f_X9_putNumber σ (ga σ 1 6 j9)) fun s10 _u80 =>
    k152 s10 v1 v2 v3 v4
  ) else (
    if v4 = 4 then (
      f_X9_putOptions_99 k152 σ v1 v2 v3 v4
    ) else (
      if v4 = 6 then (
        f_X9_putOptions_99 k152 σ v1 v2 v3 v4
      ) else (
        if v4 = 5 then (
          ck v2 320 fun j7 =>
          cl (f_X9_putBytes σ 4 (12 * v2) (ga σ 1 9 j7)) fun s8 _u149 =>
          k152 s8 v1 v2 v3 v4
        ) else (
          k152 σ v1 v2 v3 v4
        )
      )
    )
  )
def f_X9_putOptions_39 (k152 : St → Int32 → Int32 → Int32 → Int32 → Option (St × Unit)) (σ : St) (t1 : Int32) (v1 : Int32) (v2 : Int32) (v4 : Int32) : Option (St × Unit) :=
  cl (f_X9_put σ t1) fun s3 _u39 =>
  ck v4 7 fun j4 =>
  cl (f_X9_putWord s3 (wdM 1 j4)) fun s5 _u52 =>
  if v4 ≤ 2 then (
    f_X9_putOptions_67 k152 s5 v1 v2 0 v4
  ) else (
    cl (f_X9_put s5 61) fun s6 _u64 =>
    f_X9_putOptions_67 k152 s6 v1 v2 0 v4
  )
def f_X9_putOptions_152 (k5 : St → Int32 → Int32 → Int32 → Int32 → Option (St × Unit)) (σ : St) (v1 : Int32) (v2 : Int32) (v3 : Int32) (v4 : Int32) : Option (St × Unit) :=
  k5 σ v1 v2 v3 (v4 + 1)
def f_X9_putOptions_5 : Nat → St → Int32 → Int32 → Int32 → Int32 → Option (St × Unit)
  | 0, _, _, _, _, _ => none
  | n + 1, σ, v1, v2, v3, v4 =>
    if 7 ≤ v4 then (
      if v3 = 0 then (
        cl (f_X9_put σ 41) fun s1 _u165 =>
        some (s1, ())
      ) else (
        some (σ, ())
      )
    ) else (
      ck v2 320 fun j2 =>
      if (((ga σ 1 5 j2) >>> (v4 &&& 31)) &&& 1) = 1 then (
        if v3 = 0 then (
          f_X9_putOptions_39 (f_X9_putOptions_152 (f_X9_putOptions_5 n)) σ 44 v1 v2 v4
        ) else (
          f_X9_putOptions_39 (f_X9_putOptions_152 (f_X9_putOptions_5 n)) σ 40 v1 v2 v4
        )
      ) else (
        f_X9_putOptions_152 (f_X9_putOptions_5 n) σ v1 v2 v3 v4
      )
    )
def f_X9_putOptions (σ : St) (a1 : Int32) (a2 : Int32) : Option (St × Unit) :=
  f_X9_putOptions_5 fl σ a1 a2 1 0
def rm_X9_print : Room := { frames := 4, cells := 0, slots := 0, locals := 91 }
theorem q_X9_print : yX9_print.cls ≠ "java/lang/invoke/MethodHandle" ∧ yX9_print.cls ≠ "java/lang/invoke/VarHandle" ∧ (parseMethodDescriptor yX9_print.desc).map (fun d => d.parameters.length) = some 1 := ⟨by decide +kernel, by decide +kernel, by decide +kernel⟩
def f_X9_print_149 (k173 : St → Int32 → Int32 → Int32 → Option (St × Int32)) : Nat → St → Int32 → Int32 → Int32 → Int32 → Option (St × Int32)
  | 0, _, _, _, _, _ => none
  | n + 1, σ, v2, v3, v4, v6 =>
    if v3 ≤ v6 then (
      k173 σ v2 v3 v4
    ) else (
      cl (f_X9_put σ 125) fun s32 _u158 =>
      cl (f_X9_put s32 59) fun s33 _u164 =>
      f_X9_print_149 k173 n s33 v2 (v3 + (-1)) v4 v6
    )
def f_X9_print_173 (k22 : St → Int32 → Int32 → Int32 → Option (St × Int32)) (σ : St) (v2 : Int32) (v3 : Int32) (v4 : Int32) : Option (St × Int32) :=
  k22 σ v2 v3 (v4 + 1)
def f_X9_print_117 (k22 : St → Int32 → Int32 → Int32 → Option (St × Int32)) (σ : St) (t0 : Int32) (v2 : Int32) (v3 : Int32) (v4 : Int32) : Option (St × Int32) :=
  cl (f_X9_depthOf σ v2 v4) fun s15 x16 =>
  if t0 ≤ x16 then (
    cl (f_X9_put s15 59) fun s17 _u146 =>
    f_X9_print_149 (f_X9_print_173 k22) fl s17 v2 v3 v4 t0
  ) else (
    cl (f_X9_put s15 123) fun s18 _u134 =>
    f_X9_print_173 k22 s18 v2 (v3 + 1) v4
  )
def f_X9_print_251 (k182 : St → Int32 → Int32 → Option (St × Int32)) (σ : St) (v2 : Int32) (v4 : Int32) (v5 : Int32) : Option (St × Int32) :=
  ck v5 64 fun j34 =>
  cl (f_X9_putBytes σ 6 (12 * v5) (ga σ 1 12 j34)) fun s35 _u268 =>
  cl (f_X9_put s35 58) fun s36 _u274 =>
  ck v5 64 fun j37 =>
  ck (ga s36 1 13 j37) 8 fun j38 =>
  cl (f_X9_putWord s36 (wdM 0 j38)) fun s39 _u290 =>
  cl (f_X9_put s39 59) fun s40 _u296 =>
  k182 s40 v2 (v4 + 1)
def f_X9_print_369 : Nat → St → Int32 → Option (St × Int32)
  | 0, _, _ => none
  | n + 1, σ, v4 =>
    if (gi σ 808 0) ≤ v4 then (
      some (σ, gi σ 806 0)
    ) else (
      ck v4 20000 fun j42 =>
      ck v4 4000 fun j43 =>
      bnd (sa σ 2 1 j43 (vp_nar .byte (ga σ 2 2 j42))) fun s44 =>
      f_X9_print_369 n s44 (v4 + 1)
    )
def f_X9_print_345 (σ : St) : Option (St × Int32) :=
  if (gi σ 808 0) ≤ 4000 then (
    bnd (si σ 806 0 (gi σ 808 0)) fun s41 =>
    f_X9_print_369 fl s41 0
  ) else (
    some (σ, (-3))
  )
def f_X9_print_182 : Nat → St → Int32 → Int32 → Option (St × Int32)
  | 0, _, _, _ => none
  | n + 1, σ, v2, v4 =>
    ck v2 8 fun j19 =>
    if (ga σ 1 1 j19) ≤ v4 then (
      ck v2 8 fun j20 =>
      if (ga σ 1 2 j20) = 40 then (
        f_X9_print_345 σ
      ) else (
        cl (f_X9_putWord σ (465625246068 : Int64)) fun s21 _u320 =>
        cl (f_X9_put s21 32) fun s22 _u326 =>
        ck v2 8 fun j23 =>
        cl (f_X9_putNumber s22 (ga s22 1 2 j23)) fun s24 _u336 =>
        cl (f_X9_put s24 59) fun s25 _u342 =>
        f_X9_print_345 s25
      )
    ) else (
      cl (f_X9_putWord σ (1920298085 : Int64)) fun s26 _u206 =>
      cl (f_X9_put s26 32) fun s27 _u212 =>
      ck ((8 * v2) + v4) 64 fun j28 =>
      cl (f_X9_putBytes s27 5 (12 * ((8 * v2) + v4)) (ga s27 1 11 j28)) fun s29 _u232 =>
      ck ((8 * v2) + v4) 64 fun j30 =>
      if (ga s29 4 0 j30) = 0 then (
        f_X9_print_251 (f_X9_print_182 n) s29 v2 v4 ((8 * v2) + v4)
      ) else (
        cl (f_X9_put s29 42) fun s31 _u248 =>
        f_X9_print_251 (f_X9_print_182 n) s31 v2 v4 ((8 * v2) + v4)
      )
    )
def f_X9_print_22 : Nat → St → Int32 → Int32 → Int32 → Option (St × Int32)
  | 0, _, _, _, _ => none
  | n + 1, σ, v2, v3, v4 =>
    ck v2 8 fun j4 =>
    if (ga σ 1 0 j4) ≤ v4 then (
      f_X9_print_182 fl σ v2 0
    ) else (
      ck ((40 * v2) + v4) 320 fun j5 =>
      cl (f_X9_putBytes σ 3 (12 * ((40 * v2) + v4)) (ga σ 1 3 j5)) fun s6 _u59 =>
      cl (f_X9_put s6 58) fun s7 _u65 =>
      ck ((40 * v2) + v4) 320 fun j8 =>
      ck (ga s7 1 4 j8) 8 fun j9 =>
      cl (f_X9_putWord s7 (wdM 0 j9)) fun s10 _u81 =>
      cl (f_X9_putOptions s10 v2 ((40 * v2) + v4)) fun s11 _u88 =>
      ck v2 8 fun j12 =>
      if (ga s11 1 0 j12) ≤ (v4 + 1) then (
        f_X9_print_117 (f_X9_print_22 n) s11 0 v2 v3 v4
      ) else (
        cl (f_X9_depthOf s11 v2 (v4 + 1)) fun s13 x14 =>
        f_X9_print_117 (f_X9_print_22 n) s13 x14 v2 v3 v4
      )
    )
def f_X9_print (σ : St) (a1 : Int32) : Option (St × Int32) :=
  cl (f_X9_isVersion σ a1) fun s1 x2 =>
  if x2 = 0 then (
    some (s1, (-1))
  ) else (
    bnd (si s1 808 0 0) fun s3 =>
    f_X9_print_22 fl s3 a1 0 0
  )
def rm_X9_out : Room := { frames := 1, cells := 0, slots := 0, locals := 22 }
theorem q_X9_out : yX9_out.cls ≠ "java/lang/invoke/MethodHandle" ∧ yX9_out.cls ≠ "java/lang/invoke/VarHandle" ∧ (parseMethodDescriptor yX9_out.desc).map (fun d => d.parameters.length) = some 1 := ⟨by decide +kernel, by decide +kernel, by decide +kernel⟩
def f_X9_out (σ : St) (a1 : Int32) : Option (St × Int32) :=
  cl (f_X9_in σ a1 0 ((gi σ 806 0) - 1)) fun s1 x2 =>
  if x2 = 0 then (
    some (s1, (-1))
  ) else (
    ck a1 4000 fun j3 =>
    some (s1, ga s1 2 1 j3)
  )
def rm_X9_take : Room := { frames := 0, cells := 0, slots := 0, locals := 0 }
theorem q_X9_take : yX9_take.cls ≠ "java/lang/invoke/MethodHandle" ∧ yX9_take.cls ≠ "java/lang/invoke/VarHandle" ∧ (parseMethodDescriptor yX9_take.desc).map (fun d => d.parameters.length) = some 0 := ⟨by decide +kernel, by decide +kernel, by decide +kernel⟩
def f_X9_take_23 : Nat → St → Int32 → Option (St × Int32)
  | 0, _, _ => none
  | n + 1, σ, v1 =>
    if (gi σ 806 0) ≤ v1 then (
      some (σ, gi σ 806 0)
    ) else (
      ck v1 4000 fun j2 =>
      ck v1 2000 fun j3 =>
      bnd (sa σ 2 0 j3 (vp_nar .byte (ga σ 2 1 j2))) fun s4 =>
      f_X9_take_23 n s4 (v1 + 1)
    )
def f_X9_take (σ : St) : Option (St × Int32) :=
  if (gi σ 806 0) ≤ 2000 then (
    bnd (si σ 803 0 (gi σ 806 0)) fun s1 =>
    f_X9_take_23 fl s1 0
  ) else (
    some (σ, (-3))
  )
def rm_X9_compare : Room := { frames := 1, cells := 0, slots := 0, locals := 28 }
theorem q_X9_compare : yX9_compare.cls ≠ "java/lang/invoke/MethodHandle" ∧ yX9_compare.cls ≠ "java/lang/invoke/VarHandle" ∧ (parseMethodDescriptor yX9_compare.desc).map (fun d => d.parameters.length) = some 4 := ⟨by decide +kernel, by decide +kernel, by decide +kernel⟩
def f_X9_compare_89 (σ : St) : Option (St × Int32) :=
  some (σ, (gi σ 850 0) - (gi σ 852 0))
def f_X9_compare_32 : Nat → St → Int32 → Option (St × Int32)
  | 0, _, _ => none
  | n + 1, σ, v5 =>
    if (gi σ 850 0) ≤ v5 then (
      f_X9_compare_89 σ
    ) else (
      if (gi σ 852 0) ≤ v5 then (
        f_X9_compare_89 σ
      ) else (
        ck v5 128 fun j7 =>
        ck v5 128 fun j8 =>
        if (ga σ 2 7 j7) = (ga σ 2 8 j8) then (
          f_X9_compare_32 n σ (v5 + 1)
        ) else (
          ck v5 128 fun j9 =>
          ck v5 128 fun j10 =>
          some (σ, (ga σ 2 7 j9) - (ga σ 2 8 j10))
        )
      )
    )
def f_X9_compare (σ : St) (a1 : Int32) (a2 : Int32) (a3 : Int32) (a4 : Int32) : Option (St × Int32) :=
  cl (f_X9_spell σ a1 a2 7) fun s1 x2 =>
  bnd (si s1 850 0 x2) fun s3 =>
  cl (f_X9_spell s3 a3 a4 8) fun s4 x5 =>
  bnd (si s4 852 0 x5) fun s6 =>
  f_X9_compare_32 fl s6 0
def rm_X9_twin : Room := { frames := 2, cells := 0, slots := 0, locals := 53 }
theorem q_X9_twin : yX9_twin.cls ≠ "java/lang/invoke/MethodHandle" ∧ yX9_twin.cls ≠ "java/lang/invoke/VarHandle" ∧ (parseMethodDescriptor yX9_twin.desc).map (fun d => d.parameters.length) = some 3 := ⟨by decide +kernel, by decide +kernel, by decide +kernel⟩
def f_X9_twin_3 : Nat → St → Int32 → Int32 → Int32 → Int32 → Option (St × Int32)
  | 0, _, _, _, _, _ => none
  | n + 1, σ, v1, v2, v3, v4 =>
    ck v3 8 fun j1 =>
    if (ga σ 1 0 j1) ≤ v4 then (
      some (σ, (-2))
    ) else (
      cl (f_X9_compare σ v1 v2 v3 v4) fun s2 x3 =>
      if x3 = 0 then (
        some (s2, v4)
      ) else (
        f_X9_twin_3 n s2 v1 v2 v3 (v4 + 1)
      )
    )
def f_X9_twin (σ : St) (a1 : Int32) (a2 : Int32) (a3 : Int32) : Option (St × Int32) :=
  f_X9_twin_3 fl σ a1 a2 a3 0
def rm_X9_isSamePath : Room := { frames := 2, cells := 0, slots := 0, locals := 53 }
theorem q_X9_isSamePath : yX9_isSamePath.cls ≠ "java/lang/invoke/MethodHandle" ∧ yX9_isSamePath.cls ≠ "java/lang/invoke/VarHandle" ∧ (parseMethodDescriptor yX9_isSamePath.desc).map (fun d => d.parameters.length) = some 4 := ⟨by decide +kernel, by decide +kernel, by decide +kernel⟩
def f_X9_isSamePath_13 (σ : St) (v2 : Int32) (v4 : Int32) : Option (St × Int32) :=
  if v2 = v4 then (
    some (σ, 1)
  ) else (
    some (σ, 0)
  )
def f_X9_isSamePath (σ : St) (a1 : Int32) (a2 : Int32) (a3 : Int32) (a4 : Int32) : Option (St × Int32) :=
  if a2 = (-2) then (
    f_X9_isSamePath_13 σ a2 a4
  ) else (
    if a4 = (-2) then (
      f_X9_isSamePath_13 σ a2 a4
    ) else (
      cl (f_X9_compare σ a1 a2 a3 a4) fun s1 x2 =>
      if x2 = 0 then (
        some (s1, 1)
      ) else (
        some (s1, 0)
      )
    )
  )
def rm_X9_isSameBy : Room := { frames := 0, cells := 0, slots := 0, locals := 0 }
theorem q_X9_isSameBy : yX9_isSameBy.cls ≠ "java/lang/invoke/MethodHandle" ∧ yX9_isSameBy.cls ≠ "java/lang/invoke/VarHandle" ∧ (parseMethodDescriptor yX9_isSameBy.desc).map (fun d => d.parameters.length) = some 2 := ⟨by decide +kernel, by decide +kernel, by decide +kernel⟩
def f_X9_isSameBy_71 (k24 : St → Int32 → Int32 → Int32 → Int32 → Option (St × Int32)) (σ : St) (t0 : Int32) (v1 : Int32) (v2 : Int32) (v4 : Int32) : Option (St × Int32) :=
  k24 σ v1 v2 t0 (v4 + 1)
def f_X9_isSameBy_24 : Nat → St → Int32 → Int32 → Int32 → Int32 → Option (St × Int32)
  | 0, _, _, _, _, _ => none
  | n + 1, σ, v1, v2, v3, v4 =>
    ck v1 320 fun j3 =>
    if (ga σ 1 9 j3) ≤ v4 then (
      cq (decide (v3 = 0 ∨ v3 = 1)) <| some (σ, v3)
    ) else (
      if v3 = 0 then (
        cq (decide (v3 = 0 ∨ v3 = 1)) <| some (σ, v3)
      ) else (
        ck ((12 * v1) + v4) 3840 fun j4 =>
        ck ((12 * v2) + v4) 3840 fun j5 =>
        if (ga σ 2 4 j4) = (ga σ 2 4 j5) then (
          f_X9_isSameBy_71 (f_X9_isSameBy_24 n) σ 1 v1 v2 v4
        ) else (
          f_X9_isSameBy_71 (f_X9_isSameBy_24 n) σ 0 v1 v2 v4
        )
      )
    )
def f_X9_isSameBy_20 (σ : St) (t0 : Int32) (v1 : Int32) (v2 : Int32) : Option (St × Int32) :=
  f_X9_isSameBy_24 fl σ v1 v2 t0 0
def f_X9_isSameBy (σ : St) (a1 : Int32) (a2 : Int32) : Option (St × Int32) :=
  ck a1 320 fun j1 =>
  ck a2 320 fun j2 =>
  if (ga σ 1 9 j1) = (ga σ 1 9 j2) then (
    f_X9_isSameBy_20 σ 1 a1 a2
  ) else (
    f_X9_isSameBy_20 σ 0 a1 a2
  )
def rm_X9_code : Room := { frames := 3, cells := 0, slots := 0, locals := 77 }
theorem q_X9_code : yX9_code.cls ≠ "java/lang/invoke/MethodHandle" ∧ yX9_code.cls ≠ "java/lang/invoke/VarHandle" ∧ (parseMethodDescriptor yX9_code.desc).map (fun d => d.parameters.length) = some 4 := ⟨by decide +kernel, by decide +kernel, by decide +kernel⟩
def f_X9_code_112 (k113 : St → Int32 → Int32 → Int32 → Int32 → Int32 → Option (St × Int32)) (σ : St) (v1 : Int32) (v3 : Int32) (v5 : Int32) (v6 : Int32) : Option (St × Int32) :=
  k113 σ 0 v1 v3 v5 v6
def f_X9_code_113 (σ : St) (t0 : Int32) (v1 : Int32) (v3 : Int32) (v5 : Int32) (v6 : Int32) : Option (St × Int32) :=
  if t0 = 0 then (
    some (σ, 3)
  ) else (
    ck v5 320 fun j11 =>
    ck v6 320 fun j12 =>
    cl (f_X9_isSamePath σ v1 (ga σ 1 7 j11) v3 (ga σ 1 7 j12)) fun s13 x14 =>
    if x14 = 0 then (
      some (s13, 3)
    ) else (
      ck v5 320 fun j15 =>
      ck v6 320 fun j16 =>
      cl (f_X9_isSamePath s13 v1 (ga s13 1 8 j15) v3 (ga s13 1 8 j16)) fun s17 x18 =>
      if x18 = 0 then (
        some (s17, 3)
      ) else (
        some (s17, 0)
      )
    )
  )
def f_X9_code (σ : St) (a1 : Int32) (a2 : Int32) (a3 : Int32) (a4 : Int32) : Option (St × Int32) :=
  ck ((40 * a1) + a2) 320 fun j1 =>
  ck ((40 * a3) + a4) 320 fun j2 =>
  if (ga σ 1 4 j1) = (ga σ 1 4 j2) then (
    ck ((40 * a1) + a2) 320 fun j3 =>
    ck ((40 * a3) + a4) 320 fun j4 =>
    if ((ga σ 1 5 j3) &&& 6) = ((ga σ 1 5 j4) &&& 6) then (
      cl (f_X9_isSameBy σ ((40 * a1) + a2) ((40 * a3) + a4)) fun s5 x6 =>
      if x6 = 0 then (
        some (s5, 4)
      ) else (
        ck ((40 * a1) + a2) 320 fun j7 =>
        ck ((40 * a3) + a4) 320 fun j8 =>
        if ((ga s5 1 5 j7) &&& 1) = ((ga s5 1 5 j8) &&& 1) then (
          ck ((40 * a1) + a2) 320 fun j9 =>
          ck ((40 * a3) + a4) 320 fun j10 =>
          if (ga s5 1 6 j9) = (ga s5 1 6 j10) then (
            f_X9_code_113 s5 1 a1 a3 ((40 * a1) + a2) ((40 * a3) + a4)
          ) else (
            f_X9_code_112 (f_X9_code_113) s5 a1 a3 ((40 * a1) + a2) ((40 * a3) + a4)
          )
        ) else (
          f_X9_code_112 (f_X9_code_113) s5 a1 a3 ((40 * a1) + a2) ((40 * a3) + a4)
        )
      )
    ) else (
      some (σ, 4)
    )
  ) else (
    some (σ, 4)
  )
def rm_X9_differ : Room := { frames := 4, cells := 0, slots := 0, locals := 104 }
theorem q_X9_differ : yX9_differ.cls ≠ "java/lang/invoke/MethodHandle" ∧ yX9_differ.cls ≠ "java/lang/invoke/VarHandle" ∧ (parseMethodDescriptor yX9_differ.desc).map (fun d => d.parameters.length) = some 2 := ⟨by decide +kernel, by decide +kernel, by decide +kernel⟩
def f_X9_differ_95 (k7 : St → Int32 → Int32 → Int32 → Option (St × Unit)) (σ : St) (v1 : Int32) (v2 : Int32) (v3 : Int32) : Option (St × Unit) :=
  k7 σ v1 v2 (v3 + 1)
def f_X9_differ_46 (k7 : St → Int32 → Int32 → Int32 → Option (St × Unit)) (σ : St) (t0 : Int32) (v1 : Int32) (v2 : Int32) (v3 : Int32) (v4 : Int32) : Option (St × Unit) :=
  if t0 = 0 then (
    f_X9_differ_95 k7 σ v1 v2 v3
  ) else (
    ck (gi σ 854 0) 80 fun j7 =>
    bnd (sa σ 1 26 j7 t0) fun s8 =>
    ck (gi s8 854 0) 80 fun j9 =>
    bnd (sa s8 1 27 j9 v3) fun s10 =>
    ck (gi s10 854 0) 80 fun j11 =>
    bnd (sa s10 1 28 j11 v4) fun s12 =>
    bnd (si s12 854 0 ((gi s12 854 0) + 1)) fun s13 =>
    f_X9_differ_95 k7 s13 v1 v2 v3
  )
def f_X9_differ_166 (k103 : St → Int32 → Int32 → Int32 → Option (St × Unit)) (σ : St) (v1 : Int32) (v2 : Int32) (v3 : Int32) : Option (St × Unit) :=
  k103 σ v1 v2 (v3 + 1)
def f_X9_differ_103 : Nat → St → Int32 → Int32 → Int32 → Option (St × Unit)
  | 0, _, _, _, _ => none
  | n + 1, σ, v1, v2, v3 =>
    ck v2 8 fun j14 =>
    if (ga σ 1 0 j14) ≤ v3 then (
      some (σ, ())
    ) else (
      cl (f_X9_twin σ v2 v3 v1) fun s15 x16 =>
      if x16 = (-2) then (
        ck (gi s15 854 0) 80 fun j17 =>
        bnd (sa s15 1 26 j17 1) fun s18 =>
        ck (gi s18 854 0) 80 fun j19 =>
        bnd (sa s18 1 27 j19 (-2)) fun s20 =>
        ck (gi s20 854 0) 80 fun j21 =>
        bnd (sa s20 1 28 j21 v3) fun s22 =>
        bnd (si s22 854 0 ((gi s22 854 0) + 1)) fun s23 =>
        f_X9_differ_166 (f_X9_differ_103 n) s23 v1 v2 v3
      ) else (
        f_X9_differ_166 (f_X9_differ_103 n) s15 v1 v2 v3
      )
    )
def f_X9_differ_7 : Nat → St → Int32 → Int32 → Int32 → Option (St × Unit)
  | 0, _, _, _, _ => none
  | n + 1, σ, v1, v2, v3 =>
    ck v1 8 fun j2 =>
    if (ga σ 1 0 j2) ≤ v3 then (
      f_X9_differ_103 fl σ v1 v2 0
    ) else (
      cl (f_X9_twin σ v1 v3 v2) fun s3 x4 =>
      if x4 = (-2) then (
        f_X9_differ_46 (f_X9_differ_7 n) s3 2 v1 v2 v3 x4
      ) else (
        cl (f_X9_code s3 v1 v3 v2 x4) fun s5 x6 =>
        f_X9_differ_46 (f_X9_differ_7 n) s5 x6 v1 v2 v3 x4
      )
    )
def f_X9_differ (σ : St) (a1 : Int32) (a2 : Int32) : Option (St × Unit) :=
  bnd (si σ 854 0 0) fun s1 =>
  f_X9_differ_7 fl s1 a1 a2 0
def rm_X9_compareRows : Room := { frames := 2, cells := 0, slots := 0, locals := 53 }
theorem q_X9_compareRows : yX9_compareRows.cls ≠ "java/lang/invoke/MethodHandle" ∧ yX9_compareRows.cls ≠ "java/lang/invoke/VarHandle" ∧ (parseMethodDescriptor yX9_compareRows.desc).map (fun d => d.parameters.length) = some 4 := ⟨by decide +kernel, by decide +kernel, by decide +kernel⟩
def f_X9_compareRows_97 (σ : St) (t1 : Int32) (t2 : Int32) (t3 : Int32) (t4 : Int32) : Option (St × Int32) :=
  cl (f_X9_compare σ t1 t2 t3 t4) fun s9 x10 =>
  some (s9, x10)
def f_X9_compareRows_66 (σ : St) (t1 : Int32) (t2 : Int32) (v4 : Int32) (v6 : Int32) : Option (St × Int32) :=
  ck v4 80 fun j6 =>
  if (ga σ 1 27 j6) = (-2) then (
    ck v4 80 fun j8 =>
    f_X9_compareRows_97 σ t1 t2 v6 (ga σ 1 28 j8)
  ) else (
    ck v4 80 fun j7 =>
    f_X9_compareRows_97 σ t1 t2 v6 (ga σ 1 27 j7)
  )
def f_X9_compareRows_35 (σ : St) (t0 : Int32) (v3 : Int32) (v4 : Int32) (v5 : Int32) : Option (St × Int32) :=
  ck v3 80 fun j3 =>
  if (ga σ 1 27 j3) = (-2) then (
    ck v3 80 fun j5 =>
    f_X9_compareRows_66 σ v5 (ga σ 1 28 j5) v4 t0
  ) else (
    ck v3 80 fun j4 =>
    f_X9_compareRows_66 σ v5 (ga σ 1 27 j4) v4 t0
  )
def f_X9_compareRows_16 (σ : St) (t0 : Int32) (v1 : Int32) (v2 : Int32) (v3 : Int32) (v4 : Int32) : Option (St × Int32) :=
  ck v4 80 fun j2 =>
  if (ga σ 1 27 j2) = (-2) then (
    f_X9_compareRows_35 σ v2 v3 v4 t0
  ) else (
    f_X9_compareRows_35 σ v1 v3 v4 t0
  )
def f_X9_compareRows (σ : St) (a1 : Int32) (a2 : Int32) (a3 : Int32) (a4 : Int32) : Option (St × Int32) :=
  ck a3 80 fun j1 =>
  if (ga σ 1 27 j1) = (-2) then (
    f_X9_compareRows_16 σ a2 a1 a2 a3 a4
  ) else (
    f_X9_compareRows_16 σ a1 a1 a2 a3 a4
  )
def rm_X9_differences : Room := { frames := 5, cells := 0, slots := 0, locals := 129 }
theorem q_X9_differences : yX9_differences.cls ≠ "java/lang/invoke/MethodHandle" ∧ yX9_differences.cls ≠ "java/lang/invoke/VarHandle" ∧ (parseMethodDescriptor yX9_differences.desc).map (fun d => d.parameters.length) = some 2 := ⟨by decide +kernel, by decide +kernel, by decide +kernel⟩
def f_X9_differences (σ : St) (a1 : Int32) (a2 : Int32) : Option (St × Int32) :=
  cl (f_X9_isVersion σ a1) fun s1 x2 =>
  if x2 = 0 then (
    some (s1, (-1))
  ) else (
    cl (f_X9_isVersion s1 a2) fun s3 x4 =>
    if x4 = 0 then (
      some (s3, (-1))
    ) else (
      cl (f_X9_differ s3 a1 a2) fun s5 _u21 =>
      some (s5, gi s5 854 0)
    )
  )
def rm_X9_difference : Room := { frames := 5, cells := 0, slots := 0, locals := 129 }
theorem q_X9_difference : yX9_difference.cls ≠ "java/lang/invoke/MethodHandle" ∧ yX9_difference.cls ≠ "java/lang/invoke/VarHandle" ∧ (parseMethodDescriptor yX9_difference.desc).map (fun d => d.parameters.length) = some 4 := ⟨by decide +kernel, by decide +kernel, by decide +kernel⟩
def f_X9_difference_81 (k52 : St → Int32 → Int32 → Int32 → Int32 → Int32 → Int32 → Int32 → Option (St × Int32)) (σ : St) (t0 : Int32) (t1 : Int32) (v1 : Int32) (v2 : Int32) (v3 : Int32) (v4 : Int32) (v5 : Int32) (v7 : Int32) : Option (St × Int32) :=
  k52 σ v1 v2 v3 v4 v5 (t0 + t1) (v7 + 1)
def f_X9_difference_52 (k37 : St → Int32 → Int32 → Int32 → Int32 → Int32 → Option (St × Int32)) : Nat → St → Int32 → Int32 → Int32 → Int32 → Int32 → Int32 → Int32 → Option (St × Int32)
  | 0, _, _, _, _, _, _, _, _ => none
  | n + 1, σ, v1, v2, v3, v4, v5, v6, v7 =>
    if (gi σ 854 0) ≤ v7 then (
      if v6 = v3 then (
        if v4 = 0 then (
          ck v5 80 fun j10 =>
          some (σ, ga σ 1 26 j10)
        ) else (
          if v4 = 1 then (
            ck v5 80 fun j9 =>
            some (σ, ga σ 1 27 j9)
          ) else (
            ck v5 80 fun j8 =>
            some (σ, ga σ 1 28 j8)
          )
        )
      ) else (
        k37 σ v1 v2 v3 v4 (v5 + 1)
      )
    ) else (
      cl (f_X9_compareRows σ v1 v2 v7 v5) fun s11 x12 =>
      if 0 ≤ x12 then (
        f_X9_difference_81 (f_X9_difference_52 k37 n) s11 v6 0 v1 v2 v3 v4 v5 v7
      ) else (
        f_X9_difference_81 (f_X9_difference_52 k37 n) s11 v6 1 v1 v2 v3 v4 v5 v7
      )
    )
def f_X9_difference_37 : Nat → St → Int32 → Int32 → Int32 → Int32 → Int32 → Option (St × Int32)
  | 0, _, _, _, _, _, _ => none
  | n + 1, σ, v1, v2, v3, v4, v5 =>
    if (gi σ 854 0) ≤ v5 then (
      some (σ, (-1))
    ) else (
      f_X9_difference_52 (f_X9_difference_37 n) fl σ v1 v2 v3 v4 v5 0 0
    )
def f_X9_difference (σ : St) (a1 : Int32) (a2 : Int32) (a3 : Int32) (a4 : Int32) : Option (St × Int32) :=
  cl (f_X9_isVersion σ a1) fun s1 x2 =>
  if x2 = 0 then (
    some (s1, (-1))
  ) else (
    cl (f_X9_isVersion s1 a2) fun s3 x4 =>
    if x4 = 0 then (
      some (s3, (-1))
    ) else (
      cl (f_X9_in s3 a4 0 2) fun s5 x6 =>
      if x6 = 0 then (
        some (s5, (-1))
      ) else (
        cl (f_X9_differ s5 a1 a2) fun s7 _u31 =>
        f_X9_difference_37 fl s7 a1 a2 a3 a4 0
      )
    )
  )
def rm_X9_told : Room := { frames := 2, cells := 0, slots := 0, locals := 43 }
theorem q_X9_told : yX9_told.cls ≠ "java/lang/invoke/MethodHandle" ∧ yX9_told.cls ≠ "java/lang/invoke/VarHandle" ∧ (parseMethodDescriptor yX9_told.desc).map (fun d => d.parameters.length) = some 2 := ⟨by decide +kernel, by decide +kernel, by decide +kernel⟩
def f_X9_told_140 (k107 : St → Int32 → Int32 → Int32 → Option (St × Int32)) (σ : St) (t0 : Int32) (t1 : Int32) (v1 : Int32) (v4 : Int32) : Option (St × Int32) :=
  k107 σ v1 (t0 + t1) (v4 + 1)
def f_X9_told_107 : Nat → St → Int32 → Int32 → Int32 → Option (St × Int32)
  | 0, _, _, _, _ => none
  | n + 1, σ, v1, v3, v4 =>
    ck v1 8 fun j9 =>
    if (ga σ 1 0 j9) ≤ v4 then (
      some (σ, v3)
    ) else (
      ck ((40 * v1) + v4) 320 fun j10 =>
      if 4 < (ga σ 1 4 j10) then (
        f_X9_told_140 (f_X9_told_107 n) σ v3 0 v1 v4
      ) else (
        f_X9_told_140 (f_X9_told_107 n) σ v3 1 v1 v4
      )
    )
def f_X9_told_25 (σ : St) (v1 : Int32) (v2 : Int32) : Option (St × Int32) :=
  bnd (v2) fun x5 =>
  if x5 = 0 then (
    some (σ, gi σ 810 0)
  ) else (
  if x5 = 1 then (
    some (σ, gi σ 803 0)
  ) else (
  if x5 = 2 then (
    some (σ, gi σ 806 0)
  ) else (
  if x5 = 3 then (
    ck v1 8 fun j6 =>
    some (σ, ga σ 1 0 j6)
  ) else (
  if x5 = 4 then (
    ck v1 8 fun j7 =>
    some (σ, ga σ 1 1 j7)
  ) else (
  if x5 = 5 then (
    ck v1 8 fun j8 =>
    some (σ, ga σ 1 2 j8)
  ) else (
    f_X9_told_107 fl σ v1 0 0
  ))))))
def f_X9_told (σ : St) (a1 : Int32) (a2 : Int32) : Option (St × Int32) :=
  cl (f_X9_in σ a2 0 6) fun s1 x2 =>
  if x2 = 0 then (
    some (s1, (-1))
  ) else (
    if a2 ≤ 2 then (
      f_X9_told_25 s1 a1 a2
    ) else (
      cl (f_X9_isVersion s1 a1) fun s3 x4 =>
      if x4 = 0 then (
        some (s3, (-1))
      ) else (
        f_X9_told_25 s3 a1 a2
      )
    )
  )
