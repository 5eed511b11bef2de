/-! The frame of all walks: a world of cells by kind and number, one judgement V, a row an instruction. -/
abbrev Cx : Type := Program × Launch × Env × Room × State × MethodId × Array Value × List Frame × Method × Code
/-- the classes' numbers and slots, the array classes, the String constants' addresses and their bytes' -/
abbrev Wd : Type := va_G × (Nat → ClassId) × (Nat → Nat) × (Nat → Nat)
abbrev cS (Γ : Cx) : State := Γ.2.2.2.2.1
abbrev cR (Γ : Cx) : Room := Γ.2.2.2.1
def tysW (aC : Nat → ClassId) : List (ClassId × FieldType) := [(aC 0, .int), (aC 1, .byte), (aC 2, .long), (aC 3, .boolean), (aC 4, .object "MappingTexts$Field"), (aC 5, .object "MappingTexts$Rule"), (aC 6, .object "MappingTexts$Version")]
def enumL (cnt : List Nat) : List (Nat × Nat) := (List.range cnt.length).flatMap fun f => (List.range (cnt.getD f 0)).map fun i => (f, i)
def wsE (cnt : List Nat) (ad : Nat → Nat → Nat) (E : Nat → Nat → va_E) : va_W := (enumL cnt).map fun q => (ad q.1 q.2, E q.1 q.2)
def up2 {α : Type} (E : Nat → Nat → α) (f i : Nat) (e : α) : Nat → Nat → α := fun g j => if g = f ∧ j = i then e else E g j
theorem enumL_at {cnt : List Nat} {f i : Nat} (h : i < cnt.getD f 0) : ∃ q : Nat, (enumL cnt)[q]? = some (f, i) := by
  have hf : f < cnt.length := by
    rcases Nat.lt_or_ge f cnt.length with q | q
    · exact q
    · rw [List.getD_eq_getElem?_getD, List.getElem?_eq_none q] at h
      exact absurd h (Nat.not_lt_zero _)
  have hm : (f, i) ∈ enumL cnt := List.mem_flatMap.mpr ⟨f, List.mem_range.mpr hf, List.mem_map.mpr ⟨i, List.mem_range.mpr h, rfl⟩⟩
  exact List.getElem?_of_mem hm
theorem wsE_at {cnt : List Nat} {ad : Nat → Nat → Nat} {E : Nat → Nat → va_E} {q f i : Nat} (h : (enumL cnt)[q]? = some (f, i)) : (wsE cnt ad E)[q]? = some (ad f i, E f i) := by
  unfold wsE
  rw [List.getElem?_map, h]
  rfl
theorem wsE_set {A : Nat → Prop} {cnt : List Nat} {ad : Nat → Nat → Nat} {E : Nat → Nat → va_E} {q f i : Nat} {x : va_E} (hD : va_D A (wsE cnt ad E)) (h : (enumL cnt)[q]? = some (f, i)) : (wsE cnt ad E).set q (ad f i, x) = wsE cnt ad (up2 E f i x) := by
  apply List.ext_getElem?
  intro k
  have hl : q < (wsE cnt ad E).length := (List.getElem?_eq_some_iff.mp (wsE_at (ad := ad) (E := E) h)).1
  by_cases hk : k = q
  · subst hk
    rw [List.getElem?_set_self hl, wsE_at (E := up2 E f i x) h]
    simp [up2]
  · rw [List.getElem?_set_ne (Ne.symm hk)]
    unfold wsE
    rw [List.getElem?_map, List.getElem?_map]
    cases hg : (enumL cnt)[k]? with
    | none => rfl
    | some gj =>
      obtain ⟨g, j⟩ := gj
      have hne : ¬ (g = f ∧ j = i) := by
        rintro ⟨rfl, rfl⟩
        exact hk (hD.1 k q _ _ (wsE_at hg) (wsE_at h) rfl)
      simp [up2, hne]
/-- the world: every cell of it is as E says, they are apart, they lie in A -/
def PP (Ω : Wd) (cnt : List Nat) (ad : Nat → Nat → Nat) (A : Nat → Prop) (E : Nat → Nat → va_E) (H : Heap) : Prop := va_P Ω.1 vwCl (wsE cnt ad E) H ∧ va_D A (wsE cnt ad E)
/-- the String constants: which there are, where the classes' pools name them -/
def nSt : Nat := stTxt.length
def lenSt : List Nat := stTxt.map List.length
/-- private constructors of nest mates; classes over which arrays are made -/
def nestQ : List (String × Nat × MethodName × String) := [("MappingTexts", 38, ⟨"MappingTexts$Comparison", "<init>", "()V"⟩, "MappingTexts"), ("MappingTexts$Version", 37, ⟨"MappingTexts$Field", "<init>", "()V"⟩, "MappingTexts"), ("MappingTexts$Version", 38, ⟨"MappingTexts$Rule", "<init>", "()V"⟩, "MappingTexts")]
def overQ : List String := ["MappingTexts$Field", "MappingTexts$Rule", "MappingTexts$Version"]
def NK (U : State) : Prop := (∀ q ∈ nestQ, va_Nw (.methodLinkNest q.1 q.2.1 q.2.2.1 q.2.2.2) U) ∧ ∀ C ∈ overQ, va_AO C U
def SK (Ω : Wd) (A : Nat → Prop) (U : State) : Prop := vk_S nSt lenSt stTxt Ω.2.2.1 Ω.2.2.2 A U U.heap ∧ (∀ q ∈ stRef, vk_R q.1 q.2.1 q.2.2.1 (Ω.2.2.1 q.2.2.2) U) ∧ va_Z "java/lang/String" "COMPACT_STRINGS" "Z" (.int 1) A U U.heap ∧ va_Zq "jdk/internal/util/Preconditions" "SIOOBE_FORMATTER" "Ljava/util/function/BiFunction;" A U U.heap ∧ NK U
def KK (Ω : Wd) (A : Nat → Prop) (U : State) : Prop := va_K Ω.1 vwCl (tysW Ω.2.1) U ∧ SK Ω A U
theorem KK.blind {Ω : Wd} {A : Nat → Prop} {U : State} (h : KK Ω A U) (g : JFrame) (mk : MethodId) (a : Array Value) : KK Ω A (U.calling g mk a) := by
  obtain ⟨h1, h2, h3, h4, h5, h6, h7⟩ := h
  exact ⟨va_K.moved (u := U) (U := U.calling g mk a) (Vm.Alike.refl U.vm) h1, vk_S.moved (u := U) (U := U.calling g mk a) (Vm.Alike.refl U.vm) h2, fun q hq => vk_R.same (u := U) (U := U.calling g mk a) rfl (h3 q hq), va_Z.moved (u := U) (U := U.calling g mk a) (Vm.Alike.refl U.vm) h4, va_Zq.moved (u := U) (U := U.calling g mk a) (Vm.Alike.refl U.vm) h5, fun q hq => va_Nw.same rfl (u := U) (U := U.calling g mk a) rfl (h6 q hq), fun C hC => va_AO.moved (u := U) (U := U.calling g mk a) (Vm.Alike.refl U.vm) (h7 C hC)⟩
theorem KK.at {Ω : Wd} {A : Nat → Prop} {s U : State} {H : Heap} {locs : List Loc} (h : KK Ω A s) (hS : va_S A s.heap H locs) (hU : U.heap = H) (hW : s.WarmedH U.vm) : KK Ω A U := by
  obtain ⟨h1, h2, h3, h4, h5, h6, h7⟩ := h
  refine ⟨va_K.moved hW.alike h1, vk_S.moved hW.alike (by rw [hU]; exact h2.kept hS.2.1), fun q hq => vk_R.warm hW (h3 q hq), va_Z.moved hW.alike (by rw [hU]; exact h4.kept hS.2.1), va_Zq.moved hW.alike (by rw [hU]; exact h5.kept hS.2.1), fun q hq => va_Nw.warmM hW (h6 q hq), fun C hC => va_AO.moved hW.alike (h7 C hC)⟩
/-- what stays the same through a method's walk -/
def Fx (Γ : Cx) (Ω : Wd) (A : Nat → Prop) (cc : ByteArray) (nL : Nat) (own : String) (rm : Room) (ret : Option FieldType) : Prop :=
  CallFix Γ.1 Γ.2.2.2.2.2.1 Γ.2.2.2.2.2.2.2.2.2 cc nL Γ.2.2.2.2.1 Γ.2.2.2.2.2.2.1 GW own ∧ KK Ω A Γ.2.2.2.2.1 ∧ Γ.2.2.2.2.2.2.2.2.1.locks = false ∧ Γ.2.2.2.1 = rm ∧ Γ.2.2.2.2.2.2.2.2.1.sig.returnType = ret
/-- the machine, at pc with these locals and this stack, in any heap of the world Z, comes to a state with Q -/
def V (Γ : Cx) (cs : Nat × Nat) (Q : State → Prop) (A : Nat → Prop) (nL : Nat) (Z : Heap → Prop) (pc : Nat) (lv : List (Nat × Value)) (st : List Value) : Prop :=
  ∀ (H : Heap) (locs : List Loc) (ls : Array Slot), Z H → va_S A Γ.2.2.2.2.1.heap H locs → lv_has ls nL lv → W Γ.1 Γ.2.1 Γ.2.2.1 Γ.2.2.2.1 Γ.2.2.2.2.1 Γ.2.2.2.2.2.1 Γ.2.2.2.2.2.2.1 Γ.2.2.2.2.2.2.2.1 Γ.2.2.2.2.2.2.2.2.1 Γ.2.2.2.2.2.2.2.2.2 H locs cs.1 cs.2 Q (F0 Γ.2.2.2.2.2.1 pc ls st)
def Qe (Γ : Cx) (cs : Nat × Nat) (A : Nat → Prop) (Qc : Array Value → State → Outcome → State → Prop) : State → Prop := MQ Γ.2.2.2.2.2.2.2.1 Qc Γ.2.2.2.2.2.2.1 Γ.2.2.2.2.1 cs.1 cs.2 A
abbrev PcZ (Ω : Wd) (A : Nat → Prop) (Z : Heap → Prop) (av : List Value) : Array Value → State → Prop := va_Pc av (fun U => Z U.heap ∧ KK Ω A U)
theorem PcZ.blind {Ω : Wd} {A : Nat → Prop} {Z : Heap → Prop} {av : List Value} : FrameBlind (PcZ Ω A Z av) := fun a U g mk ⟨h1, h2, h3⟩ => ⟨h1, h2, h3.blind g mk a⟩
theorem Met.ofV {l : Launch} {y : MethodName} {b : ByteArray} {n : Nat} {ret : Option FieldType} {rm : Room} {Ω : Wd} {A : Nat → Prop} {Z : Heap → Prop} {av : List Value} {Qc : Array Value → State → Outcome → State → Prop}
    (hy : plainName y.cls = true) (hn : Nat.ble (lg_sl av).length n = true)
    (body : ∀ Γ : Cx, Γ.2.1 = l → Fx Γ Ω A b n y.cls rm ret → V Γ (0, 0) (Qe Γ (0, 0) A Qc) A n Z 0 (lv_args 0 av) []) : Met l y (wsO y b n ret) rm (PcZ Ω A Z av) Qc 0 0 A := by
  refine Met.ofW (cc := b) (maxL := n) (ret := ret) hy rfl ?_
  intro p e s m args below meth c s₁ B hml hv
  obtain ⟨rfl, hZ, hK⟩ := hv
  have hts := atoms_spec (ws := wsO y b n ret) B.pre
  have hown : s.vm.findClass y.cls = some m.cls := findClass_of_methodNamed B.named
  have hb := body (p, l, e, (headSpec (wsO y b n ret) rm).room, s, m, av.toArray, below, meth, c) rfl ⟨⟨B.exec, B.bytes, hml, hown, fun w h => hts w (List.mem_cons_of_mem _ h)⟩, hK, B.notSynchronized, rfl, B.returns⟩
  rw [lg_entry_eq]
  exact hb s.heap [] _ hZ va_S.rf (lv_entry av (Nat.le_of_ble_eq_true hn))
section Rows
variable {Γ : Cx} {cs : Nat × Nat} {Q : State → Prop} {A : Nat → Prop} {nL : Nat} {Z : Heap → Prop} {pc : Nat} {lv lv' : List (Nat × Value)} {st : List Value} {Ω : Wd} {cc : ByteArray} {own : String} {rm : Room} {ret : Option FieldType}
theorem V.to {Z' : Heap → Prop} (hz : ∀ H, Z H → Z' H) (k : V Γ cs Q A nL Z' pc lv st) : V Γ cs Q A nL Z pc lv st := fun H locs ls hZ hS hl => k H locs ls (hz H hZ) hS hl
theorem V.pick (ks : List Nat) (hp : lv_pick lv ks = lv') (k : V Γ cs Q A nL Z pc lv' st) : V Γ cs Q A nL Z pc lv st := fun H locs ls hZ hS hl => k H locs ls hZ hS (lv_sub hl ks hp)
theorem tv_iconst (X : Fx Γ Ω A cc nL own rm ret) {n : Int} (v : Int32) (hd : decode cc pc = .ok (.iconst n, 1)) (hv : Int32.ofInt n = v) (k : V Γ cs Q A nL Z (pc + 1) lv (.int v :: st)) : V Γ cs Q A nL Z pc lv st := fun H locs ls hZ hS hl => lv_iconst X.1.1 X.1.2.1 hd hv (k H locs ls hZ hS hl)
theorem tv_bipush (X : Fx Γ Ω A cc nL own rm ret) {n : Int} (v : Int32) (hd : decode cc pc = .ok (.bipush n, 2)) (hv : (Int8.ofInt n).toInt32 = v) (k : V Γ cs Q A nL Z (pc + 2) lv (.int v :: st)) : V Γ cs Q A nL Z pc lv st := fun H locs ls hZ hS hl => lv_bipush X.1.1 X.1.2.1 hd hv (k H locs ls hZ hS hl)
theorem tv_sipush (X : Fx Γ Ω A cc nL own rm ret) {n : Int} (v : Int32) (hd : decode cc pc = .ok (.sipush n, 3)) (hv : (Int16.ofInt n).toInt32 = v) (k : V Γ cs Q A nL Z (pc + 3) lv (.int v :: st)) : V Γ cs Q A nL Z pc lv st := fun H locs ls hZ hS hl => lv_sipush X.1.1 X.1.2.1 hd hv (k H locs ls hZ hS hl)
theorem tv_lconst (X : Fx Γ Ω A cc nL own rm ret) {n : Fin 2} (v : Int64) (hd : decode cc pc = .ok (.lconst n, 1)) (hv : Int64.ofNat (n : Nat) = v) (k : V Γ cs Q A nL Z (pc + 1) lv (.long v :: st)) : V Γ cs Q A nL Z pc lv st := fun H locs ls hZ hS hl => lv_lconst X.1.1 X.1.2.1 hd hv (k H locs ls hZ hS hl)
theorem tv_ldc (X : Fx Γ Ω A cc nL own rm ret) {index : Nat} (v : Int32) (hw : Cond.constant own index v ∈ GW) (hd : decode cc pc = .ok (.ldc index, 2)) (k : V Γ cs Q A nL Z (pc + 2) lv (.int v :: st)) : V Γ cs Q A nL Z pc lv st := fun H locs ls hZ hS hl => lv_ldc X.1.1 X.1.2.1 X.1.2.2.2.1 (X.1.2.2.2.2 _ hw) hd (k H locs ls hZ hS hl)
theorem tv_ldcw (X : Fx Γ Ω A cc nL own rm ret) {index : Nat} (v : Int32) (hw : Cond.constant own index v ∈ GW) (hd : decode cc pc = .ok (.ldc_w index, 3)) (k : V Γ cs Q A nL Z (pc + 3) lv (.int v :: st)) : V Γ cs Q A nL Z pc lv st := fun H locs ls hZ hS hl => lv_ldcw X.1.1 X.1.2.1 X.1.2.2.2.1 (X.1.2.2.2.2 _ hw) hd (k H locs ls hZ hS hl)
theorem tv_ldc2 (X : Fx Γ Ω A cc nL own rm ret) {index : Nat} (v : Int64) (hw : Cond.constantLong own index v ∈ GW) (hd : decode cc pc = .ok (.ldc2_w index, 3)) (k : V Γ cs Q A nL Z (pc + 3) lv (.long v :: st)) : V Γ cs Q A nL Z pc lv st := fun H locs ls hZ hS hl => lv_ldc2 X.1.1 X.1.2.1 X.1.2.2.2.1 (X.1.2.2.2.2 _ hw) hd (k H locs ls hZ hS hl)
theorem tv_iload_n (X : Fx Γ Ω A cc nL own rm ret) {n : Fin 4} {i : Nat} {x : Int32} (hd : decode cc pc = .ok (.iload_n n, 1)) (hi : (n : Nat) = i) (j : Nat) (hj : lv[j]? = some (i, .int x)) (k : V Γ cs Q A nL Z (pc + 1) lv (.int x :: st)) : V Γ cs Q A nL Z pc lv st := fun H locs ls hZ hS hl => lv_iload_n X.1.1 X.1.2.1 hd hi (lv_at hl j hj) (k H locs ls hZ hS hl)
theorem tv_iload (X : Fx Γ Ω A cc nL own rm ret) {i : Nat} {x : Int32} (hd : decode cc pc = .ok (.iload i, 2)) (j : Nat) (hj : lv[j]? = some (i, .int x)) (k : V Γ cs Q A nL Z (pc + 2) lv (.int x :: st)) : V Γ cs Q A nL Z pc lv st := fun H locs ls hZ hS hl => lv_iload X.1.1 X.1.2.1 hd (lv_at hl j hj) (k H locs ls hZ hS hl)
theorem tv_lload_n (X : Fx Γ Ω A cc nL own rm ret) {n : Fin 4} {i : Nat} {x : Int64} (hd : decode cc pc = .ok (.lload_n n, 1)) (hi : (n : Nat) = i) (j : Nat) (hj : lv[j]? = some (i, .long x)) (k : V Γ cs Q A nL Z (pc + 1) lv (.long x :: st)) : V Γ cs Q A nL Z pc lv st := fun H locs ls hZ hS hl => lv_lload_n X.1.1 X.1.2.1 hd hi (lv_at hl j hj) (k H locs ls hZ hS hl)
theorem tv_lload (X : Fx Γ Ω A cc nL own rm ret) {i : Nat} {x : Int64} (hd : decode cc pc = .ok (.lload i, 2)) (j : Nat) (hj : lv[j]? = some (i, .long x)) (k : V Γ cs Q A nL Z (pc + 2) lv (.long x :: st)) : V Γ cs Q A nL Z pc lv st := fun H locs ls hZ hS hl => lv_lload X.1.1 X.1.2.1 hd (lv_at hl j hj) (k H locs ls hZ hS hl)
theorem tv_aload_n (X : Fx Γ Ω A cc nL own rm ret) {n : Fin 4} {i x : Nat} (hd : decode cc pc = .ok (.aload_n n, 1)) (hi : (n : Nat) = i) (j : Nat) (hj : lv[j]? = some (i, .ref x)) (k : V Γ cs Q A nL Z (pc + 1) lv (.ref x :: st)) : V Γ cs Q A nL Z pc lv st := fun H locs ls hZ hS hl => lv_aload_n X.1.1 X.1.2.1 hd hi (lv_at hl j hj) (k H locs ls hZ hS hl)
theorem tv_aload (X : Fx Γ Ω A cc nL own rm ret) {i x : Nat} (hd : decode cc pc = .ok (.aload i, 2)) (j : Nat) (hj : lv[j]? = some (i, .ref x)) (k : V Γ cs Q A nL Z (pc + 2) lv (.ref x :: st)) : V Γ cs Q A nL Z pc lv st := fun H locs ls hZ hS hl => lv_aload X.1.1 X.1.2.1 hd (lv_at hl j hj) (k H locs ls hZ hS hl)
theorem tv_istore_n (X : Fx Γ Ω A cc nL own rm ret) {n : Fin 4} {i : Nat} {x : Int32} (hd : decode cc pc = .ok (.istore_n n, 1)) (hi : (n : Nat) = i) (hn : i < nL) (lv' : List (Nat × Value)) (hl' : (i, Value.int x) :: lv.filter (fun q => !(q.1 == i) && !(q.1 + 1 == i && q.2.category == 2)) = lv') (k : V Γ cs Q A nL Z (pc + 1) lv' st) : V Γ cs Q A nL Z pc lv (.int x :: st) := fun H locs ls hZ hS hl => lv_istore_n X.1.1 X.1.2.1 hd hi hl hn hl' (fun ls' h' => k H locs ls' hZ hS h')
theorem tv_istore (X : Fx Γ Ω A cc nL own rm ret) {i : Nat} {x : Int32} (hd : decode cc pc = .ok (.istore i, 2)) (hn : i < nL) (lv' : List (Nat × Value)) (hl' : (i, Value.int x) :: lv.filter (fun q => !(q.1 == i) && !(q.1 + 1 == i && q.2.category == 2)) = lv') (k : V Γ cs Q A nL Z (pc + 2) lv' st) : V Γ cs Q A nL Z pc lv (.int x :: st) := fun H locs ls hZ hS hl => lv_istore X.1.1 X.1.2.1 hd hl hn hl' (fun ls' h' => k H locs ls' hZ hS h')
theorem tv_lstore_n (X : Fx Γ Ω A cc nL own rm ret) {n : Fin 4} {i : Nat} {x : Int64} (hd : decode cc pc = .ok (.lstore_n n, 1)) (hi : (n : Nat) = i) (hn : i + 1 < nL) (lv' : List (Nat × Value)) (hl' : (i, Value.long x) :: lv.filter (fun q => !(q.1 == i) && (!(q.1 == i + 1) && !(q.1 + 1 == i && q.2.category == 2))) = lv') (k : V Γ cs Q A nL Z (pc + 1) lv' st) : V Γ cs Q A nL Z pc lv (.long x :: st) := fun H locs ls hZ hS hl => lv_lstore_n X.1.1 X.1.2.1 hd hi hl hn hl' (fun ls' h' => k H locs ls' hZ hS h')
theorem tv_lstore (X : Fx Γ Ω A cc nL own rm ret) {i : Nat} {x : Int64} (hd : decode cc pc = .ok (.lstore i, 2)) (hn : i + 1 < nL) (lv' : List (Nat × Value)) (hl' : (i, Value.long x) :: lv.filter (fun q => !(q.1 == i) && (!(q.1 == i + 1) && !(q.1 + 1 == i && q.2.category == 2))) = lv') (k : V Γ cs Q A nL Z (pc + 2) lv' st) : V Γ cs Q A nL Z pc lv (.long x :: st) := fun H locs ls hZ hS hl => lv_lstore X.1.1 X.1.2.1 hd hl hn hl' (fun ls' h' => k H locs ls' hZ hS h')
theorem tv_astore_n (X : Fx Γ Ω A cc nL own rm ret) {n : Fin 4} {i x : Nat} (hd : decode cc pc = .ok (.astore_n n, 1)) (hi : (n : Nat) = i) (hn : i < nL) (lv' : List (Nat × Value)) (hl' : (i, Value.ref x) :: lv.filter (fun q => !(q.1 == i) && !(q.1 + 1 == i && q.2.category == 2)) = lv') (k : V Γ cs Q A nL Z (pc + 1) lv' st) : V Γ cs Q A nL Z pc lv (.ref x :: st) := fun H locs ls hZ hS hl => lv_astore_n X.1.1 X.1.2.1 hd hi hl hn hl' (fun ls' h' => k H locs ls' hZ hS h')
theorem tv_astore (X : Fx Γ Ω A cc nL own rm ret) {i x : Nat} (hd : decode cc pc = .ok (.astore i, 2)) (hn : i < nL) (lv' : List (Nat × Value)) (hl' : (i, Value.ref x) :: lv.filter (fun q => !(q.1 == i) && !(q.1 + 1 == i && q.2.category == 2)) = lv') (k : V Γ cs Q A nL Z (pc + 2) lv' st) : V Γ cs Q A nL Z pc lv (.ref x :: st) := fun H locs ls hZ hS hl => lv_astore X.1.1 X.1.2.1 hd hl hn hl' (fun ls' h' => k H locs ls' hZ hS h')
theorem tv_iinc (X : Fx Γ Ω A cc nL own rm ret) {i : Nat} {n : Int} {x : Int32} (v : Int32) (hd : decode cc pc = .ok (.iinc i n, 3)) (j : Nat) (hj : lv[j]? = some (i, .int x)) (hv : x + Int32.ofInt n = v) (hn : i < nL) (lv' : List (Nat × Value)) (hl' : (i, Value.int v) :: lv.filter (fun q => !(q.1 == i) && !(q.1 + 1 == i && q.2.category == 2)) = lv') (k : V Γ cs Q A nL Z (pc + 3) lv' st) : V Γ cs Q A nL Z pc lv st := fun H locs ls hZ hS hl => lv_iinc X.1.1 X.1.2.1 hd hl hj hv hn hl' (fun ls' h' => k H locs ls' hZ hS h')
theorem tv_iadd (X : Fx Γ Ω A cc nL own rm ret) {x y : Int32} (hd : decode cc pc = .ok (.iadd, 1)) (k : V Γ cs Q A nL Z (pc + 1) lv (.int (x + y) :: st)) : V Γ cs Q A nL Z pc lv (.int y :: .int x :: st) := fun H locs ls hZ hS hl => lv_iadd X.1.1 X.1.2.1 hd (k H locs ls hZ hS hl)
theorem tv_isub (X : Fx Γ Ω A cc nL own rm ret) {x y : Int32} (hd : decode cc pc = .ok (.isub, 1)) (k : V Γ cs Q A nL Z (pc + 1) lv (.int (x - y) :: st)) : V Γ cs Q A nL Z pc lv (.int y :: .int x :: st) := fun H locs ls hZ hS hl => lv_isub X.1.1 X.1.2.1 hd (k H locs ls hZ hS hl)
theorem tv_imul (X : Fx Γ Ω A cc nL own rm ret) {x y : Int32} (hd : decode cc pc = .ok (.imul, 1)) (k : V Γ cs Q A nL Z (pc + 1) lv (.int (x * y) :: st)) : V Γ cs Q A nL Z pc lv (.int y :: .int x :: st) := fun H locs ls hZ hS hl => lv_imul X.1.1 X.1.2.1 hd (k H locs ls hZ hS hl)
theorem tv_iand (X : Fx Γ Ω A cc nL own rm ret) {x y : Int32} (hd : decode cc pc = .ok (.iand, 1)) (k : V Γ cs Q A nL Z (pc + 1) lv (.int (x &&& y) :: st)) : V Γ cs Q A nL Z pc lv (.int y :: .int x :: st) := fun H locs ls hZ hS hl => lv_iand X.1.1 X.1.2.1 hd (k H locs ls hZ hS hl)
theorem tv_ior (X : Fx Γ Ω A cc nL own rm ret) {x y : Int32} (hd : decode cc pc = .ok (.ior, 1)) (k : V Γ cs Q A nL Z (pc + 1) lv (.int (x ||| y) :: st)) : V Γ cs Q A nL Z pc lv (.int y :: .int x :: st) := fun H locs ls hZ hS hl => lv_ior X.1.1 X.1.2.1 hd (k H locs ls hZ hS hl)
theorem tv_ixor (X : Fx Γ Ω A cc nL own rm ret) {x y : Int32} (hd : decode cc pc = .ok (.ixor, 1)) (k : V Γ cs Q A nL Z (pc + 1) lv (.int (x ^^^ y) :: st)) : V Γ cs Q A nL Z pc lv (.int y :: .int x :: st) := fun H locs ls hZ hS hl => lv_ixor X.1.1 X.1.2.1 hd (k H locs ls hZ hS hl)
theorem tv_ishl (X : Fx Γ Ω A cc nL own rm ret) {x y : Int32} (hd : decode cc pc = .ok (.ishl, 1)) (k : V Γ cs Q A nL Z (pc + 1) lv (.int (x <<< (y &&& 31)) :: st)) : V Γ cs Q A nL Z pc lv (.int y :: .int x :: st) := fun H locs ls hZ hS hl => lv_ishl X.1.1 X.1.2.1 hd (k H locs ls hZ hS hl)
theorem tv_ishr (X : Fx Γ Ω A cc nL own rm ret) {x y : Int32} (hd : decode cc pc = .ok (.ishr, 1)) (k : V Γ cs Q A nL Z (pc + 1) lv (.int (x >>> (y &&& 31)) :: st)) : V Γ cs Q A nL Z pc lv (.int y :: .int x :: st) := fun H locs ls hZ hS hl => lv_ishr X.1.1 X.1.2.1 hd (k H locs ls hZ hS hl)
theorem tv_idiv (X : Fx Γ Ω A cc nL own rm ret) {x y : Int32} (hd : decode cc pc = .ok (.idiv, 1)) (hne : ¬ y = 0) (k : V Γ cs Q A nL Z (pc + 1) lv (.int (x / y) :: st)) : V Γ cs Q A nL Z pc lv (.int y :: .int x :: st) := fun H locs ls hZ hS hl => lv_idiv X.1.1 X.1.2.1 hd hne (k H locs ls hZ hS hl)
theorem tv_irem (X : Fx Γ Ω A cc nL own rm ret) {x y : Int32} (hd : decode cc pc = .ok (.irem, 1)) (hne : ¬ y = 0) (k : V Γ cs Q A nL Z (pc + 1) lv (.int (x - x / y * y) :: st)) : V Γ cs Q A nL Z pc lv (.int y :: .int x :: st) := fun H locs ls hZ hS hl => lv_irem X.1.1 X.1.2.1 hd hne (k H locs ls hZ hS hl)
theorem tv_land (X : Fx Γ Ω A cc nL own rm ret) {x y : Int64} (hd : decode cc pc = .ok (.land, 1)) (k : V Γ cs Q A nL Z (pc + 1) lv (.long (x &&& y) :: st)) : V Γ cs Q A nL Z pc lv (.long y :: .long x :: st) := fun H locs ls hZ hS hl => lv_land X.1.1 X.1.2.1 hd (k H locs ls hZ hS hl)
theorem tv_lor (X : Fx Γ Ω A cc nL own rm ret) {x y : Int64} (hd : decode cc pc = .ok (.lor, 1)) (k : V Γ cs Q A nL Z (pc + 1) lv (.long (x ||| y) :: st)) : V Γ cs Q A nL Z pc lv (.long y :: .long x :: st) := fun H locs ls hZ hS hl => lv_lor X.1.1 X.1.2.1 hd (k H locs ls hZ hS hl)
theorem tv_lshl (X : Fx Γ Ω A cc nL own rm ret) {x : Int64} {y : Int32} (hd : decode cc pc = .ok (.lshl, 1)) (k : V Γ cs Q A nL Z (pc + 1) lv (.long (x <<< (y.toInt64 &&& 63)) :: st)) : V Γ cs Q A nL Z pc lv (.int y :: .long x :: st) := fun H locs ls hZ hS hl => lv_lshl X.1.1 X.1.2.1 hd rfl (k H locs ls hZ hS hl)
theorem tv_lshr (X : Fx Γ Ω A cc nL own rm ret) {x : Int64} {y : Int32} (hd : decode cc pc = .ok (.lshr, 1)) (k : V Γ cs Q A nL Z (pc + 1) lv (.long (x >>> (y.toInt64 &&& 63)) :: st)) : V Γ cs Q A nL Z pc lv (.int y :: .long x :: st) := fun H locs ls hZ hS hl => lv_lshr X.1.1 X.1.2.1 hd rfl (k H locs ls hZ hS hl)
theorem tv_lushr (X : Fx Γ Ω A cc nL own rm ret) {x : Int64} {y : Int32} (hd : decode cc pc = .ok (.lushr, 1)) (k : V Γ cs Q A nL Z (pc + 1) lv (.long ((x.toUInt64 >>> (y.toInt64.toUInt64 &&& Int64.toUInt64 63)).toInt64) :: st)) : V Γ cs Q A nL Z pc lv (.int y :: .long x :: st) := fun H locs ls hZ hS hl => lv_lushr X.1.1 X.1.2.1 hd rfl (k H locs ls hZ hS hl)
theorem tv_i2l (X : Fx Γ Ω A cc nL own rm ret) {x : Int32} (hd : decode cc pc = .ok (.i2l, 1)) (k : V Γ cs Q A nL Z (pc + 1) lv (.long (x.toInt64) :: st)) : V Γ cs Q A nL Z pc lv (.int x :: st) := fun H locs ls hZ hS hl => lv_i2l X.1.1 X.1.2.1 hd rfl (k H locs ls hZ hS hl)
theorem tv_l2i (X : Fx Γ Ω A cc nL own rm ret) {x : Int64} (hd : decode cc pc = .ok (.l2i, 1)) (k : V Γ cs Q A nL Z (pc + 1) lv (.int (x.toInt32) :: st)) : V Γ cs Q A nL Z pc lv (.long x :: st) := fun H locs ls hZ hS hl => lv_l2i X.1.1 X.1.2.1 hd rfl (k H locs ls hZ hS hl)
theorem tv_i2b (X : Fx Γ Ω A cc nL own rm ret) {x : Int32} (hd : decode cc pc = .ok (.i2b, 1)) (k : V Γ cs Q A nL Z (pc + 1) lv (.int (x.toInt8.toInt32) :: st)) : V Γ cs Q A nL Z pc lv (.int x :: st) := fun H locs ls hZ hS hl => lv_i2b X.1.1 X.1.2.1 hd rfl (k H locs ls hZ hS hl)
theorem tv_i2c (X : Fx Γ Ω A cc nL own rm ret) {x : Int32} (hd : decode cc pc = .ok (.i2c, 1)) (k : V Γ cs Q A nL Z (pc + 1) lv (.int ((x.toUInt32 % 65536).toInt32) :: st)) : V Γ cs Q A nL Z pc lv (.int x :: st) := fun H locs ls hZ hS hl => lv_i2c X.1.1 X.1.2.1 hd rfl (k H locs ls hZ hS hl)
theorem tv_lcmp (X : Fx Γ Ω A cc nL own rm ret) {x y : Int64} (hd : decode cc pc = .ok (.lcmp, 1)) (k : V Γ cs Q A nL Z (pc + 1) lv (.int (lg_cmp x y) :: st)) : V Γ cs Q A nL Z pc lv (.long y :: .long x :: st) := fun H locs ls hZ hS hl => W.lcmp X.1.1 X.1.2.1 hd (k H locs ls hZ hS hl)
theorem tv_dup (X : Fx Γ Ω A cc nL own rm ret) {v : Value} (hd : decode cc pc = .ok (.dup, 1)) (hv : v.category = 1) (k : V Γ cs Q A nL Z (pc + 1) lv (v :: v :: st)) : V Γ cs Q A nL Z pc lv (v :: st) := fun H locs ls hZ hS hl => lv_dup X.1.1 X.1.2.1 hd hv (k H locs ls hZ hS hl)
theorem tv_dup2 (X : Fx Γ Ω A cc nL own rm ret) {v w : Value} (hd : decode cc pc = .ok (.dup2, 1)) (hv : v.category = 1) (hw : w.category = 1) (k : V Γ cs Q A nL Z (pc + 1) lv (v :: w :: v :: w :: st)) : V Γ cs Q A nL Z pc lv (v :: w :: st) := fun H locs ls hZ hS hl => lv_dup2_11 X.1.1 X.1.2.1 hd hv hw (k H locs ls hZ hS hl)
theorem tv_pop (X : Fx Γ Ω A cc nL own rm ret) {v : Value} (hd : decode cc pc = .ok (.pop, 1)) (hv : v.category = 1) (k : V Γ cs Q A nL Z (pc + 1) lv st) : V Γ cs Q A nL Z pc lv (v :: st) := fun H locs ls hZ hS hl => lv_pop X.1.1 X.1.2.1 hd hv (k H locs ls hZ hS hl)
theorem tv_goto (X : Fx Γ Ω A cc nL own rm ret) {off : Int} (tgt : Nat) (hd : decode cc pc = .ok (.goto off, 3)) (ht : (pc : Int) + off = (tgt : Int)) (k : V Γ cs Q A nL Z tgt lv st) : V Γ cs Q A nL Z pc lv st := fun H locs ls hZ hS hl => lv_goto X.1.1 X.1.2.1 hd ht (k H locs ls hZ hS hl)
theorem tv_icmp_eq (X : Fx Γ Ω A cc nL own rm ret) {x y : Int32} {off : Int} (tgt : Nat) {ρ : Type} {r : ρ} {P1 P2 : Option ρ} (hd : decode cc pc = .ok (.if_icmp .eq off, 3)) (ht : (pc : Int) + off = (tgt : Int)) (h : (if x = y then P1 else P2) = some r) (kt : P1 = some r → V Γ cs Q A nL Z tgt lv st) (kf : P2 = some r → V Γ cs Q A nL Z (pc + 3) lv st) : V Γ cs Q A nL Z pc lv (.int y :: .int x :: st) := fun H locs ls hZ hS hl => lv_icmp_eq X.1.1 X.1.2.1 hd ht (fun c => kt ((if_pos c).symm.trans h) H locs ls hZ hS hl) (fun c => kf ((if_neg c).symm.trans h) H locs ls hZ hS hl)
theorem tv_if_eq (X : Fx Γ Ω A cc nL own rm ret) {x : Int32} {off : Int} (tgt : Nat) {ρ : Type} {r : ρ} {P1 P2 : Option ρ} (hd : decode cc pc = .ok (.ifCond .eq off, 3)) (ht : (pc : Int) + off = (tgt : Int)) (h : (if x = 0 then P1 else P2) = some r) (kt : P1 = some r → V Γ cs Q A nL Z tgt lv st) (kf : P2 = some r → V Γ cs Q A nL Z (pc + 3) lv st) : V Γ cs Q A nL Z pc lv (.int x :: st) := fun H locs ls hZ hS hl => lv_if_eq X.1.1 X.1.2.1 hd ht (fun c => kt ((if_pos c).symm.trans h) H locs ls hZ hS hl) (fun c => kf ((if_neg c).symm.trans h) H locs ls hZ hS hl)
theorem tv_icmp_ne (X : Fx Γ Ω A cc nL own rm ret) {x y : Int32} {off : Int} (tgt : Nat) {ρ : Type} {r : ρ} {P1 P2 : Option ρ} (hd : decode cc pc = .ok (.if_icmp .ne off, 3)) (ht : (pc : Int) + off = (tgt : Int)) (h : (if x = y then P2 else P1) = some r) (kt : P1 = some r → V Γ cs Q A nL Z tgt lv st) (kf : P2 = some r → V Γ cs Q A nL Z (pc + 3) lv st) : V Γ cs Q A nL Z pc lv (.int y :: .int x :: st) := fun H locs ls hZ hS hl => lv_icmp_ne X.1.1 X.1.2.1 hd ht (fun c => kt ((if_neg c).symm.trans h) H locs ls hZ hS hl) (fun c => kf ((if_pos c).symm.trans h) H locs ls hZ hS hl)
theorem tv_if_ne (X : Fx Γ Ω A cc nL own rm ret) {x : Int32} {off : Int} (tgt : Nat) {ρ : Type} {r : ρ} {P1 P2 : Option ρ} (hd : decode cc pc = .ok (.ifCond .ne off, 3)) (ht : (pc : Int) + off = (tgt : Int)) (h : (if x = 0 then P2 else P1) = some r) (kt : P1 = some r → V Γ cs Q A nL Z tgt lv st) (kf : P2 = some r → V Γ cs Q A nL Z (pc + 3) lv st) : V Γ cs Q A nL Z pc lv (.int x :: st) := fun H locs ls hZ hS hl => lv_if_ne X.1.1 X.1.2.1 hd ht (fun c => kt ((if_neg c).symm.trans h) H locs ls hZ hS hl) (fun c => kf ((if_pos c).symm.trans h) H locs ls hZ hS hl)
theorem tv_icmp_lt (X : Fx Γ Ω A cc nL own rm ret) {x y : Int32} {off : Int} (tgt : Nat) {ρ : Type} {r : ρ} {P1 P2 : Option ρ} (hd : decode cc pc = .ok (.if_icmp .lt off, 3)) (ht : (pc : Int) + off = (tgt : Int)) (h : (if x < y then P1 else P2) = some r) (kt : P1 = some r → V Γ cs Q A nL Z tgt lv st) (kf : P2 = some r → V Γ cs Q A nL Z (pc + 3) lv st) : V Γ cs Q A nL Z pc lv (.int y :: .int x :: st) := fun H locs ls hZ hS hl => lv_icmp_lt X.1.1 X.1.2.1 hd ht (fun c => kt ((if_pos c).symm.trans h) H locs ls hZ hS hl) (fun c => kf ((if_neg c).symm.trans h) H locs ls hZ hS hl)
theorem tv_if_lt (X : Fx Γ Ω A cc nL own rm ret) {x : Int32} {off : Int} (tgt : Nat) {ρ : Type} {r : ρ} {P1 P2 : Option ρ} (hd : decode cc pc = .ok (.ifCond .lt off, 3)) (ht : (pc : Int) + off = (tgt : Int)) (h : (if x < 0 then P1 else P2) = some r) (kt : P1 = some r → V Γ cs Q A nL Z tgt lv st) (kf : P2 = some r → V Γ cs Q A nL Z (pc + 3) lv st) : V Γ cs Q A nL Z pc lv (.int x :: st) := fun H locs ls hZ hS hl => lv_if_lt X.1.1 X.1.2.1 hd ht (fun c => kt ((if_pos c).symm.trans h) H locs ls hZ hS hl) (fun c => kf ((if_neg c).symm.trans h) H locs ls hZ hS hl)
theorem tv_icmp_ge (X : Fx Γ Ω A cc nL own rm ret) {x y : Int32} {off : Int} (tgt : Nat) {ρ : Type} {r : ρ} {P1 P2 : Option ρ} (hd : decode cc pc = .ok (.if_icmp .ge off, 3)) (ht : (pc : Int) + off = (tgt : Int)) (h : (if y ≤ x then P1 else P2) = some r) (kt : P1 = some r → V Γ cs Q A nL Z tgt lv st) (kf : P2 = some r → V Γ cs Q A nL Z (pc + 3) lv st) : V Γ cs Q A nL Z pc lv (.int y :: .int x :: st) := fun H locs ls hZ hS hl => lv_icmp_ge X.1.1 X.1.2.1 hd ht (fun c => kt ((if_pos c).symm.trans h) H locs ls hZ hS hl) (fun c => kf ((if_neg c).symm.trans h) H locs ls hZ hS hl)
theorem tv_if_ge (X : Fx Γ Ω A cc nL own rm ret) {x : Int32} {off : Int} (tgt : Nat) {ρ : Type} {r : ρ} {P1 P2 : Option ρ} (hd : decode cc pc = .ok (.ifCond .ge off, 3)) (ht : (pc : Int) + off = (tgt : Int)) (h : (if 0 ≤ x then P1 else P2) = some r) (kt : P1 = some r → V Γ cs Q A nL Z tgt lv st) (kf : P2 = some r → V Γ cs Q A nL Z (pc + 3) lv st) : V Γ cs Q A nL Z pc lv (.int x :: st) := fun H locs ls hZ hS hl => lv_if_ge X.1.1 X.1.2.1 hd ht (fun c => kt ((if_pos c).symm.trans h) H locs ls hZ hS hl) (fun c => kf ((if_neg c).symm.trans h) H locs ls hZ hS hl)
theorem tv_icmp_gt (X : Fx Γ Ω A cc nL own rm ret) {x y : Int32} {off : Int} (tgt : Nat) {ρ : Type} {r : ρ} {P1 P2 : Option ρ} (hd : decode cc pc = .ok (.if_icmp .gt off, 3)) (ht : (pc : Int) + off = (tgt : Int)) (h : (if y < x then P1 else P2) = some r) (kt : P1 = some r → V Γ cs Q A nL Z tgt lv st) (kf : P2 = some r → V Γ cs Q A nL Z (pc + 3) lv st) : V Γ cs Q A nL Z pc lv (.int y :: .int x :: st) := fun H locs ls hZ hS hl => lv_icmp_gt X.1.1 X.1.2.1 hd ht (fun c => kt ((if_pos c).symm.trans h) H locs ls hZ hS hl) (fun c => kf ((if_neg c).symm.trans h) H locs ls hZ hS hl)
theorem tv_if_gt (X : Fx Γ Ω A cc nL own rm ret) {x : Int32} {off : Int} (tgt : Nat) {ρ : Type} {r : ρ} {P1 P2 : Option ρ} (hd : decode cc pc = .ok (.ifCond .gt off, 3)) (ht : (pc : Int) + off = (tgt : Int)) (h : (if 0 < x then P1 else P2) = some r) (kt : P1 = some r → V Γ cs Q A nL Z tgt lv st) (kf : P2 = some r → V Γ cs Q A nL Z (pc + 3) lv st) : V Γ cs Q A nL Z pc lv (.int x :: st) := fun H locs ls hZ hS hl => lv_if_gt X.1.1 X.1.2.1 hd ht (fun c => kt ((if_pos c).symm.trans h) H locs ls hZ hS hl) (fun c => kf ((if_neg c).symm.trans h) H locs ls hZ hS hl)
theorem tv_icmp_le (X : Fx Γ Ω A cc nL own rm ret) {x y : Int32} {off : Int} (tgt : Nat) {ρ : Type} {r : ρ} {P1 P2 : Option ρ} (hd : decode cc pc = .ok (.if_icmp .le off, 3)) (ht : (pc : Int) + off = (tgt : Int)) (h : (if x ≤ y then P1 else P2) = some r) (kt : P1 = some r → V Γ cs Q A nL Z tgt lv st) (kf : P2 = some r → V Γ cs Q A nL Z (pc + 3) lv st) : V Γ cs Q A nL Z pc lv (.int y :: .int x :: st) := fun H locs ls hZ hS hl => lv_icmp_le X.1.1 X.1.2.1 hd ht (fun c => kt ((if_pos c).symm.trans h) H locs ls hZ hS hl) (fun c => kf ((if_neg c).symm.trans h) H locs ls hZ hS hl)
theorem tv_if_le (X : Fx Γ Ω A cc nL own rm ret) {x : Int32} {off : Int} (tgt : Nat) {ρ : Type} {r : ρ} {P1 P2 : Option ρ} (hd : decode cc pc = .ok (.ifCond .le off, 3)) (ht : (pc : Int) + off = (tgt : Int)) (h : (if x ≤ 0 then P1 else P2) = some r) (kt : P1 = some r → V Γ cs Q A nL Z tgt lv st) (kf : P2 = some r → V Γ cs Q A nL Z (pc + 3) lv st) : V Γ cs Q A nL Z pc lv (.int x :: st) := fun H locs ls hZ hS hl => lv_if_le X.1.1 X.1.2.1 hd ht (fun c => kt ((if_pos c).symm.trans h) H locs ls hZ hS hl) (fun c => kf ((if_neg c).symm.trans h) H locs ls hZ hS hl)
end Rows
/-! the pure side: states, and the words of which the methods' functions are made -/
abbrev St : Type := (Nat → Nat → Int32) × (Nat → Nat → Nat) × (Nat → Nat → Nat → Int32)
def gi (σ : St) (f i : Nat) : Int32 := σ.1 f i
def gr (σ : St) (f i : Nat) : Nat := σ.2.1 f i
def ga (σ : St) (f i : Nat) : Nat → Int32 := σ.2.2 f i
def si (σ : St) (f i : Nat) (v : Int32) : St := (up2 σ.1 f i v, σ.2.1, σ.2.2)
def sr (σ : St) (f i : Nat) (v : Nat) : St := (σ.1, up2 σ.2.1 f i v, σ.2.2)
/-- a whole array is another one -/
def sg (σ : St) (f i : Nat) (g : Nat → Int32) : St := (σ.1, σ.2.1, up2 σ.2.2 f i g)
/-- one place of an array -/
def sa (σ : St) (f i j : Nat) (v : Int32) : St := sg σ f i (upd (ga σ f i) j v)
def bnd {α β : Type} (a : α) (K : α → β) : β := K a
/-- a place of an array of n, if there is one -/
def ck {α : Type} (x : Int32) (n : Nat) (K : Nat → Option α) : Option α := if 0 ≤ x.toInt ∧ x.toInt < (n : Int) then K x.toInt.toNat else none
def cq {α : Type} (P : Bool) (K : Option α) : Option α := if P = true then K else none
def cl {α β : Type} (m : Option (St × α)) (K : St → α → Option β) : Option β := match m with
  | none => none
  | some p => K p.1 p.2
theorem ck_some {α : Type} {x : Int32} {n : Nat} {K : Nat → Option α} {r : α} (h : ck x n K = some r) : vp_in x n ∧ x.toNatClampNeg < n ∧ K x.toNatClampNeg = some r := by
  unfold ck at h
  by_cases hc : 0 ≤ x.toInt ∧ x.toInt < (n : Int)
  · rw [if_pos hc] at h
    refine ⟨vp_in_iff.mpr hc, ?_, h⟩
    show x.toInt.toNat < n
    omega
  · rw [if_neg hc] at h
    cases h
theorem cq_some {α : Type} {P : Bool} {K : Option α} {r : α} (h : cq P K = some r) : P = true ∧ K = some r := by
  unfold cq at h
  cases P with
  | true => exact ⟨rfl, h⟩
  | false => cases h
theorem cl_some {α β : Type} {m : Option (St × α)} {K : St → α → Option β} {r : β} (h : cl m K = some r) : ∃ (σ : St) (a : α), m = some (σ, a) ∧ K σ a = some r := by
  cases m with
  | none => cases h
  | some p => exact ⟨p.1, p.2, rfl, h⟩
abbrev Qci (Zf : St → Heap → Prop) (A : Nat → Prop) (res : St × Int32) : Array Value → State → Outcome → State → Prop := va_Qi (S := St) (fun x u => (u, x) = res) (fun u t => Zf u t.heap) A
abbrev Qcl (Zf : St → Heap → Prop) (A : Nat → Prop) (res : St × Int64) : Array Value → State → Outcome → State → Prop := va_Ql (S := St) (fun x u => (u, x) = res) (fun u t => Zf u t.heap) A
abbrev Qcv (Zf : St → Heap → Prop) (A : Nat → Prop) (res : St × Unit) : Array Value → State → Outcome → State → Prop := va_Qv (S := St) (fun u => (u, ()) = res) (fun u t => Zf u t.heap) A
abbrev Qcr (Ω : Wd) (Zf : St → Heap → Prop) (A : Nat → Prop) (res : St × Nat) : Array Value → State → Outcome → State → Prop := va_Qr (S := St × Nat) (fun u => u = res) (fun u a t => a = Ω.2.2.1 u.2 ∧ Zf u.1 t.heap) A
section Rows2
variable {Γ : Cx} {cs : Nat × Nat} {Q : State → Prop} {A : Nat → Prop} {nL : Nat} {Z : Heap → Prop} {pc : Nat} {lv lv' : List (Nat × Value)} {st stk : List Value} {Ω : Wd} {cc : ByteArray} {own : String} {rm : Room} {ret : Option FieldType} {Zf : St → Heap → Prop} {σ : St} {ρ : Type} {r : ρ}
theorem tv_nm {e : Int32} {K : Int32 → Option ρ} (h : bnd e K = some r) (k : ∀ x : Int32, K x = some r → V Γ cs Q A nL Z pc lv (.int x :: st)) : V Γ cs Q A nL Z pc lv (.int e :: st) := k e h
theorem tv_nl {e : Int64} {K : Int64 → Option ρ} (h : bnd e K = some r) (k : ∀ x : Int64, K x = some r → V Γ cs Q A nL Z pc lv (.long x :: st)) : V Γ cs Q A nL Z pc lv (.long e :: st) := k e h
theorem tv_ns {e : St} {K : St → Option ρ} (h : bnd e K = some r) (k : ∀ σ : St, K σ = some r → V Γ cs Q A nL (Zf σ) pc lv st) : V Γ cs Q A nL (Zf e) pc lv st := k e h
theorem tv_iret {x : Int32} {res : St × Int32} (X : Fx Γ Ω A cc nL own rm (some .int)) (hd : decode cc pc = .ok (.ireturn, 1)) (h : some (σ, x) = some res) : V Γ cs (Qe Γ cs A (Qci Zf A res)) A nL (Zf σ) pc lv [.int x] :=
  fun H locs ls hZ hS hl => W.iret (hlocks := X.2.2.1) X.1.1 X.1.2.1 X.2.2.2.2 (fun t ht hW => ⟨⟨x, σ, rfl, Option.some.inj h, (show Zf σ t.heap by rw [ht]; exact hZ)⟩, hS.F ht⟩) hS.2.2 hd
theorem tv_zret {x : Int32} {res : St × Int32} (X : Fx Γ Ω A cc nL own rm (some .boolean)) (hd : decode cc pc = .ok (.ireturn, 1)) (hx : x = 0 ∨ x = 1) (h : some (σ, x) = some res) : V Γ cs (Qe Γ cs A (Qci Zf A res)) A nL (Zf σ) pc lv [.int x] :=
  fun H locs ls hZ hS hl => W.zret (hlocks := X.2.2.1) X.1.1 X.1.2.1 X.2.2.2.2 (by rcases hx with rfl | rfl <;> rfl) (fun t ht hW => ⟨⟨x, σ, rfl, Option.some.inj h, (show Zf σ t.heap by rw [ht]; exact hZ)⟩, hS.F ht⟩) hS.2.2 hd
theorem tv_lret {x : Int64} {res : St × Int64} (X : Fx Γ Ω A cc nL own rm (some .long)) (hd : decode cc pc = .ok (.lreturn, 1)) (h : some (σ, x) = some res) : V Γ cs (Qe Γ cs A (Qcl Zf A res)) A nL (Zf σ) pc lv [.long x] :=
  fun H locs ls hZ hS hl => W.lret (hlocks := X.2.2.1) X.1.1 X.1.2.1 X.2.2.2.2 (fun t ht hW => ⟨⟨x, σ, rfl, Option.some.inj h, (show Zf σ t.heap by rw [ht]; exact hZ)⟩, hS.F ht⟩) hS.2.2 hd
theorem tv_vret {res : St × Unit} (X : Fx Γ Ω A cc nL own rm none) (hd : decode cc pc = .ok (.return_, 1)) (h : some (σ, ()) = some res) : V Γ cs (Qe Γ cs A (Qcv Zf A res)) A nL (Zf σ) pc lv [] :=
  fun H locs ls hZ hS hl => W.vret (hlocks := X.2.2.1) X.1.1 X.1.2.1 X.2.2.2.2 (fun t ht hW => ⟨⟨σ, rfl, Option.some.inj h, (show Zf σ t.heap by rw [ht]; exact hZ)⟩, hS.F ht⟩) hS.2.2 hd
theorem tv_sret {x : Nat} {res : St × Nat} (X : Fx Γ Ω A cc nL own rm (some (.object "java/lang/String"))) (hd : decode cc pc = .ok (.areturn, 1)) (h : some (σ, x) = some res) : V Γ cs (Qe Γ cs A (Qcr Ω Zf A res)) A nL (Zf σ) pc lv [.ref (Ω.2.2.1 x)] :=
  fun H locs ls hZ hS hl => W.aret (hlocks := X.2.2.1) X.1.1 X.1.2.1 X.2.2.2.2 (Or.inl ⟨_, rfl⟩) (Or.inr ⟨_, rfl⟩) (fun t ht hW => ⟨⟨(σ, x), _, rfl, Option.some.inj h, rfl, (show Zf σ t.heap by rw [ht]; exact hZ)⟩, hS.F ht⟩) hS.2.2 hd
theorem tv_tableIn {dflt lo hi : Int} {offs : Array Int} {len : Nat} {x : Int32} {off : Int} (tgt : Nat) (X : Fx Γ Ω A cc nL own rm ret) (hd : decode cc pc = .ok (.tableswitch dflt lo hi offs, len)) (h1 : ¬ x.toInt < lo) (h2 : ¬ hi < x.toInt) (ho : offs[(x.toInt - lo).toNat]? = some off) (ht : (pc : Int) + off = (tgt : Int)) (k : V Γ cs Q A nL Z tgt lv st) : V Γ cs Q A nL Z pc lv (.int x :: st) := fun H locs ls hZ hS hl => lv_tableIn X.1.1 X.1.2.1 hd h1 h2 ho ht (k H locs ls hZ hS hl)
theorem tv_tableOut {dflt lo hi : Int} {offs : Array Int} {len : Nat} {x : Int32} (tgt : Nat) (X : Fx Γ Ω A cc nL own rm ret) (hd : decode cc pc = .ok (.tableswitch dflt lo hi offs, len)) (h : x.toInt < lo ∨ hi < x.toInt) (ht : (pc : Int) + dflt = (tgt : Int)) (k : V Γ cs Q A nL Z tgt lv st) : V Γ cs Q A nL Z pc lv (.int x :: st) := fun H locs ls hZ hS hl => lv_tableOut X.1.1 X.1.2.1 hd h ht (k H locs ls hZ hS hl)
theorem tv_lookup {dflt : Int} {ps : Array (Int × Int)} {len : Nat} {x : Int32} {off : Int} (tgt : Nat) (X : Fx Γ Ω A cc nL own rm ret) (hd : decode cc pc = .ok (.lookupswitch dflt ps, len)) (hp : (ps.toList.zip (ps.toList.drop 1)).all (fun (a, next) => a.1 < next.1) = true) (ho : Op.lookupswitch.offset ps.toList dflt x.toInt = off) (ht : (pc : Int) + off = (tgt : Int)) (k : V Γ cs Q A nL Z tgt lv st) : V Γ cs Q A nL Z pc lv (.int x :: st) := fun H locs ls hZ hS hl => lv_lookup X.1.1 X.1.2.1 hd hp ho ht (k H locs ls hZ hS hl)
theorem ne_toInt {x k : Int32} (z : Int) (h : ¬ x = k) (hk : k.toInt = z) : ¬ x.toInt = z := fun e => h (Int32.toInt_inj.mp (e.trans hk.symm))
/-- a String constant out of the pool -/
theorem tv_ldcS (X : Fx Γ Ω A cc nL own rm ret) {index : Nat} {tx : String} (i : Nat) (hq : (own, index, tx, i) ∈ stRef) (hd : decode cc pc = .ok (.ldc index, 2)) (k : V Γ cs Q A nL Z (pc + 2) lv (.ref (Ω.2.2.1 i) :: st)) : V Γ cs Q A nL Z pc lv st := fun H locs ls hZ hS hl => va_ldcS X.1.1 X.1.2.1 X.1.2.2.2.1 (X.2.1.2.2.1 _ hq) hd (k H locs ls hZ hS hl)
section Mem
variable {cnt : List Nat} {ad : Nat → Nat → Nat} {E : Nat → Nat → va_E} {f i : Nat}
theorem PP.recv {s : State} {H : Heap} {ci : Nat} {C : String} {T : u_T} {N : Nat} {fs : List Value} (hK : KK Ω A s) (hZ : PP Ω cnt ad A E H) (hi : i < cnt.getD f 0) (hE : E f i = .inr (ci, fs)) (hc : vwCl[ci]? = some (C, T, N)) : ∃ cell : Cell, H[ad f i]? = some cell ∧ cell.vm.isStatics = false ∧ s.vm.findClass C = some cell.cls := by
  obtain ⟨q, hq⟩ := enumL_at hi
  exact va_recv hK.1 hZ.1 (q0 := q) hc ((wsE_at hq).trans (by rw [hE]))
theorem tv_get (X : Fx Γ Ω A cc nL own rm ret) {ci k index N : Nat} {C : String} {T : u_T} {fs : List Value} {v : Value} (hZ : ∀ H, Z H → PP Ω cnt ad A E H) (hi : i < cnt.getD f 0) (hE : E f i = .inr (ci, fs)) (hc : vwCl[ci]? = some (C, T, N)) (hin : ∀ w ∈ u_ws C T N, w ∈ GW) (hk : k < N) (hlk : Cond.fieldLink own index (T k).1 (T k).2.1 (T k).2.2.1 ∈ GW) (hv : fs[k]? = some v) (hd : decode cc pc = .ok (.getfield index, 3))
    (kk : V Γ cs Q A nL Z (pc + 3) lv (v :: st)) : V Γ cs Q A nL Z pc lv (.ref (ad f i) :: st) := by
  intro H locs ls hz hS hl
  obtain ⟨q, hq⟩ := enumL_at hi
  exact va_get (ref := (T k).1) X.1.1 X.1.2.1 X.1.2.2.2.2 hin X.1.2.2.2.1 X.2.1.1 (hZ H hz).1 q ((wsE_at hq).trans (by rw [hE])) hc k hk (X.1.2.2.2.2 _ hlk) (fun _ h => h) hv hd (kk H locs ls hz hS hl)
theorem tv_put (X : Fx Γ Ω A cc nL own rm ret) {Z' : Heap → Prop} {ci k index N : Nat} {C : String} {T : u_T} {ty0 : Nat → FieldType} {fs : List Value} {v : Value} {ty : FieldType} (hZ : ∀ H, Z H → PP Ω cnt ad A E H) (hZ' : ∀ H0 H, Z H0 → PP Ω cnt ad A (up2 E f i (.inr (ci, fs.set k v))) H → Z' H) (hi : i < cnt.getD f 0) (hE : E f i = .inr (ci, fs)) (hc : vwCl[ci]? = some (C, T, N)) (hin : ∀ w ∈ u_ws C T N, w ∈ GW) (hty : ∀ k, k < N → parseFieldDescriptor (T k).2.2.1 = some (ty0 k)) (hnm : ∀ a, a < N → ∀ b, b < N → a ≠ b → (T a).2.1 ≠ (T b).2.1) (hk : k < N) (hlk : Cond.fieldLink own index (T k).1 (T k).2.1 (T k).2.2.1 ∈ GW) (hfin : (T k).2.2.2 = false) (hd1 : parseFieldDescriptor (T k).2.2.1 = some ty) (hn : narrow ty v = v) (hfit : fits ty v = true) (hlen : k < fs.length) (hd : decode cc pc = .ok (.putfield index, 3))
    (kk : V Γ cs Q A nL Z' (pc + 3) lv st) : V Γ cs Q A nL Z pc lv (v :: .ref (ad f i) :: st) := by
  intro H locs ls hz hS hl
  obtain ⟨q, hq⟩ := enumL_at hi
  refine va_put (ref := (T k).1) X.1.1 X.1.2.1 X.1.2.2.2.2 hin ty0 hty hnm X.1.2.2.2.1 X.2.1.1 (hZ H hz).1 (hZ H hz).2 hS q ((wsE_at hq).trans (by rw [hE])) hc k hk (X.1.2.2.2.2 _ hlk) (fun _ h => h) hfin hd1 hn hfit hlen hd (fun H1 locs1 h1 h2 h3 => ?_)
  rw [wsE_set (hZ H hz).2 hq] at h1 h2
  exact kk H1 locs1 ls (hZ' H H1 hz ⟨h1, h2⟩) h3 hl
theorem tv_alen (X : Fx Γ Ω A cc nL own rm ret) (t : Nat) {ty : FieldType} {x : vp_A} (v : Int32) (hZ : ∀ H, Z H → PP Ω cnt ad A E H) (hi : i < cnt.getD f 0) (hE : E f i = .inl (Ω.2.1 t, x)) (ht : (tysW Ω.2.1)[t]? = some (Ω.2.1 t, ty)) (hv : Int32.ofNat x.1 = v) (hd : decode cc pc = .ok (.arraylength, 1))
    (kk : V Γ cs Q A nL Z (pc + 1) lv (.int v :: st)) : V Γ cs Q A nL Z pc lv (.ref (ad f i) :: st) := by
  intro H locs ls hz hS hl
  obtain ⟨q, hq⟩ := enumL_at hi
  exact va_alen X.1.1 X.1.2.1 X.2.1.1 (hZ H hz).1 q t ((wsE_at hq).trans (by rw [hE])) ht hv hd (kk H locs ls hz hS hl)
theorem tv_iald (X : Fx Γ Ω A cc nL own rm ret) {n : Nat} {g : Nat → Int32} {x : Int32} {K : Nat → Option ρ} (hZ : ∀ H, Z H → PP Ω cnt ad A E H) (hi : i < cnt.getD f 0) (hE : E f i = .inl (Ω.2.1 0, n, .inl g)) (hd : decode cc pc = .ok (.iaload, 1)) (h : ck x n K = some r)
    (kk : ∀ j, j < n → K j = some r → V Γ cs Q A nL Z (pc + 1) lv (.int (g j) :: st)) : V Γ cs Q A nL Z pc lv (.int x :: .ref (ad f i) :: st) := by
  obtain ⟨h1, h2, h3⟩ := ck_some h
  intro H locs ls hz hS hl
  obtain ⟨q, hq⟩ := enumL_at hi
  exact va_iald X.1.1 X.1.2.1 X.2.1.1 (hZ H hz).1 q 0 ((wsE_at hq).trans (by rw [hE])) rfl h1 hd (kk _ h2 h3 H locs ls hz hS hl)
theorem tv_bald (X : Fx Γ Ω A cc nL own rm ret) {n : Nat} {g : Nat → Int32} {x : Int32} {K : Nat → Option ρ} (hZ : ∀ H, Z H → PP Ω cnt ad A E H) (hi : i < cnt.getD f 0) (hE : E f i = .inl (Ω.2.1 1, n, .inl g)) (hd : decode cc pc = .ok (.baload, 1)) (h : ck x n K = some r)
    (kk : ∀ j, j < n → K j = some r → V Γ cs Q A nL Z (pc + 1) lv (.int (g j) :: st)) : V Γ cs Q A nL Z pc lv (.int x :: .ref (ad f i) :: st) := by
  obtain ⟨h1, h2, h3⟩ := ck_some h
  intro H locs ls hz hS hl
  obtain ⟨q, hq⟩ := enumL_at hi
  exact va_bald X.1.1 X.1.2.1 X.2.1.1 (hZ H hz).1 q 1 ((wsE_at hq).trans (by rw [hE])) rfl h1 hd (kk _ h2 h3 H locs ls hz hS hl)
theorem tv_zald (X : Fx Γ Ω A cc nL own rm ret) {n : Nat} {g : Nat → Int32} {x : Int32} {K : Nat → Option ρ} (hZ : ∀ H, Z H → PP Ω cnt ad A E H) (hi : i < cnt.getD f 0) (hE : E f i = .inl (Ω.2.1 3, n, .inl g)) (hd : decode cc pc = .ok (.baload, 1)) (h : ck x n K = some r)
    (kk : ∀ j, j < n → K j = some r → V Γ cs Q A nL Z (pc + 1) lv (.int (g j) :: st)) : V Γ cs Q A nL Z pc lv (.int x :: .ref (ad f i) :: st) := by
  obtain ⟨h1, h2, h3⟩ := ck_some h
  intro H locs ls hz hS hl
  obtain ⟨q, hq⟩ := enumL_at hi
  exact va_zald X.1.1 X.1.2.1 X.2.1.1 (hZ H hz).1 q 3 ((wsE_at hq).trans (by rw [hE])) rfl h1 hd (kk _ h2 h3 H locs ls hz hS hl)
theorem tv_lald (X : Fx Γ Ω A cc nL own rm ret) {n : Nat} {g : Nat → Int64} {x : Int32} {K : Nat → Option ρ} (hZ : ∀ H, Z H → PP Ω cnt ad A E H) (hi : i < cnt.getD f 0) (hE : E f i = .inl (Ω.2.1 2, n, .inr (.inl g))) (hd : decode cc pc = .ok (.laload, 1)) (h : ck x n K = some r)
    (kk : ∀ j, j < n → K j = some r → V Γ cs Q A nL Z (pc + 1) lv (.long (g j) :: st)) : V Γ cs Q A nL Z pc lv (.int x :: .ref (ad f i) :: st) := by
  obtain ⟨h1, h2, h3⟩ := ck_some h
  intro H locs ls hz hS hl
  obtain ⟨q, hq⟩ := enumL_at hi
  exact va_lald X.1.1 X.1.2.1 X.2.1.1 (hZ H hz).1 q 2 ((wsE_at hq).trans (by rw [hE])) rfl h1 hd (kk _ h2 h3 H locs ls hz hS hl)
theorem tv_aald (X : Fx Γ Ω A cc nL own rm ret) (t : Nat) {C : String} {n : Nat} {g : Nat → Option Nat} {x : Int32} {K : Nat → Option ρ} (hZ : ∀ H, Z H → PP Ω cnt ad A E H) (hi : i < cnt.getD f 0) (hE : E f i = .inl (Ω.2.1 t, n, .inr (.inr (.inr (.inr g))))) (ht : (tysW Ω.2.1)[t]? = some (Ω.2.1 t, .object C)) (hd : decode cc pc = .ok (.aaload, 1)) (h : ck x n K = some r)
    (kk : ∀ j, j < n → K j = some r → V Γ cs Q A nL Z (pc + 1) lv (va_rf (g j) :: st)) : V Γ cs Q A nL Z pc lv (.int x :: .ref (ad f i) :: st) := by
  obtain ⟨h1, h2, h3⟩ := ck_some h
  intro H locs ls hz hS hl
  obtain ⟨q, hq⟩ := enumL_at hi
  exact va_aldq X.1.1 X.1.2.1 X.2.1.1 (hZ H hz).1 q t ((wsE_at hq).trans (by rw [hE])) ht h1 hd (kk _ h2 h3 H locs ls hz hS hl)
theorem tv_iast (X : Fx Γ Ω A cc nL own rm ret) {Z' : Nat → Heap → Prop} {n : Nat} {g : Nat → Int32} {x v : Int32} {K : Nat → Option ρ} (hZ : ∀ H, Z H → PP Ω cnt ad A E H) (hi : i < cnt.getD f 0) (hE : E f i = .inl (Ω.2.1 0, n, .inl g)) (hZ' : ∀ H0 H j, Z H0 → PP Ω cnt ad A (up2 E f i (.inl (Ω.2.1 0, n, .inl (upd g j v)))) H → Z' j H) (hd : decode cc pc = .ok (.iastore, 1)) (h : ck x n K = some r)
    (kk : ∀ j, j < n → K j = some r → V Γ cs Q A nL (Z' j) (pc + 1) lv st) : V Γ cs Q A nL Z pc lv (.int v :: .int x :: .ref (ad f i) :: st) := by
  obtain ⟨h1, h2, h3⟩ := ck_some h
  intro H locs ls hz hS hl
  obtain ⟨q, hq⟩ := enumL_at hi
  refine va_iast X.1.1 X.1.2.1 X.2.1.1 (hZ H hz).1 (hZ H hz).2 hS q 0 ((wsE_at hq).trans (by rw [hE])) rfl h1 hd (fun H1 locs1 g1 g2 g3 => ?_)
  rw [wsE_set (hZ H hz).2 hq] at g1 g2
  exact kk _ h2 h3 H1 locs1 ls (hZ' H H1 _ hz ⟨g1, g2⟩) g3 hl
theorem tv_bast (X : Fx Γ Ω A cc nL own rm ret) {Z' : Nat → Heap → Prop} {n : Nat} {g : Nat → Int32} {x v : Int32} {K : Nat → Option ρ} (hZ : ∀ H, Z H → PP Ω cnt ad A E H) (hi : i < cnt.getD f 0) (hE : E f i = .inl (Ω.2.1 1, n, .inl g)) (hZ' : ∀ H0 H j, Z H0 → PP Ω cnt ad A (up2 E f i (.inl (Ω.2.1 1, n, .inl (upd g j (vp_nar .byte v))))) H → Z' j H) (hd : decode cc pc = .ok (.bastore, 1)) (h : ck x n K = some r)
    (kk : ∀ j, j < n → K j = some r → V Γ cs Q A nL (Z' j) (pc + 1) lv st) : V Γ cs Q A nL Z pc lv (.int v :: .int x :: .ref (ad f i) :: st) := by
  obtain ⟨h1, h2, h3⟩ := ck_some h
  intro H locs ls hz hS hl
  obtain ⟨q, hq⟩ := enumL_at hi
  refine va_bast X.1.1 X.1.2.1 X.2.1.1 (hZ H hz).1 (hZ H hz).2 hS q 1 ((wsE_at hq).trans (by rw [hE])) rfl h1 hd (fun H1 locs1 g1 g2 g3 => ?_)
  rw [wsE_set (hZ H hz).2 hq] at g1 g2
  exact kk _ h2 h3 H1 locs1 ls (hZ' H H1 _ hz ⟨g1, g2⟩) g3 hl
theorem tv_zast (X : Fx Γ Ω A cc nL own rm ret) {Z' : Nat → Heap → Prop} {n : Nat} {g : Nat → Int32} {x v : Int32} {K : Nat → Option ρ} (hZ : ∀ H, Z H → PP Ω cnt ad A E H) (hi : i < cnt.getD f 0) (hE : E f i = .inl (Ω.2.1 3, n, .inl g)) (hZ' : ∀ H0 H j, Z H0 → PP Ω cnt ad A (up2 E f i (.inl (Ω.2.1 3, n, .inl (upd g j (vp_nar .boolean v))))) H → Z' j H) (hd : decode cc pc = .ok (.bastore, 1)) (h : ck x n K = some r)
    (kk : ∀ j, j < n → K j = some r → V Γ cs Q A nL (Z' j) (pc + 1) lv st) : V Γ cs Q A nL Z pc lv (.int v :: .int x :: .ref (ad f i) :: st) := by
  obtain ⟨h1, h2, h3⟩ := ck_some h
  intro H locs ls hz hS hl
  obtain ⟨q, hq⟩ := enumL_at hi
  refine va_zast X.1.1 X.1.2.1 X.2.1.1 (hZ H hz).1 (hZ H hz).2 hS q 3 ((wsE_at hq).trans (by rw [hE])) rfl h1 hd (fun H1 locs1 g1 g2 g3 => ?_)
  rw [wsE_set (hZ H hz).2 hq] at g1 g2
  exact kk _ h2 h3 H1 locs1 ls (hZ' H H1 _ hz ⟨g1, g2⟩) g3 hl
end Mem
/-! calls -/
section Calls
variable {y : MethodName} {b : ByteArray} {n index np : Nat} {rt : Option FieldType} {rm2 : Room} {a : Nat} {As : List Value}
/-- what a call needs of the tables and of the room -/
def Cw (own : String) (index : Nat) (y : MethodName) (b : ByteArray) (n : Nat) (rt : Option FieldType) (np : Nat) (rm2 rm : Room) : Prop :=
  Cond.code y b n rt ∈ GW ∧ Cond.methodLink own index y ∈ GW ∧ Cond.initialized y.cls ∈ GW ∧ (y.cls ≠ "java/lang/invoke/MethodHandle" ∧ y.cls ≠ "java/lang/invoke/VarHandle" ∧ (parseMethodDescriptor y.desc).map (fun d => d.parameters.length) = some np) ∧ rm2.cells = 0 ∧ rm2.slots = 0 ∧ (rm2.frames + 1 ≤ rm.frames ∧ 8 + (n + 11) + rm2.locals ≤ rm.locals)
theorem Cw.cb (X : Fx Γ Ω A cc nL own rm ret) (w : Cw own index y b n rt np rm2 rm) : CallB Γ.2.2.2.1 Γ.2.2.2.2.1 Γ.2.2.2.2.2.2.1 own index y b n rt (wsO y b n rt) rm2 0 0 np := by
  obtain ⟨h1, h2, h3, h4, h5, h6, h7⟩ := w
  exact callB_of np X.1.2.2.2.2 (gw_in h1) rfl h5 h6 (X.1.2.2.2.2 _ h3) (X.1.2.2.2.2 _ h2) h4 (by rw [X.2.2.2.1]; exact h7)
theorem tv_runV {Qc : Array Value → State → Outcome → State → Prop} {H : Heap} {locs : List Loc} {ls : Array Slot} (X : Fx Γ Ω A cc nL own rm ret) (hM : Met Γ.2.1 y (wsO y b n rt) rm2 (PcZ Ω A Z (.ref a :: As)) Qc 0 0 A) (w : Cw own index y b n rt np rm2 rm) (hin : Cond.instanceMethod y ∈ GW) (hse : Cond.selects y.cls y y ∈ GW) (hrc : ∃ cell : Cell, H[a]? = some cell ∧ cell.vm.isStatics = false ∧ Γ.2.2.2.2.1.vm.findClass y.cls = some cell.cls) (hn : As.length = np) (hsk : stk = As.reverse ++ .ref a :: st) (hcat : (st.map fun v => v.category).sum ≤ 8) (hd : decode cc pc = .ok (.invokevirtual index, 3)) (hz : Z H) (hS : va_S A Γ.2.2.2.2.1.heap H locs) (hl : lv_has ls nL lv) (hcs : cs.1 ≤ rm.cells ∧ cs.2 ≤ rm.slots) :
    va_Run Γ.1 Γ.2.1 Γ.2.2.1 Γ.2.2.2.1 Γ.2.2.2.2.1 Γ.2.2.2.2.2.1 Γ.2.2.2.2.2.2.1 Γ.2.2.2.2.2.2.2.1 Γ.2.2.2.2.2.2.2.2.1 Γ.2.2.2.2.2.2.2.2.2 H locs cs.1 cs.2 0 0 (F0 Γ.2.2.2.2.2.1 pc ls stk) st (Qc (Value.ref a :: As).toArray) A :=
  va_runV (C := y.cls) (As := As) (rest := st) X.1 hM ⟨w.cb X, X.1.2.2.2.2 _ hin, X.1.2.2.2.2 _ hse⟩ ⟨PcZ.blind, hrc, fun U hU hW => ⟨rfl, by rw [hU]; exact hz, X.2.1.at hS hU hW⟩⟩ rfl hn hl.1 hsk (lv_room hcat) hd (by rw [X.2.2.2.1]; exact hcs)
theorem tv_runS {Qc : Array Value → State → Outcome → State → Prop} {H : Heap} {locs : List Loc} {ls : Array Slot} (X : Fx Γ Ω A cc nL own rm ret) (hM : Met Γ.2.1 y (wsO y b n rt) rm2 (PcZ Ω A Z As) Qc 0 0 A) (w : Cw own index y b n rt np rm2 rm) (hst : Cond.static y ∈ GW) (hn : As.length = np) (hsk : stk = As.reverse ++ st) (hcat : (st.map fun v => v.category).sum ≤ 8) (hd : decode cc pc = .ok (.invokestatic index, 3)) (hz : Z H) (hS : va_S A Γ.2.2.2.2.1.heap H locs) (hl : lv_has ls nL lv) (hcs : cs.1 ≤ rm.cells ∧ cs.2 ≤ rm.slots) :
    va_Run Γ.1 Γ.2.1 Γ.2.2.1 Γ.2.2.2.1 Γ.2.2.2.2.1 Γ.2.2.2.2.2.1 Γ.2.2.2.2.2.2.1 Γ.2.2.2.2.2.2.2.1 Γ.2.2.2.2.2.2.2.2.1 Γ.2.2.2.2.2.2.2.2.2 H locs cs.1 cs.2 0 0 (F0 Γ.2.2.2.2.2.1 pc ls stk) st (Qc As.toArray) A :=
  va_runS (As := As) (rest := st) X.1 hM ⟨w.cb X, X.1.2.2.2.2 _ hst⟩ ⟨PcZ.blind, fun U hU hW => ⟨rfl, by rw [hU]; exact hz, X.2.1.at hS hU hW⟩⟩ rfl hn hl.1 hsk (lv_room hcat) hd (by rw [X.2.2.2.1]; exact hcs)
theorem tv_callVi {σ1 : St} {x : Int32} (X : Fx Γ Ω A cc nL own rm ret) (hM : Met Γ.2.1 y (wsO y b n rt) rm2 (PcZ Ω A Z (.ref a :: As)) (Qci Zf A (σ1, x)) 0 0 A) (w : Cw own index y b n rt np rm2 rm) (hin : Cond.instanceMethod y ∈ GW) (hse : Cond.selects y.cls y y ∈ GW) (hrc : ∀ (H : Heap) (locs : List Loc), Z H → va_S A Γ.2.2.2.2.1.heap H locs → ∃ cell : Cell, H[a]? = some cell ∧ cell.vm.isStatics = false ∧ Γ.2.2.2.2.1.vm.findClass y.cls = some cell.cls) (hn : As.length = np) (hsk : stk = As.reverse ++ .ref a :: st) (hcat : (st.map fun v => v.category).sum ≤ 8) (hd : decode cc pc = .ok (.invokevirtual index, 3))
    (kk : V Γ cs Q A nL (Zf σ1) (pc + 3) lv (.int x :: st)) (hcs : cs.1 ≤ rm.cells ∧ cs.2 ≤ rm.slots := by exact ⟨Nat.zero_le _, Nat.zero_le _⟩) : V Γ cs Q A nL Z pc lv stk := by
  intro H locs ls hz hS hl
  refine va_calli (tv_runV X hM w hin hse (hrc H locs hz hS) hn hsk hcat hd hz hS hl hcs) hS (fun q _ h => h) (fun q h => h) (fun r u t H1 locs1 ht hvm hw hB _ _ hS1 => ?_)
  cases hw
  rw [ht] at hB
  exact kk H1 locs1 ls hB hS1 hl
theorem tv_callVl {σ1 : St} {x : Int64} (X : Fx Γ Ω A cc nL own rm ret) (hM : Met Γ.2.1 y (wsO y b n rt) rm2 (PcZ Ω A Z (.ref a :: As)) (Qcl Zf A (σ1, x)) 0 0 A) (w : Cw own index y b n rt np rm2 rm) (hin : Cond.instanceMethod y ∈ GW) (hse : Cond.selects y.cls y y ∈ GW) (hrc : ∀ (H : Heap) (locs : List Loc), Z H → va_S A Γ.2.2.2.2.1.heap H locs → ∃ cell : Cell, H[a]? = some cell ∧ cell.vm.isStatics = false ∧ Γ.2.2.2.2.1.vm.findClass y.cls = some cell.cls) (hn : As.length = np) (hsk : stk = As.reverse ++ .ref a :: st) (hcat : (st.map fun v => v.category).sum ≤ 8) (hd : decode cc pc = .ok (.invokevirtual index, 3))
    (kk : V Γ cs Q A nL (Zf σ1) (pc + 3) lv (.long x :: st)) (hcs : cs.1 ≤ rm.cells ∧ cs.2 ≤ rm.slots := by exact ⟨Nat.zero_le _, Nat.zero_le _⟩) : V Γ cs Q A nL Z pc lv stk := by
  intro H locs ls hz hS hl
  refine va_calll (tv_runV X hM w hin hse (hrc H locs hz hS) hn hsk hcat hd hz hS hl hcs) hS (fun q _ h => h) (fun q h => h) (fun r u t H1 locs1 ht hvm hw hB _ _ hS1 => ?_)
  cases hw
  rw [ht] at hB
  exact kk H1 locs1 ls hB hS1 hl
theorem tv_callVv {σ1 : St} {x : Unit} (X : Fx Γ Ω A cc nL own rm ret) (hM : Met Γ.2.1 y (wsO y b n rt) rm2 (PcZ Ω A Z (.ref a :: As)) (Qcv Zf A (σ1, x)) 0 0 A) (w : Cw own index y b n rt np rm2 rm) (hin : Cond.instanceMethod y ∈ GW) (hse : Cond.selects y.cls y y ∈ GW) (hrc : ∀ (H : Heap) (locs : List Loc), Z H → va_S A Γ.2.2.2.2.1.heap H locs → ∃ cell : Cell, H[a]? = some cell ∧ cell.vm.isStatics = false ∧ Γ.2.2.2.2.1.vm.findClass y.cls = some cell.cls) (hn : As.length = np) (hsk : stk = As.reverse ++ .ref a :: st) (hcat : (st.map fun v => v.category).sum ≤ 8) (hd : decode cc pc = .ok (.invokevirtual index, 3))
    (kk : V Γ cs Q A nL (Zf σ1) (pc + 3) lv st) (hcs : cs.1 ≤ rm.cells ∧ cs.2 ≤ rm.slots := by exact ⟨Nat.zero_le _, Nat.zero_le _⟩) : V Γ cs Q A nL Z pc lv stk := by
  intro H locs ls hz hS hl
  refine va_callv (tv_runV X hM w hin hse (hrc H locs hz hS) hn hsk hcat hd hz hS hl hcs) hS (fun q _ h => h) (fun q h => h) (fun u t H1 locs1 ht hvm hw hB _ _ hS1 => ?_)
  cases hw
  rw [ht] at hB
  exact kk H1 locs1 ls hB hS1 hl
theorem tv_callSi {σ1 : St} {x : Int32} (X : Fx Γ Ω A cc nL own rm ret) (hM : Met Γ.2.1 y (wsO y b n rt) rm2 (PcZ Ω A Z As) (Qci Zf A (σ1, x)) 0 0 A) (w : Cw own index y b n rt np rm2 rm) (hst : Cond.static y ∈ GW) (hn : As.length = np) (hsk : stk = As.reverse ++ st) (hcat : (st.map fun v => v.category).sum ≤ 8) (hd : decode cc pc = .ok (.invokestatic index, 3))
    (kk : V Γ cs Q A nL (Zf σ1) (pc + 3) lv (.int x :: st)) (hcs : cs.1 ≤ rm.cells ∧ cs.2 ≤ rm.slots := by exact ⟨Nat.zero_le _, Nat.zero_le _⟩) : V Γ cs Q A nL Z pc lv stk := by
  intro H locs ls hz hS hl
  refine va_calli (tv_runS X hM w hst hn hsk hcat hd hz hS hl hcs) hS (fun q _ h => h) (fun q h => h) (fun r u t H1 locs1 ht hvm hw hB _ _ hS1 => ?_)
  cases hw
  rw [ht] at hB
  exact kk H1 locs1 ls hB hS1 hl
theorem tv_callSv {σ1 : St} {x : Unit} (X : Fx Γ Ω A cc nL own rm ret) (hM : Met Γ.2.1 y (wsO y b n rt) rm2 (PcZ Ω A Z As) (Qcv Zf A (σ1, x)) 0 0 A) (w : Cw own index y b n rt np rm2 rm) (hst : Cond.static y ∈ GW) (hn : As.length = np) (hsk : stk = As.reverse ++ st) (hcat : (st.map fun v => v.category).sum ≤ 8) (hd : decode cc pc = .ok (.invokestatic index, 3))
    (kk : V Γ cs Q A nL (Zf σ1) (pc + 3) lv st) (hcs : cs.1 ≤ rm.cells ∧ cs.2 ≤ rm.slots := by exact ⟨Nat.zero_le _, Nat.zero_le _⟩) : V Γ cs Q A nL Z pc lv stk := by
  intro H locs ls hz hS hl
  refine va_callv (tv_runS X hM w hst hn hsk hcat hd hz hS hl hcs) hS (fun q _ h => h) (fun q h => h) (fun u t H1 locs1 ht hvm hw hB _ _ hS1 => ?_)
  cases hw
  rw [ht] at hB
  exact kk H1 locs1 ls hB hS1 hl
theorem tv_callSr {σ1 : St} {x : Nat} (X : Fx Γ Ω A cc nL own rm ret) (hM : Met Γ.2.1 y (wsO y b n rt) rm2 (PcZ Ω A Z As) (Qcr Ω Zf A (σ1, x)) 0 0 A) (w : Cw own index y b n rt np rm2 rm) (hst : Cond.static y ∈ GW) (hn : As.length = np) (hsk : stk = As.reverse ++ st) (hcat : (st.map fun v => v.category).sum ≤ 8) (hd : decode cc pc = .ok (.invokestatic index, 3))
    (kk : V Γ cs Q A nL (Zf σ1) (pc + 3) lv (.ref (Ω.2.2.1 x) :: st)) (hcs : cs.1 ≤ rm.cells ∧ cs.2 ≤ rm.slots := by exact ⟨Nat.zero_le _, Nat.zero_le _⟩) : V Γ cs Q A nL Z pc lv stk := by
  intro H locs ls hz hS hl
  refine va_callr (tv_runS X hM w hst hn hsk hcat hd hz hS hl hcs) hS (fun q _ h => h) (fun q h => h) (fun u q t H1 locs1 ht hvm hw hB _ _ hS1 => ?_)
  cases hw
  obtain ⟨rfl, hB⟩ := hB
  rw [ht] at hB
  exact kk H1 locs1 ls hB hS1 hl
end Calls
end Rows2
