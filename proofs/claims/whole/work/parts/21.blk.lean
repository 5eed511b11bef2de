/-! Constructors make cells one behind the other: a block of cells from an address on. -/
def blk (g : Nat → Option va_E) (b : Nat) (L : List va_E) : Nat → Option va_E := fun q => if q < b then g q else L[q - b]?
theorem blk_at {g : Nat → Option va_E} {b k : Nat} {L : List va_E} {x : va_E} (h : L[k]? = some x) : blk g b L (b + k) = some x := by
  unfold blk
  rw [if_neg (by omega), Nat.add_sub_cancel_left]
  exact h
theorem blk_lo {g : Nat → Option va_E} {b q : Nat} {L : List va_E} (h : q < b) : blk g b L q = g q := if_pos h
theorem blk_up {g : Nat → Option va_E} {b k : Nat} {L : List va_E} {x : va_E} (h : k < L.length) : va_up (blk g b L) (b + k) (some x) = blk g b (L.set k x) := by
  funext q
  by_cases e : q = b + k
  · subst e
    rw [va_up_self, blk_at (x := x) (by rw [List.getElem?_set_self h])]
  · rw [va_up_ne _ _ e]
    unfold blk
    by_cases hq : q < b
    · rw [if_pos hq, if_pos hq]
    · rw [if_neg hq, if_neg hq, List.getElem?_set_ne (by omega)]
theorem blk_push {g : Nat → Option va_E} {b : Nat} {L : List va_E} {x : va_E} : va_up (blk g b L) (b + L.length) (some x) = blk g b (L ++ [x]) := by
  funext q
  by_cases e : q = b + L.length
  · subst e
    rw [va_up_self, blk_at (x := x) (by simp)]
  · rw [va_up_ne _ _ e]
    unfold blk
    by_cases hq : q < b
    · rw [if_pos hq, if_pos hq]
    · rw [if_neg hq, if_neg hq]
      by_cases hl : q - b < L.length
      · rw [List.getElem?_append_left hl]
      · rw [List.getElem?_append_right (by omega), List.getElem?_eq_none (by omega)]
        cases hz : q - b - L.length with
        | zero => omega
        | succ z => rfl
theorem blk_app {g : Nat → Option va_E} {b n : Nat} {L M : List va_E} (hn : L.length = n) : blk g b (L ++ M) = blk (blk g b L) (b + n) M := by
  subst hn
  funext q
  unfold blk
  by_cases hq : q < b
  · rw [if_pos hq, if_pos (by omega), if_pos hq]
  · rw [if_neg hq]
    by_cases hl : q < b + L.length
    · rw [if_pos hl, if_neg hq, List.getElem?_append_left (by omega)]
    · rw [if_neg hl, List.getElem?_append_right (by omega)]
      congr 1
      omega
/-- the heap: what was there before, and the block, which ends it -/
def ZB (Ω : Wd) (g : Nat → Option va_E) (b : Nat) (L : List va_E) : Heap → Prop := ZG Ω (blk g b L) (b + L.length)
theorem ZB_app {Ω : Wd} {g : Nat → Option va_E} {b n : Nat} {L M : List va_E} (hn : L.length = n) : ZB Ω g b (L ++ M) = ZB Ω (blk g b L) (b + n) M := by
  unfold ZB
  rw [blk_app hn, List.length_append, ← hn, Nat.add_assoc]
section Blk
variable {Γ : Cx} {cs : Nat × Nat} {Q : State → Prop} {A : Nat → Prop} {nL : Nat} {pc : Nat} {lv : List (Nat × Value)} {st stk : List Value} {Ω : Wd} {cc : ByteArray} {own : String} {rm : Room} {ret : Option FieldType} {g g' : Nat → Option va_E} {b a index k0 : Nat} {L : List va_E}
theorem tb_vret (X : Fx Γ Ω A cc nL own rm none) (hd : decode cc pc = .ok (.return_, 1)) : V Γ cs (Qe Γ cs A (QcG Ω (blk g b L) (b + L.length) A)) A nL (ZB Ω g b L) pc lv [] := tg_vret X hd
theorem tb_get (X : Fx Γ Ω A cc nL own rm ret) {ci k N : Nat} {C : String} {T : u_T} {fs : List Value} {v : Value} (ha : a = b + k0) (hg : L[k0]? = some (.inr (ci, fs))) (hc : vwCl[ci]? = some (C, T, N)) (hin : ∀ w ∈ u_ws C T N, w ∈ GW) (hk : k < N) (hlk : Cond.fieldLink own index (T k).1 (T k).2.1 (T k).2.2.1 ∈ GW) (hv : fs[k]? = some v) (hd : decode cc pc = .ok (.getfield index, 3))
    (kk : V Γ cs Q A nL (ZB Ω g b L) (pc + 3) lv (v :: st)) : V Γ cs Q A nL (ZB Ω g b L) pc lv (.ref a :: st) := by
  subst ha
  exact tg_get X (blk_at hg) hc hin hk hlk hv hd kk
theorem tb_put (X : Fx Γ Ω A cc nL own rm ret) (hA : ∀ q, b ≤ q → A q) {ci k N : Nat} {C : String} {T : u_T} {ty0 : Nat → FieldType} {fs : List Value} {v : Value} {ty : FieldType} {L' : List va_E} (ha : a = b + k0) (hg : L[k0]? = some (.inr (ci, fs))) (hc : vwCl[ci]? = some (C, T, N)) (hin : ∀ w ∈ u_ws C T N, w ∈ GW) (hty : ∀ k, k < N → parseFieldDescriptor (T k).2.2.1 = some (ty0 k)) (hnm : ∀ a, a < N → ∀ b, b < N → a ≠ b → (T a).2.1 ≠ (T b).2.1) (hk : k < N) (hlk : Cond.fieldLink own index (T k).1 (T k).2.1 (T k).2.2.1 ∈ GW) (hfin : (T k).2.2.2 = false) (hd1 : parseFieldDescriptor (T k).2.2.1 = some ty) (hn : narrow ty v = v) (hfit : fits ty v = true) (hlen : Nat.ble (k + 1) fs.length = true) (hd : decode cc pc = .ok (.putfield index, 3)) (hL : L.set k0 (.inr (ci, fs.set k v)) = L')
    (kk : V Γ cs Q A nL (ZB Ω g b L') (pc + 3) lv st) : V Γ cs Q A nL (ZB Ω g b L) pc lv (v :: .ref a :: st) := by
  subst ha
  subst hL
  have hl := (List.getElem?_eq_some_iff.mp hg).1
  refine tg_put X (hA _ (Nat.le_add_right b k0)) (blk_at hg) hc hin hty hnm hk hlk hfin hd1 hn hfit (Nat.le_of_ble_eq_true hlen) hd ?_
  rw [blk_up hl]
  unfold ZB at kk
  rw [List.length_set] at kk
  exact kk
theorem tb_putF (X : Fx Γ Ω A cc nL own rm ret) (hA : ∀ q, b ≤ q → A q) (hin2 : Γ.2.2.2.2.2.2.2.2.1.name = "<init>") {ci k N : Nat} {C : String} {T : u_T} {ty0 : Nat → FieldType} {fs : List Value} {v : Value} {ty : FieldType} {L' : List va_E} (ha : a = b + k0) (hg : L[k0]? = some (.inr (ci, fs))) (hc : vwCl[ci]? = some (C, T, N)) (hin : ∀ w ∈ u_ws C T N, w ∈ GW) (hty : ∀ k, k < N → parseFieldDescriptor (T k).2.2.1 = some (ty0 k)) (hnm : ∀ a, a < N → ∀ b, b < N → a ≠ b → (T a).2.1 ≠ (T b).2.1) (hk : k < N) (hlk : Cond.fieldLink own index (T k).1 (T k).2.1 (T k).2.2.1 ∈ GW) (hfin : (T k).2.2.2 = true) (hdecl : (T k).1 = own) (hd1 : parseFieldDescriptor (T k).2.2.1 = some ty) (hn : narrow ty v = v) (hfit : fits ty v = true) (hlen : Nat.ble (k + 1) fs.length = true) (hd : decode cc pc = .ok (.putfield index, 3)) (hL : L.set k0 (.inr (ci, fs.set k v)) = L')
    (kk : V Γ cs Q A nL (ZB Ω g b L') (pc + 3) lv st) : V Γ cs Q A nL (ZB Ω g b L) pc lv (v :: .ref a :: st) := by
  subst ha
  subst hL
  have hl := (List.getElem?_eq_some_iff.mp hg).1
  refine tg_putF X (hA _ (Nat.le_add_right b k0)) hin2 (blk_at hg) hc hin hty hnm hk hlk hfin hdecl hd1 hn hfit (Nat.le_of_ble_eq_true hlen) hd ?_
  rw [blk_up hl]
  unfold ZB at kk
  rw [List.length_set] at kk
  exact kk
theorem tb_new (X : Fx Γ Ω A cc nL own rm ret) {ci N : Nat} {C : String} {T : u_T} {ty : Nat → FieldType} {fs : List Value} (n : Nat) {cs' : Nat × Nat} (hn : L.length = n) (hc : vwCl[ci]? = some (C, T, N)) (hin : ∀ w ∈ u_ws C T N, w ∈ GW) (hty : ∀ k, k < N → parseFieldDescriptor (T k).2.2.1 = some (ty k)) (hcl : Cond.classLink own index C ∈ GW) (hins : Cond.instantiable C N ∈ GW) (hini : Cond.initialized C ∈ GW) (hfs : ∀ j, j < N → defaultValue (ty j) = vp_V fs j) (hcs' : (cs.1 + 1, cs.2 + N) = cs') (hcs : cs'.1 ≤ rm.cells ∧ cs'.2 ≤ rm.slots) (hd : decode cc pc = .ok (.new index, 3))
    (kk : V Γ cs' Q A nL (ZB Ω g b (L ++ [.inr (ci, fs)])) (pc + 3) lv (.ref (b + n) :: st)) : V Γ cs Q A nL (ZB Ω g b L) pc lv st := by
  subst hn
  subst hcs'
  refine tg_new X hc hin hty hcl hins hini hfs hcs hd ?_
  rw [blk_push]
  unfold ZB at kk
  rw [List.length_append] at kk
  exact kk
theorem tb_newa (X : Fx Γ Ω A cc nL own rm ret) (t n : Nat) {cs' : Nat × Nat} {atype : ArrayType} {m : Int32} {N : Nat} {x : vp_A} (hln : L.length = n) (harr : Cond.arrayClass (newarray.typeOf atype) ∈ GW) (ht : (tysW Ω.2.1)[t]? = some (Ω.2.1 t, newarray.typeOf atype)) (hra : ∀ (U : State) (cA : ClassId), va_RA U cA (newarray.typeOf atype) = (U.vm.findClass ("[" ++ (newarray.typeOf atype).toString) = some cA)) (hx : ∀ cA : ClassId, vp_cell cA x = arrV cA N (fun _ => defaultValue (newarray.typeOf atype))) (hn : ¬ m < 0) (hN : m.toNatClampNeg = N) (hbytes : N * componentBytes (newarray.typeOf atype) ≤ 536870912) (hcs' : (cs.1 + 1, cs.2 + N) = cs') (hcs : cs'.1 ≤ rm.cells ∧ cs'.2 ≤ rm.slots) (hd : decode cc pc = .ok (.newarray atype, 2))
    (kk : V Γ cs' Q A nL (ZB Ω g b (L ++ [.inl (Ω.2.1 t, x)])) (pc + 2) lv (.ref (b + n) :: st)) : V Γ cs Q A nL (ZB Ω g b L) pc lv (.int m :: st) := by
  subst hln
  subst hcs'
  refine tg_newa X t harr ht hra hx hn hN hbytes hcs hd ?_
  rw [blk_push]
  unfold ZB at kk
  rw [List.length_append] at kk
  exact kk
theorem tb_anew (X : Fx Γ Ω A cc nL own rm ret) (t n : Nat) {cs' : Nat × Nat} {C : String} {m : Int32} {N : Nat} (hln : L.length = n) (hcl : Cond.classLink own index C ∈ GW) (hov : C ∈ overQ) (ht : (tysW Ω.2.1)[t]? = some (Ω.2.1 t, .object C)) (hn : ¬ m < 0) (hN : m.toNatClampNeg = N) (hbytes : N * 4 ≤ 536870912) (hcs' : (cs.1 + 1, cs.2 + N) = cs') (hcs : cs'.1 ≤ rm.cells ∧ cs'.2 ≤ rm.slots) (hd : decode cc pc = .ok (.anewarray index, 3))
    (kk : V Γ cs' Q A nL (ZB Ω g b (L ++ [.inl (Ω.2.1 t, N, .inr (.inr (.inr (.inr (fun _ => none)))))])) (pc + 3) lv (.ref (b + n) :: st)) : V Γ cs Q A nL (ZB Ω g b L) pc lv (.int m :: st) := by
  subst hln
  subst hcs'
  refine tg_anew X t hcl hov ht hn hN hbytes hcs hd ?_
  rw [blk_push]
  unfold ZB at kk
  rw [List.length_append] at kk
  exact kk
theorem tb_last (X : Fx Γ Ω A cc nL own rm ret) (hA : ∀ q, b ≤ q → A q) {n : Nat} {f : Nat → Int64} {i : Int32} {x : Int64} {L' : List va_E} (ha : a = b + k0) (hg : L[k0]? = some (.inl (Ω.2.1 2, n, .inr (.inl f)))) (hin : vp_in i n) (hd : decode cc pc = .ok (.lastore, 1)) (hL : L.set k0 (.inl (Ω.2.1 2, n, .inr (.inl (vp_updL f i.toNatClampNeg x)))) = L')
    (kk : V Γ cs Q A nL (ZB Ω g b L') (pc + 1) lv st) : V Γ cs Q A nL (ZB Ω g b L) pc lv (.long x :: .int i :: .ref a :: st) := by
  subst ha
  subst hL
  have hl := (List.getElem?_eq_some_iff.mp hg).1
  refine tg_last X (hA _ (Nat.le_add_right b k0)) (blk_at hg) hin hd ?_
  rw [blk_up hl]
  unfold ZB at kk
  rw [List.length_set] at kk
  exact kk
theorem tb_aast (X : Fx Γ Ω A cc nL own rm ret) (hA : ∀ q, b ≤ q → A q) (t ci : Nat) {r : vw_C} {n v k1 : Nat} {vs : List Value} {f : Nat → Option Nat} {i : Int32} {L' : List va_E} (ha : a = b + k0) (hg : L[k0]? = some (.inl (Ω.2.1 t, n, .inr (.inr (.inr (.inr f)))))) (hva : v = b + k1) (hv : L[k1]? = some (.inr (ci, vs))) (hc : vwCl[ci]? = some r) (ht : (tysW Ω.2.1)[t]? = some (Ω.2.1 t, .object r.1)) (hin : vp_in i n) (hd : decode cc pc = .ok (.aastore, 1)) (hL : L.set k0 (.inl (Ω.2.1 t, n, .inr (.inr (.inr (.inr (va_up f i.toNatClampNeg (some v))))))) = L')
    (kk : V Γ cs Q A nL (ZB Ω g b L') (pc + 1) lv st) : V Γ cs Q A nL (ZB Ω g b L) pc lv (.ref v :: .int i :: .ref a :: st) := by
  subst ha
  subst hva
  subst hL
  have hl := (List.getElem?_eq_some_iff.mp hg).1
  refine tg_aast X (hA _ (Nat.le_add_right b k0)) t ci (blk_at hg) (blk_at hv) hc ht hin hd ?_
  rw [blk_up hl]
  unfold ZB at kk
  rw [List.length_set] at kk
  exact kk
theorem tg_aald (X : Fx Γ Ω A cc nL own rm ret) (t : Nat) {C : String} {sz n q : Nat} {f : Nat → Option Nat} {i : Int32} (hg : g a = some (.inl (Ω.2.1 t, n, .inr (.inr (.inr (.inr f)))))) (ht : (tysW Ω.2.1)[t]? = some (Ω.2.1 t, .object C)) (hin : vp_in i n) (hq : f i.toNatClampNeg = some q) (hd : decode cc pc = .ok (.aaload, 1))
    (kk : V Γ cs Q A nL (ZG Ω g sz) (pc + 1) lv (.ref q :: st)) : V Γ cs Q A nL (ZG Ω g sz) pc lv (.int i :: .ref a :: st) := by
  intro H locs ls hz hS hl
  refine va_aldq X.1.1 X.1.2.1 X.2.1.1 (hz.1.one hg) 0 t rfl ht hin hd ?_
  rw [hq]
  exact kk H locs ls hz hS hl
section Call
variable {y : MethodName} {bb : ByteArray} {n np mc ms : Nat} {rm2 : Room} {As : List Value}
/-- what a constructor's call needs of the tables and of the room -/
def Ci (y : MethodName) (bb : ByteArray) (n np mc ms : Nat) (rm2 rm : Room) : Prop := Cond.code y bb n none ∈ GW ∧ Cond.initialized y.cls ∈ GW ∧ (y.cls ≠ "java/lang/invoke/MethodHandle" ∧ y.cls ≠ "java/lang/invoke/VarHandle" ∧ (parseMethodDescriptor y.desc).map (fun d => d.parameters.length) = some np) ∧ y.name = "<init>" ∧ Cond.instanceMethod y ∈ GW ∧ rm2.cells = mc ∧ rm2.slots = ms ∧ rm2.frames + 1 ≤ rm.frames ∧ 8 + (n + 11) + rm2.locals ≤ rm.locals
/-- the callee's block begins at its own object, the last cell of ours; it comes back as M -/
theorem tb_callI {x : va_E} {M : List va_E} {m : Nat} {cs' : Nat × Nat} (X : Fx Γ Ω A cc nL own rm ret) (hm : L.length = m) (hM : Met Γ.2.1 y (wsO y bb n none) rm2 (PcZ Ω A (ZB Ω (blk g b L) (b + m) [x]) (.ref (b + m) :: As)) (QcG Ω (blk (blk g b L) (b + m) M) (b + m + M.length) A) mc ms A) (w : Ci y bb n np mc ms rm2 rm) (hlk : Cond.methodLink own index y ∈ GW) (hn : As.length = np) (hsk : stk = As.reverse ++ .ref (b + m) :: st) (hcat : (st.map fun v => v.category).sum ≤ 8) (hcs' : (cs.1 + mc, cs.2 + ms) = cs') (hcs : cs'.1 ≤ rm.cells ∧ cs'.2 ≤ rm.slots) (hd : decode cc pc = .ok (.invokespecial index, 3))
    (kk : V Γ cs' Q A nL (ZB Ω g b (L ++ M)) (pc + 3) lv st) : V Γ cs Q A nL (ZB Ω g b (L ++ [x])) pc lv stk := by
  subst hcs'
  rw [ZB_app hm] at kk ⊢
  obtain ⟨w1, w2, w3, w4, w5, w6, w7, w8, w9⟩ := w
  exact tg_callI X hM w1 hlk w2 w3 w4 w5 w6 w7 w8 w9 hn hsk hcat hcs hd kk
theorem tb_callN {host : String} {x : va_E} {M : List va_E} {m : Nat} {cs' : Nat × Nat} (X : Fx Γ Ω A cc nL own rm ret) (hm : L.length = m) (hM : Met Γ.2.1 y (wsO y bb n none) rm2 (PcZ Ω A (ZB Ω (blk g b L) (b + m) [x]) (.ref (b + m) :: As)) (QcG Ω (blk (blk g b L) (b + m) M) (b + m + M.length) A) mc ms A) (w : Ci y bb n np mc ms rm2 rm) (hlk : (own, index, y, host) ∈ nestQ) (hn : As.length = np) (hsk : stk = As.reverse ++ .ref (b + m) :: st) (hcat : (st.map fun v => v.category).sum ≤ 8) (hcs' : (cs.1 + mc, cs.2 + ms) = cs') (hcs : cs'.1 ≤ rm.cells ∧ cs'.2 ≤ rm.slots) (hd : decode cc pc = .ok (.invokespecial index, 3))
    (kk : V Γ cs' Q A nL (ZB Ω g b (L ++ M)) (pc + 3) lv st) : V Γ cs Q A nL (ZB Ω g b (L ++ [x])) pc lv stk := by
  subst hcs'
  rw [ZB_app hm] at kk ⊢
  obtain ⟨w1, w2, w3, w4, w5, w6, w7, w8, w9⟩ := w
  exact tg_callN X hM w1 hlk w2 w3 w4 w5 w6 w7 w8 w9 hn hsk hcat hcs hd kk
end Call
end Blk
