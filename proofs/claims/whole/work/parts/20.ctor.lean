/-! Constructors: the cells by their addresses, as many as there are so far. -/
def HF (Ω : Wd) (g : Nat → Option va_E) (H : Heap) : Prop := ∀ (a : Nat) (x : va_E), g a = some x → va_at Ω.1 vwCl (a, x) H
def ZG (Ω : Wd) (g : Nat → Option va_E) (sz : Nat) (H : Heap) : Prop := HF Ω g H ∧ H.size = sz
theorem HF.one {Ω : Wd} {g : Nat → Option va_E} {H : Heap} {a : Nat} {x : va_E} (h : HF Ω g H) (hg : g a = some x) : va_P Ω.1 vwCl [(a, x)] H := by
  intro k q hk
  cases k with
  | zero => cases hk; exact h a x hg
  | succ k => cases hk
theorem HF.up {Ω : Wd} {g : Nat → Option va_E} {H H' : Heap} {a : Nat} {x : va_E} (h : HF Ω g H) (he : va_at Ω.1 vwCl (a, x) H') (oq : ∀ q, q ≠ a → H'[q]? = H[q]?) : HF Ω (va_up g a (some x)) H' := by
  intro q y hq
  by_cases e : q = a
  · subst e
    rw [va_up_self] at hq
    cases hq
    exact he
  · rw [va_up_ne g _ e] at hq
    exact (h q y hq).kept (oq q e)
theorem HF.push {Ω : Wd} {g : Nat → Option va_E} {H H' : Heap} {x : va_E} (h : HF Ω g H) (he : va_at Ω.1 vwCl (H.size, x) H') (oq : ∀ q, q < H.size → H'[q]? = H[q]?) : HF Ω (va_up g H.size (some x)) H' := by
  intro q y hq
  by_cases e : q = H.size
  · subst e
    rw [va_up_self] at hq
    cases hq
    exact he
  · rw [va_up_ne g _ e] at hq
    exact (h q y hq).kept (oq q (h q y hq).lt)
theorem Met.ofVc {l : Launch} {y : MethodName} {b : ByteArray} {n : Nat} {ret : Option FieldType} {rm : Room} {Ω : Wd} {A : Nat → Prop} {Z : Heap → Prop} {av : List Value} {Qc : Array Value → State → Outcome → State → Prop} {mc ms : Nat}
    (hy : plainName y.cls = true) (hn : Nat.ble (lg_sl av).length n = true)
    (body : ∀ Γ : Cx, Γ.2.1 = l → Γ.2.2.2.2.2.2.2.2.1.name = y.name → Fx Γ Ω A b n y.cls rm ret → V Γ (0, 0) (Qe Γ (mc, ms) A Qc) A n Z 0 (lv_args 0 av) []) : Met l y (wsO y b n ret) rm (PcZ Ω A Z av) Qc mc ms A := by
  refine Met.ofW (cc := b) (maxL := n) (ret := ret) hy rfl ?_
  intro p e s m args below meth c s₁ B hml hv
  obtain ⟨rfl, hZ, hK⟩ := hv
  have hts := atoms_spec (ws := wsO y b n ret) B.pre
  have hown : s.vm.findClass y.cls = some m.cls := findClass_of_methodNamed B.named
  have hb := body (p, l, e, (headSpec (wsO y b n ret) rm).room, s, m, av.toArray, below, meth, c) rfl (name_of_methodNamed B.named B.method).1 ⟨⟨B.exec, B.bytes, hml, hown, fun w h => hts w (List.mem_cons_of_mem _ h)⟩, hK, B.notSynchronized, rfl, B.returns⟩
  rw [lg_entry_eq]
  exact hb s.heap [] _ hZ va_S.rf (lv_entry av (Nat.le_of_ble_eq_true hn))
abbrev QcG (Ω : Wd) (g : Nat → Option va_E) (sz : Nat) (A : Nat → Prop) : Array Value → State → Outcome → State → Prop := va_Qv (S := Unit) (fun _ => True) (fun _ t => ZG Ω g sz t.heap) A
section Ctor
variable {Γ : Cx} {cs : Nat × Nat} {Q : State → Prop} {A : Nat → Prop} {nL : Nat} {pc : Nat} {lv : List (Nat × Value)} {st stk : List Value} {Ω : Wd} {cc : ByteArray} {own : String} {rm : Room} {ret : Option FieldType} {g g' : Nat → Option va_E} {sz a index : Nat}
theorem tg_vret (X : Fx Γ Ω A cc nL own rm none) (hd : decode cc pc = .ok (.return_, 1)) : V Γ cs (Qe Γ cs A (QcG Ω g sz A)) A nL (ZG Ω g sz) pc lv [] :=
  fun H locs ls hZ hS hl => W.vret (hlocks := X.2.2.1) X.1.1 X.1.2.1 X.2.2.2.2 (fun t ht hW => ⟨⟨(), rfl, trivial, (show ZG Ω g sz t.heap by rw [ht]; exact hZ)⟩, hS.F ht⟩) hS.2.2 hd
theorem tg_widen {k : Nat × Nat} (h1 : cs.1 ≤ k.1) (h2 : cs.2 ≤ k.2) {Z : Heap → Prop} (kk : V Γ k Q A nL Z pc lv st) : V Γ cs Q A nL Z pc lv st := fun H locs ls hZ hS hl => W.widen h1 h2 (kk H locs ls hZ hS hl)
theorem tg_objInit {Z : Heap → Prop} (X : Fx Γ Ω A cc nL own rm ret) (hlk : Cond.methodLink own index Lib.objectInit ∈ GW) (hin : Cond.instanceMethod Lib.objectInit ∈ GW) (hco : Cond.code Lib.objectInit ⟨#[0xb1]⟩ 1 none ∈ GW) (hfr : 1 ≤ rm.frames) (hlo : (st.map fun v => v.category).sum + 12 ≤ rm.locals) (hd : decode cc pc = .ok (.invokespecial index, 3)) (kk : V Γ cs Q A nL Z (pc + 3) lv st) : V Γ cs Q A nL Z pc lv (.ref a :: st) := fun H locs ls hZ hS hl =>
  W.objInit X.1.1 X.1.2.1 X.1.2.2.2.1 (X.1.2.2.2.2 _ hlk) (X.1.2.2.2.2 _ hin) (X.1.2.2.2.2 _ hco) (g := F0 Γ.2.2.2.2.2.1 pc ls (.ref a :: st)) rfl (by show ls.size = _; rw [X.1.2.2.1, hl.1]) rfl hd (by rw [X.2.2.2.1]; exact hfr) (by rw [X.2.2.2.1]; show 2 * 0 + _ + 12 ≤ _; omega) (kk H locs ls hZ hS hl)
theorem tg_get (X : Fx Γ Ω A cc nL own rm ret) {ci k N : Nat} {C : String} {T : u_T} {fs : List Value} {v : Value} (hg : g a = some (.inr (ci, fs))) (hc : vwCl[ci]? = some (C, T, N)) (hin : ∀ w ∈ u_ws C T N, w ∈ GW) (hk : k < N) (hlk : Cond.fieldLink own index (T k).1 (T k).2.1 (T k).2.2.1 ∈ GW) (hv : fs[k]? = some v) (hd : decode cc pc = .ok (.getfield index, 3))
    (kk : V Γ cs Q A nL (ZG Ω g sz) (pc + 3) lv (v :: st)) : V Γ cs Q A nL (ZG Ω g sz) pc lv (.ref a :: st) := fun H locs ls hz hS hl =>
  va_get (ref := (T k).1) X.1.1 X.1.2.1 X.1.2.2.2.2 hin X.1.2.2.2.1 X.2.1.1 (hz.1.one hg) 0 rfl hc k hk (X.1.2.2.2.2 _ hlk) (fun _ h => h) hv hd (kk H locs ls hz hS hl)
theorem tg_put (X : Fx Γ Ω A cc nL own rm ret) (hA : A a) {ci k N : Nat} {C : String} {T : u_T} {ty0 : Nat → FieldType} {fs : List Value} {v : Value} {ty : FieldType} (hg : g a = some (.inr (ci, fs))) (hc : vwCl[ci]? = some (C, T, N)) (hin : ∀ w ∈ u_ws C T N, w ∈ GW) (hty : ∀ k, k < N → parseFieldDescriptor (T k).2.2.1 = some (ty0 k)) (hnm : ∀ a, a < N → ∀ b, b < N → a ≠ b → (T a).2.1 ≠ (T b).2.1) (hk : k < N) (hlk : Cond.fieldLink own index (T k).1 (T k).2.1 (T k).2.2.1 ∈ GW) (hfin : (T k).2.2.2 = false) (hd1 : parseFieldDescriptor (T k).2.2.1 = some ty) (hn : narrow ty v = v) (hfit : fits ty v = true) (hlen : k < fs.length) (hd : decode cc pc = .ok (.putfield index, 3))
    (kk : V Γ cs Q A nL (ZG Ω (va_up g a (some (.inr (ci, fs.set k v)))) sz) (pc + 3) lv st) : V Γ cs Q A nL (ZG Ω g sz) pc lv (v :: .ref a :: st) := by
  intro H locs ls hz hS hl
  have hts := X.1.2.2.2.2
  have hK := X.2.1.1
  have hap := va_apart (own := own) hts hin ty0 hty hnm hK hc
  obtain ⟨r, h1, cell, q1, q2, q3, q4⟩ := hz.1 a _ hg
  have hr : r = (C, T, N) := Option.some.inj (h1.symm.trans hc)
  subst hr
  obtain ⟨hSl, hfc, kC, hkC, hkind⟩ := hK.1 ci _ hc
  obtain ⟨cf, kf, fi, f, hi, hsl⟩ := hSl k hk
  have hlay := hts _ (hin _ (u_in_lay hk))
  unfold u_lay at hlay
  rw [if_neg (by rw [hfin]; decide)] at hlay
  have hst := (u_facts hfc hkC (u_lays hts hin hk) hi).1
  have h6 := u_store hfc hkC hkind hlay hi hd1 hn hfit
  refine W.putK X.1.1 X.1.2.1 (f := f) ⟨X.1.2.2.2.1, hts _ hlk, ⟨_, _, _, hi⟩, hst⟩ (by rw [q2]; exact h6) q1 q3 (by rw [hsl]; exact k2_hasslot (q4 k hk)) rfl rfl hd fun H' e1 e2 e3 => ?_
  rw [hsl] at e1 ⊢
  exact kk H' _ ls ⟨hz.1.up ⟨_, hc, t_OB.to (V := updV (vp_V fs) k v) ⟨_, e1, q2, q3, t_set q4 hap hk v⟩ (fun j _ => vp_updV_set hlen v j)⟩ e3, by rw [e2]; exact hz.2⟩ (hS.put e2 e3 hA) hl
theorem tg_putF (X : Fx Γ Ω A cc nL own rm ret) (hA : A a) (hin2 : Γ.2.2.2.2.2.2.2.2.1.name = "<init>") {ci k N : Nat} {C : String} {T : u_T} {ty0 : Nat → FieldType} {fs : List Value} {v : Value} {ty : FieldType} (hg : g a = some (.inr (ci, fs))) (hc : vwCl[ci]? = some (C, T, N)) (hin : ∀ w ∈ u_ws C T N, w ∈ GW) (hty : ∀ k, k < N → parseFieldDescriptor (T k).2.2.1 = some (ty0 k)) (hnm : ∀ a, a < N → ∀ b, b < N → a ≠ b → (T a).2.1 ≠ (T b).2.1) (hk : k < N) (hlk : Cond.fieldLink own index (T k).1 (T k).2.1 (T k).2.2.1 ∈ GW) (hfin : (T k).2.2.2 = true) (hdecl : (T k).1 = own) (hd1 : parseFieldDescriptor (T k).2.2.1 = some ty) (hn : narrow ty v = v) (hfit : fits ty v = true) (hlen : k < fs.length) (hd : decode cc pc = .ok (.putfield index, 3))
    (kk : V Γ cs Q A nL (ZG Ω (va_up g a (some (.inr (ci, fs.set k v)))) sz) (pc + 3) lv st) : V Γ cs Q A nL (ZG Ω g sz) pc lv (v :: .ref a :: st) := by
  intro H locs ls hz hS hl
  have hts := X.1.2.2.2.2
  have hK := X.2.1.1
  have hown := X.1.2.2.2.1
  have hap := va_apart (own := own) hts hin ty0 hty hnm hK hc
  obtain ⟨r, h1, cell, q1, q2, q3, q4⟩ := hz.1 a _ hg
  have hr : r = (C, T, N) := Option.some.inj (h1.symm.trans hc)
  subst hr
  obtain ⟨hSl, hfc, kC, hkC, hkind⟩ := hK.1 ci _ hc
  obtain ⟨cf, kf, fi, f, hi, hsl⟩ := hSl k hk
  have hlay := hts _ (hin _ (u_in_lay hk))
  unfold u_lay at hlay
  rw [if_pos hfin] at hlay
  have hst := (u_facts hfc hkC (u_lays hts hin hk) hi).1
  have hcf : Γ.2.2.2.2.2.1.cls = cf := by
    obtain ⟨_, _, c', _, _, _, -, -, hf', -, -, -, hown2, -⟩ := Cond.laysFinal_spec hlay
    have e1 : c' = cf := by have := hi.symm.trans hf'; simp at this; exact this.1.symm
    rw [hdecl] at hown2
    rw [← e1]; exact Option.some.inj (hown.symm.trans hown2)
  have h6 := u_fits hfc hkC hkind (Or.inr hlay) hi hd1 hn hfit
  refine W.putFinK X.1.1 X.1.2.1 hown (hts _ hlk) hi hst hcf hin2 (by rw [q2]; exact h6) q1 q3 (by rw [hsl]; exact k2_hasslot (q4 k hk)) rfl rfl hd fun H' e1 e2 e3 => ?_
  rw [hsl] at e1 ⊢
  exact kk H' _ ls ⟨hz.1.up ⟨_, hc, t_OB.to (V := updV (vp_V fs) k v) ⟨_, e1, q2, q3, t_set q4 hap hk v⟩ (fun j _ => vp_updV_set hlen v j)⟩ e3, by rw [e2]; exact hz.2⟩ (hS.put e2 e3 hA) hl
theorem S_push {H0 H H' : Heap} {locs : List Loc} (hS : va_S A H0 H locs) (z : H'.size = H.size + 1) (o : ∀ q, q < H.size → H'[q]? = H[q]?) : va_S A H0 H' locs := ⟨Nat.le_trans hS.1 (by omega), fun x h1 h2 => (o x (Nat.lt_of_lt_of_le h1 hS.1)).trans (hS.2.1 x h1 h2), hS.2.2⟩
theorem tg_new (X : Fx Γ Ω A cc nL own rm ret) {ci N : Nat} {C : String} {T : u_T} {ty : Nat → FieldType} {fs : List Value} (hc : vwCl[ci]? = some (C, T, N)) (hin : ∀ w ∈ u_ws C T N, w ∈ GW) (hty : ∀ k, k < N → parseFieldDescriptor (T k).2.2.1 = some (ty k)) (hcl : Cond.classLink own index C ∈ GW) (hins : Cond.instantiable C N ∈ GW) (hini : Cond.initialized C ∈ GW) (hfs : ∀ j, j < N → defaultValue (ty j) = vp_V fs j) (hcs : cs.1 + 1 ≤ rm.cells ∧ cs.2 + N ≤ rm.slots) (hd : decode cc pc = .ok (.new index, 3))
    (kk : V Γ (cs.1 + 1, cs.2 + N) Q A nL (ZG Ω (va_up g sz (some (.inr (ci, fs)))) (sz + 1)) (pc + 3) lv (.ref sz :: st)) : V Γ cs Q A nL (ZG Ω g sz) pc lv st := by
  intro H locs ls hz hS hl
  have hts := X.1.2.2.2.2
  have hKn := X.2.1.1.1 ci _ hc
  obtain ⟨hz1, rfl⟩ := hz
  refine W.newcK X.1.1 X.1.2.1 X.1.2.2.2.1 (hts _ hcl) (hts _ hins) (hts _ hini) rfl hd (by rw [X.2.2.2.1]; exact hcs.1) (by rw [X.2.2.2.1]; exact hcs.2) hKn.2.1 rfl fun H1 kC hkC e1 z1 o1 => ?_
  exact kk H1 locs ls ⟨hz1.push ⟨_, hc, (u_born ty hts hin hKn hkC e1 hty).to hfs⟩ o1, z1⟩ (S_push hS z1 o1) hl
theorem tg_newa (X : Fx Γ Ω A cc nL own rm ret) (t : Nat) {atype : ArrayType} {n : Int32} {N : Nat} {x : vp_A} (harr : Cond.arrayClass (newarray.typeOf atype) ∈ GW) (ht : (tysW Ω.2.1)[t]? = some (Ω.2.1 t, newarray.typeOf atype)) (hra : ∀ (U : State) (cA : ClassId), va_RA U cA (newarray.typeOf atype) = (U.vm.findClass ("[" ++ (newarray.typeOf atype).toString) = some cA)) (hx : ∀ cA : ClassId, vp_cell cA x = arrV cA N (fun _ => defaultValue (newarray.typeOf atype))) (hn : ¬ n < 0) (hN : n.toNatClampNeg = N) (hbytes : N * componentBytes (newarray.typeOf atype) ≤ 536870912) (hcs : cs.1 + 1 ≤ rm.cells ∧ cs.2 + N ≤ rm.slots) (hd : decode cc pc = .ok (.newarray atype, 2))
    (kk : V Γ (cs.1 + 1, cs.2 + N) Q A nL (ZG Ω (va_up g sz (some (.inl (Ω.2.1 t, x)))) (sz + 1)) (pc + 2) lv (.ref sz :: st)) : V Γ cs Q A nL (ZG Ω g sz) pc lv (.int n :: st) := by
  intro H locs ls hz hS hl
  obtain ⟨hz1, rfl⟩ := hz
  refine va_newaK X.1.1 X.1.2.1 (X.1.2.2.2.2 _ harr) (g := F0 Γ.2.2.2.2.2.1 pc ls (.int n :: st)) rfl hd rfl hn hN hbytes (by rw [X.2.2.2.1]; exact hcs.1) (by rw [X.2.2.2.1]; exact hcs.2) rfl fun H1 cA e1 z1 o1 hAr hNm => ?_
  have hk := (X.2.1.1.2 t _ ht).2
  rw [hra] at hk
  have hcA : cA = Ω.2.1 t := Option.some.inj (hNm.symm.trans hk)
  subst hcA
  exact kk H1 locs ls ⟨hz1.push (show H1[H.size]? = some (vp_cell _ _) by rw [hx]; exact e1) o1, z1⟩ (S_push hS z1 o1) hl
theorem tg_anew (X : Fx Γ Ω A cc nL own rm ret) (t : Nat) {C : String} {n : Int32} {N : Nat} (hcl : Cond.classLink own index C ∈ GW) (hov : C ∈ overQ) (ht : (tysW Ω.2.1)[t]? = some (Ω.2.1 t, .object C)) (hn : ¬ n < 0) (hN : n.toNatClampNeg = N) (hbytes : N * 4 ≤ 536870912) (hcs : cs.1 + 1 ≤ rm.cells ∧ cs.2 + N ≤ rm.slots) (hd : decode cc pc = .ok (.anewarray index, 3))
    (kk : V Γ (cs.1 + 1, cs.2 + N) Q A nL (ZG Ω (va_up g sz (some (.inl (Ω.2.1 t, N, .inr (.inr (.inr (.inr (fun _ => none)))))))) (sz + 1)) (pc + 3) lv (.ref sz :: st)) : V Γ cs Q A nL (ZG Ω g sz) pc lv (.int n :: st) := by
  intro H locs ls hz hS hl
  subst hN
  obtain ⟨hz1, rfl⟩ := hz
  refine W.anew X.1.1 X.1.2.1 X.1.2.2.2.1 (X.1.2.2.2.2 _ hcl) (va_AO.use (X.2.1.2.2.2.2.2.2 _ hov)) (g := F0 Γ.2.2.2.2.2.1 pc ls (.int n :: st)) rfl hd rfl hn hbytes (by rw [X.2.2.2.1]; exact hcs.1) (by rw [X.2.2.2.1]; exact hcs.2) fun cA kA comp f1 f2 f3 f4 => ?_
  obtain ⟨kA', comp', k1, k2, k3, k4⟩ := (X.2.1.1.2 t _ ht).2
  have hcA : cA = Ω.2.1 t := Option.some.inj (f1.symm.trans k4)
  subst hcA
  generalize hH1 : H.push ({ cls := Ω.2.1 t, slots := Array.replicate n.toNatClampNeg .null, vm := .none } : Cell) = H1
  have z1 : H1.size = H.size + 1 := by rw [← hH1, Array.size_push]
  have e1 : H1[H.size]? = some (arrV (Ω.2.1 t) n.toNatClampNeg (fun _ => .null)) := by rw [← hH1, Array.getElem?_push_size, ← arrV_new]
  have o1 : ∀ q : Nat, q < H.size → H1[q]? = H[q]? := fun q hq => by rw [← hH1, Array.getElem?_push, if_neg (Nat.ne_of_lt hq)]
  exact kk H1 locs ls ⟨hz1.push (show H1[H.size]? = some (vp_cell _ _) by rw [vp_cell_q]; exact e1) o1, z1⟩ (S_push hS z1 o1) hl
theorem tg_last (X : Fx Γ Ω A cc nL own rm ret) (hA : A a) {n : Nat} {f : Nat → Int64} {i : Int32} {x : Int64} (hg : g a = some (.inl (Ω.2.1 2, n, .inr (.inl f)))) (hin : vp_in i n) (hd : decode cc pc = .ok (.lastore, 1))
    (kk : V Γ cs Q A nL (ZG Ω (va_up g a (some (.inl (Ω.2.1 2, n, .inr (.inl (vp_updL f i.toNatClampNeg x)))))) sz) (pc + 1) lv st) : V Γ cs Q A nL (ZG Ω g sz) pc lv (.long x :: .int i :: .ref a :: st) := by
  intro H locs ls hz hS hl
  refine W.last X.1.1 X.1.2.1 (hz.1 a _ hg) ((X.2.1.1.2 2 _ rfl).1 n (fun j => .long (f j))) (fun q => by cases q) (by show ¬ (i < 0 ∨ (arrV _ _ _).slots.size ≤ _); rw [arrV_size]; exact hin) rfl rfl hd fun H1 e z oq => ?_
  refine kk H1 _ ls ⟨hz.1.up ?_ oq, by rw [z]; exact hz.2⟩ (hS.put z oq hA) hl
  show H1[a]? = some (vp_cell _ _)
  rw [e, vp_cell_l, vp_cell_l, arrV_store]
  congr 2
  funext q
  by_cases hq : q = i.toNatClampNeg
  · subst hq
    simp [updV, vp_updL]
  · simp [updV, vp_updL, hq]
theorem tg_aast (X : Fx Γ Ω A cc nL own rm ret) (hA : A a) (t ci : Nat) {r : vw_C} {n v : Nat} {vs : List Value} {f : Nat → Option Nat} {i : Int32} (hg : g a = some (.inl (Ω.2.1 t, n, .inr (.inr (.inr (.inr f)))))) (hv : g v = some (.inr (ci, vs))) (hc : vwCl[ci]? = some r) (ht : (tysW Ω.2.1)[t]? = some (Ω.2.1 t, .object r.1)) (hin : vp_in i n) (hd : decode cc pc = .ok (.aastore, 1))
    (kk : V Γ cs Q A nL (ZG Ω (va_up g a (some (.inl (Ω.2.1 t, n, .inr (.inr (.inr (.inr (va_up f i.toNatClampNeg (some v))))))))) sz) (pc + 1) lv st) : V Γ cs Q A nL (ZG Ω g sz) pc lv (.ref v :: .int i :: .ref a :: st) := by
  intro H locs ls hz hS hl
  have hK := X.2.1.1
  have hlt : i.toNatClampNeg < n := Nat.not_le.mp fun q => hin (Or.inr q)
  have h0 : ¬ i < 0 := fun q => hin (Or.inl q)
  obtain ⟨r', hr', cellV, g1, g2, g3, -⟩ := hz.1 v _ hv
  have hcls := (hK.1 ci r hc).2
  obtain ⟨kA, comp, k1, k2, k3, -⟩ := (hK.2 t _ ht).2
  have hcomp : comp = Ω.1.1 ci := Option.some.inj (k3.symm.trans hcls.1)
  subst hcomp
  obtain ⟨kC, hkC, -⟩ := hcls.2
  refine W.aast X.1.1 X.1.2.1 (hz.1 a _ hg) (fun q h => by cases h) (fun h => by cases h) k1 k2 rfl hkC ⟨h0, by show _ < (arrV _ _ _).slots.size; rw [arrV_size]; exact hlt⟩ g1 (fun q h => by rw [g3] at h; cases h) (by rw [g2]; exact hkC) (by rw [g2]; exact va_assign hcls) rfl rfl hd fun H1 e z oq => ?_
  refine kk H1 _ ls ⟨hz.1.up ?_ oq, by rw [z]; exact hz.2⟩ (hS.put z oq hA) hl
  show H1[a]? = some (vp_cell _ _)
  rw [e, vp_cell_q, vp_cell_q, arrV_store]
  congr 2
  funext q
  by_cases hq : q = i.toNatClampNeg
  · subst hq
    simp [updV, va_up, va_rf]
  · simp [updV, va_up, hq]
section Call
variable {y : MethodName} {b : ByteArray} {n np mc ms sz' : Nat} {rm2 : Room} {As : List Value}
/-- a constructor's call -/
theorem tg_callI (X : Fx Γ Ω A cc nL own rm ret) (hM : Met Γ.2.1 y (wsO y b n none) rm2 (PcZ Ω A (ZG Ω g sz) (.ref a :: As)) (QcG Ω g' sz' A) mc ms A) (hcode : Cond.code y b n none ∈ GW) (hlk : Cond.methodLink own index y ∈ GW) (hini : Cond.initialized y.cls ∈ GW) (hdd : y.cls ≠ "java/lang/invoke/MethodHandle" ∧ y.cls ≠ "java/lang/invoke/VarHandle" ∧ (parseMethodDescriptor y.desc).map (fun d => d.parameters.length) = some np) (hy1 : y.name = "<init>") (hin : Cond.instanceMethod y ∈ GW) (hr1 : rm2.cells = mc) (hr2 : rm2.slots = ms) (hr3 : rm2.frames + 1 ≤ rm.frames) (hr4 : 8 + (n + 11) + rm2.locals ≤ rm.locals) (hn : As.length = np) (hsk : stk = As.reverse ++ .ref a :: st) (hcat : (st.map fun v => v.category).sum ≤ 8) (hcs : cs.1 + mc ≤ rm.cells ∧ cs.2 + ms ≤ rm.slots) (hd : decode cc pc = .ok (.invokespecial index, 3))
    (kk : V Γ (cs.1 + mc, cs.2 + ms) Q A nL (ZG Ω g' sz') (pc + 3) lv st) : V Γ cs Q A nL (ZG Ω g sz) pc lv stk := by
  intro H locs ls hz hS hl
  have hts := X.1.2.2.2.2
  refine va_callv (va_runI (As := As) (rest := st) X.1 hM ⟨callB_of np hts (gw_in hcode) rfl hr1 hr2 (hts _ hini) (hts _ hlk) hdd (by rw [X.2.2.2.1]; exact ⟨hr3, hr4⟩), hy1, hts _ hin⟩ ⟨PcZ.blind, fun U hU hW => ⟨rfl, by rw [hU]; exact hz, X.2.1.at hS hU hW⟩⟩ rfl hn hl.1 hsk (lv_room hcat) hd (by rw [X.2.2.2.1]; exact hcs)) hS (fun q _ h => h) (fun q h => h) (fun u t H1 locs1 ht hvm hw hB _ _ hS1 => ?_)
  have hB : ZG Ω g' sz' t.heap := hB
  rw [ht] at hB
  exact kk H1 locs1 ls hB hS1 hl
theorem tg_callN {host : String} (X : Fx Γ Ω A cc nL own rm ret) (hM : Met Γ.2.1 y (wsO y b n none) rm2 (PcZ Ω A (ZG Ω g sz) (.ref a :: As)) (QcG Ω g' sz' A) mc ms A) (hcode : Cond.code y b n none ∈ GW) (hlk : (own, index, y, host) ∈ nestQ) (hini : Cond.initialized y.cls ∈ GW) (hdd : y.cls ≠ "java/lang/invoke/MethodHandle" ∧ y.cls ≠ "java/lang/invoke/VarHandle" ∧ (parseMethodDescriptor y.desc).map (fun d => d.parameters.length) = some np) (hy1 : y.name = "<init>") (hin : Cond.instanceMethod y ∈ GW) (hr1 : rm2.cells = mc) (hr2 : rm2.slots = ms) (hr3 : rm2.frames + 1 ≤ rm.frames) (hr4 : 8 + (n + 11) + rm2.locals ≤ rm.locals) (hn : As.length = np) (hsk : stk = As.reverse ++ .ref a :: st) (hcat : (st.map fun v => v.category).sum ≤ 8) (hcs : cs.1 + mc ≤ rm.cells ∧ cs.2 + ms ≤ rm.slots) (hd : decode cc pc = .ok (.invokespecial index, 3))
    (kk : V Γ (cs.1 + mc, cs.2 + ms) Q A nL (ZG Ω g' sz') (pc + 3) lv st) : V Γ cs Q A nL (ZG Ω g sz) pc lv stk := by
  intro H locs ls hz hS hl
  have hts := X.1.2.2.2.2
  refine va_callv (va_runIN (As := As) (rest := st) X.1 hM ⟨va_cnB np hts (gw_in hcode) rfl hr1 hr2 (X.2.1.2.2.2.2.2.1 _ hlk) (hts _ hini) hdd (by rw [X.2.2.2.1]; exact ⟨hr3, hr4⟩), hy1, hts _ hin⟩ ⟨PcZ.blind, fun U hU hW => ⟨rfl, by rw [hU]; exact hz, X.2.1.at hS hU hW⟩⟩ rfl hn hl.1 hsk (lv_room hcat) hd (by rw [X.2.2.2.1]; exact hcs)) hS (fun q _ h => h) (fun q h => h) (fun u t H1 locs1 ht hvm hw hB _ _ hS1 => ?_)
  have hB : ZG Ω g' sz' t.heap := hB
  rw [ht] at hB
  exact kk H1 locs1 ls hB hS1 hl
end Call
end Ctor
