/-! The JDK's own methods: Math.max, Math.min, String.length, String.charAt of the String constants. -/
/-- more turns than any loop here takes -/
def fl : Nat := 20100
def stc (k j : Nat) : Int32 := (stTxt.getD k []).getD j 0
theorem st_len : ∀ k, k < nSt → lenSt.getD k 0 = (stTxt.getD k []).length ∧ lenSt.getD k 0 < 32 := by decide +kernel
theorem st_chr : ∀ k, k < nSt → ∀ j, j < lenSt.getD k 0 → UInt32.toInt32 (Int32.toUInt32 (stc k j &&& 255) % 65536) = stc k j ∧ narrow .char (.int (stc k j)) = .int (stc k j) := by decide +kernel
section Jdk
variable {Γ : Cx} {cs : Nat × Nat} {Q : State → Prop} {A : Nat → Prop} {nL : Nat} {Z : Heap → Prop} {pc : Nat} {lv lv' : List (Nat × Value)} {st stk : List Value} {Ω : Wd} {cc : ByteArray} {own : String} {rm : Room} {ret : Option FieldType} {ρ : Type} {r : ρ} {index : Nat}
theorem tv_mmax (X : Fx Γ Ω A cc nL own rm ret) (hlk : Cond.methodLink own index Lib.Math.max.name ∈ GW) (hst : Cond.static Lib.Math.max.name ∈ GW) (hini : Cond.initialized "java/lang/Math" ∈ GW) (hcode : Cond.code Lib.Math.max.name Lib.Math.max.code 2 (some .int) ∈ GW) (hfr : 1 ≤ rm.frames) (hlo : (st.map fun v => v.category).sum + 13 ≤ rm.locals) {x y : Int32} (hd : decode cc pc = .ok (.invokestatic index, 3))
    (kk : V Γ cs Q A nL Z (pc + 3) lv (.int (if x < y then y else x) :: st)) (hcs : cs.1 ≤ rm.cells ∧ cs.2 ≤ rm.slots := by exact ⟨Nat.zero_le _, Nat.zero_le _⟩) : V Γ cs Q A nL Z pc lv (.int y :: .int x :: st) := fun H locs ls hZ hS hl => va_mmax X.1.1 X.1.2.1 (by rw [X.1.2.2.1, hl.1]) X.1.2.2.2.1 (X.1.2.2.2.2 _ hlk) (X.1.2.2.2.2 _ hst) (X.1.2.2.2.2 _ hini) (X.1.2.2.2.2 _ hcode) (by rw [X.2.2.2.1]; exact hfr) (by rw [X.2.2.2.1]; exact hlo) (by rw [X.2.2.2.1]; exact hcs.1) (by rw [X.2.2.2.1]; exact hcs.2) hd (kk H locs ls hZ hS hl)
theorem tv_mmin (X : Fx Γ Ω A cc nL own rm ret) (hlk : Cond.methodLink own index Lib.Math.min.name ∈ GW) (hst : Cond.static Lib.Math.min.name ∈ GW) (hini : Cond.initialized "java/lang/Math" ∈ GW) (hcode : Cond.code Lib.Math.min.name Lib.Math.min.code 2 (some .int) ∈ GW) (hfr : 1 ≤ rm.frames) (hlo : (st.map fun v => v.category).sum + 13 ≤ rm.locals) {x y : Int32} (hd : decode cc pc = .ok (.invokestatic index, 3))
    (kk : V Γ cs Q A nL Z (pc + 3) lv (.int (if y < x then y else x) :: st)) (hcs : cs.1 ≤ rm.cells ∧ cs.2 ≤ rm.slots := by exact ⟨Nat.zero_le _, Nat.zero_le _⟩) : V Γ cs Q A nL Z pc lv (.int y :: .int x :: st) := fun H locs ls hZ hS hl => va_mmin X.1.1 X.1.2.1 (by rw [X.1.2.2.1, hl.1]) X.1.2.2.2.1 (X.1.2.2.2.2 _ hlk) (X.1.2.2.2.2 _ hst) (X.1.2.2.2.2 _ hini) (X.1.2.2.2.2 _ hcode) (by rw [X.2.2.2.1]; exact hfr) (by rw [X.2.2.2.1]; exact hlo) (by rw [X.2.2.2.1]; exact hcs.1) (by rw [X.2.2.2.1]; exact hcs.2) hd (kk H locs ls hZ hS hl)
theorem tv_gret {ty : FieldType} {Zf : St → Heap → Prop} {σ : St} {x : Int32} {res : St × Int32} (X : Fx Γ Ω A cc nL own rm (some ty)) (hd : decode cc pc = .ok (.ireturn, 1)) (hx : narrow ty (.int x) = .int x) (h : some (σ, x) = some res) : V Γ cs (Qe Γ cs A (Qci Zf A res)) A nL (Zf σ) pc lv [.int x] :=
  fun H locs ls hZ hS hl => W.zret (hlocks := X.2.2.1) X.1.1 X.1.2.1 X.2.2.2.2 hx (fun t ht hW => ⟨⟨x, σ, rfl, Option.some.inj h, (show Zf σ t.heap by rw [ht]; exact hZ)⟩, hS.F ht⟩) hS.2.2 hd
/-- a field of a String constant -/
theorem tv_sget (X : Fx Γ Ω A cc nL own rm ret) {n d : String} {q : Nat} {v : Value} (hE : va_OF "java/lang/String" n d v q A Γ.2.2.2.2.1 Γ.2.2.2.2.1.heap) (hlk : Cond.fieldLink own index "java/lang/String" n d ∈ GW) (hd : decode cc pc = .ok (.getfield index, 3)) (kk : V Γ cs Q A nL Z (pc + 3) lv (v :: st)) : V Γ cs Q A nL Z pc lv (.ref q :: st) := fun H locs ls hZ hS hl => vk_getf X.1.1 X.1.2.1 hE hS X.1.2.2.2.1 (X.1.2.2.2.2 _ hlk) (fun _ h => h) hd (kk H locs ls hZ hS hl)
theorem tv_gets (X : Fx Γ Ω A cc nL own rm ret) {C n d : String} {v : Value} (hE : va_Z C n d v A Γ.2.2.2.2.1 Γ.2.2.2.2.1.heap) (hlk : Cond.fieldLink own index C n d ∈ GW) (hd : decode cc pc = .ok (.getstatic index, 3)) (kk : V Γ cs Q A nL Z (pc + 3) lv (v :: st)) : V Γ cs Q A nL Z pc lv st := fun H locs ls hZ hS hl => va_gets X.1.1 X.1.2.1 hE hS X.1.2.2.2.1 (X.1.2.2.2.2 _ hlk) (fun _ h => h) hd (kk H locs ls hZ hS hl)
theorem tv_tlen (X : Fx Γ Ω A cc nL own rm ret) {ty : FieldType} {q N : Nat} {f : Nat → Value} (hT : va_T ty q N f A Γ.2.2.2.2.1 Γ.2.2.2.2.1.heap) (hd : decode cc pc = .ok (.arraylength, 1)) (kk : V Γ cs Q A nL Z (pc + 1) lv (.int (nI N) :: st)) : V Γ cs Q A nL Z pc lv (.ref q :: st) := fun H locs ls hZ hS hl => va_tlen X.1.1 X.1.2.1 hT hS rfl hd (kk H locs ls hZ hS hl)
theorem tv_tb (X : Fx Γ Ω A cc nL own rm ret) {q N : Nat} {f : Nat → Value} {i : Int32} {v : Value} (hT : va_T .byte q N f A Γ.2.2.2.2.1 Γ.2.2.2.2.1.heap) (hin : vp_in i N) (hv : f i.toNatClampNeg = v) (hd : decode cc pc = .ok (.baload, 1)) (kk : V Γ cs Q A nL Z (pc + 1) lv (v :: st)) : V Γ cs Q A nL Z pc lv (.int i :: .ref q :: st) := fun H locs ls hZ hS hl => va_tb X.1.1 X.1.2.1 hT hS hin hv hd (kk H locs ls hZ hS hl)
end Jdk
def rmJ (f n : Nat) : Room := { frames := f, cells := 0, slots := 0, locals := n }
set_option maxHeartbeats 4000000 in
set_option maxRecDepth 100000 in
theorem c_J0_coder (l : Launch) (Ω : Wd) (A : Nat → Prop) (Z : Heap → Prop) (σ : St) (k : Nat) (hk : k < nSt) : Met l yJ0_coder_7d493 (wsO yJ0_coder_7d493 cJ0_coder_7d493 1 (some .byte)) (rmJ 0 0) (PcZ Ω A Z [.ref (Ω.2.2.1 k)]) (Qci (fun _ => Z) A (σ, 0)) 0 0 A := by
  refine Met.ofV (by decide) rfl (fun Γ hΓ X => ?_)
  have X : Fx Γ Ω A cJ0_coder_7d493 1 "java/lang/String" (rmJ 0 0) (some .byte) := X
  show V Γ (0, 0) _ A 1 Z 0 [(0, .ref (Ω.2.2.1 k))] []
  refine tv_gets X X.2.1.2.2.2.1 gw_2_182 dJ0_coder_7d493_0 ?_
  refine tv_if_eq X 13 dJ0_coder_7d493_3 (by decide) (by decide : (if (1 : Int32) = 0 then none else some ()) = some ()) (fun h => nomatch h) (fun _ => ?_)
  refine tv_aload_n X dJ0_coder_7d493_6 rfl 0 rfl ?_
  refine tv_sget X (X.2.1.2.1.1 k hk).2.1 gw_6_212 dJ0_coder_7d493_7 ?_
  refine tv_goto X 14 dJ0_coder_7d493_10 (by decide) ?_
  exact tv_gret (Zf := fun _ => Z) X dJ0_coder_7d493_14 rfl rfl
set_option maxHeartbeats 4000000 in
set_option maxRecDepth 100000 in
theorem c_J0_isLatin1 (l : Launch) (Ω : Wd) (A : Nat → Prop) (Z : Heap → Prop) (σ : St) (k : Nat) (hk : k < nSt) : Met l yJ0_isLatin1_aae02 (wsO yJ0_isLatin1_aae02 cJ0_isLatin1_aae02 1 (some .boolean)) (rmJ 0 0) (PcZ Ω A Z [.ref (Ω.2.2.1 k)]) (Qci (fun _ => Z) A (σ, 1)) 0 0 A := by
  refine Met.ofV (by decide) rfl (fun Γ hΓ X => ?_)
  have X : Fx Γ Ω A cJ0_isLatin1_aae02 1 "java/lang/String" (rmJ 0 0) (some .boolean) := X
  show V Γ (0, 0) _ A 1 Z 0 [(0, .ref (Ω.2.2.1 k))] []
  refine tv_gets X X.2.1.2.2.2.1 gw_2_182 dJ0_isLatin1_aae02_0 ?_
  refine tv_if_eq X 17 dJ0_isLatin1_aae02_3 (by decide) (by decide : (if (1 : Int32) = 0 then none else some ()) = some ()) (fun h => nomatch h) (fun _ => ?_)
  refine tv_aload_n X dJ0_isLatin1_aae02_6 rfl 0 rfl ?_
  refine tv_sget X (X.2.1.2.1.1 k hk).2.1 gw_6_212 dJ0_isLatin1_aae02_7 ?_
  refine tv_if_ne X 17 dJ0_isLatin1_aae02_10 (by decide) (by decide : (if (0 : Int32) = 0 then some () else none) = some ()) (fun h => nomatch h) (fun _ => ?_)
  refine tv_iconst X 1 dJ0_isLatin1_aae02_13 (by decide) ?_
  refine tv_goto X 18 dJ0_isLatin1_aae02_14 (by decide) ?_
  exact tv_gret (Zf := fun _ => Z) X dJ0_isLatin1_aae02_18 rfl rfl
set_option maxHeartbeats 4000000 in
set_option maxRecDepth 100000 in
theorem c_J0_length (l : Launch) (Ω : Wd) (A : Nat → Prop) (Z : Heap → Prop) (σ : St) (k : Nat) (hk : k < nSt) : Met l yJ0_length_8abf5 (wsO yJ0_length_8abf5 cJ0_length_8abf5 1 (some .int)) (rmJ 1 20) (PcZ Ω A Z [.ref (Ω.2.2.1 k)]) (Qci (fun _ => Z) A (σ, nI (lenSt.getD k 0))) 0 0 A := by
  refine Met.ofV (by decide) rfl (fun Γ hΓ X => ?_)
  have X : Fx Γ Ω A cJ0_length_8abf5 1 "java/lang/String" (rmJ 1 20) (some .int) := X
  show V Γ (0, 0) _ A 1 Z 0 [(0, .ref (Ω.2.2.1 k))] []
  refine tv_aload_n X dJ0_length_8abf5_0 rfl 0 rfl ?_
  refine tv_sget X (X.2.1.2.1.1 k hk).2.2.1 gw_6_211 dJ0_length_8abf5_1 ?_
  refine tv_tlen X (X.2.1.2.1.1 k hk).2.2.2 dJ0_length_8abf5_4 ?_
  refine tv_aload_n X dJ0_length_8abf5_5 rfl 0 rfl ?_
  refine tv_callVi (Zf := fun _ => Z) (st := [.int (nI (lenSt.getD k 0))]) X (c_J0_coder Γ.2.1 Ω A Z σ k hk) ⟨gw_2_181, gw_2_178, gw_1_11, ⟨by decide +kernel, by decide +kernel, by decide +kernel⟩, rfl, rfl, ⟨Nat.le_of_ble_eq_true rfl, Nat.le_of_ble_eq_true rfl⟩⟩ gw_2_179 gw_2_180 (fun H locs _ hS => vk_recv X.2.1.2.1 hk hS) rfl rfl (Nat.le_of_ble_eq_true rfl) dJ0_length_8abf5_6 ?_
  refine tv_ishr X dJ0_length_8abf5_9 ?_
  refine tv_iret (Zf := fun _ => Z) (σ := σ) X dJ0_length_8abf5_10 ?_
  rw [sc_shr0 (by have := (st_len k hk).2; omega)]
set_option maxHeartbeats 4000000 in
set_option maxRecDepth 100000 in
theorem c_J3_checkIndex (l : Launch) (Ω : Wd) (A : Nat → Prop) (Z : Heap → Prop) (σ : St) (j n : Int32) (v : Value) (hv : v = .null ∨ ∃ t, v = .ref t) (h1 : ¬ j < 0) (h2 : j < n) : Met l yJ3_checkIndex_8e157 (wsO yJ3_checkIndex_8e157 cJ3_checkIndex_8e157 3 (some .int)) (rmJ 0 0) (PcZ Ω A Z [.int j, .int n, v]) (Qci (fun _ => Z) A (σ, j)) 0 0 A := by
  rcases hv with rfl | ⟨t, rfl⟩
  · refine Met.ofV (by decide) rfl (fun Γ hΓ X => ?_)
    show V Γ (0, 0) _ A 3 Z 0 [(0, .int j), (1, .int n), (2, .null)] []
    refine tv_iload_n X dJ3_checkIndex_8e157_0 rfl 0 rfl ?_
    refine tv_if_lt X 9 dJ3_checkIndex_8e157_1 (by decide) (if_neg h1 : (if j < 0 then none else some ()) = some ()) (fun h => nomatch h) (fun _ => ?_)
    refine tv_iload_n X dJ3_checkIndex_8e157_4 rfl 0 rfl ?_
    refine tv_iload_n X dJ3_checkIndex_8e157_5 rfl 1 rfl ?_
    refine tv_icmp_lt X 16 dJ3_checkIndex_8e157_6 (by decide) (if_pos h2 : (if j < n then some () else none) = some ()) (fun _ => ?_) (fun h => nomatch h)
    refine tv_iload_n X dJ3_checkIndex_8e157_16 rfl 0 rfl ?_
    exact tv_iret (Zf := fun _ => Z) X dJ3_checkIndex_8e157_17 rfl
  · refine Met.ofV (by decide) rfl (fun Γ hΓ X => ?_)
    show V Γ (0, 0) _ A 3 Z 0 [(0, .int j), (1, .int n), (2, .ref t)] []
    refine tv_iload_n X dJ3_checkIndex_8e157_0 rfl 0 rfl ?_
    refine tv_if_lt X 9 dJ3_checkIndex_8e157_1 (by decide) (if_neg h1 : (if j < 0 then none else some ()) = some ()) (fun h => nomatch h) (fun _ => ?_)
    refine tv_iload_n X dJ3_checkIndex_8e157_4 rfl 0 rfl ?_
    refine tv_iload_n X dJ3_checkIndex_8e157_5 rfl 1 rfl ?_
    refine tv_icmp_lt X 16 dJ3_checkIndex_8e157_6 (by decide) (if_pos h2 : (if j < n then some () else none) = some ()) (fun _ => ?_) (fun h => nomatch h)
    refine tv_iload_n X dJ3_checkIndex_8e157_16 rfl 0 rfl ?_
    exact tv_iret (Zf := fun _ => Z) X dJ3_checkIndex_8e157_17 rfl
set_option maxHeartbeats 4000000 in
set_option maxRecDepth 100000 in
theorem c_J0_checkIndex (l : Launch) (Ω : Wd) (A : Nat → Prop) (Z : Heap → Prop) (σ : St) (j n : Int32) (h1 : ¬ j < 0) (h2 : j < n) : Met l yJ0_checkIndex_df160 (wsO yJ0_checkIndex_df160 cJ0_checkIndex_df160 2 none) (rmJ 1 22) (PcZ Ω A Z [.int j, .int n]) (Qcv (fun _ => Z) A (σ, ())) 0 0 A := by
  refine Met.ofV (by decide) rfl (fun Γ hΓ X => ?_)
  have X : Fx Γ Ω A cJ0_checkIndex_df160 2 "java/lang/String" (rmJ 1 22) none := X
  show V Γ (0, 0) _ A 2 Z 0 [(0, .int j), (1, .int n)] []
  refine tv_iload_n X dJ0_checkIndex_df160_0 rfl 0 rfl ?_
  refine tv_iload_n X dJ0_checkIndex_df160_1 rfl 1 rfl ?_
  have go : ∀ v : Value, (v = .null ∨ ∃ t, v = .ref t) → va_Z "jdk/internal/util/Preconditions" "SIOOBE_FORMATTER" "Ljava/util/function/BiFunction;" v A Γ.2.2.2.2.1 Γ.2.2.2.2.1.heap → V Γ (0, 0) (Qe Γ (0, 0) A (Qcv (fun _ => Z) A (σ, ()))) A 2 Z 2 [(0, .int j), (1, .int n)] [.int n, .int j] := by
    intro v hv hz
    refine tv_gets X hz gw_2_199 dJ0_checkIndex_df160_2 ?_
    refine tv_callSi (np := 3) (Zf := fun _ => Z) (st := []) X (c_J3_checkIndex Γ.2.1 Ω A Z σ j n v hv h1 h2) ⟨gw_2_203, gw_2_201, gw_1_13, ⟨by decide +kernel, by decide +kernel, by decide +kernel⟩, rfl, rfl, ⟨Nat.le_of_ble_eq_true rfl, Nat.le_of_ble_eq_true rfl⟩⟩ gw_2_202 rfl rfl (Nat.le_of_ble_eq_true rfl) dJ0_checkIndex_df160_5 ?_
    refine tv_pop X dJ0_checkIndex_df160_8 rfl ?_
    exact tv_vret (Zf := fun _ => Z) (σ := σ) X dJ0_checkIndex_df160_9 rfl
  rcases X.2.1.2.2.2.2.1 with hz | ⟨t, hz⟩
  · exact go _ (Or.inl rfl) hz
  · exact go _ (Or.inr ⟨t, rfl⟩) hz
set_option maxHeartbeats 4000000 in
set_option maxRecDepth 100000 in
theorem c_J1_charAt (l : Launch) (Ω : Wd) (A : Nat → Prop) (Z : Heap → Prop) (σ : St) (k j : Nat) (hk : k < nSt) (hj : j < lenSt.getD k 0) : Met l yJ1_charAt_3b067 (wsO yJ1_charAt_3b067 cJ1_charAt_3b067 2 (some .char)) (rmJ 2 43) (PcZ Ω A Z [.ref (Ω.2.2.2 k), .int (nI j)]) (Qci (fun _ => Z) A (σ, stc k j)) 0 0 A := by
  have hL := (st_len k hk).2
  refine Met.ofV (by decide) rfl (fun Γ hΓ X => ?_)
  have X : Fx Γ Ω A cJ1_charAt_3b067 2 "java/lang/StringLatin1" (rmJ 2 43) (some .char) := X
  show V Γ (0, 0) _ A 2 Z 0 [(0, .ref (Ω.2.2.2 k)), (1, .int (nI j))] []
  refine tv_iload_n X dJ1_charAt_3b067_0 rfl 1 rfl ?_
  refine tv_aload_n X dJ1_charAt_3b067_1 rfl 0 rfl ?_
  refine tv_tlen X (X.2.1.2.1.1 k hk).2.2.2 dJ1_charAt_3b067_2 ?_
  refine tv_callSv (np := 2) (Zf := fun _ => Z) (st := []) X (c_J0_checkIndex Γ.2.1 Ω A Z σ (nI j) (nI (lenSt.getD k 0)) (nI_pos (by omega)) (nI_lt hj (by omega))) ⟨gw_2_198, gw_2_196, gw_1_11, ⟨by decide +kernel, by decide +kernel, by decide +kernel⟩, rfl, rfl, ⟨Nat.le_of_ble_eq_true rfl, Nat.le_of_ble_eq_true rfl⟩⟩ gw_2_197 rfl rfl (Nat.le_of_ble_eq_true rfl) dJ1_charAt_3b067_3 ?_
  refine tv_aload_n X dJ1_charAt_3b067_6 rfl 0 rfl ?_
  refine tv_iload_n X dJ1_charAt_3b067_7 rfl 1 rfl ?_
  refine tv_tb (v := .int (stc k j)) X (X.2.1.2.1.1 k hk).2.2.2 (vp_in_nI hj (by omega)) (by rw [nI_clamp (by omega)]; rfl) dJ1_charAt_3b067_8 ?_
  refine tv_sipush X 255 dJ1_charAt_3b067_9 (by decide) ?_
  refine tv_iand X dJ1_charAt_3b067_12 ?_
  refine tv_i2c X dJ1_charAt_3b067_13 ?_
  rw [(st_chr k hk j hj).1]
  exact tv_gret (Zf := fun _ => Z) X dJ1_charAt_3b067_14 (st_chr k hk j hj).2 rfl
set_option maxHeartbeats 4000000 in
set_option maxRecDepth 100000 in
theorem c_J0_charAt (l : Launch) (Ω : Wd) (A : Nat → Prop) (Z : Heap → Prop) (σ : St) (k j : Nat) (hk : k < nSt) (hj : j < lenSt.getD k 0) : Met l yJ0_charAt_5068e (wsO yJ0_charAt_5068e cJ0_charAt_5068e 2 (some .char)) (rmJ 3 64) (PcZ Ω A Z [.ref (Ω.2.2.1 k), .int (nI j)]) (Qci (fun _ => Z) A (σ, stc k j)) 0 0 A := by
  refine Met.ofV (by decide) rfl (fun Γ hΓ X => ?_)
  have X : Fx Γ Ω A cJ0_charAt_5068e 2 "java/lang/String" (rmJ 3 64) (some .char) := X
  show V Γ (0, 0) _ A 2 Z 0 [(0, .ref (Ω.2.2.1 k)), (1, .int (nI j))] []
  refine tv_aload_n X dJ0_charAt_5068e_0 rfl 0 rfl ?_
  refine tv_callVi (Zf := fun _ => Z) (st := []) X (c_J0_isLatin1 Γ.2.1 Ω A Z σ k hk) ⟨gw_2_192, gw_2_189, gw_1_11, ⟨by decide +kernel, by decide +kernel, by decide +kernel⟩, rfl, rfl, ⟨Nat.le_of_ble_eq_true rfl, Nat.le_of_ble_eq_true rfl⟩⟩ gw_2_190 gw_2_191 (fun H locs _ hS => vk_recv X.2.1.2.1 hk hS) rfl rfl (Nat.le_of_ble_eq_true rfl) dJ0_charAt_5068e_1 ?_
  refine tv_if_eq X 16 dJ0_charAt_5068e_4 (by decide) (by decide : (if (1 : Int32) = 0 then none else some ()) = some ()) (fun h => nomatch h) (fun _ => ?_)
  refine tv_aload_n X dJ0_charAt_5068e_7 rfl 0 rfl ?_
  refine tv_sget X (X.2.1.2.1.1 k hk).2.2.1 gw_6_211 dJ0_charAt_5068e_8 ?_
  refine tv_iload_n X dJ0_charAt_5068e_11 rfl 1 rfl ?_
  refine tv_callSi (np := 2) (Zf := fun _ => Z) (st := []) X (c_J1_charAt Γ.2.1 Ω A Z σ k j hk hj) ⟨gw_2_195, gw_2_193, gw_1_12, ⟨by decide +kernel, by decide +kernel, by decide +kernel⟩, rfl, rfl, ⟨Nat.le_of_ble_eq_true rfl, Nat.le_of_ble_eq_true rfl⟩⟩ gw_2_194 rfl rfl (Nat.le_of_ble_eq_true rfl) dJ0_charAt_5068e_12 ?_
  exact tv_gret (Zf := fun _ => Z) X dJ0_charAt_5068e_15 (st_chr k hk j hj).2 rfl
section Jdk2
variable {Γ : Cx} {cs : Nat × Nat} {Q : State → Prop} {A : Nat → Prop} {nL : Nat} {Z : Heap → Prop} {pc : Nat} {lv : List (Nat × Value)} {st : List Value} {Ω : Wd} {cc : ByteArray} {own : String} {rm : Room} {ret : Option FieldType} {ρ : Type} {r : ρ} {index k : Nat}
theorem slX (X : Fx Γ Ω A cc nL own rm ret) (hk : k < nSt) (hlk : Cond.methodLink own index yJ0_length_8abf5 ∈ GW) (hfr : 2 ≤ rm.frames) (hlo : 40 ≤ rm.locals) (hd : decode cc pc = .ok (.invokevirtual index, 3)) (kk : V Γ cs Q A nL Z (pc + 3) lv (.int (nI (lenSt.getD k 0)) :: st)) (hcat : Nat.ble (st.map fun v => v.category).sum 8 = true := by rfl) (hcs : cs.1 ≤ rm.cells ∧ cs.2 ≤ rm.slots := by exact ⟨Nat.zero_le _, Nat.zero_le _⟩) : V Γ cs Q A nL Z pc lv (.ref (Ω.2.2.1 k) :: st) :=
  tv_callVi (Zf := fun _ => Z) (σ1 := (fun _ _ => 0, fun _ _ => 0, fun _ _ _ => 0)) (st := st) X (c_J0_length Γ.2.1 Ω A Z _ k hk) ⟨gw_2_177, hlk, gw_1_11, ⟨by decide +kernel, by decide +kernel, by decide +kernel⟩, rfl, rfl, ⟨hfr, hlo⟩⟩ gw_2_175 gw_2_176 (fun H locs _ hS => vk_recv X.2.1.2.1 hk hS) rfl rfl (Nat.le_of_ble_eq_true hcat) hd kk hcs
theorem scX (X : Fx Γ Ω A cc nL own rm ret) {x : Int32} {K : Nat → Option ρ} (hk : k < nSt) (hlk : Cond.methodLink own index yJ0_charAt_5068e ∈ GW) (hfr : 4 ≤ rm.frames) (hlo : 85 ≤ rm.locals) (hd : decode cc pc = .ok (.invokevirtual index, 3)) (h : ck x (lenSt.getD k 0) K = some r) (kk : ∀ j, j < lenSt.getD k 0 → K j = some r → V Γ cs Q A nL Z (pc + 3) lv (.int (stc k j) :: st)) (hcat : Nat.ble (st.map fun v => v.category).sum 8 = true := by rfl) (hcs : cs.1 ≤ rm.cells ∧ cs.2 ≤ rm.slots := by exact ⟨Nat.zero_le _, Nat.zero_le _⟩) : V Γ cs Q A nL Z pc lv (.int x :: .ref (Ω.2.2.1 k) :: st) := by
  obtain ⟨h1, h2, h3⟩ := ck_some h
  obtain ⟨j, hj, rfl⟩ := vp_in_of h1 (by have := (st_len k hk).2; omega)
  rw [nI_clamp (by have := (st_len k hk).2; omega)] at h3
  exact tv_callVi (Zf := fun _ => Z) (σ1 := (fun _ _ => 0, fun _ _ => 0, fun _ _ _ => 0)) (st := st) (np := 1) X (c_J0_charAt Γ.2.1 Ω A Z _ k j hk hj) ⟨gw_2_188, hlk, gw_1_11, ⟨by decide +kernel, by decide +kernel, by decide +kernel⟩, rfl, rfl, ⟨hfr, hlo⟩⟩ gw_2_186 gw_2_187 (fun H locs _ hS => vk_recv X.2.1.2.1 hk hS) rfl rfl (Nat.le_of_ble_eq_true hcat) hd (kk j hj h3) hcs
end Jdk2
