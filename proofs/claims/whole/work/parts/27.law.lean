/-! The law: both objects answer alike, as long as R holds between their states. -/
/-- R holds at the start, and every call answers alike and keeps it -/
def Sim (R : St → St → Prop) : Prop := R sig0 tau0 ∧ ∀ σ τ : St, R σ τ →
  (∀ (x1 : Int32) (x2 : Int64), ∃ (σ' τ' : St) (r : Int32), f_X8_feed σ x1 x2 = some (σ', r) ∧ f_X9_feed τ x1 x2 = some (τ', r) ∧ R σ' τ') ∧
  (∀ (_ : Unit), ∃ (σ' τ' : St) (r : Int32), f_X8_read σ = some (σ', r) ∧ f_X9_read τ = some (τ', r) ∧ R σ' τ') ∧
  (∀ (_ : Unit), ∃ (σ' τ' : St) (r : Int32), f_X8_place σ = some (σ', r) ∧ f_X9_place τ = some (τ', r) ∧ R σ' τ') ∧
  (∀ (x1 : Int32) (x2 : Int32), ∃ (σ' τ' : St) (r : Int32), f_X8_grow σ x1 x2 = some (σ', r) ∧ f_X9_grow τ x1 x2 = some (τ', r) ∧ R σ' τ') ∧
  (∀ (_ : Unit), ∃ (σ' τ' : St) (r : Int32), f_X8_drop σ = some (σ', r) ∧ f_X9_drop τ = some (τ', r) ∧ R σ' τ') ∧
  (∀ (x1 : Int32), ∃ (σ' τ' : St) (r : Int32), f_X8_find σ x1 = some (σ', r) ∧ f_X9_find τ x1 = some (τ', r) ∧ R σ' τ') ∧
  (∀ (x1 : Int32) (x2 : Int32) (x3 : Int32), ∃ (σ' τ' : St) (r : Int32), f_X8_field σ x1 x2 x3 = some (σ', r) ∧ f_X9_field_ τ x1 x2 x3 = some (τ', r) ∧ R σ' τ') ∧
  (∀ (x1 : Int32) (x2 : Int32) (x3 : Int32), ∃ (σ' τ' : St) (r : Int32), f_X8_letter σ x1 x2 x3 = some (σ', r) ∧ f_X9_letter τ x1 x2 x3 = some (τ', r) ∧ R σ' τ') ∧
  (∀ (x1 : Int32) (x2 : Int32), ∃ (σ' τ' : St) (r : Int32), f_X8_leaf σ x1 x2 = some (σ', r) ∧ f_X9_leaf τ x1 x2 = some (τ', r) ∧ R σ' τ') ∧
  (∀ (x1 : Int32) (x2 : Int32), ∃ (σ' τ' : St) (r : Int32), f_X8_rule σ x1 x2 = some (σ', r) ∧ f_X9_rule_ τ x1 x2 = some (τ', r) ∧ R σ' τ') ∧
  (∀ (x1 : Int32), ∃ (σ' τ' : St) (r : Int32), f_X8_print σ x1 = some (σ', r) ∧ f_X9_print τ x1 = some (τ', r) ∧ R σ' τ') ∧
  (∀ (x1 : Int32), ∃ (σ' τ' : St) (r : Int32), f_X8_out σ x1 = some (σ', r) ∧ f_X9_out τ x1 = some (τ', r) ∧ R σ' τ') ∧
  (∀ (_ : Unit), ∃ (σ' τ' : St) (r : Int32), f_X8_take σ = some (σ', r) ∧ f_X9_take τ = some (τ', r) ∧ R σ' τ') ∧
  (∀ (x1 : Int32) (x2 : Int32), ∃ (σ' τ' : St) (r : Int32), f_X8_differences σ x1 x2 = some (σ', r) ∧ f_X9_differences τ x1 x2 = some (τ', r) ∧ R σ' τ') ∧
  (∀ (x1 : Int32) (x2 : Int32) (x3 : Int32) (x4 : Int32), ∃ (σ' τ' : St) (r : Int32), f_X8_difference σ x1 x2 x3 x4 = some (σ', r) ∧ f_X9_difference τ x1 x2 x3 x4 = some (τ', r) ∧ R σ' τ') ∧
  (∀ (x1 : Int32) (x2 : Int32), ∃ (σ' τ' : St) (r : Int32), f_X8_told σ x1 x2 = some (σ', r) ∧ f_X9_told τ x1 x2 = some (τ', r) ∧ R σ' τ')
abbrev AX (B : Nat) : Nat → Prop := fun q => B ≤ q ∧ q < B + 1977
abbrev AM (B : Nat) : Nat → Prop := fun q => B + 1977 ≤ q ∧ q < B + 1977 + 42
def ZL (Ω : Wd) (B : Nat) (σ τ : St) (H : Heap) : Prop := PicX Ω (adX B) (AX B) σ H ∧ PicM Ω (adM (B + 1977)) (AM B) τ H
theorem PP.kept {Ω : Wd} {cnt : List Nat} {ad : Nat → Nat → Nat} {A : Nat → Prop} {E : Nat → Nat → va_E} {H H1 : Heap} (h : PP Ω cnt ad A E H) (hq : ∀ q, q < H.size → A q → H1[q]? = H[q]?) : PP Ω cnt ad A E H1 :=
  ⟨h.1.kept (fun k x hx => hq _ (h.1 k x hx).lt (h.2.2 k x hx)), h.2⟩
theorem SKK.narrow {Ω : Wd} {A B : Nat → Prop} {U : State} (h : KK Ω A U) (hAB : ∀ q, B q → A q) : KK Ω B U := ⟨h.1, h.2.1.narrow hAB, h.2.2.1, h.2.2.2.1.narrow hAB, h.2.2.2.2.1.narrow hAB, h.2.2.2.2.2⟩
section Law
variable {Γ : Cx} {cs : Nat × Nat} {Q : State → Prop} {nL pc B : Nat} {lv : List (Nat × Value)} {st stk : List Value} {Ω : Wd} {cc : ByteArray} {own : String} {rm : Room} {ret : Option FieldType} {σ τ σ' τ' : St} {r : Int32}
variable {y : MethodName} {b : ByteArray} {n index np : Nat} {rt : Option FieldType} {rm2 : Room} {As : List Value}
theorem tl_callX (hB : Γ.2.2.2.2.1.heap.size = B) (X : Fx Γ Ω (fun q => Γ.2.2.2.2.1.heap.size ≤ q) cc nL own rm ret) (hM : Met Γ.2.1 y (wsO y b n rt) rm2 (PcZ Ω (AX B) (PicX Ω (adX B) (AX B) σ) (.ref (adX B 0 0) :: As)) (Qci (PicX Ω (adX B) (AX B)) (AX B) (σ', r)) 0 0 (AX B)) (w : Cw own index y b n rt np rm2 rm) (hin : Cond.instanceMethod y ∈ GW) (hse : Cond.selects y.cls y y ∈ GW) (hyc : y.cls = "MappingTexts") (hn : As.length = np) (hsk : stk = As.reverse ++ .ref (adX B 0 0) :: st) (hcat : (st.map fun v => v.category).sum ≤ 8) (hcs : cs.1 ≤ rm.cells ∧ cs.2 ≤ rm.slots) (hd : decode cc pc = .ok (.invokevirtual index, 3))
    (kk : V Γ cs Q (fun q => Γ.2.2.2.2.1.heap.size ≤ q) nL (ZL Ω B σ' τ) (pc + 3) lv (.int r :: st)) : V Γ cs Q (fun q => Γ.2.2.2.2.1.heap.size ≤ q) nL (ZL Ω B σ τ) pc lv stk := by
  intro H locs ls hz hS hl
  subst hB
  have hrc : ∃ cell : Cell, H[adX Γ.2.2.2.2.1.heap.size 0 0]? = some cell ∧ cell.vm.isStatics = false ∧ Γ.2.2.2.2.1.vm.findClass y.cls = some cell.cls := by
    rw [hyc]
    exact PP.recv (f := 0) (i := 0) (SKK.narrow X.2.1 (fun q h => h.1)) hz.1.1 (by decide) rfl rfl
  refine va_calli (va_runV (C := y.cls) (As := As) (rest := st) X.1 hM ⟨w.cb X, X.1.2.2.2.2 _ hin, X.1.2.2.2.2 _ hse⟩ ⟨PcZ.blind, hrc, fun U hU hW => ⟨rfl, by rw [hU]; exact hz.1, SKK.narrow (X.2.1.at hS hU hW) (fun q h => h.1)⟩⟩ rfl hn hl.1 hsk (lv_room hcat) hd (by rw [X.2.2.2.1]; exact hcs)) hS (fun q _ h => h.1) (fun q h => h.1) (fun r' u t H1 locs1 ht hvm hw hBB _ hk hS1 => ?_)
  cases hw
  rw [ht] at hBB
  exact kk H1 locs1 ls ⟨hBB, hz.2.1.kept (fun q h1 h2 => hk q h1 (fun h => by omega)), trivial⟩ hS1 hl
theorem tl_callM (hB : Γ.2.2.2.2.1.heap.size = B) (X : Fx Γ Ω (fun q => Γ.2.2.2.2.1.heap.size ≤ q) cc nL own rm ret) (hM : Met Γ.2.1 y (wsO y b n rt) rm2 (PcZ Ω (AM B) (PicM Ω (adM (B + 1977)) (AM B) τ) (.ref (adM (B + 1977) 0 0) :: As)) (Qci (PicM Ω (adM (B + 1977)) (AM B)) (AM B) (τ', r)) 0 0 (AM B)) (w : Cw own index y b n rt np rm2 rm) (hin : Cond.instanceMethod y ∈ GW) (hse : Cond.selects y.cls y y ∈ GW) (hyc : y.cls = "MappingTextsModel") (hn : As.length = np) (hsk : stk = As.reverse ++ .ref (adM (B + 1977) 0 0) :: st) (hcat : (st.map fun v => v.category).sum ≤ 8) (hcs : cs.1 ≤ rm.cells ∧ cs.2 ≤ rm.slots) (hd : decode cc pc = .ok (.invokevirtual index, 3))
    (kk : V Γ cs Q (fun q => Γ.2.2.2.2.1.heap.size ≤ q) nL (ZL Ω B σ τ') (pc + 3) lv (.int r :: st)) : V Γ cs Q (fun q => Γ.2.2.2.2.1.heap.size ≤ q) nL (ZL Ω B σ τ) pc lv stk := by
  intro H locs ls hz hS hl
  subst hB
  have hrc : ∃ cell : Cell, H[adM (Γ.2.2.2.2.1.heap.size + 1977) 0 0]? = some cell ∧ cell.vm.isStatics = false ∧ Γ.2.2.2.2.1.vm.findClass y.cls = some cell.cls := by
    rw [hyc]
    exact PP.recv (f := 0) (i := 0) (SKK.narrow X.2.1 (fun q h => by have := h.1; omega)) hz.2.1 (by decide) rfl rfl
  refine va_calli (va_runV (C := y.cls) (As := As) (rest := st) X.1 hM ⟨w.cb X, X.1.2.2.2.2 _ hin, X.1.2.2.2.2 _ hse⟩ ⟨PcZ.blind, hrc, fun U hU hW => ⟨rfl, by rw [hU]; exact hz.2, SKK.narrow (X.2.1.at hS hU hW) (fun q h => by have := h.1; omega)⟩⟩ rfl hn hl.1 hsk (lv_room hcat) hd (by rw [X.2.2.2.1]; exact hcs)) hS (fun q _ h => by have := h.1; omega) (fun q h => by have := h.1; omega) (fun r' u t H1 locs1 ht hvm hw hBB _ hk hS1 => ?_)
  cases hw
  rw [ht] at hBB
  exact kk H1 locs1 ls ⟨⟨hz.1.1.kept (fun q h1 h2 => hk q h1 (fun h => by omega)), hz.1.2⟩, hBB⟩ hS1 hl
theorem tl_sld {A : Nat → Prop} {Z : Heap → Prop} {b L j : Nat} {xs : Nat → Int32} (X : Fx Γ Ω A cc nL own rm ret) (hX : va_X b L xs Γ.2.2.2.2.1 Γ.2.2.2.2.1.heap) (hbl : b < Γ.2.2.2.2.1.heap.size) (hbA : ¬ A b) (hj : j < L) (hL : L ≤ 2560) (hd : decode cc pc = .ok (.iaload, 1)) (kk : V Γ cs Q A nL Z (pc + 1) lv (.int (xs j) :: st)) : V Γ cs Q A nL Z pc lv (.int (nI j) :: .ref b :: st) := by
  intro H locs ls hz hS hl
  refine va_sld X.1.1 X.1.2.1 hX hbl hbA hS (vp_in_nI hj (by omega)) hd ?_
  rw [nI_clamp (by omega)]
  exact kk H locs ls hz hS hl
theorem tl_slen {A : Nat → Prop} {Z : Heap → Prop} {b L : Nat} {xs : Nat → Int32} (X : Fx Γ Ω A cc nL own rm ret) (hX : va_X b L xs Γ.2.2.2.2.1 Γ.2.2.2.2.1.heap) (hbl : b < Γ.2.2.2.2.1.heap.size) (hbA : ¬ A b) (hd : decode cc pc = .ok (.arraylength, 1)) (kk : V Γ cs Q A nL Z (pc + 1) lv (.int (nI L) :: st)) : V Γ cs Q A nL Z pc lv (.ref b :: st) := fun H locs ls hz hS hl => va_slen X.1.1 X.1.2.1 hX hbl hbA hS hd (kk H locs ls hz hS hl)
end Law
set_option maxHeartbeats 4000000 in
set_option maxRecDepth 100000 in
theorem law_0 {Γ : Cx} {Q : State → Prop} {Ω : Wd} {B b L i : Nat} {xs : Nat → Int32} {σ τ : St} {R : St → St → Prop} (hB : Γ.2.2.2.2.1.heap.size = B) (X : Fx Γ Ω (fun q => Γ.2.2.2.2.1.heap.size ≤ q) code 4 "MappingTextsLaw" room_1 (some .boolean)) (hX : va_X b L xs Γ.2.2.2.2.1 Γ.2.2.2.2.1.heap) (hbl : b < Γ.2.2.2.2.1.heap.size) (hL : L ≤ 2560) (hi : 5 * i + 5 ≤ L) (hs : Sim R) (hR : R σ τ) (hk : ∀ σ τ : St, R σ τ → V Γ (2019, 97478) Q (fun q => Γ.2.2.2.2.1.heap.size ≤ q) 4 (ZL Ω B σ τ) 600 [(3, .int (nI (5 * i))), (2, .ref (B + 1977)), (1, .ref B), (0, .ref b)] []) : V Γ (2019, 97478) Q (fun q => Γ.2.2.2.2.1.heap.size ≤ q) 4 (ZL Ω B σ τ) 112 [(3, .int (nI (5 * i))), (2, .ref (B + 1977)), (1, .ref B), (0, .ref b)] [] := by
  obtain ⟨σ', τ', r, h1, h2, h3⟩ := (hs.2 σ τ hR).1 (xs (5 * i + 1)) (((Int32.toInt64 (xs (5 * i + 2))) <<< (Int32.toInt64 32 &&& 63)) ||| ((Int32.toInt64 (xs (5 * i + 3))) &&& 4294967295))
  refine tv_aload_n X dL_law_112 rfl 2 rfl ?_
  refine tv_aload_n X dL_law_113 rfl 3 rfl ?_
  refine tv_iload_n X dL_law_114 rfl 0 rfl ?_
  refine tv_iconst X 1 dL_law_115 (by decide) ?_
  refine tv_iadd X dL_law_116 ?_
  rw [show nI (5 * i) + 1 = nI (5 * i + 1) from nI_add (5 * i) 1]
  refine tl_sld X hX hbl (Nat.not_le.mpr hbl) (j := 5 * i + 1) (by omega) hL dL_law_117 ?_
  refine tv_aload_n X dL_law_118 rfl 3 rfl ?_
  refine tv_iload_n X dL_law_119 rfl 0 rfl ?_
  refine tv_iconst X 2 dL_law_120 (by decide) ?_
  refine tv_iadd X dL_law_121 ?_
  rw [show nI (5 * i) + 2 = nI (5 * i + 2) from nI_add (5 * i) 2]
  refine tl_sld X hX hbl (Nat.not_le.mpr hbl) (j := 5 * i + 2) (by omega) hL dL_law_122 ?_
  refine tv_i2l X dL_law_123 ?_
  refine tv_bipush X 32 dL_law_124 (by decide) ?_
  refine tv_lshl X dL_law_126 ?_
  refine tv_aload_n X dL_law_127 rfl 3 rfl ?_
  refine tv_iload_n X dL_law_128 rfl 0 rfl ?_
  refine tv_iconst X 3 dL_law_129 (by decide) ?_
  refine tv_iadd X dL_law_130 ?_
  rw [show nI (5 * i) + 3 = nI (5 * i + 3) from nI_add (5 * i) 3]
  refine tl_sld X hX hbl (Nat.not_le.mpr hbl) (j := 5 * i + 3) (by omega) hL dL_law_131 ?_
  refine tv_i2l X dL_law_132 ?_
  refine tv_ldc2 X 4294967295 gw_6_210 dL_law_133 ?_
  refine tv_land X dL_law_136 ?_
  refine tv_lor X dL_law_137 ?_
  refine tl_callX (st := []) hB X (c_X8_feed Γ.2.1 Ω (adX B) (AX B) σ (xs (5 * i + 1)) (((Int32.toInt64 (xs (5 * i + 2))) <<< (Int32.toInt64 32 &&& 63)) ||| ((Int32.toInt64 (xs (5 * i + 3))) &&& 4294967295)) h1) ⟨gw_2_78, gw_2_75, gw_1_1, q_X8_feed, rfl, rfl, ⟨(Nat.le_of_ble_eq_true rfl), (Nat.le_of_ble_eq_true rfl)⟩⟩ gw_2_76 gw_2_77 rfl rfl rfl (Nat.le_of_ble_eq_true rfl) ⟨(Nat.le_of_ble_eq_true rfl), (Nat.le_of_ble_eq_true rfl)⟩ dL_law_138 ?_
  refine tv_aload_n X dL_law_141 rfl 1 rfl ?_
  refine tv_aload_n X dL_law_142 rfl 3 rfl ?_
  refine tv_iload_n X dL_law_143 rfl 0 rfl ?_
  refine tv_iconst X 1 dL_law_144 (by decide) ?_
  refine tv_iadd X dL_law_145 ?_
  rw [show nI (5 * i) + 1 = nI (5 * i + 1) from nI_add (5 * i) 1]
  refine tl_sld X hX hbl (Nat.not_le.mpr hbl) (j := 5 * i + 1) (by omega) hL dL_law_146 ?_
  refine tv_aload_n X dL_law_147 rfl 3 rfl ?_
  refine tv_iload_n X dL_law_148 rfl 0 rfl ?_
  refine tv_iconst X 2 dL_law_149 (by decide) ?_
  refine tv_iadd X dL_law_150 ?_
  rw [show nI (5 * i) + 2 = nI (5 * i + 2) from nI_add (5 * i) 2]
  refine tl_sld X hX hbl (Nat.not_le.mpr hbl) (j := 5 * i + 2) (by omega) hL dL_law_151 ?_
  refine tv_i2l X dL_law_152 ?_
  refine tv_bipush X 32 dL_law_153 (by decide) ?_
  refine tv_lshl X dL_law_155 ?_
  refine tv_aload_n X dL_law_156 rfl 3 rfl ?_
  refine tv_iload_n X dL_law_157 rfl 0 rfl ?_
  refine tv_iconst X 3 dL_law_158 (by decide) ?_
  refine tv_iadd X dL_law_159 ?_
  rw [show nI (5 * i) + 3 = nI (5 * i + 3) from nI_add (5 * i) 3]
  refine tl_sld X hX hbl (Nat.not_le.mpr hbl) (j := 5 * i + 3) (by omega) hL dL_law_160 ?_
  refine tv_i2l X dL_law_161 ?_
  refine tv_ldc2 X 4294967295 gw_6_210 dL_law_162 ?_
  refine tv_land X dL_law_165 ?_
  refine tv_lor X dL_law_166 ?_
  refine tl_callM (st := [.int r]) hB X (c_X9_feed Γ.2.1 Ω (adM (B + 1977)) (AM B) τ (xs (5 * i + 1)) (((Int32.toInt64 (xs (5 * i + 2))) <<< (Int32.toInt64 32 &&& 63)) ||| ((Int32.toInt64 (xs (5 * i + 3))) &&& 4294967295)) h2) ⟨gw_5_184, gw_5_181, gw_1_10, q_X9_feed, rfl, rfl, ⟨(Nat.le_of_ble_eq_true rfl), (Nat.le_of_ble_eq_true rfl)⟩⟩ gw_5_182 gw_5_183 rfl rfl rfl (Nat.le_of_ble_eq_true rfl) ⟨(Nat.le_of_ble_eq_true rfl), (Nat.le_of_ble_eq_true rfl)⟩ dL_law_167 ?_
  exact tv_icmp_eq X 600 dL_law_170 (by decide) (if_pos rfl : (if r = r then some () else none) = some ()) (fun _ => hk σ' τ' h3) (fun h => nomatch h)
set_option maxHeartbeats 4000000 in
set_option maxRecDepth 100000 in
theorem law_1 {Γ : Cx} {Q : State → Prop} {Ω : Wd} {B b L i : Nat} {xs : Nat → Int32} {σ τ : St} {R : St → St → Prop} (hB : Γ.2.2.2.2.1.heap.size = B) (X : Fx Γ Ω (fun q => Γ.2.2.2.2.1.heap.size ≤ q) code 4 "MappingTextsLaw" room_1 (some .boolean)) (hX : va_X b L xs Γ.2.2.2.2.1 Γ.2.2.2.2.1.heap) (hbl : b < Γ.2.2.2.2.1.heap.size) (hL : L ≤ 2560) (hi : 5 * i + 5 ≤ L) (hs : Sim R) (hR : R σ τ) (hk : ∀ σ τ : St, R σ τ → V Γ (2019, 97478) Q (fun q => Γ.2.2.2.2.1.heap.size ≤ q) 4 (ZL Ω B σ τ) 600 [(3, .int (nI (5 * i))), (2, .ref (B + 1977)), (1, .ref B), (0, .ref b)] []) : V Γ (2019, 97478) Q (fun q => Γ.2.2.2.2.1.heap.size ≤ q) 4 (ZL Ω B σ τ) 175 [(3, .int (nI (5 * i))), (2, .ref (B + 1977)), (1, .ref B), (0, .ref b)] [] := by
  obtain ⟨σ', τ', r, h1, h2, h3⟩ := (hs.2 σ τ hR).2.1 ()
  refine tv_aload_n X dL_law_175 rfl 2 rfl ?_
  refine tl_callX (st := []) hB X (c_X8_read Γ.2.1 Ω (adX B) (AX B) σ h1) ⟨gw_2_94, gw_2_91, gw_1_1, q_X8_read, rfl, rfl, ⟨(Nat.le_of_ble_eq_true rfl), (Nat.le_of_ble_eq_true rfl)⟩⟩ gw_2_92 gw_2_93 rfl rfl rfl (Nat.le_of_ble_eq_true rfl) ⟨(Nat.le_of_ble_eq_true rfl), (Nat.le_of_ble_eq_true rfl)⟩ dL_law_176 ?_
  refine tv_aload_n X dL_law_179 rfl 1 rfl ?_
  refine tl_callM (st := [.int r]) hB X (c_X9_read Γ.2.1 Ω (adM (B + 1977)) (AM B) τ h2) ⟨gw_5_191, gw_5_188, gw_1_10, q_X9_read, rfl, rfl, ⟨(Nat.le_of_ble_eq_true rfl), (Nat.le_of_ble_eq_true rfl)⟩⟩ gw_5_189 gw_5_190 rfl rfl rfl (Nat.le_of_ble_eq_true rfl) ⟨(Nat.le_of_ble_eq_true rfl), (Nat.le_of_ble_eq_true rfl)⟩ dL_law_180 ?_
  exact tv_icmp_eq X 600 dL_law_183 (by decide) (if_pos rfl : (if r = r then some () else none) = some ()) (fun _ => hk σ' τ' h3) (fun h => nomatch h)
set_option maxHeartbeats 4000000 in
set_option maxRecDepth 100000 in
theorem law_2 {Γ : Cx} {Q : State → Prop} {Ω : Wd} {B b L i : Nat} {xs : Nat → Int32} {σ τ : St} {R : St → St → Prop} (hB : Γ.2.2.2.2.1.heap.size = B) (X : Fx Γ Ω (fun q => Γ.2.2.2.2.1.heap.size ≤ q) code 4 "MappingTextsLaw" room_1 (some .boolean)) (hX : va_X b L xs Γ.2.2.2.2.1 Γ.2.2.2.2.1.heap) (hbl : b < Γ.2.2.2.2.1.heap.size) (hL : L ≤ 2560) (hi : 5 * i + 5 ≤ L) (hs : Sim R) (hR : R σ τ) (hk : ∀ σ τ : St, R σ τ → V Γ (2019, 97478) Q (fun q => Γ.2.2.2.2.1.heap.size ≤ q) 4 (ZL Ω B σ τ) 600 [(3, .int (nI (5 * i))), (2, .ref (B + 1977)), (1, .ref B), (0, .ref b)] []) : V Γ (2019, 97478) Q (fun q => Γ.2.2.2.2.1.heap.size ≤ q) 4 (ZL Ω B σ τ) 188 [(3, .int (nI (5 * i))), (2, .ref (B + 1977)), (1, .ref B), (0, .ref b)] [] := by
  obtain ⟨σ', τ', r, h1, h2, h3⟩ := (hs.2 σ τ hR).2.2.1 ()
  refine tv_aload_n X dL_law_188 rfl 2 rfl ?_
  refine tl_callX (st := []) hB X (c_X8_place Γ.2.1 Ω (adX B) (AX B) σ h1) ⟨gw_3_232, gw_3_229, gw_1_1, q_X8_place, rfl, rfl, ⟨(Nat.le_of_ble_eq_true rfl), (Nat.le_of_ble_eq_true rfl)⟩⟩ gw_3_230 gw_3_231 rfl rfl rfl (Nat.le_of_ble_eq_true rfl) ⟨(Nat.le_of_ble_eq_true rfl), (Nat.le_of_ble_eq_true rfl)⟩ dL_law_189 ?_
  refine tv_aload_n X dL_law_192 rfl 1 rfl ?_
  refine tl_callM (st := [.int r]) hB X (c_X9_place Γ.2.1 Ω (adM (B + 1977)) (AM B) τ h2) ⟨gw_6_53, gw_6_50, gw_1_10, q_X9_place, rfl, rfl, ⟨(Nat.le_of_ble_eq_true rfl), (Nat.le_of_ble_eq_true rfl)⟩⟩ gw_6_51 gw_6_52 rfl rfl rfl (Nat.le_of_ble_eq_true rfl) ⟨(Nat.le_of_ble_eq_true rfl), (Nat.le_of_ble_eq_true rfl)⟩ dL_law_193 ?_
  exact tv_icmp_eq X 600 dL_law_196 (by decide) (if_pos rfl : (if r = r then some () else none) = some ()) (fun _ => hk σ' τ' h3) (fun h => nomatch h)
set_option maxHeartbeats 4000000 in
set_option maxRecDepth 100000 in
theorem law_3 {Γ : Cx} {Q : State → Prop} {Ω : Wd} {B b L i : Nat} {xs : Nat → Int32} {σ τ : St} {R : St → St → Prop} (hB : Γ.2.2.2.2.1.heap.size = B) (X : Fx Γ Ω (fun q => Γ.2.2.2.2.1.heap.size ≤ q) code 4 "MappingTextsLaw" room_1 (some .boolean)) (hX : va_X b L xs Γ.2.2.2.2.1 Γ.2.2.2.2.1.heap) (hbl : b < Γ.2.2.2.2.1.heap.size) (hL : L ≤ 2560) (hi : 5 * i + 5 ≤ L) (hs : Sim R) (hR : R σ τ) (hk : ∀ σ τ : St, R σ τ → V Γ (2019, 97478) Q (fun q => Γ.2.2.2.2.1.heap.size ≤ q) 4 (ZL Ω B σ τ) 600 [(3, .int (nI (5 * i))), (2, .ref (B + 1977)), (1, .ref B), (0, .ref b)] []) : V Γ (2019, 97478) Q (fun q => Γ.2.2.2.2.1.heap.size ≤ q) 4 (ZL Ω B σ τ) 201 [(3, .int (nI (5 * i))), (2, .ref (B + 1977)), (1, .ref B), (0, .ref b)] [] := by
  obtain ⟨σ', τ', r, h1, h2, h3⟩ := (hs.2 σ τ hR).2.2.2.1 (xs (5 * i + 1)) (xs (5 * i + 2))
  refine tv_aload_n X dL_law_201 rfl 2 rfl ?_
  refine tv_aload_n X dL_law_202 rfl 3 rfl ?_
  refine tv_iload_n X dL_law_203 rfl 0 rfl ?_
  refine tv_iconst X 1 dL_law_204 (by decide) ?_
  refine tv_iadd X dL_law_205 ?_
  rw [show nI (5 * i) + 1 = nI (5 * i + 1) from nI_add (5 * i) 1]
  refine tl_sld X hX hbl (Nat.not_le.mpr hbl) (j := 5 * i + 1) (by omega) hL dL_law_206 ?_
  refine tv_aload_n X dL_law_207 rfl 3 rfl ?_
  refine tv_iload_n X dL_law_208 rfl 0 rfl ?_
  refine tv_iconst X 2 dL_law_209 (by decide) ?_
  refine tv_iadd X dL_law_210 ?_
  rw [show nI (5 * i) + 2 = nI (5 * i + 2) from nI_add (5 * i) 2]
  refine tl_sld X hX hbl (Nat.not_le.mpr hbl) (j := 5 * i + 2) (by omega) hL dL_law_211 ?_
  refine tl_callX (st := []) hB X (c_X8_grow Γ.2.1 Ω (adX B) (AX B) σ (xs (5 * i + 1)) (xs (5 * i + 2)) h1) ⟨gw_3_236, gw_3_233, gw_1_1, q_X8_grow, rfl, rfl, ⟨(Nat.le_of_ble_eq_true rfl), (Nat.le_of_ble_eq_true rfl)⟩⟩ gw_3_234 gw_3_235 rfl rfl rfl (Nat.le_of_ble_eq_true rfl) ⟨(Nat.le_of_ble_eq_true rfl), (Nat.le_of_ble_eq_true rfl)⟩ dL_law_212 ?_
  refine tv_aload_n X dL_law_215 rfl 1 rfl ?_
  refine tv_aload_n X dL_law_216 rfl 3 rfl ?_
  refine tv_iload_n X dL_law_217 rfl 0 rfl ?_
  refine tv_iconst X 1 dL_law_218 (by decide) ?_
  refine tv_iadd X dL_law_219 ?_
  rw [show nI (5 * i) + 1 = nI (5 * i + 1) from nI_add (5 * i) 1]
  refine tl_sld X hX hbl (Nat.not_le.mpr hbl) (j := 5 * i + 1) (by omega) hL dL_law_220 ?_
  refine tv_aload_n X dL_law_221 rfl 3 rfl ?_
  refine tv_iload_n X dL_law_222 rfl 0 rfl ?_
  refine tv_iconst X 2 dL_law_223 (by decide) ?_
  refine tv_iadd X dL_law_224 ?_
  rw [show nI (5 * i) + 2 = nI (5 * i + 2) from nI_add (5 * i) 2]
  refine tl_sld X hX hbl (Nat.not_le.mpr hbl) (j := 5 * i + 2) (by omega) hL dL_law_225 ?_
  refine tl_callM (st := [.int r]) hB X (c_X9_grow Γ.2.1 Ω (adM (B + 1977)) (AM B) τ (xs (5 * i + 1)) (xs (5 * i + 2)) h2) ⟨gw_6_88, gw_6_85, gw_1_10, q_X9_grow, rfl, rfl, ⟨(Nat.le_of_ble_eq_true rfl), (Nat.le_of_ble_eq_true rfl)⟩⟩ gw_6_86 gw_6_87 rfl rfl rfl (Nat.le_of_ble_eq_true rfl) ⟨(Nat.le_of_ble_eq_true rfl), (Nat.le_of_ble_eq_true rfl)⟩ dL_law_226 ?_
  exact tv_icmp_eq X 600 dL_law_229 (by decide) (if_pos rfl : (if r = r then some () else none) = some ()) (fun _ => hk σ' τ' h3) (fun h => nomatch h)
set_option maxHeartbeats 4000000 in
set_option maxRecDepth 100000 in
theorem law_4 {Γ : Cx} {Q : State → Prop} {Ω : Wd} {B b L i : Nat} {xs : Nat → Int32} {σ τ : St} {R : St → St → Prop} (hB : Γ.2.2.2.2.1.heap.size = B) (X : Fx Γ Ω (fun q => Γ.2.2.2.2.1.heap.size ≤ q) code 4 "MappingTextsLaw" room_1 (some .boolean)) (hX : va_X b L xs Γ.2.2.2.2.1 Γ.2.2.2.2.1.heap) (hbl : b < Γ.2.2.2.2.1.heap.size) (hL : L ≤ 2560) (hi : 5 * i + 5 ≤ L) (hs : Sim R) (hR : R σ τ) (hk : ∀ σ τ : St, R σ τ → V Γ (2019, 97478) Q (fun q => Γ.2.2.2.2.1.heap.size ≤ q) 4 (ZL Ω B σ τ) 600 [(3, .int (nI (5 * i))), (2, .ref (B + 1977)), (1, .ref B), (0, .ref b)] []) : V Γ (2019, 97478) Q (fun q => Γ.2.2.2.2.1.heap.size ≤ q) 4 (ZL Ω B σ τ) 234 [(3, .int (nI (5 * i))), (2, .ref (B + 1977)), (1, .ref B), (0, .ref b)] [] := by
  obtain ⟨σ', τ', r, h1, h2, h3⟩ := (hs.2 σ τ hR).2.2.2.2.1 ()
  refine tv_aload_n X dL_law_234 rfl 2 rfl ?_
  refine tl_callX (st := []) hB X (c_X8_drop Γ.2.1 Ω (adX B) (AX B) σ h1) ⟨gw_4_87, gw_4_84, gw_1_1, q_X8_drop, rfl, rfl, ⟨(Nat.le_of_ble_eq_true rfl), (Nat.le_of_ble_eq_true rfl)⟩⟩ gw_4_85 gw_4_86 rfl rfl rfl (Nat.le_of_ble_eq_true rfl) ⟨(Nat.le_of_ble_eq_true rfl), (Nat.le_of_ble_eq_true rfl)⟩ dL_law_235 ?_
  refine tv_aload_n X dL_law_238 rfl 1 rfl ?_
  refine tl_callM (st := [.int r]) hB X (c_X9_drop Γ.2.1 Ω (adM (B + 1977)) (AM B) τ h2) ⟨gw_6_57, gw_6_54, gw_1_10, q_X9_drop, rfl, rfl, ⟨(Nat.le_of_ble_eq_true rfl), (Nat.le_of_ble_eq_true rfl)⟩⟩ gw_6_55 gw_6_56 rfl rfl rfl (Nat.le_of_ble_eq_true rfl) ⟨(Nat.le_of_ble_eq_true rfl), (Nat.le_of_ble_eq_true rfl)⟩ dL_law_239 ?_
  exact tv_icmp_eq X 600 dL_law_242 (by decide) (if_pos rfl : (if r = r then some () else none) = some ()) (fun _ => hk σ' τ' h3) (fun h => nomatch h)
set_option maxHeartbeats 4000000 in
set_option maxRecDepth 100000 in
theorem law_5 {Γ : Cx} {Q : State → Prop} {Ω : Wd} {B b L i : Nat} {xs : Nat → Int32} {σ τ : St} {R : St → St → Prop} (hB : Γ.2.2.2.2.1.heap.size = B) (X : Fx Γ Ω (fun q => Γ.2.2.2.2.1.heap.size ≤ q) code 4 "MappingTextsLaw" room_1 (some .boolean)) (hX : va_X b L xs Γ.2.2.2.2.1 Γ.2.2.2.2.1.heap) (hbl : b < Γ.2.2.2.2.1.heap.size) (hL : L ≤ 2560) (hi : 5 * i + 5 ≤ L) (hs : Sim R) (hR : R σ τ) (hk : ∀ σ τ : St, R σ τ → V Γ (2019, 97478) Q (fun q => Γ.2.2.2.2.1.heap.size ≤ q) 4 (ZL Ω B σ τ) 600 [(3, .int (nI (5 * i))), (2, .ref (B + 1977)), (1, .ref B), (0, .ref b)] []) : V Γ (2019, 97478) Q (fun q => Γ.2.2.2.2.1.heap.size ≤ q) 4 (ZL Ω B σ τ) 247 [(3, .int (nI (5 * i))), (2, .ref (B + 1977)), (1, .ref B), (0, .ref b)] [] := by
  obtain ⟨σ', τ', r, h1, h2, h3⟩ := (hs.2 σ τ hR).2.2.2.2.2.1 (xs (5 * i + 1))
  refine tv_aload_n X dL_law_247 rfl 2 rfl ?_
  refine tv_aload_n X dL_law_248 rfl 3 rfl ?_
  refine tv_iload_n X dL_law_249 rfl 0 rfl ?_
  refine tv_iconst X 1 dL_law_250 (by decide) ?_
  refine tv_iadd X dL_law_251 ?_
  rw [show nI (5 * i) + 1 = nI (5 * i + 1) from nI_add (5 * i) 1]
  refine tl_sld X hX hbl (Nat.not_le.mpr hbl) (j := 5 * i + 1) (by omega) hL dL_law_252 ?_
  refine tl_callX (st := []) hB X (c_X8_find Γ.2.1 Ω (adX B) (AX B) σ (xs (5 * i + 1)) h1) ⟨gw_4_91, gw_4_88, gw_1_1, q_X8_find, rfl, rfl, ⟨(Nat.le_of_ble_eq_true rfl), (Nat.le_of_ble_eq_true rfl)⟩⟩ gw_4_89 gw_4_90 rfl rfl rfl (Nat.le_of_ble_eq_true rfl) ⟨(Nat.le_of_ble_eq_true rfl), (Nat.le_of_ble_eq_true rfl)⟩ dL_law_253 ?_
  refine tv_aload_n X dL_law_256 rfl 1 rfl ?_
  refine tv_aload_n X dL_law_257 rfl 3 rfl ?_
  refine tv_iload_n X dL_law_258 rfl 0 rfl ?_
  refine tv_iconst X 1 dL_law_259 (by decide) ?_
  refine tv_iadd X dL_law_260 ?_
  rw [show nI (5 * i) + 1 = nI (5 * i + 1) from nI_add (5 * i) 1]
  refine tl_sld X hX hbl (Nat.not_le.mpr hbl) (j := 5 * i + 1) (by omega) hL dL_law_261 ?_
  refine tl_callM (st := [.int r]) hB X (c_X9_find Γ.2.1 Ω (adM (B + 1977)) (AM B) τ (xs (5 * i + 1)) h2) ⟨gw_6_61, gw_6_58, gw_1_10, q_X9_find, rfl, rfl, ⟨(Nat.le_of_ble_eq_true rfl), (Nat.le_of_ble_eq_true rfl)⟩⟩ gw_6_59 gw_6_60 rfl rfl rfl (Nat.le_of_ble_eq_true rfl) ⟨(Nat.le_of_ble_eq_true rfl), (Nat.le_of_ble_eq_true rfl)⟩ dL_law_262 ?_
  exact tv_icmp_eq X 600 dL_law_265 (by decide) (if_pos rfl : (if r = r then some () else none) = some ()) (fun _ => hk σ' τ' h3) (fun h => nomatch h)
set_option maxHeartbeats 4000000 in
set_option maxRecDepth 100000 in
theorem law_6 {Γ : Cx} {Q : State → Prop} {Ω : Wd} {B b L i : Nat} {xs : Nat → Int32} {σ τ : St} {R : St → St → Prop} (hB : Γ.2.2.2.2.1.heap.size = B) (X : Fx Γ Ω (fun q => Γ.2.2.2.2.1.heap.size ≤ q) code 4 "MappingTextsLaw" room_1 (some .boolean)) (hX : va_X b L xs Γ.2.2.2.2.1 Γ.2.2.2.2.1.heap) (hbl : b < Γ.2.2.2.2.1.heap.size) (hL : L ≤ 2560) (hi : 5 * i + 5 ≤ L) (hs : Sim R) (hR : R σ τ) (hk : ∀ σ τ : St, R σ τ → V Γ (2019, 97478) Q (fun q => Γ.2.2.2.2.1.heap.size ≤ q) 4 (ZL Ω B σ τ) 600 [(3, .int (nI (5 * i))), (2, .ref (B + 1977)), (1, .ref B), (0, .ref b)] []) : V Γ (2019, 97478) Q (fun q => Γ.2.2.2.2.1.heap.size ≤ q) 4 (ZL Ω B σ τ) 270 [(3, .int (nI (5 * i))), (2, .ref (B + 1977)), (1, .ref B), (0, .ref b)] [] := by
  obtain ⟨σ', τ', r, h1, h2, h3⟩ := (hs.2 σ τ hR).2.2.2.2.2.2.1 (xs (5 * i + 1)) (xs (5 * i + 2)) (xs (5 * i + 3))
  refine tv_aload_n X dL_law_270 rfl 2 rfl ?_
  refine tv_aload_n X dL_law_271 rfl 3 rfl ?_
  refine tv_iload_n X dL_law_272 rfl 0 rfl ?_
  refine tv_iconst X 1 dL_law_273 (by decide) ?_
  refine tv_iadd X dL_law_274 ?_
  rw [show nI (5 * i) + 1 = nI (5 * i + 1) from nI_add (5 * i) 1]
  refine tl_sld X hX hbl (Nat.not_le.mpr hbl) (j := 5 * i + 1) (by omega) hL dL_law_275 ?_
  refine tv_aload_n X dL_law_276 rfl 3 rfl ?_
  refine tv_iload_n X dL_law_277 rfl 0 rfl ?_
  refine tv_iconst X 2 dL_law_278 (by decide) ?_
  refine tv_iadd X dL_law_279 ?_
  rw [show nI (5 * i) + 2 = nI (5 * i + 2) from nI_add (5 * i) 2]
  refine tl_sld X hX hbl (Nat.not_le.mpr hbl) (j := 5 * i + 2) (by omega) hL dL_law_280 ?_
  refine tv_aload_n X dL_law_281 rfl 3 rfl ?_
  refine tv_iload_n X dL_law_282 rfl 0 rfl ?_
  refine tv_iconst X 3 dL_law_283 (by decide) ?_
  refine tv_iadd X dL_law_284 ?_
  rw [show nI (5 * i) + 3 = nI (5 * i + 3) from nI_add (5 * i) 3]
  refine tl_sld X hX hbl (Nat.not_le.mpr hbl) (j := 5 * i + 3) (by omega) hL dL_law_285 ?_
  refine tl_callX (st := []) hB X (c_X8_field Γ.2.1 Ω (adX B) (AX B) σ (xs (5 * i + 1)) (xs (5 * i + 2)) (xs (5 * i + 3)) h1) ⟨gw_4_95, gw_4_92, gw_1_1, q_X8_field, rfl, rfl, ⟨(Nat.le_of_ble_eq_true rfl), (Nat.le_of_ble_eq_true rfl)⟩⟩ gw_4_93 gw_4_94 rfl rfl rfl (Nat.le_of_ble_eq_true rfl) ⟨(Nat.le_of_ble_eq_true rfl), (Nat.le_of_ble_eq_true rfl)⟩ dL_law_286 ?_
  refine tv_aload_n X dL_law_289 rfl 1 rfl ?_
  refine tv_aload_n X dL_law_290 rfl 3 rfl ?_
  refine tv_iload_n X dL_law_291 rfl 0 rfl ?_
  refine tv_iconst X 1 dL_law_292 (by decide) ?_
  refine tv_iadd X dL_law_293 ?_
  rw [show nI (5 * i) + 1 = nI (5 * i + 1) from nI_add (5 * i) 1]
  refine tl_sld X hX hbl (Nat.not_le.mpr hbl) (j := 5 * i + 1) (by omega) hL dL_law_294 ?_
  refine tv_aload_n X dL_law_295 rfl 3 rfl ?_
  refine tv_iload_n X dL_law_296 rfl 0 rfl ?_
  refine tv_iconst X 2 dL_law_297 (by decide) ?_
  refine tv_iadd X dL_law_298 ?_
  rw [show nI (5 * i) + 2 = nI (5 * i + 2) from nI_add (5 * i) 2]
  refine tl_sld X hX hbl (Nat.not_le.mpr hbl) (j := 5 * i + 2) (by omega) hL dL_law_299 ?_
  refine tv_aload_n X dL_law_300 rfl 3 rfl ?_
  refine tv_iload_n X dL_law_301 rfl 0 rfl ?_
  refine tv_iconst X 3 dL_law_302 (by decide) ?_
  refine tv_iadd X dL_law_303 ?_
  rw [show nI (5 * i) + 3 = nI (5 * i + 3) from nI_add (5 * i) 3]
  refine tl_sld X hX hbl (Nat.not_le.mpr hbl) (j := 5 * i + 3) (by omega) hL dL_law_304 ?_
  refine tl_callM (st := [.int r]) hB X (c_X9_field_ Γ.2.1 Ω (adM (B + 1977)) (AM B) τ (xs (5 * i + 1)) (xs (5 * i + 2)) (xs (5 * i + 3)) h2) ⟨gw_6_115, gw_6_112, gw_1_10, q_X9_field_, rfl, rfl, ⟨(Nat.le_of_ble_eq_true rfl), (Nat.le_of_ble_eq_true rfl)⟩⟩ gw_6_113 gw_6_114 rfl rfl rfl (Nat.le_of_ble_eq_true rfl) ⟨(Nat.le_of_ble_eq_true rfl), (Nat.le_of_ble_eq_true rfl)⟩ dL_law_305 ?_
  exact tv_icmp_eq X 600 dL_law_308 (by decide) (if_pos rfl : (if r = r then some () else none) = some ()) (fun _ => hk σ' τ' h3) (fun h => nomatch h)
set_option maxHeartbeats 4000000 in
set_option maxRecDepth 100000 in
theorem law_7 {Γ : Cx} {Q : State → Prop} {Ω : Wd} {B b L i : Nat} {xs : Nat → Int32} {σ τ : St} {R : St → St → Prop} (hB : Γ.2.2.2.2.1.heap.size = B) (X : Fx Γ Ω (fun q => Γ.2.2.2.2.1.heap.size ≤ q) code 4 "MappingTextsLaw" room_1 (some .boolean)) (hX : va_X b L xs Γ.2.2.2.2.1 Γ.2.2.2.2.1.heap) (hbl : b < Γ.2.2.2.2.1.heap.size) (hL : L ≤ 2560) (hi : 5 * i + 5 ≤ L) (hs : Sim R) (hR : R σ τ) (hk : ∀ σ τ : St, R σ τ → V Γ (2019, 97478) Q (fun q => Γ.2.2.2.2.1.heap.size ≤ q) 4 (ZL Ω B σ τ) 600 [(3, .int (nI (5 * i))), (2, .ref (B + 1977)), (1, .ref B), (0, .ref b)] []) : V Γ (2019, 97478) Q (fun q => Γ.2.2.2.2.1.heap.size ≤ q) 4 (ZL Ω B σ τ) 313 [(3, .int (nI (5 * i))), (2, .ref (B + 1977)), (1, .ref B), (0, .ref b)] [] := by
  obtain ⟨σ', τ', r, h1, h2, h3⟩ := (hs.2 σ τ hR).2.2.2.2.2.2.2.1 (xs (5 * i + 1)) (xs (5 * i + 2)) (xs (5 * i + 3))
  refine tv_aload_n X dL_law_313 rfl 2 rfl ?_
  refine tv_aload_n X dL_law_314 rfl 3 rfl ?_
  refine tv_iload_n X dL_law_315 rfl 0 rfl ?_
  refine tv_iconst X 1 dL_law_316 (by decide) ?_
  refine tv_iadd X dL_law_317 ?_
  rw [show nI (5 * i) + 1 = nI (5 * i + 1) from nI_add (5 * i) 1]
  refine tl_sld X hX hbl (Nat.not_le.mpr hbl) (j := 5 * i + 1) (by omega) hL dL_law_318 ?_
  refine tv_aload_n X dL_law_319 rfl 3 rfl ?_
  refine tv_iload_n X dL_law_320 rfl 0 rfl ?_
  refine tv_iconst X 2 dL_law_321 (by decide) ?_
  refine tv_iadd X dL_law_322 ?_
  rw [show nI (5 * i) + 2 = nI (5 * i + 2) from nI_add (5 * i) 2]
  refine tl_sld X hX hbl (Nat.not_le.mpr hbl) (j := 5 * i + 2) (by omega) hL dL_law_323 ?_
  refine tv_aload_n X dL_law_324 rfl 3 rfl ?_
  refine tv_iload_n X dL_law_325 rfl 0 rfl ?_
  refine tv_iconst X 3 dL_law_326 (by decide) ?_
  refine tv_iadd X dL_law_327 ?_
  rw [show nI (5 * i) + 3 = nI (5 * i + 3) from nI_add (5 * i) 3]
  refine tl_sld X hX hbl (Nat.not_le.mpr hbl) (j := 5 * i + 3) (by omega) hL dL_law_328 ?_
  refine tl_callX (st := []) hB X (c_X8_letter Γ.2.1 Ω (adX B) (AX B) σ (xs (5 * i + 1)) (xs (5 * i + 2)) (xs (5 * i + 3)) h1) ⟨gw_4_112, gw_4_109, gw_1_1, q_X8_letter, rfl, rfl, ⟨(Nat.le_of_ble_eq_true rfl), (Nat.le_of_ble_eq_true rfl)⟩⟩ gw_4_110 gw_4_111 rfl rfl rfl (Nat.le_of_ble_eq_true rfl) ⟨(Nat.le_of_ble_eq_true rfl), (Nat.le_of_ble_eq_true rfl)⟩ dL_law_329 ?_
  refine tv_aload_n X dL_law_332 rfl 1 rfl ?_
  refine tv_aload_n X dL_law_333 rfl 3 rfl ?_
  refine tv_iload_n X dL_law_334 rfl 0 rfl ?_
  refine tv_iconst X 1 dL_law_335 (by decide) ?_
  refine tv_iadd X dL_law_336 ?_
  rw [show nI (5 * i) + 1 = nI (5 * i + 1) from nI_add (5 * i) 1]
  refine tl_sld X hX hbl (Nat.not_le.mpr hbl) (j := 5 * i + 1) (by omega) hL dL_law_337 ?_
  refine tv_aload_n X dL_law_338 rfl 3 rfl ?_
  refine tv_iload_n X dL_law_339 rfl 0 rfl ?_
  refine tv_iconst X 2 dL_law_340 (by decide) ?_
  refine tv_iadd X dL_law_341 ?_
  rw [show nI (5 * i) + 2 = nI (5 * i + 2) from nI_add (5 * i) 2]
  refine tl_sld X hX hbl (Nat.not_le.mpr hbl) (j := 5 * i + 2) (by omega) hL dL_law_342 ?_
  refine tv_aload_n X dL_law_343 rfl 3 rfl ?_
  refine tv_iload_n X dL_law_344 rfl 0 rfl ?_
  refine tv_iconst X 3 dL_law_345 (by decide) ?_
  refine tv_iadd X dL_law_346 ?_
  rw [show nI (5 * i) + 3 = nI (5 * i + 3) from nI_add (5 * i) 3]
  refine tl_sld X hX hbl (Nat.not_le.mpr hbl) (j := 5 * i + 3) (by omega) hL dL_law_347 ?_
  refine tl_callM (st := [.int r]) hB X (c_X9_letter Γ.2.1 Ω (adM (B + 1977)) (AM B) τ (xs (5 * i + 1)) (xs (5 * i + 2)) (xs (5 * i + 3)) h2) ⟨gw_6_127, gw_6_124, gw_1_10, q_X9_letter, rfl, rfl, ⟨(Nat.le_of_ble_eq_true rfl), (Nat.le_of_ble_eq_true rfl)⟩⟩ gw_6_125 gw_6_126 rfl rfl rfl (Nat.le_of_ble_eq_true rfl) ⟨(Nat.le_of_ble_eq_true rfl), (Nat.le_of_ble_eq_true rfl)⟩ dL_law_348 ?_
  exact tv_icmp_eq X 600 dL_law_351 (by decide) (if_pos rfl : (if r = r then some () else none) = some ()) (fun _ => hk σ' τ' h3) (fun h => nomatch h)
set_option maxHeartbeats 4000000 in
set_option maxRecDepth 100000 in
theorem law_8 {Γ : Cx} {Q : State → Prop} {Ω : Wd} {B b L i : Nat} {xs : Nat → Int32} {σ τ : St} {R : St → St → Prop} (hB : Γ.2.2.2.2.1.heap.size = B) (X : Fx Γ Ω (fun q => Γ.2.2.2.2.1.heap.size ≤ q) code 4 "MappingTextsLaw" room_1 (some .boolean)) (hX : va_X b L xs Γ.2.2.2.2.1 Γ.2.2.2.2.1.heap) (hbl : b < Γ.2.2.2.2.1.heap.size) (hL : L ≤ 2560) (hi : 5 * i + 5 ≤ L) (hs : Sim R) (hR : R σ τ) (hk : ∀ σ τ : St, R σ τ → V Γ (2019, 97478) Q (fun q => Γ.2.2.2.2.1.heap.size ≤ q) 4 (ZL Ω B σ τ) 600 [(3, .int (nI (5 * i))), (2, .ref (B + 1977)), (1, .ref B), (0, .ref b)] []) : V Γ (2019, 97478) Q (fun q => Γ.2.2.2.2.1.heap.size ≤ q) 4 (ZL Ω B σ τ) 356 [(3, .int (nI (5 * i))), (2, .ref (B + 1977)), (1, .ref B), (0, .ref b)] [] := by
  obtain ⟨σ', τ', r, h1, h2, h3⟩ := (hs.2 σ τ hR).2.2.2.2.2.2.2.2.1 (xs (5 * i + 1)) (xs (5 * i + 2))
  refine tv_aload_n X dL_law_356 rfl 2 rfl ?_
  refine tv_aload_n X dL_law_357 rfl 3 rfl ?_
  refine tv_iload_n X dL_law_358 rfl 0 rfl ?_
  refine tv_iconst X 1 dL_law_359 (by decide) ?_
  refine tv_iadd X dL_law_360 ?_
  rw [show nI (5 * i) + 1 = nI (5 * i + 1) from nI_add (5 * i) 1]
  refine tl_sld X hX hbl (Nat.not_le.mpr hbl) (j := 5 * i + 1) (by omega) hL dL_law_361 ?_
  refine tv_aload_n X dL_law_362 rfl 3 rfl ?_
  refine tv_iload_n X dL_law_363 rfl 0 rfl ?_
  refine tv_iconst X 2 dL_law_364 (by decide) ?_
  refine tv_iadd X dL_law_365 ?_
  rw [show nI (5 * i) + 2 = nI (5 * i + 2) from nI_add (5 * i) 2]
  refine tl_sld X hX hbl (Nat.not_le.mpr hbl) (j := 5 * i + 2) (by omega) hL dL_law_366 ?_
  refine tl_callX (st := []) hB X (c_X8_leaf Γ.2.1 Ω (adX B) (AX B) σ (xs (5 * i + 1)) (xs (5 * i + 2)) h1) ⟨gw_4_117, gw_4_114, gw_1_1, q_X8_leaf, rfl, rfl, ⟨(Nat.le_of_ble_eq_true rfl), (Nat.le_of_ble_eq_true rfl)⟩⟩ gw_4_115 gw_4_116 rfl rfl rfl (Nat.le_of_ble_eq_true rfl) ⟨(Nat.le_of_ble_eq_true rfl), (Nat.le_of_ble_eq_true rfl)⟩ dL_law_367 ?_
  refine tv_aload_n X dL_law_370 rfl 1 rfl ?_
  refine tv_aload_n X dL_law_371 rfl 3 rfl ?_
  refine tv_iload_n X dL_law_372 rfl 0 rfl ?_
  refine tv_iconst X 1 dL_law_373 (by decide) ?_
  refine tv_iadd X dL_law_374 ?_
  rw [show nI (5 * i) + 1 = nI (5 * i + 1) from nI_add (5 * i) 1]
  refine tl_sld X hX hbl (Nat.not_le.mpr hbl) (j := 5 * i + 1) (by omega) hL dL_law_375 ?_
  refine tv_aload_n X dL_law_376 rfl 3 rfl ?_
  refine tv_iload_n X dL_law_377 rfl 0 rfl ?_
  refine tv_iconst X 2 dL_law_378 (by decide) ?_
  refine tv_iadd X dL_law_379 ?_
  rw [show nI (5 * i) + 2 = nI (5 * i + 2) from nI_add (5 * i) 2]
  refine tl_sld X hX hbl (Nat.not_le.mpr hbl) (j := 5 * i + 2) (by omega) hL dL_law_380 ?_
  refine tl_callM (st := [.int r]) hB X (c_X9_leaf Γ.2.1 Ω (adM (B + 1977)) (AM B) τ (xs (5 * i + 1)) (xs (5 * i + 2)) h2) ⟨gw_6_131, gw_6_128, gw_1_10, q_X9_leaf, rfl, rfl, ⟨(Nat.le_of_ble_eq_true rfl), (Nat.le_of_ble_eq_true rfl)⟩⟩ gw_6_129 gw_6_130 rfl rfl rfl (Nat.le_of_ble_eq_true rfl) ⟨(Nat.le_of_ble_eq_true rfl), (Nat.le_of_ble_eq_true rfl)⟩ dL_law_381 ?_
  exact tv_icmp_eq X 600 dL_law_384 (by decide) (if_pos rfl : (if r = r then some () else none) = some ()) (fun _ => hk σ' τ' h3) (fun h => nomatch h)
set_option maxHeartbeats 4000000 in
set_option maxRecDepth 100000 in
theorem law_9 {Γ : Cx} {Q : State → Prop} {Ω : Wd} {B b L i : Nat} {xs : Nat → Int32} {σ τ : St} {R : St → St → Prop} (hB : Γ.2.2.2.2.1.heap.size = B) (X : Fx Γ Ω (fun q => Γ.2.2.2.2.1.heap.size ≤ q) code 4 "MappingTextsLaw" room_1 (some .boolean)) (hX : va_X b L xs Γ.2.2.2.2.1 Γ.2.2.2.2.1.heap) (hbl : b < Γ.2.2.2.2.1.heap.size) (hL : L ≤ 2560) (hi : 5 * i + 5 ≤ L) (hs : Sim R) (hR : R σ τ) (hk : ∀ σ τ : St, R σ τ → V Γ (2019, 97478) Q (fun q => Γ.2.2.2.2.1.heap.size ≤ q) 4 (ZL Ω B σ τ) 600 [(3, .int (nI (5 * i))), (2, .ref (B + 1977)), (1, .ref B), (0, .ref b)] []) : V Γ (2019, 97478) Q (fun q => Γ.2.2.2.2.1.heap.size ≤ q) 4 (ZL Ω B σ τ) 389 [(3, .int (nI (5 * i))), (2, .ref (B + 1977)), (1, .ref B), (0, .ref b)] [] := by
  obtain ⟨σ', τ', r, h1, h2, h3⟩ := (hs.2 σ τ hR).2.2.2.2.2.2.2.2.2.1 (xs (5 * i + 1)) (xs (5 * i + 2))
  refine tv_aload_n X dL_law_389 rfl 2 rfl ?_
  refine tv_aload_n X dL_law_390 rfl 3 rfl ?_
  refine tv_iload_n X dL_law_391 rfl 0 rfl ?_
  refine tv_iconst X 1 dL_law_392 (by decide) ?_
  refine tv_iadd X dL_law_393 ?_
  rw [show nI (5 * i) + 1 = nI (5 * i + 1) from nI_add (5 * i) 1]
  refine tl_sld X hX hbl (Nat.not_le.mpr hbl) (j := 5 * i + 1) (by omega) hL dL_law_394 ?_
  refine tv_aload_n X dL_law_395 rfl 3 rfl ?_
  refine tv_iload_n X dL_law_396 rfl 0 rfl ?_
  refine tv_iconst X 2 dL_law_397 (by decide) ?_
  refine tv_iadd X dL_law_398 ?_
  rw [show nI (5 * i) + 2 = nI (5 * i + 2) from nI_add (5 * i) 2]
  refine tl_sld X hX hbl (Nat.not_le.mpr hbl) (j := 5 * i + 2) (by omega) hL dL_law_399 ?_
  refine tl_callX (st := []) hB X (c_X8_rule Γ.2.1 Ω (adX B) (AX B) σ (xs (5 * i + 1)) (xs (5 * i + 2)) h1) ⟨gw_4_122, gw_4_119, gw_1_1, q_X8_rule, rfl, rfl, ⟨(Nat.le_of_ble_eq_true rfl), (Nat.le_of_ble_eq_true rfl)⟩⟩ gw_4_120 gw_4_121 rfl rfl rfl (Nat.le_of_ble_eq_true rfl) ⟨(Nat.le_of_ble_eq_true rfl), (Nat.le_of_ble_eq_true rfl)⟩ dL_law_400 ?_
  refine tv_aload_n X dL_law_403 rfl 1 rfl ?_
  refine tv_aload_n X dL_law_404 rfl 3 rfl ?_
  refine tv_iload_n X dL_law_405 rfl 0 rfl ?_
  refine tv_iconst X 1 dL_law_406 (by decide) ?_
  refine tv_iadd X dL_law_407 ?_
  rw [show nI (5 * i) + 1 = nI (5 * i + 1) from nI_add (5 * i) 1]
  refine tl_sld X hX hbl (Nat.not_le.mpr hbl) (j := 5 * i + 1) (by omega) hL dL_law_408 ?_
  refine tv_aload_n X dL_law_409 rfl 3 rfl ?_
  refine tv_iload_n X dL_law_410 rfl 0 rfl ?_
  refine tv_iconst X 2 dL_law_411 (by decide) ?_
  refine tv_iadd X dL_law_412 ?_
  rw [show nI (5 * i) + 2 = nI (5 * i + 2) from nI_add (5 * i) 2]
  refine tl_sld X hX hbl (Nat.not_le.mpr hbl) (j := 5 * i + 2) (by omega) hL dL_law_413 ?_
  refine tl_callM (st := [.int r]) hB X (c_X9_rule_ Γ.2.1 Ω (adM (B + 1977)) (AM B) τ (xs (5 * i + 1)) (xs (5 * i + 2)) h2) ⟨gw_6_73, gw_6_70, gw_1_10, q_X9_rule_, rfl, rfl, ⟨(Nat.le_of_ble_eq_true rfl), (Nat.le_of_ble_eq_true rfl)⟩⟩ gw_6_71 gw_6_72 rfl rfl rfl (Nat.le_of_ble_eq_true rfl) ⟨(Nat.le_of_ble_eq_true rfl), (Nat.le_of_ble_eq_true rfl)⟩ dL_law_414 ?_
  exact tv_icmp_eq X 600 dL_law_417 (by decide) (if_pos rfl : (if r = r then some () else none) = some ()) (fun _ => hk σ' τ' h3) (fun h => nomatch h)
set_option maxHeartbeats 4000000 in
set_option maxRecDepth 100000 in
theorem law_10 {Γ : Cx} {Q : State → Prop} {Ω : Wd} {B b L i : Nat} {xs : Nat → Int32} {σ τ : St} {R : St → St → Prop} (hB : Γ.2.2.2.2.1.heap.size = B) (X : Fx Γ Ω (fun q => Γ.2.2.2.2.1.heap.size ≤ q) code 4 "MappingTextsLaw" room_1 (some .boolean)) (hX : va_X b L xs Γ.2.2.2.2.1 Γ.2.2.2.2.1.heap) (hbl : b < Γ.2.2.2.2.1.heap.size) (hL : L ≤ 2560) (hi : 5 * i + 5 ≤ L) (hs : Sim R) (hR : R σ τ) (hk : ∀ σ τ : St, R σ τ → V Γ (2019, 97478) Q (fun q => Γ.2.2.2.2.1.heap.size ≤ q) 4 (ZL Ω B σ τ) 600 [(3, .int (nI (5 * i))), (2, .ref (B + 1977)), (1, .ref B), (0, .ref b)] []) : V Γ (2019, 97478) Q (fun q => Γ.2.2.2.2.1.heap.size ≤ q) 4 (ZL Ω B σ τ) 422 [(3, .int (nI (5 * i))), (2, .ref (B + 1977)), (1, .ref B), (0, .ref b)] [] := by
  obtain ⟨σ', τ', r, h1, h2, h3⟩ := (hs.2 σ τ hR).2.2.2.2.2.2.2.2.2.2.1 (xs (5 * i + 1))
  refine tv_aload_n X dL_law_422 rfl 2 rfl ?_
  refine tv_aload_n X dL_law_423 rfl 3 rfl ?_
  refine tv_iload_n X dL_law_424 rfl 0 rfl ?_
  refine tv_iconst X 1 dL_law_425 (by decide) ?_
  refine tv_iadd X dL_law_426 ?_
  rw [show nI (5 * i) + 1 = nI (5 * i + 1) from nI_add (5 * i) 1]
  refine tl_sld X hX hbl (Nat.not_le.mpr hbl) (j := 5 * i + 1) (by omega) hL dL_law_427 ?_
  refine tl_callX (st := []) hB X (c_X8_print Γ.2.1 Ω (adX B) (AX B) σ (xs (5 * i + 1)) h1) ⟨gw_4_128, gw_4_125, gw_1_1, q_X8_print, rfl, rfl, ⟨(Nat.le_of_ble_eq_true rfl), (Nat.le_of_ble_eq_true rfl)⟩⟩ gw_4_126 gw_4_127 rfl rfl rfl (Nat.le_of_ble_eq_true rfl) ⟨(Nat.le_of_ble_eq_true rfl), (Nat.le_of_ble_eq_true rfl)⟩ dL_law_428 ?_
  refine tv_aload_n X dL_law_431 rfl 1 rfl ?_
  refine tv_aload_n X dL_law_432 rfl 3 rfl ?_
  refine tv_iload_n X dL_law_433 rfl 0 rfl ?_
  refine tv_iconst X 1 dL_law_434 (by decide) ?_
  refine tv_iadd X dL_law_435 ?_
  rw [show nI (5 * i) + 1 = nI (5 * i + 1) from nI_add (5 * i) 1]
  refine tl_sld X hX hbl (Nat.not_le.mpr hbl) (j := 5 * i + 1) (by omega) hL dL_law_436 ?_
  refine tl_callM (st := [.int r]) hB X (c_X9_print Γ.2.1 Ω (adM (B + 1977)) (AM B) τ (xs (5 * i + 1)) h2) ⟨gw_6_135, gw_6_132, gw_1_10, q_X9_print, rfl, rfl, ⟨(Nat.le_of_ble_eq_true rfl), (Nat.le_of_ble_eq_true rfl)⟩⟩ gw_6_133 gw_6_134 rfl rfl rfl (Nat.le_of_ble_eq_true rfl) ⟨(Nat.le_of_ble_eq_true rfl), (Nat.le_of_ble_eq_true rfl)⟩ dL_law_437 ?_
  exact tv_icmp_eq X 600 dL_law_440 (by decide) (if_pos rfl : (if r = r then some () else none) = some ()) (fun _ => hk σ' τ' h3) (fun h => nomatch h)
set_option maxHeartbeats 4000000 in
set_option maxRecDepth 100000 in
theorem law_11 {Γ : Cx} {Q : State → Prop} {Ω : Wd} {B b L i : Nat} {xs : Nat → Int32} {σ τ : St} {R : St → St → Prop} (hB : Γ.2.2.2.2.1.heap.size = B) (X : Fx Γ Ω (fun q => Γ.2.2.2.2.1.heap.size ≤ q) code 4 "MappingTextsLaw" room_1 (some .boolean)) (hX : va_X b L xs Γ.2.2.2.2.1 Γ.2.2.2.2.1.heap) (hbl : b < Γ.2.2.2.2.1.heap.size) (hL : L ≤ 2560) (hi : 5 * i + 5 ≤ L) (hs : Sim R) (hR : R σ τ) (hk : ∀ σ τ : St, R σ τ → V Γ (2019, 97478) Q (fun q => Γ.2.2.2.2.1.heap.size ≤ q) 4 (ZL Ω B σ τ) 600 [(3, .int (nI (5 * i))), (2, .ref (B + 1977)), (1, .ref B), (0, .ref b)] []) : V Γ (2019, 97478) Q (fun q => Γ.2.2.2.2.1.heap.size ≤ q) 4 (ZL Ω B σ τ) 445 [(3, .int (nI (5 * i))), (2, .ref (B + 1977)), (1, .ref B), (0, .ref b)] [] := by
  obtain ⟨σ', τ', r, h1, h2, h3⟩ := (hs.2 σ τ hR).2.2.2.2.2.2.2.2.2.2.2.1 (xs (5 * i + 1))
  refine tv_aload_n X dL_law_445 rfl 2 rfl ?_
  refine tv_aload_n X dL_law_446 rfl 3 rfl ?_
  refine tv_iload_n X dL_law_447 rfl 0 rfl ?_
  refine tv_iconst X 1 dL_law_448 (by decide) ?_
  refine tv_iadd X dL_law_449 ?_
  rw [show nI (5 * i) + 1 = nI (5 * i + 1) from nI_add (5 * i) 1]
  refine tl_sld X hX hbl (Nat.not_le.mpr hbl) (j := 5 * i + 1) (by omega) hL dL_law_450 ?_
  refine tl_callX (st := []) hB X (c_X8_out Γ.2.1 Ω (adX B) (AX B) σ (xs (5 * i + 1)) h1) ⟨gw_4_178, gw_4_175, gw_1_1, q_X8_out, rfl, rfl, ⟨(Nat.le_of_ble_eq_true rfl), (Nat.le_of_ble_eq_true rfl)⟩⟩ gw_4_176 gw_4_177 rfl rfl rfl (Nat.le_of_ble_eq_true rfl) ⟨(Nat.le_of_ble_eq_true rfl), (Nat.le_of_ble_eq_true rfl)⟩ dL_law_451 ?_
  refine tv_aload_n X dL_law_454 rfl 1 rfl ?_
  refine tv_aload_n X dL_law_455 rfl 3 rfl ?_
  refine tv_iload_n X dL_law_456 rfl 0 rfl ?_
  refine tv_iconst X 1 dL_law_457 (by decide) ?_
  refine tv_iadd X dL_law_458 ?_
  rw [show nI (5 * i) + 1 = nI (5 * i + 1) from nI_add (5 * i) 1]
  refine tl_sld X hX hbl (Nat.not_le.mpr hbl) (j := 5 * i + 1) (by omega) hL dL_law_459 ?_
  refine tl_callM (st := [.int r]) hB X (c_X9_out Γ.2.1 Ω (adM (B + 1977)) (AM B) τ (xs (5 * i + 1)) h2) ⟨gw_6_165, gw_6_162, gw_1_10, q_X9_out, rfl, rfl, ⟨(Nat.le_of_ble_eq_true rfl), (Nat.le_of_ble_eq_true rfl)⟩⟩ gw_6_163 gw_6_164 rfl rfl rfl (Nat.le_of_ble_eq_true rfl) ⟨(Nat.le_of_ble_eq_true rfl), (Nat.le_of_ble_eq_true rfl)⟩ dL_law_460 ?_
  exact tv_icmp_eq X 600 dL_law_463 (by decide) (if_pos rfl : (if r = r then some () else none) = some ()) (fun _ => hk σ' τ' h3) (fun h => nomatch h)
set_option maxHeartbeats 4000000 in
set_option maxRecDepth 100000 in
theorem law_12 {Γ : Cx} {Q : State → Prop} {Ω : Wd} {B b L i : Nat} {xs : Nat → Int32} {σ τ : St} {R : St → St → Prop} (hB : Γ.2.2.2.2.1.heap.size = B) (X : Fx Γ Ω (fun q => Γ.2.2.2.2.1.heap.size ≤ q) code 4 "MappingTextsLaw" room_1 (some .boolean)) (hX : va_X b L xs Γ.2.2.2.2.1 Γ.2.2.2.2.1.heap) (hbl : b < Γ.2.2.2.2.1.heap.size) (hL : L ≤ 2560) (hi : 5 * i + 5 ≤ L) (hs : Sim R) (hR : R σ τ) (hk : ∀ σ τ : St, R σ τ → V Γ (2019, 97478) Q (fun q => Γ.2.2.2.2.1.heap.size ≤ q) 4 (ZL Ω B σ τ) 600 [(3, .int (nI (5 * i))), (2, .ref (B + 1977)), (1, .ref B), (0, .ref b)] []) : V Γ (2019, 97478) Q (fun q => Γ.2.2.2.2.1.heap.size ≤ q) 4 (ZL Ω B σ τ) 468 [(3, .int (nI (5 * i))), (2, .ref (B + 1977)), (1, .ref B), (0, .ref b)] [] := by
  obtain ⟨σ', τ', r, h1, h2, h3⟩ := (hs.2 σ τ hR).2.2.2.2.2.2.2.2.2.2.2.2.1 ()
  refine tv_aload_n X dL_law_468 rfl 2 rfl ?_
  refine tl_callX (st := []) hB X (c_X8_take Γ.2.1 Ω (adX B) (AX B) σ h1) ⟨gw_4_182, gw_4_179, gw_1_1, q_X8_take, rfl, rfl, ⟨(Nat.le_of_ble_eq_true rfl), (Nat.le_of_ble_eq_true rfl)⟩⟩ gw_4_180 gw_4_181 rfl rfl rfl (Nat.le_of_ble_eq_true rfl) ⟨(Nat.le_of_ble_eq_true rfl), (Nat.le_of_ble_eq_true rfl)⟩ dL_law_469 ?_
  refine tv_aload_n X dL_law_472 rfl 1 rfl ?_
  refine tl_callM (st := [.int r]) hB X (c_X9_take Γ.2.1 Ω (adM (B + 1977)) (AM B) τ h2) ⟨gw_6_169, gw_6_166, gw_1_10, q_X9_take, rfl, rfl, ⟨(Nat.le_of_ble_eq_true rfl), (Nat.le_of_ble_eq_true rfl)⟩⟩ gw_6_167 gw_6_168 rfl rfl rfl (Nat.le_of_ble_eq_true rfl) ⟨(Nat.le_of_ble_eq_true rfl), (Nat.le_of_ble_eq_true rfl)⟩ dL_law_473 ?_
  exact tv_icmp_eq X 600 dL_law_476 (by decide) (if_pos rfl : (if r = r then some () else none) = some ()) (fun _ => hk σ' τ' h3) (fun h => nomatch h)
set_option maxHeartbeats 4000000 in
set_option maxRecDepth 100000 in
theorem law_13 {Γ : Cx} {Q : State → Prop} {Ω : Wd} {B b L i : Nat} {xs : Nat → Int32} {σ τ : St} {R : St → St → Prop} (hB : Γ.2.2.2.2.1.heap.size = B) (X : Fx Γ Ω (fun q => Γ.2.2.2.2.1.heap.size ≤ q) code 4 "MappingTextsLaw" room_1 (some .boolean)) (hX : va_X b L xs Γ.2.2.2.2.1 Γ.2.2.2.2.1.heap) (hbl : b < Γ.2.2.2.2.1.heap.size) (hL : L ≤ 2560) (hi : 5 * i + 5 ≤ L) (hs : Sim R) (hR : R σ τ) (hk : ∀ σ τ : St, R σ τ → V Γ (2019, 97478) Q (fun q => Γ.2.2.2.2.1.heap.size ≤ q) 4 (ZL Ω B σ τ) 600 [(3, .int (nI (5 * i))), (2, .ref (B + 1977)), (1, .ref B), (0, .ref b)] []) : V Γ (2019, 97478) Q (fun q => Γ.2.2.2.2.1.heap.size ≤ q) 4 (ZL Ω B σ τ) 481 [(3, .int (nI (5 * i))), (2, .ref (B + 1977)), (1, .ref B), (0, .ref b)] [] := by
  obtain ⟨σ', τ', r, h1, h2, h3⟩ := (hs.2 σ τ hR).2.2.2.2.2.2.2.2.2.2.2.2.2.1 (xs (5 * i + 1)) (xs (5 * i + 2))
  refine tv_aload_n X dL_law_481 rfl 2 rfl ?_
  refine tv_aload_n X dL_law_482 rfl 3 rfl ?_
  refine tv_iload_n X dL_law_483 rfl 0 rfl ?_
  refine tv_iconst X 1 dL_law_484 (by decide) ?_
  refine tv_iadd X dL_law_485 ?_
  rw [show nI (5 * i) + 1 = nI (5 * i + 1) from nI_add (5 * i) 1]
  refine tl_sld X hX hbl (Nat.not_le.mpr hbl) (j := 5 * i + 1) (by omega) hL dL_law_486 ?_
  refine tv_aload_n X dL_law_487 rfl 3 rfl ?_
  refine tv_iload_n X dL_law_488 rfl 0 rfl ?_
  refine tv_iconst X 2 dL_law_489 (by decide) ?_
  refine tv_iadd X dL_law_490 ?_
  rw [show nI (5 * i) + 2 = nI (5 * i + 2) from nI_add (5 * i) 2]
  refine tl_sld X hX hbl (Nat.not_le.mpr hbl) (j := 5 * i + 2) (by omega) hL dL_law_491 ?_
  refine tl_callX (st := []) hB X (c_X8_differences Γ.2.1 Ω (adX B) (AX B) σ (xs (5 * i + 1)) (xs (5 * i + 2)) h1) ⟨gw_4_187, gw_4_184, gw_1_1, q_X8_differences, rfl, rfl, ⟨(Nat.le_of_ble_eq_true rfl), (Nat.le_of_ble_eq_true rfl)⟩⟩ gw_4_185 gw_4_186 rfl rfl rfl (Nat.le_of_ble_eq_true rfl) ⟨(Nat.le_of_ble_eq_true rfl), (Nat.le_of_ble_eq_true rfl)⟩ dL_law_492 ?_
  refine tv_aload_n X dL_law_495 rfl 1 rfl ?_
  refine tv_aload_n X dL_law_496 rfl 3 rfl ?_
  refine tv_iload_n X dL_law_497 rfl 0 rfl ?_
  refine tv_iconst X 1 dL_law_498 (by decide) ?_
  refine tv_iadd X dL_law_499 ?_
  rw [show nI (5 * i) + 1 = nI (5 * i + 1) from nI_add (5 * i) 1]
  refine tl_sld X hX hbl (Nat.not_le.mpr hbl) (j := 5 * i + 1) (by omega) hL dL_law_500 ?_
  refine tv_aload_n X dL_law_501 rfl 3 rfl ?_
  refine tv_iload_n X dL_law_502 rfl 0 rfl ?_
  refine tv_iconst X 2 dL_law_503 (by decide) ?_
  refine tv_iadd X dL_law_504 ?_
  rw [show nI (5 * i) + 2 = nI (5 * i + 2) from nI_add (5 * i) 2]
  refine tl_sld X hX hbl (Nat.not_le.mpr hbl) (j := 5 * i + 2) (by omega) hL dL_law_505 ?_
  refine tl_callM (st := [.int r]) hB X (c_X9_differences Γ.2.1 Ω (adM (B + 1977)) (AM B) τ (xs (5 * i + 1)) (xs (5 * i + 2)) h2) ⟨gw_6_173, gw_6_170, gw_1_10, q_X9_differences, rfl, rfl, ⟨(Nat.le_of_ble_eq_true rfl), (Nat.le_of_ble_eq_true rfl)⟩⟩ gw_6_171 gw_6_172 rfl rfl rfl (Nat.le_of_ble_eq_true rfl) ⟨(Nat.le_of_ble_eq_true rfl), (Nat.le_of_ble_eq_true rfl)⟩ dL_law_506 ?_
  exact tv_icmp_eq X 600 dL_law_509 (by decide) (if_pos rfl : (if r = r then some () else none) = some ()) (fun _ => hk σ' τ' h3) (fun h => nomatch h)
set_option maxHeartbeats 4000000 in
set_option maxRecDepth 100000 in
theorem law_14 {Γ : Cx} {Q : State → Prop} {Ω : Wd} {B b L i : Nat} {xs : Nat → Int32} {σ τ : St} {R : St → St → Prop} (hB : Γ.2.2.2.2.1.heap.size = B) (X : Fx Γ Ω (fun q => Γ.2.2.2.2.1.heap.size ≤ q) code 4 "MappingTextsLaw" room_1 (some .boolean)) (hX : va_X b L xs Γ.2.2.2.2.1 Γ.2.2.2.2.1.heap) (hbl : b < Γ.2.2.2.2.1.heap.size) (hL : L ≤ 2560) (hi : 5 * i + 5 ≤ L) (hs : Sim R) (hR : R σ τ) (hk : ∀ σ τ : St, R σ τ → V Γ (2019, 97478) Q (fun q => Γ.2.2.2.2.1.heap.size ≤ q) 4 (ZL Ω B σ τ) 600 [(3, .int (nI (5 * i))), (2, .ref (B + 1977)), (1, .ref B), (0, .ref b)] []) : V Γ (2019, 97478) Q (fun q => Γ.2.2.2.2.1.heap.size ≤ q) 4 (ZL Ω B σ τ) 514 [(3, .int (nI (5 * i))), (2, .ref (B + 1977)), (1, .ref B), (0, .ref b)] [] := by
  obtain ⟨σ', τ', r, h1, h2, h3⟩ := (hs.2 σ τ hR).2.2.2.2.2.2.2.2.2.2.2.2.2.2.1 (xs (5 * i + 1)) (xs (5 * i + 2)) (xs (5 * i + 3)) (xs (5 * i + 4))
  refine tv_aload_n X dL_law_514 rfl 2 rfl ?_
  refine tv_aload_n X dL_law_515 rfl 3 rfl ?_
  refine tv_iload_n X dL_law_516 rfl 0 rfl ?_
  refine tv_iconst X 1 dL_law_517 (by decide) ?_
  refine tv_iadd X dL_law_518 ?_
  rw [show nI (5 * i) + 1 = nI (5 * i + 1) from nI_add (5 * i) 1]
  refine tl_sld X hX hbl (Nat.not_le.mpr hbl) (j := 5 * i + 1) (by omega) hL dL_law_519 ?_
  refine tv_aload_n X dL_law_520 rfl 3 rfl ?_
  refine tv_iload_n X dL_law_521 rfl 0 rfl ?_
  refine tv_iconst X 2 dL_law_522 (by decide) ?_
  refine tv_iadd X dL_law_523 ?_
  rw [show nI (5 * i) + 2 = nI (5 * i + 2) from nI_add (5 * i) 2]
  refine tl_sld X hX hbl (Nat.not_le.mpr hbl) (j := 5 * i + 2) (by omega) hL dL_law_524 ?_
  refine tv_aload_n X dL_law_525 rfl 3 rfl ?_
  refine tv_iload_n X dL_law_526 rfl 0 rfl ?_
  refine tv_iconst X 3 dL_law_527 (by decide) ?_
  refine tv_iadd X dL_law_528 ?_
  rw [show nI (5 * i) + 3 = nI (5 * i + 3) from nI_add (5 * i) 3]
  refine tl_sld X hX hbl (Nat.not_le.mpr hbl) (j := 5 * i + 3) (by omega) hL dL_law_529 ?_
  refine tv_aload_n X dL_law_530 rfl 3 rfl ?_
  refine tv_iload_n X dL_law_531 rfl 0 rfl ?_
  refine tv_iconst X 4 dL_law_532 (by decide) ?_
  refine tv_iadd X dL_law_533 ?_
  rw [show nI (5 * i) + 4 = nI (5 * i + 4) from nI_add (5 * i) 4]
  refine tl_sld X hX hbl (Nat.not_le.mpr hbl) (j := 5 * i + 4) (by omega) hL dL_law_534 ?_
  refine tl_callX (st := []) hB X (c_X8_difference Γ.2.1 Ω (adX B) (AX B) σ (xs (5 * i + 1)) (xs (5 * i + 2)) (xs (5 * i + 3)) (xs (5 * i + 4)) h1) ⟨gw_4_210, gw_4_207, gw_1_1, q_X8_difference, rfl, rfl, ⟨(Nat.le_of_ble_eq_true rfl), (Nat.le_of_ble_eq_true rfl)⟩⟩ gw_4_208 gw_4_209 rfl rfl rfl (Nat.le_of_ble_eq_true rfl) ⟨(Nat.le_of_ble_eq_true rfl), (Nat.le_of_ble_eq_true rfl)⟩ dL_law_535 ?_
  refine tv_aload_n X dL_law_538 rfl 1 rfl ?_
  refine tv_aload_n X dL_law_539 rfl 3 rfl ?_
  refine tv_iload_n X dL_law_540 rfl 0 rfl ?_
  refine tv_iconst X 1 dL_law_541 (by decide) ?_
  refine tv_iadd X dL_law_542 ?_
  rw [show nI (5 * i) + 1 = nI (5 * i + 1) from nI_add (5 * i) 1]
  refine tl_sld X hX hbl (Nat.not_le.mpr hbl) (j := 5 * i + 1) (by omega) hL dL_law_543 ?_
  refine tv_aload_n X dL_law_544 rfl 3 rfl ?_
  refine tv_iload_n X dL_law_545 rfl 0 rfl ?_
  refine tv_iconst X 2 dL_law_546 (by decide) ?_
  refine tv_iadd X dL_law_547 ?_
  rw [show nI (5 * i) + 2 = nI (5 * i + 2) from nI_add (5 * i) 2]
  refine tl_sld X hX hbl (Nat.not_le.mpr hbl) (j := 5 * i + 2) (by omega) hL dL_law_548 ?_
  refine tv_aload_n X dL_law_549 rfl 3 rfl ?_
  refine tv_iload_n X dL_law_550 rfl 0 rfl ?_
  refine tv_iconst X 3 dL_law_551 (by decide) ?_
  refine tv_iadd X dL_law_552 ?_
  rw [show nI (5 * i) + 3 = nI (5 * i + 3) from nI_add (5 * i) 3]
  refine tl_sld X hX hbl (Nat.not_le.mpr hbl) (j := 5 * i + 3) (by omega) hL dL_law_553 ?_
  refine tv_aload_n X dL_law_554 rfl 3 rfl ?_
  refine tv_iload_n X dL_law_555 rfl 0 rfl ?_
  refine tv_iconst X 4 dL_law_556 (by decide) ?_
  refine tv_iadd X dL_law_557 ?_
  rw [show nI (5 * i) + 4 = nI (5 * i + 4) from nI_add (5 * i) 4]
  refine tl_sld X hX hbl (Nat.not_le.mpr hbl) (j := 5 * i + 4) (by omega) hL dL_law_558 ?_
  refine tl_callM (st := [.int r]) hB X (c_X9_difference Γ.2.1 Ω (adM (B + 1977)) (AM B) τ (xs (5 * i + 1)) (xs (5 * i + 2)) (xs (5 * i + 3)) (xs (5 * i + 4)) h2) ⟨gw_6_201, gw_6_198, gw_1_10, q_X9_difference, rfl, rfl, ⟨(Nat.le_of_ble_eq_true rfl), (Nat.le_of_ble_eq_true rfl)⟩⟩ gw_6_199 gw_6_200 rfl rfl rfl (Nat.le_of_ble_eq_true rfl) ⟨(Nat.le_of_ble_eq_true rfl), (Nat.le_of_ble_eq_true rfl)⟩ dL_law_559 ?_
  exact tv_icmp_eq X 600 dL_law_562 (by decide) (if_pos rfl : (if r = r then some () else none) = some ()) (fun _ => hk σ' τ' h3) (fun h => nomatch h)
set_option maxHeartbeats 4000000 in
set_option maxRecDepth 100000 in
theorem law_15 {Γ : Cx} {Q : State → Prop} {Ω : Wd} {B b L i : Nat} {xs : Nat → Int32} {σ τ : St} {R : St → St → Prop} (hB : Γ.2.2.2.2.1.heap.size = B) (X : Fx Γ Ω (fun q => Γ.2.2.2.2.1.heap.size ≤ q) code 4 "MappingTextsLaw" room_1 (some .boolean)) (hX : va_X b L xs Γ.2.2.2.2.1 Γ.2.2.2.2.1.heap) (hbl : b < Γ.2.2.2.2.1.heap.size) (hL : L ≤ 2560) (hi : 5 * i + 5 ≤ L) (hs : Sim R) (hR : R σ τ) (hk : ∀ σ τ : St, R σ τ → V Γ (2019, 97478) Q (fun q => Γ.2.2.2.2.1.heap.size ≤ q) 4 (ZL Ω B σ τ) 600 [(3, .int (nI (5 * i))), (2, .ref (B + 1977)), (1, .ref B), (0, .ref b)] []) : V Γ (2019, 97478) Q (fun q => Γ.2.2.2.2.1.heap.size ≤ q) 4 (ZL Ω B σ τ) 567 [(3, .int (nI (5 * i))), (2, .ref (B + 1977)), (1, .ref B), (0, .ref b)] [] := by
  obtain ⟨σ', τ', r, h1, h2, h3⟩ := (hs.2 σ τ hR).2.2.2.2.2.2.2.2.2.2.2.2.2.2.2 (xs (5 * i + 1)) (xs (5 * i + 2))
  refine tv_aload_n X dL_law_567 rfl 2 rfl ?_
  refine tv_aload_n X dL_law_568 rfl 3 rfl ?_
  refine tv_iload_n X dL_law_569 rfl 0 rfl ?_
  refine tv_iconst X 1 dL_law_570 (by decide) ?_
  refine tv_iadd X dL_law_571 ?_
  rw [show nI (5 * i) + 1 = nI (5 * i + 1) from nI_add (5 * i) 1]
  refine tl_sld X hX hbl (Nat.not_le.mpr hbl) (j := 5 * i + 1) (by omega) hL dL_law_572 ?_
  refine tv_aload_n X dL_law_573 rfl 3 rfl ?_
  refine tv_iload_n X dL_law_574 rfl 0 rfl ?_
  refine tv_iconst X 2 dL_law_575 (by decide) ?_
  refine tv_iadd X dL_law_576 ?_
  rw [show nI (5 * i) + 2 = nI (5 * i + 2) from nI_add (5 * i) 2]
  refine tl_sld X hX hbl (Nat.not_le.mpr hbl) (j := 5 * i + 2) (by omega) hL dL_law_577 ?_
  refine tl_callX (st := []) hB X (c_X8_told Γ.2.1 Ω (adX B) (AX B) σ (xs (5 * i + 1)) (xs (5 * i + 2)) h1) ⟨gw_4_215, gw_4_212, gw_1_1, q_X8_told, rfl, rfl, ⟨(Nat.le_of_ble_eq_true rfl), (Nat.le_of_ble_eq_true rfl)⟩⟩ gw_4_213 gw_4_214 rfl rfl rfl (Nat.le_of_ble_eq_true rfl) ⟨(Nat.le_of_ble_eq_true rfl), (Nat.le_of_ble_eq_true rfl)⟩ dL_law_578 ?_
  refine tv_aload_n X dL_law_581 rfl 1 rfl ?_
  refine tv_aload_n X dL_law_582 rfl 3 rfl ?_
  refine tv_iload_n X dL_law_583 rfl 0 rfl ?_
  refine tv_iconst X 1 dL_law_584 (by decide) ?_
  refine tv_iadd X dL_law_585 ?_
  rw [show nI (5 * i) + 1 = nI (5 * i + 1) from nI_add (5 * i) 1]
  refine tl_sld X hX hbl (Nat.not_le.mpr hbl) (j := 5 * i + 1) (by omega) hL dL_law_586 ?_
  refine tv_aload_n X dL_law_587 rfl 3 rfl ?_
  refine tv_iload_n X dL_law_588 rfl 0 rfl ?_
  refine tv_iconst X 2 dL_law_589 (by decide) ?_
  refine tv_iadd X dL_law_590 ?_
  rw [show nI (5 * i) + 2 = nI (5 * i + 2) from nI_add (5 * i) 2]
  refine tl_sld X hX hbl (Nat.not_le.mpr hbl) (j := 5 * i + 2) (by omega) hL dL_law_591 ?_
  refine tl_callM (st := [.int r]) hB X (c_X9_told Γ.2.1 Ω (adM (B + 1977)) (AM B) τ (xs (5 * i + 1)) (xs (5 * i + 2)) h2) ⟨gw_6_209, gw_6_206, gw_1_10, q_X9_told, rfl, rfl, ⟨(Nat.le_of_ble_eq_true rfl), (Nat.le_of_ble_eq_true rfl)⟩⟩ gw_6_207 gw_6_208 rfl rfl rfl (Nat.le_of_ble_eq_true rfl) ⟨(Nat.le_of_ble_eq_true rfl), (Nat.le_of_ble_eq_true rfl)⟩ dL_law_592 ?_
  exact tv_icmp_eq X 600 dL_law_595 (by decide) (if_pos rfl : (if r = r then some () else none) = some ()) (fun _ => hk σ' τ' h3) (fun h => nomatch h)
theorem gt_iff {L k : Nat} (hL : L ≤ 2560) (hk : k ≤ 100000) : nI L - 5 < nI k ↔ L < k + 5 := by
  rw [Int32.lt_iff_toInt_lt, show nI L - 5 = nI L - nI 5 from rfl, pk_sub_toInt (by omega) (by omega), nI_toInt (by omega)]
  omega
set_option maxHeartbeats 4000000 in
set_option maxRecDepth 100000 in
theorem law_end {Γ : Cx} {Q : State → Prop} {Ω : Wd} {B b L i : Nat} {xs : Nat → Int32} {σ τ : St} (hB : Γ.2.2.2.2.1.heap.size = B) (X : Fx Γ Ω (fun q => Γ.2.2.2.2.1.heap.size ≤ q) code 4 "MappingTextsLaw" room_1 (some .boolean)) (hX : va_X b L xs Γ.2.2.2.2.1 Γ.2.2.2.2.1.heap) (hbl : b < Γ.2.2.2.2.1.heap.size) (hL : L ≤ 2560) (hi : L < 5 * i + 5) (hi2 : i ≤ 1000) (hend : ∀ (Z : Heap → Prop) (lv : List (Nat × Value)), V Γ (2019, 97478) Q (fun q => Γ.2.2.2.2.1.heap.size ≤ q) 4 Z 606 lv []) : V Γ (2019, 97478) Q (fun q => Γ.2.2.2.2.1.heap.size ≤ q) 4 (ZL Ω B σ τ) 18 [(3, .int (nI (5 * i))), (2, .ref (B + 1977)), (1, .ref B), (0, .ref b)] [] := by
  refine tv_iload_n X dL_law_18 rfl 0 rfl ?_
  refine tv_aload_n X dL_law_19 rfl 3 rfl ?_
  refine tl_slen X hX hbl (Nat.not_le.mpr hbl) dL_law_20 ?_
  refine tv_iconst X 5 dL_law_21 (by decide) ?_
  refine tv_isub X dL_law_22 ?_
  exact tv_icmp_gt X 606 dL_law_23 (by decide) (if_pos ((gt_iff hL (by omega)).mpr hi) : (if nI L - 5 < nI (5 * i) then some () else none) = some ()) (fun _ => hend _ _) (fun h => nomatch h)
set_option maxHeartbeats 4000000 in
set_option maxRecDepth 100000 in
/-- the law's loop -/
theorem law_loop {Γ : Cx} {Q : State → Prop} {Ω : Wd} {B b L : Nat} {xs : Nat → Int32} {R : St → St → Prop} (hB : Γ.2.2.2.2.1.heap.size = B) (X : Fx Γ Ω (fun q => Γ.2.2.2.2.1.heap.size ≤ q) code 4 "MappingTextsLaw" room_1 (some .boolean)) (hX : va_X b L xs Γ.2.2.2.2.1 Γ.2.2.2.2.1.heap) (hbl : b < Γ.2.2.2.2.1.heap.size) (hL : L ≤ 2560) (hs : Sim R) (hend : ∀ (Z : Heap → Prop) (lv : List (Nat × Value)), V Γ (2019, 97478) Q (fun q => Γ.2.2.2.2.1.heap.size ≤ q) 4 Z 606 lv []) : ∀ (n i : Nat) (σ τ : St), i + n ≤ 1000 → L < 5 * i + 5 * n → R σ τ → V Γ (2019, 97478) Q (fun q => Γ.2.2.2.2.1.heap.size ≤ q) 4 (ZL Ω B σ τ) 18 [(3, .int (nI (5 * i))), (2, .ref (B + 1977)), (1, .ref B), (0, .ref b)] [] := by
  intro n
  induction n with
  | zero =>
    intro i σ τ hin hn hR
    exact law_end hB X hX hbl hL (by omega) (by omega) hend
  | succ n ih =>
    intro i σ τ hin hn hR
    rcases Nat.lt_or_ge L (5 * i + 5) with hlt | hi
    · exact law_end hB X hX hbl hL hlt (by omega) hend
    · have hk : ∀ σ τ : St, R σ τ → V Γ (2019, 97478) Q (fun q => Γ.2.2.2.2.1.heap.size ≤ q) 4 (ZL Ω B σ τ) 600 [(3, .int (nI (5 * i))), (2, .ref (B + 1977)), (1, .ref B), (0, .ref b)] [] := by
        intro σ τ hR
        refine tv_iinc X (nI (5 * (i + 1))) dL_law_600 0 rfl (by rw [show 5 * (i + 1) = 5 * i + 5 by omega, ← nI_add (5 * i) 5]; rfl) (by decide) [(3, .int (nI (5 * (i + 1)))), (2, .ref (B + 1977)), (1, .ref B), (0, .ref b)] rfl ?_
        refine tv_goto X 18 dL_law_603 (by decide) ?_
        exact ih (i + 1) σ τ (by omega) (by omega) hR
      refine tv_iload_n X dL_law_18 rfl 0 rfl ?_
      refine tv_aload_n X dL_law_19 rfl 3 rfl ?_
      refine tl_slen X hX hbl (Nat.not_le.mpr hbl) dL_law_20 ?_
      refine tv_iconst X 5 dL_law_21 (by decide) ?_
      refine tv_isub X dL_law_22 ?_
      refine tv_icmp_gt X 606 dL_law_23 (by decide) (if_neg (fun h => by rw [gt_iff hL (by omega)] at h; omega) : (if nI L - 5 < nI (5 * i) then none else some ()) = some ()) (fun h => nomatch h) (fun _ => ?_)
      refine tv_aload_n X dL_law_26 rfl 3 rfl ?_
      refine tv_iload_n X dL_law_27 rfl 0 rfl ?_
      refine tl_sld X hX hbl (Nat.not_le.mpr hbl) (by omega) hL dL_law_28 ?_
      refine tv_bipush X 15 dL_law_29 (by decide) ?_
      refine tv_iand X dL_law_31 ?_
      obtain ⟨j, hj, ej⟩ := pk_andE (xs (5 * i)) (m := 15) 4 (by decide)
      rw [ej]
      match j, hj with
      | 0, _ => exact tv_tableIn 112 X dL_law_32 (by decide) (by decide) rfl (by decide) (law_0 hB X hX hbl hL hi hs hR hk)
      | 1, _ => exact tv_tableIn 175 X dL_law_32 (by decide) (by decide) rfl (by decide) (law_1 hB X hX hbl hL hi hs hR hk)
      | 2, _ => exact tv_tableIn 188 X dL_law_32 (by decide) (by decide) rfl (by decide) (law_2 hB X hX hbl hL hi hs hR hk)
      | 3, _ => exact tv_tableIn 201 X dL_law_32 (by decide) (by decide) rfl (by decide) (law_3 hB X hX hbl hL hi hs hR hk)
      | 4, _ => exact tv_tableIn 234 X dL_law_32 (by decide) (by decide) rfl (by decide) (law_4 hB X hX hbl hL hi hs hR hk)
      | 5, _ => exact tv_tableIn 247 X dL_law_32 (by decide) (by decide) rfl (by decide) (law_5 hB X hX hbl hL hi hs hR hk)
      | 6, _ => exact tv_tableIn 270 X dL_law_32 (by decide) (by decide) rfl (by decide) (law_6 hB X hX hbl hL hi hs hR hk)
      | 7, _ => exact tv_tableIn 313 X dL_law_32 (by decide) (by decide) rfl (by decide) (law_7 hB X hX hbl hL hi hs hR hk)
      | 8, _ => exact tv_tableIn 356 X dL_law_32 (by decide) (by decide) rfl (by decide) (law_8 hB X hX hbl hL hi hs hR hk)
      | 9, _ => exact tv_tableIn 389 X dL_law_32 (by decide) (by decide) rfl (by decide) (law_9 hB X hX hbl hL hi hs hR hk)
      | 10, _ => exact tv_tableIn 422 X dL_law_32 (by decide) (by decide) rfl (by decide) (law_10 hB X hX hbl hL hi hs hR hk)
      | 11, _ => exact tv_tableIn 445 X dL_law_32 (by decide) (by decide) rfl (by decide) (law_11 hB X hX hbl hL hi hs hR hk)
      | 12, _ => exact tv_tableIn 468 X dL_law_32 (by decide) (by decide) rfl (by decide) (law_12 hB X hX hbl hL hi hs hR hk)
      | 13, _ => exact tv_tableIn 481 X dL_law_32 (by decide) (by decide) rfl (by decide) (law_13 hB X hX hbl hL hi hs hR hk)
      | 14, _ => exact tv_tableIn 514 X dL_law_32 (by decide) (by decide) rfl (by decide) (law_14 hB X hX hbl hL hi hs hR hk)
      | 15, _ => exact tv_tableIn 567 X dL_law_32 (by decide) (by decide) rfl (by decide) (law_15 hB X hX hbl hL hi hs hR hk)
      | n + 16, h => exact absurd h (by omega)
