set_option maxHeartbeats 4000000 in
set_option maxRecDepth 100000 in
theorem c_X0_addRow (l : Launch) (Ω : Wd) (ad : Nat → Nat → Nat) (A : Nat → Prop) (σ : St) (a1 : Int32) (a2 : Int32) (a3 : Int32) {res : St × Unit} (h : f_X0_addRow σ a1 a2 a3 = some res) : Met l yX0_addRow (wsO yX0_addRow cX0_addRow 4 none) rm_X0_addRow (PcZ Ω A (PicX Ω ad A σ) [.ref (ad 11 0), .int a1, .int a2, .int a3]) (Qcv (PicX Ω ad A) A res) 0 0 A := by
  refine Met.ofV (by decide) rfl (fun Γ hΓ X => ?_)
  have X : Fx Γ Ω A cX0_addRow 4 "MappingTexts$Comparison" rm_X0_addRow none := X
  unfold f_X0_addRow at h
  show V Γ (0, 0) _ A 4 _ 0 [(0, .ref (ad 11 0)), (1, .int a1), (2, .int a2), (3, .int a3)] []
  refine tv_iload_n X dX0_addRow_0 rfl 1 rfl ?_
  refine tv_if_eq X 56 dX0_addRow_1 (by decide) h (fun h => ?_) (fun h => ?_)
  · exact tv_vret X dX0_addRow_56 h
  · refine tv_aload_n X dX0_addRow_4 rfl 0 rfl ?_
    refine gX0_3 X (by omega) gw_1_82 dX0_addRow_5 ?_
    refine tv_aload_n X dX0_addRow_8 rfl 0 rfl ?_
    refine gX0_0 X (by omega) gw_1_76 dX0_addRow_9 ?_
    refine alX8 X (by omega) dX0_addRow_12 ?_
    refine tv_icmp_ge X 56 dX0_addRow_13 (by decide) h (fun h => ?_) (fun h => ?_)
    · exact tv_vret X dX0_addRow_56 h
    · refine tv_aload_n X dX0_addRow_16 rfl 0 rfl ?_
      refine gX0_0 X (by omega) gw_1_76 dX0_addRow_17 ?_
      refine tv_aload_n X dX0_addRow_20 rfl 0 rfl ?_
      refine gX0_3 X (by omega) gw_1_82 dX0_addRow_21 ?_
      refine tv_iload_n X dX0_addRow_24 rfl 1 rfl ?_
      refine isX X (by omega) dX0_addRow_25 h (fun j1 hj1 h => ?_)
      refine tv_ns h (fun s2 h => ?_)
      refine tv_aload_n X dX0_addRow_26 rfl 0 rfl ?_
      refine gX0_1 X (by omega) gw_1_78 dX0_addRow_27 ?_
      refine tv_aload_n X dX0_addRow_30 rfl 0 rfl ?_
      refine gX0_3 X (by omega) gw_1_82 dX0_addRow_31 ?_
      refine tv_iload_n X dX0_addRow_34 rfl 2 rfl ?_
      refine isX X (by omega) dX0_addRow_35 h (fun j3 hj3 h => ?_)
      refine tv_ns h (fun s4 h => ?_)
      refine tv_aload_n X dX0_addRow_36 rfl 0 rfl ?_
      refine gX0_2 X (by omega) gw_1_80 dX0_addRow_37 ?_
      refine tv_aload_n X dX0_addRow_40 rfl 0 rfl ?_
      refine gX0_3 X (by omega) gw_1_82 dX0_addRow_41 ?_
      refine tv_iload_n X dX0_addRow_44 rfl 3 rfl ?_
      refine isX X (by omega) dX0_addRow_45 h (fun j5 hj5 h => ?_)
      refine tv_ns h (fun s6 h => ?_)
      refine tv_aload_n X dX0_addRow_46 rfl 0 rfl ?_
      refine tv_dup X dX0_addRow_47 rfl ?_
      refine gX0_3 X (by omega) gw_1_82 dX0_addRow_48 ?_
      refine tv_iconst X 1 dX0_addRow_51 (by decide) ?_
      refine tv_iadd X dX0_addRow_52 ?_
      refine pX0_3 X (by omega) gw_1_82 dX0_addRow_53 ?_
      refine tv_ns h (fun s7 h => ?_)
      exact tv_vret X dX0_addRow_56 h
set_option maxHeartbeats 4000000 in
set_option maxRecDepth 100000 in
theorem l_X3_holdsAt_21 {Γ : Cx} {Ω : Wd} {ad : Nat → Nat → Nat} {A : Nat → Prop} {res : St × Int32} (X : Fx Γ Ω A cX3_holdsAt 4 "MappingTexts$Letters" rm_X3_holdsAt (some .boolean)) : ∀ (n : Nat) (σ : St) (v0 : Nat) (v1 : Int32) (v2 : Nat) (v3 : Int32) (_ : v0 < 773) (_ : v2 < 773), f_X3_holdsAt_21 n σ v0 v1 v2 v3 = some res → V Γ (0, 0) (Qe Γ (0, 0) A (Qci (PicX Ω ad A) A res)) A 4 (PicX Ω ad A σ) 21 [(0, .ref (ad 1 v0)), (1, .int v1), (2, .ref (ad 1 v2)), (3, .int v3)] [] := by
  intro n
  induction n with
  | zero =>
    intro σ v0 v1 v2 v3 bv0 bv2 h
    cases (show none = some res from h)
  | succ n ih =>
    intro σ v0 v1 v2 v3 bv0 bv2 h
    rw [f_X3_holdsAt_21] at h
    refine tv_iload_n X dX3_holdsAt_21 rfl 3 rfl ?_
    refine tv_aload_n X dX3_holdsAt_22 rfl 2 rfl ?_
    refine gX2_1 X (by omega) gw_1_35 dX3_holdsAt_23 ?_
    refine tv_icmp_ge X 54 dX3_holdsAt_26 (by decide) h (fun h => ?_) (fun h => ?_)
    · refine tv_iconst X 1 dX3_holdsAt_54 (by decide) ?_
      exact tv_zret X dX3_holdsAt_55 (Or.inr rfl) h
    · refine tv_aload_n X dX3_holdsAt_29 rfl 0 rfl ?_
      refine gX2_0 X (by omega) gw_1_34 dX3_holdsAt_30 ?_
      refine tv_iload_n X dX3_holdsAt_33 rfl 1 rfl ?_
      refine tv_iload_n X dX3_holdsAt_34 rfl 3 rfl ?_
      refine tv_iadd X dX3_holdsAt_35 ?_
      refine baX X (by omega) dX3_holdsAt_36 h (fun j1 hj1 h => ?_)
      refine tv_aload_n X dX3_holdsAt_37 rfl 2 rfl ?_
      refine gX2_0 X (by omega) gw_1_34 dX3_holdsAt_38 ?_
      refine tv_iload_n X dX3_holdsAt_41 rfl 3 rfl ?_
      refine baX X (by omega) dX3_holdsAt_42 h (fun j2 hj2 h => ?_)
      refine tv_icmp_eq X 48 dX3_holdsAt_43 (by decide) h (fun h => ?_) (fun h => ?_)
      · refine tv_iinc X (v3 + 1) dX3_holdsAt_48 3 rfl rfl (by decide) [(3, .int (v3 + 1)), (0, .ref (ad 1 v0)), (1, .int v1), (2, .ref (ad 1 v2))] rfl ?_
        refine tv_goto X 21 dX3_holdsAt_51 (by decide) ?_
        refine V.pick [1, 2, 3, 0] rfl ?_
        exact ih σ v0 v1 v2 (v3 + 1) (by omega) (by omega) h
      · refine tv_iconst X 0 dX3_holdsAt_46 (by decide) ?_
        exact tv_zret X dX3_holdsAt_47 (Or.inl rfl) h
set_option maxHeartbeats 4000000 in
set_option maxRecDepth 100000 in
theorem c_X3_holdsAt (l : Launch) (Ω : Wd) (ad : Nat → Nat → Nat) (A : Nat → Prop) (σ : St) (o : Nat) (a1 : Int32) (a2 : Nat) (bo : o < 773) (ba2 : a2 < 773) {res : St × Int32} (h : f_X3_holdsAt σ o a1 a2 = some res) : Met l yX3_holdsAt (wsO yX3_holdsAt cX3_holdsAt 4 (some .boolean)) rm_X3_holdsAt (PcZ Ω A (PicX Ω ad A σ) [.ref (ad 1 o), .int a1, .ref (ad 1 a2)]) (Qci (PicX Ω ad A) A res) 0 0 A := by
  refine Met.ofV (by decide) rfl (fun Γ hΓ X => ?_)
  have X : Fx Γ Ω A cX3_holdsAt 4 "MappingTexts$Letters" rm_X3_holdsAt (some .boolean) := X
  unfold f_X3_holdsAt at h
  show V Γ (0, 0) _ A 4 _ 0 [(0, .ref (ad 1 o)), (1, .int a1), (2, .ref (ad 1 a2))] []
  refine tv_iload_n X dX3_holdsAt_0 rfl 1 rfl ?_
  refine tv_if_lt X 17 dX3_holdsAt_1 (by decide) h (fun h => ?_) (fun h => ?_)
  · refine tv_iconst X 0 dX3_holdsAt_17 (by decide) ?_
    exact tv_zret X dX3_holdsAt_18 (Or.inl rfl) h
  · refine tv_iload_n X dX3_holdsAt_4 rfl 1 rfl ?_
    refine tv_aload_n X dX3_holdsAt_5 rfl 0 rfl ?_
    refine gX2_1 X (by omega) gw_1_35 dX3_holdsAt_6 ?_
    refine tv_aload_n X dX3_holdsAt_9 rfl 2 rfl ?_
    refine gX2_1 X (by omega) gw_1_35 dX3_holdsAt_10 ?_
    refine tv_isub X dX3_holdsAt_13 ?_
    refine tv_icmp_le X 19 dX3_holdsAt_14 (by decide) h (fun h => ?_) (fun h => ?_)
    · refine tv_iconst X 0 dX3_holdsAt_19 (by decide) ?_
      refine tv_istore_n X dX3_holdsAt_20 rfl (by decide) [(3, .int 0), (0, .ref (ad 1 o)), (1, .int a1), (2, .ref (ad 1 a2))] rfl ?_
      refine V.pick [1, 2, 3, 0] rfl ?_
      exact l_X3_holdsAt_21 X fl σ o a1 a2 0 (by omega) (by omega) h
    · refine tv_iconst X 0 dX3_holdsAt_17 (by decide) ?_
      exact tv_zret X dX3_holdsAt_18 (Or.inl rfl) h
set_option maxHeartbeats 4000000 in
set_option maxRecDepth 100000 in
theorem c_X3_sameAs (l : Launch) (Ω : Wd) (ad : Nat → Nat → Nat) (A : Nat → Prop) (σ : St) (o : Nat) (a1 : Nat) (bo : o < 773) (ba1 : a1 < 773) {res : St × Int32} (h : f_X3_sameAs σ o a1 = some res) : Met l yX3_sameAs (wsO yX3_sameAs cX3_sameAs 2 (some .boolean)) rm_X3_sameAs (PcZ Ω A (PicX Ω ad A σ) [.ref (ad 1 o), .ref (ad 1 a1)]) (Qci (PicX Ω ad A) A res) 0 0 A := by
  refine Met.ofV (by decide) rfl (fun Γ hΓ X => ?_)
  have X : Fx Γ Ω A cX3_sameAs 2 "MappingTexts$Letters" rm_X3_sameAs (some .boolean) := X
  unfold f_X3_sameAs at h
  show V Γ (0, 0) _ A 2 _ 0 [(0, .ref (ad 1 o)), (1, .ref (ad 1 a1))] []
  refine tv_aload_n X dX3_sameAs_0 rfl 0 rfl ?_
  refine gX2_1 X (by omega) gw_1_35 dX3_sameAs_1 ?_
  refine tv_aload_n X dX3_sameAs_4 rfl 1 rfl ?_
  refine gX2_1 X (by omega) gw_1_35 dX3_sameAs_5 ?_
  refine tv_icmp_ne X 24 dX3_sameAs_8 (by decide) h (fun h => ?_) (fun h => ?_)
  · refine tv_iconst X 0 dX3_sameAs_24 (by decide) ?_
    exact tv_zret X dX3_sameAs_25 (Or.inl rfl) h
  · refine tv_aload_n X dX3_sameAs_11 rfl 1 rfl ?_
    refine tv_iconst X 0 dX3_sameAs_12 (by decide) ?_
    refine tv_aload_n X dX3_sameAs_13 rfl 0 rfl ?_
    obtain ⟨s1, x2, hs1, h⟩ := cl_some h
    refine tv_callVi (st := []) X (c_X3_holdsAt Γ.2.1 Ω ad A σ a1 0 o (by omega) (by omega) hs1) ⟨gw_3_22, gw_3_19, gw_1_2, q_X3_holdsAt, rfl, rfl, ⟨Nat.le_of_ble_eq_true rfl, Nat.le_of_ble_eq_true rfl⟩⟩ gw_3_20 gw_3_21 (fun H _ hz _ => PP.recv (f := 1) (i := a1) X.2.1 hz.1 (show a1 < 773 by omega) rfl rfl) rfl rfl (Nat.le_of_ble_eq_true rfl) dX3_sameAs_14 ?_
    refine tv_if_eq X 24 dX3_sameAs_17 (by decide) h (fun h => ?_) (fun h => ?_)
    · refine tv_iconst X 0 dX3_sameAs_24 (by decide) ?_
      exact tv_zret X dX3_sameAs_25 (Or.inl rfl) h
    · refine tv_iconst X 1 dX3_sameAs_20 (by decide) ?_
      refine tv_goto X 25 dX3_sameAs_21 (by decide) ?_
      exact tv_zret X dX3_sameAs_25 (Or.inr rfl) h
set_option maxHeartbeats 4000000 in
set_option maxRecDepth 100000 in
theorem l_X0_isSamePath_8 {Γ : Cx} {Ω : Wd} {ad : Nat → Nat → Nat} {A : Nat → Prop} {res : St × Int32} (X : Fx Γ Ω A cX0_isSamePath 4 "MappingTexts$Comparison" rm_X0_isSamePath (some .boolean)) (σ : St) (v1 : Int32) (v3 : Int32) (h : f_X0_isSamePath_8 σ v1 v3 = some res) : V Γ (0, 0) (Qe Γ (0, 0) A (Qci (PicX Ω ad A) A res)) A 4 (PicX Ω ad A σ) 8 [(1, .int v1), (3, .int v3)] [] := by
  unfold f_X0_isSamePath_8 at h
  refine tv_iload_n X dX0_isSamePath_8 rfl 0 rfl ?_
  refine tv_iload_n X dX0_isSamePath_9 rfl 1 rfl ?_
  refine tv_icmp_ne X 17 dX0_isSamePath_10 (by decide) h (fun h => ?_) (fun h => ?_)
  · refine tv_iconst X 0 dX0_isSamePath_17 (by decide) ?_
    exact tv_zret X dX0_isSamePath_18 (Or.inl rfl) h
  · refine tv_iconst X 1 dX0_isSamePath_13 (by decide) ?_
    refine tv_goto X 18 dX0_isSamePath_14 (by decide) ?_
    exact tv_zret X dX0_isSamePath_18 (Or.inr rfl) h
set_option maxHeartbeats 4000000 in
set_option maxRecDepth 100000 in
theorem c_X0_isSamePath (l : Launch) (Ω : Wd) (ad : Nat → Nat → Nat) (A : Nat → Prop) (σ : St) (a1 : Nat) (a2 : Int32) (a3 : Nat) (a4 : Int32) (ba1 : a1 < 8) (ba3 : a3 < 8) {res : St × Int32} (h : f_X0_isSamePath σ a1 a2 a3 a4 = some res) : Met l yX0_isSamePath (wsO yX0_isSamePath cX0_isSamePath 4 (some .boolean)) rm_X0_isSamePath (PcZ Ω A (PicX Ω ad A σ) [.ref (ad 3 a1), .int a2, .ref (ad 3 a3), .int a4]) (Qci (PicX Ω ad A) A res) 0 0 A := by
  refine Met.ofV (by decide) rfl (fun Γ hΓ X => ?_)
  have X : Fx Γ Ω A cX0_isSamePath 4 "MappingTexts$Comparison" rm_X0_isSamePath (some .boolean) := X
  unfold f_X0_isSamePath at h
  show V Γ (0, 0) _ A 4 _ 0 [(0, .ref (ad 3 a1)), (1, .int a2), (2, .ref (ad 3 a3)), (3, .int a4)] []
  refine tv_iload_n X dX0_isSamePath_0 rfl 1 rfl ?_
  refine tv_if_lt X 8 dX0_isSamePath_1 (by decide) h (fun h => ?_) (fun h => ?_)
  · refine V.pick [1, 3] rfl ?_
    exact l_X0_isSamePath_8 X σ a2 a4 h
  · refine tv_iload_n X dX0_isSamePath_4 rfl 3 rfl ?_
    refine tv_if_ge X 19 dX0_isSamePath_5 (by decide) h (fun h => ?_) (fun h => ?_)
    · refine tv_aload_n X dX0_isSamePath_19 rfl 0 rfl ?_
      refine gX6_0 X (by omega) gw_1_195 dX0_isSamePath_20 ?_
      refine tv_iload_n X dX0_isSamePath_23 rfl 1 rfl ?_
      refine aaX6 X (by omega) dX0_isSamePath_24 h (fun j1 hj1 h => ?_)
      refine gX1_0 X (by omega) gw_1_111 dX0_isSamePath_25 ?_
      refine tv_aload_n X dX0_isSamePath_28 rfl 2 rfl ?_
      refine gX6_0 X (by omega) gw_1_195 dX0_isSamePath_29 ?_
      refine tv_iload_n X dX0_isSamePath_32 rfl 3 rfl ?_
      refine aaX6 X (by omega) dX0_isSamePath_33 h (fun j2 hj2 h => ?_)
      refine gX1_0 X (by omega) gw_1_111 dX0_isSamePath_34 ?_
      obtain ⟨s3, x4, hs3, h⟩ := cl_some h
      refine tv_callVi (st := []) X (c_X3_sameAs Γ.2.1 Ω ad A σ (5 + 2 * (40 * a1 + j1)) (5 + 2 * (40 * a3 + j2)) (by omega) (by omega) hs3) ⟨gw_3_18, gw_4_199, gw_1_2, q_X3_sameAs, rfl, rfl, ⟨Nat.le_of_ble_eq_true rfl, Nat.le_of_ble_eq_true rfl⟩⟩ gw_3_16 gw_3_17 (fun H _ hz _ => PP.recv (f := 1) (i := (5 + 2 * (40 * a1 + j1))) X.2.1 hz.1 (show (5 + 2 * (40 * a1 + j1)) < 773 by omega) rfl rfl) rfl rfl (Nat.le_of_ble_eq_true rfl) dX0_isSamePath_37 ?_
      obtain ⟨hq, h⟩ := cq_some h
      exact tv_zret X dX0_isSamePath_40 (of_decide_eq_true hq) h
    · refine V.pick [1, 3] rfl ?_
      exact l_X0_isSamePath_8 X σ a2 a4 h
set_option maxHeartbeats 4000000 in
set_option maxRecDepth 100000 in
theorem l_X0_codeOf_138 {Γ : Cx} {Ω : Wd} {ad : Nat → Nat → Nat} {A : Nat → Prop} {res : St × Int32} (X : Fx Γ Ω A cX0_codeOf 9 "MappingTexts$Comparison" rm_X0_codeOf (some .int)) {k143 : St → Int32 → Option (St × Int32)} (hk143 : ∀ (σ : St) (t0 : Int32), k143 σ t0 = some res → V Γ (0, 0) (Qe Γ (0, 0) A (Qci (PicX Ω ad A) A res)) A 9 (PicX Ω ad A σ) 143 [] [.int t0]) (σ : St) (h : f_X0_codeOf_138 k143 σ = some res) : V Γ (0, 0) (Qe Γ (0, 0) A (Qci (PicX Ω ad A) A res)) A 9 (PicX Ω ad A σ) 138 [] [] := by
  unfold f_X0_codeOf_138 at h
  refine tv_iconst X 1 dX0_codeOf_138 (by decide) ?_
  refine tv_goto X 143 dX0_codeOf_139 (by decide) ?_
  exact hk143 σ 1 h
set_option maxHeartbeats 4000000 in
set_option maxRecDepth 100000 in
theorem l_X0_codeOf_143 {Γ : Cx} {Ω : Wd} {ad : Nat → Nat → Nat} {A : Nat → Prop} {res : St × Int32} (X : Fx Γ Ω A cX0_codeOf 9 "MappingTexts$Comparison" rm_X0_codeOf (some .int)) (σ : St) (t0 : Int32) (h : f_X0_codeOf_143 σ t0 = some res) : V Γ (0, 0) (Qe Γ (0, 0) A (Qci (PicX Ω ad A) A res)) A 9 (PicX Ω ad A σ) 143 [] [.int t0] := by
  unfold f_X0_codeOf_143 at h
  refine tv_istore X dX0_codeOf_143 (by decide) [(8, .int t0)] rfl ?_
  refine tv_iload X dX0_codeOf_145 0 rfl ?_
  refine tv_if_eq X 154 dX0_codeOf_147 (by decide) h (fun h => ?_) (fun h => ?_)
  · refine tv_iconst X 0 dX0_codeOf_154 (by decide) ?_
    exact tv_iret X dX0_codeOf_155 h
  · refine tv_iconst X 3 dX0_codeOf_150 (by decide) ?_
    refine tv_goto X 155 dX0_codeOf_151 (by decide) ?_
    exact tv_iret X dX0_codeOf_155 h
set_option maxHeartbeats 4000000 in
set_option maxRecDepth 100000 in
theorem c_X0_codeOf (l : Launch) (Ω : Wd) (ad : Nat → Nat → Nat) (A : Nat → Prop) (σ : St) (a1 : Nat) (a2 : Int32) (a3 : Nat) (a4 : Int32) (ba1 : a1 < 8) (ba3 : a3 < 8) {res : St × Int32} (h : f_X0_codeOf σ a1 a2 a3 a4 = some res) : Met l yX0_codeOf (wsO yX0_codeOf cX0_codeOf 9 (some .int)) rm_X0_codeOf (PcZ Ω A (PicX Ω ad A σ) [.ref (ad 3 a1), .int a2, .ref (ad 3 a3), .int a4]) (Qci (PicX Ω ad A) A res) 0 0 A := by
  refine Met.ofV (by decide) rfl (fun Γ hΓ X => ?_)
  have X : Fx Γ Ω A cX0_codeOf 9 "MappingTexts$Comparison" rm_X0_codeOf (some .int) := X
  unfold f_X0_codeOf at h
  show V Γ (0, 0) _ A 9 _ 0 [(0, .ref (ad 3 a1)), (1, .int a2), (2, .ref (ad 3 a3)), (3, .int a4)] []
  refine tv_iload_n X dX0_codeOf_0 rfl 1 rfl ?_
  refine tv_if_ge X 6 dX0_codeOf_1 (by decide) h (fun h => ?_) (fun h => ?_)
  · refine tv_iload_n X dX0_codeOf_6 rfl 3 rfl ?_
    refine tv_if_ge X 12 dX0_codeOf_7 (by decide) h (fun h => ?_) (fun h => ?_)
    · refine tv_aload_n X dX0_codeOf_12 rfl 0 rfl ?_
      refine gX6_0 X (by omega) gw_1_195 dX0_codeOf_13 ?_
      refine tv_iload_n X dX0_codeOf_16 rfl 1 rfl ?_
      refine aaX6 X (by omega) dX0_codeOf_17 h (fun j1 hj1 h => ?_)
      refine tv_astore X dX0_codeOf_18 (by decide) [(4, .ref (ad 4 (40 * a1 + j1))), (0, .ref (ad 3 a1)), (1, .int a2), (2, .ref (ad 3 a3)), (3, .int a4)] rfl ?_
      refine tv_aload_n X dX0_codeOf_20 rfl 3 rfl ?_
      refine gX6_0 X (by omega) gw_1_195 dX0_codeOf_21 ?_
      refine tv_iload_n X dX0_codeOf_24 rfl 4 rfl ?_
      refine aaX6 X (by omega) dX0_codeOf_25 h (fun j2 hj2 h => ?_)
      refine tv_astore X dX0_codeOf_26 (by decide) [(5, .ref (ad 4 (40 * a3 + j2))), (4, .ref (ad 4 (40 * a1 + j1))), (0, .ref (ad 3 a1)), (1, .int a2), (2, .ref (ad 3 a3)), (3, .int a4)] rfl ?_
      refine tv_aload X dX0_codeOf_28 1 rfl ?_
      refine gX1_3 X (by omega) gw_1_125 dX0_codeOf_30 ?_
      refine tv_aload X dX0_codeOf_33 0 rfl ?_
      refine gX1_3 X (by omega) gw_1_125 dX0_codeOf_35 ?_
      refine tv_ixor X dX0_codeOf_38 ?_
      refine tv_nm h (fun x3 h => ?_)
      refine tv_istore X dX0_codeOf_39 (by decide) [(6, .int x3), (5, .ref (ad 4 (40 * a3 + j2))), (4, .ref (ad 4 (40 * a1 + j1))), (0, .ref (ad 3 a1)), (1, .int a2), (2, .ref (ad 3 a3)), (3, .int a4)] rfl ?_
      refine tv_bipush X 38 dX0_codeOf_41 (by decide) ?_
      refine tv_istore X dX0_codeOf_43 (by decide) [(7, .int 38), (6, .int x3), (5, .ref (ad 4 (40 * a3 + j2))), (4, .ref (ad 4 (40 * a1 + j1))), (0, .ref (ad 3 a1)), (1, .int a2), (2, .ref (ad 3 a3)), (3, .int a4)] rfl ?_
      refine tv_aload X dX0_codeOf_45 3 rfl ?_
      refine gX1_2 X (by omega) gw_1_120 dX0_codeOf_47 ?_
      refine tv_aload X dX0_codeOf_50 2 rfl ?_
      refine gX1_2 X (by omega) gw_1_120 dX0_codeOf_52 ?_
      refine tv_icmp_ne X 82 dX0_codeOf_55 (by decide) h (fun h => ?_) (fun h => ?_)
      · refine tv_iconst X 4 dX0_codeOf_82 (by decide) ?_
        exact tv_iret X dX0_codeOf_83 h
      · refine tv_iload X dX0_codeOf_58 1 rfl ?_
        refine tv_iload X dX0_codeOf_60 0 rfl ?_
        refine tv_iand X dX0_codeOf_62 ?_
        refine tv_if_ne X 82 dX0_codeOf_63 (by decide) h (fun h => ?_) (fun h => ?_)
        · refine tv_iconst X 4 dX0_codeOf_82 (by decide) ?_
          exact tv_iret X dX0_codeOf_83 h
        · refine tv_aload X dX0_codeOf_66 3 rfl ?_
          refine gX1_1 X (by omega) gw_1_115 dX0_codeOf_68 ?_
          refine tv_aload X dX0_codeOf_71 2 rfl ?_
          refine gX1_1 X (by omega) gw_1_115 dX0_codeOf_73 ?_
          obtain ⟨s4, x5, hs4, h⟩ := cl_some h
          refine tv_callVi (st := []) X (c_X3_sameAs Γ.2.1 Ω ad A σ (6 + 2 * (40 * a1 + j1)) (6 + 2 * (40 * a3 + j2)) (by omega) (by omega) hs4) ⟨gw_3_18, gw_4_199, gw_1_2, q_X3_sameAs, rfl, rfl, ⟨Nat.le_of_ble_eq_true rfl, Nat.le_of_ble_eq_true rfl⟩⟩ gw_3_16 gw_3_17 (fun H _ hz _ => PP.recv (f := 1) (i := (6 + 2 * (40 * a1 + j1))) X.2.1 hz.1 (show (6 + 2 * (40 * a1 + j1)) < 773 by omega) rfl rfl) rfl rfl (Nat.le_of_ble_eq_true rfl) dX0_codeOf_76 ?_
          refine tv_if_ne X 84 dX0_codeOf_79 (by decide) h (fun h => ?_) (fun h => ?_)
          · refine tv_iload X dX0_codeOf_84 1 rfl ?_
            refine tv_if_ne X 138 dX0_codeOf_86 (by decide) h (fun h => ?_) (fun h => ?_)
            · refine V.pick [] rfl ?_
              exact l_X0_codeOf_138 X (l_X0_codeOf_143 X) s4 h
            · refine tv_aload X dX0_codeOf_89 3 rfl ?_
              refine gX1_4 X (by omega) gw_1_129 dX0_codeOf_91 ?_
              refine tv_aload X dX0_codeOf_94 2 rfl ?_
              refine gX1_4 X (by omega) gw_1_129 dX0_codeOf_96 ?_
              refine tv_icmp_ne X 138 dX0_codeOf_99 (by decide) h (fun h => ?_) (fun h => ?_)
              · refine V.pick [] rfl ?_
                exact l_X0_codeOf_138 X (l_X0_codeOf_143 X) s4 h
              · refine tv_aload_n X dX0_codeOf_102 rfl 4 rfl ?_
                refine tv_aload X dX0_codeOf_103 3 rfl ?_
                refine gX1_5 X (by omega) gw_1_134 dX0_codeOf_105 ?_
                refine tv_aload_n X dX0_codeOf_108 rfl 6 rfl ?_
                refine tv_aload X dX0_codeOf_109 2 rfl ?_
                refine gX1_5 X (by omega) gw_1_134 dX0_codeOf_111 ?_
                obtain ⟨s6, x7, hs6, h⟩ := cl_some h
                refine tv_callSi (st := []) X (c_X0_isSamePath Γ.2.1 Ω ad A s4 a1 (gi s4 105 (40 * a1 + j1)) a3 (gi s4 105 (40 * a3 + j2)) (by omega) (by omega) hs6) ⟨gw_4_202, gw_4_200, gw_1_5, q_X0_isSamePath, rfl, rfl, ⟨Nat.le_of_ble_eq_true rfl, Nat.le_of_ble_eq_true rfl⟩⟩ gw_4_201 rfl rfl (Nat.le_of_ble_eq_true rfl) dX0_codeOf_114 ?_
                refine tv_if_eq X 138 dX0_codeOf_117 (by decide) h (fun h => ?_) (fun h => ?_)
                · refine V.pick [] rfl ?_
                  exact l_X0_codeOf_138 X (l_X0_codeOf_143 X) s6 h
                · refine tv_aload_n X dX0_codeOf_120 rfl 4 rfl ?_
                  refine tv_aload X dX0_codeOf_121 3 rfl ?_
                  refine gX1_6 X (by omega) gw_1_139 dX0_codeOf_123 ?_
                  refine tv_aload_n X dX0_codeOf_126 rfl 6 rfl ?_
                  refine tv_aload X dX0_codeOf_127 2 rfl ?_
                  refine gX1_6 X (by omega) gw_1_139 dX0_codeOf_129 ?_
                  obtain ⟨s8, x9, hs8, h⟩ := cl_some h
                  refine tv_callSi (st := []) X (c_X0_isSamePath Γ.2.1 Ω ad A s6 a1 (gi s6 106 (40 * a1 + j1)) a3 (gi s6 106 (40 * a3 + j2)) (by omega) (by omega) hs8) ⟨gw_4_202, gw_4_200, gw_1_5, q_X0_isSamePath, rfl, rfl, ⟨Nat.le_of_ble_eq_true rfl, Nat.le_of_ble_eq_true rfl⟩⟩ gw_4_201 rfl rfl (Nat.le_of_ble_eq_true rfl) dX0_codeOf_132 ?_
                  refine tv_if_ne X 142 dX0_codeOf_135 (by decide) h (fun h => ?_) (fun h => ?_)
                  · refine tv_iconst X 0 dX0_codeOf_142 (by decide) ?_
                    refine V.pick [] rfl ?_
                    exact l_X0_codeOf_143 X s8 0 h
                  · refine V.pick [] rfl ?_
                    exact l_X0_codeOf_138 X (l_X0_codeOf_143 X) s8 h
          · refine tv_iconst X 4 dX0_codeOf_82 (by decide) ?_
            exact tv_iret X dX0_codeOf_83 h
    · refine tv_iconst X 2 dX0_codeOf_10 (by decide) ?_
      exact tv_iret X dX0_codeOf_11 h
  · refine tv_iconst X 1 dX0_codeOf_4 (by decide) ?_
    exact tv_iret X dX0_codeOf_5 h
set_option maxHeartbeats 4000000 in
set_option maxRecDepth 100000 in
theorem l_X3_compareWith_14 {Γ : Cx} {Ω : Wd} {ad : Nat → Nat → Nat} {A : Nat → Prop} {res : St × Int32} (X : Fx Γ Ω A cX3_compareWith 4 "MappingTexts$Letters" rm_X3_compareWith (some .int)) : ∀ (n : Nat) (σ : St) (v0 : Nat) (v1 : Nat) (v2 : Int32) (v3 : Int32) (_ : v0 < 773) (_ : v1 < 773), f_X3_compareWith_14 n σ v0 v1 v2 v3 = some res → V Γ (0, 0) (Qe Γ (0, 0) A (Qci (PicX Ω ad A) A res)) A 4 (PicX Ω ad A σ) 14 [(0, .ref (ad 1 v0)), (1, .ref (ad 1 v1)), (2, .int v2), (3, .int v3)] [] := by
  intro n
  induction n with
  | zero =>
    intro σ v0 v1 v2 v3 bv0 bv1 h
    cases (show none = some res from h)
  | succ n ih =>
    intro σ v0 v1 v2 v3 bv0 bv1 h
    rw [f_X3_compareWith_14] at h
    refine tv_iload_n X dX3_compareWith_14 rfl 3 rfl ?_
    refine tv_iload_n X dX3_compareWith_15 rfl 2 rfl ?_
    refine tv_icmp_ge X 62 dX3_compareWith_16 (by decide) h (fun h => ?_) (fun h => ?_)
    · refine tv_aload_n X dX3_compareWith_62 rfl 0 rfl ?_
      refine gX2_1 X (by omega) gw_1_35 dX3_compareWith_63 ?_
      refine tv_aload_n X dX3_compareWith_66 rfl 1 rfl ?_
      refine gX2_1 X (by omega) gw_1_35 dX3_compareWith_67 ?_
      refine tv_isub X dX3_compareWith_70 ?_
      exact tv_iret X dX3_compareWith_71 h
    · refine tv_aload_n X dX3_compareWith_19 rfl 0 rfl ?_
      refine gX2_0 X (by omega) gw_1_34 dX3_compareWith_20 ?_
      refine tv_iload_n X dX3_compareWith_23 rfl 3 rfl ?_
      refine baX X (by omega) dX3_compareWith_24 h (fun j2 hj2 h => ?_)
      refine tv_aload_n X dX3_compareWith_25 rfl 1 rfl ?_
      refine gX2_0 X (by omega) gw_1_34 dX3_compareWith_26 ?_
      refine tv_iload_n X dX3_compareWith_29 rfl 3 rfl ?_
      refine baX X (by omega) dX3_compareWith_30 h (fun j3 hj3 h => ?_)
      refine tv_icmp_eq X 56 dX3_compareWith_31 (by decide) h (fun h => ?_) (fun h => ?_)
      · refine tv_iinc X (v3 + 1) dX3_compareWith_56 3 rfl rfl (by decide) [(3, .int (v3 + 1)), (0, .ref (ad 1 v0)), (1, .ref (ad 1 v1)), (2, .int v2)] rfl ?_
        refine tv_goto X 14 dX3_compareWith_59 (by decide) ?_
        refine V.pick [1, 2, 3, 0] rfl ?_
        exact ih σ v0 v1 v2 (v3 + 1) (by omega) (by omega) h
      · refine tv_aload_n X dX3_compareWith_34 rfl 0 rfl ?_
        refine gX2_0 X (by omega) gw_1_34 dX3_compareWith_35 ?_
        refine tv_iload_n X dX3_compareWith_38 rfl 3 rfl ?_
        refine baX X (by omega) dX3_compareWith_39 h (fun j4 hj4 h => ?_)
        refine tv_sipush X 255 dX3_compareWith_40 (by decide) ?_
        refine tv_iand X dX3_compareWith_43 ?_
        refine tv_aload_n X dX3_compareWith_44 rfl 1 rfl ?_
        refine gX2_0 X (by omega) gw_1_34 dX3_compareWith_45 ?_
        refine tv_iload_n X dX3_compareWith_48 rfl 3 rfl ?_
        refine baX X (by omega) dX3_compareWith_49 h (fun j5 hj5 h => ?_)
        refine tv_sipush X 255 dX3_compareWith_50 (by decide) ?_
        refine tv_iand X dX3_compareWith_53 ?_
        refine tv_isub X dX3_compareWith_54 ?_
        exact tv_iret X dX3_compareWith_55 h
set_option maxHeartbeats 4000000 in
set_option maxRecDepth 100000 in
theorem c_X3_compareWith (l : Launch) (Ω : Wd) (ad : Nat → Nat → Nat) (A : Nat → Prop) (σ : St) (o : Nat) (a1 : Nat) (bo : o < 773) (ba1 : a1 < 773) {res : St × Int32} (h : f_X3_compareWith σ o a1 = some res) : Met l yX3_compareWith (wsO yX3_compareWith cX3_compareWith 4 (some .int)) rm_X3_compareWith (PcZ Ω A (PicX Ω ad A σ) [.ref (ad 1 o), .ref (ad 1 a1)]) (Qci (PicX Ω ad A) A res) 0 0 A := by
  refine Met.ofV (by decide) rfl (fun Γ hΓ X => ?_)
  have X : Fx Γ Ω A cX3_compareWith 4 "MappingTexts$Letters" rm_X3_compareWith (some .int) := X
  unfold f_X3_compareWith at h
  show V Γ (0, 0) _ A 4 _ 0 [(0, .ref (ad 1 o)), (1, .ref (ad 1 a1))] []
  refine tv_aload_n X dX3_compareWith_0 rfl 0 rfl ?_
  refine gX2_1 X (by omega) gw_1_35 dX3_compareWith_1 ?_
  refine tv_aload_n X dX3_compareWith_4 rfl 1 rfl ?_
  refine gX2_1 X (by omega) gw_1_35 dX3_compareWith_5 ?_
  refine tv_mmin X gw_3_226 gw_3_227 gw_1_3 gw_3_228 (Nat.le_of_ble_eq_true rfl) (Nat.le_of_ble_eq_true rfl) dX3_compareWith_8 ?_
  refine tv_nm h (fun x1 h => ?_)
  refine tv_istore_n X dX3_compareWith_11 rfl (by decide) [(2, .int x1), (0, .ref (ad 1 o)), (1, .ref (ad 1 a1))] rfl ?_
  refine tv_iconst X 0 dX3_compareWith_12 (by decide) ?_
  refine tv_istore_n X dX3_compareWith_13 rfl (by decide) [(3, .int 0), (2, .int x1), (0, .ref (ad 1 o)), (1, .ref (ad 1 a1))] rfl ?_
  refine V.pick [2, 3, 1, 0] rfl ?_
  exact l_X3_compareWith_14 X fl σ o a1 x1 0 (by omega) (by omega) h
set_option maxHeartbeats 4000000 in
set_option maxRecDepth 100000 in
theorem c_X0_sideOfNext (l : Launch) (Ω : Wd) (ad : Nat → Nat → Nat) (A : Nat → Prop) (σ : St) (a1 : Nat) (a2 : Int32) (a3 : Nat) (a4 : Int32) (ba1 : a1 < 8) (ba3 : a3 < 8) {res : St × Int32} (h : f_X0_sideOfNext σ a1 a2 a3 a4 = some res) : Met l yX0_sideOfNext (wsO yX0_sideOfNext cX0_sideOfNext 5 (some .int)) rm_X0_sideOfNext (PcZ Ω A (PicX Ω ad A σ) [.ref (ad 3 a1), .int a2, .ref (ad 3 a3), .int a4]) (Qci (PicX Ω ad A) A res) 0 0 A := by
  refine Met.ofV (by decide) rfl (fun Γ hΓ X => ?_)
  have X : Fx Γ Ω A cX0_sideOfNext 5 "MappingTexts$Comparison" rm_X0_sideOfNext (some .int) := X
  unfold f_X0_sideOfNext at h
  show V Γ (0, 0) _ A 5 _ 0 [(0, .ref (ad 3 a1)), (1, .int a2), (2, .ref (ad 3 a3)), (3, .int a4)] []
  refine tv_iload_n X dX0_sideOfNext_0 rfl 1 rfl ?_
  refine tv_aload_n X dX0_sideOfNext_1 rfl 0 rfl ?_
  refine gX6_3 X (by omega) gw_1_202 dX0_sideOfNext_2 ?_
  refine tv_icmp_lt X 10 dX0_sideOfNext_5 (by decide) h (fun h => ?_) (fun h => ?_)
  · refine tv_iload_n X dX0_sideOfNext_10 rfl 3 rfl ?_
    refine tv_aload_n X dX0_sideOfNext_11 rfl 2 rfl ?_
    refine gX6_3 X (by omega) gw_1_202 dX0_sideOfNext_12 ?_
    refine tv_icmp_lt X 20 dX0_sideOfNext_15 (by decide) h (fun h => ?_) (fun h => ?_)
    · refine tv_aload_n X dX0_sideOfNext_20 rfl 0 rfl ?_
      refine gX6_0 X (by omega) gw_1_195 dX0_sideOfNext_21 ?_
      refine tv_aload_n X dX0_sideOfNext_24 rfl 0 rfl ?_
      refine gX6_2 X (by omega) gw_1_200 dX0_sideOfNext_25 ?_
      refine tv_iload_n X dX0_sideOfNext_28 rfl 1 rfl ?_
      refine iaX X (by omega) dX0_sideOfNext_29 h (fun j1 hj1 h => ?_)
      refine aaX6 X (by omega) dX0_sideOfNext_30 h (fun j2 hj2 h => ?_)
      refine gX1_0 X (by omega) gw_1_111 dX0_sideOfNext_31 ?_
      refine tv_astore X dX0_sideOfNext_34 (by decide) [(4, .ref (ad 1 (5 + 2 * (40 * a1 + j2)))), (0, .ref (ad 3 a1)), (1, .int a2), (2, .ref (ad 3 a3)), (3, .int a4)] rfl ?_
      refine tv_aload X dX0_sideOfNext_36 0 rfl ?_
      refine tv_aload_n X dX0_sideOfNext_38 rfl 3 rfl ?_
      refine gX6_0 X (by omega) gw_1_195 dX0_sideOfNext_39 ?_
      refine tv_aload_n X dX0_sideOfNext_42 rfl 3 rfl ?_
      refine gX6_2 X (by omega) gw_1_200 dX0_sideOfNext_43 ?_
      refine tv_iload_n X dX0_sideOfNext_46 rfl 4 rfl ?_
      refine iaX X (by omega) dX0_sideOfNext_47 h (fun j3 hj3 h => ?_)
      refine aaX6 X (by omega) dX0_sideOfNext_48 h (fun j4 hj4 h => ?_)
      refine gX1_0 X (by omega) gw_1_111 dX0_sideOfNext_49 ?_
      obtain ⟨s5, x6, hs5, h⟩ := cl_some h
      refine tv_callVi (st := []) X (c_X3_compareWith Γ.2.1 Ω ad A σ (5 + 2 * (40 * a1 + j2)) (5 + 2 * (40 * a3 + j4)) (by omega) (by omega) hs5) ⟨gw_3_225, gw_4_195, gw_1_2, q_X3_compareWith, rfl, rfl, ⟨Nat.le_of_ble_eq_true rfl, Nat.le_of_ble_eq_true rfl⟩⟩ gw_3_223 gw_3_224 (fun H _ hz _ => PP.recv (f := 1) (i := (5 + 2 * (40 * a1 + j2))) X.2.1 hz.1 (show (5 + 2 * (40 * a1 + j2)) < 773 by omega) rfl rfl) rfl rfl (Nat.le_of_ble_eq_true rfl) dX0_sideOfNext_52 ?_
      exact tv_iret X dX0_sideOfNext_55 h
    · refine tv_iconst X (-1) dX0_sideOfNext_18 (by decide) ?_
      exact tv_iret X dX0_sideOfNext_19 h
  · refine tv_iconst X 1 dX0_sideOfNext_8 (by decide) ?_
    exact tv_iret X dX0_sideOfNext_9 h
set_option maxHeartbeats 4000000 in
set_option maxRecDepth 100000 in
theorem l_X0_compare_137 {Γ : Cx} {Ω : Wd} {ad : Nat → Nat → Nat} {A : Nat → Prop} {res : St × Unit} (X : Fx Γ Ω A cX0_compare 10 "MappingTexts$Comparison" rm_X0_compare none) {k24 : St → Nat → Nat → Int32 → Int32 → Int32 → Int32 → Option (St × Unit)} (hk24 : ∀ (σ : St) (v1 : Nat) (v2 : Nat) (v3 : Int32) (v4 : Int32) (v5 : Int32) (v6 : Int32) (_ : v1 < 8) (_ : v2 < 8), k24 σ v1 v2 v3 v4 v5 v6 = some res → V Γ (0, 0) (Qe Γ (0, 0) A (Qcv (PicX Ω ad A) A res)) A 10 (PicX Ω ad A σ) 24 [(0, .ref (ad 11 0)), (1, .ref (ad 3 v1)), (2, .ref (ad 3 v2)), (3, .int v3), (4, .int v4), (5, .int v5), (6, .int v6)] []) (σ : St) (t0 : Int32) (t1 : Int32) (v1 : Nat) (v2 : Nat) (v3 : Int32) (v5 : Int32) (v6 : Int32) (bv1 : v1 < 8) (bv2 : v2 < 8) (h : f_X0_compare_137 k24 σ t0 t1 v1 v2 v3 v5 v6 = some res) : V Γ (0, 0) (Qe Γ (0, 0) A (Qcv (PicX Ω ad A) A res)) A 10 (PicX Ω ad A σ) 137 [(0, .ref (ad 11 0)), (1, .ref (ad 3 v1)), (2, .ref (ad 3 v2)), (3, .int v3), (5, .int v5), (6, .int v6)] [.int t1, .int t0] := by
  unfold f_X0_compare_137 at h
  refine tv_iadd X dX0_compare_137 ?_
  refine tv_istore X dX0_compare_138 (by decide) [(4, .int (t0 + t1)), (0, .ref (ad 11 0)), (1, .ref (ad 3 v1)), (2, .ref (ad 3 v2)), (3, .int v3), (5, .int v5), (6, .int v6)] rfl ?_
  refine tv_iinc X (v6 + 1) dX0_compare_140 6 rfl rfl (by decide) [(6, .int (v6 + 1)), (4, .int (t0 + t1)), (0, .ref (ad 11 0)), (1, .ref (ad 3 v1)), (2, .ref (ad 3 v2)), (3, .int v3), (5, .int v5)] rfl ?_
  refine tv_goto X 24 dX0_compare_143 (by decide) ?_
  refine V.pick [2, 3, 4, 5, 1, 6, 0] rfl ?_
  exact hk24 σ v1 v2 v3 (t0 + t1) v5 (v6 + 1) (by omega) (by omega) h
set_option maxHeartbeats 4000000 in
set_option maxRecDepth 100000 in
theorem l_X0_compare_123 {Γ : Cx} {Ω : Wd} {ad : Nat → Nat → Nat} {A : Nat → Prop} {res : St × Unit} (X : Fx Γ Ω A cX0_compare 10 "MappingTexts$Comparison" rm_X0_compare none) {k24 : St → Nat → Nat → Int32 → Int32 → Int32 → Int32 → Option (St × Unit)} (hk24 : ∀ (σ : St) (v1 : Nat) (v2 : Nat) (v3 : Int32) (v4 : Int32) (v5 : Int32) (v6 : Int32) (_ : v1 < 8) (_ : v2 < 8), k24 σ v1 v2 v3 v4 v5 v6 = some res → V Γ (0, 0) (Qe Γ (0, 0) A (Qcv (PicX Ω ad A) A res)) A 10 (PicX Ω ad A σ) 24 [(0, .ref (ad 11 0)), (1, .ref (ad 3 v1)), (2, .ref (ad 3 v2)), (3, .int v3), (4, .int v4), (5, .int v5), (6, .int v6)] []) (σ : St) (t0 : Int32) (t1 : Int32) (v1 : Nat) (v2 : Nat) (v4 : Int32) (v5 : Int32) (v6 : Int32) (v7 : Int32) (bv1 : v1 < 8) (bv2 : v2 < 8) (h : f_X0_compare_123 k24 σ t0 t1 v1 v2 v4 v5 v6 v7 = some res) : V Γ (0, 0) (Qe Γ (0, 0) A (Qcv (PicX Ω ad A) A res)) A 10 (PicX Ω ad A σ) 123 [(0, .ref (ad 11 0)), (1, .ref (ad 3 v1)), (2, .ref (ad 3 v2)), (4, .int v4), (5, .int v5), (6, .int v6), (7, .int v7)] [.int t1, .int t0] := by
  unfold f_X0_compare_123 at h
  refine tv_iadd X dX0_compare_123 ?_
  refine tv_istore_n X dX0_compare_124 rfl (by decide) [(3, .int (t0 + t1)), (0, .ref (ad 11 0)), (1, .ref (ad 3 v1)), (2, .ref (ad 3 v2)), (4, .int v4), (5, .int v5), (6, .int v6), (7, .int v7)] rfl ?_
  refine tv_iload X dX0_compare_125 4 rfl ?_
  refine tv_iload X dX0_compare_127 7 rfl ?_
  refine tv_if_lt X 136 dX0_compare_129 (by decide) h (fun h => ?_) (fun h => ?_)
  · refine tv_iconst X 0 dX0_compare_136 (by decide) ?_
    refine V.pick [1, 2, 3, 0, 5, 6] rfl ?_
    exact l_X0_compare_137 X hk24 σ v4 0 v1 v2 (t0 + t1) v5 v6 (by omega) (by omega) h
  · refine tv_iconst X 1 dX0_compare_132 (by decide) ?_
    refine tv_goto X 137 dX0_compare_133 (by decide) ?_
    refine V.pick [1, 2, 3, 0, 5, 6] rfl ?_
    exact l_X0_compare_137 X hk24 σ v4 1 v1 v2 (t0 + t1) v5 v6 (by omega) (by omega) h
set_option maxHeartbeats 4000000 in
set_option maxRecDepth 100000 in
theorem l_X0_compare_93 {Γ : Cx} {Ω : Wd} {ad : Nat → Nat → Nat} {A : Nat → Prop} {res : St × Unit} (X : Fx Γ Ω A cX0_compare 10 "MappingTexts$Comparison" rm_X0_compare none) {k24 : St → Nat → Nat → Int32 → Int32 → Int32 → Int32 → Option (St × Unit)} (hk24 : ∀ (σ : St) (v1 : Nat) (v2 : Nat) (v3 : Int32) (v4 : Int32) (v5 : Int32) (v6 : Int32) (_ : v1 < 8) (_ : v2 < 8), k24 σ v1 v2 v3 v4 v5 v6 = some res → V Γ (0, 0) (Qe Γ (0, 0) A (Qcv (PicX Ω ad A) A res)) A 10 (PicX Ω ad A σ) 24 [(0, .ref (ad 11 0)), (1, .ref (ad 3 v1)), (2, .ref (ad 3 v2)), (3, .int v3), (4, .int v4), (5, .int v5), (6, .int v6)] []) (σ : St) (t0 : Int32) (v1 : Nat) (v2 : Nat) (v3 : Int32) (v4 : Int32) (v5 : Int32) (v6 : Int32) (v7 : Int32) (v8 : Int32) (bv1 : v1 < 8) (bv2 : v2 < 8) (h : f_X0_compare_93 k24 σ t0 v1 v2 v3 v4 v5 v6 v7 v8 = some res) : V Γ (0, 0) (Qe Γ (0, 0) A (Qcv (PicX Ω ad A) A res)) A 10 (PicX Ω ad A σ) 93 [(0, .ref (ad 11 0)), (1, .ref (ad 3 v1)), (2, .ref (ad 3 v2)), (3, .int v3), (4, .int v4), (5, .int v5), (6, .int v6), (7, .int v7), (8, .int v8)] [.int t0] := by
  unfold f_X0_compare_93 at h
  refine tv_istore X dX0_compare_93 (by decide) [(9, .int t0), (0, .ref (ad 11 0)), (1, .ref (ad 3 v1)), (2, .ref (ad 3 v2)), (3, .int v3), (4, .int v4), (5, .int v5), (6, .int v6), (7, .int v7), (8, .int v8)] rfl ?_
  refine tv_aload_n X dX0_compare_95 rfl 1 rfl ?_
  refine tv_aload_n X dX0_compare_96 rfl 2 rfl ?_
  refine tv_iload X dX0_compare_97 9 rfl ?_
  refine tv_aload_n X dX0_compare_99 rfl 3 rfl ?_
  refine tv_iload X dX0_compare_100 0 rfl ?_
  obtain ⟨s7, x8, hs7, h⟩ := cl_some h
  refine tv_callSi (st := [.ref (ad 11 0)]) X (c_X0_codeOf Γ.2.1 Ω ad A σ v1 v8 v2 t0 (by omega) (by omega) hs7) ⟨gw_4_198, gw_4_196, gw_1_5, q_X0_codeOf, rfl, rfl, ⟨Nat.le_of_ble_eq_true rfl, Nat.le_of_ble_eq_true rfl⟩⟩ gw_4_197 rfl rfl (Nat.le_of_ble_eq_true rfl) dX0_compare_102 ?_
  refine tv_iload X dX0_compare_105 9 rfl ?_
  refine tv_iload X dX0_compare_107 0 rfl ?_
  obtain ⟨s9, _u109, hs9, h⟩ := cl_some h
  refine tv_callVv (st := []) X (c_X0_addRow Γ.2.1 Ω ad A s7 x8 v8 t0 hs9) ⟨gw_4_206, gw_4_203, gw_1_5, q_X0_addRow, rfl, rfl, ⟨Nat.le_of_ble_eq_true rfl, Nat.le_of_ble_eq_true rfl⟩⟩ gw_4_205 gw_p_47 (fun H _ hz _ => PP.recv (f := 11) (i := 0) X.2.1 hz.1 (show 0 < 1 by omega) rfl rfl) rfl rfl (Nat.le_of_ble_eq_true rfl) dX0_compare_109 ?_
  refine tv_iload_n X dX0_compare_112 rfl 4 rfl ?_
  refine tv_iload X dX0_compare_113 8 rfl ?_
  refine tv_if_gt X 122 dX0_compare_115 (by decide) h (fun h => ?_) (fun h => ?_)
  · refine tv_iconst X 0 dX0_compare_122 (by decide) ?_
    refine V.pick [1, 2, 3, 5, 6, 7, 8] rfl ?_
    exact l_X0_compare_123 X hk24 s9 v3 0 v1 v2 v4 v5 v6 v7 (by omega) (by omega) h
  · refine tv_iconst X 1 dX0_compare_118 (by decide) ?_
    refine tv_goto X 123 dX0_compare_119 (by decide) ?_
    refine V.pick [1, 2, 3, 5, 6, 7, 8] rfl ?_
    exact l_X0_compare_123 X hk24 s9 v3 1 v1 v2 v4 v5 v6 v7 (by omega) (by omega) h
set_option maxHeartbeats 4000000 in
set_option maxRecDepth 100000 in
theorem l_X0_compare_74 {Γ : Cx} {Ω : Wd} {ad : Nat → Nat → Nat} {A : Nat → Prop} {res : St × Unit} (X : Fx Γ Ω A cX0_compare 10 "MappingTexts$Comparison" rm_X0_compare none) {k24 : St → Nat → Nat → Int32 → Int32 → Int32 → Int32 → Option (St × Unit)} (hk24 : ∀ (σ : St) (v1 : Nat) (v2 : Nat) (v3 : Int32) (v4 : Int32) (v5 : Int32) (v6 : Int32) (_ : v1 < 8) (_ : v2 < 8), k24 σ v1 v2 v3 v4 v5 v6 = some res → V Γ (0, 0) (Qe Γ (0, 0) A (Qcv (PicX Ω ad A) A res)) A 10 (PicX Ω ad A σ) 24 [(0, .ref (ad 11 0)), (1, .ref (ad 3 v1)), (2, .ref (ad 3 v2)), (3, .int v3), (4, .int v4), (5, .int v5), (6, .int v6)] []) (σ : St) (t0 : Int32) (v1 : Nat) (v2 : Nat) (v3 : Int32) (v4 : Int32) (v5 : Int32) (v6 : Int32) (v7 : Int32) (bv1 : v1 < 8) (bv2 : v2 < 8) (h : f_X0_compare_74 k24 σ t0 v1 v2 v3 v4 v5 v6 v7 = some res) : V Γ (0, 0) (Qe Γ (0, 0) A (Qcv (PicX Ω ad A) A res)) A 10 (PicX Ω ad A σ) 74 [(0, .ref (ad 11 0)), (1, .ref (ad 3 v1)), (2, .ref (ad 3 v2)), (3, .int v3), (4, .int v4), (5, .int v5), (6, .int v6), (7, .int v7)] [.int t0] := by
  unfold f_X0_compare_74 at h
  refine tv_istore X dX0_compare_74 (by decide) [(8, .int t0), (0, .ref (ad 11 0)), (1, .ref (ad 3 v1)), (2, .ref (ad 3 v2)), (3, .int v3), (4, .int v4), (5, .int v5), (6, .int v6), (7, .int v7)] rfl ?_
  refine tv_iload X dX0_compare_76 8 rfl ?_
  refine tv_if_lt X 91 dX0_compare_78 (by decide) h (fun h => ?_) (fun h => ?_)
  · refine tv_bipush X (-2) dX0_compare_91 (by decide) ?_
    refine V.pick [1, 2, 3, 4, 5, 6, 7, 8, 0] rfl ?_
    exact l_X0_compare_93 X hk24 σ (-2) v1 v2 v3 v4 v5 v6 v7 t0 (by omega) (by omega) h
  · refine tv_aload_n X dX0_compare_81 rfl 3 rfl ?_
    refine gX6_2 X (by omega) gw_1_200 dX0_compare_82 ?_
    refine tv_iload X dX0_compare_85 5 rfl ?_
    refine iaX X (by omega) dX0_compare_87 h (fun j6 hj6 h => ?_)
    refine tv_goto X 93 dX0_compare_88 (by decide) ?_
    refine V.pick [1, 2, 3, 4, 5, 6, 7, 8, 0] rfl ?_
    exact l_X0_compare_93 X hk24 σ (ga σ 8 v2 j6) v1 v2 v3 v4 v5 v6 v7 t0 (by omega) (by omega) h
set_option maxHeartbeats 4000000 in
set_option maxRecDepth 100000 in
theorem l_X0_compare_48 {Γ : Cx} {Ω : Wd} {ad : Nat → Nat → Nat} {A : Nat → Prop} {res : St × Unit} (X : Fx Γ Ω A cX0_compare 10 "MappingTexts$Comparison" rm_X0_compare none) {k24 : St → Nat → Nat → Int32 → Int32 → Int32 → Int32 → Option (St × Unit)} (hk24 : ∀ (σ : St) (v1 : Nat) (v2 : Nat) (v3 : Int32) (v4 : Int32) (v5 : Int32) (v6 : Int32) (_ : v1 < 8) (_ : v2 < 8), k24 σ v1 v2 v3 v4 v5 v6 = some res → V Γ (0, 0) (Qe Γ (0, 0) A (Qcv (PicX Ω ad A) A res)) A 10 (PicX Ω ad A σ) 24 [(0, .ref (ad 11 0)), (1, .ref (ad 3 v1)), (2, .ref (ad 3 v2)), (3, .int v3), (4, .int v4), (5, .int v5), (6, .int v6)] []) (σ : St) (v1 : Nat) (v2 : Nat) (v3 : Int32) (v4 : Int32) (v5 : Int32) (v6 : Int32) (bv1 : v1 < 8) (bv2 : v2 < 8) (h : f_X0_compare_48 k24 σ v1 v2 v3 v4 v5 v6 = some res) : V Γ (0, 0) (Qe Γ (0, 0) A (Qcv (PicX Ω ad A) A res)) A 10 (PicX Ω ad A σ) 48 [(0, .ref (ad 11 0)), (1, .ref (ad 3 v1)), (2, .ref (ad 3 v2)), (3, .int v3), (4, .int v4), (5, .int v5), (6, .int v6)] [] := by
  unfold f_X0_compare_48 at h
  refine tv_aload_n X dX0_compare_48 rfl 1 rfl ?_
  refine tv_iload_n X dX0_compare_49 rfl 3 rfl ?_
  refine tv_aload_n X dX0_compare_50 rfl 2 rfl ?_
  refine tv_iload X dX0_compare_51 4 rfl ?_
  obtain ⟨s3, x4, hs3, h⟩ := cl_some h
  refine tv_callSi (st := []) X (c_X0_sideOfNext Γ.2.1 Ω ad A σ v1 v3 v2 v4 (by omega) (by omega) hs3) ⟨gw_4_194, gw_4_192, gw_1_5, q_X0_sideOfNext, rfl, rfl, ⟨Nat.le_of_ble_eq_true rfl, Nat.le_of_ble_eq_true rfl⟩⟩ gw_4_193 rfl rfl (Nat.le_of_ble_eq_true rfl) dX0_compare_53 ?_
  refine tv_istore X dX0_compare_56 (by decide) [(7, .int x4), (0, .ref (ad 11 0)), (1, .ref (ad 3 v1)), (2, .ref (ad 3 v2)), (3, .int v3), (4, .int v4), (5, .int v5), (6, .int v6)] rfl ?_
  refine tv_iload X dX0_compare_58 0 rfl ?_
  refine tv_if_gt X 72 dX0_compare_60 (by decide) h (fun h => ?_) (fun h => ?_)
  · refine tv_bipush X (-2) dX0_compare_72 (by decide) ?_
    refine V.pick [1, 2, 3, 4, 5, 6, 7, 0] rfl ?_
    exact l_X0_compare_74 X hk24 s3 (-2) v1 v2 v3 v4 v5 v6 x4 (by omega) (by omega) h
  · refine tv_aload_n X dX0_compare_63 rfl 2 rfl ?_
    refine gX6_2 X (by omega) gw_1_200 dX0_compare_64 ?_
    refine tv_iload_n X dX0_compare_67 rfl 4 rfl ?_
    refine iaX X (by omega) dX0_compare_68 h (fun j5 hj5 h => ?_)
    refine tv_goto X 74 dX0_compare_69 (by decide) ?_
    refine V.pick [1, 2, 3, 4, 5, 6, 7, 0] rfl ?_
    exact l_X0_compare_74 X hk24 s3 (ga s3 8 v1 j5) v1 v2 v3 v4 v5 v6 x4 (by omega) (by omega) h
set_option maxHeartbeats 4000000 in
set_option maxRecDepth 100000 in
theorem l_X0_compare_24 {Γ : Cx} {Ω : Wd} {ad : Nat → Nat → Nat} {A : Nat → Prop} {res : St × Unit} (X : Fx Γ Ω A cX0_compare 10 "MappingTexts$Comparison" rm_X0_compare none) : ∀ (n : Nat) (σ : St) (v1 : Nat) (v2 : Nat) (v3 : Int32) (v4 : Int32) (v5 : Int32) (v6 : Int32) (_ : v1 < 8) (_ : v2 < 8), f_X0_compare_24 n σ v1 v2 v3 v4 v5 v6 = some res → V Γ (0, 0) (Qe Γ (0, 0) A (Qcv (PicX Ω ad A) A res)) A 10 (PicX Ω ad A σ) 24 [(0, .ref (ad 11 0)), (1, .ref (ad 3 v1)), (2, .ref (ad 3 v2)), (3, .int v3), (4, .int v4), (5, .int v5), (6, .int v6)] [] := by
  intro n
  induction n with
  | zero =>
    intro σ v1 v2 v3 v4 v5 v6 bv1 bv2 h
    cases (show none = some res from h)
  | succ n ih =>
    intro σ v1 v2 v3 v4 v5 v6 bv1 bv2 h
    rw [f_X0_compare_24] at h
    refine tv_iload X dX0_compare_24 6 rfl ?_
    refine tv_iload X dX0_compare_26 5 rfl ?_
    refine tv_icmp_ge X 146 dX0_compare_28 (by decide) h (fun h => ?_) (fun h => ?_)
    · exact tv_vret X dX0_compare_146 h
    · refine tv_iload_n X dX0_compare_31 rfl 3 rfl ?_
      refine tv_aload_n X dX0_compare_32 rfl 1 rfl ?_
      refine gX6_3 X (by omega) gw_1_202 dX0_compare_33 ?_
      refine tv_icmp_lt X 48 dX0_compare_36 (by decide) h (fun h => ?_) (fun h => ?_)
      · exact l_X0_compare_48 X ih σ v1 v2 v3 v4 v5 v6 (by omega) (by omega) h
      · refine tv_iload X dX0_compare_39 4 rfl ?_
        refine tv_aload_n X dX0_compare_41 rfl 2 rfl ?_
        refine gX6_3 X (by omega) gw_1_202 dX0_compare_42 ?_
        refine tv_icmp_ge X 146 dX0_compare_45 (by decide) h (fun h => ?_) (fun h => ?_)
        · exact tv_vret X dX0_compare_146 h
        · exact l_X0_compare_48 X ih σ v1 v2 v3 v4 v5 v6 (by omega) (by omega) h
set_option maxHeartbeats 4000000 in
set_option maxRecDepth 100000 in
theorem c_X0_compare (l : Launch) (Ω : Wd) (ad : Nat → Nat → Nat) (A : Nat → Prop) (σ : St) (a1 : Nat) (a2 : Nat) (ba1 : a1 < 8) (ba2 : a2 < 8) {res : St × Unit} (h : f_X0_compare σ a1 a2 = some res) : Met l yX0_compare (wsO yX0_compare cX0_compare 10 none) rm_X0_compare (PcZ Ω A (PicX Ω ad A σ) [.ref (ad 11 0), .ref (ad 3 a1), .ref (ad 3 a2)]) (Qcv (PicX Ω ad A) A res) 0 0 A := by
  refine Met.ofV (by decide) rfl (fun Γ hΓ X => ?_)
  have X : Fx Γ Ω A cX0_compare 10 "MappingTexts$Comparison" rm_X0_compare none := X
  unfold f_X0_compare at h
  show V Γ (0, 0) _ A 10 _ 0 [(0, .ref (ad 11 0)), (1, .ref (ad 3 a1)), (2, .ref (ad 3 a2))] []
  refine tv_aload_n X dX0_compare_0 rfl 0 rfl ?_
  refine tv_iconst X 0 dX0_compare_1 (by decide) ?_
  refine pX0_3 X (by omega) gw_1_82 dX0_compare_2 ?_
  refine tv_ns h (fun s1 h => ?_)
  refine tv_iconst X 0 dX0_compare_5 (by decide) ?_
  refine tv_istore_n X dX0_compare_6 rfl (by decide) [(3, .int 0), (0, .ref (ad 11 0)), (1, .ref (ad 3 a1)), (2, .ref (ad 3 a2))] rfl ?_
  refine tv_iconst X 0 dX0_compare_7 (by decide) ?_
  refine tv_istore X dX0_compare_8 (by decide) [(4, .int 0), (3, .int 0), (0, .ref (ad 11 0)), (1, .ref (ad 3 a1)), (2, .ref (ad 3 a2))] rfl ?_
  refine tv_aload_n X dX0_compare_10 rfl 3 rfl ?_
  refine gX6_3 X (by omega) gw_1_202 dX0_compare_11 ?_
  refine tv_aload_n X dX0_compare_14 rfl 4 rfl ?_
  refine gX6_3 X (by omega) gw_1_202 dX0_compare_15 ?_
  refine tv_iadd X dX0_compare_18 ?_
  refine tv_nm h (fun x2 h => ?_)
  refine tv_istore X dX0_compare_19 (by decide) [(5, .int x2), (4, .int 0), (3, .int 0), (0, .ref (ad 11 0)), (1, .ref (ad 3 a1)), (2, .ref (ad 3 a2))] rfl ?_
  refine tv_iconst X 0 dX0_compare_21 (by decide) ?_
  refine tv_istore X dX0_compare_22 (by decide) [(6, .int 0), (5, .int x2), (4, .int 0), (3, .int 0), (0, .ref (ad 11 0)), (1, .ref (ad 3 a1)), (2, .ref (ad 3 a2))] rfl ?_
  refine V.pick [4, 5, 6, 3, 2, 1, 0] rfl ?_
  exact l_X0_compare_24 X fl s1 a1 a2 0 0 x2 0 (by omega) (by omega) h
set_option maxHeartbeats 4000000 in
set_option maxRecDepth 100000 in
theorem c_X3_clear (l : Launch) (Ω : Wd) (ad : Nat → Nat → Nat) (A : Nat → Prop) (σ : St) (o : Nat) (bo : o < 773) {res : St × Unit} (h : f_X3_clear σ o = some res) : Met l yX3_clear (wsO yX3_clear cX3_clear 1 none) rm_X3_clear (PcZ Ω A (PicX Ω ad A σ) [.ref (ad 1 o)]) (Qcv (PicX Ω ad A) A res) 0 0 A := by
  refine Met.ofV (by decide) rfl (fun Γ hΓ X => ?_)
  have X : Fx Γ Ω A cX3_clear 1 "MappingTexts$Letters" rm_X3_clear none := X
  unfold f_X3_clear at h
  show V Γ (0, 0) _ A 1 _ 0 [(0, .ref (ad 1 o))] []
  refine tv_aload_n X dX3_clear_0 rfl 0 rfl ?_
  refine tv_iconst X 0 dX3_clear_1 (by decide) ?_
  refine pX2_1 X (by omega) gw_1_35 dX3_clear_2 ?_
  refine tv_ns h (fun s1 h => ?_)
  refine tv_aload_n X dX3_clear_5 rfl 0 rfl ?_
  refine tv_iconst X 0 dX3_clear_6 (by decide) ?_
  refine pX2_2 X (Or.inl rfl) (by omega) gw_1_36 dX3_clear_7 ?_
  refine tv_ns h (fun s2 h => ?_)
  exact tv_vret X dX3_clear_10 h
set_option maxHeartbeats 4000000 in
set_option maxRecDepth 100000 in
theorem c_X1_begin (l : Launch) (Ω : Wd) (ad : Nat → Nat → Nat) (A : Nat → Prop) (σ : St) (o : Nat) (bo : o < 320) {res : St × Unit} (h : f_X1_begin σ o = some res) : Met l yX1_begin (wsO yX1_begin cX1_begin 1 none) rm_X1_begin (PcZ Ω A (PicX Ω ad A σ) [.ref (ad 4 o)]) (Qcv (PicX Ω ad A) A res) 0 0 A := by
  refine Met.ofV (by decide) rfl (fun Γ hΓ X => ?_)
  have X : Fx Γ Ω A cX1_begin 1 "MappingTexts$Field" rm_X1_begin none := X
  unfold f_X1_begin at h
  show V Γ (0, 0) _ A 1 _ 0 [(0, .ref (ad 4 o))] []
  refine tv_aload_n X dX1_begin_0 rfl 0 rfl ?_
  refine gX1_0 X (by omega) gw_1_109 dX1_begin_1 ?_
  obtain ⟨s1, _u4, hs1, h⟩ := cl_some h
  refine tv_callVv (st := []) X (c_X3_clear Γ.2.1 Ω ad A σ (5 + 2 * o) (by omega) hs1) ⟨gw_2_98, gw_2_236, gw_1_2, q_X3_clear, rfl, rfl, ⟨Nat.le_of_ble_eq_true rfl, Nat.le_of_ble_eq_true rfl⟩⟩ gw_2_96 gw_2_97 (fun H _ hz _ => PP.recv (f := 1) (i := (5 + 2 * o)) X.2.1 hz.1 (show (5 + 2 * o) < 773 by omega) rfl rfl) rfl rfl (Nat.le_of_ble_eq_true rfl) dX1_begin_4 ?_
  refine tv_aload_n X dX1_begin_7 rfl 0 rfl ?_
  refine gX1_1 X (by omega) gw_1_114 dX1_begin_8 ?_
  obtain ⟨s2, _u11, hs2, h⟩ := cl_some h
  refine tv_callVv (st := []) X (c_X3_clear Γ.2.1 Ω ad A s1 (6 + 2 * o) (by omega) hs2) ⟨gw_2_98, gw_2_236, gw_1_2, q_X3_clear, rfl, rfl, ⟨Nat.le_of_ble_eq_true rfl, Nat.le_of_ble_eq_true rfl⟩⟩ gw_2_96 gw_2_97 (fun H _ hz _ => PP.recv (f := 1) (i := (6 + 2 * o)) X.2.1 hz.1 (show (6 + 2 * o) < 773 by omega) rfl rfl) rfl rfl (Nat.le_of_ble_eq_true rfl) dX1_begin_11 ?_
  refine tv_aload_n X dX1_begin_14 rfl 0 rfl ?_
  refine tv_iconst X 0 dX1_begin_15 (by decide) ?_
  refine pX1_2 X (by omega) gw_1_119 dX1_begin_16 ?_
  refine tv_ns h (fun s3 h => ?_)
  refine tv_aload_n X dX1_begin_19 rfl 0 rfl ?_
  refine tv_iconst X 0 dX1_begin_20 (by decide) ?_
  refine pX1_3 X (by omega) gw_1_124 dX1_begin_21 ?_
  refine tv_ns h (fun s4 h => ?_)
  refine tv_aload_n X dX1_begin_24 rfl 0 rfl ?_
  refine tv_bipush X (-2) dX1_begin_25 (by decide) ?_
  refine pX1_4 X (by omega) gw_1_128 dX1_begin_27 ?_
  refine tv_ns h (fun s5 h => ?_)
  refine tv_aload_n X dX1_begin_30 rfl 0 rfl ?_
  refine tv_bipush X (-2) dX1_begin_31 (by decide) ?_
  refine pX1_5 X (by omega) gw_1_133 dX1_begin_33 ?_
  refine tv_ns h (fun s6 h => ?_)
  refine tv_aload_n X dX1_begin_36 rfl 0 rfl ?_
  refine tv_bipush X (-2) dX1_begin_37 (by decide) ?_
  refine pX1_6 X (by omega) gw_1_138 dX1_begin_39 ?_
  refine tv_ns h (fun s7 h => ?_)
  refine tv_aload_n X dX1_begin_42 rfl 0 rfl ?_
  refine tv_bipush X (-2) dX1_begin_43 (by decide) ?_
  refine pX1_7 X (by omega) gw_1_143 dX1_begin_45 ?_
  refine tv_ns h (fun s8 h => ?_)
  refine tv_aload_n X dX1_begin_48 rfl 0 rfl ?_
  refine tv_iconst X 0 dX1_begin_49 (by decide) ?_
  refine pX1_8 X (by omega) gw_1_147 dX1_begin_50 ?_
  refine tv_ns h (fun s9 h => ?_)
  exact tv_vret X dX1_begin_53 h
set_option maxHeartbeats 4000000 in
set_option maxRecDepth 100000 in
theorem c_X1_has (l : Launch) (Ω : Wd) (ad : Nat → Nat → Nat) (A : Nat → Prop) (σ : St) (o : Nat) (a1 : Int32) (bo : o < 320) {res : St × Int32} (h : f_X1_has σ o a1 = some res) : Met l yX1_has (wsO yX1_has cX1_has 2 (some .boolean)) rm_X1_has (PcZ Ω A (PicX Ω ad A σ) [.ref (ad 4 o), .int a1]) (Qci (PicX Ω ad A) A res) 0 0 A := by
  refine Met.ofV (by decide) rfl (fun Γ hΓ X => ?_)
  have X : Fx Γ Ω A cX1_has 2 "MappingTexts$Field" rm_X1_has (some .boolean) := X
  unfold f_X1_has at h
  show V Γ (0, 0) _ A 2 _ 0 [(0, .ref (ad 4 o)), (1, .int a1)] []
  refine tv_aload_n X dX1_has_0 rfl 0 rfl ?_
  refine gX1_3 X (by omega) gw_1_124 dX1_has_1 ?_
  refine tv_iload_n X dX1_has_4 rfl 1 rfl ?_
  refine tv_ishr X dX1_has_5 ?_
  refine tv_iconst X 1 dX1_has_6 (by decide) ?_
  refine tv_iand X dX1_has_7 ?_
  refine tv_if_eq X 15 dX1_has_8 (by decide) h (fun h => ?_) (fun h => ?_)
  · refine tv_iconst X 0 dX1_has_15 (by decide) ?_
    exact tv_zret X dX1_has_16 (Or.inl rfl) h
  · refine tv_iconst X 1 dX1_has_11 (by decide) ?_
    refine tv_goto X 16 dX1_has_12 (by decide) ?_
    exact tv_zret X dX1_has_16 (Or.inr rfl) h
set_option maxHeartbeats 4000000 in
set_option maxRecDepth 100000 in
theorem c_X1_moved (l : Launch) (Ω : Wd) (ad : Nat → Nat → Nat) (A : Nat → Prop) (σ : St) (a1 : Int32) (a2 : Int32) {res : St × Int32} (h : f_X1_moved σ a1 a2 = some res) : Met l yX1_moved (wsO yX1_moved cX1_moved 2 (some .int)) rm_X1_moved (PcZ Ω A (PicX Ω ad A σ) [.int a1, .int a2]) (Qci (PicX Ω ad A) A res) 0 0 A := by
  refine Met.ofV (by decide) rfl (fun Γ hΓ X => ?_)
  have X : Fx Γ Ω A cX1_moved 2 "MappingTexts$Field" rm_X1_moved (some .int) := X
  unfold f_X1_moved at h
  show V Γ (0, 0) _ A 2 _ 0 [(0, .int a1), (1, .int a2)] []
  refine tv_iload_n X dX1_moved_0 rfl 0 rfl ?_
  refine tv_iload_n X dX1_moved_1 rfl 1 rfl ?_
  refine tv_icmp_lt X 11 dX1_moved_2 (by decide) h (fun h => ?_) (fun h => ?_)
  · refine tv_iload_n X dX1_moved_11 rfl 0 rfl ?_
    exact tv_iret X dX1_moved_12 h
  · refine tv_iload_n X dX1_moved_5 rfl 0 rfl ?_
    refine tv_iconst X 1 dX1_moved_6 (by decide) ?_
    refine tv_iadd X dX1_moved_7 ?_
    refine tv_goto X 12 dX1_moved_8 (by decide) ?_
    exact tv_iret X dX1_moved_12 h
set_option maxHeartbeats 4000000 in
set_option maxRecDepth 100000 in
theorem c_X3_addPart (l : Launch) (Ω : Wd) (ad : Nat → Nat → Nat) (A : Nat → Prop) (σ : St) (o : Nat) (a1 : Nat) (a2 : Int32) (a3 : Int32) (bo : o < 773) (ba1 : a1 < 773) {res : St × Unit} (h : f_X3_addPart σ o a1 a2 a3 = some res) : Met l yX3_addPart (wsO yX3_addPart cX3_addPart 4 none) rm_X3_addPart (PcZ Ω A (PicX Ω ad A σ) [.ref (ad 1 o), .ref (ad 1 a1), .int a2, .int a3]) (Qcv (PicX Ω ad A) A res) 0 0 A := by
  refine Met.ofV (by decide) rfl (fun Γ hΓ X => ?_)
  have X : Fx Γ Ω A cX3_addPart 4 "MappingTexts$Letters" rm_X3_addPart none := X
  unfold f_X3_addPart at h
  show V Γ (0, 0) _ A 4 _ 0 [(0, .ref (ad 1 o)), (1, .ref (ad 1 a1)), (2, .int a2), (3, .int a3)] []
  refine tv_iload_n X dX3_addPart_0 rfl 2 rfl ?_
  refine tv_if_lt X 18 dX3_addPart_1 (by decide) h (fun h => ?_) (fun h => ?_)
  · exact tv_vret X dX3_addPart_18 h
  · refine tv_iload_n X dX3_addPart_4 rfl 3 rfl ?_
    refine tv_if_lt X 18 dX3_addPart_5 (by decide) h (fun h => ?_) (fun h => ?_)
    · exact tv_vret X dX3_addPart_18 h
    · refine tv_iload_n X dX3_addPart_8 rfl 2 rfl ?_
      refine tv_aload_n X dX3_addPart_9 rfl 1 rfl ?_
      refine gX2_1 X (by omega) gw_1_35 dX3_addPart_10 ?_
      refine tv_iload_n X dX3_addPart_13 rfl 3 rfl ?_
      refine tv_isub X dX3_addPart_14 ?_
      refine tv_icmp_le X 19 dX3_addPart_15 (by decide) h (fun h => ?_) (fun h => ?_)
      · refine tv_iload_n X dX3_addPart_19 rfl 3 rfl ?_
        refine tv_aload_n X dX3_addPart_20 rfl 0 rfl ?_
        refine gX2_0 X (by omega) gw_1_34 dX3_addPart_21 ?_
        refine alX2 X (by omega) dX3_addPart_24 ?_
        refine tv_aload_n X dX3_addPart_25 rfl 0 rfl ?_
        refine gX2_1 X (by omega) gw_1_35 dX3_addPart_26 ?_
        refine tv_isub X dX3_addPart_29 ?_
        refine tv_icmp_le X 39 dX3_addPart_30 (by decide) h (fun h => ?_) (fun h => ?_)
        · refine tv_aload_n X dX3_addPart_39 rfl 1 rfl ?_
          refine gX2_0 X (by omega) gw_1_34 dX3_addPart_40 ?_
          refine tv_iload_n X dX3_addPart_43 rfl 2 rfl ?_
          refine tv_aload_n X dX3_addPart_44 rfl 0 rfl ?_
          refine gX2_0 X (by omega) gw_1_34 dX3_addPart_45 ?_
          refine tv_aload_n X dX3_addPart_48 rfl 0 rfl ?_
          refine gX2_1 X (by omega) gw_1_35 dX3_addPart_49 ?_
          refine tv_iload_n X dX3_addPart_52 rfl 3 rfl ?_
          refine cpX X (by omega) (by omega) gw_3_2 (Nat.le_of_ble_eq_true rfl) (Nat.le_of_ble_eq_true rfl) dX3_addPart_53 gw_3_4 gw_3_3 gw_1_15 h (fun h => ?_)
          refine tv_ns h (fun s1 h => ?_)
          refine tv_aload_n X dX3_addPart_56 rfl 0 rfl ?_
          refine tv_dup X dX3_addPart_57 rfl ?_
          refine gX2_1 X (by omega) gw_1_35 dX3_addPart_58 ?_
          refine tv_iload_n X dX3_addPart_61 rfl 3 rfl ?_
          refine tv_iadd X dX3_addPart_62 ?_
          refine pX2_1 X (by omega) gw_1_35 dX3_addPart_63 ?_
          refine tv_ns h (fun s2 h => ?_)
          exact tv_vret X dX3_addPart_66 h
        · refine tv_aload_n X dX3_addPart_33 rfl 0 rfl ?_
          refine tv_iconst X 1 dX3_addPart_34 (by decide) ?_
          refine pX2_2 X (Or.inr rfl) (by omega) gw_1_36 dX3_addPart_35 ?_
          refine tv_ns h (fun s3 h => ?_)
          exact tv_vret X dX3_addPart_38 h
      · exact tv_vret X dX3_addPart_18 h
set_option maxHeartbeats 4000000 in
set_option maxRecDepth 100000 in
theorem c_X3_copyFrom (l : Launch) (Ω : Wd) (ad : Nat → Nat → Nat) (A : Nat → Prop) (σ : St) (o : Nat) (a1 : Nat) (bo : o < 773) (ba1 : a1 < 773) {res : St × Unit} (h : f_X3_copyFrom σ o a1 = some res) : Met l yX3_copyFrom (wsO yX3_copyFrom cX3_copyFrom 2 none) rm_X3_copyFrom (PcZ Ω A (PicX Ω ad A σ) [.ref (ad 1 o), .ref (ad 1 a1)]) (Qcv (PicX Ω ad A) A res) 0 0 A := by
  refine Met.ofV (by decide) rfl (fun Γ hΓ X => ?_)
  have X : Fx Γ Ω A cX3_copyFrom 2 "MappingTexts$Letters" rm_X3_copyFrom none := X
  unfold f_X3_copyFrom at h
  show V Γ (0, 0) _ A 2 _ 0 [(0, .ref (ad 1 o)), (1, .ref (ad 1 a1))] []
  refine tv_aload_n X dX3_copyFrom_0 rfl 0 rfl ?_
  obtain ⟨s1, _u1, hs1, h⟩ := cl_some h
  refine tv_callVv (st := []) X (c_X3_clear Γ.2.1 Ω ad A σ o (by omega) hs1) ⟨gw_2_98, gw_4_72, gw_1_2, q_X3_clear, rfl, rfl, ⟨Nat.le_of_ble_eq_true rfl, Nat.le_of_ble_eq_true rfl⟩⟩ gw_2_96 gw_2_97 (fun H _ hz _ => PP.recv (f := 1) (i := o) X.2.1 hz.1 (show o < 773 by omega) rfl rfl) rfl rfl (Nat.le_of_ble_eq_true rfl) dX3_copyFrom_1 ?_
  refine tv_aload_n X dX3_copyFrom_4 rfl 0 rfl ?_
  refine tv_aload_n X dX3_copyFrom_5 rfl 1 rfl ?_
  refine tv_iconst X 0 dX3_copyFrom_6 (by decide) ?_
  refine tv_aload_n X dX3_copyFrom_7 rfl 1 rfl ?_
  refine gX2_1 X (by omega) gw_1_35 dX3_copyFrom_8 ?_
  obtain ⟨s2, _u11, hs2, h⟩ := cl_some h
  refine tv_callVv (st := []) X (c_X3_addPart Γ.2.1 Ω ad A s1 o a1 0 (gi s1 201 a1) (by omega) (by omega) hs2) ⟨gw_3_1, gw_4_73, gw_1_2, q_X3_addPart, rfl, rfl, ⟨Nat.le_of_ble_eq_true rfl, Nat.le_of_ble_eq_true rfl⟩⟩ gw_2_239 gw_3_0 (fun H _ hz _ => PP.recv (f := 1) (i := o) X.2.1 hz.1 (show o < 773 by omega) rfl rfl) rfl rfl (Nat.le_of_ble_eq_true rfl) dX3_copyFrom_11 ?_
  exact tv_vret X dX3_copyFrom_14 h
set_option maxHeartbeats 4000000 in
set_option maxRecDepth 100000 in
theorem c_X1_copyFrom (l : Launch) (Ω : Wd) (ad : Nat → Nat → Nat) (A : Nat → Prop) (σ : St) (o : Nat) (a1 : Nat) (a2 : Int32) (bo : o < 320) (ba1 : a1 < 320) {res : St × Unit} (h : f_X1_copyFrom σ o a1 a2 = some res) : Met l yX1_copyFrom (wsO yX1_copyFrom cX1_copyFrom 3 none) rm_X1_copyFrom (PcZ Ω A (PicX Ω ad A σ) [.ref (ad 4 o), .ref (ad 4 a1), .int a2]) (Qcv (PicX Ω ad A) A res) 0 0 A := by
  refine Met.ofV (by decide) rfl (fun Γ hΓ X => ?_)
  have X : Fx Γ Ω A cX1_copyFrom 3 "MappingTexts$Field" rm_X1_copyFrom none := X
  unfold f_X1_copyFrom at h
  show V Γ (0, 0) _ A 3 _ 0 [(0, .ref (ad 4 o)), (1, .ref (ad 4 a1)), (2, .int a2)] []
  refine tv_aload_n X dX1_copyFrom_0 rfl 0 rfl ?_
  refine gX1_0 X (by omega) gw_1_109 dX1_copyFrom_1 ?_
  refine tv_aload_n X dX1_copyFrom_4 rfl 1 rfl ?_
  refine gX1_0 X (by omega) gw_1_109 dX1_copyFrom_5 ?_
  obtain ⟨s1, _u8, hs1, h⟩ := cl_some h
  refine tv_callVv (st := []) X (c_X3_copyFrom Γ.2.1 Ω ad A σ (5 + 2 * o) (5 + 2 * a1) (by omega) (by omega) hs1) ⟨gw_4_71, gw_4_68, gw_1_2, q_X3_copyFrom, rfl, rfl, ⟨Nat.le_of_ble_eq_true rfl, Nat.le_of_ble_eq_true rfl⟩⟩ gw_4_69 gw_4_70 (fun H _ hz _ => PP.recv (f := 1) (i := (5 + 2 * o)) X.2.1 hz.1 (show (5 + 2 * o) < 773 by omega) rfl rfl) rfl rfl (Nat.le_of_ble_eq_true rfl) dX1_copyFrom_8 ?_
  refine tv_aload_n X dX1_copyFrom_11 rfl 0 rfl ?_
  refine gX1_1 X (by omega) gw_1_114 dX1_copyFrom_12 ?_
  refine tv_aload_n X dX1_copyFrom_15 rfl 1 rfl ?_
  refine gX1_1 X (by omega) gw_1_114 dX1_copyFrom_16 ?_
  obtain ⟨s2, _u19, hs2, h⟩ := cl_some h
  refine tv_callVv (st := []) X (c_X3_copyFrom Γ.2.1 Ω ad A s1 (6 + 2 * o) (6 + 2 * a1) (by omega) (by omega) hs2) ⟨gw_4_71, gw_4_68, gw_1_2, q_X3_copyFrom, rfl, rfl, ⟨Nat.le_of_ble_eq_true rfl, Nat.le_of_ble_eq_true rfl⟩⟩ gw_4_69 gw_4_70 (fun H _ hz _ => PP.recv (f := 1) (i := (6 + 2 * o)) X.2.1 hz.1 (show (6 + 2 * o) < 773 by omega) rfl rfl) rfl rfl (Nat.le_of_ble_eq_true rfl) dX1_copyFrom_19 ?_
  refine tv_aload_n X dX1_copyFrom_22 rfl 0 rfl ?_
  refine tv_aload_n X dX1_copyFrom_23 rfl 1 rfl ?_
  refine gX1_2 X (by omega) gw_1_119 dX1_copyFrom_24 ?_
  refine pX1_2 X (by omega) gw_1_119 dX1_copyFrom_27 ?_
  refine tv_ns h (fun s3 h => ?_)
  refine tv_aload_n X dX1_copyFrom_30 rfl 0 rfl ?_
  refine tv_aload_n X dX1_copyFrom_31 rfl 1 rfl ?_
  refine gX1_3 X (by omega) gw_1_124 dX1_copyFrom_32 ?_
  refine pX1_3 X (by omega) gw_1_124 dX1_copyFrom_35 ?_
  refine tv_ns h (fun s4 h => ?_)
  refine tv_aload_n X dX1_copyFrom_38 rfl 0 rfl ?_
  refine tv_aload_n X dX1_copyFrom_39 rfl 1 rfl ?_
  refine gX1_4 X (by omega) gw_1_128 dX1_copyFrom_40 ?_
  refine pX1_4 X (by omega) gw_1_128 dX1_copyFrom_43 ?_
  refine tv_ns h (fun s5 h => ?_)
  refine tv_aload_n X dX1_copyFrom_46 rfl 0 rfl ?_
  refine tv_aload_n X dX1_copyFrom_47 rfl 1 rfl ?_
  refine gX1_5 X (by omega) gw_1_133 dX1_copyFrom_48 ?_
  refine tv_iload_n X dX1_copyFrom_51 rfl 2 rfl ?_
  obtain ⟨s6, x7, hs6, h⟩ := cl_some h
  refine tv_callSi (st := [.ref (ad 4 o)]) X (c_X1_moved Γ.2.1 Ω ad A s5 (gi s5 105 a1) a2 hs6) ⟨gw_4_76, gw_4_74, gw_1_7, q_X1_moved, rfl, rfl, ⟨Nat.le_of_ble_eq_true rfl, Nat.le_of_ble_eq_true rfl⟩⟩ gw_4_75 rfl rfl (Nat.le_of_ble_eq_true rfl) dX1_copyFrom_52 ?_
  refine pX1_5 X (by omega) gw_1_133 dX1_copyFrom_55 ?_
  refine tv_ns h (fun s8 h => ?_)
  refine tv_aload_n X dX1_copyFrom_58 rfl 0 rfl ?_
  refine tv_aload_n X dX1_copyFrom_59 rfl 1 rfl ?_
  refine gX1_6 X (by omega) gw_1_138 dX1_copyFrom_60 ?_
  refine tv_iload_n X dX1_copyFrom_63 rfl 2 rfl ?_
  obtain ⟨s9, x10, hs9, h⟩ := cl_some h
  refine tv_callSi (st := [.ref (ad 4 o)]) X (c_X1_moved Γ.2.1 Ω ad A s8 (gi s8 106 a1) a2 hs9) ⟨gw_4_76, gw_4_74, gw_1_7, q_X1_moved, rfl, rfl, ⟨Nat.le_of_ble_eq_true rfl, Nat.le_of_ble_eq_true rfl⟩⟩ gw_4_75 rfl rfl (Nat.le_of_ble_eq_true rfl) dX1_copyFrom_64 ?_
  refine pX1_6 X (by omega) gw_1_138 dX1_copyFrom_67 ?_
  refine tv_ns h (fun s11 h => ?_)
  refine tv_aload_n X dX1_copyFrom_70 rfl 0 rfl ?_
  refine tv_aload_n X dX1_copyFrom_71 rfl 1 rfl ?_
  refine gX1_7 X (by omega) gw_1_143 dX1_copyFrom_72 ?_
  refine tv_iload_n X dX1_copyFrom_75 rfl 2 rfl ?_
  obtain ⟨s12, x13, hs12, h⟩ := cl_some h
  refine tv_callSi (st := [.ref (ad 4 o)]) X (c_X1_moved Γ.2.1 Ω ad A s11 (gi s11 107 a1) a2 hs12) ⟨gw_4_76, gw_4_74, gw_1_7, q_X1_moved, rfl, rfl, ⟨Nat.le_of_ble_eq_true rfl, Nat.le_of_ble_eq_true rfl⟩⟩ gw_4_75 rfl rfl (Nat.le_of_ble_eq_true rfl) dX1_copyFrom_76 ?_
  refine pX1_7 X (by omega) gw_1_143 dX1_copyFrom_79 ?_
  refine tv_ns h (fun s14 h => ?_)
  refine tv_aload_n X dX1_copyFrom_82 rfl 0 rfl ?_
  refine tv_aload_n X dX1_copyFrom_83 rfl 1 rfl ?_
  refine gX1_8 X (by omega) gw_1_147 dX1_copyFrom_84 ?_
  refine pX1_8 X (by omega) gw_1_147 dX1_copyFrom_87 ?_
  refine tv_ns h (fun s15 h => ?_)
  exact tv_vret X dX1_copyFrom_90 h
set_option maxHeartbeats 4000000 in
set_option maxRecDepth 100000 in
theorem c_X2_kindWord (l : Launch) (Ω : Wd) (ad : Nat → Nat → Nat) (A : Nat → Prop) (σ : St) (a1 : Int32) {res : St × Nat} (h : f_X2_kindWord σ a1 = some res) : Met l yX2_kindWord (wsO yX2_kindWord cX2_kindWord 1 (some (.object "java/lang/String"))) rm_X2_kindWord (PcZ Ω A (PicX Ω ad A σ) [.int a1]) (Qcr Ω (PicX Ω ad A) A res) 0 0 A := by
  refine Met.ofV (by decide) rfl (fun Γ hΓ X => ?_)
  have X : Fx Γ Ω A cX2_kindWord 1 "MappingTexts$Kinds" rm_X2_kindWord (some (.object "java/lang/String")) := X
  unfold f_X2_kindWord at h
  show V Γ (0, 0) _ A 1 _ 0 [(0, .int a1)] []
  refine tv_iload_n X dX2_kindWord_0 rfl 0 rfl ?_
  refine tv_nm h (fun x1 h => ?_)
  by_cases c1_0 : x1 = 0
  · rw [if_pos c1_0] at h
    refine tv_tableIn 44 X dX2_kindWord_1 (by rw [c1_0]; decide) (by rw [c1_0]; decide) (by rw [c1_0]; rfl) (by decide) ?_
    refine tv_ldcS X 2 (List.mem_of_getElem? (i := 2) rfl) dX2_kindWord_44 ?_
    exact tv_sret X dX2_kindWord_46 h
  rw [if_neg c1_0] at h
  by_cases c1_1 : x1 = 1
  · rw [if_pos c1_1] at h
    refine tv_tableIn 47 X dX2_kindWord_1 (by rw [c1_1]; decide) (by rw [c1_1]; decide) (by rw [c1_1]; rfl) (by decide) ?_
    refine tv_ldcS X 3 (List.mem_of_getElem? (i := 3) rfl) dX2_kindWord_47 ?_
    exact tv_sret X dX2_kindWord_49 h
  rw [if_neg c1_1] at h
  by_cases c1_2 : x1 = 2
  · rw [if_pos c1_2] at h
    refine tv_tableIn 50 X dX2_kindWord_1 (by rw [c1_2]; decide) (by rw [c1_2]; decide) (by rw [c1_2]; rfl) (by decide) ?_
    refine tv_ldcS X 4 (List.mem_of_getElem? (i := 4) rfl) dX2_kindWord_50 ?_
    exact tv_sret X dX2_kindWord_52 h
  rw [if_neg c1_2] at h
  by_cases c1_3 : x1 = 3
  · rw [if_pos c1_3] at h
    refine tv_tableIn 53 X dX2_kindWord_1 (by rw [c1_3]; decide) (by rw [c1_3]; decide) (by rw [c1_3]; rfl) (by decide) ?_
    refine tv_ldcS X 5 (List.mem_of_getElem? (i := 5) rfl) dX2_kindWord_53 ?_
    exact tv_sret X dX2_kindWord_55 h
  rw [if_neg c1_3] at h
  by_cases c1_4 : x1 = 4
  · rw [if_pos c1_4] at h
    refine tv_tableIn 56 X dX2_kindWord_1 (by rw [c1_4]; decide) (by rw [c1_4]; decide) (by rw [c1_4]; rfl) (by decide) ?_
    refine tv_ldcS X 6 (List.mem_of_getElem? (i := 6) rfl) dX2_kindWord_56 ?_
    exact tv_sret X dX2_kindWord_58 h
  rw [if_neg c1_4] at h
  by_cases c1_5 : x1 = 5
  · rw [if_pos c1_5] at h
    refine tv_tableIn 59 X dX2_kindWord_1 (by rw [c1_5]; decide) (by rw [c1_5]; decide) (by rw [c1_5]; rfl) (by decide) ?_
    refine tv_ldcS X 7 (List.mem_of_getElem? (i := 7) rfl) dX2_kindWord_59 ?_
    exact tv_sret X dX2_kindWord_61 h
  rw [if_neg c1_5] at h
  by_cases c1_6 : x1 = 6
  · rw [if_pos c1_6] at h
    refine tv_tableIn 62 X dX2_kindWord_1 (by rw [c1_6]; decide) (by rw [c1_6]; decide) (by rw [c1_6]; rfl) (by decide) ?_
    refine tv_ldcS X 8 (List.mem_of_getElem? (i := 8) rfl) dX2_kindWord_62 ?_
    exact tv_sret X dX2_kindWord_64 h
  rw [if_neg c1_6] at h
  have zc1_0 := ne_toInt 0 c1_0 (by decide)
  have zc1_1 := ne_toInt 1 c1_1 (by decide)
  have zc1_2 := ne_toInt 2 c1_2 (by decide)
  have zc1_3 := ne_toInt 3 c1_3 (by decide)
  have zc1_4 := ne_toInt 4 c1_4 (by decide)
  have zc1_5 := ne_toInt 5 c1_5 (by decide)
  have zc1_6 := ne_toInt 6 c1_6 (by decide)
  refine tv_tableOut 65 X dX2_kindWord_1 (by omega) (by decide) ?_
  refine tv_ldcS X 9 (List.mem_of_getElem? (i := 9) rfl) dX2_kindWord_65 ?_
  exact tv_sret X dX2_kindWord_67 h
set_option maxHeartbeats 4000000 in
set_option maxRecDepth 100000 in
theorem c_X2_optionWord (l : Launch) (Ω : Wd) (ad : Nat → Nat → Nat) (A : Nat → Prop) (σ : St) (a1 : Int32) {res : St × Nat} (h : f_X2_optionWord σ a1 = some res) : Met l yX2_optionWord (wsO yX2_optionWord cX2_optionWord 1 (some (.object "java/lang/String"))) rm_X2_optionWord (PcZ Ω A (PicX Ω ad A σ) [.int a1]) (Qcr Ω (PicX Ω ad A) A res) 0 0 A := by
  refine Met.ofV (by decide) rfl (fun Γ hΓ X => ?_)
  have X : Fx Γ Ω A cX2_optionWord 1 "MappingTexts$Kinds" rm_X2_optionWord (some (.object "java/lang/String")) := X
  unfold f_X2_optionWord at h
  show V Γ (0, 0) _ A 1 _ 0 [(0, .int a1)] []
  refine tv_iload_n X dX2_optionWord_0 rfl 0 rfl ?_
  refine tv_nm h (fun x1 h => ?_)
  by_cases c1_0 : x1 = 0
  · rw [if_pos c1_0] at h
    refine tv_tableIn 40 X dX2_optionWord_1 (by rw [c1_0]; decide) (by rw [c1_0]; decide) (by rw [c1_0]; rfl) (by decide) ?_
    refine tv_ldcS X 10 (List.mem_of_getElem? (i := 10) rfl) dX2_optionWord_40 ?_
    exact tv_sret X dX2_optionWord_42 h
  rw [if_neg c1_0] at h
  by_cases c1_1 : x1 = 1
  · rw [if_pos c1_1] at h
    refine tv_tableIn 43 X dX2_optionWord_1 (by rw [c1_1]; decide) (by rw [c1_1]; decide) (by rw [c1_1]; rfl) (by decide) ?_
    refine tv_ldcS X 11 (List.mem_of_getElem? (i := 11) rfl) dX2_optionWord_43 ?_
    exact tv_sret X dX2_optionWord_45 h
  rw [if_neg c1_1] at h
  by_cases c1_2 : x1 = 2
  · rw [if_pos c1_2] at h
    refine tv_tableIn 46 X dX2_optionWord_1 (by rw [c1_2]; decide) (by rw [c1_2]; decide) (by rw [c1_2]; rfl) (by decide) ?_
    refine tv_ldcS X 12 (List.mem_of_getElem? (i := 12) rfl) dX2_optionWord_46 ?_
    exact tv_sret X dX2_optionWord_48 h
  rw [if_neg c1_2] at h
  by_cases c1_3 : x1 = 3
  · rw [if_pos c1_3] at h
    refine tv_tableIn 49 X dX2_optionWord_1 (by rw [c1_3]; decide) (by rw [c1_3]; decide) (by rw [c1_3]; rfl) (by decide) ?_
    refine tv_ldcS X 13 (List.mem_of_getElem? (i := 13) rfl) dX2_optionWord_49 ?_
    exact tv_sret X dX2_optionWord_51 h
  rw [if_neg c1_3] at h
  by_cases c1_4 : x1 = 4
  · rw [if_pos c1_4] at h
    refine tv_tableIn 52 X dX2_optionWord_1 (by rw [c1_4]; decide) (by rw [c1_4]; decide) (by rw [c1_4]; rfl) (by decide) ?_
    refine tv_ldcS X 14 (List.mem_of_getElem? (i := 14) rfl) dX2_optionWord_52 ?_
    exact tv_sret X dX2_optionWord_54 h
  rw [if_neg c1_4] at h
  by_cases c1_5 : x1 = 5
  · rw [if_pos c1_5] at h
    refine tv_tableIn 55 X dX2_optionWord_1 (by rw [c1_5]; decide) (by rw [c1_5]; decide) (by rw [c1_5]; rfl) (by decide) ?_
    refine tv_ldcS X 15 (List.mem_of_getElem? (i := 15) rfl) dX2_optionWord_55 ?_
    exact tv_sret X dX2_optionWord_57 h
  rw [if_neg c1_5] at h
  have zc1_0 := ne_toInt 0 c1_0 (by decide)
  have zc1_1 := ne_toInt 1 c1_1 (by decide)
  have zc1_2 := ne_toInt 2 c1_2 (by decide)
  have zc1_3 := ne_toInt 3 c1_3 (by decide)
  have zc1_4 := ne_toInt 4 c1_4 (by decide)
  have zc1_5 := ne_toInt 5 c1_5 (by decide)
  refine tv_tableOut 58 X dX2_optionWord_1 (by omega) (by decide) ?_
  refine tv_ldcS X 16 (List.mem_of_getElem? (i := 16) rfl) dX2_optionWord_58 ?_
  exact tv_sret X dX2_optionWord_60 h
set_option maxHeartbeats 4000000 in
set_option maxRecDepth 100000 in
theorem c_X2_isLeaf (l : Launch) (Ω : Wd) (ad : Nat → Nat → Nat) (A : Nat → Prop) (σ : St) (a1 : Int32) {res : St × Int32} (h : f_X2_isLeaf σ a1 = some res) : Met l yX2_isLeaf (wsO yX2_isLeaf cX2_isLeaf 1 (some .boolean)) rm_X2_isLeaf (PcZ Ω A (PicX Ω ad A σ) [.int a1]) (Qci (PicX Ω ad A) A res) 0 0 A := by
  refine Met.ofV (by decide) rfl (fun Γ hΓ X => ?_)
  have X : Fx Γ Ω A cX2_isLeaf 1 "MappingTexts$Kinds" rm_X2_isLeaf (some .boolean) := X
  unfold f_X2_isLeaf at h
  show V Γ (0, 0) _ A 1 _ 0 [(0, .int a1)] []
  refine tv_iload_n X dX2_isLeaf_0 rfl 0 rfl ?_
  refine tv_if_lt X 13 dX2_isLeaf_1 (by decide) h (fun h => ?_) (fun h => ?_)
  · refine tv_iconst X 0 dX2_isLeaf_13 (by decide) ?_
    exact tv_zret X dX2_isLeaf_14 (Or.inl rfl) h
  · refine tv_iload_n X dX2_isLeaf_4 rfl 0 rfl ?_
    refine tv_iconst X 4 dX2_isLeaf_5 (by decide) ?_
    refine tv_icmp_gt X 13 dX2_isLeaf_6 (by decide) h (fun h => ?_) (fun h => ?_)
    · refine tv_iconst X 0 dX2_isLeaf_13 (by decide) ?_
      exact tv_zret X dX2_isLeaf_14 (Or.inl rfl) h
    · refine tv_iconst X 1 dX2_isLeaf_9 (by decide) ?_
      refine tv_goto X 14 dX2_isLeaf_10 (by decide) ?_
      exact tv_zret X dX2_isLeaf_14 (Or.inr rfl) h
set_option maxHeartbeats 4000000 in
set_option maxRecDepth 100000 in
theorem l_X2_isHolder_11 {Γ : Cx} {Ω : Wd} {ad : Nat → Nat → Nat} {A : Nat → Prop} {res : St × Int32} (X : Fx Γ Ω A cX2_isHolder 1 "MappingTexts$Kinds" rm_X2_isHolder (some .boolean)) (σ : St) (h : f_X2_isHolder_11 σ = some res) : V Γ (0, 0) (Qe Γ (0, 0) A (Qci (PicX Ω ad A) A res)) A 1 (PicX Ω ad A σ) 11 [] [] := by
  unfold f_X2_isHolder_11 at h
  refine tv_iconst X 1 dX2_isHolder_11 (by decide) ?_
  refine tv_goto X 16 dX2_isHolder_12 (by decide) ?_
  exact tv_zret X dX2_isHolder_16 (Or.inr rfl) h
set_option maxHeartbeats 4000000 in
set_option maxRecDepth 100000 in
theorem c_X2_isHolder (l : Launch) (Ω : Wd) (ad : Nat → Nat → Nat) (A : Nat → Prop) (σ : St) (a1 : Int32) {res : St × Int32} (h : f_X2_isHolder σ a1 = some res) : Met l yX2_isHolder (wsO yX2_isHolder cX2_isHolder 1 (some .boolean)) rm_X2_isHolder (PcZ Ω A (PicX Ω ad A σ) [.int a1]) (Qci (PicX Ω ad A) A res) 0 0 A := by
  refine Met.ofV (by decide) rfl (fun Γ hΓ X => ?_)
  have X : Fx Γ Ω A cX2_isHolder 1 "MappingTexts$Kinds" rm_X2_isHolder (some .boolean) := X
  unfold f_X2_isHolder at h
  show V Γ (0, 0) _ A 1 _ 0 [(0, .int a1)] []
  refine tv_iload_n X dX2_isHolder_0 rfl 0 rfl ?_
  refine tv_iconst X 5 dX2_isHolder_1 (by decide) ?_
  refine tv_icmp_eq X 11 dX2_isHolder_2 (by decide) h (fun h => ?_) (fun h => ?_)
  · refine V.pick [] rfl ?_
    exact l_X2_isHolder_11 X σ h
  · refine tv_iload_n X dX2_isHolder_5 rfl 0 rfl ?_
    refine tv_bipush X 6 dX2_isHolder_6 (by decide) ?_
    refine tv_icmp_ne X 15 dX2_isHolder_8 (by decide) h (fun h => ?_) (fun h => ?_)
    · refine tv_iconst X 0 dX2_isHolder_15 (by decide) ?_
      exact tv_zret X dX2_isHolder_16 (Or.inl rfl) h
    · refine V.pick [] rfl ?_
      exact l_X2_isHolder_11 X σ h
set_option maxHeartbeats 4000000 in
set_option maxRecDepth 100000 in
theorem l_X2_mayHave_75 {Γ : Cx} {Ω : Wd} {ad : Nat → Nat → Nat} {A : Nat → Prop} {res : St × Int32} (X : Fx Γ Ω A cX2_mayHave 2 "MappingTexts$Kinds" rm_X2_mayHave (some .boolean)) (σ : St) (v0 : Int32) (h : f_X2_mayHave_75 σ v0 = some res) : V Γ (0, 0) (Qe Γ (0, 0) A (Qci (PicX Ω ad A) A res)) A 2 (PicX Ω ad A σ) 75 [(0, .int v0)] [] := by
  unfold f_X2_mayHave_75 at h
  refine tv_iload_n X dX2_mayHave_75 rfl 0 rfl ?_
  obtain ⟨s2, x3, hs2, h⟩ := cl_some h
  refine tv_callSi (st := []) X (c_X2_isLeaf Γ.2.1 Ω ad A σ v0 hs2) ⟨gw_3_110, gw_3_108, gw_1_16, q_X2_isLeaf, rfl, rfl, ⟨Nat.le_of_ble_eq_true rfl, Nat.le_of_ble_eq_true rfl⟩⟩ gw_3_109 rfl rfl (Nat.le_of_ble_eq_true rfl) dX2_mayHave_76 ?_
  obtain ⟨hq, h⟩ := cq_some h
  exact tv_zret X dX2_mayHave_79 (of_decide_eq_true hq) h
set_option maxHeartbeats 4000000 in
set_option maxRecDepth 100000 in
theorem l_X2_mayHave_36 {Γ : Cx} {Ω : Wd} {ad : Nat → Nat → Nat} {A : Nat → Prop} {res : St × Int32} (X : Fx Γ Ω A cX2_mayHave 2 "MappingTexts$Kinds" rm_X2_mayHave (some .boolean)) (σ : St) (v0 : Int32) (h : f_X2_mayHave_36 σ v0 = some res) : V Γ (0, 0) (Qe Γ (0, 0) A (Qci (PicX Ω ad A) A res)) A 2 (PicX Ω ad A σ) 36 [(0, .int v0)] [] := by
  unfold f_X2_mayHave_36 at h
  refine tv_iload_n X dX2_mayHave_36 rfl 0 rfl ?_
  refine tv_iconst X 1 dX2_mayHave_37 (by decide) ?_
  refine tv_icmp_ne X 45 dX2_mayHave_38 (by decide) h (fun h => ?_) (fun h => ?_)
  · refine tv_iconst X 0 dX2_mayHave_45 (by decide) ?_
    exact tv_zret X dX2_mayHave_46 (Or.inl rfl) h
  · refine tv_iconst X 1 dX2_mayHave_41 (by decide) ?_
    refine tv_goto X 46 dX2_mayHave_42 (by decide) ?_
    exact tv_zret X dX2_mayHave_46 (Or.inr rfl) h
set_option maxHeartbeats 4000000 in
set_option maxRecDepth 100000 in
theorem c_X2_mayHave (l : Launch) (Ω : Wd) (ad : Nat → Nat → Nat) (A : Nat → Prop) (σ : St) (a1 : Int32) (a2 : Int32) {res : St × Int32} (h : f_X2_mayHave σ a1 a2 = some res) : Met l yX2_mayHave (wsO yX2_mayHave cX2_mayHave 2 (some .boolean)) rm_X2_mayHave (PcZ Ω A (PicX Ω ad A σ) [.int a1, .int a2]) (Qci (PicX Ω ad A) A res) 0 0 A := by
  refine Met.ofV (by decide) rfl (fun Γ hΓ X => ?_)
  have X : Fx Γ Ω A cX2_mayHave 2 "MappingTexts$Kinds" rm_X2_mayHave (some .boolean) := X
  unfold f_X2_mayHave at h
  show V Γ (0, 0) _ A 2 _ 0 [(0, .int a1), (1, .int a2)] []
  refine tv_iload_n X dX2_mayHave_0 rfl 1 rfl ?_
  refine tv_nm h (fun x1 h => ?_)
  by_cases c1_2 : x1 = 2
  · rw [if_pos c1_2] at h
    refine tv_tableIn 36 X dX2_mayHave_1 (by rw [c1_2]; decide) (by rw [c1_2]; decide) (by rw [c1_2]; rfl) (by decide) ?_
    refine V.pick [0] rfl ?_
    exact l_X2_mayHave_36 X σ a1 h
  rw [if_neg c1_2] at h
  by_cases c1_3 : x1 = 3
  · rw [if_pos c1_3] at h
    refine tv_tableIn 47 X dX2_mayHave_1 (by rw [c1_3]; decide) (by rw [c1_3]; decide) (by rw [c1_3]; rfl) (by decide) ?_
    refine tv_iload_n X dX2_mayHave_47 rfl 0 rfl ?_
    refine tv_iconst X 2 dX2_mayHave_48 (by decide) ?_
    refine tv_icmp_lt X 61 dX2_mayHave_49 (by decide) h (fun h => ?_) (fun h => ?_)
    · refine tv_iconst X 0 dX2_mayHave_61 (by decide) ?_
      exact tv_zret X dX2_mayHave_62 (Or.inl rfl) h
    · refine tv_iload_n X dX2_mayHave_52 rfl 0 rfl ?_
      refine tv_iconst X 4 dX2_mayHave_53 (by decide) ?_
      refine tv_icmp_gt X 61 dX2_mayHave_54 (by decide) h (fun h => ?_) (fun h => ?_)
      · refine tv_iconst X 0 dX2_mayHave_61 (by decide) ?_
        exact tv_zret X dX2_mayHave_62 (Or.inl rfl) h
      · refine tv_iconst X 1 dX2_mayHave_57 (by decide) ?_
        refine tv_goto X 62 dX2_mayHave_58 (by decide) ?_
        exact tv_zret X dX2_mayHave_62 (Or.inr rfl) h
  rw [if_neg c1_3] at h
  by_cases c1_4 : x1 = 4
  · rw [if_pos c1_4] at h
    refine tv_tableIn 75 X dX2_mayHave_1 (by rw [c1_4]; decide) (by rw [c1_4]; decide) (by rw [c1_4]; rfl) (by decide) ?_
    refine V.pick [0] rfl ?_
    exact l_X2_mayHave_75 X σ a1 h
  rw [if_neg c1_4] at h
  by_cases c1_5 : x1 = 5
  · rw [if_pos c1_5] at h
    refine tv_tableIn 36 X dX2_mayHave_1 (by rw [c1_5]; decide) (by rw [c1_5]; decide) (by rw [c1_5]; rfl) (by decide) ?_
    refine V.pick [0] rfl ?_
    exact l_X2_mayHave_36 X σ a1 h
  rw [if_neg c1_5] at h
  by_cases c1_6 : x1 = 6
  · rw [if_pos c1_6] at h
    refine tv_tableIn 63 X dX2_mayHave_1 (by rw [c1_6]; decide) (by rw [c1_6]; decide) (by rw [c1_6]; rfl) (by decide) ?_
    refine tv_iload_n X dX2_mayHave_63 rfl 0 rfl ?_
    refine tv_bipush X 7 dX2_mayHave_64 (by decide) ?_
    refine tv_icmp_ne X 73 dX2_mayHave_66 (by decide) h (fun h => ?_) (fun h => ?_)
    · refine tv_iconst X 0 dX2_mayHave_73 (by decide) ?_
      exact tv_zret X dX2_mayHave_74 (Or.inl rfl) h
    · refine tv_iconst X 1 dX2_mayHave_69 (by decide) ?_
      refine tv_goto X 74 dX2_mayHave_70 (by decide) ?_
      exact tv_zret X dX2_mayHave_74 (Or.inr rfl) h
  rw [if_neg c1_6] at h
  have zc1_2 := ne_toInt 2 c1_2 (by decide)
  have zc1_3 := ne_toInt 3 c1_3 (by decide)
  have zc1_4 := ne_toInt 4 c1_4 (by decide)
  have zc1_5 := ne_toInt 5 c1_5 (by decide)
  have zc1_6 := ne_toInt 6 c1_6 (by decide)
  refine tv_tableOut 75 X dX2_mayHave_1 (by omega) (by decide) ?_
  refine V.pick [0] rfl ?_
  exact l_X2_mayHave_75 X σ a1 h
set_option maxHeartbeats 4000000 in
set_option maxRecDepth 100000 in
theorem l_X2_mayBeMeant_14 {Γ : Cx} {Ω : Wd} {ad : Nat → Nat → Nat} {A : Nat → Prop} {res : St × Int32} (X : Fx Γ Ω A cX2_mayBeMeant 2 "MappingTexts$Kinds" rm_X2_mayBeMeant (some .boolean)) (σ : St) (h : f_X2_mayBeMeant_14 σ = some res) : V Γ (0, 0) (Qe Γ (0, 0) A (Qci (PicX Ω ad A) A res)) A 2 (PicX Ω ad A σ) 14 [] [] := by
  unfold f_X2_mayBeMeant_14 at h
  refine tv_iconst X 1 dX2_mayBeMeant_14 (by decide) ?_
  refine tv_goto X 26 dX2_mayBeMeant_15 (by decide) ?_
  exact tv_zret X dX2_mayBeMeant_26 (Or.inr rfl) h
set_option maxHeartbeats 4000000 in
set_option maxRecDepth 100000 in
theorem c_X2_mayBeMeant (l : Launch) (Ω : Wd) (ad : Nat → Nat → Nat) (A : Nat → Prop) (σ : St) (a1 : Int32) (a2 : Int32) {res : St × Int32} (h : f_X2_mayBeMeant σ a1 a2 = some res) : Met l yX2_mayBeMeant (wsO yX2_mayBeMeant cX2_mayBeMeant 2 (some .boolean)) rm_X2_mayBeMeant (PcZ Ω A (PicX Ω ad A σ) [.int a1, .int a2]) (Qci (PicX Ω ad A) A res) 0 0 A := by
  refine Met.ofV (by decide) rfl (fun Γ hΓ X => ?_)
  have X : Fx Γ Ω A cX2_mayBeMeant 2 "MappingTexts$Kinds" rm_X2_mayBeMeant (some .boolean) := X
  unfold f_X2_mayBeMeant at h
  show V Γ (0, 0) _ A 2 _ 0 [(0, .int a1), (1, .int a2)] []
  refine tv_iload_n X dX2_mayBeMeant_0 rfl 1 rfl ?_
  refine tv_iconst X 4 dX2_mayBeMeant_1 (by decide) ?_
  refine tv_icmp_ne X 22 dX2_mayBeMeant_2 (by decide) h (fun h => ?_) (fun h => ?_)
  · refine tv_iload_n X dX2_mayBeMeant_22 rfl 0 rfl ?_
    obtain ⟨s1, x2, hs1, h⟩ := cl_some h
    refine tv_callSi (st := []) X (c_X2_isLeaf Γ.2.1 Ω ad A σ a1 hs1) ⟨gw_3_110, gw_3_108, gw_1_16, q_X2_isLeaf, rfl, rfl, ⟨Nat.le_of_ble_eq_true rfl, Nat.le_of_ble_eq_true rfl⟩⟩ gw_3_109 rfl rfl (Nat.le_of_ble_eq_true rfl) dX2_mayBeMeant_23 ?_
    obtain ⟨hq, h⟩ := cq_some h
    exact tv_zret X dX2_mayBeMeant_26 (of_decide_eq_true hq) h
  · refine tv_iload_n X dX2_mayBeMeant_5 rfl 0 rfl ?_
    refine tv_if_eq X 14 dX2_mayBeMeant_6 (by decide) h (fun h => ?_) (fun h => ?_)
    · refine V.pick [] rfl ?_
      exact l_X2_mayBeMeant_14 X σ h
    · refine tv_iload_n X dX2_mayBeMeant_9 rfl 0 rfl ?_
      refine tv_iconst X 1 dX2_mayBeMeant_10 (by decide) ?_
      refine tv_icmp_ne X 18 dX2_mayBeMeant_11 (by decide) h (fun h => ?_) (fun h => ?_)
      · refine tv_iconst X 0 dX2_mayBeMeant_18 (by decide) ?_
        refine tv_goto X 26 dX2_mayBeMeant_19 (by decide) ?_
        exact tv_zret X dX2_mayBeMeant_26 (Or.inl rfl) h
      · refine V.pick [] rfl ?_
        exact l_X2_mayBeMeant_14 X σ h
set_option maxHeartbeats 4000000 in
set_option maxRecDepth 100000 in
theorem l_X2_fits_91 {Γ : Cx} {Ω : Wd} {ad : Nat → Nat → Nat} {A : Nat → Prop} {res : St × Int32} (X : Fx Γ Ω A cX2_fits 2 "MappingTexts$Kinds" rm_X2_fits (some .boolean)) (σ : St) (v1 : Int32) (h : f_X2_fits_91 σ v1 = some res) : V Γ (0, 0) (Qe Γ (0, 0) A (Qci (PicX Ω ad A) A res)) A 2 (PicX Ω ad A σ) 91 [(1, .int v1)] [] := by
  unfold f_X2_fits_91 at h
  refine tv_iload_n X dX2_fits_91 rfl 0 rfl ?_
  refine tv_iconst X 3 dX2_fits_92 (by decide) ?_
  refine tv_icmp_ne X 100 dX2_fits_93 (by decide) h (fun h => ?_) (fun h => ?_)
  · refine tv_iconst X 0 dX2_fits_100 (by decide) ?_
    exact tv_zret X dX2_fits_101 (Or.inl rfl) h
  · refine tv_iconst X 1 dX2_fits_96 (by decide) ?_
    refine tv_goto X 101 dX2_fits_97 (by decide) ?_
    exact tv_zret X dX2_fits_101 (Or.inr rfl) h
set_option maxHeartbeats 4000000 in
set_option maxRecDepth 100000 in
theorem l_X2_fits_69 {Γ : Cx} {Ω : Wd} {ad : Nat → Nat → Nat} {A : Nat → Prop} {res : St × Int32} (X : Fx Γ Ω A cX2_fits 2 "MappingTexts$Kinds" rm_X2_fits (some .boolean)) (σ : St) (v1 : Int32) (h : f_X2_fits_69 σ v1 = some res) : V Γ (0, 0) (Qe Γ (0, 0) A (Qci (PicX Ω ad A) A res)) A 2 (PicX Ω ad A σ) 69 [(1, .int v1)] [] := by
  unfold f_X2_fits_69 at h
  refine tv_iload_n X dX2_fits_69 rfl 0 rfl ?_
  refine tv_iconst X 1 dX2_fits_70 (by decide) ?_
  refine tv_icmp_ne X 78 dX2_fits_71 (by decide) h (fun h => ?_) (fun h => ?_)
  · refine tv_iconst X 0 dX2_fits_78 (by decide) ?_
    exact tv_zret X dX2_fits_79 (Or.inl rfl) h
  · refine tv_iconst X 1 dX2_fits_74 (by decide) ?_
    refine tv_goto X 79 dX2_fits_75 (by decide) ?_
    exact tv_zret X dX2_fits_79 (Or.inr rfl) h
set_option maxHeartbeats 4000000 in
set_option maxRecDepth 100000 in
theorem c_X2_fits (l : Launch) (Ω : Wd) (ad : Nat → Nat → Nat) (A : Nat → Prop) (σ : St) (a1 : Int32) (a2 : Int32) {res : St × Int32} (h : f_X2_fits σ a1 a2 = some res) : Met l yX2_fits (wsO yX2_fits cX2_fits 2 (some .boolean)) rm_X2_fits (PcZ Ω A (PicX Ω ad A σ) [.int a1, .int a2]) (Qci (PicX Ω ad A) A res) 0 0 A := by
  refine Met.ofV (by decide) rfl (fun Γ hΓ X => ?_)
  have X : Fx Γ Ω A cX2_fits 2 "MappingTexts$Kinds" rm_X2_fits (some .boolean) := X
  unfold f_X2_fits at h
  show V Γ (0, 0) _ A 2 _ 0 [(0, .int a1), (1, .int a2)] []
  refine tv_iload_n X dX2_fits_0 rfl 0 rfl ?_
  refine tv_nm h (fun x1 h => ?_)
  by_cases c1_0 : x1 = 0
  · rw [if_pos c1_0] at h
    refine tv_tableIn 44 X dX2_fits_1 (by rw [c1_0]; decide) (by rw [c1_0]; decide) (by rw [c1_0]; rfl) (by decide) ?_
    refine tv_iload_n X dX2_fits_44 rfl 1 rfl ?_
    refine tv_if_lt X 57 dX2_fits_45 (by decide) h (fun h => ?_) (fun h => ?_)
    · refine tv_iconst X 0 dX2_fits_57 (by decide) ?_
      exact tv_zret X dX2_fits_58 (Or.inl rfl) h
    · refine tv_iload_n X dX2_fits_48 rfl 1 rfl ?_
      refine tv_iconst X 2 dX2_fits_49 (by decide) ?_
      refine tv_icmp_gt X 57 dX2_fits_50 (by decide) h (fun h => ?_) (fun h => ?_)
      · refine tv_iconst X 0 dX2_fits_57 (by decide) ?_
        exact tv_zret X dX2_fits_58 (Or.inl rfl) h
      · refine tv_iconst X 1 dX2_fits_53 (by decide) ?_
        refine tv_goto X 58 dX2_fits_54 (by decide) ?_
        exact tv_zret X dX2_fits_58 (Or.inr rfl) h
  rw [if_neg c1_0] at h
  by_cases c1_1 : x1 = 1
  · rw [if_pos c1_1] at h
    refine tv_tableIn 59 X dX2_fits_1 (by rw [c1_1]; decide) (by rw [c1_1]; decide) (by rw [c1_1]; rfl) (by decide) ?_
    refine tv_iload_n X dX2_fits_59 rfl 1 rfl ?_
    refine tv_if_ne X 67 dX2_fits_60 (by decide) h (fun h => ?_) (fun h => ?_)
    · refine tv_iconst X 0 dX2_fits_67 (by decide) ?_
      exact tv_zret X dX2_fits_68 (Or.inl rfl) h
    · refine tv_iconst X 1 dX2_fits_63 (by decide) ?_
      refine tv_goto X 68 dX2_fits_64 (by decide) ?_
      exact tv_zret X dX2_fits_68 (Or.inr rfl) h
  rw [if_neg c1_1] at h
  by_cases c1_2 : x1 = 2
  · rw [if_pos c1_2] at h
    refine tv_tableIn 69 X dX2_fits_1 (by rw [c1_2]; decide) (by rw [c1_2]; decide) (by rw [c1_2]; rfl) (by decide) ?_
    refine V.pick [1] rfl ?_
    exact l_X2_fits_69 X σ a2 h
  rw [if_neg c1_2] at h
  by_cases c1_3 : x1 = 3
  · rw [if_pos c1_3] at h
    refine tv_tableIn 69 X dX2_fits_1 (by rw [c1_3]; decide) (by rw [c1_3]; decide) (by rw [c1_3]; rfl) (by decide) ?_
    refine V.pick [1] rfl ?_
    exact l_X2_fits_69 X σ a2 h
  rw [if_neg c1_3] at h
  by_cases c1_4 : x1 = 4
  · rw [if_pos c1_4] at h
    refine tv_tableIn 80 X dX2_fits_1 (by rw [c1_4]; decide) (by rw [c1_4]; decide) (by rw [c1_4]; rfl) (by decide) ?_
    refine tv_iload_n X dX2_fits_80 rfl 1 rfl ?_
    refine tv_iconst X 2 dX2_fits_81 (by decide) ?_
    refine tv_icmp_ne X 89 dX2_fits_82 (by decide) h (fun h => ?_) (fun h => ?_)
    · refine tv_iconst X 0 dX2_fits_89 (by decide) ?_
      exact tv_zret X dX2_fits_90 (Or.inl rfl) h
    · refine tv_iconst X 1 dX2_fits_85 (by decide) ?_
      refine tv_goto X 90 dX2_fits_86 (by decide) ?_
      exact tv_zret X dX2_fits_90 (Or.inr rfl) h
  rw [if_neg c1_4] at h
  by_cases c1_5 : x1 = 5
  · rw [if_pos c1_5] at h
    refine tv_tableIn 91 X dX2_fits_1 (by rw [c1_5]; decide) (by rw [c1_5]; decide) (by rw [c1_5]; rfl) (by decide) ?_
    refine V.pick [1] rfl ?_
    exact l_X2_fits_91 X σ a2 h
  rw [if_neg c1_5] at h
  by_cases c1_6 : x1 = 6
  · rw [if_pos c1_6] at h
    refine tv_tableIn 91 X dX2_fits_1 (by rw [c1_6]; decide) (by rw [c1_6]; decide) (by rw [c1_6]; rfl) (by decide) ?_
    refine V.pick [1] rfl ?_
    exact l_X2_fits_91 X σ a2 h
  rw [if_neg c1_6] at h
  have zc1_0 := ne_toInt 0 c1_0 (by decide)
  have zc1_1 := ne_toInt 1 c1_1 (by decide)
  have zc1_2 := ne_toInt 2 c1_2 (by decide)
  have zc1_3 := ne_toInt 3 c1_3 (by decide)
  have zc1_4 := ne_toInt 4 c1_4 (by decide)
  have zc1_5 := ne_toInt 5 c1_5 (by decide)
  have zc1_6 := ne_toInt 6 c1_6 (by decide)
  refine tv_tableOut 102 X dX2_fits_1 (by omega) (by decide) ?_
  refine tv_iconst X 0 dX2_fits_102 (by decide) ?_
  exact tv_zret X dX2_fits_103 (Or.inl rfl) h
set_option maxHeartbeats 4000000 in
set_option maxRecDepth 100000 in
theorem c_X3_length (l : Launch) (Ω : Wd) (ad : Nat → Nat → Nat) (A : Nat → Prop) (σ : St) (o : Nat) (bo : o < 773) {res : St × Int32} (h : f_X3_length σ o = some res) : Met l yX3_length (wsO yX3_length cX3_length 1 (some .int)) rm_X3_length (PcZ Ω A (PicX Ω ad A σ) [.ref (ad 1 o)]) (Qci (PicX Ω ad A) A res) 0 0 A := by
  refine Met.ofV (by decide) rfl (fun Γ hΓ X => ?_)
  have X : Fx Γ Ω A cX3_length 1 "MappingTexts$Letters" rm_X3_length (some .int) := X
  unfold f_X3_length at h
  show V Γ (0, 0) _ A 1 _ 0 [(0, .ref (ad 1 o))] []
  refine tv_aload_n X dX3_length_0 rfl 0 rfl ?_
  refine gX2_1 X (by omega) gw_1_35 dX3_length_1 ?_
  exact tv_iret X dX3_length_4 h
set_option maxHeartbeats 4000000 in
set_option maxRecDepth 100000 in
theorem c_X3_isOver (l : Launch) (Ω : Wd) (ad : Nat → Nat → Nat) (A : Nat → Prop) (σ : St) (o : Nat) (bo : o < 773) {res : St × Int32} (h : f_X3_isOver σ o = some res) : Met l yX3_isOver (wsO yX3_isOver cX3_isOver 1 (some .boolean)) rm_X3_isOver (PcZ Ω A (PicX Ω ad A σ) [.ref (ad 1 o)]) (Qci (PicX Ω ad A) A res) 0 0 A := by
  refine Met.ofV (by decide) rfl (fun Γ hΓ X => ?_)
  have X : Fx Γ Ω A cX3_isOver 1 "MappingTexts$Letters" rm_X3_isOver (some .boolean) := X
  unfold f_X3_isOver at h
  show V Γ (0, 0) _ A 1 _ 0 [(0, .ref (ad 1 o))] []
  refine tv_aload_n X dX3_isOver_0 rfl 0 rfl ?_
  refine gX2_2 X (by omega) gw_1_36 dX3_isOver_1 ?_
  obtain ⟨hq, h⟩ := cq_some h
  exact tv_zret X dX3_isOver_4 (of_decide_eq_true hq) h
set_option maxHeartbeats 4000000 in
set_option maxRecDepth 100000 in
theorem c_X3_hasRoomFor (l : Launch) (Ω : Wd) (ad : Nat → Nat → Nat) (A : Nat → Prop) (σ : St) (o : Nat) (a1 : Int32) (bo : o < 773) {res : St × Int32} (h : f_X3_hasRoomFor σ o a1 = some res) : Met l yX3_hasRoomFor (wsO yX3_hasRoomFor cX3_hasRoomFor 2 (some .boolean)) rm_X3_hasRoomFor (PcZ Ω A (PicX Ω ad A σ) [.ref (ad 1 o), .int a1]) (Qci (PicX Ω ad A) A res) 0 0 A := by
  refine Met.ofV (by decide) rfl (fun Γ hΓ X => ?_)
  have X : Fx Γ Ω A cX3_hasRoomFor 2 "MappingTexts$Letters" rm_X3_hasRoomFor (some .boolean) := X
  unfold f_X3_hasRoomFor at h
  show V Γ (0, 0) _ A 2 _ 0 [(0, .ref (ad 1 o)), (1, .int a1)] []
  refine tv_iload_n X dX3_hasRoomFor_0 rfl 1 rfl ?_
  refine tv_aload_n X dX3_hasRoomFor_1 rfl 0 rfl ?_
  refine gX2_0 X (by omega) gw_1_34 dX3_hasRoomFor_2 ?_
  refine alX2 X (by omega) dX3_hasRoomFor_5 ?_
  refine tv_aload_n X dX3_hasRoomFor_6 rfl 0 rfl ?_
  refine gX2_1 X (by omega) gw_1_35 dX3_hasRoomFor_7 ?_
  refine tv_isub X dX3_hasRoomFor_10 ?_
  refine tv_icmp_gt X 18 dX3_hasRoomFor_11 (by decide) h (fun h => ?_) (fun h => ?_)
  · refine tv_iconst X 0 dX3_hasRoomFor_18 (by decide) ?_
    exact tv_zret X dX3_hasRoomFor_19 (Or.inl rfl) h
  · refine tv_iconst X 1 dX3_hasRoomFor_14 (by decide) ?_
    refine tv_goto X 19 dX3_hasRoomFor_15 (by decide) ?_
    exact tv_zret X dX3_hasRoomFor_19 (Or.inr rfl) h
set_option maxHeartbeats 4000000 in
set_option maxRecDepth 100000 in
theorem c_X3_at (l : Launch) (Ω : Wd) (ad : Nat → Nat → Nat) (A : Nat → Prop) (σ : St) (o : Nat) (a1 : Int32) (bo : o < 773) {res : St × Int32} (h : f_X3_at σ o a1 = some res) : Met l yX3_at (wsO yX3_at cX3_at 2 (some .int)) rm_X3_at (PcZ Ω A (PicX Ω ad A σ) [.ref (ad 1 o), .int a1]) (Qci (PicX Ω ad A) A res) 0 0 A := by
  refine Met.ofV (by decide) rfl (fun Γ hΓ X => ?_)
  have X : Fx Γ Ω A cX3_at 2 "MappingTexts$Letters" rm_X3_at (some .int) := X
  unfold f_X3_at at h
  show V Γ (0, 0) _ A 2 _ 0 [(0, .ref (ad 1 o)), (1, .int a1)] []
  refine tv_iload_n X dX3_at_0 rfl 1 rfl ?_
  refine tv_if_lt X 25 dX3_at_1 (by decide) h (fun h => ?_) (fun h => ?_)
  · refine tv_iconst X (-1) dX3_at_25 (by decide) ?_
    exact tv_iret X dX3_at_26 h
  · refine tv_iload_n X dX3_at_4 rfl 1 rfl ?_
    refine tv_aload_n X dX3_at_5 rfl 0 rfl ?_
    refine gX2_1 X (by omega) gw_1_35 dX3_at_6 ?_
    refine tv_icmp_ge X 25 dX3_at_9 (by decide) h (fun h => ?_) (fun h => ?_)
    · refine tv_iconst X (-1) dX3_at_25 (by decide) ?_
      exact tv_iret X dX3_at_26 h
    · refine tv_aload_n X dX3_at_12 rfl 0 rfl ?_
      refine gX2_0 X (by omega) gw_1_34 dX3_at_13 ?_
      refine tv_iload_n X dX3_at_16 rfl 1 rfl ?_
      refine baX X (by omega) dX3_at_17 h (fun j1 hj1 h => ?_)
      refine tv_sipush X 255 dX3_at_18 (by decide) ?_
      refine tv_iand X dX3_at_21 ?_
      refine tv_goto X 26 dX3_at_22 (by decide) ?_
      exact tv_iret X dX3_at_26 h
set_option maxHeartbeats 4000000 in
set_option maxRecDepth 100000 in
theorem c_X3_add (l : Launch) (Ω : Wd) (ad : Nat → Nat → Nat) (A : Nat → Prop) (σ : St) (o : Nat) (a1 : Int32) (bo : o < 773) {res : St × Unit} (h : f_X3_add σ o a1 = some res) : Met l yX3_add (wsO yX3_add cX3_add 2 none) rm_X3_add (PcZ Ω A (PicX Ω ad A σ) [.ref (ad 1 o), .int a1]) (Qcv (PicX Ω ad A) A res) 0 0 A := by
  refine Met.ofV (by decide) rfl (fun Γ hΓ X => ?_)
  have X : Fx Γ Ω A cX3_add 2 "MappingTexts$Letters" rm_X3_add none := X
  unfold f_X3_add at h
  show V Γ (0, 0) _ A 2 _ 0 [(0, .ref (ad 1 o)), (1, .int a1)] []
  refine tv_aload_n X dX3_add_0 rfl 0 rfl ?_
  refine gX2_1 X (by omega) gw_1_35 dX3_add_1 ?_
  refine tv_aload_n X dX3_add_4 rfl 0 rfl ?_
  refine gX2_0 X (by omega) gw_1_34 dX3_add_5 ?_
  refine alX2 X (by omega) dX3_add_8 ?_
  refine tv_icmp_lt X 18 dX3_add_9 (by decide) h (fun h => ?_) (fun h => ?_)
  · refine tv_aload_n X dX3_add_18 rfl 0 rfl ?_
    refine gX2_0 X (by omega) gw_1_34 dX3_add_19 ?_
    refine tv_aload_n X dX3_add_22 rfl 0 rfl ?_
    refine gX2_1 X (by omega) gw_1_35 dX3_add_23 ?_
    refine tv_iload_n X dX3_add_26 rfl 1 rfl ?_
    refine tv_i2b X dX3_add_27 ?_
    refine bsX X (by omega) dX3_add_28 h (fun j1 hj1 h => ?_)
    refine tv_ns h (fun s2 h => ?_)
    refine tv_aload_n X dX3_add_29 rfl 0 rfl ?_
    refine tv_dup X dX3_add_30 rfl ?_
    refine gX2_1 X (by omega) gw_1_35 dX3_add_31 ?_
    refine tv_iconst X 1 dX3_add_34 (by decide) ?_
    refine tv_iadd X dX3_add_35 ?_
    refine pX2_1 X (by omega) gw_1_35 dX3_add_36 ?_
    refine tv_ns h (fun s3 h => ?_)
    exact tv_vret X dX3_add_39 h
  · refine tv_aload_n X dX3_add_12 rfl 0 rfl ?_
    refine tv_iconst X 1 dX3_add_13 (by decide) ?_
    refine pX2_2 X (Or.inr rfl) (by omega) gw_1_36 dX3_add_14 ?_
    refine tv_ns h (fun s4 h => ?_)
    exact tv_vret X dX3_add_17 h
set_option maxHeartbeats 4000000 in
set_option maxRecDepth 100000 in
theorem l_X3_addWord_2 {Γ : Cx} {Ω : Wd} {ad : Nat → Nat → Nat} {A : Nat → Prop} {res : St × Unit} (X : Fx Γ Ω A cX3_addWord 3 "MappingTexts$Letters" rm_X3_addWord none) : ∀ (n : Nat) (σ : St) (v0 : Nat) (v1 : Nat) (v2 : Int32) (_ : v0 < 773) (_ : v1 < nSt), f_X3_addWord_2 n σ v0 v1 v2 = some res → V Γ (0, 0) (Qe Γ (0, 0) A (Qcv (PicX Ω ad A) A res)) A 3 (PicX Ω ad A σ) 2 [(0, .ref (ad 1 v0)), (1, .ref (Ω.2.2.1 v1)), (2, .int v2)] [] := by
  intro n
  induction n with
  | zero =>
    intro σ v0 v1 v2 bv0 bv1 h
    cases (show none = some res from h)
  | succ n ih =>
    intro σ v0 v1 v2 bv0 bv1 h
    rw [f_X3_addWord_2] at h
    refine tv_iload_n X dX3_addWord_2 rfl 2 rfl ?_
    refine tv_aload_n X dX3_addWord_3 rfl 1 rfl ?_
    refine slX X (by omega) gw_2_174 (Nat.le_of_ble_eq_true rfl) (Nat.le_of_ble_eq_true rfl) dX3_addWord_4 ?_
    refine tv_icmp_ge X 25 dX3_addWord_7 (by decide) h (fun h => ?_) (fun h => ?_)
    · exact tv_vret X dX3_addWord_25 h
    · refine tv_aload_n X dX3_addWord_10 rfl 0 rfl ?_
      refine tv_aload_n X dX3_addWord_11 rfl 1 rfl ?_
      refine tv_iload_n X dX3_addWord_12 rfl 2 rfl ?_
      refine scX X (by omega) gw_2_185 (Nat.le_of_ble_eq_true rfl) (Nat.le_of_ble_eq_true rfl) dX3_addWord_13 h (fun j1 hj1 h => ?_)
      obtain ⟨s2, _u16, hs2, h⟩ := cl_some h
      refine tv_callVv (st := []) X (c_X3_add Γ.2.1 Ω ad A σ v0 (stc v1 j1) (by omega) hs2) ⟨gw_2_86, gw_4_141, gw_1_2, q_X3_add, rfl, rfl, ⟨Nat.le_of_ble_eq_true rfl, Nat.le_of_ble_eq_true rfl⟩⟩ gw_2_84 gw_2_85 (fun H _ hz _ => PP.recv (f := 1) (i := v0) X.2.1 hz.1 (show v0 < 773 by omega) rfl rfl) rfl rfl (Nat.le_of_ble_eq_true rfl) dX3_addWord_16 ?_
      refine tv_iinc X (v2 + 1) dX3_addWord_19 2 rfl rfl (by decide) [(2, .int (v2 + 1)), (0, .ref (ad 1 v0)), (1, .ref (Ω.2.2.1 v1))] rfl ?_
      refine tv_goto X 2 dX3_addWord_22 (by decide) ?_
      refine V.pick [1, 2, 0] rfl ?_
      exact ih s2 v0 v1 (v2 + 1) (by omega) (by omega) h
set_option maxHeartbeats 4000000 in
set_option maxRecDepth 100000 in
theorem c_X3_addWord (l : Launch) (Ω : Wd) (ad : Nat → Nat → Nat) (A : Nat → Prop) (σ : St) (o : Nat) (a1 : Nat) (bo : o < 773) (ba1 : a1 < nSt) {res : St × Unit} (h : f_X3_addWord σ o a1 = some res) : Met l yX3_addWord (wsO yX3_addWord cX3_addWord 3 none) rm_X3_addWord (PcZ Ω A (PicX Ω ad A σ) [.ref (ad 1 o), .ref (Ω.2.2.1 a1)]) (Qcv (PicX Ω ad A) A res) 0 0 A := by
  refine Met.ofV (by decide) rfl (fun Γ hΓ X => ?_)
  have X : Fx Γ Ω A cX3_addWord 3 "MappingTexts$Letters" rm_X3_addWord none := X
  unfold f_X3_addWord at h
  show V Γ (0, 0) _ A 3 _ 0 [(0, .ref (ad 1 o)), (1, .ref (Ω.2.2.1 a1))] []
  refine tv_iconst X 0 dX3_addWord_0 (by decide) ?_
  refine tv_istore_n X dX3_addWord_1 rfl (by decide) [(2, .int 0), (0, .ref (ad 1 o)), (1, .ref (Ω.2.2.1 a1))] rfl ?_
  refine V.pick [1, 2, 0] rfl ?_
  exact l_X3_addWord_2 X fl σ o a1 0 (by omega) (by omega) h
set_option maxHeartbeats 4000000 in
set_option maxRecDepth 100000 in
theorem c_X3_addAll (l : Launch) (Ω : Wd) (ad : Nat → Nat → Nat) (A : Nat → Prop) (σ : St) (o : Nat) (a1 : Nat) (bo : o < 773) (ba1 : a1 < 773) {res : St × Unit} (h : f_X3_addAll σ o a1 = some res) : Met l yX3_addAll (wsO yX3_addAll cX3_addAll 2 none) rm_X3_addAll (PcZ Ω A (PicX Ω ad A σ) [.ref (ad 1 o), .ref (ad 1 a1)]) (Qcv (PicX Ω ad A) A res) 0 0 A := by
  refine Met.ofV (by decide) rfl (fun Γ hΓ X => ?_)
  have X : Fx Γ Ω A cX3_addAll 2 "MappingTexts$Letters" rm_X3_addAll none := X
  unfold f_X3_addAll at h
  show V Γ (0, 0) _ A 2 _ 0 [(0, .ref (ad 1 o)), (1, .ref (ad 1 a1))] []
  refine tv_aload_n X dX3_addAll_0 rfl 0 rfl ?_
  refine tv_aload_n X dX3_addAll_1 rfl 1 rfl ?_
  refine tv_iconst X 0 dX3_addAll_2 (by decide) ?_
  refine tv_aload_n X dX3_addAll_3 rfl 1 rfl ?_
  refine gX2_1 X (by omega) gw_1_35 dX3_addAll_4 ?_
  obtain ⟨s1, _u7, hs1, h⟩ := cl_some h
  refine tv_callVv (st := []) X (c_X3_addPart Γ.2.1 Ω ad A σ o a1 0 (gi σ 201 a1) (by omega) (by omega) hs1) ⟨gw_3_1, gw_4_73, gw_1_2, q_X3_addPart, rfl, rfl, ⟨Nat.le_of_ble_eq_true rfl, Nat.le_of_ble_eq_true rfl⟩⟩ gw_2_239 gw_3_0 (fun H _ hz _ => PP.recv (f := 1) (i := o) X.2.1 hz.1 (show o < 773 by omega) rfl rfl) rfl rfl (Nat.le_of_ble_eq_true rfl) dX3_addAll_7 ?_
  exact tv_vret X dX3_addAll_10 h
set_option maxHeartbeats 4000000 in
set_option maxRecDepth 100000 in
theorem l_X3_addNumber_26 {Γ : Cx} {Ω : Wd} {ad : Nat → Nat → Nat} {A : Nat → Prop} {res : St × Unit} (X : Fx Γ Ω A cX3_addNumber 4 "MappingTexts$Letters" rm_X3_addNumber none) {k4 : St → Nat → Int32 → Int32 → Int32 → Option (St × Unit)} (hk4 : ∀ (σ : St) (v0 : Nat) (v1 : Int32) (v2 : Int32) (v3 : Int32) (_ : v0 < 773), k4 σ v0 v1 v2 v3 = some res → V Γ (0, 0) (Qe Γ (0, 0) A (Qcv (PicX Ω ad A) A res)) A 4 (PicX Ω ad A σ) 4 [(0, .ref (ad 1 v0)), (1, .int v1), (2, .int v2), (3, .int v3)] []) (σ : St) (t0 : Int32) (v0 : Nat) (v1 : Int32) (v3 : Int32) (bv0 : v0 < 773) (h : f_X3_addNumber_26 k4 σ t0 v0 v1 v3 = some res) : V Γ (0, 0) (Qe Γ (0, 0) A (Qcv (PicX Ω ad A) A res)) A 4 (PicX Ω ad A σ) 26 [(0, .ref (ad 1 v0)), (1, .int v1), (3, .int v3)] [.int t0] := by
  unfold f_X3_addNumber_26 at h
  refine tv_istore_n X dX3_addNumber_26 rfl (by decide) [(2, .int t0), (0, .ref (ad 1 v0)), (1, .int v1), (3, .int v3)] rfl ?_
  refine tv_iinc X (v3 + 1) dX3_addNumber_27 3 rfl rfl (by decide) [(3, .int (v3 + 1)), (2, .int t0), (0, .ref (ad 1 v0)), (1, .int v1)] rfl ?_
  refine tv_goto X 4 dX3_addNumber_30 (by decide) ?_
  refine V.pick [2, 3, 1, 0] rfl ?_
  exact hk4 σ v0 v1 t0 (v3 + 1) (by omega) h
set_option maxHeartbeats 4000000 in
set_option maxRecDepth 100000 in
theorem l_X3_addNumber_35 {Γ : Cx} {Ω : Wd} {ad : Nat → Nat → Nat} {A : Nat → Prop} {res : St × Unit} (X : Fx Γ Ω A cX3_addNumber 4 "MappingTexts$Letters" rm_X3_addNumber none) : ∀ (n : Nat) (σ : St) (v0 : Nat) (v1 : Int32) (v3 : Int32) (_ : v0 < 773), f_X3_addNumber_35 n σ v0 v1 v3 = some res → V Γ (0, 0) (Qe Γ (0, 0) A (Qcv (PicX Ω ad A) A res)) A 4 (PicX Ω ad A σ) 35 [(0, .ref (ad 1 v0)), (1, .int v1), (3, .int v3)] [] := by
  intro n
  induction n with
  | zero =>
    intro σ v0 v1 v3 bv0 h
    cases (show none = some res from h)
  | succ n ih =>
    intro σ v0 v1 v3 bv0 h
    rw [f_X3_addNumber_35] at h
    refine tv_iload_n X dX3_addNumber_35 rfl 2 rfl ?_
    refine tv_if_le X 60 dX3_addNumber_36 (by decide) h (fun h => ?_) (fun h => ?_)
    · exact tv_vret X dX3_addNumber_60 h
    · refine tv_aload_n X dX3_addNumber_39 rfl 0 rfl ?_
      refine tv_bipush X 48 dX3_addNumber_40 (by decide) ?_
      refine tv_iload_n X dX3_addNumber_42 rfl 1 rfl ?_
      refine tv_iload_n X dX3_addNumber_43 rfl 2 rfl ?_
      obtain ⟨hq, h⟩ := cq_some h
      refine tv_idiv X dX3_addNumber_44 (of_decide_eq_true hq) ?_
      refine tv_bipush X 10 dX3_addNumber_45 (by decide) ?_
      refine tv_irem X dX3_addNumber_47 (by decide) ?_
      refine tv_iadd X dX3_addNumber_48 ?_
      obtain ⟨s1, _u49, hs1, h⟩ := cl_some h
      refine tv_callVv (st := []) X (c_X3_add Γ.2.1 Ω ad A σ v0 (48 + ((v1 / v3) - (v1 / v3) / 10 * 10)) (by omega) hs1) ⟨gw_2_86, gw_4_141, gw_1_2, q_X3_add, rfl, rfl, ⟨Nat.le_of_ble_eq_true rfl, Nat.le_of_ble_eq_true rfl⟩⟩ gw_2_84 gw_2_85 (fun H _ hz _ => PP.recv (f := 1) (i := v0) X.2.1 hz.1 (show v0 < 773 by omega) rfl rfl) rfl rfl (Nat.le_of_ble_eq_true rfl) dX3_addNumber_49 ?_
      refine tv_iload_n X dX3_addNumber_52 rfl 2 rfl ?_
      refine tv_bipush X 10 dX3_addNumber_53 (by decide) ?_
      refine tv_idiv X dX3_addNumber_55 (by decide) ?_
      refine tv_istore_n X dX3_addNumber_56 rfl (by decide) [(3, .int (v3 / 10)), (0, .ref (ad 1 v0)), (1, .int v1)] rfl ?_
      refine tv_goto X 35 dX3_addNumber_57 (by decide) ?_
      refine V.pick [1, 2, 0] rfl ?_
      exact ih s1 v0 v1 (v3 / 10) (by omega) h
set_option maxHeartbeats 4000000 in
set_option maxRecDepth 100000 in
theorem l_X3_addNumber_4 {Γ : Cx} {Ω : Wd} {ad : Nat → Nat → Nat} {A : Nat → Prop} {res : St × Unit} (X : Fx Γ Ω A cX3_addNumber 4 "MappingTexts$Letters" rm_X3_addNumber none) : ∀ (n : Nat) (σ : St) (v0 : Nat) (v1 : Int32) (v2 : Int32) (v3 : Int32) (_ : v0 < 773), f_X3_addNumber_4 n σ v0 v1 v2 v3 = some res → V Γ (0, 0) (Qe Γ (0, 0) A (Qcv (PicX Ω ad A) A res)) A 4 (PicX Ω ad A σ) 4 [(0, .ref (ad 1 v0)), (1, .int v1), (2, .int v2), (3, .int v3)] [] := by
  intro n
  induction n with
  | zero =>
    intro σ v0 v1 v2 v3 bv0 h
    cases (show none = some res from h)
  | succ n ih =>
    intro σ v0 v1 v2 v3 bv0 h
    rw [f_X3_addNumber_4] at h
    refine tv_iload_n X dX3_addNumber_4 rfl 3 rfl ?_
    refine tv_bipush X 6 dX3_addNumber_5 (by decide) ?_
    refine tv_icmp_ge X 33 dX3_addNumber_7 (by decide) h (fun h => ?_) (fun h => ?_)
    · refine tv_iload_n X dX3_addNumber_33 rfl 2 rfl ?_
      refine tv_istore_n X dX3_addNumber_34 rfl (by decide) [(3, .int v2), (0, .ref (ad 1 v0)), (1, .int v1), (2, .int v2)] rfl ?_
      refine V.pick [1, 2, 0] rfl ?_
      exact l_X3_addNumber_35 X fl σ v0 v1 v2 (by omega) h
    · refine tv_iload_n X dX3_addNumber_10 rfl 1 rfl ?_
      refine tv_iload_n X dX3_addNumber_11 rfl 2 rfl ?_
      obtain ⟨hq, h⟩ := cq_some h
      refine tv_idiv X dX3_addNumber_12 (of_decide_eq_true hq) ?_
      refine tv_bipush X 10 dX3_addNumber_13 (by decide) ?_
      refine tv_icmp_lt X 25 dX3_addNumber_15 (by decide) h (fun h => ?_) (fun h => ?_)
      · refine tv_iload_n X dX3_addNumber_25 rfl 2 rfl ?_
        refine V.pick [0, 1, 3] rfl ?_
        exact l_X3_addNumber_26 X ih σ v2 v0 v1 v3 (by omega) h
      · refine tv_iload_n X dX3_addNumber_18 rfl 2 rfl ?_
        refine tv_bipush X 10 dX3_addNumber_19 (by decide) ?_
        refine tv_imul X dX3_addNumber_21 ?_
        refine tv_goto X 26 dX3_addNumber_22 (by decide) ?_
        refine V.pick [0, 1, 3] rfl ?_
        exact l_X3_addNumber_26 X ih σ (v2 * 10) v0 v1 v3 (by omega) h
set_option maxHeartbeats 4000000 in
set_option maxRecDepth 100000 in
theorem c_X3_addNumber (l : Launch) (Ω : Wd) (ad : Nat → Nat → Nat) (A : Nat → Prop) (σ : St) (o : Nat) (a1 : Int32) (bo : o < 773) {res : St × Unit} (h : f_X3_addNumber σ o a1 = some res) : Met l yX3_addNumber (wsO yX3_addNumber cX3_addNumber 4 none) rm_X3_addNumber (PcZ Ω A (PicX Ω ad A σ) [.ref (ad 1 o), .int a1]) (Qcv (PicX Ω ad A) A res) 0 0 A := by
  refine Met.ofV (by decide) rfl (fun Γ hΓ X => ?_)
  have X : Fx Γ Ω A cX3_addNumber 4 "MappingTexts$Letters" rm_X3_addNumber none := X
  unfold f_X3_addNumber at h
  show V Γ (0, 0) _ A 4 _ 0 [(0, .ref (ad 1 o)), (1, .int a1)] []
  refine tv_iconst X 1 dX3_addNumber_0 (by decide) ?_
  refine tv_istore_n X dX3_addNumber_1 rfl (by decide) [(2, .int 1), (0, .ref (ad 1 o)), (1, .int a1)] rfl ?_
  refine tv_iconst X 1 dX3_addNumber_2 (by decide) ?_
  refine tv_istore_n X dX3_addNumber_3 rfl (by decide) [(3, .int 1), (2, .int 1), (0, .ref (ad 1 o)), (1, .int a1)] rfl ?_
  refine V.pick [2, 3, 1, 0] rfl ?_
  exact l_X3_addNumber_4 X fl σ o a1 1 1 (by omega) h
set_option maxHeartbeats 4000000 in
set_option maxRecDepth 100000 in
theorem c_X3_isStartOf (l : Launch) (Ω : Wd) (ad : Nat → Nat → Nat) (A : Nat → Prop) (σ : St) (o : Nat) (a1 : Nat) (a2 : Int32) (bo : o < 773) (ba1 : a1 < 773) {res : St × Int32} (h : f_X3_isStartOf σ o a1 a2 = some res) : Met l yX3_isStartOf (wsO yX3_isStartOf cX3_isStartOf 3 (some .boolean)) rm_X3_isStartOf (PcZ Ω A (PicX Ω ad A σ) [.ref (ad 1 o), .ref (ad 1 a1), .int a2]) (Qci (PicX Ω ad A) A res) 0 0 A := by
  refine Met.ofV (by decide) rfl (fun Γ hΓ X => ?_)
  have X : Fx Γ Ω A cX3_isStartOf 3 "MappingTexts$Letters" rm_X3_isStartOf (some .boolean) := X
  unfold f_X3_isStartOf at h
  show V Γ (0, 0) _ A 3 _ 0 [(0, .ref (ad 1 o)), (1, .ref (ad 1 a1)), (2, .int a2)] []
  refine tv_aload_n X dX3_isStartOf_0 rfl 0 rfl ?_
  refine gX2_1 X (by omega) gw_1_35 dX3_isStartOf_1 ?_
  refine tv_iload_n X dX3_isStartOf_4 rfl 2 rfl ?_
  refine tv_icmp_ne X 21 dX3_isStartOf_5 (by decide) h (fun h => ?_) (fun h => ?_)
  · refine tv_iconst X 0 dX3_isStartOf_21 (by decide) ?_
    exact tv_zret X dX3_isStartOf_22 (Or.inl rfl) h
  · refine tv_aload_n X dX3_isStartOf_8 rfl 1 rfl ?_
    refine tv_iconst X 0 dX3_isStartOf_9 (by decide) ?_
    refine tv_aload_n X dX3_isStartOf_10 rfl 0 rfl ?_
    obtain ⟨s1, x2, hs1, h⟩ := cl_some h
    refine tv_callVi (st := []) X (c_X3_holdsAt Γ.2.1 Ω ad A σ a1 0 o (by omega) (by omega) hs1) ⟨gw_3_22, gw_3_19, gw_1_2, q_X3_holdsAt, rfl, rfl, ⟨Nat.le_of_ble_eq_true rfl, Nat.le_of_ble_eq_true rfl⟩⟩ gw_3_20 gw_3_21 (fun H _ hz _ => PP.recv (f := 1) (i := a1) X.2.1 hz.1 (show a1 < 773 by omega) rfl rfl) rfl rfl (Nat.le_of_ble_eq_true rfl) dX3_isStartOf_11 ?_
    refine tv_if_eq X 21 dX3_isStartOf_14 (by decide) h (fun h => ?_) (fun h => ?_)
    · refine tv_iconst X 0 dX3_isStartOf_21 (by decide) ?_
      exact tv_zret X dX3_isStartOf_22 (Or.inl rfl) h
    · refine tv_iconst X 1 dX3_isStartOf_17 (by decide) ?_
      refine tv_goto X 22 dX3_isStartOf_18 (by decide) ?_
      exact tv_zret X dX3_isStartOf_22 (Or.inr rfl) h
set_option maxHeartbeats 4000000 in
set_option maxRecDepth 100000 in
theorem l_X3_isWordAt_13 {Γ : Cx} {Ω : Wd} {ad : Nat → Nat → Nat} {A : Nat → Prop} {res : St × Int32} (X : Fx Γ Ω A cX3_isWordAt 5 "MappingTexts$Letters" rm_X3_isWordAt (some .boolean)) : ∀ (n : Nat) (σ : St) (v0 : Nat) (v1 : Int32) (v2 : Int32) (v3 : Nat) (v4 : Int32) (_ : v0 < 773) (_ : v3 < nSt), f_X3_isWordAt_13 n σ v0 v1 v2 v3 v4 = some res → V Γ (0, 0) (Qe Γ (0, 0) A (Qci (PicX Ω ad A) A res)) A 5 (PicX Ω ad A σ) 13 [(0, .ref (ad 1 v0)), (1, .int v1), (2, .int v2), (3, .ref (Ω.2.2.1 v3)), (4, .int v4)] [] := by
  intro n
  induction n with
  | zero =>
    intro σ v0 v1 v2 v3 v4 bv0 bv3 h
    cases (show none = some res from h)
  | succ n ih =>
    intro σ v0 v1 v2 v3 v4 bv0 bv3 h
    rw [f_X3_isWordAt_13] at h
    refine tv_iload X dX3_isWordAt_13 4 rfl ?_
    refine tv_iload_n X dX3_isWordAt_15 rfl 2 rfl ?_
    refine tv_icmp_ge X 44 dX3_isWordAt_16 (by decide) h (fun h => ?_) (fun h => ?_)
    · refine tv_iconst X 1 dX3_isWordAt_44 (by decide) ?_
      exact tv_zret X dX3_isWordAt_45 (Or.inr rfl) h
    · refine tv_aload_n X dX3_isWordAt_19 rfl 0 rfl ?_
      refine tv_iload_n X dX3_isWordAt_20 rfl 1 rfl ?_
      refine tv_iload X dX3_isWordAt_21 4 rfl ?_
      refine tv_iadd X dX3_isWordAt_23 ?_
      obtain ⟨s1, x2, hs1, h⟩ := cl_some h
      refine tv_callVi (st := []) X (c_X3_at Γ.2.1 Ω ad A σ v0 (v1 + v4) (by omega) hs1) ⟨gw_2_119, gw_2_184, gw_1_2, q_X3_at, rfl, rfl, ⟨Nat.le_of_ble_eq_true rfl, Nat.le_of_ble_eq_true rfl⟩⟩ gw_2_117 gw_2_118 (fun H _ hz _ => PP.recv (f := 1) (i := v0) X.2.1 hz.1 (show v0 < 773 by omega) rfl rfl) rfl rfl (Nat.le_of_ble_eq_true rfl) dX3_isWordAt_24 ?_
      refine tv_aload_n X dX3_isWordAt_27 rfl 3 rfl ?_
      refine tv_iload X dX3_isWordAt_28 4 rfl ?_
      refine scX X (by omega) gw_2_185 (Nat.le_of_ble_eq_true rfl) (Nat.le_of_ble_eq_true rfl) dX3_isWordAt_30 h (fun j3 hj3 h => ?_)
      refine tv_icmp_eq X 38 dX3_isWordAt_33 (by decide) h (fun h => ?_) (fun h => ?_)
      · refine tv_iinc X (v4 + 1) dX3_isWordAt_38 4 rfl rfl (by decide) [(4, .int (v4 + 1)), (0, .ref (ad 1 v0)), (1, .int v1), (2, .int v2), (3, .ref (Ω.2.2.1 v3))] rfl ?_
        refine tv_goto X 13 dX3_isWordAt_41 (by decide) ?_
        refine V.pick [1, 2, 3, 4, 0] rfl ?_
        exact ih s1 v0 v1 v2 v3 (v4 + 1) (by omega) (by omega) h
      · refine tv_iconst X 0 dX3_isWordAt_36 (by decide) ?_
        exact tv_zret X dX3_isWordAt_37 (Or.inl rfl) h
set_option maxHeartbeats 4000000 in
set_option maxRecDepth 100000 in
theorem c_X3_isWordAt (l : Launch) (Ω : Wd) (ad : Nat → Nat → Nat) (A : Nat → Prop) (σ : St) (o : Nat) (a1 : Int32) (a2 : Int32) (a3 : Nat) (bo : o < 773) (ba3 : a3 < nSt) {res : St × Int32} (h : f_X3_isWordAt σ o a1 a2 a3 = some res) : Met l yX3_isWordAt (wsO yX3_isWordAt cX3_isWordAt 5 (some .boolean)) rm_X3_isWordAt (PcZ Ω A (PicX Ω ad A σ) [.ref (ad 1 o), .int a1, .int a2, .ref (Ω.2.2.1 a3)]) (Qci (PicX Ω ad A) A res) 0 0 A := by
  refine Met.ofV (by decide) rfl (fun Γ hΓ X => ?_)
  have X : Fx Γ Ω A cX3_isWordAt 5 "MappingTexts$Letters" rm_X3_isWordAt (some .boolean) := X
  unfold f_X3_isWordAt at h
  show V Γ (0, 0) _ A 5 _ 0 [(0, .ref (ad 1 o)), (1, .int a1), (2, .int a2), (3, .ref (Ω.2.2.1 a3))] []
  refine tv_iload_n X dX3_isWordAt_0 rfl 2 rfl ?_
  refine tv_aload_n X dX3_isWordAt_1 rfl 3 rfl ?_
  refine slX X (by omega) gw_2_174 (Nat.le_of_ble_eq_true rfl) (Nat.le_of_ble_eq_true rfl) dX3_isWordAt_2 ?_
  refine tv_icmp_eq X 10 dX3_isWordAt_5 (by decide) h (fun h => ?_) (fun h => ?_)
  · refine tv_iconst X 0 dX3_isWordAt_10 (by decide) ?_
    refine tv_istore X dX3_isWordAt_11 (by decide) [(4, .int 0), (0, .ref (ad 1 o)), (1, .int a1), (2, .int a2), (3, .ref (Ω.2.2.1 a3))] rfl ?_
    refine V.pick [1, 2, 3, 4, 0] rfl ?_
    exact l_X3_isWordAt_13 X fl σ o a1 a2 a3 0 (by omega) (by omega) h
  · refine tv_iconst X 0 dX3_isWordAt_8 (by decide) ?_
    exact tv_zret X dX3_isWordAt_9 (Or.inl rfl) h
set_option maxHeartbeats 4000000 in
set_option maxRecDepth 100000 in
theorem l_X3_lastPoint_7 {Γ : Cx} {Ω : Wd} {ad : Nat → Nat → Nat} {A : Nat → Prop} {res : St × Int32} (X : Fx Γ Ω A cX3_lastPoint 2 "MappingTexts$Letters" rm_X3_lastPoint (some .int)) : ∀ (n : Nat) (σ : St) (v0 : Nat) (v1 : Int32) (_ : v0 < 773), f_X3_lastPoint_7 n σ v0 v1 = some res → V Γ (0, 0) (Qe Γ (0, 0) A (Qci (PicX Ω ad A) A res)) A 2 (PicX Ω ad A σ) 7 [(0, .ref (ad 1 v0)), (1, .int v1)] [] := by
  intro n
  induction n with
  | zero =>
    intro σ v0 v1 bv0 h
    cases (show none = some res from h)
  | succ n ih =>
    intro σ v0 v1 bv0 h
    rw [f_X3_lastPoint_7] at h
    refine tv_iload_n X dX3_lastPoint_7 rfl 1 rfl ?_
    refine tv_if_lt X 30 dX3_lastPoint_8 (by decide) h (fun h => ?_) (fun h => ?_)
    · refine tv_bipush X (-2) dX3_lastPoint_30 (by decide) ?_
      exact tv_iret X dX3_lastPoint_32 h
    · refine tv_aload_n X dX3_lastPoint_11 rfl 0 rfl ?_
      refine gX2_0 X (by omega) gw_1_34 dX3_lastPoint_12 ?_
      refine tv_iload_n X dX3_lastPoint_15 rfl 1 rfl ?_
      refine baX X (by omega) dX3_lastPoint_16 h (fun j1 hj1 h => ?_)
      refine tv_bipush X 46 dX3_lastPoint_17 (by decide) ?_
      refine tv_icmp_ne X 24 dX3_lastPoint_19 (by decide) h (fun h => ?_) (fun h => ?_)
      · refine tv_iinc X (v1 + (-1)) dX3_lastPoint_24 1 rfl rfl (by decide) [(1, .int (v1 + (-1))), (0, .ref (ad 1 v0))] rfl ?_
        refine tv_goto X 7 dX3_lastPoint_27 (by decide) ?_
        refine V.pick [1, 0] rfl ?_
        exact ih σ v0 (v1 + (-1)) (by omega) h
      · refine tv_iload_n X dX3_lastPoint_22 rfl 1 rfl ?_
        exact tv_iret X dX3_lastPoint_23 h
set_option maxHeartbeats 4000000 in
set_option maxRecDepth 100000 in
theorem c_X3_lastPoint (l : Launch) (Ω : Wd) (ad : Nat → Nat → Nat) (A : Nat → Prop) (σ : St) (o : Nat) (bo : o < 773) {res : St × Int32} (h : f_X3_lastPoint σ o = some res) : Met l yX3_lastPoint (wsO yX3_lastPoint cX3_lastPoint 2 (some .int)) rm_X3_lastPoint (PcZ Ω A (PicX Ω ad A σ) [.ref (ad 1 o)]) (Qci (PicX Ω ad A) A res) 0 0 A := by
  refine Met.ofV (by decide) rfl (fun Γ hΓ X => ?_)
  have X : Fx Γ Ω A cX3_lastPoint 2 "MappingTexts$Letters" rm_X3_lastPoint (some .int) := X
  unfold f_X3_lastPoint at h
  show V Γ (0, 0) _ A 2 _ 0 [(0, .ref (ad 1 o))] []
  refine tv_aload_n X dX3_lastPoint_0 rfl 0 rfl ?_
  refine gX2_1 X (by omega) gw_1_35 dX3_lastPoint_1 ?_
  refine tv_iconst X 1 dX3_lastPoint_4 (by decide) ?_
  refine tv_isub X dX3_lastPoint_5 ?_
  refine tv_istore_n X dX3_lastPoint_6 rfl (by decide) [(1, .int ((gi σ 201 o) - 1)), (0, .ref (ad 1 o))] rfl ?_
  refine V.pick [1, 0] rfl ?_
  exact l_X3_lastPoint_7 X fl σ o ((gi σ 201 o) - 1) (by omega) h
set_option maxHeartbeats 4000000 in
set_option maxRecDepth 100000 in
theorem c_X3_nameStart (l : Launch) (Ω : Wd) (ad : Nat → Nat → Nat) (A : Nat → Prop) (σ : St) (o : Nat) (bo : o < 773) {res : St × Int32} (h : f_X3_nameStart σ o = some res) : Met l yX3_nameStart (wsO yX3_nameStart cX3_nameStart 1 (some .int)) rm_X3_nameStart (PcZ Ω A (PicX Ω ad A σ) [.ref (ad 1 o)]) (Qci (PicX Ω ad A) A res) 0 0 A := by
  refine Met.ofV (by decide) rfl (fun Γ hΓ X => ?_)
  have X : Fx Γ Ω A cX3_nameStart 1 "MappingTexts$Letters" rm_X3_nameStart (some .int) := X
  unfold f_X3_nameStart at h
  show V Γ (0, 0) _ A 1 _ 0 [(0, .ref (ad 1 o))] []
  refine tv_aload_n X dX3_nameStart_0 rfl 0 rfl ?_
  obtain ⟨s1, x2, hs1, h⟩ := cl_some h
  refine tv_callVi (st := []) X (c_X3_lastPoint Γ.2.1 Ω ad A σ o (by omega) hs1) ⟨gw_4_31, gw_4_28, gw_1_2, q_X3_lastPoint, rfl, rfl, ⟨Nat.le_of_ble_eq_true rfl, Nat.le_of_ble_eq_true rfl⟩⟩ gw_4_29 gw_4_30 (fun H _ hz _ => PP.recv (f := 1) (i := o) X.2.1 hz.1 (show o < 773 by omega) rfl rfl) rfl rfl (Nat.le_of_ble_eq_true rfl) dX3_nameStart_1 ?_
  refine tv_iconst X (-1) dX3_nameStart_4 (by decide) ?_
  refine tv_mmax X gw_1_31 gw_1_32 gw_1_3 gw_1_33 (Nat.le_of_ble_eq_true rfl) (Nat.le_of_ble_eq_true rfl) dX3_nameStart_5 ?_
  refine tv_iconst X 1 dX3_nameStart_8 (by decide) ?_
  refine tv_iadd X dX3_nameStart_9 ?_
  exact tv_iret X dX3_nameStart_10 h
set_option maxHeartbeats 4000000 in
set_option maxRecDepth 100000 in
theorem c_X4_begin (l : Launch) (Ω : Wd) (ad : Nat → Nat → Nat) (A : Nat → Prop) (σ : St) (o : Nat) (bo : o < 64) {res : St × Unit} (h : f_X4_begin σ o = some res) : Met l yX4_begin (wsO yX4_begin cX4_begin 1 none) rm_X4_begin (PcZ Ω A (PicX Ω ad A σ) [.ref (ad 5 o)]) (Qcv (PicX Ω ad A) A res) 0 0 A := by
  refine Met.ofV (by decide) rfl (fun Γ hΓ X => ?_)
  have X : Fx Γ Ω A cX4_begin 1 "MappingTexts$Rule" rm_X4_begin none := X
  unfold f_X4_begin at h
  show V Γ (0, 0) _ A 1 _ 0 [(0, .ref (ad 5 o))] []
  refine tv_aload_n X dX4_begin_0 rfl 0 rfl ?_
  refine gX3_0 X (by omega) gw_1_175 dX4_begin_1 ?_
  obtain ⟨s1, _u4, hs1, h⟩ := cl_some h
  refine tv_callVv (st := []) X (c_X3_clear Γ.2.1 Ω ad A σ (645 + 2 * o) (by omega) hs1) ⟨gw_2_98, gw_3_44, gw_1_2, q_X3_clear, rfl, rfl, ⟨Nat.le_of_ble_eq_true rfl, Nat.le_of_ble_eq_true rfl⟩⟩ gw_2_96 gw_2_97 (fun H _ hz _ => PP.recv (f := 1) (i := (645 + 2 * o)) X.2.1 hz.1 (show (645 + 2 * o) < 773 by omega) rfl rfl) rfl rfl (Nat.le_of_ble_eq_true rfl) dX4_begin_4 ?_
  refine tv_aload_n X dX4_begin_7 rfl 0 rfl ?_
  refine gX3_1 X (by omega) gw_1_177 dX4_begin_8 ?_
  obtain ⟨s2, _u11, hs2, h⟩ := cl_some h
  refine tv_callVv (st := []) X (c_X3_clear Γ.2.1 Ω ad A s1 (646 + 2 * o) (by omega) hs2) ⟨gw_2_98, gw_3_44, gw_1_2, q_X3_clear, rfl, rfl, ⟨Nat.le_of_ble_eq_true rfl, Nat.le_of_ble_eq_true rfl⟩⟩ gw_2_96 gw_2_97 (fun H _ hz _ => PP.recv (f := 1) (i := (646 + 2 * o)) X.2.1 hz.1 (show (646 + 2 * o) < 773 by omega) rfl rfl) rfl rfl (Nat.le_of_ble_eq_true rfl) dX4_begin_11 ?_
  refine tv_aload_n X dX4_begin_14 rfl 0 rfl ?_
  refine tv_iconst X 0 dX4_begin_15 (by decide) ?_
  refine pX3_2 X (Or.inl rfl) (by omega) gw_1_179 dX4_begin_16 ?_
  refine tv_ns h (fun s3 h => ?_)
  refine tv_aload_n X dX4_begin_19 rfl 0 rfl ?_
  refine tv_iconst X 0 dX4_begin_20 (by decide) ?_
  refine pX3_3 X (by omega) gw_1_181 dX4_begin_21 ?_
  refine tv_ns h (fun s4 h => ?_)
  exact tv_vret X dX4_begin_24 h
set_option maxHeartbeats 4000000 in
set_option maxRecDepth 100000 in
theorem c_X4_copyFrom (l : Launch) (Ω : Wd) (ad : Nat → Nat → Nat) (A : Nat → Prop) (σ : St) (o : Nat) (a1 : Nat) (bo : o < 64) (ba1 : a1 < 64) {res : St × Unit} (h : f_X4_copyFrom σ o a1 = some res) : Met l yX4_copyFrom (wsO yX4_copyFrom cX4_copyFrom 2 none) rm_X4_copyFrom (PcZ Ω A (PicX Ω ad A σ) [.ref (ad 5 o), .ref (ad 5 a1)]) (Qcv (PicX Ω ad A) A res) 0 0 A := by
  refine Met.ofV (by decide) rfl (fun Γ hΓ X => ?_)
  have X : Fx Γ Ω A cX4_copyFrom 2 "MappingTexts$Rule" rm_X4_copyFrom none := X
  unfold f_X4_copyFrom at h
  show V Γ (0, 0) _ A 2 _ 0 [(0, .ref (ad 5 o)), (1, .ref (ad 5 a1))] []
  refine tv_aload_n X dX4_copyFrom_0 rfl 0 rfl ?_
  refine gX3_0 X (by omega) gw_1_175 dX4_copyFrom_1 ?_
  refine tv_aload_n X dX4_copyFrom_4 rfl 1 rfl ?_
  refine gX3_0 X (by omega) gw_1_175 dX4_copyFrom_5 ?_
  obtain ⟨s1, _u8, hs1, h⟩ := cl_some h
  refine tv_callVv (st := []) X (c_X3_copyFrom Γ.2.1 Ω ad A σ (645 + 2 * o) (645 + 2 * a1) (by omega) (by omega) hs1) ⟨gw_4_71, gw_4_83, gw_1_2, q_X3_copyFrom, rfl, rfl, ⟨Nat.le_of_ble_eq_true rfl, Nat.le_of_ble_eq_true rfl⟩⟩ gw_4_69 gw_4_70 (fun H _ hz _ => PP.recv (f := 1) (i := (645 + 2 * o)) X.2.1 hz.1 (show (645 + 2 * o) < 773 by omega) rfl rfl) rfl rfl (Nat.le_of_ble_eq_true rfl) dX4_copyFrom_8 ?_
  refine tv_aload_n X dX4_copyFrom_11 rfl 0 rfl ?_
  refine gX3_1 X (by omega) gw_1_177 dX4_copyFrom_12 ?_
  refine tv_aload_n X dX4_copyFrom_15 rfl 1 rfl ?_
  refine gX3_1 X (by omega) gw_1_177 dX4_copyFrom_16 ?_
  obtain ⟨s2, _u19, hs2, h⟩ := cl_some h
  refine tv_callVv (st := []) X (c_X3_copyFrom Γ.2.1 Ω ad A s1 (646 + 2 * o) (646 + 2 * a1) (by omega) (by omega) hs2) ⟨gw_4_71, gw_4_83, gw_1_2, q_X3_copyFrom, rfl, rfl, ⟨Nat.le_of_ble_eq_true rfl, Nat.le_of_ble_eq_true rfl⟩⟩ gw_4_69 gw_4_70 (fun H _ hz _ => PP.recv (f := 1) (i := (646 + 2 * o)) X.2.1 hz.1 (show (646 + 2 * o) < 773 by omega) rfl rfl) rfl rfl (Nat.le_of_ble_eq_true rfl) dX4_copyFrom_19 ?_
  refine tv_aload_n X dX4_copyFrom_22 rfl 0 rfl ?_
  refine tv_aload_n X dX4_copyFrom_23 rfl 1 rfl ?_
  refine gX3_2 X (by omega) gw_1_179 dX4_copyFrom_24 ?_
  obtain ⟨hq27, h⟩ := cq_some h
  refine pX3_2 X (of_decide_eq_true hq27) (by omega) gw_1_179 dX4_copyFrom_27 ?_
  refine tv_ns h (fun s3 h => ?_)
  refine tv_aload_n X dX4_copyFrom_30 rfl 0 rfl ?_
  refine tv_aload_n X dX4_copyFrom_31 rfl 1 rfl ?_
  refine gX3_3 X (by omega) gw_1_181 dX4_copyFrom_32 ?_
  refine pX3_3 X (by omega) gw_1_181 dX4_copyFrom_35 ?_
  refine tv_ns h (fun s4 h => ?_)
  exact tv_vret X dX4_copyFrom_38 h
set_option maxHeartbeats 4000000 in
set_option maxRecDepth 100000 in
theorem l_X4_fits_48 {Γ : Cx} {Ω : Wd} {ad : Nat → Nat → Nat} {A : Nat → Prop} {res : St × Int32} (X : Fx Γ Ω A cX4_fits 6 "MappingTexts$Rule" rm_X4_fits (some .boolean)) (σ : St) (v0 : Nat) (v1 : Nat) (v2 : Int32) (v3 : Int32) (bv0 : v0 < 64) (bv1 : v1 < 773) (h : f_X4_fits_48 σ v0 v1 v2 v3 = some res) : V Γ (0, 0) (Qe Γ (0, 0) A (Qci (PicX Ω ad A) A res)) A 6 (PicX Ω ad A σ) 48 [(0, .ref (ad 5 v0)), (1, .ref (ad 1 v1)), (2, .int v2), (3, .int v3)] [] := by
  unfold f_X4_fits_48 at h
  refine tv_aload_n X dX4_fits_48 rfl 0 rfl ?_
  refine gX3_3 X (by omega) gw_1_181 dX4_fits_49 ?_
  refine tv_iload_n X dX4_fits_52 rfl 3 rfl ?_
  obtain ⟨s7, x8, hs7, h⟩ := cl_some h
  refine tv_callSi (st := []) X (c_X2_fits Γ.2.1 Ω ad A σ (gi σ 303 v0) v3 hs7) ⟨gw_4_53, gw_4_51, gw_1_16, q_X2_fits, rfl, rfl, ⟨Nat.le_of_ble_eq_true rfl, Nat.le_of_ble_eq_true rfl⟩⟩ gw_4_52 rfl rfl (Nat.le_of_ble_eq_true rfl) dX4_fits_53 ?_
  refine tv_if_eq X 98 dX4_fits_56 (by decide) h (fun h => ?_) (fun h => ?_)
  · refine tv_iconst X 0 dX4_fits_98 (by decide) ?_
    exact tv_zret X dX4_fits_99 (Or.inl rfl) h
  · refine tv_aload_n X dX4_fits_59 rfl 1 rfl ?_
    refine tv_iload_n X dX4_fits_60 rfl 2 rfl ?_
    refine tv_aload_n X dX4_fits_61 rfl 0 rfl ?_
    refine gX3_0 X (by omega) gw_1_175 dX4_fits_62 ?_
    obtain ⟨s9, x10, hs9, h⟩ := cl_some h
    refine tv_callVi (st := []) X (c_X3_holdsAt Γ.2.1 Ω ad A s7 v1 v2 (645 + 2 * v0) (by omega) (by omega) hs9) ⟨gw_3_22, gw_4_54, gw_1_2, q_X3_holdsAt, rfl, rfl, ⟨Nat.le_of_ble_eq_true rfl, Nat.le_of_ble_eq_true rfl⟩⟩ gw_3_20 gw_3_21 (fun H _ hz _ => PP.recv (f := 1) (i := v1) X.2.1 hz.1 (show v1 < 773 by omega) rfl rfl) rfl rfl (Nat.le_of_ble_eq_true rfl) dX4_fits_65 ?_
    refine tv_if_eq X 98 dX4_fits_68 (by decide) h (fun h => ?_) (fun h => ?_)
    · refine tv_iconst X 0 dX4_fits_98 (by decide) ?_
      exact tv_zret X dX4_fits_99 (Or.inl rfl) h
    · refine tv_aload_n X dX4_fits_71 rfl 1 rfl ?_
      refine tv_aload_n X dX4_fits_72 rfl 1 rfl ?_
      obtain ⟨s11, x12, hs11, h⟩ := cl_some h
      refine tv_callVi (st := [.ref (ad 1 v1)]) X (c_X3_length Γ.2.1 Ω ad A s9 v1 (by omega) hs11) ⟨gw_2_90, gw_4_50, gw_1_2, q_X3_length, rfl, rfl, ⟨Nat.le_of_ble_eq_true rfl, Nat.le_of_ble_eq_true rfl⟩⟩ gw_2_88 gw_2_89 (fun H _ hz _ => PP.recv (f := 1) (i := v1) X.2.1 hz.1 (show v1 < 773 by omega) rfl rfl) rfl rfl (Nat.le_of_ble_eq_true rfl) dX4_fits_73 ?_
      refine tv_aload_n X dX4_fits_76 rfl 0 rfl ?_
      refine gX3_1 X (by omega) gw_1_177 dX4_fits_77 ?_
      obtain ⟨s13, x14, hs13, h⟩ := cl_some h
      refine tv_callVi (st := [.int x12, .ref (ad 1 v1)]) X (c_X3_length Γ.2.1 Ω ad A s11 (646 + 2 * v0) (by omega) hs13) ⟨gw_2_90, gw_4_50, gw_1_2, q_X3_length, rfl, rfl, ⟨Nat.le_of_ble_eq_true rfl, Nat.le_of_ble_eq_true rfl⟩⟩ gw_2_88 gw_2_89 (fun H _ hz _ => PP.recv (f := 1) (i := (646 + 2 * v0)) X.2.1 hz.1 (show (646 + 2 * v0) < 773 by omega) rfl rfl) rfl rfl (Nat.le_of_ble_eq_true rfl) dX4_fits_80 ?_
      refine tv_isub X dX4_fits_83 ?_
      refine tv_aload_n X dX4_fits_84 rfl 0 rfl ?_
      refine gX3_1 X (by omega) gw_1_177 dX4_fits_85 ?_
      obtain ⟨s15, x16, hs15, h⟩ := cl_some h
      refine tv_callVi (st := []) X (c_X3_holdsAt Γ.2.1 Ω ad A s13 v1 (x12 - x14) (646 + 2 * v0) (by omega) (by omega) hs15) ⟨gw_3_22, gw_4_54, gw_1_2, q_X3_holdsAt, rfl, rfl, ⟨Nat.le_of_ble_eq_true rfl, Nat.le_of_ble_eq_true rfl⟩⟩ gw_3_20 gw_3_21 (fun H _ hz _ => PP.recv (f := 1) (i := v1) X.2.1 hz.1 (show v1 < 773 by omega) rfl rfl) rfl rfl (Nat.le_of_ble_eq_true rfl) dX4_fits_88 ?_
      refine tv_if_eq X 98 dX4_fits_91 (by decide) h (fun h => ?_) (fun h => ?_)
      · refine tv_iconst X 0 dX4_fits_98 (by decide) ?_
        exact tv_zret X dX4_fits_99 (Or.inl rfl) h
      · refine tv_iconst X 1 dX4_fits_94 (by decide) ?_
        refine tv_goto X 99 dX4_fits_95 (by decide) ?_
        exact tv_zret X dX4_fits_99 (Or.inr rfl) h
set_option maxHeartbeats 4000000 in
set_option maxRecDepth 100000 in
theorem c_X4_fits (l : Launch) (Ω : Wd) (ad : Nat → Nat → Nat) (A : Nat → Prop) (σ : St) (o : Nat) (a1 : Nat) (a2 : Int32) (a3 : Int32) (bo : o < 64) (ba1 : a1 < 773) {res : St × Int32} (h : f_X4_fits σ o a1 a2 a3 = some res) : Met l yX4_fits (wsO yX4_fits cX4_fits 6 (some .boolean)) rm_X4_fits (PcZ Ω A (PicX Ω ad A σ) [.ref (ad 5 o), .ref (ad 1 a1), .int a2, .int a3]) (Qci (PicX Ω ad A) A res) 0 0 A := by
  refine Met.ofV (by decide) rfl (fun Γ hΓ X => ?_)
  have X : Fx Γ Ω A cX4_fits 6 "MappingTexts$Rule" rm_X4_fits (some .boolean) := X
  unfold f_X4_fits at h
  show V Γ (0, 0) _ A 6 _ 0 [(0, .ref (ad 5 o)), (1, .ref (ad 1 a1)), (2, .int a2), (3, .int a3)] []
  refine tv_aload_n X dX4_fits_0 rfl 1 rfl ?_
  obtain ⟨s1, x2, hs1, h⟩ := cl_some h
  refine tv_callVi (st := []) X (c_X3_length Γ.2.1 Ω ad A σ a1 (by omega) hs1) ⟨gw_2_90, gw_4_50, gw_1_2, q_X3_length, rfl, rfl, ⟨Nat.le_of_ble_eq_true rfl, Nat.le_of_ble_eq_true rfl⟩⟩ gw_2_88 gw_2_89 (fun H _ hz _ => PP.recv (f := 1) (i := a1) X.2.1 hz.1 (show a1 < 773 by omega) rfl rfl) rfl rfl (Nat.le_of_ble_eq_true rfl) dX4_fits_1 ?_
  refine tv_iload_n X dX4_fits_4 rfl 2 rfl ?_
  refine tv_isub X dX4_fits_5 ?_
  refine tv_istore X dX4_fits_6 (by decide) [(4, .int (x2 - a2)), (0, .ref (ad 5 o)), (1, .ref (ad 1 a1)), (2, .int a2), (3, .int a3)] rfl ?_
  refine tv_aload_n X dX4_fits_8 rfl 1 rfl ?_
  refine gX3_0 X (by omega) gw_1_175 dX4_fits_9 ?_
  obtain ⟨s3, x4, hs3, h⟩ := cl_some h
  refine tv_callVi (st := []) X (c_X3_length Γ.2.1 Ω ad A s1 (645 + 2 * o) (by omega) hs3) ⟨gw_2_90, gw_4_50, gw_1_2, q_X3_length, rfl, rfl, ⟨Nat.le_of_ble_eq_true rfl, Nat.le_of_ble_eq_true rfl⟩⟩ gw_2_88 gw_2_89 (fun H _ hz _ => PP.recv (f := 1) (i := (645 + 2 * o)) X.2.1 hz.1 (show (645 + 2 * o) < 773 by omega) rfl rfl) rfl rfl (Nat.le_of_ble_eq_true rfl) dX4_fits_12 ?_
  refine tv_aload_n X dX4_fits_15 rfl 1 rfl ?_
  refine gX3_1 X (by omega) gw_1_177 dX4_fits_16 ?_
  obtain ⟨s5, x6, hs5, h⟩ := cl_some h
  refine tv_callVi (st := [.int x4]) X (c_X3_length Γ.2.1 Ω ad A s3 (646 + 2 * o) (by omega) hs5) ⟨gw_2_90, gw_4_50, gw_1_2, q_X3_length, rfl, rfl, ⟨Nat.le_of_ble_eq_true rfl, Nat.le_of_ble_eq_true rfl⟩⟩ gw_2_88 gw_2_89 (fun H _ hz _ => PP.recv (f := 1) (i := (646 + 2 * o)) X.2.1 hz.1 (show (646 + 2 * o) < 773 by omega) rfl rfl) rfl rfl (Nat.le_of_ble_eq_true rfl) dX4_fits_19 ?_
  refine tv_iadd X dX4_fits_22 ?_
  refine tv_istore X dX4_fits_23 (by decide) [(5, .int (x4 + x6)), (4, .int (x2 - a2)), (0, .ref (ad 5 o)), (1, .ref (ad 1 a1)), (2, .int a2), (3, .int a3)] rfl ?_
  refine tv_iload X dX4_fits_25 1 rfl ?_
  refine tv_iload X dX4_fits_27 0 rfl ?_
  refine tv_icmp_lt X 46 dX4_fits_29 (by decide) h (fun h => ?_) (fun h => ?_)
  · refine tv_iconst X 0 dX4_fits_46 (by decide) ?_
    exact tv_zret X dX4_fits_47 (Or.inl rfl) h
  · refine tv_iload X dX4_fits_32 1 rfl ?_
    refine tv_iload X dX4_fits_34 0 rfl ?_
    refine tv_icmp_le X 48 dX4_fits_36 (by decide) h (fun h => ?_) (fun h => ?_)
    · refine V.pick [2, 3, 4, 5] rfl ?_
      exact l_X4_fits_48 X s5 o a1 a2 a3 (by omega) (by omega) h
    · refine tv_aload_n X dX4_fits_39 rfl 2 rfl ?_
      refine gX3_2 X (by omega) gw_1_179 dX4_fits_40 ?_
      refine tv_if_ne X 48 dX4_fits_43 (by decide) h (fun h => ?_) (fun h => ?_)
      · refine V.pick [2, 3, 4, 5] rfl ?_
        exact l_X4_fits_48 X s5 o a1 a2 a3 (by omega) (by omega) h
      · refine tv_iconst X 0 dX4_fits_46 (by decide) ?_
        exact tv_zret X dX4_fits_47 (Or.inl rfl) h
set_option maxHeartbeats 4000000 in
set_option maxRecDepth 100000 in
theorem l_X4_printTo_27 {Γ : Cx} {Ω : Wd} {ad : Nat → Nat → Nat} {A : Nat → Prop} {res : St × Unit} (X : Fx Γ Ω A cX4_printTo 2 "MappingTexts$Rule" rm_X4_printTo none) (σ : St) (v0 : Nat) (v1 : Nat) (bv0 : v0 < 64) (bv1 : v1 < 773) (h : f_X4_printTo_27 σ v0 v1 = some res) : V Γ (0, 0) (Qe Γ (0, 0) A (Qcv (PicX Ω ad A) A res)) A 2 (PicX Ω ad A σ) 27 [(0, .ref (ad 5 v0)), (1, .ref (ad 1 v1))] [] := by
  unfold f_X4_printTo_27 at h
  refine tv_aload_n X dX4_printTo_27 rfl 1 rfl ?_
  refine tv_aload_n X dX4_printTo_28 rfl 0 rfl ?_
  refine gX3_1 X (by omega) gw_1_177 dX4_printTo_29 ?_
  obtain ⟨s4, _u32, hs4, h⟩ := cl_some h
  refine tv_callVv (st := []) X (c_X3_addAll Γ.2.1 Ω ad A σ v1 (646 + 2 * v0) (by omega) (by omega) hs4) ⟨gw_4_160, gw_4_171, gw_1_2, q_X3_addAll, rfl, rfl, ⟨Nat.le_of_ble_eq_true rfl, Nat.le_of_ble_eq_true rfl⟩⟩ gw_4_158 gw_4_159 (fun H _ hz _ => PP.recv (f := 1) (i := v1) X.2.1 hz.1 (show v1 < 773 by omega) rfl rfl) rfl rfl (Nat.le_of_ble_eq_true rfl) dX4_printTo_32 ?_
  refine tv_aload_n X dX4_printTo_35 rfl 1 rfl ?_
  refine tv_bipush X 58 dX4_printTo_36 (by decide) ?_
  obtain ⟨s5, _u38, hs5, h⟩ := cl_some h
  refine tv_callVv (st := []) X (c_X3_add Γ.2.1 Ω ad A s4 v1 58 (by omega) hs5) ⟨gw_2_86, gw_4_172, gw_1_2, q_X3_add, rfl, rfl, ⟨Nat.le_of_ble_eq_true rfl, Nat.le_of_ble_eq_true rfl⟩⟩ gw_2_84 gw_2_85 (fun H _ hz _ => PP.recv (f := 1) (i := v1) X.2.1 hz.1 (show v1 < 773 by omega) rfl rfl) rfl rfl (Nat.le_of_ble_eq_true rfl) dX4_printTo_38 ?_
  refine tv_aload_n X dX4_printTo_41 rfl 1 rfl ?_
  refine tv_aload_n X dX4_printTo_42 rfl 0 rfl ?_
  refine gX3_3 X (by omega) gw_1_181 dX4_printTo_43 ?_
  obtain ⟨s6, x7, hs6, h⟩ := cl_some h
  have hbx7 := b_X2_kindWord hs6
  refine tv_callSr (st := [.ref (ad 1 v1)]) X (c_X2_kindWord Γ.2.1 Ω ad A s5 (gi s5 303 v0) hs6) ⟨gw_3_59, gw_4_173, gw_1_16, q_X2_kindWord, rfl, rfl, ⟨Nat.le_of_ble_eq_true rfl, Nat.le_of_ble_eq_true rfl⟩⟩ gw_3_58 rfl rfl (Nat.le_of_ble_eq_true rfl) dX4_printTo_46 ?_
  obtain ⟨s8, _u49, hs8, h⟩ := cl_some h
  refine tv_callVv (st := []) X (c_X3_addWord Γ.2.1 Ω ad A s6 v1 x7 (by omega) (by omega) hs8) ⟨gw_4_140, gw_4_170, gw_1_2, q_X3_addWord, rfl, rfl, ⟨Nat.le_of_ble_eq_true rfl, Nat.le_of_ble_eq_true rfl⟩⟩ gw_4_138 gw_4_139 (fun H _ hz _ => PP.recv (f := 1) (i := v1) X.2.1 hz.1 (show v1 < 773 by omega) rfl rfl) rfl rfl (Nat.le_of_ble_eq_true rfl) dX4_printTo_49 ?_
  refine tv_aload_n X dX4_printTo_52 rfl 1 rfl ?_
  refine tv_bipush X 59 dX4_printTo_53 (by decide) ?_
  obtain ⟨s9, _u55, hs9, h⟩ := cl_some h
  refine tv_callVv (st := []) X (c_X3_add Γ.2.1 Ω ad A s8 v1 59 (by omega) hs9) ⟨gw_2_86, gw_4_172, gw_1_2, q_X3_add, rfl, rfl, ⟨Nat.le_of_ble_eq_true rfl, Nat.le_of_ble_eq_true rfl⟩⟩ gw_2_84 gw_2_85 (fun H _ hz _ => PP.recv (f := 1) (i := v1) X.2.1 hz.1 (show v1 < 773 by omega) rfl rfl) rfl rfl (Nat.le_of_ble_eq_true rfl) dX4_printTo_55 ?_
  exact tv_vret X dX4_printTo_58 h
set_option maxHeartbeats 4000000 in
set_option maxRecDepth 100000 in
theorem c_X4_printTo (l : Launch) (Ω : Wd) (ad : Nat → Nat → Nat) (A : Nat → Prop) (σ : St) (o : Nat) (a1 : Nat) (bo : o < 64) (ba1 : a1 < 773) {res : St × Unit} (h : f_X4_printTo σ o a1 = some res) : Met l yX4_printTo (wsO yX4_printTo cX4_printTo 2 none) rm_X4_printTo (PcZ Ω A (PicX Ω ad A σ) [.ref (ad 5 o), .ref (ad 1 a1)]) (Qcv (PicX Ω ad A) A res) 0 0 A := by
  refine Met.ofV (by decide) rfl (fun Γ hΓ X => ?_)
  have X : Fx Γ Ω A cX4_printTo 2 "MappingTexts$Rule" rm_X4_printTo none := X
  unfold f_X4_printTo at h
  show V Γ (0, 0) _ A 2 _ 0 [(0, .ref (ad 5 o)), (1, .ref (ad 1 a1))] []
  refine tv_aload_n X dX4_printTo_0 rfl 1 rfl ?_
  refine tv_ldcS X 18 (List.mem_of_getElem? (i := 20) rfl) dX4_printTo_1 ?_
  obtain ⟨s1, _u3, hs1, h⟩ := cl_some h
  refine tv_callVv (st := []) X (c_X3_addWord Γ.2.1 Ω ad A σ a1 18 (by omega) (by decide) hs1) ⟨gw_4_140, gw_4_170, gw_1_2, q_X3_addWord, rfl, rfl, ⟨Nat.le_of_ble_eq_true rfl, Nat.le_of_ble_eq_true rfl⟩⟩ gw_4_138 gw_4_139 (fun H _ hz _ => PP.recv (f := 1) (i := a1) X.2.1 hz.1 (show a1 < 773 by omega) rfl rfl) rfl rfl (Nat.le_of_ble_eq_true rfl) dX4_printTo_3 ?_
  refine tv_aload_n X dX4_printTo_6 rfl 1 rfl ?_
  refine tv_aload_n X dX4_printTo_7 rfl 0 rfl ?_
  refine gX3_0 X (by omega) gw_1_175 dX4_printTo_8 ?_
  obtain ⟨s2, _u11, hs2, h⟩ := cl_some h
  refine tv_callVv (st := []) X (c_X3_addAll Γ.2.1 Ω ad A s1 a1 (645 + 2 * o) (by omega) (by omega) hs2) ⟨gw_4_160, gw_4_171, gw_1_2, q_X3_addAll, rfl, rfl, ⟨Nat.le_of_ble_eq_true rfl, Nat.le_of_ble_eq_true rfl⟩⟩ gw_4_158 gw_4_159 (fun H _ hz _ => PP.recv (f := 1) (i := a1) X.2.1 hz.1 (show a1 < 773 by omega) rfl rfl) rfl rfl (Nat.le_of_ble_eq_true rfl) dX4_printTo_11 ?_
  refine tv_aload_n X dX4_printTo_14 rfl 0 rfl ?_
  refine gX3_2 X (by omega) gw_1_179 dX4_printTo_15 ?_
  refine tv_if_eq X 27 dX4_printTo_18 (by decide) h (fun h => ?_) (fun h => ?_)
  · exact l_X4_printTo_27 X s2 o a1 (by omega) (by omega) h
  · refine tv_aload_n X dX4_printTo_21 rfl 1 rfl ?_
    refine tv_bipush X 42 dX4_printTo_22 (by decide) ?_
    obtain ⟨s3, _u24, hs3, h⟩ := cl_some h
    refine tv_callVv (st := []) X (c_X3_add Γ.2.1 Ω ad A s2 a1 42 (by omega) hs3) ⟨gw_2_86, gw_4_172, gw_1_2, q_X3_add, rfl, rfl, ⟨Nat.le_of_ble_eq_true rfl, Nat.le_of_ble_eq_true rfl⟩⟩ gw_2_84 gw_2_85 (fun H _ hz _ => PP.recv (f := 1) (i := a1) X.2.1 hz.1 (show a1 < 773 by omega) rfl rfl) rfl rfl (Nat.le_of_ble_eq_true rfl) dX4_printTo_24 ?_
    exact l_X4_printTo_27 X s3 o a1 (by omega) (by omega) h
set_option maxHeartbeats 4000000 in
set_option maxRecDepth 100000 in
theorem c_X5_placeOfFault (l : Launch) (Ω : Wd) (ad : Nat → Nat → Nat) (A : Nat → Prop) (σ : St) {res : St × Int32} (h : f_X5_placeOfFault σ = some res) : Met l yX5_placeOfFault (wsO yX5_placeOfFault cX5_placeOfFault 1 (some .int)) rm_X5_placeOfFault (PcZ Ω A (PicX Ω ad A σ) [.ref (ad 10 0)]) (Qci (PicX Ω ad A) A res) 0 0 A := by
  refine Met.ofV (by decide) rfl (fun Γ hΓ X => ?_)
  have X : Fx Γ Ω A cX5_placeOfFault 1 "MappingTexts$TextReader" rm_X5_placeOfFault (some .int) := X
  unfold f_X5_placeOfFault at h
  show V Γ (0, 0) _ A 1 _ 0 [(0, .ref (ad 10 0))] []
  refine tv_aload_n X dX5_placeOfFault_0 rfl 0 rfl ?_
  refine gX4_16 X (by omega) gw_2_8 dX5_placeOfFault_1 ?_
  exact tv_iret X dX5_placeOfFault_4 h
set_option maxHeartbeats 4000000 in
set_option maxRecDepth 100000 in
theorem c_X7_begin (l : Launch) (Ω : Wd) (ad : Nat → Nat → Nat) (A : Nat → Prop) (σ : St) (o : Nat) (bo : o < 8) {res : St × Unit} (h : f_X7_begin σ o = some res) : Met l yX7_begin (wsO yX7_begin cX7_begin 1 none) rm_X7_begin (PcZ Ω A (PicX Ω ad A σ) [.ref (ad 3 o)]) (Qcv (PicX Ω ad A) A res) 0 0 A := by
  refine Met.ofV (by decide) rfl (fun Γ hΓ X => ?_)
  have X : Fx Γ Ω A cX7_begin 1 "MappingTexts$Version" rm_X7_begin none := X
  unfold f_X7_begin at h
  show V Γ (0, 0) _ A 1 _ 0 [(0, .ref (ad 3 o))] []
  refine tv_aload_n X dX7_begin_0 rfl 0 rfl ?_
  refine tv_iconst X 0 dX7_begin_1 (by decide) ?_
  refine pX6_3 X (by omega) gw_1_201 dX7_begin_2 ?_
  refine tv_ns h (fun s1 h => ?_)
  refine tv_aload_n X dX7_begin_5 rfl 0 rfl ?_
  refine tv_iconst X 0 dX7_begin_6 (by decide) ?_
  refine pX6_4 X (by omega) gw_1_205 dX7_begin_7 ?_
  refine tv_ns h (fun s2 h => ?_)
  refine tv_aload_n X dX7_begin_10 rfl 0 rfl ?_
  refine tv_bipush X 40 dX7_begin_11 (by decide) ?_
  refine pX6_5 X (by omega) gw_1_208 dX7_begin_13 ?_
  refine tv_ns h (fun s3 h => ?_)
  exact tv_vret X dX7_begin_16 h
