set_option maxHeartbeats 4000000 in
set_option maxRecDepth 100000 in
theorem c_X5_begin (l : Launch) (Ω : Wd) (ad : Nat → Nat → Nat) (A : Nat → Prop) (σ : St) (a1 : Nat) (ba1 : a1 < 8) {res : St × Unit} (h : f_X5_begin σ a1 = some res) : Met l yX5_begin (wsO yX5_begin cX5_begin 2 none) rm_X5_begin (PcZ Ω A (PicX Ω ad A σ) [.ref (ad 10 0), .ref (ad 3 a1)]) (Qcv (PicX Ω ad A) A res) 0 0 A := by
  refine Met.ofV (by decide) rfl (fun Γ hΓ X => ?_)
  have X : Fx Γ Ω A cX5_begin 2 "MappingTexts$TextReader" rm_X5_begin none := X
  unfold f_X5_begin at h
  show V Γ (0, 0) _ A 2 _ 0 [(0, .ref (ad 10 0)), (1, .ref (ad 3 a1))] []
  refine tv_aload_n X dX5_begin_0 rfl 0 rfl ?_
  refine tv_aload_n X dX5_begin_1 rfl 1 rfl ?_
  refine pX4_6 X (by omega) (by omega) gw_1_238 dX5_begin_2 ?_
  refine tv_ns h (fun s1 h => ?_)
  refine tv_aload_n X dX5_begin_5 rfl 0 rfl ?_
  refine gX4_6 X (by omega) gw_1_238 dX5_begin_6 (fun hg6 => ?_)
  obtain ⟨s2, _u9, hs2, h⟩ := cl_some h
  refine tv_callVv (st := []) X (c_X7_begin Γ.2.1 Ω ad A s1 (gr s1 2 0) (by omega) hs2) ⟨gw_2_110, gw_2_107, gw_1_6, q_X7_begin, rfl, rfl, ⟨Nat.le_of_ble_eq_true rfl, Nat.le_of_ble_eq_true rfl⟩⟩ gw_2_108 gw_2_109 (fun H _ hz _ => PP.recv (f := 3) (i := (gr s1 2 0)) X.2.1 hz.1 (show (gr s1 2 0) < 8 by omega) rfl rfl) rfl rfl (Nat.le_of_ble_eq_true rfl) dX5_begin_9 ?_
  refine tv_aload_n X dX5_begin_12 rfl 0 rfl ?_
  refine tv_iconst X 0 dX5_begin_13 (by decide) ?_
  refine pX4_9 X (by omega) gw_2_1 dX5_begin_14 ?_
  refine tv_ns h (fun s3 h => ?_)
  refine tv_aload_n X dX5_begin_17 rfl 0 rfl ?_
  refine tv_iconst X 0 dX5_begin_18 (by decide) ?_
  refine pX4_10 X (by omega) gw_2_2 dX5_begin_19 ?_
  refine tv_ns h (fun s4 h => ?_)
  refine tv_aload_n X dX5_begin_22 rfl 0 rfl ?_
  refine tv_bipush X (-2) dX5_begin_23 (by decide) ?_
  refine pX4_14 X (by omega) gw_2_6 dX5_begin_25 ?_
  refine tv_ns h (fun s5 h => ?_)
  refine tv_aload_n X dX5_begin_28 rfl 0 rfl ?_
  refine tv_iconst X 0 dX5_begin_29 (by decide) ?_
  refine pX4_15 X (by omega) gw_2_7 dX5_begin_30 ?_
  refine tv_ns h (fun s6 h => ?_)
  refine tv_aload_n X dX5_begin_33 rfl 0 rfl ?_
  refine tv_bipush X (-2) dX5_begin_34 (by decide) ?_
  refine pX4_16 X (by omega) gw_2_8 dX5_begin_36 ?_
  refine tv_ns h (fun s7 h => ?_)
  exact tv_vret X dX5_begin_39 h
set_option maxHeartbeats 4000000 in
set_option maxRecDepth 100000 in
theorem l_X5_blame_31 {Γ : Cx} {Ω : Wd} {ad : Nat → Nat → Nat} {A : Nat → Prop} {res : St × Unit} (X : Fx Γ Ω A cX5_blame 3 "MappingTexts$TextReader" rm_X5_blame none) (σ : St) (v1 : Int32) (v2 : Int32) (h : f_X5_blame_31 σ v1 v2 = some res) : V Γ (0, 0) (Qe Γ (0, 0) A (Qcv (PicX Ω ad A) A res)) A 3 (PicX Ω ad A σ) 31 [(0, .ref (ad 10 0)), (1, .int v1), (2, .int v2)] [] := by
  unfold f_X5_blame_31 at h
  refine tv_aload_n X dX5_blame_31 rfl 0 rfl ?_
  refine tv_iload_n X dX5_blame_32 rfl 1 rfl ?_
  refine pX4_15 X (by omega) gw_2_7 dX5_blame_33 ?_
  refine tv_ns h (fun s1 h => ?_)
  refine tv_aload_n X dX5_blame_36 rfl 0 rfl ?_
  refine tv_iload_n X dX5_blame_37 rfl 2 rfl ?_
  refine pX4_16 X (by omega) gw_2_8 dX5_blame_38 ?_
  refine tv_ns h (fun s2 h => ?_)
  exact tv_vret X dX5_blame_41 h
set_option maxHeartbeats 4000000 in
set_option maxRecDepth 100000 in
theorem c_X5_blame (l : Launch) (Ω : Wd) (ad : Nat → Nat → Nat) (A : Nat → Prop) (σ : St) (a1 : Int32) (a2 : Int32) {res : St × Unit} (h : f_X5_blame σ a1 a2 = some res) : Met l yX5_blame (wsO yX5_blame cX5_blame 3 none) rm_X5_blame (PcZ Ω A (PicX Ω ad A σ) [.ref (ad 10 0), .int a1, .int a2]) (Qcv (PicX Ω ad A) A res) 0 0 A := by
  refine Met.ofV (by decide) rfl (fun Γ hΓ X => ?_)
  have X : Fx Γ Ω A cX5_blame 3 "MappingTexts$TextReader" rm_X5_blame none := X
  unfold f_X5_blame at h
  show V Γ (0, 0) _ A 3 _ 0 [(0, .ref (ad 10 0)), (1, .int a1), (2, .int a2)] []
  refine tv_aload_n X dX5_blame_0 rfl 0 rfl ?_
  refine gX4_15 X (by omega) gw_2_7 dX5_blame_1 ?_
  refine tv_if_eq X 31 dX5_blame_4 (by decide) h (fun h => ?_) (fun h => ?_)
  · exact l_X5_blame_31 X σ a1 a2 h
  · refine tv_iload_n X dX5_blame_7 rfl 2 rfl ?_
    refine tv_aload_n X dX5_blame_8 rfl 0 rfl ?_
    refine gX4_16 X (by omega) gw_2_8 dX5_blame_9 ?_
    refine tv_icmp_lt X 31 dX5_blame_12 (by decide) h (fun h => ?_) (fun h => ?_)
    · exact l_X5_blame_31 X σ a1 a2 h
    · refine tv_iload_n X dX5_blame_15 rfl 2 rfl ?_
      refine tv_aload_n X dX5_blame_16 rfl 0 rfl ?_
      refine gX4_16 X (by omega) gw_2_8 dX5_blame_17 ?_
      refine tv_icmp_ne X 41 dX5_blame_20 (by decide) h (fun h => ?_) (fun h => ?_)
      · exact tv_vret X dX5_blame_41 h
      · refine tv_iload_n X dX5_blame_23 rfl 1 rfl ?_
        refine tv_aload_n X dX5_blame_24 rfl 0 rfl ?_
        refine gX4_15 X (by omega) gw_2_7 dX5_blame_25 ?_
        refine tv_icmp_ge X 41 dX5_blame_28 (by decide) h (fun h => ?_) (fun h => ?_)
        · exact tv_vret X dX5_blame_41 h
        · exact l_X5_blame_31 X σ a1 a2 h
set_option maxHeartbeats 4000000 in
set_option maxRecDepth 100000 in
theorem l_X5_isInCircle_37 {Γ : Cx} {Ω : Wd} {ad : Nat → Nat → Nat} {A : Nat → Prop} {res : St × Int32} (X : Fx Γ Ω A cX5_isInCircle 4 "MappingTexts$TextReader" rm_X5_isInCircle (some .boolean)) (σ : St) (v1 : Int32) (v2 : Int32) (h : f_X5_isInCircle_37 σ v1 v2 = some res) : V Γ (0, 0) (Qe Γ (0, 0) A (Qci (PicX Ω ad A) A res)) A 4 (PicX Ω ad A σ) 37 [(1, .int v1), (2, .int v2)] [] := by
  unfold f_X5_isInCircle_37 at h
  refine tv_iload_n X dX5_isInCircle_37 rfl 1 rfl ?_
  refine tv_iload_n X dX5_isInCircle_38 rfl 0 rfl ?_
  refine tv_icmp_ne X 46 dX5_isInCircle_39 (by decide) h (fun h => ?_) (fun h => ?_)
  · refine tv_iconst X 0 dX5_isInCircle_46 (by decide) ?_
    exact tv_zret X dX5_isInCircle_47 (Or.inl rfl) h
  · refine tv_iconst X 1 dX5_isInCircle_42 (by decide) ?_
    refine tv_goto X 47 dX5_isInCircle_43 (by decide) ?_
    exact tv_zret X dX5_isInCircle_47 (Or.inr rfl) h
set_option maxHeartbeats 4000000 in
set_option maxRecDepth 100000 in
theorem l_X5_isInCircle_4 {Γ : Cx} {Ω : Wd} {ad : Nat → Nat → Nat} {A : Nat → Prop} {res : St × Int32} (X : Fx Γ Ω A cX5_isInCircle 4 "MappingTexts$TextReader" rm_X5_isInCircle (some .boolean)) : ∀ (n : Nat) (σ : St) (v1 : Int32) (v2 : Int32) (v3 : Int32), f_X5_isInCircle_4 n σ v1 v2 v3 = some res → V Γ (0, 0) (Qe Γ (0, 0) A (Qci (PicX Ω ad A) A res)) A 4 (PicX Ω ad A σ) 4 [(0, .ref (ad 10 0)), (1, .int v1), (2, .int v2), (3, .int v3)] [] := by
  intro n
  induction n with
  | zero =>
    intro σ v1 v2 v3 h
    cases (show none = some res from h)
  | succ n ih =>
    intro σ v1 v2 v3 h
    rw [f_X5_isInCircle_4] at h
    refine tv_iload_n X dX5_isInCircle_4 rfl 3 rfl ?_
    refine tv_aload_n X dX5_isInCircle_5 rfl 0 rfl ?_
    refine gX4_6 X (by omega) gw_1_238 dX5_isInCircle_6 (fun hg6 => ?_)
    refine gX6_3 X (by omega) gw_1_203 dX5_isInCircle_9 ?_
    refine tv_icmp_ge X 54 dX5_isInCircle_12 (by decide) h (fun h => ?_) (fun h => ?_)
    · refine tv_iconst X 0 dX5_isInCircle_54 (by decide) ?_
      exact tv_zret X dX5_isInCircle_55 (Or.inl rfl) h
    · refine tv_aload_n X dX5_isInCircle_15 rfl 0 rfl ?_
      refine gX4_6 X (by omega) gw_1_238 dX5_isInCircle_16 (fun hg16 => ?_)
      refine gX6_0 X (by omega) gw_1_194 dX5_isInCircle_19 ?_
      refine tv_iload_n X dX5_isInCircle_22 rfl 2 rfl ?_
      refine aaX6 X (by omega) dX5_isInCircle_23 h (fun j1 hj1 h => ?_)
      refine gX1_5 X (by omega) gw_1_137 dX5_isInCircle_24 ?_
      refine tv_nm h (fun x2 h => ?_)
      refine tv_istore_n X dX5_isInCircle_27 rfl (by decide) [(2, .int x2), (0, .ref (ad 10 0)), (1, .int v1), (3, .int v3)] rfl ?_
      refine tv_iload_n X dX5_isInCircle_28 rfl 0 rfl ?_
      refine tv_if_lt X 37 dX5_isInCircle_29 (by decide) h (fun h => ?_) (fun h => ?_)
      · refine V.pick [2, 0] rfl ?_
        exact l_X5_isInCircle_37 X σ v1 x2 h
      · refine tv_iload_n X dX5_isInCircle_32 rfl 0 rfl ?_
        refine tv_iload_n X dX5_isInCircle_33 rfl 2 rfl ?_
        refine tv_icmp_ne X 48 dX5_isInCircle_34 (by decide) h (fun h => ?_) (fun h => ?_)
        · refine tv_iinc X (v3 + 1) dX5_isInCircle_48 3 rfl rfl (by decide) [(3, .int (v3 + 1)), (2, .int x2), (0, .ref (ad 10 0)), (1, .int v1)] rfl ?_
          refine tv_goto X 4 dX5_isInCircle_51 (by decide) ?_
          refine V.pick [2, 3, 1, 0] rfl ?_
          exact ih σ v1 x2 (v3 + 1) h
        · refine V.pick [2, 0] rfl ?_
          exact l_X5_isInCircle_37 X σ v1 x2 h
set_option maxHeartbeats 4000000 in
set_option maxRecDepth 100000 in
theorem c_X5_isInCircle (l : Launch) (Ω : Wd) (ad : Nat → Nat → Nat) (A : Nat → Prop) (σ : St) (a1 : Int32) {res : St × Int32} (h : f_X5_isInCircle σ a1 = some res) : Met l yX5_isInCircle (wsO yX5_isInCircle cX5_isInCircle 4 (some .boolean)) rm_X5_isInCircle (PcZ Ω A (PicX Ω ad A σ) [.ref (ad 10 0), .int a1]) (Qci (PicX Ω ad A) A res) 0 0 A := by
  refine Met.ofV (by decide) rfl (fun Γ hΓ X => ?_)
  have X : Fx Γ Ω A cX5_isInCircle 4 "MappingTexts$TextReader" rm_X5_isInCircle (some .boolean) := X
  unfold f_X5_isInCircle at h
  show V Γ (0, 0) _ A 4 _ 0 [(0, .ref (ad 10 0)), (1, .int a1)] []
  refine tv_iload_n X dX5_isInCircle_0 rfl 1 rfl ?_
  refine tv_istore_n X dX5_isInCircle_1 rfl (by decide) [(2, .int a1), (0, .ref (ad 10 0)), (1, .int a1)] rfl ?_
  refine tv_iconst X 0 dX5_isInCircle_2 (by decide) ?_
  refine tv_istore_n X dX5_isInCircle_3 rfl (by decide) [(3, .int 0), (2, .int a1), (0, .ref (ad 10 0)), (1, .int a1)] rfl ?_
  refine V.pick [2, 3, 1, 0] rfl ?_
  exact l_X5_isInCircle_4 X fl σ a1 a1 0 h
set_option maxHeartbeats 4000000 in
set_option maxRecDepth 100000 in
theorem l_X6_placeAt_21 {Γ : Cx} {Ω : Wd} {ad : Nat → Nat → Nat} {A : Nat → Prop} {res : St × Int32} (X : Fx Γ Ω A cX6_placeAt 2 "MappingTexts$Tokens" rm_X6_placeAt (some .int)) (σ : St) (h : f_X6_placeAt_21 σ = some res) : V Γ (0, 0) (Qe Γ (0, 0) A (Qci (PicX Ω ad A) A res)) A 2 (PicX Ω ad A σ) 21 [(0, .ref (ad 9 0))] [] := by
  unfold f_X6_placeAt_21 at h
  refine tv_aload_n X dX6_placeAt_21 rfl 0 rfl ?_
  refine gX5_0 X (by omega) gw_1_51 dX6_placeAt_22 ?_
  obtain ⟨s2, x3, hs2, h⟩ := cl_some h
  refine tv_callVi (st := []) X (c_X3_length Γ.2.1 Ω ad A σ 0 (by omega) hs2) ⟨gw_2_90, gw_2_115, gw_1_2, q_X3_length, rfl, rfl, ⟨Nat.le_of_ble_eq_true rfl, Nat.le_of_ble_eq_true rfl⟩⟩ gw_2_88 gw_2_89 (fun H _ hz _ => PP.recv (f := 1) (i := 0) X.2.1 hz.1 (show 0 < 773 by omega) rfl rfl) rfl rfl (Nat.le_of_ble_eq_true rfl) dX6_placeAt_25 ?_
  exact tv_iret X dX6_placeAt_28 h
set_option maxHeartbeats 4000000 in
set_option maxRecDepth 100000 in
theorem c_X6_placeAt (l : Launch) (Ω : Wd) (ad : Nat → Nat → Nat) (A : Nat → Prop) (σ : St) (a1 : Int32) {res : St × Int32} (h : f_X6_placeAt σ a1 = some res) : Met l yX6_placeAt (wsO yX6_placeAt cX6_placeAt 2 (some .int)) rm_X6_placeAt (PcZ Ω A (PicX Ω ad A σ) [.ref (ad 9 0), .int a1]) (Qci (PicX Ω ad A) A res) 0 0 A := by
  refine Met.ofV (by decide) rfl (fun Γ hΓ X => ?_)
  have X : Fx Γ Ω A cX6_placeAt 2 "MappingTexts$Tokens" rm_X6_placeAt (some .int) := X
  unfold f_X6_placeAt at h
  show V Γ (0, 0) _ A 2 _ 0 [(0, .ref (ad 9 0)), (1, .int a1)] []
  refine tv_iload_n X dX6_placeAt_0 rfl 1 rfl ?_
  refine tv_if_lt X 21 dX6_placeAt_1 (by decide) h (fun h => ?_) (fun h => ?_)
  · refine V.pick [0] rfl ?_
    exact l_X6_placeAt_21 X σ h
  · refine tv_iload_n X dX6_placeAt_4 rfl 1 rfl ?_
    refine tv_aload_n X dX6_placeAt_5 rfl 0 rfl ?_
    refine gX5_4 X (by omega) gw_1_55 dX6_placeAt_6 ?_
    refine tv_icmp_ge X 21 dX6_placeAt_9 (by decide) h (fun h => ?_) (fun h => ?_)
    · refine V.pick [0] rfl ?_
      exact l_X6_placeAt_21 X σ h
    · refine tv_aload_n X dX6_placeAt_12 rfl 0 rfl ?_
      refine gX5_2 X (by omega) gw_1_53 dX6_placeAt_13 ?_
      refine tv_iload_n X dX6_placeAt_16 rfl 1 rfl ?_
      refine iaX X (by omega) dX6_placeAt_17 h (fun j1 hj1 h => ?_)
      refine tv_goto X 28 dX6_placeAt_18 (by decide) ?_
      exact tv_iret X dX6_placeAt_28 h
set_option maxHeartbeats 4000000 in
set_option maxRecDepth 100000 in
theorem l_X5_lookAtCircles_40 {Γ : Cx} {Ω : Wd} {ad : Nat → Nat → Nat} {A : Nat → Prop} {res : St × Unit} (X : Fx Γ Ω A cX5_lookAtCircles 2 "MappingTexts$TextReader" rm_X5_lookAtCircles none) {k2 : St → Int32 → Option (St × Unit)} (hk2 : ∀ (σ : St) (v1 : Int32), k2 σ v1 = some res → V Γ (0, 0) (Qe Γ (0, 0) A (Qcv (PicX Ω ad A) A res)) A 2 (PicX Ω ad A σ) 2 [(0, .ref (ad 10 0)), (1, .int v1)] []) (σ : St) (v1 : Int32) (h : f_X5_lookAtCircles_40 k2 σ v1 = some res) : V Γ (0, 0) (Qe Γ (0, 0) A (Qcv (PicX Ω ad A) A res)) A 2 (PicX Ω ad A σ) 40 [(0, .ref (ad 10 0)), (1, .int v1)] [] := by
  unfold f_X5_lookAtCircles_40 at h
  refine tv_iinc X (v1 + 1) dX5_lookAtCircles_40 1 rfl rfl (by decide) [(1, .int (v1 + 1)), (0, .ref (ad 10 0))] rfl ?_
  refine tv_goto X 2 dX5_lookAtCircles_43 (by decide) ?_
  refine V.pick [1, 0] rfl ?_
  exact hk2 σ (v1 + 1) h
set_option maxHeartbeats 4000000 in
set_option maxRecDepth 100000 in
theorem l_X5_lookAtCircles_2 {Γ : Cx} {Ω : Wd} {ad : Nat → Nat → Nat} {A : Nat → Prop} {res : St × Unit} (X : Fx Γ Ω A cX5_lookAtCircles 2 "MappingTexts$TextReader" rm_X5_lookAtCircles none) : ∀ (n : Nat) (σ : St) (v1 : Int32), f_X5_lookAtCircles_2 n σ v1 = some res → V Γ (0, 0) (Qe Γ (0, 0) A (Qcv (PicX Ω ad A) A res)) A 2 (PicX Ω ad A σ) 2 [(0, .ref (ad 10 0)), (1, .int v1)] [] := by
  intro n
  induction n with
  | zero =>
    intro σ v1 h
    cases (show none = some res from h)
  | succ n ih =>
    intro σ v1 h
    rw [f_X5_lookAtCircles_2] at h
    refine tv_iload_n X dX5_lookAtCircles_2 rfl 1 rfl ?_
    refine tv_aload_n X dX5_lookAtCircles_3 rfl 0 rfl ?_
    refine gX4_6 X (by omega) gw_1_238 dX5_lookAtCircles_4 (fun hg4 => ?_)
    refine gX6_3 X (by omega) gw_1_203 dX5_lookAtCircles_7 ?_
    refine tv_icmp_ge X 46 dX5_lookAtCircles_10 (by decide) h (fun h => ?_) (fun h => ?_)
    · exact tv_vret X dX5_lookAtCircles_46 h
    · refine tv_aload_n X dX5_lookAtCircles_13 rfl 0 rfl ?_
      refine tv_iload_n X dX5_lookAtCircles_14 rfl 1 rfl ?_
      obtain ⟨s1, x2, hs1, h⟩ := cl_some h
      refine tv_callVi (st := []) X (c_X5_isInCircle Γ.2.1 Ω ad A σ v1 hs1) ⟨gw_3_201, gw_3_198, gw_1_9, q_X5_isInCircle, rfl, rfl, ⟨Nat.le_of_ble_eq_true rfl, Nat.le_of_ble_eq_true rfl⟩⟩ gw_3_200 gw_p_34 (fun H _ hz _ => PP.recv (f := 10) (i := 0) X.2.1 hz.1 (show 0 < 1 by omega) rfl rfl) rfl rfl (Nat.le_of_ble_eq_true rfl) dX5_lookAtCircles_15 ?_
      refine tv_if_eq X 40 dX5_lookAtCircles_18 (by decide) h (fun h => ?_) (fun h => ?_)
      · exact l_X5_lookAtCircles_40 X ih s1 v1 h
      · refine tv_aload_n X dX5_lookAtCircles_21 rfl 0 rfl ?_
        refine tv_bipush X 9 dX5_lookAtCircles_22 (by decide) ?_
        refine tv_aload_n X dX5_lookAtCircles_24 rfl 0 rfl ?_
        refine gX4_0 X (by omega) gw_1_232 dX5_lookAtCircles_25 ?_
        refine tv_aload_n X dX5_lookAtCircles_28 rfl 0 rfl ?_
        refine gX4_3 X (by omega) gw_1_235 dX5_lookAtCircles_29 ?_
        refine tv_iload_n X dX5_lookAtCircles_32 rfl 1 rfl ?_
        refine iaX X (by omega) dX5_lookAtCircles_33 h (fun j3 hj3 h => ?_)
        obtain ⟨s4, x5, hs4, h⟩ := cl_some h
        refine tv_callVi (st := [.int 9, .ref (ad 10 0)]) X (c_X6_placeAt Γ.2.1 Ω ad A s1 (ga s1 8 12 j3) hs4) ⟨gw_2_136, gw_3_23, gw_1_4, q_X6_placeAt, rfl, rfl, ⟨Nat.le_of_ble_eq_true rfl, Nat.le_of_ble_eq_true rfl⟩⟩ gw_2_134 gw_2_135 (fun H _ hz _ => PP.recv (f := 9) (i := 0) X.2.1 hz.1 (show 0 < 1 by omega) rfl rfl) rfl rfl (Nat.le_of_ble_eq_true rfl) dX5_lookAtCircles_34 ?_
        obtain ⟨s6, _u37, hs6, h⟩ := cl_some h
        refine tv_callVv (st := []) X (c_X5_blame Γ.2.1 Ω ad A s4 9 x5 hs6) ⟨gw_3_27, gw_3_24, gw_1_9, q_X5_blame, rfl, rfl, ⟨Nat.le_of_ble_eq_true rfl, Nat.le_of_ble_eq_true rfl⟩⟩ gw_3_26 gw_p_8 (fun H _ hz _ => PP.recv (f := 10) (i := 0) X.2.1 hz.1 (show 0 < 1 by omega) rfl rfl) rfl rfl (Nat.le_of_ble_eq_true rfl) dX5_lookAtCircles_37 ?_
        exact l_X5_lookAtCircles_40 X ih s6 v1 h
set_option maxHeartbeats 4000000 in
set_option maxRecDepth 100000 in
theorem c_X5_lookAtCircles (l : Launch) (Ω : Wd) (ad : Nat → Nat → Nat) (A : Nat → Prop) (σ : St) {res : St × Unit} (h : f_X5_lookAtCircles σ = some res) : Met l yX5_lookAtCircles (wsO yX5_lookAtCircles cX5_lookAtCircles 2 none) rm_X5_lookAtCircles (PcZ Ω A (PicX Ω ad A σ) [.ref (ad 10 0)]) (Qcv (PicX Ω ad A) A res) 0 0 A := by
  refine Met.ofV (by decide) rfl (fun Γ hΓ X => ?_)
  have X : Fx Γ Ω A cX5_lookAtCircles 2 "MappingTexts$TextReader" rm_X5_lookAtCircles none := X
  unfold f_X5_lookAtCircles at h
  show V Γ (0, 0) _ A 2 _ 0 [(0, .ref (ad 10 0))] []
  refine tv_iconst X 0 dX5_lookAtCircles_0 (by decide) ?_
  refine tv_istore_n X dX5_lookAtCircles_1 rfl (by decide) [(1, .int 0), (0, .ref (ad 10 0))] rfl ?_
  refine V.pick [1, 0] rfl ?_
  exact l_X5_lookAtCircles_2 X fl σ 0 h
set_option maxHeartbeats 4000000 in
set_option maxRecDepth 100000 in
theorem c_X6_kindAt (l : Launch) (Ω : Wd) (ad : Nat → Nat → Nat) (A : Nat → Prop) (σ : St) (a1 : Int32) {res : St × Int32} (h : f_X6_kindAt σ a1 = some res) : Met l yX6_kindAt (wsO yX6_kindAt cX6_kindAt 2 (some .int)) rm_X6_kindAt (PcZ Ω A (PicX Ω ad A σ) [.ref (ad 9 0), .int a1]) (Qci (PicX Ω ad A) A res) 0 0 A := by
  refine Met.ofV (by decide) rfl (fun Γ hΓ X => ?_)
  have X : Fx Γ Ω A cX6_kindAt 2 "MappingTexts$Tokens" rm_X6_kindAt (some .int) := X
  unfold f_X6_kindAt at h
  show V Γ (0, 0) _ A 2 _ 0 [(0, .ref (ad 9 0)), (1, .int a1)] []
  refine tv_iload_n X dX6_kindAt_0 rfl 1 rfl ?_
  refine tv_if_lt X 21 dX6_kindAt_1 (by decide) h (fun h => ?_) (fun h => ?_)
  · refine tv_iconst X 0 dX6_kindAt_21 (by decide) ?_
    exact tv_iret X dX6_kindAt_22 h
  · refine tv_iload_n X dX6_kindAt_4 rfl 1 rfl ?_
    refine tv_aload_n X dX6_kindAt_5 rfl 0 rfl ?_
    refine gX5_4 X (by omega) gw_1_55 dX6_kindAt_6 ?_
    refine tv_icmp_ge X 21 dX6_kindAt_9 (by decide) h (fun h => ?_) (fun h => ?_)
    · refine tv_iconst X 0 dX6_kindAt_21 (by decide) ?_
      exact tv_iret X dX6_kindAt_22 h
    · refine tv_aload_n X dX6_kindAt_12 rfl 0 rfl ?_
      refine gX5_1 X (by omega) gw_1_52 dX6_kindAt_13 ?_
      refine tv_iload_n X dX6_kindAt_16 rfl 1 rfl ?_
      refine iaX X (by omega) dX6_kindAt_17 h (fun j1 hj1 h => ?_)
      refine tv_goto X 22 dX6_kindAt_18 (by decide) ?_
      exact tv_iret X dX6_kindAt_22 h
set_option maxHeartbeats 4000000 in
set_option maxRecDepth 100000 in
theorem l_X6_numberAt_4 {Γ : Cx} {Ω : Wd} {ad : Nat → Nat → Nat} {A : Nat → Prop} {res : St × Int32} (X : Fx Γ Ω A cX6_numberAt 4 "MappingTexts$Tokens" rm_X6_numberAt (some .int)) : ∀ (n : Nat) (σ : St) (v1 : Int32) (v2 : Int32) (v3 : Int32), f_X6_numberAt_4 n σ v1 v2 v3 = some res → V Γ (0, 0) (Qe Γ (0, 0) A (Qci (PicX Ω ad A) A res)) A 4 (PicX Ω ad A σ) 4 [(0, .ref (ad 9 0)), (1, .int v1), (2, .int v2), (3, .int v3)] [] := by
  intro n
  induction n with
  | zero =>
    intro σ v1 v2 v3 h
    cases (show none = some res from h)
  | succ n ih =>
    intro σ v1 v2 v3 h
    rw [f_X6_numberAt_4] at h
    refine tv_aload_n X dX6_numberAt_4 rfl 0 rfl ?_
    refine tv_iload_n X dX6_numberAt_5 rfl 1 rfl ?_
    obtain ⟨s1, x2, hs1, h⟩ := cl_some h
    refine tv_callVi (st := []) X (c_X6_kindAt Γ.2.1 Ω ad A σ v1 hs1) ⟨gw_2_163, gw_2_169, gw_1_4, q_X6_kindAt, rfl, rfl, ⟨Nat.le_of_ble_eq_true rfl, Nat.le_of_ble_eq_true rfl⟩⟩ gw_2_161 gw_2_162 (fun H _ hz _ => PP.recv (f := 9) (i := 0) X.2.1 hz.1 (show 0 < 1 by omega) rfl rfl) rfl rfl (Nat.le_of_ble_eq_true rfl) dX6_numberAt_6 ?_
    refine tv_iconst X 2 dX6_numberAt_9 (by decide) ?_
    refine tv_icmp_ne X 53 dX6_numberAt_10 (by decide) h (fun h => ?_) (fun h => ?_)
    · refine tv_iload_n X dX6_numberAt_53 rfl 2 rfl ?_
      exact tv_iret X dX6_numberAt_54 h
    · refine tv_iload_n X dX6_numberAt_13 rfl 3 rfl ?_
      refine tv_aload_n X dX6_numberAt_14 rfl 0 rfl ?_
      refine gX5_3 X (by omega) gw_1_54 dX6_numberAt_15 ?_
      refine tv_iload_n X dX6_numberAt_18 rfl 1 rfl ?_
      refine iaX X (by omega) dX6_numberAt_19 h (fun j3 hj3 h => ?_)
      refine tv_icmp_ge X 53 dX6_numberAt_20 (by decide) h (fun h => ?_) (fun h => ?_)
      · refine tv_iload_n X dX6_numberAt_53 rfl 2 rfl ?_
        exact tv_iret X dX6_numberAt_54 h
      · refine tv_iload_n X dX6_numberAt_23 rfl 2 rfl ?_
        refine tv_bipush X 10 dX6_numberAt_24 (by decide) ?_
        refine tv_imul X dX6_numberAt_26 ?_
        refine tv_aload_n X dX6_numberAt_27 rfl 0 rfl ?_
        refine gX5_0 X (by omega) gw_1_51 dX6_numberAt_28 ?_
        refine tv_aload_n X dX6_numberAt_31 rfl 0 rfl ?_
        refine gX5_2 X (by omega) gw_1_53 dX6_numberAt_32 ?_
        refine tv_iload_n X dX6_numberAt_35 rfl 1 rfl ?_
        refine iaX X (by omega) dX6_numberAt_36 h (fun j4 hj4 h => ?_)
        refine tv_iload_n X dX6_numberAt_37 rfl 3 rfl ?_
        refine tv_iadd X dX6_numberAt_38 ?_
        obtain ⟨s5, x6, hs5, h⟩ := cl_some h
        refine tv_callVi (st := [.int (v2 * 10)]) X (c_X3_at Γ.2.1 Ω ad A s1 0 ((ga s1 8 9 j4) + v3) (by omega) hs5) ⟨gw_2_119, gw_2_116, gw_1_2, q_X3_at, rfl, rfl, ⟨Nat.le_of_ble_eq_true rfl, Nat.le_of_ble_eq_true rfl⟩⟩ gw_2_117 gw_2_118 (fun H _ hz _ => PP.recv (f := 1) (i := 0) X.2.1 hz.1 (show 0 < 773 by omega) rfl rfl) rfl rfl (Nat.le_of_ble_eq_true rfl) dX6_numberAt_39 ?_
        refine tv_iadd X dX6_numberAt_42 ?_
        refine tv_bipush X 48 dX6_numberAt_43 (by decide) ?_
        refine tv_isub X dX6_numberAt_45 ?_
        refine tv_istore_n X dX6_numberAt_46 rfl (by decide) [(2, .int (((v2 * 10) + x6) - 48)), (0, .ref (ad 9 0)), (1, .int v1), (3, .int v3)] rfl ?_
        refine tv_iinc X (v3 + 1) dX6_numberAt_47 3 rfl rfl (by decide) [(3, .int (v3 + 1)), (2, .int (((v2 * 10) + x6) - 48)), (0, .ref (ad 9 0)), (1, .int v1)] rfl ?_
        refine tv_goto X 4 dX6_numberAt_50 (by decide) ?_
        refine V.pick [2, 3, 1, 0] rfl ?_
        exact ih s5 v1 (((v2 * 10) + x6) - 48) (v3 + 1) h
set_option maxHeartbeats 4000000 in
set_option maxRecDepth 100000 in
theorem c_X6_numberAt (l : Launch) (Ω : Wd) (ad : Nat → Nat → Nat) (A : Nat → Prop) (σ : St) (a1 : Int32) {res : St × Int32} (h : f_X6_numberAt σ a1 = some res) : Met l yX6_numberAt (wsO yX6_numberAt cX6_numberAt 4 (some .int)) rm_X6_numberAt (PcZ Ω A (PicX Ω ad A σ) [.ref (ad 9 0), .int a1]) (Qci (PicX Ω ad A) A res) 0 0 A := by
  refine Met.ofV (by decide) rfl (fun Γ hΓ X => ?_)
  have X : Fx Γ Ω A cX6_numberAt 4 "MappingTexts$Tokens" rm_X6_numberAt (some .int) := X
  unfold f_X6_numberAt at h
  show V Γ (0, 0) _ A 4 _ 0 [(0, .ref (ad 9 0)), (1, .int a1)] []
  refine tv_iconst X 0 dX6_numberAt_0 (by decide) ?_
  refine tv_istore_n X dX6_numberAt_1 rfl (by decide) [(2, .int 0), (0, .ref (ad 9 0)), (1, .int a1)] rfl ?_
  refine tv_iconst X 0 dX6_numberAt_2 (by decide) ?_
  refine tv_istore_n X dX6_numberAt_3 rfl (by decide) [(3, .int 0), (2, .int 0), (0, .ref (ad 9 0)), (1, .int a1)] rfl ?_
  refine V.pick [2, 3, 1, 0] rfl ?_
  exact l_X6_numberAt_4 X fl σ a1 0 0 h
set_option maxHeartbeats 4000000 in
set_option maxRecDepth 100000 in
theorem l_X5_lookAtLimit_55 {Γ : Cx} {Ω : Wd} {ad : Nat → Nat → Nat} {A : Nat → Prop} {res : St × Unit} (X : Fx Γ Ω A cX5_lookAtLimit 1 "MappingTexts$TextReader" rm_X5_lookAtLimit none) (σ : St) (h : f_X5_lookAtLimit_55 σ = some res) : V Γ (0, 0) (Qe Γ (0, 0) A (Qcv (PicX Ω ad A) A res)) A 1 (PicX Ω ad A σ) 55 [(0, .ref (ad 10 0))] [] := by
  unfold f_X5_lookAtLimit_55 at h
  refine tv_aload_n X dX5_lookAtLimit_55 rfl 0 rfl ?_
  refine tv_bipush X 10 dX5_lookAtLimit_56 (by decide) ?_
  refine tv_aload_n X dX5_lookAtLimit_58 rfl 0 rfl ?_
  refine gX4_0 X (by omega) gw_1_232 dX5_lookAtLimit_59 ?_
  refine tv_aload_n X dX5_lookAtLimit_62 rfl 0 rfl ?_
  refine gX4_14 X (by omega) gw_2_6 dX5_lookAtLimit_63 ?_
  obtain ⟨s4, x5, hs4, h⟩ := cl_some h
  refine tv_callVi (st := [.int 10, .ref (ad 10 0)]) X (c_X6_placeAt Γ.2.1 Ω ad A σ (gi σ 414 0) hs4) ⟨gw_2_136, gw_3_23, gw_1_4, q_X6_placeAt, rfl, rfl, ⟨Nat.le_of_ble_eq_true rfl, Nat.le_of_ble_eq_true rfl⟩⟩ gw_2_134 gw_2_135 (fun H _ hz _ => PP.recv (f := 9) (i := 0) X.2.1 hz.1 (show 0 < 1 by omega) rfl rfl) rfl rfl (Nat.le_of_ble_eq_true rfl) dX5_lookAtLimit_66 ?_
  obtain ⟨s6, _u69, hs6, h⟩ := cl_some h
  refine tv_callVv (st := []) X (c_X5_blame Γ.2.1 Ω ad A s4 10 x5 hs6) ⟨gw_3_27, gw_3_24, gw_1_9, q_X5_blame, rfl, rfl, ⟨Nat.le_of_ble_eq_true rfl, Nat.le_of_ble_eq_true rfl⟩⟩ gw_3_26 gw_p_8 (fun H _ hz _ => PP.recv (f := 10) (i := 0) X.2.1 hz.1 (show 0 < 1 by omega) rfl rfl) rfl rfl (Nat.le_of_ble_eq_true rfl) dX5_lookAtLimit_69 ?_
  exact tv_vret X dX5_lookAtLimit_72 h
set_option maxHeartbeats 4000000 in
set_option maxRecDepth 100000 in
theorem c_X5_lookAtLimit (l : Launch) (Ω : Wd) (ad : Nat → Nat → Nat) (A : Nat → Prop) (σ : St) {res : St × Unit} (h : f_X5_lookAtLimit σ = some res) : Met l yX5_lookAtLimit (wsO yX5_lookAtLimit cX5_lookAtLimit 1 none) rm_X5_lookAtLimit (PcZ Ω A (PicX Ω ad A σ) [.ref (ad 10 0)]) (Qcv (PicX Ω ad A) A res) 0 0 A := by
  refine Met.ofV (by decide) rfl (fun Γ hΓ X => ?_)
  have X : Fx Γ Ω A cX5_lookAtLimit 1 "MappingTexts$TextReader" rm_X5_lookAtLimit none := X
  unfold f_X5_lookAtLimit at h
  show V Γ (0, 0) _ A 1 _ 0 [(0, .ref (ad 10 0))] []
  refine tv_aload_n X dX5_lookAtLimit_0 rfl 0 rfl ?_
  refine gX4_14 X (by omega) gw_2_6 dX5_lookAtLimit_1 ?_
  refine tv_if_ge X 8 dX5_lookAtLimit_4 (by decide) h (fun h => ?_) (fun h => ?_)
  · refine tv_aload_n X dX5_lookAtLimit_8 rfl 0 rfl ?_
    refine gX4_6 X (by omega) gw_1_238 dX5_lookAtLimit_9 (fun hg9 => ?_)
    refine tv_aload_n X dX5_lookAtLimit_12 rfl 0 rfl ?_
    refine gX4_0 X (by omega) gw_1_232 dX5_lookAtLimit_13 ?_
    refine tv_aload_n X dX5_lookAtLimit_16 rfl 0 rfl ?_
    refine gX4_14 X (by omega) gw_2_6 dX5_lookAtLimit_17 ?_
    obtain ⟨s1, x2, hs1, h⟩ := cl_some h
    refine tv_callVi (st := [.ref (ad 3 (gr σ 2 0))]) X (c_X6_numberAt Γ.2.1 Ω ad A σ (gi σ 414 0) hs1) ⟨gw_3_126, gw_3_123, gw_1_4, q_X6_numberAt, rfl, rfl, ⟨Nat.le_of_ble_eq_true rfl, Nat.le_of_ble_eq_true rfl⟩⟩ gw_3_124 gw_3_125 (fun H _ hz _ => PP.recv (f := 9) (i := 0) X.2.1 hz.1 (show 0 < 1 by omega) rfl rfl) rfl rfl (Nat.le_of_ble_eq_true rfl) dX5_lookAtLimit_20 ?_
    refine pX6_5 X (by omega) gw_1_210 dX5_lookAtLimit_23 ?_
    refine tv_ns h (fun s3 h => ?_)
    refine tv_aload_n X dX5_lookAtLimit_26 rfl 0 rfl ?_
    refine gX4_6 X (by omega) gw_1_238 dX5_lookAtLimit_27 (fun hg27 => ?_)
    refine gX6_5 X (by omega) gw_1_210 dX5_lookAtLimit_30 ?_
    refine tv_bipush X 40 dX5_lookAtLimit_33 (by decide) ?_
    refine tv_icmp_gt X 55 dX5_lookAtLimit_35 (by decide) h (fun h => ?_) (fun h => ?_)
    · exact l_X5_lookAtLimit_55 X s3 h
    · refine tv_aload_n X dX5_lookAtLimit_38 rfl 0 rfl ?_
      refine gX4_6 X (by omega) gw_1_238 dX5_lookAtLimit_39 (fun hg39 => ?_)
      refine gX6_5 X (by omega) gw_1_210 dX5_lookAtLimit_42 ?_
      refine tv_aload_n X dX5_lookAtLimit_45 rfl 0 rfl ?_
      refine gX4_6 X (by omega) gw_1_238 dX5_lookAtLimit_46 (fun hg46 => ?_)
      refine gX6_3 X (by omega) gw_1_203 dX5_lookAtLimit_49 ?_
      refine tv_icmp_ge X 72 dX5_lookAtLimit_52 (by decide) h (fun h => ?_) (fun h => ?_)
      · exact tv_vret X dX5_lookAtLimit_72 h
      · exact l_X5_lookAtLimit_55 X s3 h
  · exact tv_vret X dX5_lookAtLimit_7 h
set_option maxHeartbeats 4000000 in
set_option maxRecDepth 100000 in
theorem c_X6_addTo (l : Launch) (Ω : Wd) (ad : Nat → Nat → Nat) (A : Nat → Prop) (σ : St) (a1 : Nat) (a2 : Int32) (ba1 : a1 < 773) {res : St × Unit} (h : f_X6_addTo σ a1 a2 = some res) : Met l yX6_addTo (wsO yX6_addTo cX6_addTo 3 none) rm_X6_addTo (PcZ Ω A (PicX Ω ad A σ) [.ref (ad 9 0), .ref (ad 1 a1), .int a2]) (Qcv (PicX Ω ad A) A res) 0 0 A := by
  refine Met.ofV (by decide) rfl (fun Γ hΓ X => ?_)
  have X : Fx Γ Ω A cX6_addTo 3 "MappingTexts$Tokens" rm_X6_addTo none := X
  unfold f_X6_addTo at h
  show V Γ (0, 0) _ A 3 _ 0 [(0, .ref (ad 9 0)), (1, .ref (ad 1 a1)), (2, .int a2)] []
  refine tv_iload_n X dX6_addTo_0 rfl 2 rfl ?_
  refine tv_if_lt X 32 dX6_addTo_1 (by decide) h (fun h => ?_) (fun h => ?_)
  · exact tv_vret X dX6_addTo_32 h
  · refine tv_iload_n X dX6_addTo_4 rfl 2 rfl ?_
    refine tv_aload_n X dX6_addTo_5 rfl 0 rfl ?_
    refine gX5_4 X (by omega) gw_1_55 dX6_addTo_6 ?_
    refine tv_icmp_ge X 32 dX6_addTo_9 (by decide) h (fun h => ?_) (fun h => ?_)
    · exact tv_vret X dX6_addTo_32 h
    · refine tv_aload_n X dX6_addTo_12 rfl 1 rfl ?_
      refine tv_aload_n X dX6_addTo_13 rfl 0 rfl ?_
      refine gX5_0 X (by omega) gw_1_51 dX6_addTo_14 ?_
      refine tv_aload_n X dX6_addTo_17 rfl 0 rfl ?_
      refine gX5_2 X (by omega) gw_1_53 dX6_addTo_18 ?_
      refine tv_iload_n X dX6_addTo_21 rfl 2 rfl ?_
      refine iaX X (by omega) dX6_addTo_22 h (fun j1 hj1 h => ?_)
      refine tv_aload_n X dX6_addTo_23 rfl 0 rfl ?_
      refine gX5_3 X (by omega) gw_1_54 dX6_addTo_24 ?_
      refine tv_iload_n X dX6_addTo_27 rfl 2 rfl ?_
      refine iaX X (by omega) dX6_addTo_28 h (fun j2 hj2 h => ?_)
      obtain ⟨s3, _u29, hs3, h⟩ := cl_some h
      refine tv_callVv (st := []) X (c_X3_addPart Γ.2.1 Ω ad A σ a1 0 (ga σ 8 9 j1) (ga σ 8 10 j2) (by omega) (by omega) hs3) ⟨gw_3_1, gw_3_10, gw_1_2, q_X3_addPart, rfl, rfl, ⟨Nat.le_of_ble_eq_true rfl, Nat.le_of_ble_eq_true rfl⟩⟩ gw_2_239 gw_3_0 (fun H _ hz _ => PP.recv (f := 1) (i := a1) X.2.1 hz.1 (show a1 < 773 by omega) rfl rfl) rfl rfl (Nat.le_of_ble_eq_true rfl) dX6_addTo_29 ?_
      exact tv_vret X dX6_addTo_32 h
set_option maxHeartbeats 4000000 in
set_option maxRecDepth 100000 in
theorem l_X6_joinPath_2 {Γ : Cx} {Ω : Wd} {ad : Nat → Nat → Nat} {A : Nat → Prop} {res : St × Unit} (X : Fx Γ Ω A cX6_joinPath 4 "MappingTexts$Tokens" rm_X6_joinPath none) : ∀ (n : Nat) (σ : St) (v2 : Nat) (v3 : Int32) (_ : v2 < 773), f_X6_joinPath_2 n σ v2 v3 = some res → V Γ (0, 0) (Qe Γ (0, 0) A (Qcv (PicX Ω ad A) A res)) A 4 (PicX Ω ad A σ) 2 [(0, .ref (ad 9 0)), (2, .ref (ad 1 v2)), (3, .int v3)] [] := by
  intro n
  induction n with
  | zero =>
    intro σ v2 v3 bv2 h
    cases (show none = some res from h)
  | succ n ih =>
    intro σ v2 v3 bv2 h
    rw [f_X6_joinPath_2] at h
    refine tv_iload_n X dX6_joinPath_2 rfl 2 rfl ?_
    refine tv_aload_n X dX6_joinPath_3 rfl 0 rfl ?_
    refine gX5_4 X (by omega) gw_1_55 dX6_joinPath_4 ?_
    refine tv_icmp_ge X 41 dX6_joinPath_7 (by decide) h (fun h => ?_) (fun h => ?_)
    · exact tv_vret X dX6_joinPath_41 h
    · refine tv_aload_n X dX6_joinPath_10 rfl 0 rfl ?_
      refine tv_aload_n X dX6_joinPath_11 rfl 1 rfl ?_
      refine tv_iload_n X dX6_joinPath_12 rfl 2 rfl ?_
      obtain ⟨s1, _u13, hs1, h⟩ := cl_some h
      refine tv_callVv (st := []) X (c_X6_addTo Γ.2.1 Ω ad A σ v2 v3 (by omega) hs1) ⟨gw_3_9, gw_3_176, gw_1_4, q_X6_addTo, rfl, rfl, ⟨Nat.le_of_ble_eq_true rfl, Nat.le_of_ble_eq_true rfl⟩⟩ gw_3_7 gw_3_8 (fun H _ hz _ => PP.recv (f := 9) (i := 0) X.2.1 hz.1 (show 0 < 1 by omega) rfl rfl) rfl rfl (Nat.le_of_ble_eq_true rfl) dX6_joinPath_13 ?_
      refine tv_aload_n X dX6_joinPath_16 rfl 0 rfl ?_
      refine tv_iload_n X dX6_joinPath_17 rfl 2 rfl ?_
      refine tv_iconst X 1 dX6_joinPath_18 (by decide) ?_
      refine tv_iadd X dX6_joinPath_19 ?_
      obtain ⟨s2, x3, hs2, h⟩ := cl_some h
      refine tv_callVi (st := []) X (c_X6_kindAt Γ.2.1 Ω ad A s1 (v3 + 1) hs2) ⟨gw_2_163, gw_2_169, gw_1_4, q_X6_kindAt, rfl, rfl, ⟨Nat.le_of_ble_eq_true rfl, Nat.le_of_ble_eq_true rfl⟩⟩ gw_2_161 gw_2_162 (fun H _ hz _ => PP.recv (f := 9) (i := 0) X.2.1 hz.1 (show 0 < 1 by omega) rfl rfl) rfl rfl (Nat.le_of_ble_eq_true rfl) dX6_joinPath_20 ?_
      refine tv_bipush X 46 dX6_joinPath_23 (by decide) ?_
      refine tv_icmp_eq X 29 dX6_joinPath_25 (by decide) h (fun h => ?_) (fun h => ?_)
      · refine tv_aload_n X dX6_joinPath_29 rfl 1 rfl ?_
        refine tv_bipush X 46 dX6_joinPath_30 (by decide) ?_
        obtain ⟨s4, _u32, hs4, h⟩ := cl_some h
        refine tv_callVv (st := []) X (c_X3_add Γ.2.1 Ω ad A s2 v2 46 (by omega) hs4) ⟨gw_2_86, gw_3_177, gw_1_2, q_X3_add, rfl, rfl, ⟨Nat.le_of_ble_eq_true rfl, Nat.le_of_ble_eq_true rfl⟩⟩ gw_2_84 gw_2_85 (fun H _ hz _ => PP.recv (f := 1) (i := v2) X.2.1 hz.1 (show v2 < 773 by omega) rfl rfl) rfl rfl (Nat.le_of_ble_eq_true rfl) dX6_joinPath_32 ?_
        refine tv_iinc X (v3 + 2) dX6_joinPath_35 2 rfl rfl (by decide) [(3, .int (v3 + 2)), (0, .ref (ad 9 0)), (2, .ref (ad 1 v2))] rfl ?_
        refine tv_goto X 2 dX6_joinPath_38 (by decide) ?_
        refine V.pick [1, 2, 0] rfl ?_
        exact ih s4 v2 (v3 + 2) (by omega) h
      · exact tv_vret X dX6_joinPath_28 h
set_option maxHeartbeats 4000000 in
set_option maxRecDepth 100000 in
theorem c_X6_joinPath (l : Launch) (Ω : Wd) (ad : Nat → Nat → Nat) (A : Nat → Prop) (σ : St) (a1 : Int32) (a2 : Nat) (ba2 : a2 < 773) {res : St × Unit} (h : f_X6_joinPath σ a1 a2 = some res) : Met l yX6_joinPath (wsO yX6_joinPath cX6_joinPath 4 none) rm_X6_joinPath (PcZ Ω A (PicX Ω ad A σ) [.ref (ad 9 0), .int a1, .ref (ad 1 a2)]) (Qcv (PicX Ω ad A) A res) 0 0 A := by
  refine Met.ofV (by decide) rfl (fun Γ hΓ X => ?_)
  have X : Fx Γ Ω A cX6_joinPath 4 "MappingTexts$Tokens" rm_X6_joinPath none := X
  unfold f_X6_joinPath at h
  show V Γ (0, 0) _ A 4 _ 0 [(0, .ref (ad 9 0)), (1, .int a1), (2, .ref (ad 1 a2))] []
  refine tv_iload_n X dX6_joinPath_0 rfl 1 rfl ?_
  refine tv_istore_n X dX6_joinPath_1 rfl (by decide) [(3, .int a1), (0, .ref (ad 9 0)), (1, .int a1), (2, .ref (ad 1 a2))] rfl ?_
  refine V.pick [1, 3, 0] rfl ?_
  exact l_X6_joinPath_2 X fl σ a2 a1 (by omega) h
set_option maxHeartbeats 4000000 in
set_option maxRecDepth 100000 in
theorem l_X7_fieldOf_2 {Γ : Cx} {Ω : Wd} {ad : Nat → Nat → Nat} {A : Nat → Prop} {res : St × Int32} (X : Fx Γ Ω A cX7_fieldOf 4 "MappingTexts$Version" rm_X7_fieldOf (some .int)) : ∀ (n : Nat) (σ : St) (v0 : Nat) (v1 : Nat) (v2 : Int32) (v3 : Int32) (_ : v0 < 8) (_ : v1 < 773), f_X7_fieldOf_2 n σ v0 v1 v2 v3 = some res → V Γ (0, 0) (Qe Γ (0, 0) A (Qci (PicX Ω ad A) A res)) A 4 (PicX Ω ad A σ) 2 [(0, .ref (ad 3 v0)), (1, .ref (ad 1 v1)), (2, .int v2), (3, .int v3)] [] := by
  intro n
  induction n with
  | zero =>
    intro σ v0 v1 v2 v3 bv0 bv1 h
    cases (show none = some res from h)
  | succ n ih =>
    intro σ v0 v1 v2 v3 bv0 bv1 h
    rw [f_X7_fieldOf_2] at h
    refine tv_iload_n X dX7_fieldOf_2 rfl 3 rfl ?_
    refine tv_aload_n X dX7_fieldOf_3 rfl 0 rfl ?_
    refine gX6_3 X (by omega) gw_1_201 dX7_fieldOf_4 ?_
    refine tv_icmp_ge X 35 dX7_fieldOf_7 (by decide) h (fun h => ?_) (fun h => ?_)
    · refine tv_bipush X (-2) dX7_fieldOf_35 (by decide) ?_
      exact tv_iret X dX7_fieldOf_37 h
    · refine tv_aload_n X dX7_fieldOf_10 rfl 0 rfl ?_
      refine gX6_0 X (by omega) gw_1_193 dX7_fieldOf_11 ?_
      refine tv_iload_n X dX7_fieldOf_14 rfl 3 rfl ?_
      refine aaX6 X (by omega) dX7_fieldOf_15 h (fun j1 hj1 h => ?_)
      refine gX1_0 X (by omega) gw_1_110 dX7_fieldOf_16 ?_
      refine tv_aload_n X dX7_fieldOf_19 rfl 1 rfl ?_
      refine tv_iload_n X dX7_fieldOf_20 rfl 2 rfl ?_
      obtain ⟨s2, x3, hs2, h⟩ := cl_some h
      refine tv_callVi (st := []) X (c_X3_isStartOf Γ.2.1 Ω ad A σ (5 + 2 * (40 * v0 + j1)) v1 v2 (by omega) (by omega) hs2) ⟨gw_3_190, gw_3_187, gw_1_2, q_X3_isStartOf, rfl, rfl, ⟨Nat.le_of_ble_eq_true rfl, Nat.le_of_ble_eq_true rfl⟩⟩ gw_3_188 gw_3_189 (fun H _ hz _ => PP.recv (f := 1) (i := (5 + 2 * (40 * v0 + j1))) X.2.1 hz.1 (show (5 + 2 * (40 * v0 + j1)) < 773 by omega) rfl rfl) rfl rfl (Nat.le_of_ble_eq_true rfl) dX7_fieldOf_21 ?_
      refine tv_if_eq X 29 dX7_fieldOf_24 (by decide) h (fun h => ?_) (fun h => ?_)
      · refine tv_iinc X (v3 + 1) dX7_fieldOf_29 3 rfl rfl (by decide) [(3, .int (v3 + 1)), (0, .ref (ad 3 v0)), (1, .ref (ad 1 v1)), (2, .int v2)] rfl ?_
        refine tv_goto X 2 dX7_fieldOf_32 (by decide) ?_
        refine V.pick [1, 2, 3, 0] rfl ?_
        exact ih s2 v0 v1 v2 (v3 + 1) (by omega) (by omega) h
      · refine tv_iload_n X dX7_fieldOf_27 rfl 3 rfl ?_
        exact tv_iret X dX7_fieldOf_28 h
set_option maxHeartbeats 4000000 in
set_option maxRecDepth 100000 in
theorem c_X7_fieldOf (l : Launch) (Ω : Wd) (ad : Nat → Nat → Nat) (A : Nat → Prop) (σ : St) (o : Nat) (a1 : Nat) (a2 : Int32) (bo : o < 8) (ba1 : a1 < 773) {res : St × Int32} (h : f_X7_fieldOf σ o a1 a2 = some res) : Met l yX7_fieldOf (wsO yX7_fieldOf cX7_fieldOf 4 (some .int)) rm_X7_fieldOf (PcZ Ω A (PicX Ω ad A σ) [.ref (ad 3 o), .ref (ad 1 a1), .int a2]) (Qci (PicX Ω ad A) A res) 0 0 A := by
  refine Met.ofV (by decide) rfl (fun Γ hΓ X => ?_)
  have X : Fx Γ Ω A cX7_fieldOf 4 "MappingTexts$Version" rm_X7_fieldOf (some .int) := X
  unfold f_X7_fieldOf at h
  show V Γ (0, 0) _ A 4 _ 0 [(0, .ref (ad 3 o)), (1, .ref (ad 1 a1)), (2, .int a2)] []
  refine tv_iconst X 0 dX7_fieldOf_0 (by decide) ?_
  refine tv_istore_n X dX7_fieldOf_1 rfl (by decide) [(3, .int 0), (0, .ref (ad 3 o)), (1, .ref (ad 1 a1)), (2, .int a2)] rfl ?_
  refine V.pick [1, 2, 3, 0] rfl ?_
  exact l_X7_fieldOf_2 X fl σ o a1 a2 0 (by omega) (by omega) h
set_option maxHeartbeats 4000000 in
set_option maxRecDepth 100000 in
theorem l_X5_fieldMeant_76 {Γ : Cx} {Ω : Wd} {ad : Nat → Nat → Nat} {A : Nat → Prop} {res : St × Int32} (X : Fx Γ Ω A cX5_fieldMeant 4 "MappingTexts$TextReader" rm_X5_fieldMeant (some .int)) (σ : St) (v1 : Int32) (v3 : Int32) (h : f_X5_fieldMeant_76 σ v1 v3 = some res) : V Γ (0, 0) (Qe Γ (0, 0) A (Qci (PicX Ω ad A) A res)) A 4 (PicX Ω ad A σ) 76 [(0, .ref (ad 10 0)), (1, .int v1), (3, .int v3)] [] := by
  unfold f_X5_fieldMeant_76 at h
  refine tv_aload_n X dX5_fieldMeant_76 rfl 0 rfl ?_
  refine tv_bipush X 8 dX5_fieldMeant_77 (by decide) ?_
  refine tv_aload_n X dX5_fieldMeant_79 rfl 0 rfl ?_
  refine gX4_0 X (by omega) gw_1_232 dX5_fieldMeant_80 ?_
  refine tv_iload_n X dX5_fieldMeant_83 rfl 1 rfl ?_
  obtain ⟨s12, x13, hs12, h⟩ := cl_some h
  refine tv_callVi (st := [.int 8, .ref (ad 10 0)]) X (c_X6_placeAt Γ.2.1 Ω ad A σ v1 hs12) ⟨gw_2_136, gw_3_23, gw_1_4, q_X6_placeAt, rfl, rfl, ⟨Nat.le_of_ble_eq_true rfl, Nat.le_of_ble_eq_true rfl⟩⟩ gw_2_134 gw_2_135 (fun H _ hz _ => PP.recv (f := 9) (i := 0) X.2.1 hz.1 (show 0 < 1 by omega) rfl rfl) rfl rfl (Nat.le_of_ble_eq_true rfl) dX5_fieldMeant_84 ?_
  obtain ⟨s14, _u87, hs14, h⟩ := cl_some h
  refine tv_callVv (st := []) X (c_X5_blame Γ.2.1 Ω ad A s12 8 x13 hs14) ⟨gw_3_27, gw_3_24, gw_1_9, q_X5_blame, rfl, rfl, ⟨Nat.le_of_ble_eq_true rfl, Nat.le_of_ble_eq_true rfl⟩⟩ gw_3_26 gw_p_8 (fun H _ hz _ => PP.recv (f := 10) (i := 0) X.2.1 hz.1 (show 0 < 1 by omega) rfl rfl) rfl rfl (Nat.le_of_ble_eq_true rfl) dX5_fieldMeant_87 ?_
  refine tv_iload_n X dX5_fieldMeant_90 rfl 2 rfl ?_
  exact tv_iret X dX5_fieldMeant_91 h
set_option maxHeartbeats 4000000 in
set_option maxRecDepth 100000 in
theorem l_X5_fieldMeant_52 {Γ : Cx} {Ω : Wd} {ad : Nat → Nat → Nat} {A : Nat → Prop} {res : St × Int32} (X : Fx Γ Ω A cX5_fieldMeant 4 "MappingTexts$TextReader" rm_X5_fieldMeant (some .int)) (σ : St) (t0 : Int32) (v1 : Int32) (v2 : Int32) (h : f_X5_fieldMeant_52 σ t0 v1 v2 = some res) : V Γ (0, 0) (Qe Γ (0, 0) A (Qci (PicX Ω ad A) A res)) A 4 (PicX Ω ad A σ) 52 [(0, .ref (ad 10 0)), (1, .int v1), (2, .int v2)] [.int t0] := by
  unfold f_X5_fieldMeant_52 at h
  refine tv_istore_n X dX5_fieldMeant_52 rfl (by decide) [(3, .int t0), (0, .ref (ad 10 0)), (1, .int v1), (2, .int v2)] rfl ?_
  refine tv_iload_n X dX5_fieldMeant_53 rfl 0 rfl ?_
  refine tv_if_lt X 76 dX5_fieldMeant_54 (by decide) h (fun h => ?_) (fun h => ?_)
  · refine V.pick [1, 2, 0] rfl ?_
    exact l_X5_fieldMeant_76 X σ v1 t0 h
  · refine tv_aload_n X dX5_fieldMeant_57 rfl 1 rfl ?_
    refine gX4_6 X (by omega) gw_1_238 dX5_fieldMeant_58 (fun hg58 => ?_)
    refine gX6_0 X (by omega) gw_1_194 dX5_fieldMeant_61 ?_
    refine tv_iload_n X dX5_fieldMeant_64 rfl 0 rfl ?_
    refine aaX6 X (by omega) dX5_fieldMeant_65 h (fun j9 hj9 h => ?_)
    refine gX1_2 X (by omega) gw_1_123 dX5_fieldMeant_66 ?_
    refine tv_iload_n X dX5_fieldMeant_69 rfl 3 rfl ?_
    obtain ⟨s10, x11, hs10, h⟩ := cl_some h
    refine tv_callSi (st := []) X (c_X2_mayBeMeant Γ.2.1 Ω ad A σ (gi σ 102 (40 * (gr σ 2 0) + j9)) v2 hs10) ⟨gw_3_193, gw_3_191, gw_1_16, q_X2_mayBeMeant, rfl, rfl, ⟨Nat.le_of_ble_eq_true rfl, Nat.le_of_ble_eq_true rfl⟩⟩ gw_3_192 rfl rfl (Nat.le_of_ble_eq_true rfl) dX5_fieldMeant_70 ?_
    refine tv_if_ne X 90 dX5_fieldMeant_73 (by decide) h (fun h => ?_) (fun h => ?_)
    · refine tv_iload_n X dX5_fieldMeant_90 rfl 0 rfl ?_
      exact tv_iret X dX5_fieldMeant_91 h
    · refine V.pick [1, 2, 0] rfl ?_
      exact l_X5_fieldMeant_76 X s10 v1 t0 h
set_option maxHeartbeats 4000000 in
set_option maxRecDepth 100000 in
theorem c_X5_fieldMeant (l : Launch) (Ω : Wd) (ad : Nat → Nat → Nat) (A : Nat → Prop) (σ : St) (a1 : Int32) (a2 : Int32) {res : St × Int32} (h : f_X5_fieldMeant σ a1 a2 = some res) : Met l yX5_fieldMeant (wsO yX5_fieldMeant cX5_fieldMeant 4 (some .int)) rm_X5_fieldMeant (PcZ Ω A (PicX Ω ad A σ) [.ref (ad 10 0), .int a1, .int a2]) (Qci (PicX Ω ad A) A res) 0 0 A := by
  refine Met.ofV (by decide) rfl (fun Γ hΓ X => ?_)
  have X : Fx Γ Ω A cX5_fieldMeant 4 "MappingTexts$TextReader" rm_X5_fieldMeant (some .int) := X
  unfold f_X5_fieldMeant at h
  show V Γ (0, 0) _ A 4 _ 0 [(0, .ref (ad 10 0)), (1, .int a1), (2, .int a2)] []
  refine tv_aload_n X dX5_fieldMeant_0 rfl 0 rfl ?_
  refine gX4_1 X (by omega) gw_1_233 dX5_fieldMeant_1 ?_
  obtain ⟨s1, _u4, hs1, h⟩ := cl_some h
  refine tv_callVv (st := []) X (c_X3_clear Γ.2.1 Ω ad A σ 4 (by omega) hs1) ⟨gw_2_98, gw_3_127, gw_1_2, q_X3_clear, rfl, rfl, ⟨Nat.le_of_ble_eq_true rfl, Nat.le_of_ble_eq_true rfl⟩⟩ gw_2_96 gw_2_97 (fun H _ hz _ => PP.recv (f := 1) (i := 4) X.2.1 hz.1 (show 4 < 773 by omega) rfl rfl) rfl rfl (Nat.le_of_ble_eq_true rfl) dX5_fieldMeant_4 ?_
  refine tv_aload_n X dX5_fieldMeant_7 rfl 0 rfl ?_
  refine gX4_0 X (by omega) gw_1_232 dX5_fieldMeant_8 ?_
  refine tv_iload_n X dX5_fieldMeant_11 rfl 1 rfl ?_
  refine tv_aload_n X dX5_fieldMeant_12 rfl 0 rfl ?_
  refine gX4_1 X (by omega) gw_1_233 dX5_fieldMeant_13 ?_
  obtain ⟨s2, _u16, hs2, h⟩ := cl_some h
  refine tv_callVv (st := []) X (c_X6_joinPath Γ.2.1 Ω ad A s1 a1 4 (by omega) hs2) ⟨gw_3_175, gw_3_172, gw_1_4, q_X6_joinPath, rfl, rfl, ⟨Nat.le_of_ble_eq_true rfl, Nat.le_of_ble_eq_true rfl⟩⟩ gw_3_173 gw_3_174 (fun H _ hz _ => PP.recv (f := 9) (i := 0) X.2.1 hz.1 (show 0 < 1 by omega) rfl rfl) rfl rfl (Nat.le_of_ble_eq_true rfl) dX5_fieldMeant_16 ?_
  refine tv_aload_n X dX5_fieldMeant_19 rfl 0 rfl ?_
  refine gX4_1 X (by omega) gw_1_233 dX5_fieldMeant_20 ?_
  obtain ⟨s3, x4, hs3, h⟩ := cl_some h
  refine tv_callVi (st := []) X (c_X3_isOver Γ.2.1 Ω ad A s2 4 (by omega) hs3) ⟨gw_3_181, gw_3_178, gw_1_2, q_X3_isOver, rfl, rfl, ⟨Nat.le_of_ble_eq_true rfl, Nat.le_of_ble_eq_true rfl⟩⟩ gw_3_179 gw_3_180 (fun H _ hz _ => PP.recv (f := 1) (i := 4) X.2.1 hz.1 (show 4 < 773 by omega) rfl rfl) rfl rfl (Nat.le_of_ble_eq_true rfl) dX5_fieldMeant_23 ?_
  refine tv_if_eq X 34 dX5_fieldMeant_26 (by decide) h (fun h => ?_) (fun h => ?_)
  · refine tv_aload_n X dX5_fieldMeant_34 rfl 0 rfl ?_
    refine gX4_6 X (by omega) gw_1_238 dX5_fieldMeant_35 (fun hg35 => ?_)
    refine tv_aload_n X dX5_fieldMeant_38 rfl 0 rfl ?_
    refine gX4_1 X (by omega) gw_1_233 dX5_fieldMeant_39 ?_
    refine tv_aload_n X dX5_fieldMeant_42 rfl 0 rfl ?_
    refine gX4_1 X (by omega) gw_1_233 dX5_fieldMeant_43 ?_
    obtain ⟨s5, x6, hs5, h⟩ := cl_some h
    refine tv_callVi (st := [.ref (ad 1 4), .ref (ad 3 (gr s3 2 0))]) X (c_X3_length Γ.2.1 Ω ad A s3 4 (by omega) hs5) ⟨gw_2_90, gw_3_182, gw_1_2, q_X3_length, rfl, rfl, ⟨Nat.le_of_ble_eq_true rfl, Nat.le_of_ble_eq_true rfl⟩⟩ gw_2_88 gw_2_89 (fun H _ hz _ => PP.recv (f := 1) (i := 4) X.2.1 hz.1 (show 4 < 773 by omega) rfl rfl) rfl rfl (Nat.le_of_ble_eq_true rfl) dX5_fieldMeant_46 ?_
    obtain ⟨s7, x8, hs7, h⟩ := cl_some h
    refine tv_callVi (st := []) X (c_X7_fieldOf Γ.2.1 Ω ad A s5 (gr s3 2 0) 4 x6 (by omega) (by omega) hs7) ⟨gw_3_186, gw_3_183, gw_1_6, q_X7_fieldOf, rfl, rfl, ⟨Nat.le_of_ble_eq_true rfl, Nat.le_of_ble_eq_true rfl⟩⟩ gw_3_184 gw_3_185 (fun H _ hz _ => PP.recv (f := 3) (i := (gr s3 2 0)) X.2.1 hz.1 (show (gr s3 2 0) < 8 by omega) rfl rfl) rfl rfl (Nat.le_of_ble_eq_true rfl) dX5_fieldMeant_49 ?_
    exact l_X5_fieldMeant_52 X s7 x8 a1 a2 h
  · refine tv_bipush X (-2) dX5_fieldMeant_29 (by decide) ?_
    refine tv_goto X 52 dX5_fieldMeant_31 (by decide) ?_
    exact l_X5_fieldMeant_52 X s3 (-2) a1 a2 h
set_option maxHeartbeats 4000000 in
set_option maxRecDepth 100000 in
theorem l_X5_lookAtPaths_71 {Γ : Cx} {Ω : Wd} {ad : Nat → Nat → Nat} {A : Nat → Prop} {res : St × Unit} (X : Fx Γ Ω A cX5_lookAtPaths 3 "MappingTexts$TextReader" rm_X5_lookAtPaths none) {k2 : St → Int32 → Option (St × Unit)} (hk2 : ∀ (σ : St) (v1 : Int32), k2 σ v1 = some res → V Γ (0, 0) (Qe Γ (0, 0) A (Qcv (PicX Ω ad A) A res)) A 3 (PicX Ω ad A σ) 2 [(0, .ref (ad 10 0)), (1, .int v1)] []) (σ : St) (v1 : Int32) (h : f_X5_lookAtPaths_71 k2 σ v1 = some res) : V Γ (0, 0) (Qe Γ (0, 0) A (Qcv (PicX Ω ad A) A res)) A 3 (PicX Ω ad A σ) 71 [(0, .ref (ad 10 0)), (1, .int v1)] [] := by
  unfold f_X5_lookAtPaths_71 at h
  refine tv_iinc X (v1 + 1) dX5_lookAtPaths_71 1 rfl rfl (by decide) [(1, .int (v1 + 1)), (0, .ref (ad 10 0))] rfl ?_
  refine tv_goto X 2 dX5_lookAtPaths_74 (by decide) ?_
  refine V.pick [1, 0] rfl ?_
  exact hk2 σ (v1 + 1) h
set_option maxHeartbeats 4000000 in
set_option maxRecDepth 100000 in
theorem l_X5_lookAtPaths_46 {Γ : Cx} {Ω : Wd} {ad : Nat → Nat → Nat} {A : Nat → Prop} {res : St × Unit} (X : Fx Γ Ω A cX5_lookAtPaths 3 "MappingTexts$TextReader" rm_X5_lookAtPaths none) {k2 : St → Int32 → Option (St × Unit)} (hk2 : ∀ (σ : St) (v1 : Int32), k2 σ v1 = some res → V Γ (0, 0) (Qe Γ (0, 0) A (Qcv (PicX Ω ad A) A res)) A 3 (PicX Ω ad A σ) 2 [(0, .ref (ad 10 0)), (1, .int v1)] []) (σ : St) (v1 : Int32) (v2 : Nat) (bv2 : v2 < 320) (h : f_X5_lookAtPaths_46 k2 σ v1 v2 = some res) : V Γ (0, 0) (Qe Γ (0, 0) A (Qcv (PicX Ω ad A) A res)) A 3 (PicX Ω ad A σ) 46 [(0, .ref (ad 10 0)), (1, .int v1), (2, .ref (ad 4 v2))] [] := by
  unfold f_X5_lookAtPaths_46 at h
  refine tv_aload_n X dX5_lookAtPaths_46 rfl 2 rfl ?_
  refine tv_bipush X 6 dX5_lookAtPaths_47 (by decide) ?_
  obtain ⟨s8, x9, hs8, h⟩ := cl_some h
  refine tv_callVi (st := []) X (c_X1_has Γ.2.1 Ω ad A σ v2 6 (by omega) hs8) ⟨gw_3_79, gw_3_76, gw_1_7, q_X1_has, rfl, rfl, ⟨Nat.le_of_ble_eq_true rfl, Nat.le_of_ble_eq_true rfl⟩⟩ gw_3_77 gw_3_78 (fun H _ hz _ => PP.recv (f := 4) (i := v2) X.2.1 hz.1 (show v2 < 320 by omega) rfl rfl) rfl rfl (Nat.le_of_ble_eq_true rfl) dX5_lookAtPaths_49 ?_
  refine tv_if_eq X 71 dX5_lookAtPaths_52 (by decide) h (fun h => ?_) (fun h => ?_)
  · refine V.pick [0, 1] rfl ?_
    exact l_X5_lookAtPaths_71 X hk2 s8 v1 h
  · refine tv_aload_n X dX5_lookAtPaths_55 rfl 2 rfl ?_
    refine tv_aload_n X dX5_lookAtPaths_56 rfl 0 rfl ?_
    refine tv_aload_n X dX5_lookAtPaths_57 rfl 0 rfl ?_
    refine gX4_5 X (by omega) gw_1_237 dX5_lookAtPaths_58 ?_
    refine tv_iload_n X dX5_lookAtPaths_61 rfl 1 rfl ?_
    refine iaX X (by omega) dX5_lookAtPaths_62 h (fun j10 hj10 h => ?_)
    refine tv_bipush X 6 dX5_lookAtPaths_63 (by decide) ?_
    obtain ⟨s11, x12, hs11, h⟩ := cl_some h
    refine tv_callVi (st := [.ref (ad 4 v2)]) X (c_X5_fieldMeant Γ.2.1 Ω ad A s8 (ga s8 8 14 j10) 6 hs11) ⟨gw_3_171, gw_3_168, gw_1_9, q_X5_fieldMeant, rfl, rfl, ⟨Nat.le_of_ble_eq_true rfl, Nat.le_of_ble_eq_true rfl⟩⟩ gw_3_170 gw_p_32 (fun H _ hz _ => PP.recv (f := 10) (i := 0) X.2.1 hz.1 (show 0 < 1 by omega) rfl rfl) rfl rfl (Nat.le_of_ble_eq_true rfl) dX5_lookAtPaths_65 ?_
    refine pX1_6 X (by omega) gw_1_142 dX5_lookAtPaths_68 ?_
    refine tv_ns h (fun s13 h => ?_)
    refine V.pick [0, 1] rfl ?_
    exact l_X5_lookAtPaths_71 X hk2 s13 v1 h
set_option maxHeartbeats 4000000 in
set_option maxRecDepth 100000 in
theorem l_X5_lookAtPaths_2 {Γ : Cx} {Ω : Wd} {ad : Nat → Nat → Nat} {A : Nat → Prop} {res : St × Unit} (X : Fx Γ Ω A cX5_lookAtPaths 3 "MappingTexts$TextReader" rm_X5_lookAtPaths none) : ∀ (n : Nat) (σ : St) (v1 : Int32), f_X5_lookAtPaths_2 n σ v1 = some res → V Γ (0, 0) (Qe Γ (0, 0) A (Qcv (PicX Ω ad A) A res)) A 3 (PicX Ω ad A σ) 2 [(0, .ref (ad 10 0)), (1, .int v1)] [] := by
  intro n
  induction n with
  | zero =>
    intro σ v1 h
    cases (show none = some res from h)
  | succ n ih =>
    intro σ v1 h
    rw [f_X5_lookAtPaths_2] at h
    refine tv_iload_n X dX5_lookAtPaths_2 rfl 1 rfl ?_
    refine tv_aload_n X dX5_lookAtPaths_3 rfl 0 rfl ?_
    refine gX4_6 X (by omega) gw_1_238 dX5_lookAtPaths_4 (fun hg4 => ?_)
    refine gX6_3 X (by omega) gw_1_203 dX5_lookAtPaths_7 ?_
    refine tv_icmp_ge X 77 dX5_lookAtPaths_10 (by decide) h (fun h => ?_) (fun h => ?_)
    · exact tv_vret X dX5_lookAtPaths_77 h
    · refine tv_aload_n X dX5_lookAtPaths_13 rfl 0 rfl ?_
      refine gX4_6 X (by omega) gw_1_238 dX5_lookAtPaths_14 (fun hg14 => ?_)
      refine gX6_0 X (by omega) gw_1_194 dX5_lookAtPaths_17 ?_
      refine tv_iload_n X dX5_lookAtPaths_20 rfl 1 rfl ?_
      refine aaX6 X (by omega) dX5_lookAtPaths_21 h (fun j1 hj1 h => ?_)
      refine tv_astore_n X dX5_lookAtPaths_22 rfl (by decide) [(2, .ref (ad 4 (40 * (gr σ 2 0) + j1))), (0, .ref (ad 10 0)), (1, .int v1)] rfl ?_
      refine tv_aload_n X dX5_lookAtPaths_23 rfl 0 rfl ?_
      refine tv_iconst X 4 dX5_lookAtPaths_24 (by decide) ?_
      obtain ⟨s2, x3, hs2, h⟩ := cl_some h
      refine tv_callVi (st := []) X (c_X1_has Γ.2.1 Ω ad A σ (40 * (gr σ 2 0) + j1) 4 (by omega) hs2) ⟨gw_3_79, gw_3_76, gw_1_7, q_X1_has, rfl, rfl, ⟨Nat.le_of_ble_eq_true rfl, Nat.le_of_ble_eq_true rfl⟩⟩ gw_3_77 gw_3_78 (fun H _ hz _ => PP.recv (f := 4) (i := (40 * (gr σ 2 0) + j1)) X.2.1 hz.1 (show (40 * (gr σ 2 0) + j1) < 320 by omega) rfl rfl) rfl rfl (Nat.le_of_ble_eq_true rfl) dX5_lookAtPaths_25 ?_
      refine tv_if_eq X 46 dX5_lookAtPaths_28 (by decide) h (fun h => ?_) (fun h => ?_)
      · refine V.pick [1, 2, 0] rfl ?_
        exact l_X5_lookAtPaths_46 X ih s2 v1 (40 * (gr σ 2 0) + j1) (by omega) h
      · refine tv_aload_n X dX5_lookAtPaths_31 rfl 0 rfl ?_
        refine tv_aload_n X dX5_lookAtPaths_32 rfl 1 rfl ?_
        refine tv_aload_n X dX5_lookAtPaths_33 rfl 1 rfl ?_
        refine gX4_4 X (by omega) gw_1_236 dX5_lookAtPaths_34 ?_
        refine tv_iload_n X dX5_lookAtPaths_37 rfl 2 rfl ?_
        refine iaX X (by omega) dX5_lookAtPaths_38 h (fun j4 hj4 h => ?_)
        refine tv_iconst X 4 dX5_lookAtPaths_39 (by decide) ?_
        obtain ⟨s5, x6, hs5, h⟩ := cl_some h
        refine tv_callVi (st := [.ref (ad 4 (40 * (gr σ 2 0) + j1))]) X (c_X5_fieldMeant Γ.2.1 Ω ad A s2 (ga s2 8 13 j4) 4 hs5) ⟨gw_3_171, gw_3_168, gw_1_9, q_X5_fieldMeant, rfl, rfl, ⟨Nat.le_of_ble_eq_true rfl, Nat.le_of_ble_eq_true rfl⟩⟩ gw_3_170 gw_p_32 (fun H _ hz _ => PP.recv (f := 10) (i := 0) X.2.1 hz.1 (show 0 < 1 by omega) rfl rfl) rfl rfl (Nat.le_of_ble_eq_true rfl) dX5_lookAtPaths_40 ?_
        refine pX1_5 X (by omega) gw_1_137 dX5_lookAtPaths_43 ?_
        refine tv_ns h (fun s7 h => ?_)
        refine V.pick [1, 2, 0] rfl ?_
        exact l_X5_lookAtPaths_46 X ih s7 v1 (40 * (gr σ 2 0) + j1) (by omega) h
set_option maxHeartbeats 4000000 in
set_option maxRecDepth 100000 in
theorem c_X5_lookAtPaths (l : Launch) (Ω : Wd) (ad : Nat → Nat → Nat) (A : Nat → Prop) (σ : St) {res : St × Unit} (h : f_X5_lookAtPaths σ = some res) : Met l yX5_lookAtPaths (wsO yX5_lookAtPaths cX5_lookAtPaths 3 none) rm_X5_lookAtPaths (PcZ Ω A (PicX Ω ad A σ) [.ref (ad 10 0)]) (Qcv (PicX Ω ad A) A res) 0 0 A := by
  refine Met.ofV (by decide) rfl (fun Γ hΓ X => ?_)
  have X : Fx Γ Ω A cX5_lookAtPaths 3 "MappingTexts$TextReader" rm_X5_lookAtPaths none := X
  unfold f_X5_lookAtPaths at h
  show V Γ (0, 0) _ A 3 _ 0 [(0, .ref (ad 10 0))] []
  refine tv_iconst X 0 dX5_lookAtPaths_0 (by decide) ?_
  refine tv_istore_n X dX5_lookAtPaths_1 rfl (by decide) [(1, .int 0), (0, .ref (ad 10 0))] rfl ?_
  refine V.pick [1, 0] rfl ?_
  exact l_X5_lookAtPaths_2 X fl σ 0 h
set_option maxHeartbeats 4000000 in
set_option maxRecDepth 100000 in
theorem c_X5_expect (l : Launch) (Ω : Wd) (ad : Nat → Nat → Nat) (A : Nat → Prop) (σ : St) (a1 : Int32) (a2 : Int32) (a3 : Int32) {res : St × Int32} (h : f_X5_expect σ a1 a2 a3 = some res) : Met l yX5_expect (wsO yX5_expect cX5_expect 4 (some .int)) rm_X5_expect (PcZ Ω A (PicX Ω ad A σ) [.ref (ad 10 0), .int a1, .int a2, .int a3]) (Qci (PicX Ω ad A) A res) 0 0 A := by
  refine Met.ofV (by decide) rfl (fun Γ hΓ X => ?_)
  have X : Fx Γ Ω A cX5_expect 4 "MappingTexts$TextReader" rm_X5_expect (some .int) := X
  unfold f_X5_expect at h
  show V Γ (0, 0) _ A 4 _ 0 [(0, .ref (ad 10 0)), (1, .int a1), (2, .int a2), (3, .int a3)] []
  refine tv_aload_n X dX5_expect_0 rfl 0 rfl ?_
  refine gX4_0 X (by omega) gw_1_232 dX5_expect_1 ?_
  refine tv_iload_n X dX5_expect_4 rfl 1 rfl ?_
  obtain ⟨s1, x2, hs1, h⟩ := cl_some h
  refine tv_callVi (st := []) X (c_X6_kindAt Γ.2.1 Ω ad A σ a1 hs1) ⟨gw_2_163, gw_2_160, gw_1_4, q_X6_kindAt, rfl, rfl, ⟨Nat.le_of_ble_eq_true rfl, Nat.le_of_ble_eq_true rfl⟩⟩ gw_2_161 gw_2_162 (fun H _ hz _ => PP.recv (f := 9) (i := 0) X.2.1 hz.1 (show 0 < 1 by omega) rfl rfl) rfl rfl (Nat.le_of_ble_eq_true rfl) dX5_expect_5 ?_
  refine tv_iload_n X dX5_expect_8 rfl 2 rfl ?_
  refine tv_icmp_eq X 14 dX5_expect_9 (by decide) h (fun h => ?_) (fun h => ?_)
  · refine tv_aload_n X dX5_expect_14 rfl 0 rfl ?_
    refine tv_iload_n X dX5_expect_15 rfl 3 rfl ?_
    refine pX4_9 X (by omega) gw_2_1 dX5_expect_16 ?_
    refine tv_ns h (fun s3 h => ?_)
    refine tv_iconst X 0 dX5_expect_19 (by decide) ?_
    exact tv_iret X dX5_expect_20 h
  · refine tv_iconst X 2 dX5_expect_12 (by decide) ?_
    exact tv_iret X dX5_expect_13 h
set_option maxHeartbeats 4000000 in
set_option maxRecDepth 100000 in
theorem c_X6_isWord (l : Launch) (Ω : Wd) (ad : Nat → Nat → Nat) (A : Nat → Prop) (σ : St) (a1 : Int32) (a2 : Nat) (ba2 : a2 < nSt) {res : St × Int32} (h : f_X6_isWord σ a1 a2 = some res) : Met l yX6_isWord (wsO yX6_isWord cX6_isWord 3 (some .boolean)) rm_X6_isWord (PcZ Ω A (PicX Ω ad A σ) [.ref (ad 9 0), .int a1, .ref (Ω.2.2.1 a2)]) (Qci (PicX Ω ad A) A res) 0 0 A := by
  refine Met.ofV (by decide) rfl (fun Γ hΓ X => ?_)
  have X : Fx Γ Ω A cX6_isWord 3 "MappingTexts$Tokens" rm_X6_isWord (some .boolean) := X
  unfold f_X6_isWord at h
  show V Γ (0, 0) _ A 3 _ 0 [(0, .ref (ad 9 0)), (1, .int a1), (2, .ref (Ω.2.2.1 a2))] []
  refine tv_aload_n X dX6_isWord_0 rfl 0 rfl ?_
  refine tv_iload_n X dX6_isWord_1 rfl 1 rfl ?_
  obtain ⟨s1, x2, hs1, h⟩ := cl_some h
  refine tv_callVi (st := []) X (c_X6_kindAt Γ.2.1 Ω ad A σ a1 hs1) ⟨gw_2_163, gw_2_169, gw_1_4, q_X6_kindAt, rfl, rfl, ⟨Nat.le_of_ble_eq_true rfl, Nat.le_of_ble_eq_true rfl⟩⟩ gw_2_161 gw_2_162 (fun H _ hz _ => PP.recv (f := 9) (i := 0) X.2.1 hz.1 (show 0 < 1 by omega) rfl rfl) rfl rfl (Nat.le_of_ble_eq_true rfl) dX6_isWord_2 ?_
  refine tv_iconst X 1 dX6_isWord_5 (by decide) ?_
  refine tv_icmp_ne X 36 dX6_isWord_6 (by decide) h (fun h => ?_) (fun h => ?_)
  · refine tv_iconst X 0 dX6_isWord_36 (by decide) ?_
    exact tv_zret X dX6_isWord_37 (Or.inl rfl) h
  · refine tv_aload_n X dX6_isWord_9 rfl 0 rfl ?_
    refine gX5_0 X (by omega) gw_1_51 dX6_isWord_10 ?_
    refine tv_aload_n X dX6_isWord_13 rfl 0 rfl ?_
    refine gX5_2 X (by omega) gw_1_53 dX6_isWord_14 ?_
    refine tv_iload_n X dX6_isWord_17 rfl 1 rfl ?_
    refine iaX X (by omega) dX6_isWord_18 h (fun j3 hj3 h => ?_)
    refine tv_aload_n X dX6_isWord_19 rfl 0 rfl ?_
    refine gX5_3 X (by omega) gw_1_54 dX6_isWord_20 ?_
    refine tv_iload_n X dX6_isWord_23 rfl 1 rfl ?_
    refine iaX X (by omega) dX6_isWord_24 h (fun j4 hj4 h => ?_)
    refine tv_aload_n X dX6_isWord_25 rfl 2 rfl ?_
    obtain ⟨s5, x6, hs5, h⟩ := cl_some h
    refine tv_callVi (st := []) X (c_X3_isWordAt Γ.2.1 Ω ad A s1 0 (ga s1 8 9 j3) (ga s1 8 10 j4) a2 (by omega) (by omega) hs5) ⟨gw_2_173, gw_2_170, gw_1_2, q_X3_isWordAt, rfl, rfl, ⟨Nat.le_of_ble_eq_true rfl, Nat.le_of_ble_eq_true rfl⟩⟩ gw_2_171 gw_2_172 (fun H _ hz _ => PP.recv (f := 1) (i := 0) X.2.1 hz.1 (show 0 < 773 by omega) rfl rfl) rfl rfl (Nat.le_of_ble_eq_true rfl) dX6_isWord_26 ?_
    refine tv_if_eq X 36 dX6_isWord_29 (by decide) h (fun h => ?_) (fun h => ?_)
    · refine tv_iconst X 0 dX6_isWord_36 (by decide) ?_
      exact tv_zret X dX6_isWord_37 (Or.inl rfl) h
    · refine tv_iconst X 1 dX6_isWord_32 (by decide) ?_
      refine tv_goto X 37 dX6_isWord_33 (by decide) ?_
      exact tv_zret X dX6_isWord_37 (Or.inr rfl) h
set_option maxHeartbeats 4000000 in
set_option maxRecDepth 100000 in
theorem c_X5_isFieldName (l : Launch) (Ω : Wd) (ad : Nat → Nat → Nat) (A : Nat → Prop) (σ : St) (a1 : Int32) {res : St × Int32} (h : f_X5_isFieldName σ a1 = some res) : Met l yX5_isFieldName (wsO yX5_isFieldName cX5_isFieldName 2 (some .boolean)) rm_X5_isFieldName (PcZ Ω A (PicX Ω ad A σ) [.ref (ad 10 0), .int a1]) (Qci (PicX Ω ad A) A res) 0 0 A := by
  refine Met.ofV (by decide) rfl (fun Γ hΓ X => ?_)
  have X : Fx Γ Ω A cX5_isFieldName 2 "MappingTexts$TextReader" rm_X5_isFieldName (some .boolean) := X
  unfold f_X5_isFieldName at h
  show V Γ (0, 0) _ A 2 _ 0 [(0, .ref (ad 10 0)), (1, .int a1)] []
  refine tv_aload_n X dX5_isFieldName_0 rfl 0 rfl ?_
  refine gX4_0 X (by omega) gw_1_232 dX5_isFieldName_1 ?_
  refine tv_iload_n X dX5_isFieldName_4 rfl 1 rfl ?_
  obtain ⟨s1, x2, hs1, h⟩ := cl_some h
  refine tv_callVi (st := []) X (c_X6_kindAt Γ.2.1 Ω ad A σ a1 hs1) ⟨gw_2_163, gw_2_160, gw_1_4, q_X6_kindAt, rfl, rfl, ⟨Nat.le_of_ble_eq_true rfl, Nat.le_of_ble_eq_true rfl⟩⟩ gw_2_161 gw_2_162 (fun H _ hz _ => PP.recv (f := 9) (i := 0) X.2.1 hz.1 (show 0 < 1 by omega) rfl rfl) rfl rfl (Nat.le_of_ble_eq_true rfl) dX5_isFieldName_5 ?_
  refine tv_iconst X 1 dX5_isFieldName_8 (by decide) ?_
  refine tv_icmp_ne X 42 dX5_isFieldName_9 (by decide) h (fun h => ?_) (fun h => ?_)
  · refine tv_iconst X 0 dX5_isFieldName_42 (by decide) ?_
    exact tv_zret X dX5_isFieldName_43 (Or.inl rfl) h
  · refine tv_aload_n X dX5_isFieldName_12 rfl 0 rfl ?_
    refine gX4_0 X (by omega) gw_1_232 dX5_isFieldName_13 ?_
    refine tv_iload_n X dX5_isFieldName_16 rfl 1 rfl ?_
    refine tv_ldcS X 0 (List.mem_of_getElem? (i := 0) rfl) dX5_isFieldName_17 ?_
    obtain ⟨s3, x4, hs3, h⟩ := cl_some h
    refine tv_callVi (st := []) X (c_X6_isWord Γ.2.1 Ω ad A s1 a1 0 (by decide) hs3) ⟨gw_2_168, gw_2_165, gw_1_4, q_X6_isWord, rfl, rfl, ⟨Nat.le_of_ble_eq_true rfl, Nat.le_of_ble_eq_true rfl⟩⟩ gw_2_166 gw_2_167 (fun H _ hz _ => PP.recv (f := 9) (i := 0) X.2.1 hz.1 (show 0 < 1 by omega) rfl rfl) rfl rfl (Nat.le_of_ble_eq_true rfl) dX5_isFieldName_19 ?_
    refine tv_if_ne X 42 dX5_isFieldName_22 (by decide) h (fun h => ?_) (fun h => ?_)
    · refine tv_iconst X 0 dX5_isFieldName_42 (by decide) ?_
      exact tv_zret X dX5_isFieldName_43 (Or.inl rfl) h
    · refine tv_aload_n X dX5_isFieldName_25 rfl 0 rfl ?_
      refine gX4_0 X (by omega) gw_1_232 dX5_isFieldName_26 ?_
      refine tv_iload_n X dX5_isFieldName_29 rfl 1 rfl ?_
      refine tv_ldcS X 1 (List.mem_of_getElem? (i := 1) rfl) dX5_isFieldName_30 ?_
      obtain ⟨s5, x6, hs5, h⟩ := cl_some h
      refine tv_callVi (st := []) X (c_X6_isWord Γ.2.1 Ω ad A s3 a1 1 (by decide) hs5) ⟨gw_2_168, gw_2_165, gw_1_4, q_X6_isWord, rfl, rfl, ⟨Nat.le_of_ble_eq_true rfl, Nat.le_of_ble_eq_true rfl⟩⟩ gw_2_166 gw_2_167 (fun H _ hz _ => PP.recv (f := 9) (i := 0) X.2.1 hz.1 (show 0 < 1 by omega) rfl rfl) rfl rfl (Nat.le_of_ble_eq_true rfl) dX5_isFieldName_32 ?_
      refine tv_if_ne X 42 dX5_isFieldName_35 (by decide) h (fun h => ?_) (fun h => ?_)
      · refine tv_iconst X 0 dX5_isFieldName_42 (by decide) ?_
        exact tv_zret X dX5_isFieldName_43 (Or.inl rfl) h
      · refine tv_iconst X 1 dX5_isFieldName_38 (by decide) ?_
        refine tv_goto X 43 dX5_isFieldName_39 (by decide) ?_
        exact tv_zret X dX5_isFieldName_43 (Or.inr rfl) h
set_option maxHeartbeats 4000000 in
set_option maxRecDepth 100000 in
theorem c_X5_stepStar (l : Launch) (Ω : Wd) (ad : Nat → Nat → Nat) (A : Nat → Prop) (σ : St) (a1 : Int32) {res : St × Int32} (h : f_X5_stepStar σ a1 = some res) : Met l yX5_stepStar (wsO yX5_stepStar cX5_stepStar 3 (some .int)) rm_X5_stepStar (PcZ Ω A (PicX Ω ad A σ) [.ref (ad 10 0), .int a1]) (Qci (PicX Ω ad A) A res) 0 0 A := by
  refine Met.ofV (by decide) rfl (fun Γ hΓ X => ?_)
  have X : Fx Γ Ω A cX5_stepStar 3 "MappingTexts$TextReader" rm_X5_stepStar (some .int) := X
  unfold f_X5_stepStar at h
  show V Γ (0, 0) _ A 3 _ 0 [(0, .ref (ad 10 0)), (1, .int a1)] []
  refine tv_aload_n X dX5_stepStar_0 rfl 0 rfl ?_
  refine tv_iload_n X dX5_stepStar_1 rfl 1 rfl ?_
  refine tv_bipush X 42 dX5_stepStar_2 (by decide) ?_
  refine tv_bipush X 13 dX5_stepStar_4 (by decide) ?_
  obtain ⟨s1, x2, hs1, h⟩ := cl_some h
  refine tv_callVi (st := []) X (c_X5_expect Γ.2.1 Ω ad A σ a1 42 13 hs1) ⟨gw_3_35, gw_3_32, gw_1_9, q_X5_expect, rfl, rfl, ⟨Nat.le_of_ble_eq_true rfl, Nat.le_of_ble_eq_true rfl⟩⟩ gw_3_34 gw_p_10 (fun H _ hz _ => PP.recv (f := 10) (i := 0) X.2.1 hz.1 (show 0 < 1 by omega) rfl rfl) rfl rfl (Nat.le_of_ble_eq_true rfl) dX5_stepStar_6 ?_
  refine tv_istore_n X dX5_stepStar_9 rfl (by decide) [(2, .int x2), (0, .ref (ad 10 0)), (1, .int a1)] rfl ?_
  refine tv_aload_n X dX5_stepStar_10 rfl 1 rfl ?_
  refine gX4_8 X (by omega) gw_2_0 dX5_stepStar_11 (fun hg11 => ?_)
  refine tv_iload_n X dX5_stepStar_14 rfl 0 rfl ?_
  refine tv_if_ne X 22 dX5_stepStar_15 (by decide) h (fun h => ?_) (fun h => ?_)
  · refine tv_iconst X 0 dX5_stepStar_22 (by decide) ?_
    refine pX3_2 X (Or.inl rfl) (by omega) gw_1_180 dX5_stepStar_23 ?_
    refine tv_ns h (fun s3 h => ?_)
    refine tv_iload_n X dX5_stepStar_26 rfl 0 rfl ?_
    exact tv_iret X dX5_stepStar_27 h
  · refine tv_iconst X 1 dX5_stepStar_18 (by decide) ?_
    refine tv_goto X 23 dX5_stepStar_19 (by decide) ?_
    refine pX3_2 X (Or.inr rfl) (by omega) gw_1_180 dX5_stepStar_23 ?_
    refine tv_ns h (fun s4 h => ?_)
    refine tv_iload_n X dX5_stepStar_26 rfl 0 rfl ?_
    exact tv_iret X dX5_stepStar_27 h
set_option maxHeartbeats 4000000 in
set_option maxRecDepth 100000 in
theorem c_X5_stepBehindHead (l : Launch) (Ω : Wd) (ad : Nat → Nat → Nat) (A : Nat → Prop) (σ : St) (a1 : Int32) {res : St × Int32} (h : f_X5_stepBehindHead σ a1 = some res) : Met l yX5_stepBehindHead (wsO yX5_stepBehindHead cX5_stepBehindHead 2 (some .int)) rm_X5_stepBehindHead (PcZ Ω A (PicX Ω ad A σ) [.ref (ad 10 0), .int a1]) (Qci (PicX Ω ad A) A res) 0 0 A := by
  refine Met.ofV (by decide) rfl (fun Γ hΓ X => ?_)
  have X : Fx Γ Ω A cX5_stepBehindHead 2 "MappingTexts$TextReader" rm_X5_stepBehindHead (some .int) := X
  unfold f_X5_stepBehindHead at h
  show V Γ (0, 0) _ A 2 _ 0 [(0, .ref (ad 10 0)), (1, .int a1)] []
  refine tv_aload_n X dX5_stepBehindHead_0 rfl 0 rfl ?_
  refine gX4_0 X (by omega) gw_1_232 dX5_stepBehindHead_1 ?_
  refine tv_iload_n X dX5_stepBehindHead_4 rfl 1 rfl ?_
  obtain ⟨s1, x2, hs1, h⟩ := cl_some h
  refine tv_callVi (st := []) X (c_X6_kindAt Γ.2.1 Ω ad A σ a1 hs1) ⟨gw_2_163, gw_2_160, gw_1_4, q_X6_kindAt, rfl, rfl, ⟨Nat.le_of_ble_eq_true rfl, Nat.le_of_ble_eq_true rfl⟩⟩ gw_2_161 gw_2_162 (fun H _ hz _ => PP.recv (f := 9) (i := 0) X.2.1 hz.1 (show 0 < 1 by omega) rfl rfl) rfl rfl (Nat.le_of_ble_eq_true rfl) dX5_stepBehindHead_5 ?_
  refine tv_bipush X 42 dX5_stepBehindHead_8 (by decide) ?_
  refine tv_icmp_ne X 21 dX5_stepBehindHead_10 (by decide) h (fun h => ?_) (fun h => ?_)
  · refine tv_aload_n X dX5_stepBehindHead_21 rfl 0 rfl ?_
    refine tv_iload_n X dX5_stepBehindHead_22 rfl 1 rfl ?_
    refine tv_bipush X 58 dX5_stepBehindHead_23 (by decide) ?_
    refine tv_bipush X 15 dX5_stepBehindHead_25 (by decide) ?_
    obtain ⟨s3, x4, hs3, h⟩ := cl_some h
    refine tv_callVi (st := []) X (c_X5_expect Γ.2.1 Ω ad A s1 a1 58 15 hs3) ⟨gw_3_35, gw_3_32, gw_1_9, q_X5_expect, rfl, rfl, ⟨Nat.le_of_ble_eq_true rfl, Nat.le_of_ble_eq_true rfl⟩⟩ gw_3_34 gw_p_10 (fun H _ hz _ => PP.recv (f := 10) (i := 0) X.2.1 hz.1 (show 0 < 1 by omega) rfl rfl) rfl rfl (Nat.le_of_ble_eq_true rfl) dX5_stepBehindHead_27 ?_
    exact tv_iret X dX5_stepBehindHead_30 h
  · refine tv_aload_n X dX5_stepBehindHead_13 rfl 0 rfl ?_
    refine tv_iload_n X dX5_stepBehindHead_14 rfl 1 rfl ?_
    obtain ⟨s5, x6, hs5, h⟩ := cl_some h
    refine tv_callVi (st := []) X (c_X5_stepStar Γ.2.1 Ω ad A s1 a1 hs5) ⟨gw_3_143, gw_3_140, gw_1_9, q_X5_stepStar, rfl, rfl, ⟨Nat.le_of_ble_eq_true rfl, Nat.le_of_ble_eq_true rfl⟩⟩ gw_3_142 gw_p_26 (fun H _ hz _ => PP.recv (f := 10) (i := 0) X.2.1 hz.1 (show 0 < 1 by omega) rfl rfl) rfl rfl (Nat.le_of_ble_eq_true rfl) dX5_stepBehindHead_15 ?_
    refine tv_goto X 30 dX5_stepBehindHead_18 (by decide) ?_
    exact tv_iret X dX5_stepBehindHead_30 h
set_option maxHeartbeats 4000000 in
set_option maxRecDepth 100000 in
theorem l_X5_openHolder_27 {Γ : Cx} {Ω : Wd} {ad : Nat → Nat → Nat} {A : Nat → Prop} {res : St × Unit} (X : Fx Γ Ω A cX5_openHolder 2 "MappingTexts$TextReader" rm_X5_openHolder none) (σ : St) (h : f_X5_openHolder_27 σ = some res) : V Γ (0, 0) (Qe Γ (0, 0) A (Qcv (PicX Ω ad A) A res)) A 2 (PicX Ω ad A σ) 27 [(0, .ref (ad 10 0))] [] := by
  unfold f_X5_openHolder_27 at h
  refine tv_aload_n X dX5_openHolder_27 rfl 0 rfl ?_
  refine gX4_10 X (by omega) gw_2_2 dX5_openHolder_28 ?_
  refine tv_iconst X 4 dX5_openHolder_31 (by decide) ?_
  refine tv_icmp_ge X 63 dX5_openHolder_32 (by decide) h (fun h => ?_) (fun h => ?_)
  · exact tv_vret X dX5_openHolder_63 h
  · refine tv_aload_n X dX5_openHolder_35 rfl 0 rfl ?_
    refine gX4_2 X (by omega) gw_1_234 dX5_openHolder_36 ?_
    refine tv_aload_n X dX5_openHolder_39 rfl 0 rfl ?_
    refine gX4_10 X (by omega) gw_2_2 dX5_openHolder_40 ?_
    refine tv_aload_n X dX5_openHolder_43 rfl 0 rfl ?_
    refine gX4_6 X (by omega) gw_1_238 dX5_openHolder_44 (fun hg44 => ?_)
    refine gX6_3 X (by omega) gw_1_203 dX5_openHolder_47 ?_
    refine tv_iconst X 1 dX5_openHolder_50 (by decide) ?_
    refine tv_isub X dX5_openHolder_51 ?_
    refine isX X (by omega) dX5_openHolder_52 h (fun j6 hj6 h => ?_)
    refine tv_ns h (fun s7 h => ?_)
    refine tv_aload_n X dX5_openHolder_53 rfl 0 rfl ?_
    refine tv_dup X dX5_openHolder_54 rfl ?_
    refine gX4_10 X (by omega) gw_2_2 dX5_openHolder_55 ?_
    refine tv_iconst X 1 dX5_openHolder_58 (by decide) ?_
    refine tv_iadd X dX5_openHolder_59 ?_
    refine pX4_10 X (by omega) gw_2_2 dX5_openHolder_60 ?_
    refine tv_ns h (fun s8 h => ?_)
    exact tv_vret X dX5_openHolder_63 h
set_option maxHeartbeats 4000000 in
set_option maxRecDepth 100000 in
theorem c_X5_openHolder (l : Launch) (Ω : Wd) (ad : Nat → Nat → Nat) (A : Nat → Prop) (σ : St) (a1 : Int32) {res : St × Unit} (h : f_X5_openHolder σ a1 = some res) : Met l yX5_openHolder (wsO yX5_openHolder cX5_openHolder 2 none) rm_X5_openHolder (PcZ Ω A (PicX Ω ad A σ) [.ref (ad 10 0), .int a1]) (Qcv (PicX Ω ad A) A res) 0 0 A := by
  refine Met.ofV (by decide) rfl (fun Γ hΓ X => ?_)
  have X : Fx Γ Ω A cX5_openHolder 2 "MappingTexts$TextReader" rm_X5_openHolder none := X
  unfold f_X5_openHolder at h
  show V Γ (0, 0) _ A 2 _ 0 [(0, .ref (ad 10 0)), (1, .int a1)] []
  refine tv_aload_n X dX5_openHolder_0 rfl 0 rfl ?_
  refine gX4_7 X (by omega) gw_1_239 dX5_openHolder_1 (fun hg1 => ?_)
  refine gX1_2 X (by omega) gw_1_123 dX5_openHolder_4 ?_
  obtain ⟨s1, x2, hs1, h⟩ := cl_some h
  refine tv_callSi (st := []) X (c_X2_isHolder Γ.2.1 Ω ad A σ (gi σ 102 (gr σ 3 0)) hs1) ⟨gw_3_86, gw_3_84, gw_1_16, q_X2_isHolder, rfl, rfl, ⟨Nat.le_of_ble_eq_true rfl, Nat.le_of_ble_eq_true rfl⟩⟩ gw_3_85 rfl rfl (Nat.le_of_ble_eq_true rfl) dX5_openHolder_7 ?_
  refine tv_if_ne X 27 dX5_openHolder_10 (by decide) h (fun h => ?_) (fun h => ?_)
  · refine V.pick [0] rfl ?_
    exact l_X5_openHolder_27 X s1 h
  · refine tv_aload_n X dX5_openHolder_13 rfl 0 rfl ?_
    refine tv_bipush X 6 dX5_openHolder_14 (by decide) ?_
    refine tv_aload_n X dX5_openHolder_16 rfl 0 rfl ?_
    refine gX4_0 X (by omega) gw_1_232 dX5_openHolder_17 ?_
    refine tv_iload_n X dX5_openHolder_20 rfl 1 rfl ?_
    obtain ⟨s3, x4, hs3, h⟩ := cl_some h
    refine tv_callVi (st := [.int 6, .ref (ad 10 0)]) X (c_X6_placeAt Γ.2.1 Ω ad A s1 a1 hs3) ⟨gw_2_136, gw_3_23, gw_1_4, q_X6_placeAt, rfl, rfl, ⟨Nat.le_of_ble_eq_true rfl, Nat.le_of_ble_eq_true rfl⟩⟩ gw_2_134 gw_2_135 (fun H _ hz _ => PP.recv (f := 9) (i := 0) X.2.1 hz.1 (show 0 < 1 by omega) rfl rfl) rfl rfl (Nat.le_of_ble_eq_true rfl) dX5_openHolder_21 ?_
    obtain ⟨s5, _u24, hs5, h⟩ := cl_some h
    refine tv_callVv (st := []) X (c_X5_blame Γ.2.1 Ω ad A s3 6 x4 hs5) ⟨gw_3_27, gw_3_24, gw_1_9, q_X5_blame, rfl, rfl, ⟨Nat.le_of_ble_eq_true rfl, Nat.le_of_ble_eq_true rfl⟩⟩ gw_3_26 gw_p_8 (fun H _ hz _ => PP.recv (f := 10) (i := 0) X.2.1 hz.1 (show 0 < 1 by omega) rfl rfl) rfl rfl (Nat.le_of_ble_eq_true rfl) dX5_openHolder_24 ?_
    refine V.pick [0] rfl ?_
    exact l_X5_openHolder_27 X s5 h
set_option maxHeartbeats 4000000 in
set_option maxRecDepth 100000 in
theorem l_X5_stepHeadEnd_91 {Γ : Cx} {Ω : Wd} {ad : Nat → Nat → Nat} {A : Nat → Prop} {res : St × Int32} (X : Fx Γ Ω A cX5_stepHeadEnd 3 "MappingTexts$TextReader" rm_X5_stepHeadEnd (some .int)) (σ : St) (h : f_X5_stepHeadEnd_91 σ = some res) : V Γ (0, 0) (Qe Γ (0, 0) A (Qci (PicX Ω ad A) A res)) A 3 (PicX Ω ad A σ) 91 [(0, .ref (ad 10 0))] [] := by
  unfold f_X5_stepHeadEnd_91 at h
  refine tv_aload_n X dX5_stepHeadEnd_91 rfl 0 rfl ?_
  refine tv_iconst X 0 dX5_stepHeadEnd_92 (by decide) ?_
  refine pX4_9 X (by omega) gw_2_1 dX5_stepHeadEnd_93 ?_
  refine tv_ns h (fun s9 h => ?_)
  refine tv_iconst X 0 dX5_stepHeadEnd_96 (by decide) ?_
  exact tv_iret X dX5_stepHeadEnd_97 h
set_option maxHeartbeats 4000000 in
set_option maxRecDepth 100000 in
theorem l_X5_stepHeadEnd_80 {Γ : Cx} {Ω : Wd} {ad : Nat → Nat → Nat} {A : Nat → Prop} {res : St × Int32} (X : Fx Γ Ω A cX5_stepHeadEnd 3 "MappingTexts$TextReader" rm_X5_stepHeadEnd (some .int)) (σ : St) (v1 : Int32) (v2 : Int32) (h : f_X5_stepHeadEnd_80 σ v1 v2 = some res) : V Γ (0, 0) (Qe Γ (0, 0) A (Qci (PicX Ω ad A) A res)) A 3 (PicX Ω ad A σ) 80 [(0, .ref (ad 10 0)), (1, .int v1), (2, .int v2)] [] := by
  unfold f_X5_stepHeadEnd_80 at h
  refine tv_iload_n X dX5_stepHeadEnd_80 rfl 2 rfl ?_
  refine tv_bipush X 123 dX5_stepHeadEnd_81 (by decide) ?_
  refine tv_icmp_ne X 91 dX5_stepHeadEnd_83 (by decide) h (fun h => ?_) (fun h => ?_)
  · refine V.pick [0] rfl ?_
    exact l_X5_stepHeadEnd_91 X σ h
  · refine tv_aload_n X dX5_stepHeadEnd_86 rfl 0 rfl ?_
    refine tv_iload_n X dX5_stepHeadEnd_87 rfl 1 rfl ?_
    obtain ⟨s8, _u88, hs8, h⟩ := cl_some h
    refine tv_callVv (st := []) X (c_X5_openHolder Γ.2.1 Ω ad A σ v1 hs8) ⟨gw_3_83, gw_3_80, gw_1_9, q_X5_openHolder, rfl, rfl, ⟨Nat.le_of_ble_eq_true rfl, Nat.le_of_ble_eq_true rfl⟩⟩ gw_3_82 gw_p_17 (fun H _ hz _ => PP.recv (f := 10) (i := 0) X.2.1 hz.1 (show 0 < 1 by omega) rfl rfl) rfl rfl (Nat.le_of_ble_eq_true rfl) dX5_stepHeadEnd_88 ?_
    refine V.pick [0] rfl ?_
    exact l_X5_stepHeadEnd_91 X s8 h
set_option maxHeartbeats 4000000 in
set_option maxRecDepth 100000 in
theorem l_X5_stepHeadEnd_39 {Γ : Cx} {Ω : Wd} {ad : Nat → Nat → Nat} {A : Nat → Prop} {res : St × Int32} (X : Fx Γ Ω A cX5_stepHeadEnd 3 "MappingTexts$TextReader" rm_X5_stepHeadEnd (some .int)) (σ : St) (v1 : Int32) (v2 : Int32) (h : f_X5_stepHeadEnd_39 σ v1 v2 = some res) : V Γ (0, 0) (Qe Γ (0, 0) A (Qci (PicX Ω ad A) A res)) A 3 (PicX Ω ad A σ) 39 [(0, .ref (ad 10 0)), (1, .int v1), (2, .int v2)] [] := by
  unfold f_X5_stepHeadEnd_39 at h
  refine tv_aload_n X dX5_stepHeadEnd_39 rfl 0 rfl ?_
  refine gX4_7 X (by omega) gw_1_239 dX5_stepHeadEnd_40 (fun hg40 => ?_)
  refine gX1_2 X (by omega) gw_1_123 dX5_stepHeadEnd_43 ?_
  refine tv_bipush X 7 dX5_stepHeadEnd_46 (by decide) ?_
  refine tv_icmp_ne X 80 dX5_stepHeadEnd_48 (by decide) h (fun h => ?_) (fun h => ?_)
  · exact l_X5_stepHeadEnd_80 X σ v1 v2 h
  · refine tv_aload_n X dX5_stepHeadEnd_51 rfl 0 rfl ?_
    refine gX4_7 X (by omega) gw_1_239 dX5_stepHeadEnd_52 (fun hg52 => ?_)
    refine tv_bipush X 6 dX5_stepHeadEnd_55 (by decide) ?_
    obtain ⟨s3, x4, hs3, h⟩ := cl_some h
    refine tv_callVi (st := []) X (c_X1_has Γ.2.1 Ω ad A σ (gr σ 3 0) 6 (by omega) hs3) ⟨gw_3_79, gw_3_76, gw_1_7, q_X1_has, rfl, rfl, ⟨Nat.le_of_ble_eq_true rfl, Nat.le_of_ble_eq_true rfl⟩⟩ gw_3_77 gw_3_78 (fun H _ hz _ => PP.recv (f := 4) (i := (gr σ 3 0)) X.2.1 hz.1 (show (gr σ 3 0) < 320 by omega) rfl rfl) rfl rfl (Nat.le_of_ble_eq_true rfl) dX5_stepHeadEnd_57 ?_
    refine tv_if_ne X 80 dX5_stepHeadEnd_60 (by decide) h (fun h => ?_) (fun h => ?_)
    · exact l_X5_stepHeadEnd_80 X s3 v1 v2 h
    · refine tv_aload_n X dX5_stepHeadEnd_63 rfl 0 rfl ?_
      refine tv_bipush X 7 dX5_stepHeadEnd_64 (by decide) ?_
      refine tv_aload_n X dX5_stepHeadEnd_66 rfl 0 rfl ?_
      refine gX4_0 X (by omega) gw_1_232 dX5_stepHeadEnd_67 ?_
      refine tv_aload_n X dX5_stepHeadEnd_70 rfl 0 rfl ?_
      refine gX4_11 X (by omega) gw_2_3 dX5_stepHeadEnd_71 ?_
      obtain ⟨s5, x6, hs5, h⟩ := cl_some h
      refine tv_callVi (st := [.int 7, .ref (ad 10 0)]) X (c_X6_placeAt Γ.2.1 Ω ad A s3 (gi s3 411 0) hs5) ⟨gw_2_136, gw_3_23, gw_1_4, q_X6_placeAt, rfl, rfl, ⟨Nat.le_of_ble_eq_true rfl, Nat.le_of_ble_eq_true rfl⟩⟩ gw_2_134 gw_2_135 (fun H _ hz _ => PP.recv (f := 9) (i := 0) X.2.1 hz.1 (show 0 < 1 by omega) rfl rfl) rfl rfl (Nat.le_of_ble_eq_true rfl) dX5_stepHeadEnd_74 ?_
      obtain ⟨s7, _u77, hs7, h⟩ := cl_some h
      refine tv_callVv (st := []) X (c_X5_blame Γ.2.1 Ω ad A s5 7 x6 hs7) ⟨gw_3_27, gw_3_24, gw_1_9, q_X5_blame, rfl, rfl, ⟨Nat.le_of_ble_eq_true rfl, Nat.le_of_ble_eq_true rfl⟩⟩ gw_3_26 gw_p_8 (fun H _ hz _ => PP.recv (f := 10) (i := 0) X.2.1 hz.1 (show 0 < 1 by omega) rfl rfl) rfl rfl (Nat.le_of_ble_eq_true rfl) dX5_stepHeadEnd_77 ?_
      exact l_X5_stepHeadEnd_80 X s7 v1 v2 h
set_option maxHeartbeats 4000000 in
set_option maxRecDepth 100000 in
theorem l_X5_stepHeadEnd_23 {Γ : Cx} {Ω : Wd} {ad : Nat → Nat → Nat} {A : Nat → Prop} {res : St × Int32} (X : Fx Γ Ω A cX5_stepHeadEnd 3 "MappingTexts$TextReader" rm_X5_stepHeadEnd (some .int)) (σ : St) (v1 : Int32) (v2 : Int32) (h : f_X5_stepHeadEnd_23 σ v1 v2 = some res) : V Γ (0, 0) (Qe Γ (0, 0) A (Qci (PicX Ω ad A) A res)) A 3 (PicX Ω ad A σ) 23 [(0, .ref (ad 10 0)), (1, .int v1), (2, .int v2)] [] := by
  unfold f_X5_stepHeadEnd_23 at h
  refine tv_iload_n X dX5_stepHeadEnd_23 rfl 2 rfl ?_
  refine tv_bipush X 123 dX5_stepHeadEnd_24 (by decide) ?_
  refine tv_icmp_ne X 39 dX5_stepHeadEnd_26 (by decide) h (fun h => ?_) (fun h => ?_)
  · exact l_X5_stepHeadEnd_39 X σ v1 v2 h
  · refine tv_aload_n X dX5_stepHeadEnd_29 rfl 0 rfl ?_
    refine gX4_10 X (by omega) gw_2_2 dX5_stepHeadEnd_30 ?_
    refine tv_iconst X 4 dX5_stepHeadEnd_33 (by decide) ?_
    refine tv_icmp_lt X 39 dX5_stepHeadEnd_34 (by decide) h (fun h => ?_) (fun h => ?_)
    · exact l_X5_stepHeadEnd_39 X σ v1 v2 h
    · refine tv_iconst X 3 dX5_stepHeadEnd_37 (by decide) ?_
      exact tv_iret X dX5_stepHeadEnd_38 h
set_option maxHeartbeats 4000000 in
set_option maxRecDepth 100000 in
theorem c_X5_stepHeadEnd (l : Launch) (Ω : Wd) (ad : Nat → Nat → Nat) (A : Nat → Prop) (σ : St) (a1 : Int32) {res : St × Int32} (h : f_X5_stepHeadEnd σ a1 = some res) : Met l yX5_stepHeadEnd (wsO yX5_stepHeadEnd cX5_stepHeadEnd 3 (some .int)) rm_X5_stepHeadEnd (PcZ Ω A (PicX Ω ad A σ) [.ref (ad 10 0), .int a1]) (Qci (PicX Ω ad A) A res) 0 0 A := by
  refine Met.ofV (by decide) rfl (fun Γ hΓ X => ?_)
  have X : Fx Γ Ω A cX5_stepHeadEnd 3 "MappingTexts$TextReader" rm_X5_stepHeadEnd (some .int) := X
  unfold f_X5_stepHeadEnd at h
  show V Γ (0, 0) _ A 3 _ 0 [(0, .ref (ad 10 0)), (1, .int a1)] []
  refine tv_aload_n X dX5_stepHeadEnd_0 rfl 0 rfl ?_
  refine gX4_0 X (by omega) gw_1_232 dX5_stepHeadEnd_1 ?_
  refine tv_iload_n X dX5_stepHeadEnd_4 rfl 1 rfl ?_
  obtain ⟨s1, x2, hs1, h⟩ := cl_some h
  refine tv_callVi (st := []) X (c_X6_kindAt Γ.2.1 Ω ad A σ a1 hs1) ⟨gw_2_163, gw_2_160, gw_1_4, q_X6_kindAt, rfl, rfl, ⟨Nat.le_of_ble_eq_true rfl, Nat.le_of_ble_eq_true rfl⟩⟩ gw_2_161 gw_2_162 (fun H _ hz _ => PP.recv (f := 9) (i := 0) X.2.1 hz.1 (show 0 < 1 by omega) rfl rfl) rfl rfl (Nat.le_of_ble_eq_true rfl) dX5_stepHeadEnd_5 ?_
  refine tv_istore_n X dX5_stepHeadEnd_8 rfl (by decide) [(2, .int x2), (0, .ref (ad 10 0)), (1, .int a1)] rfl ?_
  refine tv_iload_n X dX5_stepHeadEnd_9 rfl 0 rfl ?_
  refine tv_bipush X 123 dX5_stepHeadEnd_10 (by decide) ?_
  refine tv_icmp_eq X 23 dX5_stepHeadEnd_12 (by decide) h (fun h => ?_) (fun h => ?_)
  · refine V.pick [1, 2, 0] rfl ?_
    exact l_X5_stepHeadEnd_23 X s1 a1 x2 h
  · refine tv_iload_n X dX5_stepHeadEnd_15 rfl 0 rfl ?_
    refine tv_bipush X 59 dX5_stepHeadEnd_16 (by decide) ?_
    refine tv_icmp_eq X 23 dX5_stepHeadEnd_18 (by decide) h (fun h => ?_) (fun h => ?_)
    · refine V.pick [1, 2, 0] rfl ?_
      exact l_X5_stepHeadEnd_23 X s1 a1 x2 h
    · refine tv_iconst X 2 dX5_stepHeadEnd_21 (by decide) ?_
      exact tv_iret X dX5_stepHeadEnd_22 h
set_option maxHeartbeats 4000000 in
set_option maxRecDepth 100000 in
theorem c_X5_stepBehindKind (l : Launch) (Ω : Wd) (ad : Nat → Nat → Nat) (A : Nat → Prop) (σ : St) (a1 : Int32) {res : St × Int32} (h : f_X5_stepBehindKind σ a1 = some res) : Met l yX5_stepBehindKind (wsO yX5_stepBehindKind cX5_stepBehindKind 2 (some .int)) rm_X5_stepBehindKind (PcZ Ω A (PicX Ω ad A σ) [.ref (ad 10 0), .int a1]) (Qci (PicX Ω ad A) A res) 0 0 A := by
  refine Met.ofV (by decide) rfl (fun Γ hΓ X => ?_)
  have X : Fx Γ Ω A cX5_stepBehindKind 2 "MappingTexts$TextReader" rm_X5_stepBehindKind (some .int) := X
  unfold f_X5_stepBehindKind at h
  show V Γ (0, 0) _ A 2 _ 0 [(0, .ref (ad 10 0)), (1, .int a1)] []
  refine tv_aload_n X dX5_stepBehindKind_0 rfl 0 rfl ?_
  refine gX4_0 X (by omega) gw_1_232 dX5_stepBehindKind_1 ?_
  refine tv_iload_n X dX5_stepBehindKind_4 rfl 1 rfl ?_
  obtain ⟨s1, x2, hs1, h⟩ := cl_some h
  refine tv_callVi (st := []) X (c_X6_kindAt Γ.2.1 Ω ad A σ a1 hs1) ⟨gw_2_163, gw_2_160, gw_1_4, q_X6_kindAt, rfl, rfl, ⟨Nat.le_of_ble_eq_true rfl, Nat.le_of_ble_eq_true rfl⟩⟩ gw_2_161 gw_2_162 (fun H _ hz _ => PP.recv (f := 9) (i := 0) X.2.1 hz.1 (show 0 < 1 by omega) rfl rfl) rfl rfl (Nat.le_of_ble_eq_true rfl) dX5_stepBehindKind_5 ?_
  refine tv_bipush X 40 dX5_stepBehindKind_8 (by decide) ?_
  refine tv_icmp_ne X 20 dX5_stepBehindKind_10 (by decide) h (fun h => ?_) (fun h => ?_)
  · refine tv_aload_n X dX5_stepBehindKind_20 rfl 0 rfl ?_
    refine tv_iload_n X dX5_stepBehindKind_21 rfl 1 rfl ?_
    obtain ⟨s3, x4, hs3, h⟩ := cl_some h
    refine tv_callVi (st := []) X (c_X5_stepHeadEnd Γ.2.1 Ω ad A s1 a1 hs3) ⟨gw_3_75, gw_3_72, gw_1_9, q_X5_stepHeadEnd, rfl, rfl, ⟨Nat.le_of_ble_eq_true rfl, Nat.le_of_ble_eq_true rfl⟩⟩ gw_3_74 gw_p_16 (fun H _ hz _ => PP.recv (f := 10) (i := 0) X.2.1 hz.1 (show 0 < 1 by omega) rfl rfl) rfl rfl (Nat.le_of_ble_eq_true rfl) dX5_stepBehindKind_22 ?_
    exact tv_iret X dX5_stepBehindKind_25 h
  · refine tv_aload_n X dX5_stepBehindKind_13 rfl 0 rfl ?_
    refine tv_iconst X 4 dX5_stepBehindKind_14 (by decide) ?_
    refine pX4_9 X (by omega) gw_2_1 dX5_stepBehindKind_15 ?_
    refine tv_ns h (fun s5 h => ?_)
    refine tv_iconst X 0 dX5_stepBehindKind_18 (by decide) ?_
    exact tv_iret X dX5_stepBehindKind_19 h
set_option maxHeartbeats 4000000 in
set_option maxRecDepth 100000 in
theorem c_X5_stepBehindStar (l : Launch) (Ω : Wd) (ad : Nat → Nat → Nat) (A : Nat → Prop) (σ : St) (a1 : Int32) {res : St × Int32} (h : f_X5_stepBehindStar σ a1 = some res) : Met l yX5_stepBehindStar (wsO yX5_stepBehindStar cX5_stepBehindStar 2 (some .int)) rm_X5_stepBehindStar (PcZ Ω A (PicX Ω ad A σ) [.ref (ad 10 0), .int a1]) (Qci (PicX Ω ad A) A res) 0 0 A := by
  refine Met.ofV (by decide) rfl (fun Γ hΓ X => ?_)
  have X : Fx Γ Ω A cX5_stepBehindStar 2 "MappingTexts$TextReader" rm_X5_stepBehindStar (some .int) := X
  unfold f_X5_stepBehindStar at h
  show V Γ (0, 0) _ A 2 _ 0 [(0, .ref (ad 10 0)), (1, .int a1)] []
  refine tv_aload_n X dX5_stepBehindStar_0 rfl 0 rfl ?_
  refine gX4_0 X (by omega) gw_1_232 dX5_stepBehindStar_1 ?_
  refine tv_iload_n X dX5_stepBehindStar_4 rfl 1 rfl ?_
  obtain ⟨s1, x2, hs1, h⟩ := cl_some h
  refine tv_callVi (st := []) X (c_X6_kindAt Γ.2.1 Ω ad A σ a1 hs1) ⟨gw_2_163, gw_2_160, gw_1_4, q_X6_kindAt, rfl, rfl, ⟨Nat.le_of_ble_eq_true rfl, Nat.le_of_ble_eq_true rfl⟩⟩ gw_2_161 gw_2_162 (fun H _ hz _ => PP.recv (f := 9) (i := 0) X.2.1 hz.1 (show 0 < 1 by omega) rfl rfl) rfl rfl (Nat.le_of_ble_eq_true rfl) dX5_stepBehindStar_5 ?_
  refine tv_iconst X 1 dX5_stepBehindStar_8 (by decide) ?_
  refine tv_icmp_ne X 35 dX5_stepBehindStar_9 (by decide) h (fun h => ?_) (fun h => ?_)
  · refine tv_aload_n X dX5_stepBehindStar_35 rfl 0 rfl ?_
    refine tv_iload_n X dX5_stepBehindStar_36 rfl 1 rfl ?_
    refine tv_bipush X 58 dX5_stepBehindStar_37 (by decide) ?_
    refine tv_bipush X 15 dX5_stepBehindStar_39 (by decide) ?_
    obtain ⟨s3, x4, hs3, h⟩ := cl_some h
    refine tv_callVi (st := []) X (c_X5_expect Γ.2.1 Ω ad A s1 a1 58 15 hs3) ⟨gw_3_35, gw_3_32, gw_1_9, q_X5_expect, rfl, rfl, ⟨Nat.le_of_ble_eq_true rfl, Nat.le_of_ble_eq_true rfl⟩⟩ gw_3_34 gw_p_10 (fun H _ hz _ => PP.recv (f := 10) (i := 0) X.2.1 hz.1 (show 0 < 1 by omega) rfl rfl) rfl rfl (Nat.le_of_ble_eq_true rfl) dX5_stepBehindStar_41 ?_
    exact tv_iret X dX5_stepBehindStar_44 h
  · refine tv_aload_n X dX5_stepBehindStar_12 rfl 0 rfl ?_
    refine gX4_0 X (by omega) gw_1_232 dX5_stepBehindStar_13 ?_
    refine tv_aload_n X dX5_stepBehindStar_16 rfl 0 rfl ?_
    refine gX4_8 X (by omega) gw_2_0 dX5_stepBehindStar_17 (fun hg17 => ?_)
    refine gX3_1 X (by omega) gw_1_178 dX5_stepBehindStar_20 ?_
    refine tv_iload_n X dX5_stepBehindStar_23 rfl 1 rfl ?_
    obtain ⟨s5, _u24, hs5, h⟩ := cl_some h
    refine tv_callVv (st := []) X (c_X6_addTo Γ.2.1 Ω ad A s1 (646 + 2 * (gr s1 4 0)) a1 (by omega) hs5) ⟨gw_3_9, gw_3_6, gw_1_4, q_X6_addTo, rfl, rfl, ⟨Nat.le_of_ble_eq_true rfl, Nat.le_of_ble_eq_true rfl⟩⟩ gw_3_7 gw_3_8 (fun H _ hz _ => PP.recv (f := 9) (i := 0) X.2.1 hz.1 (show 0 < 1 by omega) rfl rfl) rfl rfl (Nat.le_of_ble_eq_true rfl) dX5_stepBehindStar_24 ?_
    refine tv_aload_n X dX5_stepBehindStar_27 rfl 0 rfl ?_
    refine tv_bipush X 14 dX5_stepBehindStar_28 (by decide) ?_
    refine pX4_9 X (by omega) gw_2_1 dX5_stepBehindStar_30 ?_
    refine tv_ns h (fun s6 h => ?_)
    refine tv_iconst X 0 dX5_stepBehindStar_33 (by decide) ?_
    exact tv_iret X dX5_stepBehindStar_34 h
set_option maxHeartbeats 4000000 in
set_option maxRecDepth 100000 in
theorem c_X5_stepBehindValue (l : Launch) (Ω : Wd) (ad : Nat → Nat → Nat) (A : Nat → Prop) (σ : St) (a1 : Int32) {res : St × Int32} (h : f_X5_stepBehindValue σ a1 = some res) : Met l yX5_stepBehindValue (wsO yX5_stepBehindValue cX5_stepBehindValue 2 (some .int)) rm_X5_stepBehindValue (PcZ Ω A (PicX Ω ad A σ) [.ref (ad 10 0), .int a1]) (Qci (PicX Ω ad A) A res) 0 0 A := by
  refine Met.ofV (by decide) rfl (fun Γ hΓ X => ?_)
  have X : Fx Γ Ω A cX5_stepBehindValue 2 "MappingTexts$TextReader" rm_X5_stepBehindValue (some .int) := X
  unfold f_X5_stepBehindValue at h
  show V Γ (0, 0) _ A 2 _ 0 [(0, .ref (ad 10 0)), (1, .int a1)] []
  refine tv_aload_n X dX5_stepBehindValue_0 rfl 0 rfl ?_
  refine gX4_0 X (by omega) gw_1_232 dX5_stepBehindValue_1 ?_
  refine tv_iload_n X dX5_stepBehindValue_4 rfl 1 rfl ?_
  obtain ⟨s1, x2, hs1, h⟩ := cl_some h
  refine tv_callVi (st := []) X (c_X6_kindAt Γ.2.1 Ω ad A σ a1 hs1) ⟨gw_2_163, gw_2_160, gw_1_4, q_X6_kindAt, rfl, rfl, ⟨Nat.le_of_ble_eq_true rfl, Nat.le_of_ble_eq_true rfl⟩⟩ gw_2_161 gw_2_162 (fun H _ hz _ => PP.recv (f := 9) (i := 0) X.2.1 hz.1 (show 0 < 1 by omega) rfl rfl) rfl rfl (Nat.le_of_ble_eq_true rfl) dX5_stepBehindValue_5 ?_
  refine tv_bipush X 44 dX5_stepBehindValue_8 (by decide) ?_
  refine tv_icmp_ne X 20 dX5_stepBehindValue_10 (by decide) h (fun h => ?_) (fun h => ?_)
  · refine tv_aload_n X dX5_stepBehindValue_20 rfl 0 rfl ?_
    refine tv_iload_n X dX5_stepBehindValue_21 rfl 1 rfl ?_
    refine tv_bipush X 41 dX5_stepBehindValue_22 (by decide) ?_
    refine tv_bipush X 10 dX5_stepBehindValue_24 (by decide) ?_
    obtain ⟨s3, x4, hs3, h⟩ := cl_some h
    refine tv_callVi (st := []) X (c_X5_expect Γ.2.1 Ω ad A s1 a1 41 10 hs3) ⟨gw_3_35, gw_3_32, gw_1_9, q_X5_expect, rfl, rfl, ⟨Nat.le_of_ble_eq_true rfl, Nat.le_of_ble_eq_true rfl⟩⟩ gw_3_34 gw_p_10 (fun H _ hz _ => PP.recv (f := 10) (i := 0) X.2.1 hz.1 (show 0 < 1 by omega) rfl rfl) rfl rfl (Nat.le_of_ble_eq_true rfl) dX5_stepBehindValue_26 ?_
    exact tv_iret X dX5_stepBehindValue_29 h
  · refine tv_aload_n X dX5_stepBehindValue_13 rfl 0 rfl ?_
    refine tv_iconst X 4 dX5_stepBehindValue_14 (by decide) ?_
    refine pX4_9 X (by omega) gw_2_1 dX5_stepBehindValue_15 ?_
    refine tv_ns h (fun s5 h => ?_)
    refine tv_iconst X 0 dX5_stepBehindValue_18 (by decide) ?_
    exact tv_iret X dX5_stepBehindValue_19 h
set_option maxHeartbeats 4000000 in
set_option maxRecDepth 100000 in
theorem l_X5_isNameTwice_50 {Γ : Cx} {Ω : Wd} {ad : Nat → Nat → Nat} {A : Nat → Prop} {res : St × Int32} (X : Fx Γ Ω A cX5_isNameTwice 4 "MappingTexts$TextReader" rm_X5_isNameTwice (some .boolean)) {k2 : St → Int32 → Int32 → Option (St × Int32)} (hk2 : ∀ (σ : St) (v1 : Int32) (v2 : Int32), k2 σ v1 v2 = some res → V Γ (0, 0) (Qe Γ (0, 0) A (Qci (PicX Ω ad A) A res)) A 4 (PicX Ω ad A σ) 2 [(0, .ref (ad 10 0)), (1, .int v1), (2, .int v2)] []) (σ : St) (v1 : Int32) (v2 : Int32) (h : f_X5_isNameTwice_50 k2 σ v1 v2 = some res) : V Γ (0, 0) (Qe Γ (0, 0) A (Qci (PicX Ω ad A) A res)) A 4 (PicX Ω ad A σ) 50 [(0, .ref (ad 10 0)), (1, .int v1), (2, .int v2)] [] := by
  unfold f_X5_isNameTwice_50 at h
  refine tv_iinc X (v2 + 1) dX5_isNameTwice_50 2 rfl rfl (by decide) [(2, .int (v2 + 1)), (0, .ref (ad 10 0)), (1, .int v1)] rfl ?_
  refine tv_goto X 2 dX5_isNameTwice_53 (by decide) ?_
  refine V.pick [1, 2, 0] rfl ?_
  exact hk2 σ v1 (v2 + 1) h
set_option maxHeartbeats 4000000 in
set_option maxRecDepth 100000 in
theorem l_X5_isNameTwice_2 {Γ : Cx} {Ω : Wd} {ad : Nat → Nat → Nat} {A : Nat → Prop} {res : St × Int32} (X : Fx Γ Ω A cX5_isNameTwice 4 "MappingTexts$TextReader" rm_X5_isNameTwice (some .boolean)) : ∀ (n : Nat) (σ : St) (v1 : Int32) (v2 : Int32), f_X5_isNameTwice_2 n σ v1 v2 = some res → V Γ (0, 0) (Qe Γ (0, 0) A (Qci (PicX Ω ad A) A res)) A 4 (PicX Ω ad A σ) 2 [(0, .ref (ad 10 0)), (1, .int v1), (2, .int v2)] [] := by
  intro n
  induction n with
  | zero =>
    intro σ v1 v2 h
    cases (show none = some res from h)
  | succ n ih =>
    intro σ v1 v2 h
    rw [f_X5_isNameTwice_2] at h
    refine tv_iload_n X dX5_isNameTwice_2 rfl 2 rfl ?_
    refine tv_iload_n X dX5_isNameTwice_3 rfl 1 rfl ?_
    refine tv_icmp_ge X 56 dX5_isNameTwice_4 (by decide) h (fun h => ?_) (fun h => ?_)
    · refine tv_iconst X 0 dX5_isNameTwice_56 (by decide) ?_
      exact tv_zret X dX5_isNameTwice_57 (Or.inl rfl) h
    · refine tv_aload_n X dX5_isNameTwice_7 rfl 0 rfl ?_
      refine gX4_6 X (by omega) gw_1_238 dX5_isNameTwice_8 (fun hg8 => ?_)
      refine gX6_0 X (by omega) gw_1_194 dX5_isNameTwice_11 ?_
      refine tv_iload_n X dX5_isNameTwice_14 rfl 2 rfl ?_
      refine aaX6 X (by omega) dX5_isNameTwice_15 h (fun j1 hj1 h => ?_)
      refine tv_astore_n X dX5_isNameTwice_16 rfl (by decide) [(3, .ref (ad 4 (40 * (gr σ 2 0) + j1))), (0, .ref (ad 10 0)), (1, .int v1), (2, .int v2)] rfl ?_
      refine tv_aload_n X dX5_isNameTwice_17 rfl 0 rfl ?_
      refine gX1_7 X (by omega) gw_1_146 dX5_isNameTwice_18 ?_
      refine tv_aload_n X dX5_isNameTwice_21 rfl 1 rfl ?_
      refine gX4_7 X (by omega) gw_1_239 dX5_isNameTwice_22 (fun hg22 => ?_)
      refine gX1_7 X (by omega) gw_1_146 dX5_isNameTwice_25 ?_
      refine tv_icmp_ne X 50 dX5_isNameTwice_28 (by decide) h (fun h => ?_) (fun h => ?_)
      · refine V.pick [1, 2, 3] rfl ?_
        exact l_X5_isNameTwice_50 X ih σ v1 v2 h
      · refine tv_aload_n X dX5_isNameTwice_31 rfl 0 rfl ?_
        refine gX1_0 X (by omega) gw_1_113 dX5_isNameTwice_32 ?_
        refine tv_aload_n X dX5_isNameTwice_35 rfl 1 rfl ?_
        refine gX4_7 X (by omega) gw_1_239 dX5_isNameTwice_36 (fun hg36 => ?_)
        refine gX1_0 X (by omega) gw_1_113 dX5_isNameTwice_39 ?_
        obtain ⟨s2, x3, hs2, h⟩ := cl_some h
        refine tv_callVi (st := []) X (c_X3_sameAs Γ.2.1 Ω ad A σ (5 + 2 * (40 * (gr σ 2 0) + j1)) (5 + 2 * (gr σ 3 0)) (by omega) (by omega) hs2) ⟨gw_3_18, gw_3_15, gw_1_2, q_X3_sameAs, rfl, rfl, ⟨Nat.le_of_ble_eq_true rfl, Nat.le_of_ble_eq_true rfl⟩⟩ gw_3_16 gw_3_17 (fun H _ hz _ => PP.recv (f := 1) (i := (5 + 2 * (40 * (gr σ 2 0) + j1))) X.2.1 hz.1 (show (5 + 2 * (40 * (gr σ 2 0) + j1)) < 773 by omega) rfl rfl) rfl rfl (Nat.le_of_ble_eq_true rfl) dX5_isNameTwice_42 ?_
        refine tv_if_eq X 50 dX5_isNameTwice_45 (by decide) h (fun h => ?_) (fun h => ?_)
        · refine V.pick [1, 2, 3] rfl ?_
          exact l_X5_isNameTwice_50 X ih s2 v1 v2 h
        · refine tv_iconst X 1 dX5_isNameTwice_48 (by decide) ?_
          exact tv_zret X dX5_isNameTwice_49 (Or.inr rfl) h
set_option maxHeartbeats 4000000 in
set_option maxRecDepth 100000 in
theorem c_X5_isNameTwice (l : Launch) (Ω : Wd) (ad : Nat → Nat → Nat) (A : Nat → Prop) (σ : St) (a1 : Int32) {res : St × Int32} (h : f_X5_isNameTwice σ a1 = some res) : Met l yX5_isNameTwice (wsO yX5_isNameTwice cX5_isNameTwice 4 (some .boolean)) rm_X5_isNameTwice (PcZ Ω A (PicX Ω ad A σ) [.ref (ad 10 0), .int a1]) (Qci (PicX Ω ad A) A res) 0 0 A := by
  refine Met.ofV (by decide) rfl (fun Γ hΓ X => ?_)
  have X : Fx Γ Ω A cX5_isNameTwice 4 "MappingTexts$TextReader" rm_X5_isNameTwice (some .boolean) := X
  unfold f_X5_isNameTwice at h
  show V Γ (0, 0) _ A 4 _ 0 [(0, .ref (ad 10 0)), (1, .int a1)] []
  refine tv_iconst X 0 dX5_isNameTwice_0 (by decide) ?_
  refine tv_istore_n X dX5_isNameTwice_1 rfl (by decide) [(2, .int 0), (0, .ref (ad 10 0)), (1, .int a1)] rfl ?_
  refine V.pick [1, 2, 0] rfl ?_
  exact l_X5_isNameTwice_2 X fl σ a1 0 h
set_option maxHeartbeats 4000000 in
set_option maxRecDepth 100000 in
theorem c_X7_beginField (l : Launch) (Ω : Wd) (ad : Nat → Nat → Nat) (A : Nat → Prop) (σ : St) (o : Nat) (a1 : Int32) (a2 : Int32) (bo : o < 8) {res : St × Unit} (h : f_X7_beginField σ o a1 a2 = some res) : Met l yX7_beginField (wsO yX7_beginField cX7_beginField 3 none) rm_X7_beginField (PcZ Ω A (PicX Ω ad A σ) [.ref (ad 3 o), .int a1, .int a2]) (Qcv (PicX Ω ad A) A res) 0 0 A := by
  refine Met.ofV (by decide) rfl (fun Γ hΓ X => ?_)
  have X : Fx Γ Ω A cX7_beginField 3 "MappingTexts$Version" rm_X7_beginField none := X
  unfold f_X7_beginField at h
  show V Γ (0, 0) _ A 3 _ 0 [(0, .ref (ad 3 o)), (1, .int a1), (2, .int a2)] []
  refine tv_aload_n X dX7_beginField_0 rfl 0 rfl ?_
  refine gX6_0 X (by omega) gw_1_193 dX7_beginField_1 ?_
  refine tv_iload_n X dX7_beginField_4 rfl 1 rfl ?_
  refine aaX6 X (by omega) dX7_beginField_5 h (fun j1 hj1 h => ?_)
  obtain ⟨s2, _u6, hs2, h⟩ := cl_some h
  refine tv_callVv (st := []) X (c_X1_begin Γ.2.1 Ω ad A σ (40 * o + j1) (by omega) hs2) ⟨gw_2_235, gw_2_232, gw_1_7, q_X1_begin, rfl, rfl, ⟨Nat.le_of_ble_eq_true rfl, Nat.le_of_ble_eq_true rfl⟩⟩ gw_2_233 gw_2_234 (fun H _ hz _ => PP.recv (f := 4) (i := (40 * o + j1)) X.2.1 hz.1 (show (40 * o + j1) < 320 by omega) rfl rfl) rfl rfl (Nat.le_of_ble_eq_true rfl) dX7_beginField_6 ?_
  refine tv_iload_n X dX7_beginField_9 rfl 2 rfl ?_
  refine tv_if_lt X 96 dX7_beginField_10 (by decide) h (fun h => ?_) (fun h => ?_)
  · exact tv_vret X dX7_beginField_96 h
  · refine tv_iload_n X dX7_beginField_13 rfl 2 rfl ?_
    refine tv_iload_n X dX7_beginField_14 rfl 1 rfl ?_
    refine tv_icmp_ge X 96 dX7_beginField_15 (by decide) h (fun h => ?_) (fun h => ?_)
    · exact tv_vret X dX7_beginField_96 h
    · refine tv_aload_n X dX7_beginField_18 rfl 0 rfl ?_
      refine gX6_0 X (by omega) gw_1_193 dX7_beginField_19 ?_
      refine tv_iload_n X dX7_beginField_22 rfl 1 rfl ?_
      refine aaX6 X (by omega) dX7_beginField_23 h (fun j3 hj3 h => ?_)
      refine tv_iload_n X dX7_beginField_24 rfl 2 rfl ?_
      refine pX1_7 X (by omega) gw_1_144 dX7_beginField_25 ?_
      refine tv_ns h (fun s4 h => ?_)
      refine tv_aload_n X dX7_beginField_28 rfl 0 rfl ?_
      refine gX6_0 X (by omega) gw_1_193 dX7_beginField_29 ?_
      refine tv_iload_n X dX7_beginField_32 rfl 1 rfl ?_
      refine aaX6 X (by omega) dX7_beginField_33 h (fun j5 hj5 h => ?_)
      refine tv_aload_n X dX7_beginField_34 rfl 0 rfl ?_
      refine gX6_0 X (by omega) gw_1_193 dX7_beginField_35 ?_
      refine tv_iload_n X dX7_beginField_38 rfl 2 rfl ?_
      refine aaX6 X (by omega) dX7_beginField_39 h (fun j6 hj6 h => ?_)
      refine gX1_8 X (by omega) gw_1_148 dX7_beginField_40 ?_
      refine tv_iconst X 1 dX7_beginField_43 (by decide) ?_
      refine tv_iadd X dX7_beginField_44 ?_
      refine pX1_8 X (by omega) gw_1_148 dX7_beginField_45 ?_
      refine tv_ns h (fun s7 h => ?_)
      refine tv_aload_n X dX7_beginField_48 rfl 0 rfl ?_
      refine gX6_0 X (by omega) gw_1_193 dX7_beginField_49 ?_
      refine tv_iload_n X dX7_beginField_52 rfl 1 rfl ?_
      refine aaX6 X (by omega) dX7_beginField_53 h (fun j8 hj8 h => ?_)
      refine gX1_0 X (by omega) gw_1_110 dX7_beginField_54 ?_
      refine tv_aload_n X dX7_beginField_57 rfl 0 rfl ?_
      refine gX6_0 X (by omega) gw_1_193 dX7_beginField_58 ?_
      refine tv_iload_n X dX7_beginField_61 rfl 2 rfl ?_
      refine aaX6 X (by omega) dX7_beginField_62 h (fun j9 hj9 h => ?_)
      refine gX1_0 X (by omega) gw_1_110 dX7_beginField_63 ?_
      refine tv_iconst X 0 dX7_beginField_66 (by decide) ?_
      refine tv_aload_n X dX7_beginField_67 rfl 0 rfl ?_
      refine gX6_0 X (by omega) gw_1_193 dX7_beginField_68 ?_
      refine tv_iload_n X dX7_beginField_71 rfl 2 rfl ?_
      refine aaX6 X (by omega) dX7_beginField_72 h (fun j10 hj10 h => ?_)
      refine gX1_0 X (by omega) gw_1_110 dX7_beginField_73 ?_
      obtain ⟨s11, x12, hs11, h⟩ := cl_some h
      refine tv_callVi (st := [.int 0, .ref (ad 1 (5 + 2 * (40 * o + j9))), .ref (ad 1 (5 + 2 * (40 * o + j8)))]) X (c_X3_length Γ.2.1 Ω ad A s7 (5 + 2 * (40 * o + j10)) (by omega) hs11) ⟨gw_2_90, gw_2_237, gw_1_2, q_X3_length, rfl, rfl, ⟨Nat.le_of_ble_eq_true rfl, Nat.le_of_ble_eq_true rfl⟩⟩ gw_2_88 gw_2_89 (fun H _ hz _ => PP.recv (f := 1) (i := (5 + 2 * (40 * o + j10))) X.2.1 hz.1 (show (5 + 2 * (40 * o + j10)) < 773 by omega) rfl rfl) rfl rfl (Nat.le_of_ble_eq_true rfl) dX7_beginField_76 ?_
      obtain ⟨s13, _u79, hs13, h⟩ := cl_some h
      refine tv_callVv (st := []) X (c_X3_addPart Γ.2.1 Ω ad A s11 (5 + 2 * (40 * o + j8)) (5 + 2 * (40 * o + j9)) 0 x12 (by omega) (by omega) hs13) ⟨gw_3_1, gw_2_238, gw_1_2, q_X3_addPart, rfl, rfl, ⟨Nat.le_of_ble_eq_true rfl, Nat.le_of_ble_eq_true rfl⟩⟩ gw_2_239 gw_3_0 (fun H _ hz _ => PP.recv (f := 1) (i := (5 + 2 * (40 * o + j8))) X.2.1 hz.1 (show (5 + 2 * (40 * o + j8)) < 773 by omega) rfl rfl) rfl rfl (Nat.le_of_ble_eq_true rfl) dX7_beginField_79 ?_
      refine tv_aload_n X dX7_beginField_82 rfl 0 rfl ?_
      refine gX6_0 X (by omega) gw_1_193 dX7_beginField_83 ?_
      refine tv_iload_n X dX7_beginField_86 rfl 1 rfl ?_
      refine aaX6 X (by omega) dX7_beginField_87 h (fun j14 hj14 h => ?_)
      refine gX1_0 X (by omega) gw_1_110 dX7_beginField_88 ?_
      refine tv_bipush X 46 dX7_beginField_91 (by decide) ?_
      obtain ⟨s15, _u93, hs15, h⟩ := cl_some h
      refine tv_callVv (st := []) X (c_X3_add Γ.2.1 Ω ad A s13 (5 + 2 * (40 * o + j14)) 46 (by omega) hs15) ⟨gw_2_86, gw_3_5, gw_1_2, q_X3_add, rfl, rfl, ⟨Nat.le_of_ble_eq_true rfl, Nat.le_of_ble_eq_true rfl⟩⟩ gw_2_84 gw_2_85 (fun H _ hz _ => PP.recv (f := 1) (i := (5 + 2 * (40 * o + j14))) X.2.1 hz.1 (show (5 + 2 * (40 * o + j14)) < 773 by omega) rfl rfl) rfl rfl (Nat.le_of_ble_eq_true rfl) dX7_beginField_93 ?_
      exact tv_vret X dX7_beginField_96 h
set_option maxHeartbeats 4000000 in
set_option maxRecDepth 100000 in
theorem l_X5_stepFieldName_101 {Γ : Cx} {Ω : Wd} {ad : Nat → Nat → Nat} {A : Nat → Prop} {res : St × Int32} (X : Fx Γ Ω A cX5_stepFieldName 3 "MappingTexts$TextReader" rm_X5_stepFieldName (some .int)) (σ : St) (h : f_X5_stepFieldName_101 σ = some res) : V Γ (0, 0) (Qe Γ (0, 0) A (Qci (PicX Ω ad A) A res)) A 3 (PicX Ω ad A σ) 101 [(0, .ref (ad 10 0))] [] := by
  unfold f_X5_stepFieldName_101 at h
  refine tv_aload_n X dX5_stepFieldName_101 rfl 0 rfl ?_
  refine gX4_6 X (by omega) gw_1_238 dX5_stepFieldName_102 (fun hg102 => ?_)
  refine tv_dup X dX5_stepFieldName_105 rfl ?_
  refine gX6_3 X (by omega) gw_1_203 dX5_stepFieldName_106 ?_
  refine tv_iconst X 1 dX5_stepFieldName_109 (by decide) ?_
  refine tv_iadd X dX5_stepFieldName_110 ?_
  refine pX6_3 X (by omega) gw_1_203 dX5_stepFieldName_111 ?_
  refine tv_ns h (fun s12 h => ?_)
  refine tv_aload_n X dX5_stepFieldName_114 rfl 0 rfl ?_
  refine tv_iconst X 1 dX5_stepFieldName_115 (by decide) ?_
  refine pX4_9 X (by omega) gw_2_1 dX5_stepFieldName_116 ?_
  refine tv_ns h (fun s13 h => ?_)
  refine tv_iconst X 0 dX5_stepFieldName_119 (by decide) ?_
  exact tv_iret X dX5_stepFieldName_120 h
set_option maxHeartbeats 4000000 in
set_option maxRecDepth 100000 in
theorem l_X5_stepFieldName_44 {Γ : Cx} {Ω : Wd} {ad : Nat → Nat → Nat} {A : Nat → Prop} {res : St × Int32} (X : Fx Γ Ω A cX5_stepFieldName 3 "MappingTexts$TextReader" rm_X5_stepFieldName (some .int)) (σ : St) (t0 : Nat) (t1 : Int32) (t2 : Int32) (v1 : Int32) (v2 : Int32) (bt0 : t0 < 8) (h : f_X5_stepFieldName_44 σ t0 t1 t2 v1 v2 = some res) : V Γ (0, 0) (Qe Γ (0, 0) A (Qci (PicX Ω ad A) A res)) A 3 (PicX Ω ad A σ) 44 [(0, .ref (ad 10 0)), (1, .int v1), (2, .int v2)] [.int t2, .int t1, .ref (ad 3 t0)] := by
  unfold f_X5_stepFieldName_44 at h
  obtain ⟨s2, _u44, hs2, h⟩ := cl_some h
  refine tv_callVv (st := []) X (c_X7_beginField Γ.2.1 Ω ad A σ t0 t1 t2 (by omega) hs2) ⟨gw_2_231, gw_2_228, gw_1_6, q_X7_beginField, rfl, rfl, ⟨Nat.le_of_ble_eq_true rfl, Nat.le_of_ble_eq_true rfl⟩⟩ gw_2_229 gw_2_230 (fun H _ hz _ => PP.recv (f := 3) (i := t0) X.2.1 hz.1 (show t0 < 8 by omega) rfl rfl) rfl rfl (Nat.le_of_ble_eq_true rfl) dX5_stepFieldName_44 ?_
  refine tv_aload_n X dX5_stepFieldName_47 rfl 0 rfl ?_
  refine tv_aload_n X dX5_stepFieldName_48 rfl 0 rfl ?_
  refine gX4_6 X (by omega) gw_1_238 dX5_stepFieldName_49 (fun hg49 => ?_)
  refine gX6_0 X (by omega) gw_1_194 dX5_stepFieldName_52 ?_
  refine tv_iload_n X dX5_stepFieldName_55 rfl 2 rfl ?_
  refine aaX6 X (by omega) dX5_stepFieldName_56 h (fun j3 hj3 h => ?_)
  refine pX4_7 X (by omega) (by omega) gw_1_239 dX5_stepFieldName_57 ?_
  refine tv_ns h (fun s4 h => ?_)
  refine tv_aload_n X dX5_stepFieldName_60 rfl 0 rfl ?_
  refine tv_iload_n X dX5_stepFieldName_61 rfl 1 rfl ?_
  refine pX4_11 X (by omega) gw_2_3 dX5_stepFieldName_62 ?_
  refine tv_ns h (fun s5 h => ?_)
  refine tv_aload_n X dX5_stepFieldName_65 rfl 0 rfl ?_
  refine gX4_0 X (by omega) gw_1_232 dX5_stepFieldName_66 ?_
  refine tv_aload_n X dX5_stepFieldName_69 rfl 0 rfl ?_
  refine gX4_7 X (by omega) gw_1_239 dX5_stepFieldName_70 (fun hg70 => ?_)
  refine gX1_0 X (by omega) gw_1_113 dX5_stepFieldName_73 ?_
  refine tv_iload_n X dX5_stepFieldName_76 rfl 1 rfl ?_
  obtain ⟨s6, _u77, hs6, h⟩ := cl_some h
  refine tv_callVv (st := []) X (c_X6_addTo Γ.2.1 Ω ad A s5 (5 + 2 * (gr s5 3 0)) v1 (by omega) hs6) ⟨gw_3_9, gw_3_6, gw_1_4, q_X6_addTo, rfl, rfl, ⟨Nat.le_of_ble_eq_true rfl, Nat.le_of_ble_eq_true rfl⟩⟩ gw_3_7 gw_3_8 (fun H _ hz _ => PP.recv (f := 9) (i := 0) X.2.1 hz.1 (show 0 < 1 by omega) rfl rfl) rfl rfl (Nat.le_of_ble_eq_true rfl) dX5_stepFieldName_77 ?_
  refine tv_aload_n X dX5_stepFieldName_80 rfl 0 rfl ?_
  refine tv_iload_n X dX5_stepFieldName_81 rfl 2 rfl ?_
  obtain ⟨s7, x8, hs7, h⟩ := cl_some h
  refine tv_callVi (st := []) X (c_X5_isNameTwice Γ.2.1 Ω ad A s6 v2 hs7) ⟨gw_3_14, gw_3_11, gw_1_9, q_X5_isNameTwice, rfl, rfl, ⟨Nat.le_of_ble_eq_true rfl, Nat.le_of_ble_eq_true rfl⟩⟩ gw_3_13 gw_p_7 (fun H _ hz _ => PP.recv (f := 10) (i := 0) X.2.1 hz.1 (show 0 < 1 by omega) rfl rfl) rfl rfl (Nat.le_of_ble_eq_true rfl) dX5_stepFieldName_82 ?_
  refine tv_if_eq X 101 dX5_stepFieldName_85 (by decide) h (fun h => ?_) (fun h => ?_)
  · refine V.pick [0] rfl ?_
    exact l_X5_stepFieldName_101 X s7 h
  · refine tv_aload_n X dX5_stepFieldName_88 rfl 0 rfl ?_
    refine tv_iconst X 4 dX5_stepFieldName_89 (by decide) ?_
    refine tv_aload_n X dX5_stepFieldName_90 rfl 0 rfl ?_
    refine gX4_0 X (by omega) gw_1_232 dX5_stepFieldName_91 ?_
    refine tv_iload_n X dX5_stepFieldName_94 rfl 1 rfl ?_
    obtain ⟨s9, x10, hs9, h⟩ := cl_some h
    refine tv_callVi (st := [.int 4, .ref (ad 10 0)]) X (c_X6_placeAt Γ.2.1 Ω ad A s7 v1 hs9) ⟨gw_2_136, gw_3_23, gw_1_4, q_X6_placeAt, rfl, rfl, ⟨Nat.le_of_ble_eq_true rfl, Nat.le_of_ble_eq_true rfl⟩⟩ gw_2_134 gw_2_135 (fun H _ hz _ => PP.recv (f := 9) (i := 0) X.2.1 hz.1 (show 0 < 1 by omega) rfl rfl) rfl rfl (Nat.le_of_ble_eq_true rfl) dX5_stepFieldName_95 ?_
    obtain ⟨s11, _u98, hs11, h⟩ := cl_some h
    refine tv_callVv (st := []) X (c_X5_blame Γ.2.1 Ω ad A s9 4 x10 hs11) ⟨gw_3_27, gw_3_24, gw_1_9, q_X5_blame, rfl, rfl, ⟨Nat.le_of_ble_eq_true rfl, Nat.le_of_ble_eq_true rfl⟩⟩ gw_3_26 gw_p_8 (fun H _ hz _ => PP.recv (f := 10) (i := 0) X.2.1 hz.1 (show 0 < 1 by omega) rfl rfl) rfl rfl (Nat.le_of_ble_eq_true rfl) dX5_stepFieldName_98 ?_
    refine V.pick [0] rfl ?_
    exact l_X5_stepFieldName_101 X s11 h
set_option maxHeartbeats 4000000 in
set_option maxRecDepth 100000 in
theorem c_X5_stepFieldName (l : Launch) (Ω : Wd) (ad : Nat → Nat → Nat) (A : Nat → Prop) (σ : St) (a1 : Int32) {res : St × Int32} (h : f_X5_stepFieldName σ a1 = some res) : Met l yX5_stepFieldName (wsO yX5_stepFieldName cX5_stepFieldName 3 (some .int)) rm_X5_stepFieldName (PcZ Ω A (PicX Ω ad A σ) [.ref (ad 10 0), .int a1]) (Qci (PicX Ω ad A) A res) 0 0 A := by
  refine Met.ofV (by decide) rfl (fun Γ hΓ X => ?_)
  have X : Fx Γ Ω A cX5_stepFieldName 3 "MappingTexts$TextReader" rm_X5_stepFieldName (some .int) := X
  unfold f_X5_stepFieldName at h
  show V Γ (0, 0) _ A 3 _ 0 [(0, .ref (ad 10 0)), (1, .int a1)] []
  refine tv_aload_n X dX5_stepFieldName_0 rfl 0 rfl ?_
  refine gX4_6 X (by omega) gw_1_238 dX5_stepFieldName_1 (fun hg1 => ?_)
  refine gX6_3 X (by omega) gw_1_203 dX5_stepFieldName_4 ?_
  refine tv_istore_n X dX5_stepFieldName_7 rfl (by decide) [(2, .int (gi σ 603 (gr σ 2 0))), (0, .ref (ad 10 0)), (1, .int a1)] rfl ?_
  refine tv_iload_n X dX5_stepFieldName_8 rfl 0 rfl ?_
  refine tv_bipush X 40 dX5_stepFieldName_9 (by decide) ?_
  refine tv_icmp_lt X 16 dX5_stepFieldName_11 (by decide) h (fun h => ?_) (fun h => ?_)
  · refine tv_aload_n X dX5_stepFieldName_16 rfl 1 rfl ?_
    refine gX4_6 X (by omega) gw_1_238 dX5_stepFieldName_17 (fun hg17 => ?_)
    refine tv_iload_n X dX5_stepFieldName_20 rfl 0 rfl ?_
    refine tv_aload_n X dX5_stepFieldName_21 rfl 1 rfl ?_
    refine gX4_10 X (by omega) gw_2_2 dX5_stepFieldName_22 ?_
    refine tv_if_le X 42 dX5_stepFieldName_25 (by decide) h (fun h => ?_) (fun h => ?_)
    · refine tv_bipush X (-2) dX5_stepFieldName_42 (by decide) ?_
      refine V.pick [1, 2, 0] rfl ?_
      exact l_X5_stepFieldName_44 X σ (gr σ 2 0) (gi σ 603 (gr σ 2 0)) (-2) a1 (gi σ 603 (gr σ 2 0)) (by omega) h
    · refine tv_aload_n X dX5_stepFieldName_28 rfl 1 rfl ?_
      refine gX4_2 X (by omega) gw_1_234 dX5_stepFieldName_29 ?_
      refine tv_aload_n X dX5_stepFieldName_32 rfl 1 rfl ?_
      refine gX4_10 X (by omega) gw_2_2 dX5_stepFieldName_33 ?_
      refine tv_iconst X 1 dX5_stepFieldName_36 (by decide) ?_
      refine tv_isub X dX5_stepFieldName_37 ?_
      refine iaX X (by omega) dX5_stepFieldName_38 h (fun j1 hj1 h => ?_)
      refine tv_goto X 44 dX5_stepFieldName_39 (by decide) ?_
      refine V.pick [1, 2, 0] rfl ?_
      exact l_X5_stepFieldName_44 X σ (gr σ 2 0) (gi σ 603 (gr σ 2 0)) (ga σ 8 11 j1) a1 (gi σ 603 (gr σ 2 0)) (by omega) h
  · refine tv_iconst X 3 dX5_stepFieldName_14 (by decide) ?_
    exact tv_iret X dX5_stepFieldName_15 h
set_option maxHeartbeats 4000000 in
set_option maxRecDepth 100000 in
theorem c_X5_stepInPath (l : Launch) (Ω : Wd) (ad : Nat → Nat → Nat) (A : Nat → Prop) (σ : St) (a1 : Int32) {res : St × Int32} (h : f_X5_stepInPath σ a1 = some res) : Met l yX5_stepInPath (wsO yX5_stepInPath cX5_stepInPath 2 (some .int)) rm_X5_stepInPath (PcZ Ω A (PicX Ω ad A σ) [.ref (ad 10 0), .int a1]) (Qci (PicX Ω ad A) A res) 0 0 A := by
  refine Met.ofV (by decide) rfl (fun Γ hΓ X => ?_)
  have X : Fx Γ Ω A cX5_stepInPath 2 "MappingTexts$TextReader" rm_X5_stepInPath (some .int) := X
  unfold f_X5_stepInPath at h
  show V Γ (0, 0) _ A 2 _ 0 [(0, .ref (ad 10 0)), (1, .int a1)] []
  refine tv_aload_n X dX5_stepInPath_0 rfl 0 rfl ?_
  refine gX4_0 X (by omega) gw_1_232 dX5_stepInPath_1 ?_
  refine tv_iload_n X dX5_stepInPath_4 rfl 1 rfl ?_
  obtain ⟨s1, x2, hs1, h⟩ := cl_some h
  refine tv_callVi (st := []) X (c_X6_kindAt Γ.2.1 Ω ad A σ a1 hs1) ⟨gw_2_163, gw_2_160, gw_1_4, q_X6_kindAt, rfl, rfl, ⟨Nat.le_of_ble_eq_true rfl, Nat.le_of_ble_eq_true rfl⟩⟩ gw_2_161 gw_2_162 (fun H _ hz _ => PP.recv (f := 9) (i := 0) X.2.1 hz.1 (show 0 < 1 by omega) rfl rfl) rfl rfl (Nat.le_of_ble_eq_true rfl) dX5_stepInPath_5 ?_
  refine tv_bipush X 46 dX5_stepInPath_8 (by decide) ?_
  refine tv_icmp_ne X 21 dX5_stepInPath_10 (by decide) h (fun h => ?_) (fun h => ?_)
  · refine tv_aload_n X dX5_stepInPath_21 rfl 0 rfl ?_
    refine tv_iload_n X dX5_stepInPath_22 rfl 1 rfl ?_
    obtain ⟨s3, x4, hs3, h⟩ := cl_some h
    refine tv_callVi (st := []) X (c_X5_stepBehindValue Γ.2.1 Ω ad A s1 a1 hs3) ⟨gw_3_131, gw_3_128, gw_1_9, q_X5_stepBehindValue, rfl, rfl, ⟨Nat.le_of_ble_eq_true rfl, Nat.le_of_ble_eq_true rfl⟩⟩ gw_3_130 gw_p_23 (fun H _ hz _ => PP.recv (f := 10) (i := 0) X.2.1 hz.1 (show 0 < 1 by omega) rfl rfl) rfl rfl (Nat.le_of_ble_eq_true rfl) dX5_stepInPath_23 ?_
    exact tv_iret X dX5_stepInPath_26 h
  · refine tv_aload_n X dX5_stepInPath_13 rfl 0 rfl ?_
    refine tv_bipush X 8 dX5_stepInPath_14 (by decide) ?_
    refine pX4_9 X (by omega) gw_2_1 dX5_stepInPath_16 ?_
    refine tv_ns h (fun s5 h => ?_)
    refine tv_iconst X 0 dX5_stepInPath_19 (by decide) ?_
    exact tv_iret X dX5_stepInPath_20 h
set_option maxHeartbeats 4000000 in
set_option maxRecDepth 100000 in
theorem l_X5_stepLimitWord_21 {Γ : Cx} {Ω : Wd} {ad : Nat → Nat → Nat} {A : Nat → Prop} {res : St × Int32} (X : Fx Γ Ω A cX5_stepLimitWord 2 "MappingTexts$TextReader" rm_X5_stepLimitWord (some .int)) (σ : St) (h : f_X5_stepLimitWord_21 σ = some res) : V Γ (0, 0) (Qe Γ (0, 0) A (Qci (PicX Ω ad A) A res)) A 2 (PicX Ω ad A σ) 21 [(0, .ref (ad 10 0))] [] := by
  unfold f_X5_stepLimitWord_21 at h
  refine tv_aload_n X dX5_stepLimitWord_21 rfl 0 rfl ?_
  refine tv_bipush X 16 dX5_stepLimitWord_22 (by decide) ?_
  refine pX4_9 X (by omega) gw_2_1 dX5_stepLimitWord_24 ?_
  refine tv_ns h (fun s4 h => ?_)
  refine tv_iconst X 0 dX5_stepLimitWord_27 (by decide) ?_
  exact tv_iret X dX5_stepLimitWord_28 h
set_option maxHeartbeats 4000000 in
set_option maxRecDepth 100000 in
theorem c_X5_stepLimitWord (l : Launch) (Ω : Wd) (ad : Nat → Nat → Nat) (A : Nat → Prop) (σ : St) (a1 : Int32) {res : St × Int32} (h : f_X5_stepLimitWord σ a1 = some res) : Met l yX5_stepLimitWord (wsO yX5_stepLimitWord cX5_stepLimitWord 2 (some .int)) rm_X5_stepLimitWord (PcZ Ω A (PicX Ω ad A σ) [.ref (ad 10 0), .int a1]) (Qci (PicX Ω ad A) A res) 0 0 A := by
  refine Met.ofV (by decide) rfl (fun Γ hΓ X => ?_)
  have X : Fx Γ Ω A cX5_stepLimitWord 2 "MappingTexts$TextReader" rm_X5_stepLimitWord (some .int) := X
  unfold f_X5_stepLimitWord at h
  show V Γ (0, 0) _ A 2 _ 0 [(0, .ref (ad 10 0)), (1, .int a1)] []
  refine tv_aload_n X dX5_stepLimitWord_0 rfl 0 rfl ?_
  refine gX4_14 X (by omega) gw_2_6 dX5_stepLimitWord_1 ?_
  refine tv_if_lt X 21 dX5_stepLimitWord_4 (by decide) h (fun h => ?_) (fun h => ?_)
  · refine V.pick [0] rfl ?_
    exact l_X5_stepLimitWord_21 X σ h
  · refine tv_aload_n X dX5_stepLimitWord_7 rfl 0 rfl ?_
    refine tv_bipush X 10 dX5_stepLimitWord_8 (by decide) ?_
    refine tv_aload_n X dX5_stepLimitWord_10 rfl 0 rfl ?_
    refine gX4_0 X (by omega) gw_1_232 dX5_stepLimitWord_11 ?_
    refine tv_iload_n X dX5_stepLimitWord_14 rfl 1 rfl ?_
    obtain ⟨s1, x2, hs1, h⟩ := cl_some h
    refine tv_callVi (st := [.int 10, .ref (ad 10 0)]) X (c_X6_placeAt Γ.2.1 Ω ad A σ a1 hs1) ⟨gw_2_136, gw_3_23, gw_1_4, q_X6_placeAt, rfl, rfl, ⟨Nat.le_of_ble_eq_true rfl, Nat.le_of_ble_eq_true rfl⟩⟩ gw_2_134 gw_2_135 (fun H _ hz _ => PP.recv (f := 9) (i := 0) X.2.1 hz.1 (show 0 < 1 by omega) rfl rfl) rfl rfl (Nat.le_of_ble_eq_true rfl) dX5_stepLimitWord_15 ?_
    obtain ⟨s3, _u18, hs3, h⟩ := cl_some h
    refine tv_callVv (st := []) X (c_X5_blame Γ.2.1 Ω ad A s1 10 x2 hs3) ⟨gw_3_27, gw_3_24, gw_1_9, q_X5_blame, rfl, rfl, ⟨Nat.le_of_ble_eq_true rfl, Nat.le_of_ble_eq_true rfl⟩⟩ gw_3_26 gw_p_8 (fun H _ hz _ => PP.recv (f := 10) (i := 0) X.2.1 hz.1 (show 0 < 1 by omega) rfl rfl) rfl rfl (Nat.le_of_ble_eq_true rfl) dX5_stepLimitWord_18 ?_
    refine V.pick [0] rfl ?_
    exact l_X5_stepLimitWord_21 X s3 h
set_option maxHeartbeats 4000000 in
set_option maxRecDepth 100000 in
theorem c_X5_stepRuleWord (l : Launch) (Ω : Wd) (ad : Nat → Nat → Nat) (A : Nat → Prop) (σ : St) {res : St × Int32} (h : f_X5_stepRuleWord σ = some res) : Met l yX5_stepRuleWord (wsO yX5_stepRuleWord cX5_stepRuleWord 1 (some .int)) rm_X5_stepRuleWord (PcZ Ω A (PicX Ω ad A σ) [.ref (ad 10 0)]) (Qci (PicX Ω ad A) A res) 0 0 A := by
  refine Met.ofV (by decide) rfl (fun Γ hΓ X => ?_)
  have X : Fx Γ Ω A cX5_stepRuleWord 1 "MappingTexts$TextReader" rm_X5_stepRuleWord (some .int) := X
  unfold f_X5_stepRuleWord at h
  show V Γ (0, 0) _ A 1 _ 0 [(0, .ref (ad 10 0))] []
  refine tv_aload_n X dX5_stepRuleWord_0 rfl 0 rfl ?_
  refine gX4_6 X (by omega) gw_1_238 dX5_stepRuleWord_1 (fun hg1 => ?_)
  refine gX6_4 X (by omega) gw_1_207 dX5_stepRuleWord_4 ?_
  refine tv_bipush X 8 dX5_stepRuleWord_7 (by decide) ?_
  refine tv_icmp_lt X 14 dX5_stepRuleWord_9 (by decide) h (fun h => ?_) (fun h => ?_)
  · refine tv_aload_n X dX5_stepRuleWord_14 rfl 0 rfl ?_
    refine tv_aload_n X dX5_stepRuleWord_15 rfl 0 rfl ?_
    refine gX4_6 X (by omega) gw_1_238 dX5_stepRuleWord_16 (fun hg16 => ?_)
    refine gX6_1 X (by omega) gw_1_198 dX5_stepRuleWord_19 ?_
    refine tv_aload_n X dX5_stepRuleWord_22 rfl 0 rfl ?_
    refine gX4_6 X (by omega) gw_1_238 dX5_stepRuleWord_23 (fun hg23 => ?_)
    refine gX6_4 X (by omega) gw_1_207 dX5_stepRuleWord_26 ?_
    refine aaX7 X (by omega) dX5_stepRuleWord_29 h (fun j1 hj1 h => ?_)
    refine pX4_8 X (by omega) (by omega) gw_2_0 dX5_stepRuleWord_30 ?_
    refine tv_ns h (fun s2 h => ?_)
    refine tv_aload_n X dX5_stepRuleWord_33 rfl 0 rfl ?_
    refine gX4_8 X (by omega) gw_2_0 dX5_stepRuleWord_34 (fun hg34 => ?_)
    obtain ⟨s3, _u37, hs3, h⟩ := cl_some h
    refine tv_callVv (st := []) X (c_X4_begin Γ.2.1 Ω ad A s2 (gr s2 4 0) (by omega) hs3) ⟨gw_3_43, gw_3_40, gw_1_8, q_X4_begin, rfl, rfl, ⟨Nat.le_of_ble_eq_true rfl, Nat.le_of_ble_eq_true rfl⟩⟩ gw_3_41 gw_3_42 (fun H _ hz _ => PP.recv (f := 5) (i := (gr s2 4 0)) X.2.1 hz.1 (show (gr s2 4 0) < 64 by omega) rfl rfl) rfl rfl (Nat.le_of_ble_eq_true rfl) dX5_stepRuleWord_37 ?_
    refine tv_aload_n X dX5_stepRuleWord_40 rfl 0 rfl ?_
    refine gX4_6 X (by omega) gw_1_238 dX5_stepRuleWord_41 (fun hg41 => ?_)
    refine tv_dup X dX5_stepRuleWord_44 rfl ?_
    refine gX6_4 X (by omega) gw_1_207 dX5_stepRuleWord_45 ?_
    refine tv_iconst X 1 dX5_stepRuleWord_48 (by decide) ?_
    refine tv_iadd X dX5_stepRuleWord_49 ?_
    refine pX6_4 X (by omega) gw_1_207 dX5_stepRuleWord_50 ?_
    refine tv_ns h (fun s4 h => ?_)
    refine tv_aload_n X dX5_stepRuleWord_53 rfl 0 rfl ?_
    refine tv_bipush X 11 dX5_stepRuleWord_54 (by decide) ?_
    refine pX4_9 X (by omega) gw_2_1 dX5_stepRuleWord_56 ?_
    refine tv_ns h (fun s5 h => ?_)
    refine tv_iconst X 0 dX5_stepRuleWord_59 (by decide) ?_
    exact tv_iret X dX5_stepRuleWord_60 h
  · refine tv_iconst X 3 dX5_stepRuleWord_12 (by decide) ?_
    exact tv_iret X dX5_stepRuleWord_13 h
set_option maxHeartbeats 4000000 in
set_option maxRecDepth 100000 in
theorem c_X5_stepItem (l : Launch) (Ω : Wd) (ad : Nat → Nat → Nat) (A : Nat → Prop) (σ : St) (a1 : Int32) {res : St × Int32} (h : f_X5_stepItem σ a1 = some res) : Met l yX5_stepItem (wsO yX5_stepItem cX5_stepItem 3 (some .int)) rm_X5_stepItem (PcZ Ω A (PicX Ω ad A σ) [.ref (ad 10 0), .int a1]) (Qci (PicX Ω ad A) A res) 0 0 A := by
  refine Met.ofV (by decide) rfl (fun Γ hΓ X => ?_)
  have X : Fx Γ Ω A cX5_stepItem 3 "MappingTexts$TextReader" rm_X5_stepItem (some .int) := X
  unfold f_X5_stepItem at h
  show V Γ (0, 0) _ A 3 _ 0 [(0, .ref (ad 10 0)), (1, .int a1)] []
  refine tv_aload_n X dX5_stepItem_0 rfl 0 rfl ?_
  refine gX4_10 X (by omega) gw_2_2 dX5_stepItem_1 ?_
  refine tv_if_le X 37 dX5_stepItem_4 (by decide) h (fun h => ?_) (fun h => ?_)
  · refine tv_aload_n X dX5_stepItem_37 rfl 0 rfl ?_
    refine gX4_0 X (by omega) gw_1_232 dX5_stepItem_38 ?_
    refine tv_iload_n X dX5_stepItem_41 rfl 1 rfl ?_
    obtain ⟨s1, x2, hs1, h⟩ := cl_some h
    refine tv_callVi (st := []) X (c_X6_kindAt Γ.2.1 Ω ad A σ a1 hs1) ⟨gw_2_163, gw_2_160, gw_1_4, q_X6_kindAt, rfl, rfl, ⟨Nat.le_of_ble_eq_true rfl, Nat.le_of_ble_eq_true rfl⟩⟩ gw_2_161 gw_2_162 (fun H _ hz _ => PP.recv (f := 9) (i := 0) X.2.1 hz.1 (show 0 < 1 by omega) rfl rfl) rfl rfl (Nat.le_of_ble_eq_true rfl) dX5_stepItem_42 ?_
    refine tv_iconst X 1 dX5_stepItem_45 (by decide) ?_
    refine tv_icmp_eq X 51 dX5_stepItem_46 (by decide) h (fun h => ?_) (fun h => ?_)
    · refine tv_aload_n X dX5_stepItem_51 rfl 0 rfl ?_
      refine gX4_0 X (by omega) gw_1_232 dX5_stepItem_52 ?_
      refine tv_iload_n X dX5_stepItem_55 rfl 1 rfl ?_
      refine tv_ldcS X 0 (List.mem_of_getElem? (i := 0) rfl) dX5_stepItem_56 ?_
      obtain ⟨s3, x4, hs3, h⟩ := cl_some h
      refine tv_callVi (st := []) X (c_X6_isWord Γ.2.1 Ω ad A s1 a1 0 (by decide) hs3) ⟨gw_2_168, gw_2_165, gw_1_4, q_X6_isWord, rfl, rfl, ⟨Nat.le_of_ble_eq_true rfl, Nat.le_of_ble_eq_true rfl⟩⟩ gw_2_166 gw_2_167 (fun H _ hz _ => PP.recv (f := 9) (i := 0) X.2.1 hz.1 (show 0 < 1 by omega) rfl rfl) rfl rfl (Nat.le_of_ble_eq_true rfl) dX5_stepItem_58 ?_
      refine tv_if_eq X 71 dX5_stepItem_61 (by decide) h (fun h => ?_) (fun h => ?_)
      · refine tv_aload_n X dX5_stepItem_71 rfl 0 rfl ?_
        refine tv_iload_n X dX5_stepItem_72 rfl 1 rfl ?_
        obtain ⟨s5, x6, hs5, h⟩ := cl_some h
        refine tv_callVi (st := []) X (c_X5_stepLimitWord Γ.2.1 Ω ad A s3 a1 hs5) ⟨gw_3_48, gw_3_45, gw_1_9, q_X5_stepLimitWord, rfl, rfl, ⟨Nat.le_of_ble_eq_true rfl, Nat.le_of_ble_eq_true rfl⟩⟩ gw_3_47 gw_p_12 (fun H _ hz _ => PP.recv (f := 10) (i := 0) X.2.1 hz.1 (show 0 < 1 by omega) rfl rfl) rfl rfl (Nat.le_of_ble_eq_true rfl) dX5_stepItem_73 ?_
        exact tv_iret X dX5_stepItem_76 h
      · refine tv_aload_n X dX5_stepItem_64 rfl 0 rfl ?_
        obtain ⟨s7, x8, hs7, h⟩ := cl_some h
        refine tv_callVi (st := []) X (c_X5_stepRuleWord Γ.2.1 Ω ad A s3 hs7) ⟨gw_3_39, gw_3_36, gw_1_9, q_X5_stepRuleWord, rfl, rfl, ⟨Nat.le_of_ble_eq_true rfl, Nat.le_of_ble_eq_true rfl⟩⟩ gw_3_38 gw_p_11 (fun H _ hz _ => PP.recv (f := 10) (i := 0) X.2.1 hz.1 (show 0 < 1 by omega) rfl rfl) rfl rfl (Nat.le_of_ble_eq_true rfl) dX5_stepItem_65 ?_
        refine tv_goto X 76 dX5_stepItem_68 (by decide) ?_
        exact tv_iret X dX5_stepItem_76 h
    · refine tv_iconst X 2 dX5_stepItem_49 (by decide) ?_
      exact tv_iret X dX5_stepItem_50 h
  · refine tv_aload_n X dX5_stepItem_7 rfl 0 rfl ?_
    refine tv_iload_n X dX5_stepItem_8 rfl 1 rfl ?_
    refine tv_bipush X 125 dX5_stepItem_9 (by decide) ?_
    refine tv_bipush X 17 dX5_stepItem_11 (by decide) ?_
    obtain ⟨s9, x10, hs9, h⟩ := cl_some h
    refine tv_callVi (st := []) X (c_X5_expect Γ.2.1 Ω ad A σ a1 125 17 hs9) ⟨gw_3_35, gw_3_32, gw_1_9, q_X5_expect, rfl, rfl, ⟨Nat.le_of_ble_eq_true rfl, Nat.le_of_ble_eq_true rfl⟩⟩ gw_3_34 gw_p_10 (fun H _ hz _ => PP.recv (f := 10) (i := 0) X.2.1 hz.1 (show 0 < 1 by omega) rfl rfl) rfl rfl (Nat.le_of_ble_eq_true rfl) dX5_stepItem_13 ?_
    refine tv_istore_n X dX5_stepItem_16 rfl (by decide) [(2, .int x10), (0, .ref (ad 10 0)), (1, .int a1)] rfl ?_
    refine tv_aload_n X dX5_stepItem_17 rfl 1 rfl ?_
    refine tv_dup X dX5_stepItem_18 rfl ?_
    refine gX4_10 X (by omega) gw_2_2 dX5_stepItem_19 ?_
    refine tv_iload_n X dX5_stepItem_22 rfl 0 rfl ?_
    refine tv_if_ne X 30 dX5_stepItem_23 (by decide) h (fun h => ?_) (fun h => ?_)
    · refine tv_iconst X 0 dX5_stepItem_30 (by decide) ?_
      refine tv_isub X dX5_stepItem_31 ?_
      refine pX4_10 X (by omega) gw_2_2 dX5_stepItem_32 ?_
      refine tv_ns h (fun s11 h => ?_)
      refine tv_iload_n X dX5_stepItem_35 rfl 0 rfl ?_
      exact tv_iret X dX5_stepItem_36 h
    · refine tv_iconst X 1 dX5_stepItem_26 (by decide) ?_
      refine tv_goto X 31 dX5_stepItem_27 (by decide) ?_
      refine tv_isub X dX5_stepItem_31 ?_
      refine pX4_10 X (by omega) gw_2_2 dX5_stepItem_32 ?_
      refine tv_ns h (fun s12 h => ?_)
      refine tv_iload_n X dX5_stepItem_35 rfl 0 rfl ?_
      exact tv_iret X dX5_stepItem_36 h
set_option maxHeartbeats 4000000 in
set_option maxRecDepth 100000 in
theorem l_X5_kindOf_2 {Γ : Cx} {Ω : Wd} {ad : Nat → Nat → Nat} {A : Nat → Prop} {res : St × Int32} (X : Fx Γ Ω A cX5_kindOf 3 "MappingTexts$TextReader" rm_X5_kindOf (some .int)) : ∀ (n : Nat) (σ : St) (v1 : Int32) (v2 : Int32), f_X5_kindOf_2 n σ v1 v2 = some res → V Γ (0, 0) (Qe Γ (0, 0) A (Qci (PicX Ω ad A) A res)) A 3 (PicX Ω ad A σ) 2 [(0, .ref (ad 10 0)), (1, .int v1), (2, .int v2)] [] := by
  intro n
  induction n with
  | zero =>
    intro σ v1 v2 h
    cases (show none = some res from h)
  | succ n ih =>
    intro σ v1 v2 h
    rw [f_X5_kindOf_2] at h
    refine tv_iload_n X dX5_kindOf_2 rfl 2 rfl ?_
    refine tv_bipush X 8 dX5_kindOf_3 (by decide) ?_
    refine tv_icmp_ge X 31 dX5_kindOf_5 (by decide) h (fun h => ?_) (fun h => ?_)
    · refine tv_bipush X (-2) dX5_kindOf_31 (by decide) ?_
      exact tv_iret X dX5_kindOf_33 h
    · refine tv_aload_n X dX5_kindOf_8 rfl 0 rfl ?_
      refine gX4_0 X (by omega) gw_1_232 dX5_kindOf_9 ?_
      refine tv_iload_n X dX5_kindOf_12 rfl 1 rfl ?_
      refine tv_iload_n X dX5_kindOf_13 rfl 2 rfl ?_
      obtain ⟨s1, x2, hs1, h⟩ := cl_some h
      have hbx2 := b_X2_kindWord hs1
      refine tv_callSr (st := [.int v1, .ref (ad 9 0)]) X (c_X2_kindWord Γ.2.1 Ω ad A σ v2 hs1) ⟨gw_3_59, gw_3_57, gw_1_16, q_X2_kindWord, rfl, rfl, ⟨Nat.le_of_ble_eq_true rfl, Nat.le_of_ble_eq_true rfl⟩⟩ gw_3_58 rfl rfl (Nat.le_of_ble_eq_true rfl) dX5_kindOf_14 ?_
      obtain ⟨s3, x4, hs3, h⟩ := cl_some h
      refine tv_callVi (st := []) X (c_X6_isWord Γ.2.1 Ω ad A s1 v1 x2 (by omega) hs3) ⟨gw_2_168, gw_2_165, gw_1_4, q_X6_isWord, rfl, rfl, ⟨Nat.le_of_ble_eq_true rfl, Nat.le_of_ble_eq_true rfl⟩⟩ gw_2_166 gw_2_167 (fun H _ hz _ => PP.recv (f := 9) (i := 0) X.2.1 hz.1 (show 0 < 1 by omega) rfl rfl) rfl rfl (Nat.le_of_ble_eq_true rfl) dX5_kindOf_17 ?_
      refine tv_if_eq X 25 dX5_kindOf_20 (by decide) h (fun h => ?_) (fun h => ?_)
      · refine tv_iinc X (v2 + 1) dX5_kindOf_25 2 rfl rfl (by decide) [(2, .int (v2 + 1)), (0, .ref (ad 10 0)), (1, .int v1)] rfl ?_
        refine tv_goto X 2 dX5_kindOf_28 (by decide) ?_
        refine V.pick [1, 2, 0] rfl ?_
        exact ih s3 v1 (v2 + 1) h
      · refine tv_iload_n X dX5_kindOf_23 rfl 2 rfl ?_
        exact tv_iret X dX5_kindOf_24 h
set_option maxHeartbeats 4000000 in
set_option maxRecDepth 100000 in
theorem c_X5_kindOf (l : Launch) (Ω : Wd) (ad : Nat → Nat → Nat) (A : Nat → Prop) (σ : St) (a1 : Int32) {res : St × Int32} (h : f_X5_kindOf σ a1 = some res) : Met l yX5_kindOf (wsO yX5_kindOf cX5_kindOf 3 (some .int)) rm_X5_kindOf (PcZ Ω A (PicX Ω ad A σ) [.ref (ad 10 0), .int a1]) (Qci (PicX Ω ad A) A res) 0 0 A := by
  refine Met.ofV (by decide) rfl (fun Γ hΓ X => ?_)
  have X : Fx Γ Ω A cX5_kindOf 3 "MappingTexts$TextReader" rm_X5_kindOf (some .int) := X
  unfold f_X5_kindOf at h
  show V Γ (0, 0) _ A 3 _ 0 [(0, .ref (ad 10 0)), (1, .int a1)] []
  refine tv_iconst X 0 dX5_kindOf_0 (by decide) ?_
  refine tv_istore_n X dX5_kindOf_1 rfl (by decide) [(2, .int 0), (0, .ref (ad 10 0)), (1, .int a1)] rfl ?_
  refine V.pick [1, 2, 0] rfl ?_
  exact l_X5_kindOf_2 X fl σ a1 0 h
set_option maxHeartbeats 4000000 in
set_option maxRecDepth 100000 in
theorem c_X5_stepKind (l : Launch) (Ω : Wd) (ad : Nat → Nat → Nat) (A : Nat → Prop) (σ : St) (a1 : Int32) {res : St × Int32} (h : f_X5_stepKind σ a1 = some res) : Met l yX5_stepKind (wsO yX5_stepKind cX5_stepKind 3 (some .int)) rm_X5_stepKind (PcZ Ω A (PicX Ω ad A σ) [.ref (ad 10 0), .int a1]) (Qci (PicX Ω ad A) A res) 0 0 A := by
  refine Met.ofV (by decide) rfl (fun Γ hΓ X => ?_)
  have X : Fx Γ Ω A cX5_stepKind 3 "MappingTexts$TextReader" rm_X5_stepKind (some .int) := X
  unfold f_X5_stepKind at h
  show V Γ (0, 0) _ A 3 _ 0 [(0, .ref (ad 10 0)), (1, .int a1)] []
  refine tv_aload_n X dX5_stepKind_0 rfl 0 rfl ?_
  refine tv_iload_n X dX5_stepKind_1 rfl 1 rfl ?_
  obtain ⟨s1, x2, hs1, h⟩ := cl_some h
  refine tv_callVi (st := []) X (c_X5_kindOf Γ.2.1 Ω ad A σ a1 hs1) ⟨gw_3_56, gw_3_53, gw_1_9, q_X5_kindOf, rfl, rfl, ⟨Nat.le_of_ble_eq_true rfl, Nat.le_of_ble_eq_true rfl⟩⟩ gw_3_55 gw_p_14 (fun H _ hz _ => PP.recv (f := 10) (i := 0) X.2.1 hz.1 (show 0 < 1 by omega) rfl rfl) rfl rfl (Nat.le_of_ble_eq_true rfl) dX5_stepKind_2 ?_
  refine tv_istore_n X dX5_stepKind_5 rfl (by decide) [(2, .int x2), (0, .ref (ad 10 0)), (1, .int a1)] rfl ?_
  refine tv_iload_n X dX5_stepKind_6 rfl 0 rfl ?_
  refine tv_if_ge X 12 dX5_stepKind_7 (by decide) h (fun h => ?_) (fun h => ?_)
  · refine tv_aload_n X dX5_stepKind_12 rfl 1 rfl ?_
    refine gX4_7 X (by omega) gw_1_239 dX5_stepKind_13 (fun hg13 => ?_)
    refine tv_iload_n X dX5_stepKind_16 rfl 0 rfl ?_
    refine pX1_2 X (by omega) gw_1_123 dX5_stepKind_17 ?_
    refine tv_ns h (fun s3 h => ?_)
    refine tv_aload_n X dX5_stepKind_20 rfl 1 rfl ?_
    refine tv_iconst X 3 dX5_stepKind_21 (by decide) ?_
    refine pX4_9 X (by omega) gw_2_1 dX5_stepKind_22 ?_
    refine tv_ns h (fun s4 h => ?_)
    refine tv_iconst X 0 dX5_stepKind_25 (by decide) ?_
    exact tv_iret X dX5_stepKind_26 h
  · refine tv_iconst X 2 dX5_stepKind_10 (by decide) ?_
    exact tv_iret X dX5_stepKind_11 h
set_option maxHeartbeats 4000000 in
set_option maxRecDepth 100000 in
theorem l_X5_stepLimitNumber_12 {Γ : Cx} {Ω : Wd} {ad : Nat → Nat → Nat} {A : Nat → Prop} {res : St × Int32} (X : Fx Γ Ω A cX5_stepLimitNumber 2 "MappingTexts$TextReader" rm_X5_stepLimitNumber (some .int)) (σ : St) (v1 : Int32) (h : f_X5_stepLimitNumber_12 σ v1 = some res) : V Γ (0, 0) (Qe Γ (0, 0) A (Qci (PicX Ω ad A) A res)) A 2 (PicX Ω ad A σ) 12 [(0, .ref (ad 10 0)), (1, .int v1)] [] := by
  unfold f_X5_stepLimitNumber_12 at h
  refine tv_aload_n X dX5_stepLimitNumber_12 rfl 0 rfl ?_
  refine tv_iload_n X dX5_stepLimitNumber_13 rfl 1 rfl ?_
  refine tv_iconst X 2 dX5_stepLimitNumber_14 (by decide) ?_
  refine tv_bipush X 17 dX5_stepLimitNumber_15 (by decide) ?_
  obtain ⟨s2, x3, hs2, h⟩ := cl_some h
  refine tv_callVi (st := []) X (c_X5_expect Γ.2.1 Ω ad A σ v1 2 17 hs2) ⟨gw_3_35, gw_3_32, gw_1_9, q_X5_expect, rfl, rfl, ⟨Nat.le_of_ble_eq_true rfl, Nat.le_of_ble_eq_true rfl⟩⟩ gw_3_34 gw_p_10 (fun H _ hz _ => PP.recv (f := 10) (i := 0) X.2.1 hz.1 (show 0 < 1 by omega) rfl rfl) rfl rfl (Nat.le_of_ble_eq_true rfl) dX5_stepLimitNumber_17 ?_
  exact tv_iret X dX5_stepLimitNumber_20 h
set_option maxHeartbeats 4000000 in
set_option maxRecDepth 100000 in
theorem c_X5_stepLimitNumber (l : Launch) (Ω : Wd) (ad : Nat → Nat → Nat) (A : Nat → Prop) (σ : St) (a1 : Int32) {res : St × Int32} (h : f_X5_stepLimitNumber σ a1 = some res) : Met l yX5_stepLimitNumber (wsO yX5_stepLimitNumber cX5_stepLimitNumber 2 (some .int)) rm_X5_stepLimitNumber (PcZ Ω A (PicX Ω ad A σ) [.ref (ad 10 0), .int a1]) (Qci (PicX Ω ad A) A res) 0 0 A := by
  refine Met.ofV (by decide) rfl (fun Γ hΓ X => ?_)
  have X : Fx Γ Ω A cX5_stepLimitNumber 2 "MappingTexts$TextReader" rm_X5_stepLimitNumber (some .int) := X
  unfold f_X5_stepLimitNumber at h
  show V Γ (0, 0) _ A 2 _ 0 [(0, .ref (ad 10 0)), (1, .int a1)] []
  refine tv_aload_n X dX5_stepLimitNumber_0 rfl 0 rfl ?_
  refine gX4_14 X (by omega) gw_2_6 dX5_stepLimitNumber_1 ?_
  refine tv_if_ge X 12 dX5_stepLimitNumber_4 (by decide) h (fun h => ?_) (fun h => ?_)
  · exact l_X5_stepLimitNumber_12 X σ a1 h
  · refine tv_aload_n X dX5_stepLimitNumber_7 rfl 0 rfl ?_
    refine tv_iload_n X dX5_stepLimitNumber_8 rfl 1 rfl ?_
    refine pX4_14 X (by omega) gw_2_6 dX5_stepLimitNumber_9 ?_
    refine tv_ns h (fun s1 h => ?_)
    exact l_X5_stepLimitNumber_12 X s1 a1 h
set_option maxHeartbeats 4000000 in
set_option maxRecDepth 100000 in
theorem c_X5_noteToken (l : Launch) (Ω : Wd) (ad : Nat → Nat → Nat) (A : Nat → Prop) (σ : St) (a1 : Int32) (a2 : Nat) (a3 : Int32) (ba2 : a2 < 18) {res : St × Unit} (h : f_X5_noteToken σ a1 a2 a3 = some res) : Met l yX5_noteToken (wsO yX5_noteToken cX5_noteToken 5 none) rm_X5_noteToken (PcZ Ω A (PicX Ω ad A σ) [.ref (ad 10 0), .int a1, .ref (ad 8 a2), .int a3]) (Qcv (PicX Ω ad A) A res) 0 0 A := by
  refine Met.ofV (by decide) rfl (fun Γ hΓ X => ?_)
  have X : Fx Γ Ω A cX5_noteToken 5 "MappingTexts$TextReader" rm_X5_noteToken none := X
  unfold f_X5_noteToken at h
  show V Γ (0, 0) _ A 5 _ 0 [(0, .ref (ad 10 0)), (1, .int a1), (2, .ref (ad 8 a2)), (3, .int a3)] []
  refine tv_aload_n X dX5_noteToken_0 rfl 0 rfl ?_
  refine gX4_6 X (by omega) gw_1_238 dX5_noteToken_1 (fun hg1 => ?_)
  refine gX6_3 X (by omega) gw_1_203 dX5_noteToken_4 ?_
  refine tv_iconst X 1 dX5_noteToken_7 (by decide) ?_
  refine tv_isub X dX5_noteToken_8 ?_
  refine tv_istore X dX5_noteToken_9 (by decide) [(4, .int ((gi σ 603 (gr σ 2 0)) - 1)), (0, .ref (ad 10 0)), (1, .int a1), (2, .ref (ad 8 a2)), (3, .int a3)] rfl ?_
  refine tv_iload_n X dX5_noteToken_11 rfl 2 rfl ?_
  refine tv_if_eq X 39 dX5_noteToken_12 (by decide) h (fun h => ?_) (fun h => ?_)
  · exact tv_vret X dX5_noteToken_39 h
  · refine tv_aload_n X dX5_noteToken_15 rfl 1 rfl ?_
    refine gX4_13 X (by omega) gw_2_5 dX5_noteToken_16 ?_
    refine tv_if_ne X 39 dX5_noteToken_19 (by decide) h (fun h => ?_) (fun h => ?_)
    · exact tv_vret X dX5_noteToken_39 h
    · refine tv_iload X dX5_noteToken_22 0 rfl ?_
      refine tv_if_lt X 39 dX5_noteToken_24 (by decide) h (fun h => ?_) (fun h => ?_)
      · exact tv_vret X dX5_noteToken_39 h
      · refine tv_iload X dX5_noteToken_27 0 rfl ?_
        refine tv_aload_n X dX5_noteToken_29 rfl 3 rfl ?_
        refine alX8 X (by omega) dX5_noteToken_30 ?_
        refine tv_icmp_ge X 39 dX5_noteToken_31 (by decide) h (fun h => ?_) (fun h => ?_)
        · exact tv_vret X dX5_noteToken_39 h
        · refine tv_aload_n X dX5_noteToken_34 rfl 3 rfl ?_
          refine tv_iload X dX5_noteToken_35 0 rfl ?_
          refine tv_iload_n X dX5_noteToken_37 rfl 4 rfl ?_
          refine isX X (by omega) dX5_noteToken_38 h (fun j1 hj1 h => ?_)
          refine tv_ns h (fun s2 h => ?_)
          exact tv_vret X dX5_noteToken_39 h
set_option maxHeartbeats 4000000 in
set_option maxRecDepth 100000 in
theorem l_X5_optionOf_2 {Γ : Cx} {Ω : Wd} {ad : Nat → Nat → Nat} {A : Nat → Prop} {res : St × Int32} (X : Fx Γ Ω A cX5_optionOf 3 "MappingTexts$TextReader" rm_X5_optionOf (some .int)) : ∀ (n : Nat) (σ : St) (v1 : Int32) (v2 : Int32), f_X5_optionOf_2 n σ v1 v2 = some res → V Γ (0, 0) (Qe Γ (0, 0) A (Qci (PicX Ω ad A) A res)) A 3 (PicX Ω ad A σ) 2 [(0, .ref (ad 10 0)), (1, .int v1), (2, .int v2)] [] := by
  intro n
  induction n with
  | zero =>
    intro σ v1 v2 h
    cases (show none = some res from h)
  | succ n ih =>
    intro σ v1 v2 h
    rw [f_X5_optionOf_2] at h
    refine tv_iload_n X dX5_optionOf_2 rfl 2 rfl ?_
    refine tv_bipush X 7 dX5_optionOf_3 (by decide) ?_
    refine tv_icmp_ge X 31 dX5_optionOf_5 (by decide) h (fun h => ?_) (fun h => ?_)
    · refine tv_bipush X (-2) dX5_optionOf_31 (by decide) ?_
      exact tv_iret X dX5_optionOf_33 h
    · refine tv_aload_n X dX5_optionOf_8 rfl 0 rfl ?_
      refine gX4_0 X (by omega) gw_1_232 dX5_optionOf_9 ?_
      refine tv_iload_n X dX5_optionOf_12 rfl 1 rfl ?_
      refine tv_iload_n X dX5_optionOf_13 rfl 2 rfl ?_
      obtain ⟨s1, x2, hs1, h⟩ := cl_some h
      have hbx2 := b_X2_optionWord hs1
      refine tv_callSr (st := [.int v1, .ref (ad 9 0)]) X (c_X2_optionWord Γ.2.1 Ω ad A σ v2 hs1) ⟨gw_3_97, gw_3_95, gw_1_16, q_X2_optionWord, rfl, rfl, ⟨Nat.le_of_ble_eq_true rfl, Nat.le_of_ble_eq_true rfl⟩⟩ gw_3_96 rfl rfl (Nat.le_of_ble_eq_true rfl) dX5_optionOf_14 ?_
      obtain ⟨s3, x4, hs3, h⟩ := cl_some h
      refine tv_callVi (st := []) X (c_X6_isWord Γ.2.1 Ω ad A s1 v1 x2 (by omega) hs3) ⟨gw_2_168, gw_2_165, gw_1_4, q_X6_isWord, rfl, rfl, ⟨Nat.le_of_ble_eq_true rfl, Nat.le_of_ble_eq_true rfl⟩⟩ gw_2_166 gw_2_167 (fun H _ hz _ => PP.recv (f := 9) (i := 0) X.2.1 hz.1 (show 0 < 1 by omega) rfl rfl) rfl rfl (Nat.le_of_ble_eq_true rfl) dX5_optionOf_17 ?_
      refine tv_if_eq X 25 dX5_optionOf_20 (by decide) h (fun h => ?_) (fun h => ?_)
      · refine tv_iinc X (v2 + 1) dX5_optionOf_25 2 rfl rfl (by decide) [(2, .int (v2 + 1)), (0, .ref (ad 10 0)), (1, .int v1)] rfl ?_
        refine tv_goto X 2 dX5_optionOf_28 (by decide) ?_
        refine V.pick [1, 2, 0] rfl ?_
        exact ih s3 v1 (v2 + 1) h
      · refine tv_iload_n X dX5_optionOf_23 rfl 2 rfl ?_
        exact tv_iret X dX5_optionOf_24 h
set_option maxHeartbeats 4000000 in
set_option maxRecDepth 100000 in
theorem c_X5_optionOf (l : Launch) (Ω : Wd) (ad : Nat → Nat → Nat) (A : Nat → Prop) (σ : St) (a1 : Int32) {res : St × Int32} (h : f_X5_optionOf σ a1 = some res) : Met l yX5_optionOf (wsO yX5_optionOf cX5_optionOf 3 (some .int)) rm_X5_optionOf (PcZ Ω A (PicX Ω ad A σ) [.ref (ad 10 0), .int a1]) (Qci (PicX Ω ad A) A res) 0 0 A := by
  refine Met.ofV (by decide) rfl (fun Γ hΓ X => ?_)
  have X : Fx Γ Ω A cX5_optionOf 3 "MappingTexts$TextReader" rm_X5_optionOf (some .int) := X
  unfold f_X5_optionOf at h
  show V Γ (0, 0) _ A 3 _ 0 [(0, .ref (ad 10 0)), (1, .int a1)] []
  refine tv_iconst X 0 dX5_optionOf_0 (by decide) ?_
  refine tv_istore_n X dX5_optionOf_1 rfl (by decide) [(2, .int 0), (0, .ref (ad 10 0)), (1, .int a1)] rfl ?_
  refine V.pick [1, 2, 0] rfl ?_
  exact l_X5_optionOf_2 X fl σ a1 0 h
set_option maxHeartbeats 4000000 in
set_option maxRecDepth 100000 in
theorem l_X5_stepOption_57 {Γ : Cx} {Ω : Wd} {ad : Nat → Nat → Nat} {A : Nat → Prop} {res : St × Int32} (X : Fx Γ Ω A cX5_stepOption 2 "MappingTexts$TextReader" rm_X5_stepOption (some .int)) {k70 : St → Int32 → Option (St × Int32)} (hk70 : ∀ (σ : St) (v1 : Int32), k70 σ v1 = some res → V Γ (0, 0) (Qe Γ (0, 0) A (Qci (PicX Ω ad A) A res)) A 2 (PicX Ω ad A σ) 70 [(0, .ref (ad 10 0)), (1, .int v1)] []) (σ : St) (v1 : Int32) (h : f_X5_stepOption_57 k70 σ v1 = some res) : V Γ (0, 0) (Qe Γ (0, 0) A (Qci (PicX Ω ad A) A res)) A 2 (PicX Ω ad A σ) 57 [(0, .ref (ad 10 0)), (1, .int v1)] [] := by
  unfold f_X5_stepOption_57 at h
  refine tv_aload_n X dX5_stepOption_57 rfl 0 rfl ?_
  refine tv_iconst X 5 dX5_stepOption_58 (by decide) ?_
  refine tv_aload_n X dX5_stepOption_59 rfl 0 rfl ?_
  refine gX4_0 X (by omega) gw_1_232 dX5_stepOption_60 ?_
  refine tv_iload_n X dX5_stepOption_63 rfl 1 rfl ?_
  obtain ⟨s9, x10, hs9, h⟩ := cl_some h
  refine tv_callVi (st := [.int 5, .ref (ad 10 0)]) X (c_X6_placeAt Γ.2.1 Ω ad A σ v1 hs9) ⟨gw_2_136, gw_3_23, gw_1_4, q_X6_placeAt, rfl, rfl, ⟨Nat.le_of_ble_eq_true rfl, Nat.le_of_ble_eq_true rfl⟩⟩ gw_2_134 gw_2_135 (fun H _ hz _ => PP.recv (f := 9) (i := 0) X.2.1 hz.1 (show 0 < 1 by omega) rfl rfl) rfl rfl (Nat.le_of_ble_eq_true rfl) dX5_stepOption_64 ?_
  obtain ⟨s11, _u67, hs11, h⟩ := cl_some h
  refine tv_callVv (st := []) X (c_X5_blame Γ.2.1 Ω ad A s9 5 x10 hs11) ⟨gw_3_27, gw_3_24, gw_1_9, q_X5_blame, rfl, rfl, ⟨Nat.le_of_ble_eq_true rfl, Nat.le_of_ble_eq_true rfl⟩⟩ gw_3_26 gw_p_8 (fun H _ hz _ => PP.recv (f := 10) (i := 0) X.2.1 hz.1 (show 0 < 1 by omega) rfl rfl) rfl rfl (Nat.le_of_ble_eq_true rfl) dX5_stepOption_67 ?_
  exact hk70 s11 v1 h
set_option maxHeartbeats 4000000 in
set_option maxRecDepth 100000 in
theorem l_X5_stepOption_102 {Γ : Cx} {Ω : Wd} {ad : Nat → Nat → Nat} {A : Nat → Prop} {res : St × Int32} (X : Fx Γ Ω A cX5_stepOption 2 "MappingTexts$TextReader" rm_X5_stepOption (some .int)) (σ : St) (t1 : Int32) (v1 : Int32) (h : f_X5_stepOption_102 σ t1 v1 = some res) : V Γ (0, 0) (Qe Γ (0, 0) A (Qci (PicX Ω ad A) A res)) A 2 (PicX Ω ad A σ) 102 [(0, .ref (ad 10 0)), (1, .int v1)] [.int t1, .ref (ad 10 0)] := by
  unfold f_X5_stepOption_102 at h
  refine tv_aload_n X dX5_stepOption_102 rfl 0 rfl ?_
  refine gX4_3 X (by omega) gw_1_235 dX5_stepOption_103 ?_
  refine tv_iload_n X dX5_stepOption_106 rfl 1 rfl ?_
  obtain ⟨s13, _u107, hs13, h⟩ := cl_some h
  refine tv_callVv (st := []) X (c_X5_noteToken Γ.2.1 Ω ad A σ t1 12 v1 (by omega) hs13) ⟨gw_3_114, gw_3_111, gw_1_9, q_X5_noteToken, rfl, rfl, ⟨Nat.le_of_ble_eq_true rfl, Nat.le_of_ble_eq_true rfl⟩⟩ gw_3_113 gw_p_20 (fun H _ hz _ => PP.recv (f := 10) (i := 0) X.2.1 hz.1 (show 0 < 1 by omega) rfl rfl) rfl rfl (Nat.le_of_ble_eq_true rfl) dX5_stepOption_107 ?_
  refine tv_aload_n X dX5_stepOption_110 rfl 0 rfl ?_
  refine tv_aload_n X dX5_stepOption_111 rfl 0 rfl ?_
  refine gX4_12 X (by omega) gw_2_4 dX5_stepOption_112 ?_
  refine tv_iconst X 3 dX5_stepOption_115 (by decide) ?_
  refine tv_icmp_ge X 124 dX5_stepOption_116 (by decide) h (fun h => ?_) (fun h => ?_)
  · refine tv_iconst X 5 dX5_stepOption_124 (by decide) ?_
    refine pX4_9 X (by omega) gw_2_1 dX5_stepOption_125 ?_
    refine tv_ns h (fun s14 h => ?_)
    refine tv_iconst X 0 dX5_stepOption_128 (by decide) ?_
    exact tv_iret X dX5_stepOption_129 h
  · refine tv_bipush X 7 dX5_stepOption_119 (by decide) ?_
    refine tv_goto X 125 dX5_stepOption_121 (by decide) ?_
    refine pX4_9 X (by omega) gw_2_1 dX5_stepOption_125 ?_
    refine tv_ns h (fun s15 h => ?_)
    refine tv_iconst X 0 dX5_stepOption_128 (by decide) ?_
    exact tv_iret X dX5_stepOption_129 h
set_option maxHeartbeats 4000000 in
set_option maxRecDepth 100000 in
theorem l_X5_stepOption_70 {Γ : Cx} {Ω : Wd} {ad : Nat → Nat → Nat} {A : Nat → Prop} {res : St × Int32} (X : Fx Γ Ω A cX5_stepOption 2 "MappingTexts$TextReader" rm_X5_stepOption (some .int)) (σ : St) (v1 : Int32) (h : f_X5_stepOption_70 σ v1 = some res) : V Γ (0, 0) (Qe Γ (0, 0) A (Qci (PicX Ω ad A) A res)) A 2 (PicX Ω ad A σ) 70 [(0, .ref (ad 10 0)), (1, .int v1)] [] := by
  unfold f_X5_stepOption_70 at h
  refine tv_aload_n X dX5_stepOption_70 rfl 0 rfl ?_
  refine gX4_7 X (by omega) gw_1_239 dX5_stepOption_71 (fun hg71 => ?_)
  refine tv_dup X dX5_stepOption_74 rfl ?_
  refine gX1_3 X (by omega) gw_1_127 dX5_stepOption_75 ?_
  refine tv_iconst X 1 dX5_stepOption_78 (by decide) ?_
  refine tv_aload_n X dX5_stepOption_79 rfl 0 rfl ?_
  refine gX4_12 X (by omega) gw_2_4 dX5_stepOption_80 ?_
  refine tv_ishl X dX5_stepOption_83 ?_
  refine tv_ior X dX5_stepOption_84 ?_
  refine pX1_3 X (by omega) gw_1_127 dX5_stepOption_85 ?_
  refine tv_ns h (fun s12 h => ?_)
  refine tv_aload_n X dX5_stepOption_88 rfl 0 rfl ?_
  refine tv_aload_n X dX5_stepOption_89 rfl 0 rfl ?_
  refine gX4_12 X (by omega) gw_2_4 dX5_stepOption_90 ?_
  refine tv_iconst X 4 dX5_stepOption_93 (by decide) ?_
  refine tv_icmp_ne X 101 dX5_stepOption_94 (by decide) h (fun h => ?_) (fun h => ?_)
  · refine tv_iconst X 0 dX5_stepOption_101 (by decide) ?_
    exact l_X5_stepOption_102 X s12 0 v1 h
  · refine tv_iconst X 1 dX5_stepOption_97 (by decide) ?_
    refine tv_goto X 102 dX5_stepOption_98 (by decide) ?_
    exact l_X5_stepOption_102 X s12 1 v1 h
set_option maxHeartbeats 4000000 in
set_option maxRecDepth 100000 in
theorem c_X5_stepOption (l : Launch) (Ω : Wd) (ad : Nat → Nat → Nat) (A : Nat → Prop) (σ : St) (a1 : Int32) {res : St × Int32} (h : f_X5_stepOption σ a1 = some res) : Met l yX5_stepOption (wsO yX5_stepOption cX5_stepOption 2 (some .int)) rm_X5_stepOption (PcZ Ω A (PicX Ω ad A σ) [.ref (ad 10 0), .int a1]) (Qci (PicX Ω ad A) A res) 0 0 A := by
  refine Met.ofV (by decide) rfl (fun Γ hΓ X => ?_)
  have X : Fx Γ Ω A cX5_stepOption 2 "MappingTexts$TextReader" rm_X5_stepOption (some .int) := X
  unfold f_X5_stepOption at h
  show V Γ (0, 0) _ A 2 _ 0 [(0, .ref (ad 10 0)), (1, .int a1)] []
  refine tv_aload_n X dX5_stepOption_0 rfl 0 rfl ?_
  refine tv_aload_n X dX5_stepOption_1 rfl 0 rfl ?_
  refine tv_iload_n X dX5_stepOption_2 rfl 1 rfl ?_
  obtain ⟨s1, x2, hs1, h⟩ := cl_some h
  refine tv_callVi (st := [.ref (ad 10 0)]) X (c_X5_optionOf Γ.2.1 Ω ad A σ a1 hs1) ⟨gw_3_94, gw_3_91, gw_1_9, q_X5_optionOf, rfl, rfl, ⟨Nat.le_of_ble_eq_true rfl, Nat.le_of_ble_eq_true rfl⟩⟩ gw_3_93 gw_p_19 (fun H _ hz _ => PP.recv (f := 10) (i := 0) X.2.1 hz.1 (show 0 < 1 by omega) rfl rfl) rfl rfl (Nat.le_of_ble_eq_true rfl) dX5_stepOption_3 ?_
  refine pX4_12 X (by omega) gw_2_4 dX5_stepOption_6 ?_
  refine tv_ns h (fun s3 h => ?_)
  refine tv_aload_n X dX5_stepOption_9 rfl 0 rfl ?_
  refine gX4_12 X (by omega) gw_2_4 dX5_stepOption_10 ?_
  refine tv_if_ge X 18 dX5_stepOption_13 (by decide) h (fun h => ?_) (fun h => ?_)
  · refine tv_aload_n X dX5_stepOption_18 rfl 0 rfl ?_
    refine tv_aload_n X dX5_stepOption_19 rfl 0 rfl ?_
    refine gX4_7 X (by omega) gw_1_239 dX5_stepOption_20 (fun hg20 => ?_)
    refine tv_aload_n X dX5_stepOption_23 rfl 0 rfl ?_
    refine gX4_12 X (by omega) gw_2_4 dX5_stepOption_24 ?_
    obtain ⟨s4, x5, hs4, h⟩ := cl_some h
    refine tv_callVi (st := [.ref (ad 10 0)]) X (c_X1_has Γ.2.1 Ω ad A s3 (gr s3 3 0) (gi s3 412 0) (by omega) hs4) ⟨gw_3_79, gw_3_76, gw_1_7, q_X1_has, rfl, rfl, ⟨Nat.le_of_ble_eq_true rfl, Nat.le_of_ble_eq_true rfl⟩⟩ gw_3_77 gw_3_78 (fun H _ hz _ => PP.recv (f := 4) (i := (gr s3 3 0)) X.2.1 hz.1 (show (gr s3 3 0) < 320 by omega) rfl rfl) rfl rfl (Nat.le_of_ble_eq_true rfl) dX5_stepOption_27 ?_
    obtain ⟨hq30, h⟩ := cq_some h
    refine pX4_13 X (of_decide_eq_true hq30) (by omega) gw_2_5 dX5_stepOption_30 ?_
    refine tv_ns h (fun s6 h => ?_)
    refine tv_aload_n X dX5_stepOption_33 rfl 0 rfl ?_
    refine gX4_13 X (by omega) gw_2_5 dX5_stepOption_34 ?_
    refine tv_if_ne X 57 dX5_stepOption_37 (by decide) h (fun h => ?_) (fun h => ?_)
    · exact l_X5_stepOption_57 X (l_X5_stepOption_70 X) s6 a1 h
    · refine tv_aload_n X dX5_stepOption_40 rfl 0 rfl ?_
      refine gX4_7 X (by omega) gw_1_239 dX5_stepOption_41 (fun hg41 => ?_)
      refine gX1_2 X (by omega) gw_1_123 dX5_stepOption_44 ?_
      refine tv_aload_n X dX5_stepOption_47 rfl 0 rfl ?_
      refine gX4_12 X (by omega) gw_2_4 dX5_stepOption_48 ?_
      obtain ⟨s7, x8, hs7, h⟩ := cl_some h
      refine tv_callSi (st := []) X (c_X2_mayHave Γ.2.1 Ω ad A s6 (gi s6 102 (gr s6 3 0)) (gi s6 412 0) hs7) ⟨gw_3_107, gw_3_105, gw_1_16, q_X2_mayHave, rfl, rfl, ⟨Nat.le_of_ble_eq_true rfl, Nat.le_of_ble_eq_true rfl⟩⟩ gw_3_106 rfl rfl (Nat.le_of_ble_eq_true rfl) dX5_stepOption_51 ?_
      refine tv_if_ne X 70 dX5_stepOption_54 (by decide) h (fun h => ?_) (fun h => ?_)
      · exact l_X5_stepOption_70 X s7 a1 h
      · exact l_X5_stepOption_57 X (l_X5_stepOption_70 X) s7 a1 h
  · refine tv_iconst X 2 dX5_stepOption_16 (by decide) ?_
    exact tv_iret X dX5_stepOption_17 h
