set_option maxHeartbeats 4000000 in
set_option maxRecDepth 100000 in
theorem c_X5_stepPattern (l : Launch) (Ω : Wd) (ad : Nat → Nat → Nat) (A : Nat → Prop) (σ : St) (a1 : Int32) {res : St × Int32} (h : f_X5_stepPattern σ a1 = some res) : Met l yX5_stepPattern (wsO yX5_stepPattern cX5_stepPattern 2 (some .int)) rm_X5_stepPattern (PcZ Ω A (PicX Ω ad A σ) [.ref (ad 10 0), .int a1]) (Qci (PicX Ω ad A) A res) 0 0 A := by
  refine Met.ofV (by decide) rfl (fun Γ hΓ X => ?_)
  have X : Fx Γ Ω A cX5_stepPattern 2 "MappingTexts$TextReader" rm_X5_stepPattern (some .int) := X
  unfold f_X5_stepPattern at h
  show V Γ (0, 0) _ A 2 _ 0 [(0, .ref (ad 10 0)), (1, .int a1)] []
  refine tv_aload_n X dX5_stepPattern_0 rfl 0 rfl ?_
  refine gX4_0 X (by omega) gw_1_232 dX5_stepPattern_1 ?_
  refine tv_iload_n X dX5_stepPattern_4 rfl 1 rfl ?_
  obtain ⟨s1, x2, hs1, h⟩ := cl_some h
  refine tv_callVi (st := []) X (c_X6_kindAt Γ.2.1 Ω ad A σ a1 hs1) ⟨gw_2_163, gw_2_160, gw_1_4, q_X6_kindAt, rfl, rfl, ⟨Nat.le_of_ble_eq_true rfl, Nat.le_of_ble_eq_true rfl⟩⟩ gw_2_161 gw_2_162 (fun H _ hz _ => PP.recv (f := 9) (i := 0) X.2.1 hz.1 (show 0 < 1 by omega) rfl rfl) rfl rfl (Nat.le_of_ble_eq_true rfl) dX5_stepPattern_5 ?_
  refine tv_iconst X 1 dX5_stepPattern_8 (by decide) ?_
  refine tv_icmp_ne X 35 dX5_stepPattern_9 (by decide) h (fun h => ?_) (fun h => ?_)
  · refine tv_aload_n X dX5_stepPattern_35 rfl 0 rfl ?_
    refine tv_iload_n X dX5_stepPattern_36 rfl 1 rfl ?_
    obtain ⟨s3, x4, hs3, h⟩ := cl_some h
    refine tv_callVi (st := []) X (c_X5_stepStar Γ.2.1 Ω ad A s1 a1 hs3) ⟨gw_3_143, gw_3_140, gw_1_9, q_X5_stepStar, rfl, rfl, ⟨Nat.le_of_ble_eq_true rfl, Nat.le_of_ble_eq_true rfl⟩⟩ gw_3_142 gw_p_26 (fun H _ hz _ => PP.recv (f := 10) (i := 0) X.2.1 hz.1 (show 0 < 1 by omega) rfl rfl) rfl rfl (Nat.le_of_ble_eq_true rfl) dX5_stepPattern_37 ?_
    exact tv_iret X dX5_stepPattern_40 h
  · refine tv_aload_n X dX5_stepPattern_12 rfl 0 rfl ?_
    refine gX4_0 X (by omega) gw_1_232 dX5_stepPattern_13 ?_
    refine tv_aload_n X dX5_stepPattern_16 rfl 0 rfl ?_
    refine gX4_8 X (by omega) gw_2_0 dX5_stepPattern_17 (fun hg17 => ?_)
    refine gX3_0 X (by omega) gw_1_176 dX5_stepPattern_20 ?_
    refine tv_iload_n X dX5_stepPattern_23 rfl 1 rfl ?_
    obtain ⟨s5, _u24, hs5, h⟩ := cl_some h
    refine tv_callVv (st := []) X (c_X6_addTo Γ.2.1 Ω ad A s1 (645 + 2 * (gr s1 4 0)) a1 (by omega) hs5) ⟨gw_3_9, gw_3_6, gw_1_4, q_X6_addTo, rfl, rfl, ⟨Nat.le_of_ble_eq_true rfl, Nat.le_of_ble_eq_true rfl⟩⟩ gw_3_7 gw_3_8 (fun H _ hz _ => PP.recv (f := 9) (i := 0) X.2.1 hz.1 (show 0 < 1 by omega) rfl rfl) rfl rfl (Nat.le_of_ble_eq_true rfl) dX5_stepPattern_24 ?_
    refine tv_aload_n X dX5_stepPattern_27 rfl 0 rfl ?_
    refine tv_bipush X 12 dX5_stepPattern_28 (by decide) ?_
    refine pX4_9 X (by omega) gw_2_1 dX5_stepPattern_30 ?_
    refine tv_ns h (fun s6 h => ?_)
    refine tv_iconst X 0 dX5_stepPattern_33 (by decide) ?_
    exact tv_iret X dX5_stepPattern_34 h
set_option maxHeartbeats 4000000 in
set_option maxRecDepth 100000 in
theorem c_X5_stepRuleKind (l : Launch) (Ω : Wd) (ad : Nat → Nat → Nat) (A : Nat → Prop) (σ : St) (a1 : Int32) {res : St × Int32} (h : f_X5_stepRuleKind σ a1 = some res) : Met l yX5_stepRuleKind (wsO yX5_stepRuleKind cX5_stepRuleKind 3 (some .int)) rm_X5_stepRuleKind (PcZ Ω A (PicX Ω ad A σ) [.ref (ad 10 0), .int a1]) (Qci (PicX Ω ad A) A res) 0 0 A := by
  refine Met.ofV (by decide) rfl (fun Γ hΓ X => ?_)
  have X : Fx Γ Ω A cX5_stepRuleKind 3 "MappingTexts$TextReader" rm_X5_stepRuleKind (some .int) := X
  unfold f_X5_stepRuleKind at h
  show V Γ (0, 0) _ A 3 _ 0 [(0, .ref (ad 10 0)), (1, .int a1)] []
  refine tv_aload_n X dX5_stepRuleKind_0 rfl 0 rfl ?_
  refine tv_iload_n X dX5_stepRuleKind_1 rfl 1 rfl ?_
  obtain ⟨s1, x2, hs1, h⟩ := cl_some h
  refine tv_callVi (st := []) X (c_X5_kindOf Γ.2.1 Ω ad A σ a1 hs1) ⟨gw_3_56, gw_3_53, gw_1_9, q_X5_kindOf, rfl, rfl, ⟨Nat.le_of_ble_eq_true rfl, Nat.le_of_ble_eq_true rfl⟩⟩ gw_3_55 gw_p_14 (fun H _ hz _ => PP.recv (f := 10) (i := 0) X.2.1 hz.1 (show 0 < 1 by omega) rfl rfl) rfl rfl (Nat.le_of_ble_eq_true rfl) dX5_stepRuleKind_2 ?_
  refine tv_istore_n X dX5_stepRuleKind_5 rfl (by decide) [(2, .int x2), (0, .ref (ad 10 0)), (1, .int a1)] rfl ?_
  refine tv_iload_n X dX5_stepRuleKind_6 rfl 0 rfl ?_
  refine tv_if_ge X 12 dX5_stepRuleKind_7 (by decide) h (fun h => ?_) (fun h => ?_)
  · refine tv_aload_n X dX5_stepRuleKind_12 rfl 1 rfl ?_
    refine gX4_8 X (by omega) gw_2_0 dX5_stepRuleKind_13 (fun hg13 => ?_)
    refine tv_iload_n X dX5_stepRuleKind_16 rfl 0 rfl ?_
    refine pX3_3 X (by omega) gw_1_183 dX5_stepRuleKind_17 ?_
    refine tv_ns h (fun s3 h => ?_)
    refine tv_aload_n X dX5_stepRuleKind_20 rfl 1 rfl ?_
    refine tv_bipush X 17 dX5_stepRuleKind_21 (by decide) ?_
    refine pX4_9 X (by omega) gw_2_1 dX5_stepRuleKind_23 ?_
    refine tv_ns h (fun s4 h => ?_)
    refine tv_iconst X 0 dX5_stepRuleKind_26 (by decide) ?_
    exact tv_iret X dX5_stepRuleKind_27 h
  · refine tv_iconst X 2 dX5_stepRuleKind_10 (by decide) ?_
    exact tv_iret X dX5_stepRuleKind_11 h
set_option maxHeartbeats 4000000 in
set_option maxRecDepth 100000 in
theorem c_X5_takeNull (l : Launch) (Ω : Wd) (ad : Nat → Nat → Nat) (A : Nat → Prop) (σ : St) (a1 : Int32) {res : St × Unit} (h : f_X5_takeNull σ a1 = some res) : Met l yX5_takeNull (wsO yX5_takeNull cX5_takeNull 2 none) rm_X5_takeNull (PcZ Ω A (PicX Ω ad A σ) [.ref (ad 10 0), .int a1]) (Qcv (PicX Ω ad A) A res) 0 0 A := by
  refine Met.ofV (by decide) rfl (fun Γ hΓ X => ?_)
  have X : Fx Γ Ω A cX5_takeNull 2 "MappingTexts$TextReader" rm_X5_takeNull none := X
  unfold f_X5_takeNull at h
  show V Γ (0, 0) _ A 2 _ 0 [(0, .ref (ad 10 0)), (1, .int a1)] []
  refine tv_aload_n X dX5_takeNull_0 rfl 0 rfl ?_
  refine gX4_7 X (by omega) gw_1_239 dX5_takeNull_1 (fun hg1 => ?_)
  refine tv_aload_n X dX5_takeNull_4 rfl 0 rfl ?_
  refine gX4_0 X (by omega) gw_1_232 dX5_takeNull_5 ?_
  refine tv_iload_n X dX5_takeNull_8 rfl 1 rfl ?_
  obtain ⟨s1, x2, hs1, h⟩ := cl_some h
  refine tv_callVi (st := [.ref (ad 4 (gr σ 3 0))]) X (c_X6_numberAt Γ.2.1 Ω ad A σ a1 hs1) ⟨gw_3_126, gw_3_123, gw_1_4, q_X6_numberAt, rfl, rfl, ⟨Nat.le_of_ble_eq_true rfl, Nat.le_of_ble_eq_true rfl⟩⟩ gw_3_124 gw_3_125 (fun H _ hz _ => PP.recv (f := 9) (i := 0) X.2.1 hz.1 (show 0 < 1 by omega) rfl rfl) rfl rfl (Nat.le_of_ble_eq_true rfl) dX5_takeNull_9 ?_
  refine pX1_4 X (by omega) gw_1_132 dX5_takeNull_12 ?_
  refine tv_ns h (fun s3 h => ?_)
  refine tv_aload_n X dX5_takeNull_15 rfl 0 rfl ?_
  refine gX4_7 X (by omega) gw_1_239 dX5_takeNull_16 (fun hg16 => ?_)
  refine gX1_2 X (by omega) gw_1_123 dX5_takeNull_19 ?_
  refine tv_iconst X 4 dX5_takeNull_22 (by decide) ?_
  refine tv_icmp_ne X 50 dX5_takeNull_23 (by decide) h (fun h => ?_) (fun h => ?_)
  · exact tv_vret X dX5_takeNull_50 h
  · refine tv_aload_n X dX5_takeNull_26 rfl 0 rfl ?_
    refine gX4_7 X (by omega) gw_1_239 dX5_takeNull_27 (fun hg27 => ?_)
    refine gX1_4 X (by omega) gw_1_132 dX5_takeNull_30 ?_
    refine tv_iconst X 1 dX5_takeNull_33 (by decide) ?_
    refine tv_icmp_le X 50 dX5_takeNull_34 (by decide) h (fun h => ?_) (fun h => ?_)
    · exact tv_vret X dX5_takeNull_50 h
    · refine tv_aload_n X dX5_takeNull_37 rfl 0 rfl ?_
      refine tv_iconst X 5 dX5_takeNull_38 (by decide) ?_
      refine tv_aload_n X dX5_takeNull_39 rfl 0 rfl ?_
      refine gX4_0 X (by omega) gw_1_232 dX5_takeNull_40 ?_
      refine tv_iload_n X dX5_takeNull_43 rfl 1 rfl ?_
      obtain ⟨s4, x5, hs4, h⟩ := cl_some h
      refine tv_callVi (st := [.int 5, .ref (ad 10 0)]) X (c_X6_placeAt Γ.2.1 Ω ad A s3 a1 hs4) ⟨gw_2_136, gw_3_23, gw_1_4, q_X6_placeAt, rfl, rfl, ⟨Nat.le_of_ble_eq_true rfl, Nat.le_of_ble_eq_true rfl⟩⟩ gw_2_134 gw_2_135 (fun H _ hz _ => PP.recv (f := 9) (i := 0) X.2.1 hz.1 (show 0 < 1 by omega) rfl rfl) rfl rfl (Nat.le_of_ble_eq_true rfl) dX5_takeNull_44 ?_
      obtain ⟨s6, _u47, hs6, h⟩ := cl_some h
      refine tv_callVv (st := []) X (c_X5_blame Γ.2.1 Ω ad A s4 5 x5 hs6) ⟨gw_3_27, gw_3_24, gw_1_9, q_X5_blame, rfl, rfl, ⟨Nat.le_of_ble_eq_true rfl, Nat.le_of_ble_eq_true rfl⟩⟩ gw_3_26 gw_p_8 (fun H _ hz _ => PP.recv (f := 10) (i := 0) X.2.1 hz.1 (show 0 < 1 by omega) rfl rfl) rfl rfl (Nat.le_of_ble_eq_true rfl) dX5_takeNull_47 ?_
      exact tv_vret X dX5_takeNull_50 h
set_option maxHeartbeats 4000000 in
set_option maxRecDepth 100000 in
theorem l_X5_stepValue_121 {Γ : Cx} {Ω : Wd} {ad : Nat → Nat → Nat} {A : Nat → Prop} {res : St × Int32} (X : Fx Γ Ω A cX5_stepValue 2 "MappingTexts$TextReader" rm_X5_stepValue (some .int)) (σ : St) (t1 : Int32) (v1 : Int32) (h : f_X5_stepValue_121 σ t1 v1 = some res) : V Γ (0, 0) (Qe Γ (0, 0) A (Qci (PicX Ω ad A) A res)) A 2 (PicX Ω ad A σ) 121 [(0, .ref (ad 10 0)), (1, .int v1)] [.int t1, .ref (ad 10 0)] := by
  unfold f_X5_stepValue_121 at h
  refine tv_aload_n X dX5_stepValue_121 rfl 0 rfl ?_
  refine gX4_5 X (by omega) gw_1_237 dX5_stepValue_122 ?_
  refine tv_iload_n X dX5_stepValue_125 rfl 1 rfl ?_
  obtain ⟨s8, _u126, hs8, h⟩ := cl_some h
  refine tv_callVv (st := []) X (c_X5_noteToken Γ.2.1 Ω ad A σ t1 14 v1 (by omega) hs8) ⟨gw_3_114, gw_3_111, gw_1_9, q_X5_noteToken, rfl, rfl, ⟨Nat.le_of_ble_eq_true rfl, Nat.le_of_ble_eq_true rfl⟩⟩ gw_3_113 gw_p_20 (fun H _ hz _ => PP.recv (f := 10) (i := 0) X.2.1 hz.1 (show 0 < 1 by omega) rfl rfl) rfl rfl (Nat.le_of_ble_eq_true rfl) dX5_stepValue_126 ?_
  refine tv_aload_n X dX5_stepValue_129 rfl 0 rfl ?_
  refine tv_bipush X 9 dX5_stepValue_130 (by decide) ?_
  refine pX4_9 X (by omega) gw_2_1 dX5_stepValue_132 ?_
  refine tv_ns h (fun s9 h => ?_)
  refine tv_iconst X 0 dX5_stepValue_135 (by decide) ?_
  exact tv_iret X dX5_stepValue_136 h
set_option maxHeartbeats 4000000 in
set_option maxRecDepth 100000 in
theorem l_X5_stepValue_98 {Γ : Cx} {Ω : Wd} {ad : Nat → Nat → Nat} {A : Nat → Prop} {res : St × Int32} (X : Fx Γ Ω A cX5_stepValue 2 "MappingTexts$TextReader" rm_X5_stepValue (some .int)) (σ : St) (t1 : Int32) (v1 : Int32) (h : f_X5_stepValue_98 σ t1 v1 = some res) : V Γ (0, 0) (Qe Γ (0, 0) A (Qci (PicX Ω ad A) A res)) A 2 (PicX Ω ad A σ) 98 [(0, .ref (ad 10 0)), (1, .int v1)] [.int t1, .ref (ad 10 0)] := by
  unfold f_X5_stepValue_98 at h
  refine tv_aload_n X dX5_stepValue_98 rfl 0 rfl ?_
  refine gX4_4 X (by omega) gw_1_236 dX5_stepValue_99 ?_
  refine tv_iload_n X dX5_stepValue_102 rfl 1 rfl ?_
  obtain ⟨s7, _u103, hs7, h⟩ := cl_some h
  refine tv_callVv (st := []) X (c_X5_noteToken Γ.2.1 Ω ad A σ t1 13 v1 (by omega) hs7) ⟨gw_3_114, gw_3_111, gw_1_9, q_X5_noteToken, rfl, rfl, ⟨Nat.le_of_ble_eq_true rfl, Nat.le_of_ble_eq_true rfl⟩⟩ gw_3_113 gw_p_20 (fun H _ hz _ => PP.recv (f := 10) (i := 0) X.2.1 hz.1 (show 0 < 1 by omega) rfl rfl) rfl rfl (Nat.le_of_ble_eq_true rfl) dX5_stepValue_103 ?_
  refine tv_aload_n X dX5_stepValue_106 rfl 0 rfl ?_
  refine tv_aload_n X dX5_stepValue_107 rfl 0 rfl ?_
  refine gX4_12 X (by omega) gw_2_4 dX5_stepValue_108 ?_
  refine tv_bipush X 6 dX5_stepValue_111 (by decide) ?_
  refine tv_icmp_ne X 120 dX5_stepValue_113 (by decide) h (fun h => ?_) (fun h => ?_)
  · refine tv_iconst X 0 dX5_stepValue_120 (by decide) ?_
    exact l_X5_stepValue_121 X s7 0 v1 h
  · refine tv_iconst X 1 dX5_stepValue_116 (by decide) ?_
    refine tv_goto X 121 dX5_stepValue_117 (by decide) ?_
    exact l_X5_stepValue_121 X s7 1 v1 h
set_option maxHeartbeats 4000000 in
set_option maxRecDepth 100000 in
theorem l_X5_stepValue_21 {Γ : Cx} {Ω : Wd} {ad : Nat → Nat → Nat} {A : Nat → Prop} {res : St × Int32} (X : Fx Γ Ω A cX5_stepValue 2 "MappingTexts$TextReader" rm_X5_stepValue (some .int)) (σ : St) (t0 : Int32) (t1 : Int32) (v1 : Int32) (h : f_X5_stepValue_21 σ t0 t1 v1 = some res) : V Γ (0, 0) (Qe Γ (0, 0) A (Qci (PicX Ω ad A) A res)) A 2 (PicX Ω ad A σ) 21 [(0, .ref (ad 10 0)), (1, .int v1)] [.int t1, .int t0] := by
  unfold f_X5_stepValue_21 at h
  refine tv_icmp_eq X 26 dX5_stepValue_21 (by decide) h (fun h => ?_) (fun h => ?_)
  · refine tv_aload_n X dX5_stepValue_26 rfl 0 rfl ?_
    refine tv_bipush X 7 dX5_stepValue_27 (by decide) ?_
    refine pX4_9 X (by omega) gw_2_1 dX5_stepValue_29 ?_
    refine tv_ns h (fun s3 h => ?_)
    refine tv_aload_n X dX5_stepValue_32 rfl 0 rfl ?_
    refine gX4_12 X (by omega) gw_2_4 dX5_stepValue_33 ?_
    refine tv_iconst X 3 dX5_stepValue_36 (by decide) ?_
    refine tv_icmp_ne X 48 dX5_stepValue_37 (by decide) h (fun h => ?_) (fun h => ?_)
    · refine tv_aload_n X dX5_stepValue_48 rfl 0 rfl ?_
      refine gX4_12 X (by omega) gw_2_4 dX5_stepValue_49 ?_
      refine tv_iconst X 5 dX5_stepValue_52 (by decide) ?_
      refine tv_icmp_ne X 84 dX5_stepValue_53 (by decide) h (fun h => ?_) (fun h => ?_)
      · refine tv_aload_n X dX5_stepValue_84 rfl 0 rfl ?_
        refine tv_aload_n X dX5_stepValue_85 rfl 0 rfl ?_
        refine gX4_12 X (by omega) gw_2_4 dX5_stepValue_86 ?_
        refine tv_iconst X 4 dX5_stepValue_89 (by decide) ?_
        refine tv_icmp_ne X 97 dX5_stepValue_90 (by decide) h (fun h => ?_) (fun h => ?_)
        · refine tv_iconst X 0 dX5_stepValue_97 (by decide) ?_
          exact l_X5_stepValue_98 X s3 0 v1 h
        · refine tv_iconst X 1 dX5_stepValue_93 (by decide) ?_
          refine tv_goto X 98 dX5_stepValue_94 (by decide) ?_
          exact l_X5_stepValue_98 X s3 1 v1 h
      · refine tv_aload_n X dX5_stepValue_56 rfl 0 rfl ?_
        refine gX4_7 X (by omega) gw_1_239 dX5_stepValue_57 (fun hg57 => ?_)
        refine gX1_1 X (by omega) gw_1_118 dX5_stepValue_60 ?_
        obtain ⟨s4, _u63, hs4, h⟩ := cl_some h
        refine tv_callVv (st := []) X (c_X3_clear Γ.2.1 Ω ad A s3 (6 + 2 * (gr s3 3 0)) (by omega) hs4) ⟨gw_2_98, gw_3_127, gw_1_2, q_X3_clear, rfl, rfl, ⟨Nat.le_of_ble_eq_true rfl, Nat.le_of_ble_eq_true rfl⟩⟩ gw_2_96 gw_2_97 (fun H _ hz _ => PP.recv (f := 1) (i := (6 + 2 * (gr s3 3 0))) X.2.1 hz.1 (show (6 + 2 * (gr s3 3 0)) < 773 by omega) rfl rfl) rfl rfl (Nat.le_of_ble_eq_true rfl) dX5_stepValue_63 ?_
        refine tv_aload_n X dX5_stepValue_66 rfl 0 rfl ?_
        refine gX4_0 X (by omega) gw_1_232 dX5_stepValue_67 ?_
        refine tv_aload_n X dX5_stepValue_70 rfl 0 rfl ?_
        refine gX4_7 X (by omega) gw_1_239 dX5_stepValue_71 (fun hg71 => ?_)
        refine gX1_1 X (by omega) gw_1_118 dX5_stepValue_74 ?_
        refine tv_iload_n X dX5_stepValue_77 rfl 1 rfl ?_
        obtain ⟨s5, _u78, hs5, h⟩ := cl_some h
        refine tv_callVv (st := []) X (c_X6_addTo Γ.2.1 Ω ad A s4 (6 + 2 * (gr s4 3 0)) v1 (by omega) hs5) ⟨gw_3_9, gw_3_6, gw_1_4, q_X6_addTo, rfl, rfl, ⟨Nat.le_of_ble_eq_true rfl, Nat.le_of_ble_eq_true rfl⟩⟩ gw_3_7 gw_3_8 (fun H _ hz _ => PP.recv (f := 9) (i := 0) X.2.1 hz.1 (show 0 < 1 by omega) rfl rfl) rfl rfl (Nat.le_of_ble_eq_true rfl) dX5_stepValue_78 ?_
        refine tv_goto X 135 dX5_stepValue_81 (by decide) ?_
        refine tv_iconst X 0 dX5_stepValue_135 (by decide) ?_
        exact tv_iret X dX5_stepValue_136 h
    · refine tv_aload_n X dX5_stepValue_40 rfl 0 rfl ?_
      refine tv_iload_n X dX5_stepValue_41 rfl 1 rfl ?_
      obtain ⟨s6, _u42, hs6, h⟩ := cl_some h
      refine tv_callVv (st := []) X (c_X5_takeNull Γ.2.1 Ω ad A s3 v1 hs6) ⟨gw_3_122, gw_3_119, gw_1_9, q_X5_takeNull, rfl, rfl, ⟨Nat.le_of_ble_eq_true rfl, Nat.le_of_ble_eq_true rfl⟩⟩ gw_3_121 gw_p_22 (fun H _ hz _ => PP.recv (f := 10) (i := 0) X.2.1 hz.1 (show 0 < 1 by omega) rfl rfl) rfl rfl (Nat.le_of_ble_eq_true rfl) dX5_stepValue_42 ?_
      refine tv_goto X 135 dX5_stepValue_45 (by decide) ?_
      refine tv_iconst X 0 dX5_stepValue_135 (by decide) ?_
      exact tv_iret X dX5_stepValue_136 h
  · refine tv_iconst X 2 dX5_stepValue_24 (by decide) ?_
    exact tv_iret X dX5_stepValue_25 h
set_option maxHeartbeats 4000000 in
set_option maxRecDepth 100000 in
theorem c_X5_stepValue (l : Launch) (Ω : Wd) (ad : Nat → Nat → Nat) (A : Nat → Prop) (σ : St) (a1 : Int32) {res : St × Int32} (h : f_X5_stepValue σ a1 = some res) : Met l yX5_stepValue (wsO yX5_stepValue cX5_stepValue 2 (some .int)) rm_X5_stepValue (PcZ Ω A (PicX Ω ad A σ) [.ref (ad 10 0), .int a1]) (Qci (PicX Ω ad A) A res) 0 0 A := by
  refine Met.ofV (by decide) rfl (fun Γ hΓ X => ?_)
  have X : Fx Γ Ω A cX5_stepValue 2 "MappingTexts$TextReader" rm_X5_stepValue (some .int) := X
  unfold f_X5_stepValue at h
  show V Γ (0, 0) _ A 2 _ 0 [(0, .ref (ad 10 0)), (1, .int a1)] []
  refine tv_aload_n X dX5_stepValue_0 rfl 0 rfl ?_
  refine gX4_0 X (by omega) gw_1_232 dX5_stepValue_1 ?_
  refine tv_iload_n X dX5_stepValue_4 rfl 1 rfl ?_
  obtain ⟨s1, x2, hs1, h⟩ := cl_some h
  refine tv_callVi (st := []) X (c_X6_kindAt Γ.2.1 Ω ad A σ a1 hs1) ⟨gw_2_163, gw_2_160, gw_1_4, q_X6_kindAt, rfl, rfl, ⟨Nat.le_of_ble_eq_true rfl, Nat.le_of_ble_eq_true rfl⟩⟩ gw_2_161 gw_2_162 (fun H _ hz _ => PP.recv (f := 9) (i := 0) X.2.1 hz.1 (show 0 < 1 by omega) rfl rfl) rfl rfl (Nat.le_of_ble_eq_true rfl) dX5_stepValue_5 ?_
  refine tv_aload_n X dX5_stepValue_8 rfl 0 rfl ?_
  refine gX4_12 X (by omega) gw_2_4 dX5_stepValue_9 ?_
  refine tv_iconst X 3 dX5_stepValue_12 (by decide) ?_
  refine tv_icmp_ne X 20 dX5_stepValue_13 (by decide) h (fun h => ?_) (fun h => ?_)
  · refine tv_iconst X 1 dX5_stepValue_20 (by decide) ?_
    exact l_X5_stepValue_21 X s1 x2 1 a1 h
  · refine tv_iconst X 2 dX5_stepValue_16 (by decide) ?_
    refine tv_goto X 21 dX5_stepValue_17 (by decide) ?_
    exact l_X5_stepValue_21 X s1 x2 2 a1 h
set_option maxHeartbeats 4000000 in
set_option maxRecDepth 100000 in
theorem c_X5_step (l : Launch) (Ω : Wd) (ad : Nat → Nat → Nat) (A : Nat → Prop) (σ : St) (a1 : Int32) {res : St × Int32} (h : f_X5_step σ a1 = some res) : Met l yX5_step (wsO yX5_step cX5_step 2 (some .int)) rm_X5_step (PcZ Ω A (PicX Ω ad A σ) [.ref (ad 10 0), .int a1]) (Qci (PicX Ω ad A) A res) 0 0 A := by
  refine Met.ofV (by decide) rfl (fun Γ hΓ X => ?_)
  have X : Fx Γ Ω A cX5_step 2 "MappingTexts$TextReader" rm_X5_step (some .int) := X
  unfold f_X5_step at h
  show V Γ (0, 0) _ A 2 _ 0 [(0, .ref (ad 10 0)), (1, .int a1)] []
  refine tv_aload_n X dX5_step_0 rfl 0 rfl ?_
  refine gX4_9 X (by omega) gw_2_1 dX5_step_1 ?_
  refine tv_nm h (fun x1 h => ?_)
  by_cases c4_0 : x1 = 0
  · rw [if_pos c4_0] at h
    refine tv_tableIn 88 X dX5_step_4 (by rw [c4_0]; decide) (by rw [c4_0]; decide) (by rw [c4_0]; rfl) (by decide) ?_
    refine tv_aload_n X dX5_step_88 rfl 0 rfl ?_
    refine tv_iload_n X dX5_step_89 rfl 1 rfl ?_
    obtain ⟨s2, x3, hs2, h⟩ := cl_some h
    refine tv_callVi (st := []) X (c_X5_isFieldName Γ.2.1 Ω ad A σ a1 hs2) ⟨gw_2_159, gw_2_156, gw_1_9, q_X5_isFieldName, rfl, rfl, ⟨Nat.le_of_ble_eq_true rfl, Nat.le_of_ble_eq_true rfl⟩⟩ gw_2_158 gw_p_5 (fun H _ hz _ => PP.recv (f := 10) (i := 0) X.2.1 hz.1 (show 0 < 1 by omega) rfl rfl) rfl rfl (Nat.le_of_ble_eq_true rfl) dX5_step_90 ?_
    refine tv_if_eq X 104 dX5_step_93 (by decide) h (fun h => ?_) (fun h => ?_)
    · refine tv_aload_n X dX5_step_104 rfl 0 rfl ?_
      refine tv_iload_n X dX5_step_105 rfl 1 rfl ?_
      obtain ⟨s4, x5, hs4, h⟩ := cl_some h
      refine tv_callVi (st := []) X (c_X5_stepItem Γ.2.1 Ω ad A s2 a1 hs4) ⟨gw_3_31, gw_3_28, gw_1_9, q_X5_stepItem, rfl, rfl, ⟨Nat.le_of_ble_eq_true rfl, Nat.le_of_ble_eq_true rfl⟩⟩ gw_3_30 gw_p_9 (fun H _ hz _ => PP.recv (f := 10) (i := 0) X.2.1 hz.1 (show 0 < 1 by omega) rfl rfl) rfl rfl (Nat.le_of_ble_eq_true rfl) dX5_step_106 ?_
      exact tv_iret X dX5_step_109 h
    · refine tv_aload_n X dX5_step_96 rfl 0 rfl ?_
      refine tv_iload_n X dX5_step_97 rfl 1 rfl ?_
      obtain ⟨s6, x7, hs6, h⟩ := cl_some h
      refine tv_callVi (st := []) X (c_X5_stepFieldName Γ.2.1 Ω ad A s2 a1 hs6) ⟨gw_2_227, gw_2_224, gw_1_9, q_X5_stepFieldName, rfl, rfl, ⟨Nat.le_of_ble_eq_true rfl, Nat.le_of_ble_eq_true rfl⟩⟩ gw_2_226 gw_p_6 (fun H _ hz _ => PP.recv (f := 10) (i := 0) X.2.1 hz.1 (show 0 < 1 by omega) rfl rfl) rfl rfl (Nat.le_of_ble_eq_true rfl) dX5_step_98 ?_
      refine tv_goto X 109 dX5_step_101 (by decide) ?_
      exact tv_iret X dX5_step_109 h
  rw [if_neg c4_0] at h
  by_cases c4_1 : x1 = 1
  · rw [if_pos c4_1] at h
    refine tv_tableIn 110 X dX5_step_4 (by rw [c4_1]; decide) (by rw [c4_1]; decide) (by rw [c4_1]; rfl) (by decide) ?_
    refine tv_aload_n X dX5_step_110 rfl 0 rfl ?_
    refine tv_iload_n X dX5_step_111 rfl 1 rfl ?_
    refine tv_bipush X 58 dX5_step_112 (by decide) ?_
    refine tv_iconst X 2 dX5_step_114 (by decide) ?_
    obtain ⟨s8, x9, hs8, h⟩ := cl_some h
    refine tv_callVi (st := []) X (c_X5_expect Γ.2.1 Ω ad A σ a1 58 2 hs8) ⟨gw_3_35, gw_3_32, gw_1_9, q_X5_expect, rfl, rfl, ⟨Nat.le_of_ble_eq_true rfl, Nat.le_of_ble_eq_true rfl⟩⟩ gw_3_34 gw_p_10 (fun H _ hz _ => PP.recv (f := 10) (i := 0) X.2.1 hz.1 (show 0 < 1 by omega) rfl rfl) rfl rfl (Nat.le_of_ble_eq_true rfl) dX5_step_115 ?_
    exact tv_iret X dX5_step_118 h
  rw [if_neg c4_1] at h
  by_cases c4_2 : x1 = 2
  · rw [if_pos c4_2] at h
    refine tv_tableIn 119 X dX5_step_4 (by rw [c4_2]; decide) (by rw [c4_2]; decide) (by rw [c4_2]; rfl) (by decide) ?_
    refine tv_aload_n X dX5_step_119 rfl 0 rfl ?_
    refine tv_iload_n X dX5_step_120 rfl 1 rfl ?_
    obtain ⟨s10, x11, hs10, h⟩ := cl_some h
    refine tv_callVi (st := []) X (c_X5_stepKind Γ.2.1 Ω ad A σ a1 hs10) ⟨gw_3_52, gw_3_49, gw_1_9, q_X5_stepKind, rfl, rfl, ⟨Nat.le_of_ble_eq_true rfl, Nat.le_of_ble_eq_true rfl⟩⟩ gw_3_51 gw_p_13 (fun H _ hz _ => PP.recv (f := 10) (i := 0) X.2.1 hz.1 (show 0 < 1 by omega) rfl rfl) rfl rfl (Nat.le_of_ble_eq_true rfl) dX5_step_121 ?_
    exact tv_iret X dX5_step_124 h
  rw [if_neg c4_2] at h
  by_cases c4_3 : x1 = 3
  · rw [if_pos c4_3] at h
    refine tv_tableIn 125 X dX5_step_4 (by rw [c4_3]; decide) (by rw [c4_3]; decide) (by rw [c4_3]; rfl) (by decide) ?_
    refine tv_aload_n X dX5_step_125 rfl 0 rfl ?_
    refine tv_iload_n X dX5_step_126 rfl 1 rfl ?_
    obtain ⟨s12, x13, hs12, h⟩ := cl_some h
    refine tv_callVi (st := []) X (c_X5_stepBehindKind Γ.2.1 Ω ad A σ a1 hs12) ⟨gw_3_71, gw_3_68, gw_1_9, q_X5_stepBehindKind, rfl, rfl, ⟨Nat.le_of_ble_eq_true rfl, Nat.le_of_ble_eq_true rfl⟩⟩ gw_3_70 gw_p_15 (fun H _ hz _ => PP.recv (f := 10) (i := 0) X.2.1 hz.1 (show 0 < 1 by omega) rfl rfl) rfl rfl (Nat.le_of_ble_eq_true rfl) dX5_step_127 ?_
    exact tv_iret X dX5_step_130 h
  rw [if_neg c4_3] at h
  by_cases c4_4 : x1 = 4
  · rw [if_pos c4_4] at h
    refine tv_tableIn 131 X dX5_step_4 (by rw [c4_4]; decide) (by rw [c4_4]; decide) (by rw [c4_4]; rfl) (by decide) ?_
    refine tv_aload_n X dX5_step_131 rfl 0 rfl ?_
    refine tv_iload_n X dX5_step_132 rfl 1 rfl ?_
    obtain ⟨s14, x15, hs14, h⟩ := cl_some h
    refine tv_callVi (st := []) X (c_X5_stepOption Γ.2.1 Ω ad A σ a1 hs14) ⟨gw_3_90, gw_3_87, gw_1_9, q_X5_stepOption, rfl, rfl, ⟨Nat.le_of_ble_eq_true rfl, Nat.le_of_ble_eq_true rfl⟩⟩ gw_3_89 gw_p_18 (fun H _ hz _ => PP.recv (f := 10) (i := 0) X.2.1 hz.1 (show 0 < 1 by omega) rfl rfl) rfl rfl (Nat.le_of_ble_eq_true rfl) dX5_step_133 ?_
    exact tv_iret X dX5_step_136 h
  rw [if_neg c4_4] at h
  by_cases c4_5 : x1 = 5
  · rw [if_pos c4_5] at h
    refine tv_tableIn 137 X dX5_step_4 (by rw [c4_5]; decide) (by rw [c4_5]; decide) (by rw [c4_5]; rfl) (by decide) ?_
    refine tv_aload_n X dX5_step_137 rfl 0 rfl ?_
    refine tv_iload_n X dX5_step_138 rfl 1 rfl ?_
    refine tv_bipush X 61 dX5_step_139 (by decide) ?_
    refine tv_bipush X 6 dX5_step_141 (by decide) ?_
    obtain ⟨s16, x17, hs16, h⟩ := cl_some h
    refine tv_callVi (st := []) X (c_X5_expect Γ.2.1 Ω ad A σ a1 61 6 hs16) ⟨gw_3_35, gw_3_32, gw_1_9, q_X5_expect, rfl, rfl, ⟨Nat.le_of_ble_eq_true rfl, Nat.le_of_ble_eq_true rfl⟩⟩ gw_3_34 gw_p_10 (fun H _ hz _ => PP.recv (f := 10) (i := 0) X.2.1 hz.1 (show 0 < 1 by omega) rfl rfl) rfl rfl (Nat.le_of_ble_eq_true rfl) dX5_step_143 ?_
    exact tv_iret X dX5_step_146 h
  rw [if_neg c4_5] at h
  by_cases c4_6 : x1 = 6
  · rw [if_pos c4_6] at h
    refine tv_tableIn 147 X dX5_step_4 (by rw [c4_6]; decide) (by rw [c4_6]; decide) (by rw [c4_6]; rfl) (by decide) ?_
    refine tv_aload_n X dX5_step_147 rfl 0 rfl ?_
    refine tv_iload_n X dX5_step_148 rfl 1 rfl ?_
    obtain ⟨s18, x19, hs18, h⟩ := cl_some h
    refine tv_callVi (st := []) X (c_X5_stepValue Γ.2.1 Ω ad A σ a1 hs18) ⟨gw_3_118, gw_3_115, gw_1_9, q_X5_stepValue, rfl, rfl, ⟨Nat.le_of_ble_eq_true rfl, Nat.le_of_ble_eq_true rfl⟩⟩ gw_3_117 gw_p_21 (fun H _ hz _ => PP.recv (f := 10) (i := 0) X.2.1 hz.1 (show 0 < 1 by omega) rfl rfl) rfl rfl (Nat.le_of_ble_eq_true rfl) dX5_step_149 ?_
    exact tv_iret X dX5_step_152 h
  rw [if_neg c4_6] at h
  by_cases c4_7 : x1 = 7
  · rw [if_pos c4_7] at h
    refine tv_tableIn 153 X dX5_step_4 (by rw [c4_7]; decide) (by rw [c4_7]; decide) (by rw [c4_7]; rfl) (by decide) ?_
    refine tv_aload_n X dX5_step_153 rfl 0 rfl ?_
    refine tv_iload_n X dX5_step_154 rfl 1 rfl ?_
    obtain ⟨s20, x21, hs20, h⟩ := cl_some h
    refine tv_callVi (st := []) X (c_X5_stepBehindValue Γ.2.1 Ω ad A σ a1 hs20) ⟨gw_3_131, gw_3_128, gw_1_9, q_X5_stepBehindValue, rfl, rfl, ⟨Nat.le_of_ble_eq_true rfl, Nat.le_of_ble_eq_true rfl⟩⟩ gw_3_130 gw_p_23 (fun H _ hz _ => PP.recv (f := 10) (i := 0) X.2.1 hz.1 (show 0 < 1 by omega) rfl rfl) rfl rfl (Nat.le_of_ble_eq_true rfl) dX5_step_155 ?_
    exact tv_iret X dX5_step_158 h
  rw [if_neg c4_7] at h
  by_cases c4_8 : x1 = 8
  · rw [if_pos c4_8] at h
    refine tv_tableIn 159 X dX5_step_4 (by rw [c4_8]; decide) (by rw [c4_8]; decide) (by rw [c4_8]; rfl) (by decide) ?_
    refine tv_aload_n X dX5_step_159 rfl 0 rfl ?_
    refine tv_iload_n X dX5_step_160 rfl 1 rfl ?_
    refine tv_iconst X 1 dX5_step_161 (by decide) ?_
    refine tv_bipush X 9 dX5_step_162 (by decide) ?_
    obtain ⟨s22, x23, hs22, h⟩ := cl_some h
    refine tv_callVi (st := []) X (c_X5_expect Γ.2.1 Ω ad A σ a1 1 9 hs22) ⟨gw_3_35, gw_3_32, gw_1_9, q_X5_expect, rfl, rfl, ⟨Nat.le_of_ble_eq_true rfl, Nat.le_of_ble_eq_true rfl⟩⟩ gw_3_34 gw_p_10 (fun H _ hz _ => PP.recv (f := 10) (i := 0) X.2.1 hz.1 (show 0 < 1 by omega) rfl rfl) rfl rfl (Nat.le_of_ble_eq_true rfl) dX5_step_164 ?_
    exact tv_iret X dX5_step_167 h
  rw [if_neg c4_8] at h
  by_cases c4_9 : x1 = 9
  · rw [if_pos c4_9] at h
    refine tv_tableIn 168 X dX5_step_4 (by rw [c4_9]; decide) (by rw [c4_9]; decide) (by rw [c4_9]; rfl) (by decide) ?_
    refine tv_aload_n X dX5_step_168 rfl 0 rfl ?_
    refine tv_iload_n X dX5_step_169 rfl 1 rfl ?_
    obtain ⟨s24, x25, hs24, h⟩ := cl_some h
    refine tv_callVi (st := []) X (c_X5_stepInPath Γ.2.1 Ω ad A σ a1 hs24) ⟨gw_3_135, gw_3_132, gw_1_9, q_X5_stepInPath, rfl, rfl, ⟨Nat.le_of_ble_eq_true rfl, Nat.le_of_ble_eq_true rfl⟩⟩ gw_3_134 gw_p_24 (fun H _ hz _ => PP.recv (f := 10) (i := 0) X.2.1 hz.1 (show 0 < 1 by omega) rfl rfl) rfl rfl (Nat.le_of_ble_eq_true rfl) dX5_step_170 ?_
    exact tv_iret X dX5_step_173 h
  rw [if_neg c4_9] at h
  by_cases c4_10 : x1 = 10
  · rw [if_pos c4_10] at h
    refine tv_tableIn 174 X dX5_step_4 (by rw [c4_10]; decide) (by rw [c4_10]; decide) (by rw [c4_10]; rfl) (by decide) ?_
    refine tv_aload_n X dX5_step_174 rfl 0 rfl ?_
    refine tv_iload_n X dX5_step_175 rfl 1 rfl ?_
    obtain ⟨s26, x27, hs26, h⟩ := cl_some h
    refine tv_callVi (st := []) X (c_X5_stepHeadEnd Γ.2.1 Ω ad A σ a1 hs26) ⟨gw_3_75, gw_3_72, gw_1_9, q_X5_stepHeadEnd, rfl, rfl, ⟨Nat.le_of_ble_eq_true rfl, Nat.le_of_ble_eq_true rfl⟩⟩ gw_3_74 gw_p_16 (fun H _ hz _ => PP.recv (f := 10) (i := 0) X.2.1 hz.1 (show 0 < 1 by omega) rfl rfl) rfl rfl (Nat.le_of_ble_eq_true rfl) dX5_step_176 ?_
    exact tv_iret X dX5_step_179 h
  rw [if_neg c4_10] at h
  by_cases c4_11 : x1 = 11
  · rw [if_pos c4_11] at h
    refine tv_tableIn 180 X dX5_step_4 (by rw [c4_11]; decide) (by rw [c4_11]; decide) (by rw [c4_11]; rfl) (by decide) ?_
    refine tv_aload_n X dX5_step_180 rfl 0 rfl ?_
    refine tv_iload_n X dX5_step_181 rfl 1 rfl ?_
    obtain ⟨s28, x29, hs28, h⟩ := cl_some h
    refine tv_callVi (st := []) X (c_X5_stepPattern Γ.2.1 Ω ad A σ a1 hs28) ⟨gw_3_139, gw_3_136, gw_1_9, q_X5_stepPattern, rfl, rfl, ⟨Nat.le_of_ble_eq_true rfl, Nat.le_of_ble_eq_true rfl⟩⟩ gw_3_138 gw_p_25 (fun H _ hz _ => PP.recv (f := 10) (i := 0) X.2.1 hz.1 (show 0 < 1 by omega) rfl rfl) rfl rfl (Nat.le_of_ble_eq_true rfl) dX5_step_182 ?_
    exact tv_iret X dX5_step_185 h
  rw [if_neg c4_11] at h
  by_cases c4_12 : x1 = 12
  · rw [if_pos c4_12] at h
    refine tv_tableIn 186 X dX5_step_4 (by rw [c4_12]; decide) (by rw [c4_12]; decide) (by rw [c4_12]; rfl) (by decide) ?_
    refine tv_aload_n X dX5_step_186 rfl 0 rfl ?_
    refine tv_iload_n X dX5_step_187 rfl 1 rfl ?_
    obtain ⟨s30, x31, hs30, h⟩ := cl_some h
    refine tv_callVi (st := []) X (c_X5_stepBehindHead Γ.2.1 Ω ad A σ a1 hs30) ⟨gw_3_147, gw_3_144, gw_1_9, q_X5_stepBehindHead, rfl, rfl, ⟨Nat.le_of_ble_eq_true rfl, Nat.le_of_ble_eq_true rfl⟩⟩ gw_3_146 gw_p_27 (fun H _ hz _ => PP.recv (f := 10) (i := 0) X.2.1 hz.1 (show 0 < 1 by omega) rfl rfl) rfl rfl (Nat.le_of_ble_eq_true rfl) dX5_step_188 ?_
    exact tv_iret X dX5_step_191 h
  rw [if_neg c4_12] at h
  by_cases c4_13 : x1 = 13
  · rw [if_pos c4_13] at h
    refine tv_tableIn 192 X dX5_step_4 (by rw [c4_13]; decide) (by rw [c4_13]; decide) (by rw [c4_13]; rfl) (by decide) ?_
    refine tv_aload_n X dX5_step_192 rfl 0 rfl ?_
    refine tv_iload_n X dX5_step_193 rfl 1 rfl ?_
    obtain ⟨s32, x33, hs32, h⟩ := cl_some h
    refine tv_callVi (st := []) X (c_X5_stepBehindStar Γ.2.1 Ω ad A σ a1 hs32) ⟨gw_3_151, gw_3_148, gw_1_9, q_X5_stepBehindStar, rfl, rfl, ⟨Nat.le_of_ble_eq_true rfl, Nat.le_of_ble_eq_true rfl⟩⟩ gw_3_150 gw_p_28 (fun H _ hz _ => PP.recv (f := 10) (i := 0) X.2.1 hz.1 (show 0 < 1 by omega) rfl rfl) rfl rfl (Nat.le_of_ble_eq_true rfl) dX5_step_194 ?_
    exact tv_iret X dX5_step_197 h
  rw [if_neg c4_13] at h
  by_cases c4_14 : x1 = 14
  · rw [if_pos c4_14] at h
    refine tv_tableIn 198 X dX5_step_4 (by rw [c4_14]; decide) (by rw [c4_14]; decide) (by rw [c4_14]; rfl) (by decide) ?_
    refine tv_aload_n X dX5_step_198 rfl 0 rfl ?_
    refine tv_iload_n X dX5_step_199 rfl 1 rfl ?_
    refine tv_bipush X 58 dX5_step_200 (by decide) ?_
    refine tv_bipush X 15 dX5_step_202 (by decide) ?_
    obtain ⟨s34, x35, hs34, h⟩ := cl_some h
    refine tv_callVi (st := []) X (c_X5_expect Γ.2.1 Ω ad A σ a1 58 15 hs34) ⟨gw_3_35, gw_3_32, gw_1_9, q_X5_expect, rfl, rfl, ⟨Nat.le_of_ble_eq_true rfl, Nat.le_of_ble_eq_true rfl⟩⟩ gw_3_34 gw_p_10 (fun H _ hz _ => PP.recv (f := 10) (i := 0) X.2.1 hz.1 (show 0 < 1 by omega) rfl rfl) rfl rfl (Nat.le_of_ble_eq_true rfl) dX5_step_204 ?_
    exact tv_iret X dX5_step_207 h
  rw [if_neg c4_14] at h
  by_cases c4_15 : x1 = 15
  · rw [if_pos c4_15] at h
    refine tv_tableIn 208 X dX5_step_4 (by rw [c4_15]; decide) (by rw [c4_15]; decide) (by rw [c4_15]; rfl) (by decide) ?_
    refine tv_aload_n X dX5_step_208 rfl 0 rfl ?_
    refine tv_iload_n X dX5_step_209 rfl 1 rfl ?_
    obtain ⟨s36, x37, hs36, h⟩ := cl_some h
    refine tv_callVi (st := []) X (c_X5_stepRuleKind Γ.2.1 Ω ad A σ a1 hs36) ⟨gw_3_155, gw_3_152, gw_1_9, q_X5_stepRuleKind, rfl, rfl, ⟨Nat.le_of_ble_eq_true rfl, Nat.le_of_ble_eq_true rfl⟩⟩ gw_3_154 gw_p_29 (fun H _ hz _ => PP.recv (f := 10) (i := 0) X.2.1 hz.1 (show 0 < 1 by omega) rfl rfl) rfl rfl (Nat.le_of_ble_eq_true rfl) dX5_step_210 ?_
    exact tv_iret X dX5_step_213 h
  rw [if_neg c4_15] at h
  by_cases c4_16 : x1 = 16
  · rw [if_pos c4_16] at h
    refine tv_tableIn 214 X dX5_step_4 (by rw [c4_16]; decide) (by rw [c4_16]; decide) (by rw [c4_16]; rfl) (by decide) ?_
    refine tv_aload_n X dX5_step_214 rfl 0 rfl ?_
    refine tv_iload_n X dX5_step_215 rfl 1 rfl ?_
    obtain ⟨s38, x39, hs38, h⟩ := cl_some h
    refine tv_callVi (st := []) X (c_X5_stepLimitNumber Γ.2.1 Ω ad A σ a1 hs38) ⟨gw_3_159, gw_3_156, gw_1_9, q_X5_stepLimitNumber, rfl, rfl, ⟨Nat.le_of_ble_eq_true rfl, Nat.le_of_ble_eq_true rfl⟩⟩ gw_3_158 gw_p_30 (fun H _ hz _ => PP.recv (f := 10) (i := 0) X.2.1 hz.1 (show 0 < 1 by omega) rfl rfl) rfl rfl (Nat.le_of_ble_eq_true rfl) dX5_step_216 ?_
    exact tv_iret X dX5_step_219 h
  rw [if_neg c4_16] at h
  have zc4_0 := ne_toInt 0 c4_0 (by decide)
  have zc4_1 := ne_toInt 1 c4_1 (by decide)
  have zc4_2 := ne_toInt 2 c4_2 (by decide)
  have zc4_3 := ne_toInt 3 c4_3 (by decide)
  have zc4_4 := ne_toInt 4 c4_4 (by decide)
  have zc4_5 := ne_toInt 5 c4_5 (by decide)
  have zc4_6 := ne_toInt 6 c4_6 (by decide)
  have zc4_7 := ne_toInt 7 c4_7 (by decide)
  have zc4_8 := ne_toInt 8 c4_8 (by decide)
  have zc4_9 := ne_toInt 9 c4_9 (by decide)
  have zc4_10 := ne_toInt 10 c4_10 (by decide)
  have zc4_11 := ne_toInt 11 c4_11 (by decide)
  have zc4_12 := ne_toInt 12 c4_12 (by decide)
  have zc4_13 := ne_toInt 13 c4_13 (by decide)
  have zc4_14 := ne_toInt 14 c4_14 (by decide)
  have zc4_15 := ne_toInt 15 c4_15 (by decide)
  have zc4_16 := ne_toInt 16 c4_16 (by decide)
  refine tv_tableOut 220 X dX5_step_4 (by omega) (by decide) ?_
  refine tv_aload_n X dX5_step_220 rfl 0 rfl ?_
  refine tv_iload_n X dX5_step_221 rfl 1 rfl ?_
  refine tv_bipush X 59 dX5_step_222 (by decide) ?_
  refine tv_iconst X 0 dX5_step_224 (by decide) ?_
  obtain ⟨s40, x41, hs40, h⟩ := cl_some h
  refine tv_callVi (st := []) X (c_X5_expect Γ.2.1 Ω ad A σ a1 59 0 hs40) ⟨gw_3_35, gw_3_32, gw_1_9, q_X5_expect, rfl, rfl, ⟨Nat.le_of_ble_eq_true rfl, Nat.le_of_ble_eq_true rfl⟩⟩ gw_3_34 gw_p_10 (fun H _ hz _ => PP.recv (f := 10) (i := 0) X.2.1 hz.1 (show 0 < 1 by omega) rfl rfl) rfl rfl (Nat.le_of_ble_eq_true rfl) dX5_step_225 ?_
  exact tv_iret X dX5_step_228 h
set_option maxHeartbeats 4000000 in
set_option maxRecDepth 100000 in
theorem c_X5_stop (l : Launch) (Ω : Wd) (ad : Nat → Nat → Nat) (A : Nat → Prop) (σ : St) (a1 : Int32) (a2 : Int32) {res : St × Int32} (h : f_X5_stop σ a1 a2 = some res) : Met l yX5_stop (wsO yX5_stop cX5_stop 3 (some .int)) rm_X5_stop (PcZ Ω A (PicX Ω ad A σ) [.ref (ad 10 0), .int a1, .int a2]) (Qci (PicX Ω ad A) A res) 0 0 A := by
  refine Met.ofV (by decide) rfl (fun Γ hΓ X => ?_)
  have X : Fx Γ Ω A cX5_stop 3 "MappingTexts$TextReader" rm_X5_stop (some .int) := X
  unfold f_X5_stop at h
  show V Γ (0, 0) _ A 3 _ 0 [(0, .ref (ad 10 0)), (1, .int a1), (2, .int a2)] []
  refine tv_aload_n X dX5_stop_0 rfl 0 rfl ?_
  refine tv_iload_n X dX5_stop_1 rfl 1 rfl ?_
  refine pX4_15 X (by omega) gw_2_7 dX5_stop_2 ?_
  refine tv_ns h (fun s1 h => ?_)
  refine tv_aload_n X dX5_stop_5 rfl 0 rfl ?_
  refine tv_iload_n X dX5_stop_6 rfl 2 rfl ?_
  refine pX4_16 X (by omega) gw_2_8 dX5_stop_7 ?_
  refine tv_ns h (fun s2 h => ?_)
  refine tv_iload_n X dX5_stop_10 rfl 1 rfl ?_
  exact tv_iret X dX5_stop_11 h
set_option maxHeartbeats 4000000 in
set_option maxRecDepth 100000 in
theorem c_X6_count (l : Launch) (Ω : Wd) (ad : Nat → Nat → Nat) (A : Nat → Prop) (σ : St) {res : St × Int32} (h : f_X6_count σ = some res) : Met l yX6_count (wsO yX6_count cX6_count 1 (some .int)) rm_X6_count (PcZ Ω A (PicX Ω ad A σ) [.ref (ad 9 0)]) (Qci (PicX Ω ad A) A res) 0 0 A := by
  refine Met.ofV (by decide) rfl (fun Γ hΓ X => ?_)
  have X : Fx Γ Ω A cX6_count 1 "MappingTexts$Tokens" rm_X6_count (some .int) := X
  unfold f_X6_count at h
  show V Γ (0, 0) _ A 1 _ 0 [(0, .ref (ad 9 0))] []
  refine tv_aload_n X dX6_count_0 rfl 0 rfl ?_
  refine gX5_4 X (by omega) gw_1_55 dX6_count_1 ?_
  exact tv_iret X dX6_count_4 h
set_option maxHeartbeats 4000000 in
set_option maxRecDepth 100000 in
theorem c_X6_begin (l : Launch) (Ω : Wd) (ad : Nat → Nat → Nat) (A : Nat → Prop) (σ : St) (a1 : Int32) (a2 : Int32) {res : St × Unit} (h : f_X6_begin σ a1 a2 = some res) : Met l yX6_begin (wsO yX6_begin cX6_begin 3 none) rm_X6_begin (PcZ Ω A (PicX Ω ad A σ) [.ref (ad 9 0), .int a1, .int a2]) (Qcv (PicX Ω ad A) A res) 0 0 A := by
  refine Met.ofV (by decide) rfl (fun Γ hΓ X => ?_)
  have X : Fx Γ Ω A cX6_begin 3 "MappingTexts$Tokens" rm_X6_begin none := X
  unfold f_X6_begin at h
  show V Γ (0, 0) _ A 3 _ 0 [(0, .ref (ad 9 0)), (1, .int a1), (2, .int a2)] []
  refine tv_aload_n X dX6_begin_0 rfl 0 rfl ?_
  refine gX5_4 X (by omega) gw_1_55 dX6_begin_1 ?_
  refine tv_sipush X 2000 dX6_begin_4 (by decide) ?_
  refine tv_icmp_ge X 50 dX6_begin_7 (by decide) h (fun h => ?_) (fun h => ?_)
  · exact tv_vret X dX6_begin_50 h
  · refine tv_aload_n X dX6_begin_10 rfl 0 rfl ?_
    refine gX5_1 X (by omega) gw_1_52 dX6_begin_11 ?_
    refine tv_aload_n X dX6_begin_14 rfl 0 rfl ?_
    refine gX5_4 X (by omega) gw_1_55 dX6_begin_15 ?_
    refine tv_iload_n X dX6_begin_18 rfl 1 rfl ?_
    refine isX X (by omega) dX6_begin_19 h (fun j1 hj1 h => ?_)
    refine tv_ns h (fun s2 h => ?_)
    refine tv_aload_n X dX6_begin_20 rfl 0 rfl ?_
    refine gX5_2 X (by omega) gw_1_53 dX6_begin_21 ?_
    refine tv_aload_n X dX6_begin_24 rfl 0 rfl ?_
    refine gX5_4 X (by omega) gw_1_55 dX6_begin_25 ?_
    refine tv_iload_n X dX6_begin_28 rfl 2 rfl ?_
    refine isX X (by omega) dX6_begin_29 h (fun j3 hj3 h => ?_)
    refine tv_ns h (fun s4 h => ?_)
    refine tv_aload_n X dX6_begin_30 rfl 0 rfl ?_
    refine gX5_3 X (by omega) gw_1_54 dX6_begin_31 ?_
    refine tv_aload_n X dX6_begin_34 rfl 0 rfl ?_
    refine gX5_4 X (by omega) gw_1_55 dX6_begin_35 ?_
    refine tv_iconst X 1 dX6_begin_38 (by decide) ?_
    refine isX X (by omega) dX6_begin_39 h (fun j5 hj5 h => ?_)
    refine tv_ns h (fun s6 h => ?_)
    refine tv_aload_n X dX6_begin_40 rfl 0 rfl ?_
    refine tv_dup X dX6_begin_41 rfl ?_
    refine gX5_4 X (by omega) gw_1_55 dX6_begin_42 ?_
    refine tv_iconst X 1 dX6_begin_45 (by decide) ?_
    refine tv_iadd X dX6_begin_46 ?_
    refine pX5_4 X (by omega) gw_1_55 dX6_begin_47 ?_
    refine tv_ns h (fun s7 h => ?_)
    exact tv_vret X dX6_begin_50 h
set_option maxHeartbeats 4000000 in
set_option maxRecDepth 100000 in
theorem c_X6_isDigit (l : Launch) (Ω : Wd) (ad : Nat → Nat → Nat) (A : Nat → Prop) (σ : St) (a1 : Int32) {res : St × Int32} (h : f_X6_isDigit σ a1 = some res) : Met l yX6_isDigit (wsO yX6_isDigit cX6_isDigit 1 (some .boolean)) rm_X6_isDigit (PcZ Ω A (PicX Ω ad A σ) [.int a1]) (Qci (PicX Ω ad A) A res) 0 0 A := by
  refine Met.ofV (by decide) rfl (fun Γ hΓ X => ?_)
  have X : Fx Γ Ω A cX6_isDigit 1 "MappingTexts$Tokens" rm_X6_isDigit (some .boolean) := X
  unfold f_X6_isDigit at h
  show V Γ (0, 0) _ A 1 _ 0 [(0, .int a1)] []
  refine tv_iload_n X dX6_isDigit_0 rfl 0 rfl ?_
  refine tv_bipush X 48 dX6_isDigit_1 (by decide) ?_
  refine tv_icmp_lt X 16 dX6_isDigit_3 (by decide) h (fun h => ?_) (fun h => ?_)
  · refine tv_iconst X 0 dX6_isDigit_16 (by decide) ?_
    exact tv_zret X dX6_isDigit_17 (Or.inl rfl) h
  · refine tv_iload_n X dX6_isDigit_6 rfl 0 rfl ?_
    refine tv_bipush X 57 dX6_isDigit_7 (by decide) ?_
    refine tv_icmp_gt X 16 dX6_isDigit_9 (by decide) h (fun h => ?_) (fun h => ?_)
    · refine tv_iconst X 0 dX6_isDigit_16 (by decide) ?_
      exact tv_zret X dX6_isDigit_17 (Or.inl rfl) h
    · refine tv_iconst X 1 dX6_isDigit_12 (by decide) ?_
      refine tv_goto X 17 dX6_isDigit_13 (by decide) ?_
      exact tv_zret X dX6_isDigit_17 (Or.inr rfl) h
set_option maxHeartbeats 4000000 in
set_option maxRecDepth 100000 in
theorem c_X6_isSmall (l : Launch) (Ω : Wd) (ad : Nat → Nat → Nat) (A : Nat → Prop) (σ : St) (a1 : Int32) {res : St × Int32} (h : f_X6_isSmall σ a1 = some res) : Met l yX6_isSmall (wsO yX6_isSmall cX6_isSmall 1 (some .boolean)) rm_X6_isSmall (PcZ Ω A (PicX Ω ad A σ) [.int a1]) (Qci (PicX Ω ad A) A res) 0 0 A := by
  refine Met.ofV (by decide) rfl (fun Γ hΓ X => ?_)
  have X : Fx Γ Ω A cX6_isSmall 1 "MappingTexts$Tokens" rm_X6_isSmall (some .boolean) := X
  unfold f_X6_isSmall at h
  show V Γ (0, 0) _ A 1 _ 0 [(0, .int a1)] []
  refine tv_iload_n X dX6_isSmall_0 rfl 0 rfl ?_
  refine tv_bipush X 97 dX6_isSmall_1 (by decide) ?_
  refine tv_icmp_lt X 16 dX6_isSmall_3 (by decide) h (fun h => ?_) (fun h => ?_)
  · refine tv_iconst X 0 dX6_isSmall_16 (by decide) ?_
    exact tv_zret X dX6_isSmall_17 (Or.inl rfl) h
  · refine tv_iload_n X dX6_isSmall_6 rfl 0 rfl ?_
    refine tv_bipush X 122 dX6_isSmall_7 (by decide) ?_
    refine tv_icmp_gt X 16 dX6_isSmall_9 (by decide) h (fun h => ?_) (fun h => ?_)
    · refine tv_iconst X 0 dX6_isSmall_16 (by decide) ?_
      exact tv_zret X dX6_isSmall_17 (Or.inl rfl) h
    · refine tv_iconst X 1 dX6_isSmall_12 (by decide) ?_
      refine tv_goto X 17 dX6_isSmall_13 (by decide) ?_
      exact tv_zret X dX6_isSmall_17 (Or.inr rfl) h
set_option maxHeartbeats 4000000 in
set_option maxRecDepth 100000 in
theorem l_X6_goesOn_25 {Γ : Cx} {Ω : Wd} {ad : Nat → Nat → Nat} {A : Nat → Prop} {res : St × Int32} (X : Fx Γ Ω A cX6_goesOn 2 "MappingTexts$Tokens" rm_X6_goesOn (some .boolean)) {k37 : St → Option (St × Int32)} (hk37 : ∀ (σ : St), k37 σ = some res → V Γ (0, 0) (Qe Γ (0, 0) A (Qci (PicX Ω ad A) A res)) A 2 (PicX Ω ad A σ) 37 [] []) (σ : St) (v0 : Int32) (v1 : Int32) (h : f_X6_goesOn_25 k37 σ v0 v1 = some res) : V Γ (0, 0) (Qe Γ (0, 0) A (Qci (PicX Ω ad A) A res)) A 2 (PicX Ω ad A σ) 25 [(0, .int v0), (1, .int v1)] [] := by
  unfold f_X6_goesOn_25 at h
  refine tv_iload_n X dX6_goesOn_25 rfl 0 rfl ?_
  refine tv_iconst X 2 dX6_goesOn_26 (by decide) ?_
  refine tv_icmp_ne X 41 dX6_goesOn_27 (by decide) h (fun h => ?_) (fun h => ?_)
  · refine tv_iconst X 0 dX6_goesOn_41 (by decide) ?_
    exact tv_zret X dX6_goesOn_42 (Or.inl rfl) h
  · refine tv_iload_n X dX6_goesOn_30 rfl 1 rfl ?_
    obtain ⟨s5, x6, hs5, h⟩ := cl_some h
    refine tv_callSi (st := []) X (c_X6_isDigit Γ.2.1 Ω ad A σ v1 hs5) ⟨gw_2_128, gw_2_126, gw_1_4, q_X6_isDigit, rfl, rfl, ⟨Nat.le_of_ble_eq_true rfl, Nat.le_of_ble_eq_true rfl⟩⟩ gw_2_127 rfl rfl (Nat.le_of_ble_eq_true rfl) dX6_goesOn_31 ?_
    refine tv_if_eq X 41 dX6_goesOn_34 (by decide) h (fun h => ?_) (fun h => ?_)
    · refine tv_iconst X 0 dX6_goesOn_41 (by decide) ?_
      exact tv_zret X dX6_goesOn_42 (Or.inl rfl) h
    · refine V.pick [] rfl ?_
      exact hk37 s5 h
set_option maxHeartbeats 4000000 in
set_option maxRecDepth 100000 in
theorem l_X6_goesOn_37 {Γ : Cx} {Ω : Wd} {ad : Nat → Nat → Nat} {A : Nat → Prop} {res : St × Int32} (X : Fx Γ Ω A cX6_goesOn 2 "MappingTexts$Tokens" rm_X6_goesOn (some .boolean)) (σ : St) (h : f_X6_goesOn_37 σ = some res) : V Γ (0, 0) (Qe Γ (0, 0) A (Qci (PicX Ω ad A) A res)) A 2 (PicX Ω ad A σ) 37 [] [] := by
  unfold f_X6_goesOn_37 at h
  refine tv_iconst X 1 dX6_goesOn_37 (by decide) ?_
  refine tv_goto X 42 dX6_goesOn_38 (by decide) ?_
  exact tv_zret X dX6_goesOn_42 (Or.inr rfl) h
set_option maxHeartbeats 4000000 in
set_option maxRecDepth 100000 in
theorem c_X6_goesOn (l : Launch) (Ω : Wd) (ad : Nat → Nat → Nat) (A : Nat → Prop) (σ : St) (a1 : Int32) (a2 : Int32) {res : St × Int32} (h : f_X6_goesOn σ a1 a2 = some res) : Met l yX6_goesOn (wsO yX6_goesOn cX6_goesOn 2 (some .boolean)) rm_X6_goesOn (PcZ Ω A (PicX Ω ad A σ) [.int a1, .int a2]) (Qci (PicX Ω ad A) A res) 0 0 A := by
  refine Met.ofV (by decide) rfl (fun Γ hΓ X => ?_)
  have X : Fx Γ Ω A cX6_goesOn 2 "MappingTexts$Tokens" rm_X6_goesOn (some .boolean) := X
  unfold f_X6_goesOn at h
  show V Γ (0, 0) _ A 2 _ 0 [(0, .int a1), (1, .int a2)] []
  refine tv_iload_n X dX6_goesOn_0 rfl 0 rfl ?_
  refine tv_iconst X 1 dX6_goesOn_1 (by decide) ?_
  refine tv_icmp_ne X 25 dX6_goesOn_2 (by decide) h (fun h => ?_) (fun h => ?_)
  · exact l_X6_goesOn_25 X (l_X6_goesOn_37 X) σ a1 a2 h
  · refine tv_iload_n X dX6_goesOn_5 rfl 1 rfl ?_
    obtain ⟨s1, x2, hs1, h⟩ := cl_some h
    refine tv_callSi (st := []) X (c_X6_isSmall Γ.2.1 Ω ad A σ a2 hs1) ⟨gw_2_125, gw_2_123, gw_1_4, q_X6_isSmall, rfl, rfl, ⟨Nat.le_of_ble_eq_true rfl, Nat.le_of_ble_eq_true rfl⟩⟩ gw_2_124 rfl rfl (Nat.le_of_ble_eq_true rfl) dX6_goesOn_6 ?_
    refine tv_if_ne X 37 dX6_goesOn_9 (by decide) h (fun h => ?_) (fun h => ?_)
    · refine V.pick [] rfl ?_
      exact l_X6_goesOn_37 X s1 h
    · refine tv_iload_n X dX6_goesOn_12 rfl 1 rfl ?_
      obtain ⟨s3, x4, hs3, h⟩ := cl_some h
      refine tv_callSi (st := []) X (c_X6_isDigit Γ.2.1 Ω ad A s1 a2 hs3) ⟨gw_2_128, gw_2_126, gw_1_4, q_X6_isDigit, rfl, rfl, ⟨Nat.le_of_ble_eq_true rfl, Nat.le_of_ble_eq_true rfl⟩⟩ gw_2_127 rfl rfl (Nat.le_of_ble_eq_true rfl) dX6_goesOn_13 ?_
      refine tv_if_ne X 37 dX6_goesOn_16 (by decide) h (fun h => ?_) (fun h => ?_)
      · refine V.pick [] rfl ?_
        exact l_X6_goesOn_37 X s3 h
      · refine tv_iload_n X dX6_goesOn_19 rfl 1 rfl ?_
        refine tv_bipush X 95 dX6_goesOn_20 (by decide) ?_
        refine tv_icmp_eq X 37 dX6_goesOn_22 (by decide) h (fun h => ?_) (fun h => ?_)
        · refine V.pick [] rfl ?_
          exact l_X6_goesOn_37 X s3 h
        · exact l_X6_goesOn_25 X (l_X6_goesOn_37 X) s3 a1 a2 h
set_option maxHeartbeats 4000000 in
set_option maxRecDepth 100000 in
theorem c_X6_kindBegunBy (l : Launch) (Ω : Wd) (ad : Nat → Nat → Nat) (A : Nat → Prop) (σ : St) (a1 : Int32) {res : St × Int32} (h : f_X6_kindBegunBy σ a1 = some res) : Met l yX6_kindBegunBy (wsO yX6_kindBegunBy cX6_kindBegunBy 1 (some .int)) rm_X6_kindBegunBy (PcZ Ω A (PicX Ω ad A σ) [.int a1]) (Qci (PicX Ω ad A) A res) 0 0 A := by
  refine Met.ofV (by decide) rfl (fun Γ hΓ X => ?_)
  have X : Fx Γ Ω A cX6_kindBegunBy 1 "MappingTexts$Tokens" rm_X6_kindBegunBy (some .int) := X
  unfold f_X6_kindBegunBy at h
  show V Γ (0, 0) _ A 1 _ 0 [(0, .int a1)] []
  refine tv_iload_n X dX6_kindBegunBy_0 rfl 0 rfl ?_
  obtain ⟨s1, x2, hs1, h⟩ := cl_some h
  refine tv_callSi (st := []) X (c_X6_isSmall Γ.2.1 Ω ad A σ a1 hs1) ⟨gw_2_125, gw_2_123, gw_1_4, q_X6_isSmall, rfl, rfl, ⟨Nat.le_of_ble_eq_true rfl, Nat.le_of_ble_eq_true rfl⟩⟩ gw_2_124 rfl rfl (Nat.le_of_ble_eq_true rfl) dX6_kindBegunBy_1 ?_
  refine tv_if_eq X 9 dX6_kindBegunBy_4 (by decide) h (fun h => ?_) (fun h => ?_)
  · refine tv_iload_n X dX6_kindBegunBy_9 rfl 0 rfl ?_
    obtain ⟨s3, x4, hs3, h⟩ := cl_some h
    refine tv_callSi (st := []) X (c_X6_isDigit Γ.2.1 Ω ad A s1 a1 hs3) ⟨gw_2_128, gw_2_126, gw_1_4, q_X6_isDigit, rfl, rfl, ⟨Nat.le_of_ble_eq_true rfl, Nat.le_of_ble_eq_true rfl⟩⟩ gw_2_127 rfl rfl (Nat.le_of_ble_eq_true rfl) dX6_kindBegunBy_10 ?_
    refine tv_if_eq X 18 dX6_kindBegunBy_13 (by decide) h (fun h => ?_) (fun h => ?_)
    · refine tv_iload_n X dX6_kindBegunBy_18 rfl 0 rfl ?_
      refine tv_nm h (fun x5 h => ?_)
      by_cases c19_40 : x5 = 40
      · rw [if_pos c19_40] at h
        refine tv_lookup (off := 89) 108 X dX6_kindBegunBy_19 (by decide) (by rw [c19_40]; decide) (by decide) ?_
        refine tv_iload_n X dX6_kindBegunBy_108 rfl 0 rfl ?_
        exact tv_iret X dX6_kindBegunBy_109 h
      rw [if_neg c19_40] at h
      by_cases c19_41 : x5 = 41
      · rw [if_pos c19_41] at h
        refine tv_lookup (off := 89) 108 X dX6_kindBegunBy_19 (by decide) (by rw [c19_41]; decide) (by decide) ?_
        refine tv_iload_n X dX6_kindBegunBy_108 rfl 0 rfl ?_
        exact tv_iret X dX6_kindBegunBy_109 h
      rw [if_neg c19_41] at h
      by_cases c19_42 : x5 = 42
      · rw [if_pos c19_42] at h
        refine tv_lookup (off := 89) 108 X dX6_kindBegunBy_19 (by decide) (by rw [c19_42]; decide) (by decide) ?_
        refine tv_iload_n X dX6_kindBegunBy_108 rfl 0 rfl ?_
        exact tv_iret X dX6_kindBegunBy_109 h
      rw [if_neg c19_42] at h
      by_cases c19_44 : x5 = 44
      · rw [if_pos c19_44] at h
        refine tv_lookup (off := 89) 108 X dX6_kindBegunBy_19 (by decide) (by rw [c19_44]; decide) (by decide) ?_
        refine tv_iload_n X dX6_kindBegunBy_108 rfl 0 rfl ?_
        exact tv_iret X dX6_kindBegunBy_109 h
      rw [if_neg c19_44] at h
      by_cases c19_46 : x5 = 46
      · rw [if_pos c19_46] at h
        refine tv_lookup (off := 89) 108 X dX6_kindBegunBy_19 (by decide) (by rw [c19_46]; decide) (by decide) ?_
        refine tv_iload_n X dX6_kindBegunBy_108 rfl 0 rfl ?_
        exact tv_iret X dX6_kindBegunBy_109 h
      rw [if_neg c19_46] at h
      by_cases c19_58 : x5 = 58
      · rw [if_pos c19_58] at h
        refine tv_lookup (off := 89) 108 X dX6_kindBegunBy_19 (by decide) (by rw [c19_58]; decide) (by decide) ?_
        refine tv_iload_n X dX6_kindBegunBy_108 rfl 0 rfl ?_
        exact tv_iret X dX6_kindBegunBy_109 h
      rw [if_neg c19_58] at h
      by_cases c19_59 : x5 = 59
      · rw [if_pos c19_59] at h
        refine tv_lookup (off := 89) 108 X dX6_kindBegunBy_19 (by decide) (by rw [c19_59]; decide) (by decide) ?_
        refine tv_iload_n X dX6_kindBegunBy_108 rfl 0 rfl ?_
        exact tv_iret X dX6_kindBegunBy_109 h
      rw [if_neg c19_59] at h
      by_cases c19_61 : x5 = 61
      · rw [if_pos c19_61] at h
        refine tv_lookup (off := 89) 108 X dX6_kindBegunBy_19 (by decide) (by rw [c19_61]; decide) (by decide) ?_
        refine tv_iload_n X dX6_kindBegunBy_108 rfl 0 rfl ?_
        exact tv_iret X dX6_kindBegunBy_109 h
      rw [if_neg c19_61] at h
      by_cases c19_123 : x5 = 123
      · rw [if_pos c19_123] at h
        refine tv_lookup (off := 89) 108 X dX6_kindBegunBy_19 (by decide) (by rw [c19_123]; decide) (by decide) ?_
        refine tv_iload_n X dX6_kindBegunBy_108 rfl 0 rfl ?_
        exact tv_iret X dX6_kindBegunBy_109 h
      rw [if_neg c19_123] at h
      by_cases c19_125 : x5 = 125
      · rw [if_pos c19_125] at h
        refine tv_lookup (off := 89) 108 X dX6_kindBegunBy_19 (by decide) (by rw [c19_125]; decide) (by decide) ?_
        refine tv_iload_n X dX6_kindBegunBy_108 rfl 0 rfl ?_
        exact tv_iret X dX6_kindBegunBy_109 h
      rw [if_neg c19_125] at h
      refine tv_lookup (off := 91) 110 X dX6_kindBegunBy_19 (by decide) (by show Op.lookupswitch.offset [(40, 89), (41, 89), (42, 89), (44, 89), (46, 89), (58, 89), (59, 89), (61, 89), (123, 89), (125, 89)] 91 _ = _; rw [lv_osw c19_40 (by decide), lv_osw c19_41 (by decide), lv_osw c19_42 (by decide), lv_osw c19_44 (by decide), lv_osw c19_46 (by decide), lv_osw c19_58 (by decide), lv_osw c19_59 (by decide), lv_osw c19_61 (by decide), lv_osw c19_123 (by decide), lv_osw c19_125 (by decide)]; rfl) (by decide) ?_
      refine tv_iconst X 0 dX6_kindBegunBy_110 (by decide) ?_
      exact tv_iret X dX6_kindBegunBy_111 h
    · refine tv_iconst X 2 dX6_kindBegunBy_16 (by decide) ?_
      exact tv_iret X dX6_kindBegunBy_17 h
  · refine tv_iconst X 1 dX6_kindBegunBy_7 (by decide) ?_
    exact tv_iret X dX6_kindBegunBy_8 h
set_option maxHeartbeats 4000000 in
set_option maxRecDepth 100000 in
theorem l_X6_lengthenLast_48 {Γ : Cx} {Ω : Wd} {ad : Nat → Nat → Nat} {A : Nat → Prop} {res : St × Int32} (X : Fx Γ Ω A cX6_lengthenLast 2 "MappingTexts$Tokens" rm_X6_lengthenLast (some .boolean)) (σ : St) (t0 : Int32) (t1 : Int32) (h : f_X6_lengthenLast_48 σ t0 t1 = some res) : V Γ (0, 0) (Qe Γ (0, 0) A (Qci (PicX Ω ad A) A res)) A 2 (PicX Ω ad A σ) 48 [] [.int t1, .int t0] := by
  unfold f_X6_lengthenLast_48 at h
  refine tv_icmp_gt X 55 dX6_lengthenLast_48 (by decide) h (fun h => ?_) (fun h => ?_)
  · refine tv_iconst X 0 dX6_lengthenLast_55 (by decide) ?_
    exact tv_zret X dX6_lengthenLast_56 (Or.inl rfl) h
  · refine tv_iconst X 1 dX6_lengthenLast_51 (by decide) ?_
    refine tv_goto X 56 dX6_lengthenLast_52 (by decide) ?_
    exact tv_zret X dX6_lengthenLast_56 (Or.inr rfl) h
set_option maxHeartbeats 4000000 in
set_option maxRecDepth 100000 in
theorem c_X6_lengthenLast (l : Launch) (Ω : Wd) (ad : Nat → Nat → Nat) (A : Nat → Prop) (σ : St) (a1 : Int32) {res : St × Int32} (h : f_X6_lengthenLast σ a1 = some res) : Met l yX6_lengthenLast (wsO yX6_lengthenLast cX6_lengthenLast 2 (some .boolean)) rm_X6_lengthenLast (PcZ Ω A (PicX Ω ad A σ) [.ref (ad 9 0), .int a1]) (Qci (PicX Ω ad A) A res) 0 0 A := by
  refine Met.ofV (by decide) rfl (fun Γ hΓ X => ?_)
  have X : Fx Γ Ω A cX6_lengthenLast 2 "MappingTexts$Tokens" rm_X6_lengthenLast (some .boolean) := X
  unfold f_X6_lengthenLast at h
  show V Γ (0, 0) _ A 2 _ 0 [(0, .ref (ad 9 0)), (1, .int a1)] []
  refine tv_aload_n X dX6_lengthenLast_0 rfl 0 rfl ?_
  refine gX5_4 X (by omega) gw_1_55 dX6_lengthenLast_1 ?_
  refine tv_iconst X 1 dX6_lengthenLast_4 (by decide) ?_
  refine tv_icmp_ge X 10 dX6_lengthenLast_5 (by decide) h (fun h => ?_) (fun h => ?_)
  · refine tv_aload_n X dX6_lengthenLast_10 rfl 0 rfl ?_
    refine gX5_3 X (by omega) gw_1_54 dX6_lengthenLast_11 ?_
    refine tv_aload_n X dX6_lengthenLast_14 rfl 0 rfl ?_
    refine gX5_4 X (by omega) gw_1_55 dX6_lengthenLast_15 ?_
    refine tv_iconst X 1 dX6_lengthenLast_18 (by decide) ?_
    refine tv_isub X dX6_lengthenLast_19 ?_
    refine tv_dup2 X dX6_lengthenLast_20 rfl rfl ?_
    refine iaX X (by omega) dX6_lengthenLast_21 h (fun j1 hj1 h => ?_)
    refine tv_iconst X 1 dX6_lengthenLast_22 (by decide) ?_
    refine tv_iadd X dX6_lengthenLast_23 ?_
    refine isX X (by omega) dX6_lengthenLast_24 h (fun j2 hj2 h => ?_)
    refine tv_ns h (fun s3 h => ?_)
    refine tv_aload_n X dX6_lengthenLast_25 rfl 0 rfl ?_
    refine gX5_3 X (by omega) gw_1_54 dX6_lengthenLast_26 ?_
    refine tv_aload_n X dX6_lengthenLast_29 rfl 0 rfl ?_
    refine gX5_4 X (by omega) gw_1_55 dX6_lengthenLast_30 ?_
    refine tv_iconst X 1 dX6_lengthenLast_33 (by decide) ?_
    refine tv_isub X dX6_lengthenLast_34 ?_
    refine iaX X (by omega) dX6_lengthenLast_35 h (fun j4 hj4 h => ?_)
    refine tv_iload_n X dX6_lengthenLast_36 rfl 1 rfl ?_
    refine tv_iconst X 1 dX6_lengthenLast_37 (by decide) ?_
    refine tv_icmp_ne X 46 dX6_lengthenLast_38 (by decide) h (fun h => ?_) (fun h => ?_)
    · refine tv_bipush X 6 dX6_lengthenLast_46 (by decide) ?_
      refine V.pick [] rfl ?_
      exact l_X6_lengthenLast_48 X s3 (ga s3 8 10 j4) 6 h
    · refine tv_bipush X 12 dX6_lengthenLast_41 (by decide) ?_
      refine tv_goto X 48 dX6_lengthenLast_43 (by decide) ?_
      refine V.pick [] rfl ?_
      exact l_X6_lengthenLast_48 X s3 (ga s3 8 10 j4) 12 h
  · refine tv_iconst X 0 dX6_lengthenLast_8 (by decide) ?_
    exact tv_zret X dX6_lengthenLast_9 (Or.inl rfl) h
set_option maxHeartbeats 4000000 in
set_option maxRecDepth 100000 in
theorem l_X6_readAll_68 {Γ : Cx} {Ω : Wd} {ad : Nat → Nat → Nat} {A : Nat → Prop} {res : St × Int32} (X : Fx Γ Ω A cX6_readAll 4 "MappingTexts$Tokens" rm_X6_readAll (some .int)) {k90 : St → Int32 → Int32 → Option (St × Int32)} (hk90 : ∀ (σ : St) (v1 : Int32) (v2 : Int32), k90 σ v1 v2 = some res → V Γ (0, 0) (Qe Γ (0, 0) A (Qci (PicX Ω ad A) A res)) A 4 (PicX Ω ad A σ) 90 [(0, .ref (ad 9 0)), (1, .int v1), (2, .int v2)] []) (σ : St) (v2 : Int32) (h : f_X6_readAll_68 k90 σ v2 = some res) : V Γ (0, 0) (Qe Γ (0, 0) A (Qci (PicX Ω ad A) A res)) A 4 (PicX Ω ad A σ) 68 [(0, .ref (ad 9 0)), (2, .int v2)] [] := by
  unfold f_X6_readAll_68 at h
  refine tv_iconst X 0 dX6_readAll_68 (by decide) ?_
  refine tv_istore_n X dX6_readAll_69 rfl (by decide) [(1, .int 0), (0, .ref (ad 9 0)), (2, .int v2)] rfl ?_
  refine tv_goto X 90 dX6_readAll_70 (by decide) ?_
  refine V.pick [1, 0, 2] rfl ?_
  exact hk90 σ 0 v2 h
set_option maxHeartbeats 4000000 in
set_option maxRecDepth 100000 in
theorem l_X6_readAll_90 {Γ : Cx} {Ω : Wd} {ad : Nat → Nat → Nat} {A : Nat → Prop} {res : St × Int32} (X : Fx Γ Ω A cX6_readAll 4 "MappingTexts$Tokens" rm_X6_readAll (some .int)) {k9 : St → Int32 → Int32 → Option (St × Int32)} (hk9 : ∀ (σ : St) (v1 : Int32) (v2 : Int32), k9 σ v1 v2 = some res → V Γ (0, 0) (Qe Γ (0, 0) A (Qci (PicX Ω ad A) A res)) A 4 (PicX Ω ad A σ) 9 [(0, .ref (ad 9 0)), (1, .int v1), (2, .int v2)] []) (σ : St) (v1 : Int32) (v2 : Int32) (h : f_X6_readAll_90 k9 σ v1 v2 = some res) : V Γ (0, 0) (Qe Γ (0, 0) A (Qci (PicX Ω ad A) A res)) A 4 (PicX Ω ad A σ) 90 [(0, .ref (ad 9 0)), (1, .int v1), (2, .int v2)] [] := by
  unfold f_X6_readAll_90 at h
  refine tv_iinc X (v2 + 1) dX6_readAll_90 2 rfl rfl (by decide) [(2, .int (v2 + 1)), (0, .ref (ad 9 0)), (1, .int v1)] rfl ?_
  refine tv_goto X 9 dX6_readAll_93 (by decide) ?_
  refine V.pick [1, 2, 0] rfl ?_
  exact hk9 σ v1 (v2 + 1) h
set_option maxHeartbeats 4000000 in
set_option maxRecDepth 100000 in
theorem l_X6_readAll_9 {Γ : Cx} {Ω : Wd} {ad : Nat → Nat → Nat} {A : Nat → Prop} {res : St × Int32} (X : Fx Γ Ω A cX6_readAll 4 "MappingTexts$Tokens" rm_X6_readAll (some .int)) : ∀ (n : Nat) (σ : St) (v1 : Int32) (v2 : Int32), f_X6_readAll_9 n σ v1 v2 = some res → V Γ (0, 0) (Qe Γ (0, 0) A (Qci (PicX Ω ad A) A res)) A 4 (PicX Ω ad A σ) 9 [(0, .ref (ad 9 0)), (1, .int v1), (2, .int v2)] [] := by
  intro n
  induction n with
  | zero =>
    intro σ v1 v2 h
    cases (show none = some res from h)
  | succ n ih =>
    intro σ v1 v2 h
    rw [f_X6_readAll_9] at h
    refine tv_iload_n X dX6_readAll_9 rfl 2 rfl ?_
    refine tv_aload_n X dX6_readAll_10 rfl 0 rfl ?_
    refine gX5_0 X (by omega) gw_1_51 dX6_readAll_11 ?_
    obtain ⟨s2, x3, hs2, h⟩ := cl_some h
    refine tv_callVi (st := [.int v2]) X (c_X3_length Γ.2.1 Ω ad A σ 0 (by omega) hs2) ⟨gw_2_90, gw_2_115, gw_1_2, q_X3_length, rfl, rfl, ⟨Nat.le_of_ble_eq_true rfl, Nat.le_of_ble_eq_true rfl⟩⟩ gw_2_88 gw_2_89 (fun H _ hz _ => PP.recv (f := 1) (i := 0) X.2.1 hz.1 (show 0 < 773 by omega) rfl rfl) rfl rfl (Nat.le_of_ble_eq_true rfl) dX6_readAll_14 ?_
    refine tv_icmp_ge X 96 dX6_readAll_17 (by decide) h (fun h => ?_) (fun h => ?_)
    · refine tv_iconst X (-1) dX6_readAll_96 (by decide) ?_
      exact tv_iret X dX6_readAll_97 h
    · refine tv_aload_n X dX6_readAll_20 rfl 0 rfl ?_
      refine gX5_0 X (by omega) gw_1_51 dX6_readAll_21 ?_
      refine tv_iload_n X dX6_readAll_24 rfl 2 rfl ?_
      obtain ⟨s4, x5, hs4, h⟩ := cl_some h
      refine tv_callVi (st := []) X (c_X3_at Γ.2.1 Ω ad A s2 0 v2 (by omega) hs4) ⟨gw_2_119, gw_2_116, gw_1_2, q_X3_at, rfl, rfl, ⟨Nat.le_of_ble_eq_true rfl, Nat.le_of_ble_eq_true rfl⟩⟩ gw_2_117 gw_2_118 (fun H _ hz _ => PP.recv (f := 1) (i := 0) X.2.1 hz.1 (show 0 < 773 by omega) rfl rfl) rfl rfl (Nat.le_of_ble_eq_true rfl) dX6_readAll_25 ?_
      refine tv_istore_n X dX6_readAll_28 rfl (by decide) [(3, .int x5), (0, .ref (ad 9 0)), (1, .int v1), (2, .int v2)] rfl ?_
      refine tv_iload_n X dX6_readAll_29 rfl 2 rfl ?_
      refine tv_iload_n X dX6_readAll_30 rfl 0 rfl ?_
      obtain ⟨s6, x7, hs6, h⟩ := cl_some h
      refine tv_callSi (st := []) X (c_X6_goesOn Γ.2.1 Ω ad A s4 v1 x5 hs6) ⟨gw_2_122, gw_2_120, gw_1_4, q_X6_goesOn, rfl, rfl, ⟨Nat.le_of_ble_eq_true rfl, Nat.le_of_ble_eq_true rfl⟩⟩ gw_2_121 rfl rfl (Nat.le_of_ble_eq_true rfl) dX6_readAll_31 ?_
      refine tv_if_eq X 56 dX6_readAll_34 (by decide) h (fun h => ?_) (fun h => ?_)
      · refine tv_iload_n X dX6_readAll_56 rfl 0 rfl ?_
        refine tv_bipush X 32 dX6_readAll_57 (by decide) ?_
        refine tv_icmp_eq X 68 dX6_readAll_59 (by decide) h (fun h => ?_) (fun h => ?_)
        · refine V.pick [1, 3] rfl ?_
          exact l_X6_readAll_68 X (l_X6_readAll_90 X ih) s6 v2 h
        · refine tv_iload_n X dX6_readAll_62 rfl 0 rfl ?_
          refine tv_bipush X 10 dX6_readAll_63 (by decide) ?_
          refine tv_icmp_ne X 73 dX6_readAll_65 (by decide) h (fun h => ?_) (fun h => ?_)
          · refine tv_iload_n X dX6_readAll_73 rfl 0 rfl ?_
            obtain ⟨s8, x9, hs8, h⟩ := cl_some h
            refine tv_callSi (st := []) X (c_X6_kindBegunBy Γ.2.1 Ω ad A s6 x5 hs8) ⟨gw_2_139, gw_2_137, gw_1_4, q_X6_kindBegunBy, rfl, rfl, ⟨Nat.le_of_ble_eq_true rfl, Nat.le_of_ble_eq_true rfl⟩⟩ gw_2_138 rfl rfl (Nat.le_of_ble_eq_true rfl) dX6_readAll_74 ?_
            refine tv_istore_n X dX6_readAll_77 rfl (by decide) [(1, .int x9), (3, .int x5), (0, .ref (ad 9 0)), (2, .int v2)] rfl ?_
            refine tv_iload_n X dX6_readAll_78 rfl 0 rfl ?_
            refine tv_if_ne X 84 dX6_readAll_79 (by decide) h (fun h => ?_) (fun h => ?_)
            · refine tv_aload_n X dX6_readAll_84 rfl 2 rfl ?_
              refine tv_iload_n X dX6_readAll_85 rfl 0 rfl ?_
              refine tv_iload_n X dX6_readAll_86 rfl 3 rfl ?_
              obtain ⟨s10, _u87, hs10, h⟩ := cl_some h
              refine tv_callVv (st := []) X (c_X6_begin Γ.2.1 Ω ad A s8 x9 v2 hs10) ⟨gw_2_143, gw_2_140, gw_1_4, q_X6_begin, rfl, rfl, ⟨Nat.le_of_ble_eq_true rfl, Nat.le_of_ble_eq_true rfl⟩⟩ gw_2_142 gw_p_2 (fun H _ hz _ => PP.recv (f := 9) (i := 0) X.2.1 hz.1 (show 0 < 1 by omega) rfl rfl) rfl rfl (Nat.le_of_ble_eq_true rfl) dX6_readAll_87 ?_
              refine V.pick [2, 0, 3] rfl ?_
              exact l_X6_readAll_90 X ih s10 x9 v2 h
            · refine tv_iload_n X dX6_readAll_82 rfl 3 rfl ?_
              exact tv_iret X dX6_readAll_83 h
          · refine V.pick [1, 3] rfl ?_
            exact l_X6_readAll_68 X (l_X6_readAll_90 X ih) s6 v2 h
      · refine tv_aload_n X dX6_readAll_37 rfl 1 rfl ?_
        refine tv_iload_n X dX6_readAll_38 rfl 2 rfl ?_
        obtain ⟨s11, x12, hs11, h⟩ := cl_some h
        refine tv_callVi (st := []) X (c_X6_lengthenLast Γ.2.1 Ω ad A s6 v1 hs11) ⟨gw_2_132, gw_2_129, gw_1_4, q_X6_lengthenLast, rfl, rfl, ⟨Nat.le_of_ble_eq_true rfl, Nat.le_of_ble_eq_true rfl⟩⟩ gw_2_131 gw_p_1 (fun H _ hz _ => PP.recv (f := 9) (i := 0) X.2.1 hz.1 (show 0 < 1 by omega) rfl rfl) rfl rfl (Nat.le_of_ble_eq_true rfl) dX6_readAll_39 ?_
        refine tv_if_ne X 90 dX6_readAll_42 (by decide) h (fun h => ?_) (fun h => ?_)
        · refine V.pick [1, 2, 3] rfl ?_
          exact l_X6_readAll_90 X ih s11 v1 v2 h
        · refine tv_aload_n X dX6_readAll_45 rfl 1 rfl ?_
          refine tv_aload_n X dX6_readAll_46 rfl 1 rfl ?_
          refine gX5_4 X (by omega) gw_1_55 dX6_readAll_47 ?_
          refine tv_iconst X 1 dX6_readAll_50 (by decide) ?_
          refine tv_isub X dX6_readAll_51 ?_
          obtain ⟨s13, x14, hs13, h⟩ := cl_some h
          refine tv_callVi (st := []) X (c_X6_placeAt Γ.2.1 Ω ad A s11 ((gi s11 504 0) - 1) hs13) ⟨gw_2_136, gw_2_133, gw_1_4, q_X6_placeAt, rfl, rfl, ⟨Nat.le_of_ble_eq_true rfl, Nat.le_of_ble_eq_true rfl⟩⟩ gw_2_134 gw_2_135 (fun H _ hz _ => PP.recv (f := 9) (i := 0) X.2.1 hz.1 (show 0 < 1 by omega) rfl rfl) rfl rfl (Nat.le_of_ble_eq_true rfl) dX6_readAll_52 ?_
          exact tv_iret X dX6_readAll_55 h
set_option maxHeartbeats 4000000 in
set_option maxRecDepth 100000 in
theorem c_X6_readAll (l : Launch) (Ω : Wd) (ad : Nat → Nat → Nat) (A : Nat → Prop) (σ : St) {res : St × Int32} (h : f_X6_readAll σ = some res) : Met l yX6_readAll (wsO yX6_readAll cX6_readAll 4 (some .int)) rm_X6_readAll (PcZ Ω A (PicX Ω ad A σ) [.ref (ad 9 0)]) (Qci (PicX Ω ad A) A res) 0 0 A := by
  refine Met.ofV (by decide) rfl (fun Γ hΓ X => ?_)
  have X : Fx Γ Ω A cX6_readAll 4 "MappingTexts$Tokens" rm_X6_readAll (some .int) := X
  unfold f_X6_readAll at h
  show V Γ (0, 0) _ A 4 _ 0 [(0, .ref (ad 9 0))] []
  refine tv_aload_n X dX6_readAll_0 rfl 0 rfl ?_
  refine tv_iconst X 0 dX6_readAll_1 (by decide) ?_
  refine pX5_4 X (by omega) gw_1_55 dX6_readAll_2 ?_
  refine tv_ns h (fun s1 h => ?_)
  refine tv_iconst X 0 dX6_readAll_5 (by decide) ?_
  refine tv_istore_n X dX6_readAll_6 rfl (by decide) [(1, .int 0), (0, .ref (ad 9 0))] rfl ?_
  refine tv_iconst X 0 dX6_readAll_7 (by decide) ?_
  refine tv_istore_n X dX6_readAll_8 rfl (by decide) [(2, .int 0), (1, .int 0), (0, .ref (ad 9 0))] rfl ?_
  refine V.pick [2, 1, 0] rfl ?_
  exact l_X6_readAll_9 X fl s1 0 0 h
set_option maxHeartbeats 4000000 in
set_option maxRecDepth 100000 in
theorem c_X6_textLength (l : Launch) (Ω : Wd) (ad : Nat → Nat → Nat) (A : Nat → Prop) (σ : St) {res : St × Int32} (h : f_X6_textLength σ = some res) : Met l yX6_textLength (wsO yX6_textLength cX6_textLength 1 (some .int)) rm_X6_textLength (PcZ Ω A (PicX Ω ad A σ) [.ref (ad 9 0)]) (Qci (PicX Ω ad A) A res) 0 0 A := by
  refine Met.ofV (by decide) rfl (fun Γ hΓ X => ?_)
  have X : Fx Γ Ω A cX6_textLength 1 "MappingTexts$Tokens" rm_X6_textLength (some .int) := X
  unfold f_X6_textLength at h
  show V Γ (0, 0) _ A 1 _ 0 [(0, .ref (ad 9 0))] []
  refine tv_aload_n X dX6_textLength_0 rfl 0 rfl ?_
  refine gX5_0 X (by omega) gw_1_51 dX6_textLength_1 ?_
  obtain ⟨s1, x2, hs1, h⟩ := cl_some h
  refine tv_callVi (st := []) X (c_X3_length Γ.2.1 Ω ad A σ 0 (by omega) hs1) ⟨gw_2_90, gw_2_115, gw_1_2, q_X3_length, rfl, rfl, ⟨Nat.le_of_ble_eq_true rfl, Nat.le_of_ble_eq_true rfl⟩⟩ gw_2_88 gw_2_89 (fun H _ hz _ => PP.recv (f := 1) (i := 0) X.2.1 hz.1 (show 0 < 773 by omega) rfl rfl) rfl rfl (Nat.le_of_ble_eq_true rfl) dX6_textLength_4 ?_
  exact tv_iret X dX6_textLength_7 h
set_option maxHeartbeats 4000000 in
set_option maxRecDepth 100000 in
theorem l_X5_readInto_85 {Γ : Cx} {Ω : Wd} {ad : Nat → Nat → Nat} {A : Nat → Prop} {res : St × Int32} (X : Fx Γ Ω A cX5_readInto 5 "MappingTexts$TextReader" rm_X5_readInto (some .int)) (σ : St) (h : f_X5_readInto_85 σ = some res) : V Γ (0, 0) (Qe Γ (0, 0) A (Qci (PicX Ω ad A) A res)) A 5 (PicX Ω ad A σ) 85 [(0, .ref (ad 10 0))] [] := by
  unfold f_X5_readInto_85 at h
  refine tv_aload_n X dX5_readInto_85 rfl 0 rfl ?_
  refine tv_iconst X 2 dX5_readInto_86 (by decide) ?_
  refine tv_aload_n X dX5_readInto_87 rfl 0 rfl ?_
  refine gX4_0 X (by omega) gw_1_232 dX5_readInto_88 ?_
  obtain ⟨s17, x18, hs17, h⟩ := cl_some h
  refine tv_callVi (st := [.int 2, .ref (ad 10 0)]) X (c_X6_textLength Γ.2.1 Ω ad A σ hs17) ⟨gw_3_163, gw_3_160, gw_1_4, q_X6_textLength, rfl, rfl, ⟨Nat.le_of_ble_eq_true rfl, Nat.le_of_ble_eq_true rfl⟩⟩ gw_3_161 gw_3_162 (fun H _ hz _ => PP.recv (f := 9) (i := 0) X.2.1 hz.1 (show 0 < 1 by omega) rfl rfl) rfl rfl (Nat.le_of_ble_eq_true rfl) dX5_readInto_91 ?_
  obtain ⟨s19, x20, hs19, h⟩ := cl_some h
  refine tv_callVi (st := []) X (c_X5_stop Γ.2.1 Ω ad A s17 2 x18 hs19) ⟨gw_2_147, gw_2_144, gw_1_9, q_X5_stop, rfl, rfl, ⟨Nat.le_of_ble_eq_true rfl, Nat.le_of_ble_eq_true rfl⟩⟩ gw_2_146 gw_p_3 (fun H _ hz _ => PP.recv (f := 10) (i := 0) X.2.1 hz.1 (show 0 < 1 by omega) rfl rfl) rfl rfl (Nat.le_of_ble_eq_true rfl) dX5_readInto_94 ?_
  exact tv_iret X dX5_readInto_97 h
set_option maxHeartbeats 4000000 in
set_option maxRecDepth 100000 in
theorem l_X5_readInto_27 {Γ : Cx} {Ω : Wd} {ad : Nat → Nat → Nat} {A : Nat → Prop} {res : St × Int32} (X : Fx Γ Ω A cX5_readInto 5 "MappingTexts$TextReader" rm_X5_readInto (some .int)) : ∀ (n : Nat) (σ : St) (v3 : Int32), f_X5_readInto_27 n σ v3 = some res → V Γ (0, 0) (Qe Γ (0, 0) A (Qci (PicX Ω ad A) A res)) A 5 (PicX Ω ad A σ) 27 [(0, .ref (ad 10 0)), (3, .int v3)] [] := by
  intro n
  induction n with
  | zero =>
    intro σ v3 h
    cases (show none = some res from h)
  | succ n ih =>
    intro σ v3 h
    rw [f_X5_readInto_27] at h
    refine tv_iload_n X dX5_readInto_27 rfl 1 rfl ?_
    refine tv_aload_n X dX5_readInto_28 rfl 0 rfl ?_
    refine gX4_0 X (by omega) gw_1_232 dX5_readInto_29 ?_
    obtain ⟨s6, x7, hs6, h⟩ := cl_some h
    refine tv_callVi (st := [.int v3]) X (c_X6_count Γ.2.1 Ω ad A σ hs6) ⟨gw_2_151, gw_2_148, gw_1_4, q_X6_count, rfl, rfl, ⟨Nat.le_of_ble_eq_true rfl, Nat.le_of_ble_eq_true rfl⟩⟩ gw_2_149 gw_2_150 (fun H _ hz _ => PP.recv (f := 9) (i := 0) X.2.1 hz.1 (show 0 < 1 by omega) rfl rfl) rfl rfl (Nat.le_of_ble_eq_true rfl) dX5_readInto_32 ?_
    refine tv_icmp_ge X 71 dX5_readInto_35 (by decide) h (fun h => ?_) (fun h => ?_)
    · refine tv_aload_n X dX5_readInto_71 rfl 0 rfl ?_
      refine gX4_9 X (by omega) gw_2_1 dX5_readInto_72 ?_
      refine tv_if_ne X 85 dX5_readInto_75 (by decide) h (fun h => ?_) (fun h => ?_)
      · refine V.pick [0] rfl ?_
        exact l_X5_readInto_85 X s6 h
      · refine tv_aload_n X dX5_readInto_78 rfl 0 rfl ?_
        refine gX4_10 X (by omega) gw_2_2 dX5_readInto_79 ?_
        refine tv_if_le X 98 dX5_readInto_82 (by decide) h (fun h => ?_) (fun h => ?_)
        · refine tv_aload_n X dX5_readInto_98 rfl 0 rfl ?_
          obtain ⟨s8, _u99, hs8, h⟩ := cl_some h
          refine tv_callVv (st := []) X (c_X5_lookAtPaths Γ.2.1 Ω ad A s6 hs8) ⟨gw_3_167, gw_3_164, gw_1_9, q_X5_lookAtPaths, rfl, rfl, ⟨Nat.le_of_ble_eq_true rfl, Nat.le_of_ble_eq_true rfl⟩⟩ gw_3_166 gw_p_31 (fun H _ hz _ => PP.recv (f := 10) (i := 0) X.2.1 hz.1 (show 0 < 1 by omega) rfl rfl) rfl rfl (Nat.le_of_ble_eq_true rfl) dX5_readInto_99 ?_
          refine tv_aload_n X dX5_readInto_102 rfl 0 rfl ?_
          obtain ⟨s9, _u103, hs9, h⟩ := cl_some h
          refine tv_callVv (st := []) X (c_X5_lookAtCircles Γ.2.1 Ω ad A s8 hs9) ⟨gw_3_197, gw_3_194, gw_1_9, q_X5_lookAtCircles, rfl, rfl, ⟨Nat.le_of_ble_eq_true rfl, Nat.le_of_ble_eq_true rfl⟩⟩ gw_3_196 gw_p_33 (fun H _ hz _ => PP.recv (f := 10) (i := 0) X.2.1 hz.1 (show 0 < 1 by omega) rfl rfl) rfl rfl (Nat.le_of_ble_eq_true rfl) dX5_readInto_103 ?_
          refine tv_aload_n X dX5_readInto_106 rfl 0 rfl ?_
          obtain ⟨s10, _u107, hs10, h⟩ := cl_some h
          refine tv_callVv (st := []) X (c_X5_lookAtLimit Γ.2.1 Ω ad A s9 hs10) ⟨gw_3_205, gw_3_202, gw_1_9, q_X5_lookAtLimit, rfl, rfl, ⟨Nat.le_of_ble_eq_true rfl, Nat.le_of_ble_eq_true rfl⟩⟩ gw_3_204 gw_p_35 (fun H _ hz _ => PP.recv (f := 10) (i := 0) X.2.1 hz.1 (show 0 < 1 by omega) rfl rfl) rfl rfl (Nat.le_of_ble_eq_true rfl) dX5_readInto_107 ?_
          refine tv_aload_n X dX5_readInto_110 rfl 0 rfl ?_
          refine gX4_15 X (by omega) gw_2_7 dX5_readInto_111 ?_
          exact tv_iret X dX5_readInto_114 h
        · refine V.pick [0] rfl ?_
          exact l_X5_readInto_85 X s6 h
    · refine tv_aload_n X dX5_readInto_38 rfl 0 rfl ?_
      refine tv_iload_n X dX5_readInto_39 rfl 1 rfl ?_
      obtain ⟨s11, x12, hs11, h⟩ := cl_some h
      refine tv_callVi (st := []) X (c_X5_step Γ.2.1 Ω ad A s6 v3 hs11) ⟨gw_2_155, gw_2_152, gw_1_9, q_X5_step, rfl, rfl, ⟨Nat.le_of_ble_eq_true rfl, Nat.le_of_ble_eq_true rfl⟩⟩ gw_2_154 gw_p_4 (fun H _ hz _ => PP.recv (f := 10) (i := 0) X.2.1 hz.1 (show 0 < 1 by omega) rfl rfl) rfl rfl (Nat.le_of_ble_eq_true rfl) dX5_readInto_40 ?_
      refine tv_istore X dX5_readInto_43 (by decide) [(4, .int x12), (0, .ref (ad 10 0)), (3, .int v3)] rfl ?_
      refine tv_iload X dX5_readInto_45 0 rfl ?_
      refine tv_if_eq X 65 dX5_readInto_47 (by decide) h (fun h => ?_) (fun h => ?_)
      · refine tv_iinc X (v3 + 1) dX5_readInto_65 2 rfl rfl (by decide) [(3, .int (v3 + 1)), (4, .int x12), (0, .ref (ad 10 0))] rfl ?_
        refine tv_goto X 27 dX5_readInto_68 (by decide) ?_
        refine V.pick [2, 0] rfl ?_
        exact ih s11 (v3 + 1) h
      · refine tv_aload_n X dX5_readInto_50 rfl 1 rfl ?_
        refine tv_iload X dX5_readInto_51 0 rfl ?_
        refine tv_aload_n X dX5_readInto_53 rfl 1 rfl ?_
        refine gX4_0 X (by omega) gw_1_232 dX5_readInto_54 ?_
        refine tv_iload_n X dX5_readInto_57 rfl 2 rfl ?_
        obtain ⟨s13, x14, hs13, h⟩ := cl_some h
        refine tv_callVi (st := [.int x12, .ref (ad 10 0)]) X (c_X6_placeAt Γ.2.1 Ω ad A s11 v3 hs13) ⟨gw_2_136, gw_3_23, gw_1_4, q_X6_placeAt, rfl, rfl, ⟨Nat.le_of_ble_eq_true rfl, Nat.le_of_ble_eq_true rfl⟩⟩ gw_2_134 gw_2_135 (fun H _ hz _ => PP.recv (f := 9) (i := 0) X.2.1 hz.1 (show 0 < 1 by omega) rfl rfl) rfl rfl (Nat.le_of_ble_eq_true rfl) dX5_readInto_58 ?_
        obtain ⟨s15, x16, hs15, h⟩ := cl_some h
        refine tv_callVi (st := []) X (c_X5_stop Γ.2.1 Ω ad A s13 x12 x14 hs15) ⟨gw_2_147, gw_2_144, gw_1_9, q_X5_stop, rfl, rfl, ⟨Nat.le_of_ble_eq_true rfl, Nat.le_of_ble_eq_true rfl⟩⟩ gw_2_146 gw_p_3 (fun H _ hz _ => PP.recv (f := 10) (i := 0) X.2.1 hz.1 (show 0 < 1 by omega) rfl rfl) rfl rfl (Nat.le_of_ble_eq_true rfl) dX5_readInto_61 ?_
        exact tv_iret X dX5_readInto_64 h
set_option maxHeartbeats 4000000 in
set_option maxRecDepth 100000 in
theorem c_X5_readInto (l : Launch) (Ω : Wd) (ad : Nat → Nat → Nat) (A : Nat → Prop) (σ : St) (a1 : Nat) (ba1 : a1 < 8) {res : St × Int32} (h : f_X5_readInto σ a1 = some res) : Met l yX5_readInto (wsO yX5_readInto cX5_readInto 5 (some .int)) rm_X5_readInto (PcZ Ω A (PicX Ω ad A σ) [.ref (ad 10 0), .ref (ad 3 a1)]) (Qci (PicX Ω ad A) A res) 0 0 A := by
  refine Met.ofV (by decide) rfl (fun Γ hΓ X => ?_)
  have X : Fx Γ Ω A cX5_readInto 5 "MappingTexts$TextReader" rm_X5_readInto (some .int) := X
  unfold f_X5_readInto at h
  show V Γ (0, 0) _ A 5 _ 0 [(0, .ref (ad 10 0)), (1, .ref (ad 3 a1))] []
  refine tv_aload_n X dX5_readInto_0 rfl 0 rfl ?_
  refine tv_aload_n X dX5_readInto_1 rfl 1 rfl ?_
  obtain ⟨s1, _u2, hs1, h⟩ := cl_some h
  refine tv_callVv (st := []) X (c_X5_begin Γ.2.1 Ω ad A σ a1 (by omega) hs1) ⟨gw_2_106, gw_2_103, gw_1_9, q_X5_begin, rfl, rfl, ⟨Nat.le_of_ble_eq_true rfl, Nat.le_of_ble_eq_true rfl⟩⟩ gw_2_105 gw_p_0 (fun H _ hz _ => PP.recv (f := 10) (i := 0) X.2.1 hz.1 (show 0 < 1 by omega) rfl rfl) rfl rfl (Nat.le_of_ble_eq_true rfl) dX5_readInto_2 ?_
  refine tv_aload_n X dX5_readInto_5 rfl 0 rfl ?_
  refine gX4_0 X (by omega) gw_1_232 dX5_readInto_6 ?_
  obtain ⟨s2, x3, hs2, h⟩ := cl_some h
  refine tv_callVi (st := []) X (c_X6_readAll Γ.2.1 Ω ad A s1 hs2) ⟨gw_2_114, gw_2_111, gw_1_4, q_X6_readAll, rfl, rfl, ⟨Nat.le_of_ble_eq_true rfl, Nat.le_of_ble_eq_true rfl⟩⟩ gw_2_112 gw_2_113 (fun H _ hz _ => PP.recv (f := 9) (i := 0) X.2.1 hz.1 (show 0 < 1 by omega) rfl rfl) rfl rfl (Nat.le_of_ble_eq_true rfl) dX5_readInto_9 ?_
  refine tv_istore_n X dX5_readInto_12 rfl (by decide) [(2, .int x3), (0, .ref (ad 10 0)), (1, .ref (ad 3 a1))] rfl ?_
  refine tv_iload_n X dX5_readInto_13 rfl 0 rfl ?_
  refine tv_iconst X (-1) dX5_readInto_14 (by decide) ?_
  refine tv_icmp_eq X 25 dX5_readInto_15 (by decide) h (fun h => ?_) (fun h => ?_)
  · refine tv_iconst X 0 dX5_readInto_25 (by decide) ?_
    refine tv_istore_n X dX5_readInto_26 rfl (by decide) [(3, .int 0), (2, .int x3), (0, .ref (ad 10 0)), (1, .ref (ad 3 a1))] rfl ?_
    refine V.pick [2, 0] rfl ?_
    exact l_X5_readInto_27 X fl s2 0 h
  · refine tv_aload_n X dX5_readInto_18 rfl 1 rfl ?_
    refine tv_iconst X 1 dX5_readInto_19 (by decide) ?_
    refine tv_iload_n X dX5_readInto_20 rfl 0 rfl ?_
    obtain ⟨s4, x5, hs4, h⟩ := cl_some h
    refine tv_callVi (st := []) X (c_X5_stop Γ.2.1 Ω ad A s2 1 x3 hs4) ⟨gw_2_147, gw_2_144, gw_1_9, q_X5_stop, rfl, rfl, ⟨Nat.le_of_ble_eq_true rfl, Nat.le_of_ble_eq_true rfl⟩⟩ gw_2_146 gw_p_3 (fun H _ hz _ => PP.recv (f := 10) (i := 0) X.2.1 hz.1 (show 0 < 1 by omega) rfl rfl) rfl rfl (Nat.le_of_ble_eq_true rfl) dX5_readInto_21 ?_
    exact tv_iret X dX5_readInto_24 h
set_option maxHeartbeats 4000000 in
set_option maxRecDepth 100000 in
theorem l_X6_arePath_28 {Γ : Cx} {Ω : Wd} {ad : Nat → Nat → Nat} {A : Nat → Prop} {res : St × Int32} (X : Fx Γ Ω A cX6_arePath 2 "MappingTexts$Tokens" rm_X6_arePath (some .boolean)) {k2 : St → Int32 → Option (St × Int32)} (hk2 : ∀ (σ : St) (v1 : Int32), k2 σ v1 = some res → V Γ (0, 0) (Qe Γ (0, 0) A (Qci (PicX Ω ad A) A res)) A 2 (PicX Ω ad A σ) 2 [(0, .ref (ad 9 0)), (1, .int v1)] []) (σ : St) (t0 : Int32) (t1 : Int32) (v1 : Int32) (h : f_X6_arePath_28 k2 σ t0 t1 v1 = some res) : V Γ (0, 0) (Qe Γ (0, 0) A (Qci (PicX Ω ad A) A res)) A 2 (PicX Ω ad A σ) 28 [(0, .ref (ad 9 0)), (1, .int v1)] [.int t1, .int t0] := by
  unfold f_X6_arePath_28 at h
  refine tv_icmp_eq X 33 dX6_arePath_28 (by decide) h (fun h => ?_) (fun h => ?_)
  · refine tv_iinc X (v1 + 1) dX6_arePath_33 1 rfl rfl (by decide) [(1, .int (v1 + 1)), (0, .ref (ad 9 0))] rfl ?_
    refine tv_goto X 2 dX6_arePath_36 (by decide) ?_
    refine V.pick [1, 0] rfl ?_
    exact hk2 σ (v1 + 1) h
  · refine tv_iconst X 0 dX6_arePath_31 (by decide) ?_
    exact tv_zret X dX6_arePath_32 (Or.inl rfl) h
set_option maxHeartbeats 4000000 in
set_option maxRecDepth 100000 in
theorem l_X6_arePath_2 {Γ : Cx} {Ω : Wd} {ad : Nat → Nat → Nat} {A : Nat → Prop} {res : St × Int32} (X : Fx Γ Ω A cX6_arePath 2 "MappingTexts$Tokens" rm_X6_arePath (some .boolean)) : ∀ (n : Nat) (σ : St) (v1 : Int32), f_X6_arePath_2 n σ v1 = some res → V Γ (0, 0) (Qe Γ (0, 0) A (Qci (PicX Ω ad A) A res)) A 2 (PicX Ω ad A σ) 2 [(0, .ref (ad 9 0)), (1, .int v1)] [] := by
  intro n
  induction n with
  | zero =>
    intro σ v1 h
    cases (show none = some res from h)
  | succ n ih =>
    intro σ v1 h
    rw [f_X6_arePath_2] at h
    refine tv_iload_n X dX6_arePath_2 rfl 1 rfl ?_
    refine tv_aload_n X dX6_arePath_3 rfl 0 rfl ?_
    refine gX5_4 X (by omega) gw_1_55 dX6_arePath_4 ?_
    refine tv_icmp_ge X 39 dX6_arePath_7 (by decide) h (fun h => ?_) (fun h => ?_)
    · refine tv_aload_n X dX6_arePath_39 rfl 0 rfl ?_
      refine gX5_4 X (by omega) gw_1_55 dX6_arePath_40 ?_
      refine tv_iconst X 2 dX6_arePath_43 (by decide) ?_
      refine tv_irem X dX6_arePath_44 (by decide) ?_
      refine tv_iconst X 1 dX6_arePath_45 (by decide) ?_
      refine tv_icmp_ne X 53 dX6_arePath_46 (by decide) h (fun h => ?_) (fun h => ?_)
      · refine tv_iconst X 0 dX6_arePath_53 (by decide) ?_
        exact tv_zret X dX6_arePath_54 (Or.inl rfl) h
      · refine tv_iconst X 1 dX6_arePath_49 (by decide) ?_
        refine tv_goto X 54 dX6_arePath_50 (by decide) ?_
        exact tv_zret X dX6_arePath_54 (Or.inr rfl) h
    · refine tv_aload_n X dX6_arePath_10 rfl 0 rfl ?_
      refine gX5_1 X (by omega) gw_1_52 dX6_arePath_11 ?_
      refine tv_iload_n X dX6_arePath_14 rfl 1 rfl ?_
      refine iaX X (by omega) dX6_arePath_15 h (fun j1 hj1 h => ?_)
      refine tv_iload_n X dX6_arePath_16 rfl 1 rfl ?_
      refine tv_iconst X 2 dX6_arePath_17 (by decide) ?_
      refine tv_irem X dX6_arePath_18 (by decide) ?_
      refine tv_if_ne X 26 dX6_arePath_19 (by decide) h (fun h => ?_) (fun h => ?_)
      · refine tv_bipush X 46 dX6_arePath_26 (by decide) ?_
        exact l_X6_arePath_28 X ih σ (ga σ 8 8 j1) 46 v1 h
      · refine tv_iconst X 1 dX6_arePath_22 (by decide) ?_
        refine tv_goto X 28 dX6_arePath_23 (by decide) ?_
        exact l_X6_arePath_28 X ih σ (ga σ 8 8 j1) 1 v1 h
set_option maxHeartbeats 4000000 in
set_option maxRecDepth 100000 in
theorem c_X6_arePath (l : Launch) (Ω : Wd) (ad : Nat → Nat → Nat) (A : Nat → Prop) (σ : St) {res : St × Int32} (h : f_X6_arePath σ = some res) : Met l yX6_arePath (wsO yX6_arePath cX6_arePath 2 (some .boolean)) rm_X6_arePath (PcZ Ω A (PicX Ω ad A σ) [.ref (ad 9 0)]) (Qci (PicX Ω ad A) A res) 0 0 A := by
  refine Met.ofV (by decide) rfl (fun Γ hΓ X => ?_)
  have X : Fx Γ Ω A cX6_arePath 2 "MappingTexts$Tokens" rm_X6_arePath (some .boolean) := X
  unfold f_X6_arePath at h
  show V Γ (0, 0) _ A 2 _ 0 [(0, .ref (ad 9 0))] []
  refine tv_iconst X 0 dX6_arePath_0 (by decide) ?_
  refine tv_istore_n X dX6_arePath_1 rfl (by decide) [(1, .int 0), (0, .ref (ad 9 0))] rfl ?_
  refine V.pick [1, 0] rfl ?_
  exact l_X6_arePath_2 X fl σ 0 h
set_option maxHeartbeats 4000000 in
set_option maxRecDepth 100000 in
theorem l_X7_ruleFor_3 {Γ : Cx} {Ω : Wd} {ad : Nat → Nat → Nat} {A : Nat → Prop} {res : St × Int32} (X : Fx Γ Ω A cX7_ruleFor 5 "MappingTexts$Version" rm_X7_ruleFor (some .int)) : ∀ (n : Nat) (σ : St) (v0 : Nat) (v1 : Nat) (v2 : Int32) (v3 : Int32) (v4 : Int32) (_ : v0 < 8) (_ : v1 < 773), f_X7_ruleFor_3 n σ v0 v1 v2 v3 v4 = some res → V Γ (0, 0) (Qe Γ (0, 0) A (Qci (PicX Ω ad A) A res)) A 5 (PicX Ω ad A σ) 3 [(0, .ref (ad 3 v0)), (1, .ref (ad 1 v1)), (2, .int v2), (3, .int v3), (4, .int v4)] [] := by
  intro n
  induction n with
  | zero =>
    intro σ v0 v1 v2 v3 v4 bv0 bv1 h
    cases (show none = some res from h)
  | succ n ih =>
    intro σ v0 v1 v2 v3 v4 bv0 bv1 h
    rw [f_X7_ruleFor_3] at h
    refine tv_iload X dX7_ruleFor_3 4 rfl ?_
    refine tv_aload_n X dX7_ruleFor_5 rfl 0 rfl ?_
    refine gX6_4 X (by omega) gw_1_205 dX7_ruleFor_6 ?_
    refine tv_icmp_ge X 37 dX7_ruleFor_9 (by decide) h (fun h => ?_) (fun h => ?_)
    · refine tv_bipush X (-2) dX7_ruleFor_37 (by decide) ?_
      exact tv_iret X dX7_ruleFor_39 h
    · refine tv_aload_n X dX7_ruleFor_12 rfl 0 rfl ?_
      refine gX6_1 X (by omega) gw_1_197 dX7_ruleFor_13 ?_
      refine tv_iload X dX7_ruleFor_16 4 rfl ?_
      refine aaX7 X (by omega) dX7_ruleFor_18 h (fun j1 hj1 h => ?_)
      refine tv_aload_n X dX7_ruleFor_19 rfl 1 rfl ?_
      refine tv_iload_n X dX7_ruleFor_20 rfl 2 rfl ?_
      refine tv_iload_n X dX7_ruleFor_21 rfl 3 rfl ?_
      obtain ⟨s2, x3, hs2, h⟩ := cl_some h
      refine tv_callVi (st := []) X (c_X4_fits Γ.2.1 Ω ad A σ (8 * v0 + j1) v1 v2 v3 (by omega) (by omega) hs2) ⟨gw_4_49, gw_4_46, gw_1_8, q_X4_fits, rfl, rfl, ⟨Nat.le_of_ble_eq_true rfl, Nat.le_of_ble_eq_true rfl⟩⟩ gw_4_47 gw_4_48 (fun H _ hz _ => PP.recv (f := 5) (i := (8 * v0 + j1)) X.2.1 hz.1 (show (8 * v0 + j1) < 64 by omega) rfl rfl) rfl rfl (Nat.le_of_ble_eq_true rfl) dX7_ruleFor_22 ?_
      refine tv_if_eq X 31 dX7_ruleFor_25 (by decide) h (fun h => ?_) (fun h => ?_)
      · refine tv_iinc X (v4 + 1) dX7_ruleFor_31 4 rfl rfl (by decide) [(4, .int (v4 + 1)), (0, .ref (ad 3 v0)), (1, .ref (ad 1 v1)), (2, .int v2), (3, .int v3)] rfl ?_
        refine tv_goto X 3 dX7_ruleFor_34 (by decide) ?_
        refine V.pick [1, 2, 3, 4, 0] rfl ?_
        exact ih s2 v0 v1 v2 v3 (v4 + 1) (by omega) (by omega) h
      · refine tv_iload X dX7_ruleFor_28 4 rfl ?_
        exact tv_iret X dX7_ruleFor_30 h
set_option maxHeartbeats 4000000 in
set_option maxRecDepth 100000 in
theorem c_X7_ruleFor (l : Launch) (Ω : Wd) (ad : Nat → Nat → Nat) (A : Nat → Prop) (σ : St) (o : Nat) (a1 : Nat) (a2 : Int32) (a3 : Int32) (bo : o < 8) (ba1 : a1 < 773) {res : St × Int32} (h : f_X7_ruleFor σ o a1 a2 a3 = some res) : Met l yX7_ruleFor (wsO yX7_ruleFor cX7_ruleFor 5 (some .int)) rm_X7_ruleFor (PcZ Ω A (PicX Ω ad A σ) [.ref (ad 3 o), .ref (ad 1 a1), .int a2, .int a3]) (Qci (PicX Ω ad A) A res) 0 0 A := by
  refine Met.ofV (by decide) rfl (fun Γ hΓ X => ?_)
  have X : Fx Γ Ω A cX7_ruleFor 5 "MappingTexts$Version" rm_X7_ruleFor (some .int) := X
  unfold f_X7_ruleFor at h
  show V Γ (0, 0) _ A 5 _ 0 [(0, .ref (ad 3 o)), (1, .ref (ad 1 a1)), (2, .int a2), (3, .int a3)] []
  refine tv_iconst X 0 dX7_ruleFor_0 (by decide) ?_
  refine tv_istore X dX7_ruleFor_1 (by decide) [(4, .int 0), (0, .ref (ad 3 o)), (1, .ref (ad 1 a1)), (2, .int a2), (3, .int a3)] rfl ?_
  refine V.pick [1, 2, 3, 4, 0] rfl ?_
  exact l_X7_ruleFor_3 X fl σ o a1 a2 a3 0 (by omega) (by omega) h
set_option maxHeartbeats 4000000 in
set_option maxRecDepth 100000 in
theorem l_X7_countWithin_31 {Γ : Cx} {Ω : Wd} {ad : Nat → Nat → Nat} {A : Nat → Prop} {res : St × Int32} (X : Fx Γ Ω A cX7_countWithin 4 "MappingTexts$Version" rm_X7_countWithin (some .int)) {k4 : St → Nat → Int32 → Int32 → Int32 → Option (St × Int32)} (hk4 : ∀ (σ : St) (v0 : Nat) (v1 : Int32) (v2 : Int32) (v3 : Int32) (_ : v0 < 8), k4 σ v0 v1 v2 v3 = some res → V Γ (0, 0) (Qe Γ (0, 0) A (Qci (PicX Ω ad A) A res)) A 4 (PicX Ω ad A σ) 4 [(0, .ref (ad 3 v0)), (1, .int v1), (2, .int v2), (3, .int v3)] []) (σ : St) (t0 : Int32) (t1 : Int32) (v0 : Nat) (v1 : Int32) (v3 : Int32) (bv0 : v0 < 8) (h : f_X7_countWithin_31 k4 σ t0 t1 v0 v1 v3 = some res) : V Γ (0, 0) (Qe Γ (0, 0) A (Qci (PicX Ω ad A) A res)) A 4 (PicX Ω ad A σ) 31 [(0, .ref (ad 3 v0)), (1, .int v1), (3, .int v3)] [.int t1, .int t0] := by
  unfold f_X7_countWithin_31 at h
  refine tv_iadd X dX7_countWithin_31 ?_
  refine tv_istore_n X dX7_countWithin_32 rfl (by decide) [(2, .int (t0 + t1)), (0, .ref (ad 3 v0)), (1, .int v1), (3, .int v3)] rfl ?_
  refine tv_iinc X (v3 + 1) dX7_countWithin_33 3 rfl rfl (by decide) [(3, .int (v3 + 1)), (2, .int (t0 + t1)), (0, .ref (ad 3 v0)), (1, .int v1)] rfl ?_
  refine tv_goto X 4 dX7_countWithin_36 (by decide) ?_
  refine V.pick [2, 3, 1, 0] rfl ?_
  exact hk4 σ v0 v1 (t0 + t1) (v3 + 1) (by omega) h
set_option maxHeartbeats 4000000 in
set_option maxRecDepth 100000 in
theorem l_X7_countWithin_4 {Γ : Cx} {Ω : Wd} {ad : Nat → Nat → Nat} {A : Nat → Prop} {res : St × Int32} (X : Fx Γ Ω A cX7_countWithin 4 "MappingTexts$Version" rm_X7_countWithin (some .int)) : ∀ (n : Nat) (σ : St) (v0 : Nat) (v1 : Int32) (v2 : Int32) (v3 : Int32) (_ : v0 < 8), f_X7_countWithin_4 n σ v0 v1 v2 v3 = some res → V Γ (0, 0) (Qe Γ (0, 0) A (Qci (PicX Ω ad A) A res)) A 4 (PicX Ω ad A σ) 4 [(0, .ref (ad 3 v0)), (1, .int v1), (2, .int v2), (3, .int v3)] [] := by
  intro n
  induction n with
  | zero =>
    intro σ v0 v1 v2 v3 bv0 h
    cases (show none = some res from h)
  | succ n ih =>
    intro σ v0 v1 v2 v3 bv0 h
    rw [f_X7_countWithin_4] at h
    refine tv_iload_n X dX7_countWithin_4 rfl 3 rfl ?_
    refine tv_aload_n X dX7_countWithin_5 rfl 0 rfl ?_
    refine gX6_3 X (by omega) gw_1_201 dX7_countWithin_6 ?_
    refine tv_icmp_ge X 39 dX7_countWithin_9 (by decide) h (fun h => ?_) (fun h => ?_)
    · refine tv_iload_n X dX7_countWithin_39 rfl 2 rfl ?_
      exact tv_iret X dX7_countWithin_40 h
    · refine tv_iload_n X dX7_countWithin_12 rfl 2 rfl ?_
      refine tv_aload_n X dX7_countWithin_13 rfl 0 rfl ?_
      refine gX6_0 X (by omega) gw_1_193 dX7_countWithin_14 ?_
      refine tv_iload_n X dX7_countWithin_17 rfl 3 rfl ?_
      refine aaX6 X (by omega) dX7_countWithin_18 h (fun j1 hj1 h => ?_)
      refine gX1_7 X (by omega) gw_1_144 dX7_countWithin_19 ?_
      refine tv_iload_n X dX7_countWithin_22 rfl 1 rfl ?_
      refine tv_icmp_ne X 30 dX7_countWithin_23 (by decide) h (fun h => ?_) (fun h => ?_)
      · refine tv_iconst X 0 dX7_countWithin_30 (by decide) ?_
        refine V.pick [0, 1, 3] rfl ?_
        exact l_X7_countWithin_31 X ih σ v2 0 v0 v1 v3 (by omega) h
      · refine tv_iconst X 1 dX7_countWithin_26 (by decide) ?_
        refine tv_goto X 31 dX7_countWithin_27 (by decide) ?_
        refine V.pick [0, 1, 3] rfl ?_
        exact l_X7_countWithin_31 X ih σ v2 1 v0 v1 v3 (by omega) h
set_option maxHeartbeats 4000000 in
set_option maxRecDepth 100000 in
theorem c_X7_countWithin (l : Launch) (Ω : Wd) (ad : Nat → Nat → Nat) (A : Nat → Prop) (σ : St) (o : Nat) (a1 : Int32) (bo : o < 8) {res : St × Int32} (h : f_X7_countWithin σ o a1 = some res) : Met l yX7_countWithin (wsO yX7_countWithin cX7_countWithin 4 (some .int)) rm_X7_countWithin (PcZ Ω A (PicX Ω ad A σ) [.ref (ad 3 o), .int a1]) (Qci (PicX Ω ad A) A res) 0 0 A := by
  refine Met.ofV (by decide) rfl (fun Γ hΓ X => ?_)
  have X : Fx Γ Ω A cX7_countWithin 4 "MappingTexts$Version" rm_X7_countWithin (some .int) := X
  unfold f_X7_countWithin at h
  show V Γ (0, 0) _ A 4 _ 0 [(0, .ref (ad 3 o)), (1, .int a1)] []
  refine tv_iconst X 0 dX7_countWithin_0 (by decide) ?_
  refine tv_istore_n X dX7_countWithin_1 rfl (by decide) [(2, .int 0), (0, .ref (ad 3 o)), (1, .int a1)] rfl ?_
  refine tv_iconst X 0 dX7_countWithin_2 (by decide) ?_
  refine tv_istore_n X dX7_countWithin_3 rfl (by decide) [(3, .int 0), (2, .int 0), (0, .ref (ad 3 o)), (1, .int a1)] rfl ?_
  refine V.pick [2, 3, 1, 0] rfl ?_
  exact l_X7_countWithin_4 X fl σ o a1 0 0 (by omega) h
set_option maxHeartbeats 4000000 in
set_option maxRecDepth 100000 in
theorem l_X7_countLeaves_33 {Γ : Cx} {Ω : Wd} {ad : Nat → Nat → Nat} {A : Nat → Prop} {res : St × Int32} (X : Fx Γ Ω A cX7_countLeaves 3 "MappingTexts$Version" rm_X7_countLeaves (some .int)) {k4 : St → Nat → Int32 → Int32 → Option (St × Int32)} (hk4 : ∀ (σ : St) (v0 : Nat) (v1 : Int32) (v2 : Int32) (_ : v0 < 8), k4 σ v0 v1 v2 = some res → V Γ (0, 0) (Qe Γ (0, 0) A (Qci (PicX Ω ad A) A res)) A 3 (PicX Ω ad A σ) 4 [(0, .ref (ad 3 v0)), (1, .int v1), (2, .int v2)] []) (σ : St) (t0 : Int32) (t1 : Int32) (v0 : Nat) (v2 : Int32) (bv0 : v0 < 8) (h : f_X7_countLeaves_33 k4 σ t0 t1 v0 v2 = some res) : V Γ (0, 0) (Qe Γ (0, 0) A (Qci (PicX Ω ad A) A res)) A 3 (PicX Ω ad A σ) 33 [(0, .ref (ad 3 v0)), (2, .int v2)] [.int t1, .int t0] := by
  unfold f_X7_countLeaves_33 at h
  refine tv_iadd X dX7_countLeaves_33 ?_
  refine tv_istore_n X dX7_countLeaves_34 rfl (by decide) [(1, .int (t0 + t1)), (0, .ref (ad 3 v0)), (2, .int v2)] rfl ?_
  refine tv_iinc X (v2 + 1) dX7_countLeaves_35 2 rfl rfl (by decide) [(2, .int (v2 + 1)), (1, .int (t0 + t1)), (0, .ref (ad 3 v0))] rfl ?_
  refine tv_goto X 4 dX7_countLeaves_38 (by decide) ?_
  refine V.pick [2, 1, 0] rfl ?_
  exact hk4 σ v0 (t0 + t1) (v2 + 1) (by omega) h
set_option maxHeartbeats 4000000 in
set_option maxRecDepth 100000 in
theorem l_X7_countLeaves_4 {Γ : Cx} {Ω : Wd} {ad : Nat → Nat → Nat} {A : Nat → Prop} {res : St × Int32} (X : Fx Γ Ω A cX7_countLeaves 3 "MappingTexts$Version" rm_X7_countLeaves (some .int)) : ∀ (n : Nat) (σ : St) (v0 : Nat) (v1 : Int32) (v2 : Int32) (_ : v0 < 8), f_X7_countLeaves_4 n σ v0 v1 v2 = some res → V Γ (0, 0) (Qe Γ (0, 0) A (Qci (PicX Ω ad A) A res)) A 3 (PicX Ω ad A σ) 4 [(0, .ref (ad 3 v0)), (1, .int v1), (2, .int v2)] [] := by
  intro n
  induction n with
  | zero =>
    intro σ v0 v1 v2 bv0 h
    cases (show none = some res from h)
  | succ n ih =>
    intro σ v0 v1 v2 bv0 h
    rw [f_X7_countLeaves_4] at h
    refine tv_iload_n X dX7_countLeaves_4 rfl 2 rfl ?_
    refine tv_aload_n X dX7_countLeaves_5 rfl 0 rfl ?_
    refine gX6_3 X (by omega) gw_1_201 dX7_countLeaves_6 ?_
    refine tv_icmp_ge X 41 dX7_countLeaves_9 (by decide) h (fun h => ?_) (fun h => ?_)
    · refine tv_iload_n X dX7_countLeaves_41 rfl 1 rfl ?_
      exact tv_iret X dX7_countLeaves_42 h
    · refine tv_iload_n X dX7_countLeaves_12 rfl 1 rfl ?_
      refine tv_aload_n X dX7_countLeaves_13 rfl 0 rfl ?_
      refine gX6_0 X (by omega) gw_1_193 dX7_countLeaves_14 ?_
      refine tv_iload_n X dX7_countLeaves_17 rfl 2 rfl ?_
      refine aaX6 X (by omega) dX7_countLeaves_18 h (fun j1 hj1 h => ?_)
      refine gX1_2 X (by omega) gw_1_121 dX7_countLeaves_19 ?_
      obtain ⟨s2, x3, hs2, h⟩ := cl_some h
      refine tv_callSi (st := [.int v1]) X (c_X2_isLeaf Γ.2.1 Ω ad A σ (gi σ 102 (40 * v0 + j1)) hs2) ⟨gw_3_110, gw_4_108, gw_1_16, q_X2_isLeaf, rfl, rfl, ⟨Nat.le_of_ble_eq_true rfl, Nat.le_of_ble_eq_true rfl⟩⟩ gw_3_109 rfl rfl (Nat.le_of_ble_eq_true rfl) dX7_countLeaves_22 ?_
      refine tv_if_eq X 32 dX7_countLeaves_25 (by decide) h (fun h => ?_) (fun h => ?_)
      · refine tv_iconst X 0 dX7_countLeaves_32 (by decide) ?_
        refine V.pick [0, 2] rfl ?_
        exact l_X7_countLeaves_33 X ih s2 v1 0 v0 v2 (by omega) h
      · refine tv_iconst X 1 dX7_countLeaves_28 (by decide) ?_
        refine tv_goto X 33 dX7_countLeaves_29 (by decide) ?_
        refine V.pick [0, 2] rfl ?_
        exact l_X7_countLeaves_33 X ih s2 v1 1 v0 v2 (by omega) h
set_option maxHeartbeats 4000000 in
set_option maxRecDepth 100000 in
theorem c_X7_countLeaves (l : Launch) (Ω : Wd) (ad : Nat → Nat → Nat) (A : Nat → Prop) (σ : St) (o : Nat) (bo : o < 8) {res : St × Int32} (h : f_X7_countLeaves σ o = some res) : Met l yX7_countLeaves (wsO yX7_countLeaves cX7_countLeaves 3 (some .int)) rm_X7_countLeaves (PcZ Ω A (PicX Ω ad A σ) [.ref (ad 3 o)]) (Qci (PicX Ω ad A) A res) 0 0 A := by
  refine Met.ofV (by decide) rfl (fun Γ hΓ X => ?_)
  have X : Fx Γ Ω A cX7_countLeaves 3 "MappingTexts$Version" rm_X7_countLeaves (some .int) := X
  unfold f_X7_countLeaves at h
  show V Γ (0, 0) _ A 3 _ 0 [(0, .ref (ad 3 o))] []
  refine tv_iconst X 0 dX7_countLeaves_0 (by decide) ?_
  refine tv_istore_n X dX7_countLeaves_1 rfl (by decide) [(1, .int 0), (0, .ref (ad 3 o))] rfl ?_
  refine tv_iconst X 0 dX7_countLeaves_2 (by decide) ?_
  refine tv_istore_n X dX7_countLeaves_3 rfl (by decide) [(2, .int 0), (1, .int 0), (0, .ref (ad 3 o))] rfl ?_
  refine V.pick [2, 1, 0] rfl ?_
  exact l_X7_countLeaves_4 X fl σ o 0 0 (by omega) h
set_option maxHeartbeats 4000000 in
set_option maxRecDepth 100000 in
theorem l_X7_countReached_33 {Γ : Cx} {Ω : Wd} {ad : Nat → Nat → Nat} {A : Nat → Prop} {res : St × Int32} (X : Fx Γ Ω A cX7_countReached 4 "MappingTexts$Version" rm_X7_countReached (some .int)) : ∀ (n : Nat) (σ : St) (v0 : Nat) (v2 : Int32) (v3 : Int32) (_ : v0 < 8), f_X7_countReached_33 n σ v0 v2 v3 = some res → V Γ (0, 0) (Qe Γ (0, 0) A (Qci (PicX Ω ad A) A res)) A 4 (PicX Ω ad A σ) 33 [(0, .ref (ad 3 v0)), (2, .int v2), (3, .int v3)] [] := by
  intro n
  induction n with
  | zero =>
    intro σ v0 v2 v3 bv0 h
    cases (show none = some res from h)
  | succ n ih =>
    intro σ v0 v2 v3 bv0 h
    rw [f_X7_countReached_33] at h
    refine tv_iload_n X dX7_countReached_33 rfl 2 rfl ?_
    refine tv_aload_n X dX7_countReached_34 rfl 0 rfl ?_
    refine gX6_3 X (by omega) gw_1_201 dX7_countReached_35 ?_
    refine tv_icmp_ge X 71 dX7_countReached_38 (by decide) h (fun h => ?_) (fun h => ?_)
    · refine tv_aload_n X dX7_countReached_71 rfl 0 rfl ?_
      refine gX6_3 X (by omega) gw_1_201 dX7_countReached_72 ?_
      exact tv_iret X dX7_countReached_75 h
    · refine tv_aload_n X dX7_countReached_41 rfl 0 rfl ?_
      refine gX6_0 X (by omega) gw_1_193 dX7_countReached_42 ?_
      refine tv_iload_n X dX7_countReached_45 rfl 1 rfl ?_
      refine aaX6 X (by omega) dX7_countReached_46 h (fun j4 hj4 h => ?_)
      refine gX1_5 X (by omega) gw_1_135 dX7_countReached_47 ?_
      refine tv_istore_n X dX7_countReached_50 rfl (by decide) [(2, .int (gi σ 105 (40 * v0 + j4))), (0, .ref (ad 3 v0)), (3, .int v3)] rfl ?_
      refine tv_iload_n X dX7_countReached_51 rfl 0 rfl ?_
      refine tv_if_lt X 63 dX7_countReached_52 (by decide) h (fun h => ?_) (fun h => ?_)
      · refine tv_iload_n X dX7_countReached_63 rfl 2 rfl ?_
        exact tv_iret X dX7_countReached_64 h
      · refine tv_iload_n X dX7_countReached_55 rfl 0 rfl ?_
        refine tv_aload_n X dX7_countReached_56 rfl 1 rfl ?_
        refine gX6_3 X (by omega) gw_1_201 dX7_countReached_57 ?_
        refine tv_icmp_lt X 65 dX7_countReached_60 (by decide) h (fun h => ?_) (fun h => ?_)
        · refine tv_iinc X (v3 + 1) dX7_countReached_65 2 rfl rfl (by decide) [(3, .int (v3 + 1)), (2, .int (gi σ 105 (40 * v0 + j4))), (0, .ref (ad 3 v0))] rfl ?_
          refine tv_goto X 33 dX7_countReached_68 (by decide) ?_
          refine V.pick [2, 1, 0] rfl ?_
          exact ih σ v0 (gi σ 105 (40 * v0 + j4)) (v3 + 1) (by omega) h
        · refine tv_iload_n X dX7_countReached_63 rfl 2 rfl ?_
          exact tv_iret X dX7_countReached_64 h
set_option maxHeartbeats 4000000 in
set_option maxRecDepth 100000 in
theorem c_X7_countReached (l : Launch) (Ω : Wd) (ad : Nat → Nat → Nat) (A : Nat → Prop) (σ : St) (o : Nat) (a1 : Int32) (bo : o < 8) {res : St × Int32} (h : f_X7_countReached σ o a1 = some res) : Met l yX7_countReached (wsO yX7_countReached cX7_countReached 4 (some .int)) rm_X7_countReached (PcZ Ω A (PicX Ω ad A σ) [.ref (ad 3 o), .int a1]) (Qci (PicX Ω ad A) A res) 0 0 A := by
  refine Met.ofV (by decide) rfl (fun Γ hΓ X => ?_)
  have X : Fx Γ Ω A cX7_countReached 4 "MappingTexts$Version" rm_X7_countReached (some .int) := X
  unfold f_X7_countReached at h
  show V Γ (0, 0) _ A 4 _ 0 [(0, .ref (ad 3 o)), (1, .int a1)] []
  refine tv_iload_n X dX7_countReached_0 rfl 1 rfl ?_
  refine tv_if_lt X 27 dX7_countReached_1 (by decide) h (fun h => ?_) (fun h => ?_)
  · refine tv_iconst X 0 dX7_countReached_27 (by decide) ?_
    exact tv_iret X dX7_countReached_28 h
  · refine tv_iload_n X dX7_countReached_4 rfl 1 rfl ?_
    refine tv_aload_n X dX7_countReached_5 rfl 0 rfl ?_
    refine gX6_3 X (by omega) gw_1_201 dX7_countReached_6 ?_
    refine tv_icmp_ge X 27 dX7_countReached_9 (by decide) h (fun h => ?_) (fun h => ?_)
    · refine tv_iconst X 0 dX7_countReached_27 (by decide) ?_
      exact tv_iret X dX7_countReached_28 h
    · refine tv_aload_n X dX7_countReached_12 rfl 0 rfl ?_
      refine gX6_0 X (by omega) gw_1_193 dX7_countReached_13 ?_
      refine tv_iload_n X dX7_countReached_16 rfl 1 rfl ?_
      refine aaX6 X (by omega) dX7_countReached_17 h (fun j1 hj1 h => ?_)
      refine gX1_2 X (by omega) gw_1_121 dX7_countReached_18 ?_
      obtain ⟨s2, x3, hs2, h⟩ := cl_some h
      refine tv_callSi (st := []) X (c_X2_isLeaf Γ.2.1 Ω ad A σ (gi σ 102 (40 * o + j1)) hs2) ⟨gw_3_110, gw_4_108, gw_1_16, q_X2_isLeaf, rfl, rfl, ⟨Nat.le_of_ble_eq_true rfl, Nat.le_of_ble_eq_true rfl⟩⟩ gw_3_109 rfl rfl (Nat.le_of_ble_eq_true rfl) dX7_countReached_21 ?_
      refine tv_if_ne X 29 dX7_countReached_24 (by decide) h (fun h => ?_) (fun h => ?_)
      · refine tv_iload_n X dX7_countReached_29 rfl 1 rfl ?_
        refine tv_istore_n X dX7_countReached_30 rfl (by decide) [(2, .int a1), (0, .ref (ad 3 o)), (1, .int a1)] rfl ?_
        refine tv_iconst X 1 dX7_countReached_31 (by decide) ?_
        refine tv_istore_n X dX7_countReached_32 rfl (by decide) [(3, .int 1), (2, .int a1), (0, .ref (ad 3 o)), (1, .int a1)] rfl ?_
        refine V.pick [2, 1, 0] rfl ?_
        exact l_X7_countReached_33 X fl s2 o a1 1 (by omega) h
      · refine tv_iconst X 0 dX7_countReached_27 (by decide) ?_
        exact tv_iret X dX7_countReached_28 h
set_option maxHeartbeats 4000000 in
set_option maxRecDepth 100000 in
theorem c_X7_hasPlaceFor (l : Launch) (Ω : Wd) (ad : Nat → Nat → Nat) (A : Nat → Prop) (σ : St) (o : Nat) (a1 : Nat) (bo : o < 8) (ba1 : a1 < 773) {res : St × Int32} (h : f_X7_hasPlaceFor σ o a1 = some res) : Met l yX7_hasPlaceFor (wsO yX7_hasPlaceFor cX7_hasPlaceFor 4 (some .boolean)) rm_X7_hasPlaceFor (PcZ Ω A (PicX Ω ad A σ) [.ref (ad 3 o), .ref (ad 1 a1)]) (Qci (PicX Ω ad A) A res) 0 0 A := by
  refine Met.ofV (by decide) rfl (fun Γ hΓ X => ?_)
  have X : Fx Γ Ω A cX7_hasPlaceFor 4 "MappingTexts$Version" rm_X7_hasPlaceFor (some .boolean) := X
  unfold f_X7_hasPlaceFor at h
  show V Γ (0, 0) _ A 4 _ 0 [(0, .ref (ad 3 o)), (1, .ref (ad 1 a1))] []
  refine tv_aload_n X dX7_hasPlaceFor_0 rfl 1 rfl ?_
  obtain ⟨s1, x2, hs1, h⟩ := cl_some h
  refine tv_callVi (st := []) X (c_X3_lastPoint Γ.2.1 Ω ad A σ a1 (by omega) hs1) ⟨gw_4_31, gw_4_39, gw_1_2, q_X3_lastPoint, rfl, rfl, ⟨Nat.le_of_ble_eq_true rfl, Nat.le_of_ble_eq_true rfl⟩⟩ gw_4_29 gw_4_30 (fun H _ hz _ => PP.recv (f := 1) (i := a1) X.2.1 hz.1 (show a1 < 773 by omega) rfl rfl) rfl rfl (Nat.le_of_ble_eq_true rfl) dX7_hasPlaceFor_1 ?_
  refine tv_istore_n X dX7_hasPlaceFor_4 rfl (by decide) [(2, .int x2), (0, .ref (ad 3 o)), (1, .ref (ad 1 a1))] rfl ?_
  refine tv_iload_n X dX7_hasPlaceFor_5 rfl 0 rfl ?_
  refine tv_if_ge X 11 dX7_hasPlaceFor_6 (by decide) h (fun h => ?_) (fun h => ?_)
  · refine tv_aload_n X dX7_hasPlaceFor_11 rfl 1 rfl ?_
    refine tv_aload_n X dX7_hasPlaceFor_12 rfl 2 rfl ?_
    refine tv_iload_n X dX7_hasPlaceFor_13 rfl 0 rfl ?_
    obtain ⟨s3, x4, hs3, h⟩ := cl_some h
    refine tv_callVi (st := []) X (c_X7_fieldOf Γ.2.1 Ω ad A s1 o a1 x2 (by omega) (by omega) hs3) ⟨gw_3_186, gw_4_40, gw_1_6, q_X7_fieldOf, rfl, rfl, ⟨Nat.le_of_ble_eq_true rfl, Nat.le_of_ble_eq_true rfl⟩⟩ gw_3_184 gw_3_185 (fun H _ hz _ => PP.recv (f := 3) (i := o) X.2.1 hz.1 (show o < 8 by omega) rfl rfl) rfl rfl (Nat.le_of_ble_eq_true rfl) dX7_hasPlaceFor_14 ?_
    refine tv_istore_n X dX7_hasPlaceFor_17 rfl (by decide) [(3, .int x4), (2, .int x2), (0, .ref (ad 3 o)), (1, .ref (ad 1 a1))] rfl ?_
    refine tv_iload_n X dX7_hasPlaceFor_18 rfl 0 rfl ?_
    refine tv_if_lt X 54 dX7_hasPlaceFor_19 (by decide) h (fun h => ?_) (fun h => ?_)
    · refine tv_iconst X 0 dX7_hasPlaceFor_54 (by decide) ?_
      exact tv_zret X dX7_hasPlaceFor_55 (Or.inl rfl) h
    · refine tv_aload_n X dX7_hasPlaceFor_22 rfl 2 rfl ?_
      refine gX6_0 X (by omega) gw_1_193 dX7_hasPlaceFor_23 ?_
      refine tv_iload_n X dX7_hasPlaceFor_26 rfl 0 rfl ?_
      refine aaX6 X (by omega) dX7_hasPlaceFor_27 h (fun j5 hj5 h => ?_)
      refine gX1_2 X (by omega) gw_1_121 dX7_hasPlaceFor_28 ?_
      obtain ⟨s6, x7, hs6, h⟩ := cl_some h
      refine tv_callSi (st := []) X (c_X2_isHolder Γ.2.1 Ω ad A s3 (gi s3 102 (40 * o + j5)) hs6) ⟨gw_3_86, gw_4_41, gw_1_16, q_X2_isHolder, rfl, rfl, ⟨Nat.le_of_ble_eq_true rfl, Nat.le_of_ble_eq_true rfl⟩⟩ gw_3_85 rfl rfl (Nat.le_of_ble_eq_true rfl) dX7_hasPlaceFor_31 ?_
      refine tv_if_eq X 54 dX7_hasPlaceFor_34 (by decide) h (fun h => ?_) (fun h => ?_)
      · refine tv_iconst X 0 dX7_hasPlaceFor_54 (by decide) ?_
        exact tv_zret X dX7_hasPlaceFor_55 (Or.inl rfl) h
      · refine tv_aload_n X dX7_hasPlaceFor_37 rfl 2 rfl ?_
        refine gX6_0 X (by omega) gw_1_193 dX7_hasPlaceFor_38 ?_
        refine tv_iload_n X dX7_hasPlaceFor_41 rfl 0 rfl ?_
        refine aaX6 X (by omega) dX7_hasPlaceFor_42 h (fun j8 hj8 h => ?_)
        refine gX1_8 X (by omega) gw_1_148 dX7_hasPlaceFor_43 ?_
        refine tv_iconst X 4 dX7_hasPlaceFor_46 (by decide) ?_
        refine tv_icmp_ge X 54 dX7_hasPlaceFor_47 (by decide) h (fun h => ?_) (fun h => ?_)
        · refine tv_iconst X 0 dX7_hasPlaceFor_54 (by decide) ?_
          exact tv_zret X dX7_hasPlaceFor_55 (Or.inl rfl) h
        · refine tv_iconst X 1 dX7_hasPlaceFor_50 (by decide) ?_
          refine tv_goto X 55 dX7_hasPlaceFor_51 (by decide) ?_
          exact tv_zret X dX7_hasPlaceFor_55 (Or.inr rfl) h
  · refine tv_iconst X 1 dX7_hasPlaceFor_9 (by decide) ?_
    exact tv_zret X dX7_hasPlaceFor_10 (Or.inr rfl) h
set_option maxHeartbeats 4000000 in
set_option maxRecDepth 100000 in
theorem l_X7_kindToCome_37 {Γ : Cx} {Ω : Wd} {ad : Nat → Nat → Nat} {A : Nat → Prop} {res : St × Int32} (X : Fx Γ Ω A cX7_kindToCome 7 "MappingTexts$Version" rm_X7_kindToCome (some .int)) {k42 : St → Int32 → Nat → Nat → Int32 → Int32 → Option (St × Int32)} (hk42 : ∀ (σ : St) (t0 : Int32) (v0 : Nat) (v1 : Nat) (v2 : Int32) (v3 : Int32) (_ : v0 < 8) (_ : v1 < 773), k42 σ t0 v0 v1 v2 v3 = some res → V Γ (0, 0) (Qe Γ (0, 0) A (Qci (PicX Ω ad A) A res)) A 7 (PicX Ω ad A σ) 42 [(0, .ref (ad 3 v0)), (1, .ref (ad 1 v1)), (2, .int v2), (3, .int v3)] [.int t0]) (σ : St) (v0 : Nat) (v1 : Nat) (v2 : Int32) (v3 : Int32) (bv0 : v0 < 8) (bv1 : v1 < 773) (h : f_X7_kindToCome_37 k42 σ v0 v1 v2 v3 = some res) : V Γ (0, 0) (Qe Γ (0, 0) A (Qci (PicX Ω ad A) A res)) A 7 (PicX Ω ad A σ) 37 [(0, .ref (ad 3 v0)), (1, .ref (ad 1 v1)), (2, .int v2), (3, .int v3)] [] := by
  unfold f_X7_kindToCome_37 at h
  refine tv_iconst X 1 dX7_kindToCome_37 (by decide) ?_
  refine tv_goto X 42 dX7_kindToCome_38 (by decide) ?_
  exact hk42 σ 1 v0 v1 v2 v3 (by omega) (by omega) h
set_option maxHeartbeats 4000000 in
set_option maxRecDepth 100000 in
theorem l_X7_kindToCome_42 {Γ : Cx} {Ω : Wd} {ad : Nat → Nat → Nat} {A : Nat → Prop} {res : St × Int32} (X : Fx Γ Ω A cX7_kindToCome 7 "MappingTexts$Version" rm_X7_kindToCome (some .int)) (σ : St) (t0 : Int32) (v0 : Nat) (v1 : Nat) (v2 : Int32) (v3 : Int32) (bv0 : v0 < 8) (bv1 : v1 < 773) (h : f_X7_kindToCome_42 σ t0 v0 v1 v2 v3 = some res) : V Γ (0, 0) (Qe Γ (0, 0) A (Qci (PicX Ω ad A) A res)) A 7 (PicX Ω ad A σ) 42 [(0, .ref (ad 3 v0)), (1, .ref (ad 1 v1)), (2, .int v2), (3, .int v3)] [.int t0] := by
  unfold f_X7_kindToCome_42 at h
  refine tv_istore X dX7_kindToCome_42 (by decide) [(5, .int t0), (0, .ref (ad 3 v0)), (1, .ref (ad 1 v1)), (2, .int v2), (3, .int v3)] rfl ?_
  refine tv_iload X dX7_kindToCome_44 0 rfl ?_
  refine tv_if_ne X 77 dX7_kindToCome_46 (by decide) h (fun h => ?_) (fun h => ?_)
  · refine tv_bipush X (-2) dX7_kindToCome_77 (by decide) ?_
    exact tv_iret X dX7_kindToCome_79 h
  · refine tv_aload_n X dX7_kindToCome_49 rfl 1 rfl ?_
    refine gX6_3 X (by omega) gw_1_201 dX7_kindToCome_50 ?_
    refine tv_aload_n X dX7_kindToCome_53 rfl 1 rfl ?_
    refine gX6_5 X (by omega) gw_1_208 dX7_kindToCome_54 ?_
    refine tv_icmp_ge X 77 dX7_kindToCome_57 (by decide) h (fun h => ?_) (fun h => ?_)
    · refine tv_bipush X (-2) dX7_kindToCome_77 (by decide) ?_
      exact tv_iret X dX7_kindToCome_79 h
    · refine tv_aload_n X dX7_kindToCome_60 rfl 1 rfl ?_
      refine gX6_3 X (by omega) gw_1_201 dX7_kindToCome_61 ?_
      refine tv_bipush X 40 dX7_kindToCome_64 (by decide) ?_
      refine tv_icmp_ge X 77 dX7_kindToCome_66 (by decide) h (fun h => ?_) (fun h => ?_)
      · refine tv_bipush X (-2) dX7_kindToCome_77 (by decide) ?_
        exact tv_iret X dX7_kindToCome_79 h
      · refine tv_aload_n X dX7_kindToCome_69 rfl 1 rfl ?_
        refine tv_aload_n X dX7_kindToCome_70 rfl 2 rfl ?_
        obtain ⟨s9, x10, hs9, h⟩ := cl_some h
        refine tv_callVi (st := []) X (c_X7_hasPlaceFor Γ.2.1 Ω ad A σ v0 v1 (by omega) (by omega) hs9) ⟨gw_4_38, gw_4_35, gw_1_6, q_X7_hasPlaceFor, rfl, rfl, ⟨Nat.le_of_ble_eq_true rfl, Nat.le_of_ble_eq_true rfl⟩⟩ gw_4_37 gw_p_41 (fun H _ hz _ => PP.recv (f := 3) (i := v0) X.2.1 hz.1 (show v0 < 8 by omega) rfl rfl) rfl rfl (Nat.le_of_ble_eq_true rfl) dX7_kindToCome_71 ?_
        refine tv_if_ne X 80 dX7_kindToCome_74 (by decide) h (fun h => ?_) (fun h => ?_)
        · refine tv_aload_n X dX7_kindToCome_80 rfl 1 rfl ?_
          refine tv_aload_n X dX7_kindToCome_81 rfl 2 rfl ?_
          refine tv_iload_n X dX7_kindToCome_82 rfl 4 rfl ?_
          refine tv_iload_n X dX7_kindToCome_83 rfl 3 rfl ?_
          obtain ⟨s11, x12, hs11, h⟩ := cl_some h
          refine tv_callVi (st := []) X (c_X7_ruleFor Γ.2.1 Ω ad A s9 v0 v1 v3 v2 (by omega) (by omega) hs11) ⟨gw_4_45, gw_4_42, gw_1_6, q_X7_ruleFor, rfl, rfl, ⟨Nat.le_of_ble_eq_true rfl, Nat.le_of_ble_eq_true rfl⟩⟩ gw_4_43 gw_4_44 (fun H _ hz _ => PP.recv (f := 3) (i := v0) X.2.1 hz.1 (show v0 < 8 by omega) rfl rfl) rfl rfl (Nat.le_of_ble_eq_true rfl) dX7_kindToCome_84 ?_
          refine tv_istore X dX7_kindToCome_87 (by decide) [(6, .int x12), (5, .int t0), (0, .ref (ad 3 v0)), (1, .ref (ad 1 v1)), (2, .int v2), (3, .int v3)] rfl ?_
          refine tv_iload X dX7_kindToCome_89 0 rfl ?_
          refine tv_if_ge X 99 dX7_kindToCome_91 (by decide) h (fun h => ?_) (fun h => ?_)
          · refine tv_aload_n X dX7_kindToCome_99 rfl 2 rfl ?_
            refine gX6_1 X (by omega) gw_1_197 dX7_kindToCome_100 ?_
            refine tv_iload X dX7_kindToCome_103 0 rfl ?_
            refine aaX7 X (by omega) dX7_kindToCome_105 h (fun j13 hj13 h => ?_)
            refine gX3_3 X (by omega) gw_1_182 dX7_kindToCome_106 ?_
            exact tv_iret X dX7_kindToCome_109 h
          · refine tv_bipush X (-2) dX7_kindToCome_94 (by decide) ?_
            refine tv_goto X 109 dX7_kindToCome_96 (by decide) ?_
            exact tv_iret X dX7_kindToCome_109 h
        · refine tv_bipush X (-2) dX7_kindToCome_77 (by decide) ?_
          exact tv_iret X dX7_kindToCome_79 h
set_option maxHeartbeats 4000000 in
set_option maxRecDepth 100000 in
theorem c_X7_kindToCome (l : Launch) (Ω : Wd) (ad : Nat → Nat → Nat) (A : Nat → Prop) (σ : St) (o : Nat) (a1 : Nat) (a2 : Int32) (bo : o < 8) (ba1 : a1 < 773) {res : St × Int32} (h : f_X7_kindToCome σ o a1 a2 = some res) : Met l yX7_kindToCome (wsO yX7_kindToCome cX7_kindToCome 7 (some .int)) rm_X7_kindToCome (PcZ Ω A (PicX Ω ad A σ) [.ref (ad 3 o), .ref (ad 1 a1), .int a2]) (Qci (PicX Ω ad A) A res) 0 0 A := by
  refine Met.ofV (by decide) rfl (fun Γ hΓ X => ?_)
  have X : Fx Γ Ω A cX7_kindToCome 7 "MappingTexts$Version" rm_X7_kindToCome (some .int) := X
  unfold f_X7_kindToCome at h
  show V Γ (0, 0) _ A 7 _ 0 [(0, .ref (ad 3 o)), (1, .ref (ad 1 a1)), (2, .int a2)] []
  refine tv_aload_n X dX7_kindToCome_0 rfl 1 rfl ?_
  obtain ⟨s1, x2, hs1, h⟩ := cl_some h
  refine tv_callVi (st := []) X (c_X3_nameStart Γ.2.1 Ω ad A σ a1 (by omega) hs1) ⟨gw_4_27, gw_4_24, gw_1_2, q_X3_nameStart, rfl, rfl, ⟨Nat.le_of_ble_eq_true rfl, Nat.le_of_ble_eq_true rfl⟩⟩ gw_4_25 gw_4_26 (fun H _ hz _ => PP.recv (f := 1) (i := a1) X.2.1 hz.1 (show a1 < 773 by omega) rfl rfl) rfl rfl (Nat.le_of_ble_eq_true rfl) dX7_kindToCome_1 ?_
  refine tv_istore_n X dX7_kindToCome_4 rfl (by decide) [(3, .int x2), (0, .ref (ad 3 o)), (1, .ref (ad 1 a1)), (2, .int a2)] rfl ?_
  refine tv_aload_n X dX7_kindToCome_5 rfl 2 rfl ?_
  obtain ⟨s3, x4, hs3, h⟩ := cl_some h
  refine tv_callVi (st := []) X (c_X3_length Γ.2.1 Ω ad A s1 a1 (by omega) hs3) ⟨gw_2_90, gw_2_237, gw_1_2, q_X3_length, rfl, rfl, ⟨Nat.le_of_ble_eq_true rfl, Nat.le_of_ble_eq_true rfl⟩⟩ gw_2_88 gw_2_89 (fun H _ hz _ => PP.recv (f := 1) (i := a1) X.2.1 hz.1 (show a1 < 773 by omega) rfl rfl) rfl rfl (Nat.le_of_ble_eq_true rfl) dX7_kindToCome_6 ?_
  refine tv_iload_n X dX7_kindToCome_9 rfl 0 rfl ?_
  refine tv_isub X dX7_kindToCome_10 ?_
  refine tv_istore X dX7_kindToCome_11 (by decide) [(4, .int (x4 - x2)), (3, .int x2), (0, .ref (ad 3 o)), (1, .ref (ad 1 a1)), (2, .int a2)] rfl ?_
  refine tv_aload_n X dX7_kindToCome_13 rfl 3 rfl ?_
  refine tv_iload_n X dX7_kindToCome_14 rfl 1 rfl ?_
  refine tv_iload X dX7_kindToCome_15 0 rfl ?_
  refine tv_ldcS X 0 (List.mem_of_getElem? (i := 17) rfl) dX7_kindToCome_17 ?_
  obtain ⟨s5, x6, hs5, h⟩ := cl_some h
  refine tv_callVi (st := []) X (c_X3_isWordAt Γ.2.1 Ω ad A s3 a1 x2 (x4 - x2) 0 (by omega) (by decide) hs5) ⟨gw_2_173, gw_4_33, gw_1_2, q_X3_isWordAt, rfl, rfl, ⟨Nat.le_of_ble_eq_true rfl, Nat.le_of_ble_eq_true rfl⟩⟩ gw_2_171 gw_2_172 (fun H _ hz _ => PP.recv (f := 1) (i := a1) X.2.1 hz.1 (show a1 < 773 by omega) rfl rfl) rfl rfl (Nat.le_of_ble_eq_true rfl) dX7_kindToCome_19 ?_
  refine tv_if_ne X 37 dX7_kindToCome_22 (by decide) h (fun h => ?_) (fun h => ?_)
  · refine V.pick [2, 3, 4, 1] rfl ?_
    exact l_X7_kindToCome_37 X (l_X7_kindToCome_42 X) s5 o a1 a2 x2 (by omega) (by omega) h
  · refine tv_aload_n X dX7_kindToCome_25 rfl 3 rfl ?_
    refine tv_iload_n X dX7_kindToCome_26 rfl 1 rfl ?_
    refine tv_iload X dX7_kindToCome_27 0 rfl ?_
    refine tv_ldcS X 1 (List.mem_of_getElem? (i := 18) rfl) dX7_kindToCome_29 ?_
    obtain ⟨s7, x8, hs7, h⟩ := cl_some h
    refine tv_callVi (st := []) X (c_X3_isWordAt Γ.2.1 Ω ad A s5 a1 x2 (x4 - x2) 1 (by omega) (by decide) hs7) ⟨gw_2_173, gw_4_33, gw_1_2, q_X3_isWordAt, rfl, rfl, ⟨Nat.le_of_ble_eq_true rfl, Nat.le_of_ble_eq_true rfl⟩⟩ gw_2_171 gw_2_172 (fun H _ hz _ => PP.recv (f := 1) (i := a1) X.2.1 hz.1 (show a1 < 773 by omega) rfl rfl) rfl rfl (Nat.le_of_ble_eq_true rfl) dX7_kindToCome_31 ?_
    refine tv_if_eq X 41 dX7_kindToCome_34 (by decide) h (fun h => ?_) (fun h => ?_)
    · refine tv_iconst X 0 dX7_kindToCome_41 (by decide) ?_
      refine V.pick [2, 3, 4, 1] rfl ?_
      exact l_X7_kindToCome_42 X s7 0 o a1 a2 x2 (by omega) (by omega) h
    · refine V.pick [2, 3, 4, 1] rfl ?_
      exact l_X7_kindToCome_37 X (l_X7_kindToCome_42 X) s7 o a1 a2 x2 (by omega) (by omega) h
set_option maxHeartbeats 4000000 in
set_option maxRecDepth 100000 in
theorem l_X7_endOf_21 {Γ : Cx} {Ω : Wd} {ad : Nat → Nat → Nat} {A : Nat → Prop} {res : St × Int32} (X : Fx Γ Ω A cX7_endOf 3 "MappingTexts$Version" rm_X7_endOf (some .int)) : ∀ (n : Nat) (σ : St) (v0 : Nat) (v1 : Int32) (v2 : Int32) (_ : v0 < 8), f_X7_endOf_21 n σ v0 v1 v2 = some res → V Γ (0, 0) (Qe Γ (0, 0) A (Qci (PicX Ω ad A) A res)) A 3 (PicX Ω ad A σ) 21 [(0, .ref (ad 3 v0)), (1, .int v1), (2, .int v2)] [] := by
  intro n
  induction n with
  | zero =>
    intro σ v0 v1 v2 bv0 h
    cases (show none = some res from h)
  | succ n ih =>
    intro σ v0 v1 v2 bv0 h
    rw [f_X7_endOf_21] at h
    refine tv_iload_n X dX7_endOf_21 rfl 2 rfl ?_
    refine tv_aload_n X dX7_endOf_22 rfl 0 rfl ?_
    refine gX6_3 X (by omega) gw_1_201 dX7_endOf_23 ?_
    refine tv_icmp_ge X 58 dX7_endOf_26 (by decide) h (fun h => ?_) (fun h => ?_)
    · refine tv_aload_n X dX7_endOf_58 rfl 0 rfl ?_
      refine gX6_3 X (by omega) gw_1_201 dX7_endOf_59 ?_
      exact tv_iret X dX7_endOf_62 h
    · refine tv_aload_n X dX7_endOf_29 rfl 0 rfl ?_
      refine gX6_0 X (by omega) gw_1_193 dX7_endOf_30 ?_
      refine tv_iload_n X dX7_endOf_33 rfl 2 rfl ?_
      refine aaX6 X (by omega) dX7_endOf_34 h (fun j1 hj1 h => ?_)
      refine gX1_8 X (by omega) gw_1_148 dX7_endOf_35 ?_
      refine tv_aload_n X dX7_endOf_38 rfl 0 rfl ?_
      refine gX6_0 X (by omega) gw_1_193 dX7_endOf_39 ?_
      refine tv_iload_n X dX7_endOf_42 rfl 1 rfl ?_
      refine aaX6 X (by omega) dX7_endOf_43 h (fun j2 hj2 h => ?_)
      refine gX1_8 X (by omega) gw_1_148 dX7_endOf_44 ?_
      refine tv_icmp_gt X 52 dX7_endOf_47 (by decide) h (fun h => ?_) (fun h => ?_)
      · refine tv_iinc X (v2 + 1) dX7_endOf_52 2 rfl rfl (by decide) [(2, .int (v2 + 1)), (0, .ref (ad 3 v0)), (1, .int v1)] rfl ?_
        refine tv_goto X 21 dX7_endOf_55 (by decide) ?_
        refine V.pick [1, 2, 0] rfl ?_
        exact ih σ v0 v1 (v2 + 1) (by omega) h
      · refine tv_iload_n X dX7_endOf_50 rfl 2 rfl ?_
        exact tv_iret X dX7_endOf_51 h
set_option maxHeartbeats 4000000 in
set_option maxRecDepth 100000 in
theorem c_X7_endOf (l : Launch) (Ω : Wd) (ad : Nat → Nat → Nat) (A : Nat → Prop) (σ : St) (o : Nat) (a1 : Int32) (bo : o < 8) {res : St × Int32} (h : f_X7_endOf σ o a1 = some res) : Met l yX7_endOf (wsO yX7_endOf cX7_endOf 3 (some .int)) rm_X7_endOf (PcZ Ω A (PicX Ω ad A σ) [.ref (ad 3 o), .int a1]) (Qci (PicX Ω ad A) A res) 0 0 A := by
  refine Met.ofV (by decide) rfl (fun Γ hΓ X => ?_)
  have X : Fx Γ Ω A cX7_endOf 3 "MappingTexts$Version" rm_X7_endOf (some .int) := X
  unfold f_X7_endOf at h
  show V Γ (0, 0) _ A 3 _ 0 [(0, .ref (ad 3 o)), (1, .int a1)] []
  refine tv_iload_n X dX7_endOf_0 rfl 1 rfl ?_
  refine tv_if_lt X 12 dX7_endOf_1 (by decide) h (fun h => ?_) (fun h => ?_)
  · refine tv_aload_n X dX7_endOf_12 rfl 0 rfl ?_
    refine gX6_3 X (by omega) gw_1_201 dX7_endOf_13 ?_
    exact tv_iret X dX7_endOf_16 h
  · refine tv_iload_n X dX7_endOf_4 rfl 1 rfl ?_
    refine tv_aload_n X dX7_endOf_5 rfl 0 rfl ?_
    refine gX6_3 X (by omega) gw_1_201 dX7_endOf_6 ?_
    refine tv_icmp_lt X 17 dX7_endOf_9 (by decide) h (fun h => ?_) (fun h => ?_)
    · refine tv_iload_n X dX7_endOf_17 rfl 1 rfl ?_
      refine tv_iconst X 1 dX7_endOf_18 (by decide) ?_
      refine tv_iadd X dX7_endOf_19 ?_
      refine tv_istore_n X dX7_endOf_20 rfl (by decide) [(2, .int (a1 + 1)), (0, .ref (ad 3 o)), (1, .int a1)] rfl ?_
      refine V.pick [1, 2, 0] rfl ?_
      exact l_X7_endOf_21 X fl σ o a1 (a1 + 1) (by omega) h
    · refine tv_aload_n X dX7_endOf_12 rfl 0 rfl ?_
      refine gX6_3 X (by omega) gw_1_201 dX7_endOf_13 ?_
      exact tv_iret X dX7_endOf_16 h
set_option maxHeartbeats 4000000 in
set_option maxRecDepth 100000 in
theorem l_X7_growFrom_139 {Γ : Cx} {Ω : Wd} {ad : Nat → Nat → Nat} {A : Nat → Prop} {res : St × Unit} (X : Fx Γ Ω A cX7_growFrom 7 "MappingTexts$Version" rm_X7_growFrom none) {k37 : St → Nat → Nat → Nat → Int32 → Int32 → Int32 → Int32 → Option (St × Unit)} (hk37 : ∀ (σ : St) (v0 : Nat) (v1 : Nat) (v2 : Nat) (v3 : Int32) (v4 : Int32) (v5 : Int32) (v6 : Int32) (_ : v0 < 8) (_ : v1 < 8) (_ : v2 < 773), k37 σ v0 v1 v2 v3 v4 v5 v6 = some res → V Γ (0, 0) (Qe Γ (0, 0) A (Qcv (PicX Ω ad A) A res)) A 7 (PicX Ω ad A σ) 37 [(0, .ref (ad 3 v0)), (1, .ref (ad 3 v1)), (2, .ref (ad 1 v2)), (3, .int v3), (4, .int v4), (5, .int v5), (6, .int v6)] []) (σ : St) (v0 : Nat) (v1 : Nat) (v2 : Nat) (v3 : Int32) (v4 : Int32) (v5 : Int32) (v6 : Int32) (bv0 : v0 < 8) (bv1 : v1 < 8) (bv2 : v2 < 773) (h : f_X7_growFrom_139 k37 σ v0 v1 v2 v3 v4 v5 v6 = some res) : V Γ (0, 0) (Qe Γ (0, 0) A (Qcv (PicX Ω ad A) A res)) A 7 (PicX Ω ad A σ) 139 [(0, .ref (ad 3 v0)), (1, .ref (ad 3 v1)), (2, .ref (ad 1 v2)), (3, .int v3), (4, .int v4), (5, .int v5), (6, .int v6)] [] := by
  unfold f_X7_growFrom_139 at h
  refine tv_iinc X (v6 + 1) dX7_growFrom_139 6 rfl rfl (by decide) [(6, .int (v6 + 1)), (0, .ref (ad 3 v0)), (1, .ref (ad 3 v1)), (2, .ref (ad 1 v2)), (3, .int v3), (4, .int v4), (5, .int v5)] rfl ?_
  refine tv_goto X 37 dX7_growFrom_142 (by decide) ?_
  refine V.pick [1, 2, 3, 4, 5, 6, 0] rfl ?_
  exact hk37 σ v0 v1 v2 v3 v4 v5 (v6 + 1) (by omega) (by omega) (by omega) h
set_option maxHeartbeats 4000000 in
set_option maxRecDepth 100000 in
theorem l_X7_growFrom_156 {Γ : Cx} {Ω : Wd} {ad : Nat → Nat → Nat} {A : Nat → Prop} {res : St × Unit} (X : Fx Γ Ω A cX7_growFrom 7 "MappingTexts$Version" rm_X7_growFrom none) : ∀ (n : Nat) (σ : St) (v0 : Nat) (v1 : Nat) (v6 : Int32) (_ : v0 < 8) (_ : v1 < 8), f_X7_growFrom_156 n σ v0 v1 v6 = some res → V Γ (0, 0) (Qe Γ (0, 0) A (Qcv (PicX Ω ad A) A res)) A 7 (PicX Ω ad A σ) 156 [(0, .ref (ad 3 v0)), (1, .ref (ad 3 v1)), (6, .int v6)] [] := by
  intro n
  induction n with
  | zero =>
    intro σ v0 v1 v6 bv0 bv1 h
    cases (show none = some res from h)
  | succ n ih =>
    intro σ v0 v1 v6 bv0 bv1 h
    rw [f_X7_growFrom_156] at h
    refine tv_iload X dX7_growFrom_156 2 rfl ?_
    refine tv_aload_n X dX7_growFrom_158 rfl 0 rfl ?_
    refine gX6_4 X (by omega) gw_1_205 dX7_growFrom_159 ?_
    refine tv_icmp_ge X 188 dX7_growFrom_162 (by decide) h (fun h => ?_) (fun h => ?_)
    · refine tv_aload_n X dX7_growFrom_188 rfl 0 rfl ?_
      refine tv_aload_n X dX7_growFrom_189 rfl 1 rfl ?_
      refine gX6_5 X (by omega) gw_1_208 dX7_growFrom_190 ?_
      refine pX6_5 X (by omega) gw_1_208 dX7_growFrom_193 ?_
      refine tv_ns h (fun s20 h => ?_)
      exact tv_vret X dX7_growFrom_196 h
    · refine tv_aload_n X dX7_growFrom_165 rfl 0 rfl ?_
      refine gX6_1 X (by omega) gw_1_197 dX7_growFrom_166 ?_
      refine tv_iload X dX7_growFrom_169 2 rfl ?_
      refine aaX7 X (by omega) dX7_growFrom_171 h (fun j21 hj21 h => ?_)
      refine tv_aload_n X dX7_growFrom_172 rfl 1 rfl ?_
      refine gX6_1 X (by omega) gw_1_197 dX7_growFrom_173 ?_
      refine tv_iload X dX7_growFrom_176 2 rfl ?_
      refine aaX7 X (by omega) dX7_growFrom_178 h (fun j22 hj22 h => ?_)
      obtain ⟨s23, _u179, hs23, h⟩ := cl_some h
      refine tv_callVv (st := []) X (c_X4_copyFrom Γ.2.1 Ω ad A σ (8 * v0 + j21) (8 * v1 + j22) (by omega) (by omega) hs23) ⟨gw_4_82, gw_4_79, gw_1_8, q_X4_copyFrom, rfl, rfl, ⟨Nat.le_of_ble_eq_true rfl, Nat.le_of_ble_eq_true rfl⟩⟩ gw_4_80 gw_4_81 (fun H _ hz _ => PP.recv (f := 5) (i := (8 * v0 + j21)) X.2.1 hz.1 (show (8 * v0 + j21) < 64 by omega) rfl rfl) rfl rfl (Nat.le_of_ble_eq_true rfl) dX7_growFrom_179 ?_
      refine tv_iinc X (v6 + 1) dX7_growFrom_182 2 rfl rfl (by decide) [(6, .int (v6 + 1)), (0, .ref (ad 3 v0)), (1, .ref (ad 3 v1))] rfl ?_
      refine tv_goto X 156 dX7_growFrom_185 (by decide) ?_
      refine V.pick [1, 2, 0] rfl ?_
      exact ih s23 v0 v1 (v6 + 1) (by omega) (by omega) h
set_option maxHeartbeats 4000000 in
set_option maxRecDepth 100000 in
theorem l_X7_growFrom_37 {Γ : Cx} {Ω : Wd} {ad : Nat → Nat → Nat} {A : Nat → Prop} {res : St × Unit} (X : Fx Γ Ω A cX7_growFrom 7 "MappingTexts$Version" rm_X7_growFrom none) : ∀ (n : Nat) (σ : St) (v0 : Nat) (v1 : Nat) (v2 : Nat) (v3 : Int32) (v4 : Int32) (v5 : Int32) (v6 : Int32) (_ : v0 < 8) (_ : v1 < 8) (_ : v2 < 773), f_X7_growFrom_37 n σ v0 v1 v2 v3 v4 v5 v6 = some res → V Γ (0, 0) (Qe Γ (0, 0) A (Qcv (PicX Ω ad A) A res)) A 7 (PicX Ω ad A σ) 37 [(0, .ref (ad 3 v0)), (1, .ref (ad 3 v1)), (2, .ref (ad 1 v2)), (3, .int v3), (4, .int v4), (5, .int v5), (6, .int v6)] [] := by
  intro n
  induction n with
  | zero =>
    intro σ v0 v1 v2 v3 v4 v5 v6 bv0 bv1 bv2 h
    cases (show none = some res from h)
  | succ n ih =>
    intro σ v0 v1 v2 v3 v4 v5 v6 bv0 bv1 bv2 h
    rw [f_X7_growFrom_37] at h
    refine tv_iload X dX7_growFrom_37 6 rfl ?_
    refine tv_aload_n X dX7_growFrom_39 rfl 0 rfl ?_
    refine gX6_3 X (by omega) gw_1_201 dX7_growFrom_40 ?_
    refine tv_icmp_ge X 145 dX7_growFrom_43 (by decide) h (fun h => ?_) (fun h => ?_)
    · refine tv_aload_n X dX7_growFrom_145 rfl 0 rfl ?_
      refine tv_aload_n X dX7_growFrom_146 rfl 1 rfl ?_
      refine gX6_4 X (by omega) gw_1_205 dX7_growFrom_147 ?_
      refine pX6_4 X (by omega) gw_1_205 dX7_growFrom_150 ?_
      refine tv_ns h (fun s8 h => ?_)
      refine tv_iconst X 0 dX7_growFrom_153 (by decide) ?_
      refine tv_istore X dX7_growFrom_154 (by decide) [(6, .int 0), (0, .ref (ad 3 v0)), (1, .ref (ad 3 v1)), (2, .ref (ad 1 v2)), (3, .int v3), (4, .int v4), (5, .int v5)] rfl ?_
      refine V.pick [1, 2, 0] rfl ?_
      exact l_X7_growFrom_156 X fl s8 v0 v1 0 (by omega) (by omega) h
    · refine tv_iload X dX7_growFrom_46 6 rfl ?_
      refine tv_iload X dX7_growFrom_48 5 rfl ?_
      refine tv_icmp_ge X 75 dX7_growFrom_50 (by decide) h (fun h => ?_) (fun h => ?_)
      · refine tv_iload X dX7_growFrom_75 6 rfl ?_
        refine tv_iload X dX7_growFrom_77 5 rfl ?_
        refine tv_icmp_le X 106 dX7_growFrom_79 (by decide) h (fun h => ?_) (fun h => ?_)
        · refine tv_aload_n X dX7_growFrom_106 rfl 0 rfl ?_
          refine tv_iload X dX7_growFrom_107 6 rfl ?_
          refine tv_iload X dX7_growFrom_109 4 rfl ?_
          obtain ⟨s9, _u111, hs9, h⟩ := cl_some h
          refine tv_callVv (st := []) X (c_X7_beginField Γ.2.1 Ω ad A σ v0 v6 v4 (by omega) hs9) ⟨gw_2_231, gw_4_77, gw_1_6, q_X7_beginField, rfl, rfl, ⟨Nat.le_of_ble_eq_true rfl, Nat.le_of_ble_eq_true rfl⟩⟩ gw_2_229 gw_2_230 (fun H _ hz _ => PP.recv (f := 3) (i := v0) X.2.1 hz.1 (show v0 < 8 by omega) rfl rfl) rfl rfl (Nat.le_of_ble_eq_true rfl) dX7_growFrom_111 ?_
          refine tv_aload_n X dX7_growFrom_114 rfl 0 rfl ?_
          refine gX6_0 X (by omega) gw_1_193 dX7_growFrom_115 ?_
          refine tv_iload X dX7_growFrom_118 6 rfl ?_
          refine aaX6 X (by omega) dX7_growFrom_120 h (fun j10 hj10 h => ?_)
          refine gX1_0 X (by omega) gw_1_110 dX7_growFrom_121 ?_
          refine tv_aload_n X dX7_growFrom_124 rfl 2 rfl ?_
          obtain ⟨s11, _u125, hs11, h⟩ := cl_some h
          refine tv_callVv (st := []) X (c_X3_copyFrom Γ.2.1 Ω ad A s9 (5 + 2 * (40 * v0 + j10)) v2 (by omega) (by omega) hs11) ⟨gw_4_71, gw_4_78, gw_1_2, q_X3_copyFrom, rfl, rfl, ⟨Nat.le_of_ble_eq_true rfl, Nat.le_of_ble_eq_true rfl⟩⟩ gw_4_69 gw_4_70 (fun H _ hz _ => PP.recv (f := 1) (i := (5 + 2 * (40 * v0 + j10))) X.2.1 hz.1 (show (5 + 2 * (40 * v0 + j10)) < 773 by omega) rfl rfl) rfl rfl (Nat.le_of_ble_eq_true rfl) dX7_growFrom_125 ?_
          refine tv_aload_n X dX7_growFrom_128 rfl 0 rfl ?_
          refine gX6_0 X (by omega) gw_1_193 dX7_growFrom_129 ?_
          refine tv_iload X dX7_growFrom_132 6 rfl ?_
          refine aaX6 X (by omega) dX7_growFrom_134 h (fun j12 hj12 h => ?_)
          refine tv_iload_n X dX7_growFrom_135 rfl 3 rfl ?_
          refine pX1_2 X (by omega) gw_1_121 dX7_growFrom_136 ?_
          refine tv_ns h (fun s13 h => ?_)
          exact l_X7_growFrom_139 X ih s13 v0 v1 v2 v3 v4 v5 v6 (by omega) (by omega) (by omega) h
        · refine tv_aload_n X dX7_growFrom_82 rfl 0 rfl ?_
          refine gX6_0 X (by omega) gw_1_193 dX7_growFrom_83 ?_
          refine tv_iload X dX7_growFrom_86 6 rfl ?_
          refine aaX6 X (by omega) dX7_growFrom_88 h (fun j14 hj14 h => ?_)
          refine tv_aload_n X dX7_growFrom_89 rfl 1 rfl ?_
          refine gX6_0 X (by omega) gw_1_193 dX7_growFrom_90 ?_
          refine tv_iload X dX7_growFrom_93 6 rfl ?_
          refine tv_iconst X 1 dX7_growFrom_95 (by decide) ?_
          refine tv_isub X dX7_growFrom_96 ?_
          refine aaX6 X (by omega) dX7_growFrom_97 h (fun j15 hj15 h => ?_)
          refine tv_iload X dX7_growFrom_98 5 rfl ?_
          obtain ⟨s16, _u100, hs16, h⟩ := cl_some h
          refine tv_callVv (st := []) X (c_X1_copyFrom Γ.2.1 Ω ad A σ (40 * v0 + j14) (40 * v1 + j15) v5 (by omega) (by omega) hs16) ⟨gw_4_67, gw_4_64, gw_1_7, q_X1_copyFrom, rfl, rfl, ⟨Nat.le_of_ble_eq_true rfl, Nat.le_of_ble_eq_true rfl⟩⟩ gw_4_65 gw_4_66 (fun H _ hz _ => PP.recv (f := 4) (i := (40 * v0 + j14)) X.2.1 hz.1 (show (40 * v0 + j14) < 320 by omega) rfl rfl) rfl rfl (Nat.le_of_ble_eq_true rfl) dX7_growFrom_100 ?_
          refine tv_goto X 139 dX7_growFrom_103 (by decide) ?_
          exact l_X7_growFrom_139 X ih s16 v0 v1 v2 v3 v4 v5 v6 (by omega) (by omega) (by omega) h
      · refine tv_aload_n X dX7_growFrom_53 rfl 0 rfl ?_
        refine gX6_0 X (by omega) gw_1_193 dX7_growFrom_54 ?_
        refine tv_iload X dX7_growFrom_57 6 rfl ?_
        refine aaX6 X (by omega) dX7_growFrom_59 h (fun j17 hj17 h => ?_)
        refine tv_aload_n X dX7_growFrom_60 rfl 1 rfl ?_
        refine gX6_0 X (by omega) gw_1_193 dX7_growFrom_61 ?_
        refine tv_iload X dX7_growFrom_64 6 rfl ?_
        refine aaX6 X (by omega) dX7_growFrom_66 h (fun j18 hj18 h => ?_)
        refine tv_iload X dX7_growFrom_67 5 rfl ?_
        obtain ⟨s19, _u69, hs19, h⟩ := cl_some h
        refine tv_callVv (st := []) X (c_X1_copyFrom Γ.2.1 Ω ad A σ (40 * v0 + j17) (40 * v1 + j18) v5 (by omega) (by omega) hs19) ⟨gw_4_67, gw_4_64, gw_1_7, q_X1_copyFrom, rfl, rfl, ⟨Nat.le_of_ble_eq_true rfl, Nat.le_of_ble_eq_true rfl⟩⟩ gw_4_65 gw_4_66 (fun H _ hz _ => PP.recv (f := 4) (i := (40 * v0 + j17)) X.2.1 hz.1 (show (40 * v0 + j17) < 320 by omega) rfl rfl) rfl rfl (Nat.le_of_ble_eq_true rfl) dX7_growFrom_69 ?_
        refine tv_goto X 139 dX7_growFrom_72 (by decide) ?_
        exact l_X7_growFrom_139 X ih s19 v0 v1 v2 v3 v4 v5 v6 (by omega) (by omega) (by omega) h
set_option maxHeartbeats 4000000 in
set_option maxRecDepth 100000 in
theorem c_X7_growFrom (l : Launch) (Ω : Wd) (ad : Nat → Nat → Nat) (A : Nat → Prop) (σ : St) (o : Nat) (a1 : Nat) (a2 : Nat) (a3 : Int32) (bo : o < 8) (ba1 : a1 < 8) (ba2 : a2 < 773) {res : St × Unit} (h : f_X7_growFrom σ o a1 a2 a3 = some res) : Met l yX7_growFrom (wsO yX7_growFrom cX7_growFrom 7 none) rm_X7_growFrom (PcZ Ω A (PicX Ω ad A σ) [.ref (ad 3 o), .ref (ad 3 a1), .ref (ad 1 a2), .int a3]) (Qcv (PicX Ω ad A) A res) 0 0 A := by
  refine Met.ofV (by decide) rfl (fun Γ hΓ X => ?_)
  have X : Fx Γ Ω A cX7_growFrom 7 "MappingTexts$Version" rm_X7_growFrom none := X
  unfold f_X7_growFrom at h
  show V Γ (0, 0) _ A 7 _ 0 [(0, .ref (ad 3 o)), (1, .ref (ad 3 a1)), (2, .ref (ad 1 a2)), (3, .int a3)] []
  refine tv_aload_n X dX7_growFrom_0 rfl 1 rfl ?_
  refine tv_aload_n X dX7_growFrom_1 rfl 2 rfl ?_
  refine tv_aload_n X dX7_growFrom_2 rfl 2 rfl ?_
  obtain ⟨s1, x2, hs1, h⟩ := cl_some h
  refine tv_callVi (st := [.ref (ad 1 a2), .ref (ad 3 a1)]) X (c_X3_lastPoint Γ.2.1 Ω ad A σ a2 (by omega) hs1) ⟨gw_4_31, gw_4_39, gw_1_2, q_X3_lastPoint, rfl, rfl, ⟨Nat.le_of_ble_eq_true rfl, Nat.le_of_ble_eq_true rfl⟩⟩ gw_4_29 gw_4_30 (fun H _ hz _ => PP.recv (f := 1) (i := a2) X.2.1 hz.1 (show a2 < 773 by omega) rfl rfl) rfl rfl (Nat.le_of_ble_eq_true rfl) dX7_growFrom_3 ?_
  obtain ⟨s3, x4, hs3, h⟩ := cl_some h
  refine tv_callVi (st := []) X (c_X7_fieldOf Γ.2.1 Ω ad A s1 a1 a2 x2 (by omega) (by omega) hs3) ⟨gw_3_186, gw_4_40, gw_1_6, q_X7_fieldOf, rfl, rfl, ⟨Nat.le_of_ble_eq_true rfl, Nat.le_of_ble_eq_true rfl⟩⟩ gw_3_184 gw_3_185 (fun H _ hz _ => PP.recv (f := 3) (i := a1) X.2.1 hz.1 (show a1 < 8 by omega) rfl rfl) rfl rfl (Nat.le_of_ble_eq_true rfl) dX7_growFrom_6 ?_
  refine tv_istore X dX7_growFrom_9 (by decide) [(4, .int x4), (0, .ref (ad 3 o)), (1, .ref (ad 3 a1)), (2, .ref (ad 1 a2)), (3, .int a3)] rfl ?_
  refine tv_aload_n X dX7_growFrom_11 rfl 2 rfl ?_
  refine tv_iload X dX7_growFrom_12 0 rfl ?_
  obtain ⟨s5, x6, hs5, h⟩ := cl_some h
  refine tv_callVi (st := []) X (c_X7_endOf Γ.2.1 Ω ad A s3 a1 x4 (by omega) hs5) ⟨gw_4_62, gw_4_59, gw_1_6, q_X7_endOf, rfl, rfl, ⟨Nat.le_of_ble_eq_true rfl, Nat.le_of_ble_eq_true rfl⟩⟩ gw_4_61 gw_p_42 (fun H _ hz _ => PP.recv (f := 3) (i := a1) X.2.1 hz.1 (show a1 < 8 by omega) rfl rfl) rfl rfl (Nat.le_of_ble_eq_true rfl) dX7_growFrom_14 ?_
  refine tv_istore X dX7_growFrom_17 (by decide) [(5, .int x6), (4, .int x4), (0, .ref (ad 3 o)), (1, .ref (ad 3 a1)), (2, .ref (ad 1 a2)), (3, .int a3)] rfl ?_
  refine tv_aload_n X dX7_growFrom_19 rfl 2 rfl ?_
  refine tv_aload_n X dX7_growFrom_20 rfl 3 rfl ?_
  refine gX6_3 X (by omega) gw_1_201 dX7_growFrom_21 ?_
  refine tv_iconst X 1 dX7_growFrom_24 (by decide) ?_
  refine tv_iadd X dX7_growFrom_25 ?_
  refine tv_bipush X 40 dX7_growFrom_26 (by decide) ?_
  refine tv_mmin X gw_4_63 gw_3_227 gw_1_3 gw_3_228 (Nat.le_of_ble_eq_true rfl) (Nat.le_of_ble_eq_true rfl) dX7_growFrom_28 ?_
  refine pX6_3 X (by omega) gw_1_201 dX7_growFrom_31 ?_
  refine tv_ns h (fun s7 h => ?_)
  refine tv_iconst X 0 dX7_growFrom_34 (by decide) ?_
  refine tv_istore X dX7_growFrom_35 (by decide) [(6, .int 0), (5, .int x6), (4, .int x4), (0, .ref (ad 3 o)), (1, .ref (ad 3 a1)), (2, .ref (ad 1 a2)), (3, .int a3)] rfl ?_
  refine V.pick [3, 4, 5, 6, 2, 1, 0] rfl ?_
  exact l_X7_growFrom_37 X fl s7 o a1 a2 a3 x4 x6 0 (by omega) (by omega) (by omega) h
set_option maxHeartbeats 4000000 in
set_option maxRecDepth 100000 in
theorem c_X7_comesBefore (l : Launch) (Ω : Wd) (ad : Nat → Nat → Nat) (A : Nat → Prop) (σ : St) (o : Nat) (a1 : Int32) (a2 : Int32) (bo : o < 8) {res : St × Int32} (h : f_X7_comesBefore σ o a1 a2 = some res) : Met l yX7_comesBefore (wsO yX7_comesBefore cX7_comesBefore 3 (some .boolean)) rm_X7_comesBefore (PcZ Ω A (PicX Ω ad A σ) [.ref (ad 3 o), .int a1, .int a2]) (Qci (PicX Ω ad A) A res) 0 0 A := by
  refine Met.ofV (by decide) rfl (fun Γ hΓ X => ?_)
  have X : Fx Γ Ω A cX7_comesBefore 3 "MappingTexts$Version" rm_X7_comesBefore (some .boolean) := X
  unfold f_X7_comesBefore at h
  show V Γ (0, 0) _ A 3 _ 0 [(0, .ref (ad 3 o)), (1, .int a1), (2, .int a2)] []
  refine tv_aload_n X dX7_comesBefore_0 rfl 0 rfl ?_
  refine gX6_0 X (by omega) gw_1_193 dX7_comesBefore_1 ?_
  refine tv_iload_n X dX7_comesBefore_4 rfl 1 rfl ?_
  refine aaX6 X (by omega) dX7_comesBefore_5 h (fun j1 hj1 h => ?_)
  refine gX1_0 X (by omega) gw_1_110 dX7_comesBefore_6 ?_
  refine tv_aload_n X dX7_comesBefore_9 rfl 0 rfl ?_
  refine gX6_0 X (by omega) gw_1_193 dX7_comesBefore_10 ?_
  refine tv_iload_n X dX7_comesBefore_13 rfl 2 rfl ?_
  refine aaX6 X (by omega) dX7_comesBefore_14 h (fun j2 hj2 h => ?_)
  refine gX1_0 X (by omega) gw_1_110 dX7_comesBefore_15 ?_
  obtain ⟨s3, x4, hs3, h⟩ := cl_some h
  refine tv_callVi (st := []) X (c_X3_compareWith Γ.2.1 Ω ad A σ (5 + 2 * (40 * o + j1)) (5 + 2 * (40 * o + j2)) (by omega) (by omega) hs3) ⟨gw_3_225, gw_3_222, gw_1_2, q_X3_compareWith, rfl, rfl, ⟨Nat.le_of_ble_eq_true rfl, Nat.le_of_ble_eq_true rfl⟩⟩ gw_3_223 gw_3_224 (fun H _ hz _ => PP.recv (f := 1) (i := (5 + 2 * (40 * o + j1))) X.2.1 hz.1 (show (5 + 2 * (40 * o + j1)) < 773 by omega) rfl rfl) rfl rfl (Nat.le_of_ble_eq_true rfl) dX7_comesBefore_18 ?_
  refine tv_if_ge X 28 dX7_comesBefore_21 (by decide) h (fun h => ?_) (fun h => ?_)
  · refine tv_iconst X 0 dX7_comesBefore_28 (by decide) ?_
    exact tv_zret X dX7_comesBefore_29 (Or.inl rfl) h
  · refine tv_iconst X 1 dX7_comesBefore_24 (by decide) ?_
    refine tv_goto X 29 dX7_comesBefore_25 (by decide) ?_
    exact tv_zret X dX7_comesBefore_29 (Or.inr rfl) h
set_option maxHeartbeats 4000000 in
set_option maxRecDepth 100000 in
theorem l_X7_sortByPath_58 {Γ : Cx} {Ω : Wd} {ad : Nat → Nat → Nat} {A : Nat → Prop} {res : St × Unit} (X : Fx Γ Ω A cX7_sortByPath 4 "MappingTexts$Version" rm_X7_sortByPath none) {k2 : St → Nat → Int32 → Option (St × Unit)} (hk2 : ∀ (σ : St) (v0 : Nat) (v1 : Int32) (_ : v0 < 8), k2 σ v0 v1 = some res → V Γ (0, 0) (Qe Γ (0, 0) A (Qcv (PicX Ω ad A) A res)) A 4 (PicX Ω ad A σ) 2 [(0, .ref (ad 3 v0)), (1, .int v1)] []) (σ : St) (v0 : Nat) (v1 : Int32) (v2 : Int32) (bv0 : v0 < 8) (h : f_X7_sortByPath_58 k2 σ v0 v1 v2 = some res) : V Γ (0, 0) (Qe Γ (0, 0) A (Qcv (PicX Ω ad A) A res)) A 4 (PicX Ω ad A σ) 58 [(0, .ref (ad 3 v0)), (1, .int v1), (2, .int v2)] [] := by
  unfold f_X7_sortByPath_58 at h
  refine tv_aload_n X dX7_sortByPath_58 rfl 0 rfl ?_
  refine gX6_2 X (by omega) gw_1_199 dX7_sortByPath_59 ?_
  refine tv_iload_n X dX7_sortByPath_62 rfl 2 rfl ?_
  refine tv_iload_n X dX7_sortByPath_63 rfl 1 rfl ?_
  refine isX X (by omega) dX7_sortByPath_64 h (fun j7 hj7 h => ?_)
  refine tv_ns h (fun s8 h => ?_)
  refine tv_iinc X (v1 + 1) dX7_sortByPath_65 1 rfl rfl (by decide) [(1, .int (v1 + 1)), (0, .ref (ad 3 v0)), (2, .int v2)] rfl ?_
  refine tv_goto X 2 dX7_sortByPath_68 (by decide) ?_
  refine V.pick [1, 0] rfl ?_
  exact hk2 s8 v0 (v1 + 1) (by omega) h
set_option maxHeartbeats 4000000 in
set_option maxRecDepth 100000 in
theorem l_X7_sortByPath_14 {Γ : Cx} {Ω : Wd} {ad : Nat → Nat → Nat} {A : Nat → Prop} {res : St × Unit} (X : Fx Γ Ω A cX7_sortByPath 4 "MappingTexts$Version" rm_X7_sortByPath none) {k2 : St → Nat → Int32 → Option (St × Unit)} (hk2 : ∀ (σ : St) (v0 : Nat) (v1 : Int32) (_ : v0 < 8), k2 σ v0 v1 = some res → V Γ (0, 0) (Qe Γ (0, 0) A (Qcv (PicX Ω ad A) A res)) A 4 (PicX Ω ad A σ) 2 [(0, .ref (ad 3 v0)), (1, .int v1)] []) : ∀ (n : Nat) (σ : St) (v0 : Nat) (v1 : Int32) (v2 : Int32) (v3 : Int32) (_ : v0 < 8), f_X7_sortByPath_14 k2 n σ v0 v1 v2 v3 = some res → V Γ (0, 0) (Qe Γ (0, 0) A (Qcv (PicX Ω ad A) A res)) A 4 (PicX Ω ad A σ) 14 [(0, .ref (ad 3 v0)), (1, .int v1), (2, .int v2), (3, .int v3)] [] := by
  intro n
  induction n with
  | zero =>
    intro σ v0 v1 v2 v3 bv0 h
    cases (show none = some res from h)
  | succ n ih =>
    intro σ v0 v1 v2 v3 bv0 h
    rw [f_X7_sortByPath_14] at h
    refine tv_iload_n X dX7_sortByPath_14 rfl 3 rfl ?_
    refine tv_if_le X 58 dX7_sortByPath_15 (by decide) h (fun h => ?_) (fun h => ?_)
    · refine V.pick [0, 1, 2] rfl ?_
      exact l_X7_sortByPath_58 X hk2 σ v0 v1 v2 (by omega) h
    · refine tv_aload_n X dX7_sortByPath_18 rfl 0 rfl ?_
      refine tv_iload_n X dX7_sortByPath_19 rfl 1 rfl ?_
      refine tv_aload_n X dX7_sortByPath_20 rfl 0 rfl ?_
      refine gX6_2 X (by omega) gw_1_199 dX7_sortByPath_21 ?_
      refine tv_iload_n X dX7_sortByPath_24 rfl 3 rfl ?_
      refine tv_iconst X 1 dX7_sortByPath_25 (by decide) ?_
      refine tv_isub X dX7_sortByPath_26 ?_
      refine iaX X (by omega) dX7_sortByPath_27 h (fun j1 hj1 h => ?_)
      obtain ⟨s2, x3, hs2, h⟩ := cl_some h
      refine tv_callVi (st := []) X (c_X7_comesBefore Γ.2.1 Ω ad A σ v0 v1 (ga σ 8 v0 j1) (by omega) hs2) ⟨gw_3_221, gw_3_218, gw_1_6, q_X7_comesBefore, rfl, rfl, ⟨Nat.le_of_ble_eq_true rfl, Nat.le_of_ble_eq_true rfl⟩⟩ gw_3_220 gw_p_37 (fun H _ hz _ => PP.recv (f := 3) (i := v0) X.2.1 hz.1 (show v0 < 8 by omega) rfl rfl) rfl rfl (Nat.le_of_ble_eq_true rfl) dX7_sortByPath_28 ?_
      refine tv_if_eq X 58 dX7_sortByPath_31 (by decide) h (fun h => ?_) (fun h => ?_)
      · refine V.pick [0, 1, 2] rfl ?_
        exact l_X7_sortByPath_58 X hk2 s2 v0 v1 v2 (by omega) h
      · refine tv_aload_n X dX7_sortByPath_34 rfl 0 rfl ?_
        refine gX6_2 X (by omega) gw_1_199 dX7_sortByPath_35 ?_
        refine tv_iload_n X dX7_sortByPath_38 rfl 3 rfl ?_
        refine tv_aload_n X dX7_sortByPath_39 rfl 0 rfl ?_
        refine gX6_2 X (by omega) gw_1_199 dX7_sortByPath_40 ?_
        refine tv_iload_n X dX7_sortByPath_43 rfl 3 rfl ?_
        refine tv_iconst X 1 dX7_sortByPath_44 (by decide) ?_
        refine tv_isub X dX7_sortByPath_45 ?_
        refine iaX X (by omega) dX7_sortByPath_46 h (fun j4 hj4 h => ?_)
        refine isX X (by omega) dX7_sortByPath_47 h (fun j5 hj5 h => ?_)
        refine tv_ns h (fun s6 h => ?_)
        refine tv_iload_n X dX7_sortByPath_48 rfl 3 rfl ?_
        refine tv_iconst X 1 dX7_sortByPath_49 (by decide) ?_
        refine tv_isub X dX7_sortByPath_50 ?_
        refine tv_istore_n X dX7_sortByPath_51 rfl (by decide) [(2, .int (v3 - 1)), (0, .ref (ad 3 v0)), (1, .int v1), (3, .int v3)] rfl ?_
        refine tv_iinc X (v3 + (-1)) dX7_sortByPath_52 3 rfl rfl (by decide) [(3, .int (v3 + (-1))), (2, .int (v3 - 1)), (0, .ref (ad 3 v0)), (1, .int v1)] rfl ?_
        refine tv_goto X 14 dX7_sortByPath_55 (by decide) ?_
        refine V.pick [2, 3, 1, 0] rfl ?_
        exact ih s6 v0 v1 (v3 - 1) (v3 + (-1)) (by omega) h
set_option maxHeartbeats 4000000 in
set_option maxRecDepth 100000 in
theorem l_X7_sortByPath_2 {Γ : Cx} {Ω : Wd} {ad : Nat → Nat → Nat} {A : Nat → Prop} {res : St × Unit} (X : Fx Γ Ω A cX7_sortByPath 4 "MappingTexts$Version" rm_X7_sortByPath none) : ∀ (n : Nat) (σ : St) (v0 : Nat) (v1 : Int32) (_ : v0 < 8), f_X7_sortByPath_2 n σ v0 v1 = some res → V Γ (0, 0) (Qe Γ (0, 0) A (Qcv (PicX Ω ad A) A res)) A 4 (PicX Ω ad A σ) 2 [(0, .ref (ad 3 v0)), (1, .int v1)] [] := by
  intro n
  induction n with
  | zero =>
    intro σ v0 v1 bv0 h
    cases (show none = some res from h)
  | succ n ih =>
    intro σ v0 v1 bv0 h
    rw [f_X7_sortByPath_2] at h
    refine tv_iload_n X dX7_sortByPath_2 rfl 1 rfl ?_
    refine tv_aload_n X dX7_sortByPath_3 rfl 0 rfl ?_
    refine gX6_3 X (by omega) gw_1_201 dX7_sortByPath_4 ?_
    refine tv_icmp_ge X 71 dX7_sortByPath_7 (by decide) h (fun h => ?_) (fun h => ?_)
    · exact tv_vret X dX7_sortByPath_71 h
    · refine tv_iload_n X dX7_sortByPath_10 rfl 1 rfl ?_
      refine tv_istore_n X dX7_sortByPath_11 rfl (by decide) [(2, .int v1), (0, .ref (ad 3 v0)), (1, .int v1)] rfl ?_
      refine tv_iload_n X dX7_sortByPath_12 rfl 2 rfl ?_
      refine tv_istore_n X dX7_sortByPath_13 rfl (by decide) [(3, .int v1), (2, .int v1), (0, .ref (ad 3 v0)), (1, .int v1)] rfl ?_
      refine V.pick [2, 3, 1, 0] rfl ?_
      exact l_X7_sortByPath_14 X ih fl σ v0 v1 v1 v1 (by omega) h
set_option maxHeartbeats 4000000 in
set_option maxRecDepth 100000 in
theorem c_X7_sortByPath (l : Launch) (Ω : Wd) (ad : Nat → Nat → Nat) (A : Nat → Prop) (σ : St) (o : Nat) (bo : o < 8) {res : St × Unit} (h : f_X7_sortByPath σ o = some res) : Met l yX7_sortByPath (wsO yX7_sortByPath cX7_sortByPath 4 none) rm_X7_sortByPath (PcZ Ω A (PicX Ω ad A σ) [.ref (ad 3 o)]) (Qcv (PicX Ω ad A) A res) 0 0 A := by
  refine Met.ofV (by decide) rfl (fun Γ hΓ X => ?_)
  have X : Fx Γ Ω A cX7_sortByPath 4 "MappingTexts$Version" rm_X7_sortByPath none := X
  unfold f_X7_sortByPath at h
  show V Γ (0, 0) _ A 4 _ 0 [(0, .ref (ad 3 o))] []
  refine tv_iconst X 0 dX7_sortByPath_0 (by decide) ?_
  refine tv_istore_n X dX7_sortByPath_1 rfl (by decide) [(1, .int 0), (0, .ref (ad 3 o))] rfl ?_
  refine V.pick [1, 0] rfl ?_
  exact l_X7_sortByPath_2 X fl σ o 0 (by omega) h
