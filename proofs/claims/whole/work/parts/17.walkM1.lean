set_option maxHeartbeats 4000000 in
set_option maxRecDepth 100000 in
theorem l_X9_rule_240 {Γ : Cx} {Ω : Wd} {ad : Nat → Nat → Nat} {A : Nat → Prop} {res : St × Unit} (X : Fx Γ Ω A cX9_rule 3 "MappingTextsModel" rm_X9_rule none) (σ : St) (v1 : Int32) (v2 : Int32) (h : f_X9_rule_240 σ v1 v2 = some res) : V Γ (0, 0) (Qe Γ (0, 0) A (Qcv (PicM Ω ad A) A res)) A 3 (PicM Ω ad A σ) 240 [(0, .ref (ad 0 0)), (1, .int v1), (2, .int v2)] [] := by
  unfold f_X9_rule_240 at h
  refine tv_aload_n X dX9_rule_240 rfl 0 rfl ?_
  refine tv_bipush X 58 dX9_rule_241 (by decide) ?_
  obtain ⟨s31, _u243, hs31, h⟩ := cl_some h
  refine tv_callVv (st := []) X (c_X9_want Γ.2.1 Ω ad A σ 58 hs31) ⟨gw_5_220, gw_5_217, gw_1_10, q_X9_want, rfl, rfl, ⟨Nat.le_of_ble_eq_true rfl, Nat.le_of_ble_eq_true rfl⟩⟩ gw_5_219 gw_p_52 (fun H _ hz _ => PP.recv (f := 0) (i := 0) X.2.1 hz.1 (show 0 < 1 by omega) rfl rfl) rfl rfl (Nat.le_of_ble_eq_true rfl) dX9_rule_243 ?_
  refine tv_aload_n X dX9_rule_246 rfl 0 rfl ?_
  refine gM8_29 X (by omega) gw_5_33 dX9_rule_247 ?_
  refine tv_iload_n X dX9_rule_250 rfl 2 rfl ?_
  refine tv_aload_n X dX9_rule_251 rfl 0 rfl ?_
  obtain ⟨s32, x33, hs32, h⟩ := cl_some h
  refine tv_callVi (st := [.int v2, .ref (ad 1 13)]) X (c_X9_wantKind Γ.2.1 Ω ad A s31 hs32) ⟨gw_5_234, gw_5_231, gw_1_10, q_X9_wantKind, rfl, rfl, ⟨Nat.le_of_ble_eq_true rfl, Nat.le_of_ble_eq_true rfl⟩⟩ gw_5_233 gw_p_55 (fun H _ hz _ => PP.recv (f := 0) (i := 0) X.2.1 hz.1 (show 0 < 1 by omega) rfl rfl) rfl rfl (Nat.le_of_ble_eq_true rfl) dX9_rule_252 ?_
  refine isM (n := 64) X (by omega) rfl dX9_rule_255 h (fun j34 hj34 h => ?_)
  refine tv_ns h (fun s35 h => ?_)
  refine tv_aload_n X dX9_rule_256 rfl 0 rfl ?_
  refine tv_bipush X 59 dX9_rule_257 (by decide) ?_
  obtain ⟨s36, _u259, hs36, h⟩ := cl_some h
  refine tv_callVv (st := []) X (c_X9_want Γ.2.1 Ω ad A s35 59 hs36) ⟨gw_5_220, gw_5_217, gw_1_10, q_X9_want, rfl, rfl, ⟨Nat.le_of_ble_eq_true rfl, Nat.le_of_ble_eq_true rfl⟩⟩ gw_5_219 gw_p_52 (fun H _ hz _ => PP.recv (f := 0) (i := 0) X.2.1 hz.1 (show 0 < 1 by omega) rfl rfl) rfl rfl (Nat.le_of_ble_eq_true rfl) dX9_rule_259 ?_
  refine tv_aload_n X dX9_rule_262 rfl 0 rfl ?_
  refine gM8_12 X (by omega) gw_5_16 dX9_rule_263 ?_
  refine tv_iload_n X dX9_rule_266 rfl 1 rfl ?_
  refine tv_dup2 X dX9_rule_267 rfl rfl ?_
  refine iaM (n := 8) X (by omega) rfl dX9_rule_268 h (fun j37 hj37 h => ?_)
  refine tv_iconst X 1 dX9_rule_269 (by decide) ?_
  refine tv_iadd X dX9_rule_270 ?_
  refine isM (n := 8) X (by omega) rfl dX9_rule_271 h (fun j38 hj38 h => ?_)
  refine tv_ns h (fun s39 h => ?_)
  exact tv_vret X dX9_rule_272 h
set_option maxHeartbeats 4000000 in
set_option maxRecDepth 100000 in
theorem l_X9_rule_155 {Γ : Cx} {Ω : Wd} {ad : Nat → Nat → Nat} {A : Nat → Prop} {res : St × Unit} (X : Fx Γ Ω A cX9_rule 3 "MappingTextsModel" rm_X9_rule none) (σ : St) (v1 : Int32) (v2 : Int32) (h : f_X9_rule_155 σ v1 v2 = some res) : V Γ (0, 0) (Qe Γ (0, 0) A (Qcv (PicM Ω ad A) A res)) A 3 (PicM Ω ad A σ) 155 [(0, .ref (ad 0 0)), (1, .int v1), (2, .int v2)] [] := by
  unfold f_X9_rule_155 at h
  refine tv_aload_n X dX9_rule_155 rfl 0 rfl ?_
  refine gM8_31 X (by omega) gw_5_35 dX9_rule_156 ?_
  refine tv_aload_n X dX9_rule_159 rfl 0 rfl ?_
  refine gM8_34 X (by omega) gw_5_38 dX9_rule_160 ?_
  refine iaM (n := 2001) X (by omega) rfl dX9_rule_163 h (fun j21 hj21 h => ?_)
  refine tv_bipush X 42 dX9_rule_164 (by decide) ?_
  refine tv_icmp_ne X 240 dX9_rule_166 (by decide) h (fun h => ?_) (fun h => ?_)
  · exact l_X9_rule_240 X σ v1 v2 h
  · refine tv_aload_n X dX9_rule_169 rfl 0 rfl ?_
    refine gM8_26 X (by omega) gw_5_30 dX9_rule_170 ?_
    refine tv_iload_n X dX9_rule_173 rfl 2 rfl ?_
    refine tv_iconst X 1 dX9_rule_174 (by decide) ?_
    refine zsM (n := 64) X (by omega) rfl dX9_rule_175 h (fun j22 hj22 h => ?_)
    refine tv_ns h (fun s23 h => ?_)
    refine tv_aload_n X dX9_rule_176 rfl 0 rfl ?_
    refine tv_dup X dX9_rule_177 rfl ?_
    refine gM8_34 X (by omega) gw_5_38 dX9_rule_178 ?_
    refine tv_iconst X 1 dX9_rule_181 (by decide) ?_
    refine tv_iadd X dX9_rule_182 ?_
    refine pM8_34 X (by omega) gw_5_38 dX9_rule_183 ?_
    refine tv_ns h (fun s24 h => ?_)
    refine tv_aload_n X dX9_rule_186 rfl 0 rfl ?_
    refine gM8_31 X (by omega) gw_5_35 dX9_rule_187 ?_
    refine tv_aload_n X dX9_rule_190 rfl 0 rfl ?_
    refine gM8_34 X (by omega) gw_5_38 dX9_rule_191 ?_
    refine iaM (n := 2001) X (by omega) rfl dX9_rule_194 h (fun j25 hj25 h => ?_)
    refine tv_iconst X 1 dX9_rule_195 (by decide) ?_
    refine tv_icmp_ne X 240 dX9_rule_196 (by decide) h (fun h => ?_) (fun h => ?_)
    · exact l_X9_rule_240 X s24 v1 v2 h
    · refine tv_aload_n X dX9_rule_199 rfl 0 rfl ?_
      refine gM8_27 X (by omega) gw_5_31 dX9_rule_200 ?_
      refine tv_iload_n X dX9_rule_203 rfl 2 rfl ?_
      refine tv_aload_n X dX9_rule_204 rfl 0 rfl ?_
      refine gM8_33 X (by omega) gw_5_37 dX9_rule_205 ?_
      refine tv_aload_n X dX9_rule_208 rfl 0 rfl ?_
      refine gM8_34 X (by omega) gw_5_38 dX9_rule_209 ?_
      refine iaM (n := 2001) X (by omega) rfl dX9_rule_212 h (fun j26 hj26 h => ?_)
      refine isM (n := 64) X (by omega) rfl dX9_rule_213 h (fun j27 hj27 h => ?_)
      refine tv_ns h (fun s28 h => ?_)
      refine tv_aload_n X dX9_rule_214 rfl 0 rfl ?_
      refine tv_aload_n X dX9_rule_215 rfl 0 rfl ?_
      refine gM8_34 X (by omega) gw_5_38 dX9_rule_216 ?_
      refine tv_aload_n X dX9_rule_219 rfl 0 rfl ?_
      refine gM8_28 X (by omega) gw_5_32 dX9_rule_220 ?_
      refine tv_bipush X 12 dX9_rule_223 (by decide) ?_
      refine tv_iload_n X dX9_rule_225 rfl 2 rfl ?_
      refine tv_imul X dX9_rule_226 ?_
      obtain ⟨s29, _u227, hs29, h⟩ := cl_some h
      refine tv_callVv (st := []) X (c_X9_copyName Γ.2.1 Ω ad A s28 (gi s28 834 0) 6 (12 * v2) (by omega) hs29) ⟨gw_5_230, gw_5_227, gw_1_10, q_X9_copyName, rfl, rfl, ⟨Nat.le_of_ble_eq_true rfl, Nat.le_of_ble_eq_true rfl⟩⟩ gw_5_229 gw_p_54 (fun H _ hz _ => PP.recv (f := 0) (i := 0) X.2.1 hz.1 (show 0 < 1 by omega) rfl rfl) rfl rfl (Nat.le_of_ble_eq_true rfl) dX9_rule_227 ?_
      refine tv_aload_n X dX9_rule_230 rfl 0 rfl ?_
      refine tv_dup X dX9_rule_231 rfl ?_
      refine gM8_34 X (by omega) gw_5_38 dX9_rule_232 ?_
      refine tv_iconst X 1 dX9_rule_235 (by decide) ?_
      refine tv_iadd X dX9_rule_236 ?_
      refine pM8_34 X (by omega) gw_5_38 dX9_rule_237 ?_
      refine tv_ns h (fun s30 h => ?_)
      exact l_X9_rule_240 X s30 v1 v2 h
set_option maxHeartbeats 4000000 in
set_option maxRecDepth 100000 in
theorem c_X9_rule (l : Launch) (Ω : Wd) (ad : Nat → Nat → Nat) (A : Nat → Prop) (σ : St) (a1 : Int32) {res : St × Unit} (h : f_X9_rule σ a1 = some res) : Met l yX9_rule (wsO yX9_rule cX9_rule 3 none) rm_X9_rule (PcZ Ω A (PicM Ω ad A σ) [.ref (ad 0 0), .int a1]) (Qcv (PicM Ω ad A) A res) 0 0 A := by
  refine Met.ofV (by decide) rfl (fun Γ hΓ X => ?_)
  have X : Fx Γ Ω A cX9_rule 3 "MappingTextsModel" rm_X9_rule none := X
  unfold f_X9_rule at h
  show V Γ (0, 0) _ A 3 _ 0 [(0, .ref (ad 0 0)), (1, .int a1)] []
  refine tv_aload_n X dX9_rule_0 rfl 0 rfl ?_
  refine gM8_12 X (by omega) gw_5_16 dX9_rule_1 ?_
  refine tv_iload_n X dX9_rule_4 rfl 1 rfl ?_
  refine iaM (n := 8) X (by omega) rfl dX9_rule_5 h (fun j1 hj1 h => ?_)
  refine tv_bipush X 8 dX9_rule_6 (by decide) ?_
  refine tv_icmp_ne X 26 dX9_rule_8 (by decide) h (fun h => ?_) (fun h => ?_)
  · refine tv_bipush X 8 dX9_rule_26 (by decide) ?_
    refine tv_iload_n X dX9_rule_28 rfl 1 rfl ?_
    refine tv_imul X dX9_rule_29 ?_
    refine tv_aload_n X dX9_rule_30 rfl 0 rfl ?_
    refine gM8_12 X (by omega) gw_5_16 dX9_rule_31 ?_
    refine tv_iload_n X dX9_rule_34 rfl 1 rfl ?_
    refine iaM (n := 8) X (by omega) rfl dX9_rule_35 h (fun j2 hj2 h => ?_)
    refine tv_iadd X dX9_rule_36 ?_
    refine tv_istore_n X dX9_rule_37 rfl (by decide) [(2, .int ((8 * a1) + (ga σ 1 1 j2))), (0, .ref (ad 0 0)), (1, .int a1)] rfl ?_
    refine tv_aload_n X dX9_rule_38 rfl 1 rfl ?_
    refine tv_dup X dX9_rule_39 rfl ?_
    refine gM8_34 X (by omega) gw_5_38 dX9_rule_40 ?_
    refine tv_iconst X 1 dX9_rule_43 (by decide) ?_
    refine tv_iadd X dX9_rule_44 ?_
    refine pM8_34 X (by omega) gw_5_38 dX9_rule_45 ?_
    refine tv_ns h (fun s3 h => ?_)
    refine tv_aload_n X dX9_rule_48 rfl 1 rfl ?_
    refine gM8_24 X (by omega) gw_5_28 dX9_rule_49 ?_
    refine tv_iload_n X dX9_rule_52 rfl 0 rfl ?_
    refine tv_iconst X 0 dX9_rule_53 (by decide) ?_
    refine isM (n := 64) X (by omega) rfl dX9_rule_54 h (fun j4 hj4 h => ?_)
    refine tv_ns h (fun s5 h => ?_)
    refine tv_aload_n X dX9_rule_55 rfl 1 rfl ?_
    refine gM8_27 X (by omega) gw_5_31 dX9_rule_56 ?_
    refine tv_iload_n X dX9_rule_59 rfl 0 rfl ?_
    refine tv_iconst X 0 dX9_rule_60 (by decide) ?_
    refine isM (n := 64) X (by omega) rfl dX9_rule_61 h (fun j6 hj6 h => ?_)
    refine tv_ns h (fun s7 h => ?_)
    refine tv_aload_n X dX9_rule_62 rfl 1 rfl ?_
    refine gM8_26 X (by omega) gw_5_30 dX9_rule_63 ?_
    refine tv_iload_n X dX9_rule_66 rfl 0 rfl ?_
    refine tv_iconst X 0 dX9_rule_67 (by decide) ?_
    refine zsM (n := 64) X (by omega) rfl dX9_rule_68 h (fun j8 hj8 h => ?_)
    refine tv_ns h (fun s9 h => ?_)
    refine tv_aload_n X dX9_rule_69 rfl 1 rfl ?_
    refine gM8_31 X (by omega) gw_5_35 dX9_rule_70 ?_
    refine tv_aload_n X dX9_rule_73 rfl 1 rfl ?_
    refine gM8_34 X (by omega) gw_5_38 dX9_rule_74 ?_
    refine iaM (n := 2001) X (by omega) rfl dX9_rule_77 h (fun j10 hj10 h => ?_)
    refine tv_iconst X 1 dX9_rule_78 (by decide) ?_
    refine tv_icmp_ne X 126 dX9_rule_79 (by decide) h (fun h => ?_) (fun h => ?_)
    · refine tv_aload_n X dX9_rule_126 rfl 1 rfl ?_
      refine gM8_31 X (by omega) gw_5_35 dX9_rule_127 ?_
      refine tv_aload_n X dX9_rule_130 rfl 1 rfl ?_
      refine gM8_34 X (by omega) gw_5_38 dX9_rule_131 ?_
      refine iaM (n := 2001) X (by omega) rfl dX9_rule_134 h (fun j11 hj11 h => ?_)
      refine tv_bipush X 42 dX9_rule_135 (by decide) ?_
      refine tv_icmp_eq X 155 dX9_rule_137 (by decide) h (fun h => ?_) (fun h => ?_)
      · refine V.pick [1, 2, 0] rfl ?_
        exact l_X9_rule_155 X s9 a1 ((8 * a1) + (ga σ 1 1 j2)) h
      · refine tv_aload_n X dX9_rule_140 rfl 1 rfl ?_
        refine tv_iconst X 2 dX9_rule_141 (by decide) ?_
        refine tv_aload_n X dX9_rule_142 rfl 1 rfl ?_
        refine gM8_32 X (by omega) gw_5_36 dX9_rule_143 ?_
        refine tv_aload_n X dX9_rule_146 rfl 1 rfl ?_
        refine gM8_34 X (by omega) gw_5_38 dX9_rule_147 ?_
        refine iaM (n := 2001) X (by omega) rfl dX9_rule_150 h (fun j12 hj12 h => ?_)
        obtain ⟨s13, _u151, hs13, h⟩ := cl_some h
        refine tv_callVv (st := []) X (c_X9_fails Γ.2.1 Ω ad A s9 2 (ga s9 1 15 j12) hs13) ⟨gw_5_208, gw_5_205, gw_1_10, q_X9_fails, rfl, rfl, ⟨Nat.le_of_ble_eq_true rfl, Nat.le_of_ble_eq_true rfl⟩⟩ gw_5_207 gw_p_49 (fun H _ hz _ => PP.recv (f := 0) (i := 0) X.2.1 hz.1 (show 0 < 1 by omega) rfl rfl) rfl rfl (Nat.le_of_ble_eq_true rfl) dX9_rule_151 ?_
        exact tv_vret X dX9_rule_154 h
    · refine tv_aload_n X dX9_rule_82 rfl 1 rfl ?_
      refine gM8_24 X (by omega) gw_5_28 dX9_rule_83 ?_
      refine tv_iload_n X dX9_rule_86 rfl 0 rfl ?_
      refine tv_aload_n X dX9_rule_87 rfl 1 rfl ?_
      refine gM8_33 X (by omega) gw_5_37 dX9_rule_88 ?_
      refine tv_aload_n X dX9_rule_91 rfl 1 rfl ?_
      refine gM8_34 X (by omega) gw_5_38 dX9_rule_92 ?_
      refine iaM (n := 2001) X (by omega) rfl dX9_rule_95 h (fun j14 hj14 h => ?_)
      refine isM (n := 64) X (by omega) rfl dX9_rule_96 h (fun j15 hj15 h => ?_)
      refine tv_ns h (fun s16 h => ?_)
      refine tv_aload_n X dX9_rule_97 rfl 1 rfl ?_
      refine tv_aload_n X dX9_rule_98 rfl 1 rfl ?_
      refine gM8_34 X (by omega) gw_5_38 dX9_rule_99 ?_
      refine tv_aload_n X dX9_rule_102 rfl 1 rfl ?_
      refine gM8_25 X (by omega) gw_5_29 dX9_rule_103 ?_
      refine tv_bipush X 12 dX9_rule_106 (by decide) ?_
      refine tv_iload_n X dX9_rule_108 rfl 0 rfl ?_
      refine tv_imul X dX9_rule_109 ?_
      obtain ⟨s17, _u110, hs17, h⟩ := cl_some h
      refine tv_callVv (st := []) X (c_X9_copyName Γ.2.1 Ω ad A s16 (gi s16 834 0) 5 (12 * ((8 * a1) + (ga σ 1 1 j2))) (by omega) hs17) ⟨gw_5_230, gw_5_227, gw_1_10, q_X9_copyName, rfl, rfl, ⟨Nat.le_of_ble_eq_true rfl, Nat.le_of_ble_eq_true rfl⟩⟩ gw_5_229 gw_p_54 (fun H _ hz _ => PP.recv (f := 0) (i := 0) X.2.1 hz.1 (show 0 < 1 by omega) rfl rfl) rfl rfl (Nat.le_of_ble_eq_true rfl) dX9_rule_110 ?_
      refine tv_aload_n X dX9_rule_113 rfl 1 rfl ?_
      refine tv_dup X dX9_rule_114 rfl ?_
      refine gM8_34 X (by omega) gw_5_38 dX9_rule_115 ?_
      refine tv_iconst X 1 dX9_rule_118 (by decide) ?_
      refine tv_iadd X dX9_rule_119 ?_
      refine pM8_34 X (by omega) gw_5_38 dX9_rule_120 ?_
      refine tv_ns h (fun s18 h => ?_)
      refine tv_goto X 155 dX9_rule_123 (by decide) ?_
      refine V.pick [1, 2, 0] rfl ?_
      exact l_X9_rule_155 X s18 a1 ((8 * a1) + (ga σ 1 1 j2)) h
  · refine tv_aload_n X dX9_rule_11 rfl 0 rfl ?_
    refine tv_iconst X 3 dX9_rule_12 (by decide) ?_
    refine tv_aload_n X dX9_rule_13 rfl 0 rfl ?_
    refine gM8_32 X (by omega) gw_5_36 dX9_rule_14 ?_
    refine tv_aload_n X dX9_rule_17 rfl 0 rfl ?_
    refine gM8_34 X (by omega) gw_5_38 dX9_rule_18 ?_
    refine iaM (n := 2001) X (by omega) rfl dX9_rule_21 h (fun j19 hj19 h => ?_)
    obtain ⟨s20, _u22, hs20, h⟩ := cl_some h
    refine tv_callVv (st := []) X (c_X9_fails Γ.2.1 Ω ad A σ 3 (ga σ 1 15 j19) hs20) ⟨gw_5_208, gw_5_205, gw_1_10, q_X9_fails, rfl, rfl, ⟨Nat.le_of_ble_eq_true rfl, Nat.le_of_ble_eq_true rfl⟩⟩ gw_5_207 gw_p_49 (fun H _ hz _ => PP.recv (f := 0) (i := 0) X.2.1 hz.1 (show 0 < 1 by omega) rfl rfl) rfl rfl (Nat.le_of_ble_eq_true rfl) dX9_rule_22 ?_
    exact tv_vret X dX9_rule_25 h
set_option maxHeartbeats 4000000 in
set_option maxRecDepth 100000 in
theorem l_X9_limitItem_69 {Γ : Cx} {Ω : Wd} {ad : Nat → Nat → Nat} {A : Nat → Prop} {res : St × Unit} (X : Fx Γ Ω A cX9_limitItem 2 "MappingTextsModel" rm_X9_limitItem none) (σ : St) (h : f_X9_limitItem_69 σ = some res) : V Γ (0, 0) (Qe Γ (0, 0) A (Qcv (PicM Ω ad A) A res)) A 2 (PicM Ω ad A σ) 69 [(0, .ref (ad 0 0))] [] := by
  unfold f_X9_limitItem_69 at h
  refine tv_aload_n X dX9_limitItem_69 rfl 0 rfl ?_
  refine tv_bipush X 59 dX9_limitItem_70 (by decide) ?_
  obtain ⟨s8, _u72, hs8, h⟩ := cl_some h
  refine tv_callVv (st := []) X (c_X9_want Γ.2.1 Ω ad A σ 59 hs8) ⟨gw_5_220, gw_5_217, gw_1_10, q_X9_want, rfl, rfl, ⟨Nat.le_of_ble_eq_true rfl, Nat.le_of_ble_eq_true rfl⟩⟩ gw_5_219 gw_p_52 (fun H _ hz _ => PP.recv (f := 0) (i := 0) X.2.1 hz.1 (show 0 < 1 by omega) rfl rfl) rfl rfl (Nat.le_of_ble_eq_true rfl) dX9_limitItem_72 ?_
  exact tv_vret X dX9_limitItem_75 h
set_option maxHeartbeats 4000000 in
set_option maxRecDepth 100000 in
theorem l_X9_limitItem_22 {Γ : Cx} {Ω : Wd} {ad : Nat → Nat → Nat} {A : Nat → Prop} {res : St × Unit} (X : Fx Γ Ω A cX9_limitItem 2 "MappingTextsModel" rm_X9_limitItem none) (σ : St) (h : f_X9_limitItem_22 σ = some res) : V Γ (0, 0) (Qe Γ (0, 0) A (Qcv (PicM Ω ad A) A res)) A 2 (PicM Ω ad A σ) 22 [(0, .ref (ad 0 0))] [] := by
  unfold f_X9_limitItem_22 at h
  refine tv_aload_n X dX9_limitItem_22 rfl 0 rfl ?_
  refine tv_dup X dX9_limitItem_23 rfl ?_
  refine gM8_34 X (by omega) gw_5_38 dX9_limitItem_24 ?_
  refine tv_iconst X 1 dX9_limitItem_27 (by decide) ?_
  refine tv_iadd X dX9_limitItem_28 ?_
  refine pM8_34 X (by omega) gw_5_38 dX9_limitItem_29 ?_
  refine tv_ns h (fun s3 h => ?_)
  refine tv_aload_n X dX9_limitItem_32 rfl 0 rfl ?_
  refine gM8_34 X (by omega) gw_5_38 dX9_limitItem_33 ?_
  refine tv_istore_n X dX9_limitItem_36 rfl (by decide) [(1, .int (gi s3 834 0)), (0, .ref (ad 0 0))] rfl ?_
  refine tv_aload_n X dX9_limitItem_37 rfl 1 rfl ?_
  refine tv_iconst X 2 dX9_limitItem_38 (by decide) ?_
  obtain ⟨s4, _u39, hs4, h⟩ := cl_some h
  refine tv_callVv (st := []) X (c_X9_want Γ.2.1 Ω ad A s3 2 hs4) ⟨gw_5_220, gw_5_217, gw_1_10, q_X9_want, rfl, rfl, ⟨Nat.le_of_ble_eq_true rfl, Nat.le_of_ble_eq_true rfl⟩⟩ gw_5_219 gw_p_52 (fun H _ hz _ => PP.recv (f := 0) (i := 0) X.2.1 hz.1 (show 0 < 1 by omega) rfl rfl) rfl rfl (Nat.le_of_ble_eq_true rfl) dX9_limitItem_39 ?_
  refine tv_aload_n X dX9_limitItem_42 rfl 1 rfl ?_
  refine gM8_35 X (by omega) gw_5_39 dX9_limitItem_43 ?_
  refine tv_if_ne X 69 dX9_limitItem_46 (by decide) h (fun h => ?_) (fun h => ?_)
  · refine V.pick [1] rfl ?_
    exact l_X9_limitItem_69 X s4 h
  · refine tv_aload_n X dX9_limitItem_49 rfl 1 rfl ?_
    refine gM8_45 X (by omega) gw_5_49 dX9_limitItem_50 ?_
    refine tv_aload_n X dX9_limitItem_53 rfl 1 rfl ?_
    refine gM8_44 X (by omega) gw_5_48 dX9_limitItem_54 ?_
    refine tv_iload_n X dX9_limitItem_57 rfl 0 rfl ?_
    refine isM (n := 700) X (by omega) rfl dX9_limitItem_58 h (fun j5 hj5 h => ?_)
    refine tv_ns h (fun s6 h => ?_)
    refine tv_aload_n X dX9_limitItem_59 rfl 1 rfl ?_
    refine tv_dup X dX9_limitItem_60 rfl ?_
    refine gM8_44 X (by omega) gw_5_48 dX9_limitItem_61 ?_
    refine tv_iconst X 1 dX9_limitItem_64 (by decide) ?_
    refine tv_iadd X dX9_limitItem_65 ?_
    refine pM8_44 X (by omega) gw_5_48 dX9_limitItem_66 ?_
    refine tv_ns h (fun s7 h => ?_)
    refine V.pick [1] rfl ?_
    exact l_X9_limitItem_69 X s7 h
set_option maxHeartbeats 4000000 in
set_option maxRecDepth 100000 in
theorem c_X9_limitItem (l : Launch) (Ω : Wd) (ad : Nat → Nat → Nat) (A : Nat → Prop) (σ : St) {res : St × Unit} (h : f_X9_limitItem σ = some res) : Met l yX9_limitItem (wsO yX9_limitItem cX9_limitItem 2 none) rm_X9_limitItem (PcZ Ω A (PicM Ω ad A σ) [.ref (ad 0 0)]) (Qcv (PicM Ω ad A) A res) 0 0 A := by
  refine Met.ofV (by decide) rfl (fun Γ hΓ X => ?_)
  have X : Fx Γ Ω A cX9_limitItem 2 "MappingTextsModel" rm_X9_limitItem none := X
  unfold f_X9_limitItem at h
  show V Γ (0, 0) _ A 2 _ 0 [(0, .ref (ad 0 0))] []
  refine tv_aload_n X dX9_limitItem_0 rfl 0 rfl ?_
  refine gM8_44 X (by omega) gw_5_48 dX9_limitItem_1 ?_
  refine tv_if_le X 22 dX9_limitItem_4 (by decide) h (fun h => ?_) (fun h => ?_)
  · exact l_X9_limitItem_22 X σ h
  · refine tv_aload_n X dX9_limitItem_7 rfl 0 rfl ?_
    refine tv_bipush X 10 dX9_limitItem_8 (by decide) ?_
    refine tv_aload_n X dX9_limitItem_10 rfl 0 rfl ?_
    refine gM8_32 X (by omega) gw_5_36 dX9_limitItem_11 ?_
    refine tv_aload_n X dX9_limitItem_14 rfl 0 rfl ?_
    refine gM8_34 X (by omega) gw_5_38 dX9_limitItem_15 ?_
    refine iaM (n := 2001) X (by omega) rfl dX9_limitItem_18 h (fun j1 hj1 h => ?_)
    obtain ⟨s2, _u19, hs2, h⟩ := cl_some h
    refine tv_callVv (st := []) X (c_X9_note Γ.2.1 Ω ad A σ 10 (ga σ 1 15 j1) hs2) ⟨gw_6_5, gw_6_2, gw_1_10, q_X9_note, rfl, rfl, ⟨Nat.le_of_ble_eq_true rfl, Nat.le_of_ble_eq_true rfl⟩⟩ gw_6_4 gw_p_57 (fun H _ hz _ => PP.recv (f := 0) (i := 0) X.2.1 hz.1 (show 0 < 1 by omega) rfl rfl) rfl rfl (Nat.le_of_ble_eq_true rfl) dX9_limitItem_19 ?_
    exact l_X9_limitItem_22 X s2 h
set_option maxHeartbeats 4000000 in
set_option maxRecDepth 100000 in
theorem l_X9_text_147 {Γ : Cx} {Ω : Wd} {ad : Nat → Nat → Nat} {A : Nat → Prop} {res : St × Unit} (X : Fx Γ Ω A cX9_text 4 "MappingTextsModel" rm_X9_text none) {k183 : St → Int32 → Option (St × Unit)} (hk183 : ∀ (σ : St) (v1 : Int32), k183 σ v1 = some res → V Γ (0, 0) (Qe Γ (0, 0) A (Qcv (PicM Ω ad A) A res)) A 4 (PicM Ω ad A σ) 183 [(0, .ref (ad 0 0)), (1, .int v1)] []) (σ : St) (v1 : Int32) (v2 : Int64) (h : f_X9_text_147 k183 σ v1 v2 = some res) : V Γ (0, 0) (Qe Γ (0, 0) A (Qcv (PicM Ω ad A) A res)) A 4 (PicM Ω ad A σ) 147 [(0, .ref (ad 0 0)), (1, .int v1), (2, .long v2)] [] := by
  unfold f_X9_text_147 at h
  refine tv_lload_n X dX9_text_147 rfl 2 rfl ?_
  refine tv_ldc2 X 1920298085 gw_5_221 dX9_text_148 ?_
  refine tv_lcmp X dX9_text_151 ?_
  refine tv_if_ne X 163 dX9_text_152 (by decide) h (fun h => ?_) (fun h => ?_)
  · refine tv_lload_n X dX9_text_163 rfl 2 rfl ?_
    refine tv_ldc2 X 465625246068 gw_5_222 dX9_text_164 ?_
    refine tv_lcmp X dX9_text_167 ?_
    refine tv_if_ne X 178 dX9_text_168 (by decide) h (fun h => ?_) (fun h => ?_)
    · refine tv_aload_n X dX9_text_178 rfl 0 rfl ?_
      refine tv_iload_n X dX9_text_179 rfl 1 rfl ?_
      obtain ⟨s10, _u180, hs10, h⟩ := cl_some h
      refine tv_callVv (st := []) X (c_X9_field Γ.2.1 Ω ad A σ v1 hs10) ⟨gw_6_9, gw_6_6, gw_1_10, q_X9_field, rfl, rfl, ⟨Nat.le_of_ble_eq_true rfl, Nat.le_of_ble_eq_true rfl⟩⟩ gw_6_8 gw_p_58 (fun H _ hz _ => PP.recv (f := 0) (i := 0) X.2.1 hz.1 (show 0 < 1 by omega) rfl rfl) rfl rfl (Nat.le_of_ble_eq_true rfl) dX9_text_180 ?_
      refine V.pick [0, 1] rfl ?_
      exact hk183 s10 v1 h
    · refine tv_aload_n X dX9_text_171 rfl 0 rfl ?_
      obtain ⟨s11, _u172, hs11, h⟩ := cl_some h
      refine tv_callVv (st := []) X (c_X9_limitItem Γ.2.1 Ω ad A σ hs11) ⟨gw_6_1, gw_5_238, gw_1_10, q_X9_limitItem, rfl, rfl, ⟨Nat.le_of_ble_eq_true rfl, Nat.le_of_ble_eq_true rfl⟩⟩ gw_6_0 gw_p_56 (fun H _ hz _ => PP.recv (f := 0) (i := 0) X.2.1 hz.1 (show 0 < 1 by omega) rfl rfl) rfl rfl (Nat.le_of_ble_eq_true rfl) dX9_text_172 ?_
      refine tv_goto X 183 dX9_text_175 (by decide) ?_
      refine V.pick [0, 1] rfl ?_
      exact hk183 s11 v1 h
  · refine tv_aload_n X dX9_text_155 rfl 0 rfl ?_
    refine tv_iload_n X dX9_text_156 rfl 1 rfl ?_
    obtain ⟨s12, _u157, hs12, h⟩ := cl_some h
    refine tv_callVv (st := []) X (c_X9_rule Γ.2.1 Ω ad A σ v1 hs12) ⟨gw_5_226, gw_5_223, gw_1_10, q_X9_rule, rfl, rfl, ⟨Nat.le_of_ble_eq_true rfl, Nat.le_of_ble_eq_true rfl⟩⟩ gw_5_225 gw_p_53 (fun H _ hz _ => PP.recv (f := 0) (i := 0) X.2.1 hz.1 (show 0 < 1 by omega) rfl rfl) rfl rfl (Nat.le_of_ble_eq_true rfl) dX9_text_157 ?_
    refine tv_goto X 183 dX9_text_160 (by decide) ?_
    refine V.pick [0, 1] rfl ?_
    exact hk183 s12 v1 h
set_option maxHeartbeats 4000000 in
set_option maxRecDepth 100000 in
theorem l_X9_text_130 {Γ : Cx} {Ω : Wd} {ad : Nat → Nat → Nat} {A : Nat → Prop} {res : St × Unit} (X : Fx Γ Ω A cX9_text 4 "MappingTextsModel" rm_X9_text none) {k183 : St → Int32 → Option (St × Unit)} (hk183 : ∀ (σ : St) (v1 : Int32), k183 σ v1 = some res → V Γ (0, 0) (Qe Γ (0, 0) A (Qcv (PicM Ω ad A) A res)) A 4 (PicM Ω ad A σ) 183 [(0, .ref (ad 0 0)), (1, .int v1)] []) (σ : St) (v1 : Int32) (h : f_X9_text_130 k183 σ v1 = some res) : V Γ (0, 0) (Qe Γ (0, 0) A (Qcv (PicM Ω ad A) A res)) A 4 (PicM Ω ad A σ) 130 [(0, .ref (ad 0 0)), (1, .int v1)] [] := by
  unfold f_X9_text_130 at h
  refine tv_aload_n X dX9_text_130 rfl 0 rfl ?_
  refine tv_iconst X 2 dX9_text_131 (by decide) ?_
  refine tv_aload_n X dX9_text_132 rfl 0 rfl ?_
  refine gM8_32 X (by omega) gw_5_36 dX9_text_133 ?_
  refine tv_aload_n X dX9_text_136 rfl 0 rfl ?_
  refine gM8_34 X (by omega) gw_5_38 dX9_text_137 ?_
  refine iaM (n := 2001) X (by omega) rfl dX9_text_140 h (fun j13 hj13 h => ?_)
  obtain ⟨s14, _u141, hs14, h⟩ := cl_some h
  refine tv_callVv (st := []) X (c_X9_fails Γ.2.1 Ω ad A σ 2 (ga σ 1 15 j13) hs14) ⟨gw_5_208, gw_5_205, gw_1_10, q_X9_fails, rfl, rfl, ⟨Nat.le_of_ble_eq_true rfl, Nat.le_of_ble_eq_true rfl⟩⟩ gw_5_207 gw_p_49 (fun H _ hz _ => PP.recv (f := 0) (i := 0) X.2.1 hz.1 (show 0 < 1 by omega) rfl rfl) rfl rfl (Nat.le_of_ble_eq_true rfl) dX9_text_141 ?_
  refine tv_goto X 183 dX9_text_144 (by decide) ?_
  exact hk183 s14 v1 h
set_option maxHeartbeats 4000000 in
set_option maxRecDepth 100000 in
theorem l_X9_text_94 {Γ : Cx} {Ω : Wd} {ad : Nat → Nat → Nat} {A : Nat → Prop} {res : St × Unit} (X : Fx Γ Ω A cX9_text 4 "MappingTextsModel" rm_X9_text none) {k183 : St → Int32 → Option (St × Unit)} (hk183 : ∀ (σ : St) (v1 : Int32), k183 σ v1 = some res → V Γ (0, 0) (Qe Γ (0, 0) A (Qcv (PicM Ω ad A) A res)) A 4 (PicM Ω ad A σ) 183 [(0, .ref (ad 0 0)), (1, .int v1)] []) (σ : St) (v1 : Int32) (v2 : Int64) (h : f_X9_text_94 k183 σ v1 v2 = some res) : V Γ (0, 0) (Qe Γ (0, 0) A (Qcv (PicM Ω ad A) A res)) A 4 (PicM Ω ad A σ) 94 [(0, .ref (ad 0 0)), (1, .int v1), (2, .long v2)] [] := by
  unfold f_X9_text_94 at h
  refine tv_aload_n X dX9_text_94 rfl 0 rfl ?_
  refine gM8_31 X (by omega) gw_5_35 dX9_text_95 ?_
  refine tv_aload_n X dX9_text_98 rfl 0 rfl ?_
  refine gM8_34 X (by omega) gw_5_38 dX9_text_99 ?_
  refine iaM (n := 2001) X (by omega) rfl dX9_text_102 h (fun j9 hj9 h => ?_)
  refine tv_iconst X 1 dX9_text_103 (by decide) ?_
  refine tv_icmp_ne X 130 dX9_text_104 (by decide) h (fun h => ?_) (fun h => ?_)
  · refine V.pick [0, 1] rfl ?_
    exact l_X9_text_130 X hk183 σ v1 h
  · refine tv_aload_n X dX9_text_107 rfl 0 rfl ?_
    refine gM8_47 X (by omega) gw_5_51 dX9_text_108 ?_
    refine tv_if_le X 147 dX9_text_111 (by decide) h (fun h => ?_) (fun h => ?_)
    · exact l_X9_text_147 X hk183 σ v1 v2 h
    · refine tv_lload_n X dX9_text_114 rfl 2 rfl ?_
      refine tv_ldc2 X 1920298085 gw_5_221 dX9_text_115 ?_
      refine tv_lcmp X dX9_text_118 ?_
      refine tv_if_eq X 130 dX9_text_119 (by decide) h (fun h => ?_) (fun h => ?_)
      · refine V.pick [0, 1] rfl ?_
        exact l_X9_text_130 X hk183 σ v1 h
      · refine tv_lload_n X dX9_text_122 rfl 2 rfl ?_
        refine tv_ldc2 X 465625246068 gw_5_222 dX9_text_123 ?_
        refine tv_lcmp X dX9_text_126 ?_
        refine tv_if_ne X 147 dX9_text_127 (by decide) h (fun h => ?_) (fun h => ?_)
        · exact l_X9_text_147 X hk183 σ v1 v2 h
        · refine V.pick [0, 1] rfl ?_
          exact l_X9_text_130 X hk183 σ v1 h
set_option maxHeartbeats 4000000 in
set_option maxRecDepth 100000 in
theorem l_X9_text_183 {Γ : Cx} {Ω : Wd} {ad : Nat → Nat → Nat} {A : Nat → Prop} {res : St × Unit} (X : Fx Γ Ω A cX9_text 4 "MappingTextsModel" rm_X9_text none) {k10 : St → Int32 → Option (St × Unit)} (hk10 : ∀ (σ : St) (v1 : Int32), k10 σ v1 = some res → V Γ (0, 0) (Qe Γ (0, 0) A (Qcv (PicM Ω ad A) A res)) A 4 (PicM Ω ad A σ) 10 [(0, .ref (ad 0 0)), (1, .int v1)] []) (σ : St) (v1 : Int32) (h : f_X9_text_183 k10 σ v1 = some res) : V Γ (0, 0) (Qe Γ (0, 0) A (Qcv (PicM Ω ad A) A res)) A 4 (PicM Ω ad A σ) 183 [(0, .ref (ad 0 0)), (1, .int v1)] [] := by
  unfold f_X9_text_183 at h
  refine tv_goto X 10 dX9_text_183 (by decide) ?_
  exact hk10 σ v1 h
set_option maxHeartbeats 4000000 in
set_option maxRecDepth 100000 in
theorem l_X9_text_35 {Γ : Cx} {Ω : Wd} {ad : Nat → Nat → Nat} {A : Nat → Prop} {res : St × Unit} (X : Fx Γ Ω A cX9_text 4 "MappingTextsModel" rm_X9_text none) {k10 : St → Int32 → Option (St × Unit)} (hk10 : ∀ (σ : St) (v1 : Int32), k10 σ v1 = some res → V Γ (0, 0) (Qe Γ (0, 0) A (Qcv (PicM Ω ad A) A res)) A 4 (PicM Ω ad A σ) 10 [(0, .ref (ad 0 0)), (1, .int v1)] []) (σ : St) (v1 : Int32) (h : f_X9_text_35 k10 σ v1 = some res) : V Γ (0, 0) (Qe Γ (0, 0) A (Qcv (PicM Ω ad A) A res)) A 4 (PicM Ω ad A σ) 35 [(0, .ref (ad 0 0)), (1, .int v1)] [] := by
  unfold f_X9_text_35 at h
  refine tv_aload_n X dX9_text_35 rfl 0 rfl ?_
  refine tv_aload_n X dX9_text_36 rfl 0 rfl ?_
  refine gM8_34 X (by omega) gw_5_38 dX9_text_37 ?_
  obtain ⟨s3, x4, hs3, h⟩ := cl_some h
  refine tv_callVl (st := []) X (c_X9_word Γ.2.1 Ω ad A σ (gi σ 834 0) hs3) ⟨gw_5_216, gw_5_213, gw_1_10, q_X9_word, rfl, rfl, ⟨Nat.le_of_ble_eq_true rfl, Nat.le_of_ble_eq_true rfl⟩⟩ gw_5_215 gw_p_51 (fun H _ hz _ => PP.recv (f := 0) (i := 0) X.2.1 hz.1 (show 0 < 1 by omega) rfl rfl) rfl rfl (Nat.le_of_ble_eq_true rfl) dX9_text_40 ?_
  refine tv_lstore_n X dX9_text_43 rfl (by decide) [(2, .long x4), (0, .ref (ad 0 0)), (1, .int v1)] rfl ?_
  refine tv_aload_n X dX9_text_44 rfl 1 rfl ?_
  refine gM8_47 X (by omega) gw_5_51 dX9_text_45 ?_
  refine tv_if_le X 94 dX9_text_48 (by decide) h (fun h => ?_) (fun h => ?_)
  · refine V.pick [1, 2, 0] rfl ?_
    exact l_X9_text_94 X (l_X9_text_183 X hk10) s3 v1 x4 h
  · refine tv_aload_n X dX9_text_51 rfl 1 rfl ?_
    refine gM8_31 X (by omega) gw_5_35 dX9_text_52 ?_
    refine tv_aload_n X dX9_text_55 rfl 1 rfl ?_
    refine gM8_34 X (by omega) gw_5_38 dX9_text_56 ?_
    refine iaM (n := 2001) X (by omega) rfl dX9_text_59 h (fun j5 hj5 h => ?_)
    refine tv_bipush X 125 dX9_text_60 (by decide) ?_
    refine tv_icmp_ne X 94 dX9_text_62 (by decide) h (fun h => ?_) (fun h => ?_)
    · refine V.pick [1, 2, 0] rfl ?_
      exact l_X9_text_94 X (l_X9_text_183 X hk10) s3 v1 x4 h
    · refine tv_aload_n X dX9_text_65 rfl 1 rfl ?_
      refine tv_dup X dX9_text_66 rfl ?_
      refine gM8_47 X (by omega) gw_5_51 dX9_text_67 ?_
      refine tv_iconst X 1 dX9_text_70 (by decide) ?_
      refine tv_isub X dX9_text_71 ?_
      refine pM8_47 X (by omega) gw_5_51 dX9_text_72 ?_
      refine tv_ns h (fun s6 h => ?_)
      refine tv_aload_n X dX9_text_75 rfl 1 rfl ?_
      refine tv_dup X dX9_text_76 rfl ?_
      refine gM8_34 X (by omega) gw_5_38 dX9_text_77 ?_
      refine tv_iconst X 1 dX9_text_80 (by decide) ?_
      refine tv_iadd X dX9_text_81 ?_
      refine pM8_34 X (by omega) gw_5_38 dX9_text_82 ?_
      refine tv_ns h (fun s7 h => ?_)
      refine tv_aload_n X dX9_text_85 rfl 1 rfl ?_
      refine tv_bipush X 59 dX9_text_86 (by decide) ?_
      obtain ⟨s8, _u88, hs8, h⟩ := cl_some h
      refine tv_callVv (st := []) X (c_X9_want Γ.2.1 Ω ad A s7 59 hs8) ⟨gw_5_220, gw_5_217, gw_1_10, q_X9_want, rfl, rfl, ⟨Nat.le_of_ble_eq_true rfl, Nat.le_of_ble_eq_true rfl⟩⟩ gw_5_219 gw_p_52 (fun H _ hz _ => PP.recv (f := 0) (i := 0) X.2.1 hz.1 (show 0 < 1 by omega) rfl rfl) rfl rfl (Nat.le_of_ble_eq_true rfl) dX9_text_88 ?_
      refine tv_goto X 183 dX9_text_91 (by decide) ?_
      refine V.pick [1, 2] rfl ?_
      exact l_X9_text_183 X hk10 s8 v1 h
set_option maxHeartbeats 4000000 in
set_option maxRecDepth 100000 in
theorem l_X9_text_10 {Γ : Cx} {Ω : Wd} {ad : Nat → Nat → Nat} {A : Nat → Prop} {res : St × Unit} (X : Fx Γ Ω A cX9_text 4 "MappingTextsModel" rm_X9_text none) : ∀ (n : Nat) (σ : St) (v1 : Int32), f_X9_text_10 n σ v1 = some res → V Γ (0, 0) (Qe Γ (0, 0) A (Qcv (PicM Ω ad A) A res)) A 4 (PicM Ω ad A σ) 10 [(0, .ref (ad 0 0)), (1, .int v1)] [] := by
  intro n
  induction n with
  | zero =>
    intro σ v1 h
    cases (show none = some res from h)
  | succ n ih =>
    intro σ v1 h
    rw [f_X9_text_10] at h
    refine tv_aload_n X dX9_text_10 rfl 0 rfl ?_
    refine gM8_35 X (by omega) gw_5_39 dX9_text_11 ?_
    refine tv_if_ne X 186 dX9_text_14 (by decide) h (fun h => ?_) (fun h => ?_)
    · exact tv_vret X dX9_text_186 h
    · refine tv_aload_n X dX9_text_17 rfl 0 rfl ?_
      refine gM8_47 X (by omega) gw_5_51 dX9_text_18 ?_
      refine tv_if_gt X 35 dX9_text_21 (by decide) h (fun h => ?_) (fun h => ?_)
      · exact l_X9_text_35 X ih σ v1 h
      · refine tv_aload_n X dX9_text_24 rfl 0 rfl ?_
        refine gM8_34 X (by omega) gw_5_38 dX9_text_25 ?_
        refine tv_aload_n X dX9_text_28 rfl 0 rfl ?_
        refine gM8_30 X (by omega) gw_5_34 dX9_text_29 ?_
        refine tv_icmp_ge X 186 dX9_text_32 (by decide) h (fun h => ?_) (fun h => ?_)
        · exact tv_vret X dX9_text_186 h
        · exact l_X9_text_35 X ih σ v1 h
set_option maxHeartbeats 4000000 in
set_option maxRecDepth 100000 in
theorem c_X9_text (l : Launch) (Ω : Wd) (ad : Nat → Nat → Nat) (A : Nat → Prop) (σ : St) (a1 : Int32) {res : St × Unit} (h : f_X9_text σ a1 = some res) : Met l yX9_text (wsO yX9_text cX9_text 4 none) rm_X9_text (PcZ Ω A (PicM Ω ad A σ) [.ref (ad 0 0), .int a1]) (Qcv (PicM Ω ad A) A res) 0 0 A := by
  refine Met.ofV (by decide) rfl (fun Γ hΓ X => ?_)
  have X : Fx Γ Ω A cX9_text 4 "MappingTextsModel" rm_X9_text none := X
  unfold f_X9_text at h
  show V Γ (0, 0) _ A 4 _ 0 [(0, .ref (ad 0 0)), (1, .int a1)] []
  refine tv_aload_n X dX9_text_0 rfl 0 rfl ?_
  refine tv_iconst X 0 dX9_text_1 (by decide) ?_
  refine pM8_34 X (by omega) gw_5_38 dX9_text_2 ?_
  refine tv_ns h (fun s1 h => ?_)
  refine tv_aload_n X dX9_text_5 rfl 0 rfl ?_
  refine tv_iconst X 0 dX9_text_6 (by decide) ?_
  refine pM8_47 X (by omega) gw_5_51 dX9_text_7 ?_
  refine tv_ns h (fun s2 h => ?_)
  exact l_X9_text_10 X fl s2 a1 h
set_option maxHeartbeats 4000000 in
set_option maxRecDepth 100000 in
theorem l_X9_spell_125 {Γ : Cx} {Ω : Wd} {ad : Nat → Nat → Nat} {A : Nat → Prop} {res : St × Int32} (X : Fx Γ Ω A cX9_spell 9 "MappingTextsModel" rm_X9_spell (some .int)) {k51 : St → Int32 → Nat → Int32 → Int32 → Option (St × Int32)} (hk51 : ∀ (σ : St) (v1 : Int32) (v3 : Nat) (v5 : Int32) (v6 : Int32) (_ : v3 < 9), k51 σ v1 v3 v5 v6 = some res → V Γ (0, 0) (Qe Γ (0, 0) A (Qci (PicM Ω ad A) A res)) A 9 (PicM Ω ad A σ) 51 [(0, .ref (ad 0 0)), (1, .int v1), (3, .ref (ad 2 v3)), (5, .int v5), (6, .int v6)] []) (σ : St) (v1 : Int32) (v3 : Nat) (v5 : Int32) (v6 : Int32) (bv3 : v3 < 9) (h : f_X9_spell_125 k51 σ v1 v3 v5 v6 = some res) : V Γ (0, 0) (Qe Γ (0, 0) A (Qci (PicM Ω ad A) A res)) A 9 (PicM Ω ad A σ) 125 [(0, .ref (ad 0 0)), (1, .int v1), (3, .ref (ad 2 v3)), (5, .int v5), (6, .int v6)] [] := by
  unfold f_X9_spell_125 at h
  refine tv_iinc X (v6 + (-1)) dX9_spell_125 4 rfl rfl (by decide) [(6, .int (v6 + (-1))), (0, .ref (ad 0 0)), (1, .int v1), (3, .ref (ad 2 v3)), (5, .int v5)] rfl ?_
  refine tv_goto X 51 dX9_spell_128 (by decide) ?_
  refine V.pick [1, 2, 3, 4, 0] rfl ?_
  exact hk51 σ v1 v3 v5 (v6 + (-1)) (by omega) h
set_option maxHeartbeats 4000000 in
set_option maxRecDepth 100000 in
theorem l_X9_spell_73 {Γ : Cx} {Ω : Wd} {ad : Nat → Nat → Nat} {A : Nat → Prop} {res : St × Int32} (X : Fx Γ Ω A cX9_spell 9 "MappingTextsModel" rm_X9_spell (some .int)) {k51 : St → Int32 → Nat → Int32 → Int32 → Option (St × Int32)} (hk51 : ∀ (σ : St) (v1 : Int32) (v3 : Nat) (v5 : Int32) (v6 : Int32) (_ : v3 < 9), k51 σ v1 v3 v5 v6 = some res → V Γ (0, 0) (Qe Γ (0, 0) A (Qci (PicM Ω ad A) A res)) A 9 (PicM Ω ad A σ) 51 [(0, .ref (ad 0 0)), (1, .int v1), (3, .ref (ad 2 v3)), (5, .int v5), (6, .int v6)] []) : ∀ (n : Nat) (σ : St) (v1 : Int32) (v3 : Nat) (v5 : Int32) (v6 : Int32) (v7 : Int32) (v8 : Int32) (_ : v3 < 9), f_X9_spell_73 k51 n σ v1 v3 v5 v6 v7 v8 = some res → V Γ (0, 0) (Qe Γ (0, 0) A (Qci (PicM Ω ad A) A res)) A 9 (PicM Ω ad A σ) 73 [(0, .ref (ad 0 0)), (1, .int v1), (3, .ref (ad 2 v3)), (5, .int v5), (6, .int v6), (7, .int v7), (8, .int v8)] [] := by
  intro n
  induction n with
  | zero =>
    intro σ v1 v3 v5 v6 v7 v8 bv3 h
    cases (show none = some res from h)
  | succ n ih =>
    intro σ v1 v3 v5 v6 v7 v8 bv3 h
    rw [f_X9_spell_73] at h
    refine tv_iload X dX9_spell_73 6 rfl ?_
    refine tv_aload_n X dX9_spell_75 rfl 0 rfl ?_
    refine gM8_14 X (by omega) gw_5_18 dX9_spell_76 ?_
    refine tv_iload X dX9_spell_79 5 rfl ?_
    refine iaM (n := 320) X (by omega) rfl dX9_spell_81 h (fun j5 hj5 h => ?_)
    refine tv_icmp_ge X 111 dX9_spell_82 (by decide) h (fun h => ?_) (fun h => ?_)
    · refine tv_iload X dX9_spell_111 4 rfl ?_
      refine tv_if_le X 125 dX9_spell_113 (by decide) h (fun h => ?_) (fun h => ?_)
      · refine V.pick [0, 1, 2, 3, 4] rfl ?_
        exact l_X9_spell_125 X hk51 σ v1 v3 v5 v6 (by omega) h
      · refine tv_aload_n X dX9_spell_116 rfl 2 rfl ?_
        refine tv_iload X dX9_spell_117 3 rfl ?_
        refine tv_bipush X 46 dX9_spell_119 (by decide) ?_
        refine bsM (n := (lenMb.getD v3 0)) X (by omega) rfl dX9_spell_121 h (fun j6 hj6 h => ?_)
        refine tv_ns h (fun s7 h => ?_)
        refine tv_iinc X (v5 + 1) dX9_spell_122 3 rfl rfl (by decide) [(5, .int (v5 + 1)), (0, .ref (ad 0 0)), (1, .int v1), (3, .ref (ad 2 v3)), (6, .int v6), (7, .int v7), (8, .int v8)] rfl ?_
        refine V.pick [1, 2, 3, 0, 4] rfl ?_
        exact l_X9_spell_125 X hk51 s7 v1 v3 (v5 + 1) v6 (by omega) h
    · refine tv_aload_n X dX9_spell_85 rfl 2 rfl ?_
      refine tv_iload X dX9_spell_86 3 rfl ?_
      refine tv_aload_n X dX9_spell_88 rfl 0 rfl ?_
      refine gM8_15 X (by omega) gw_5_19 dX9_spell_89 ?_
      refine tv_bipush X 12 dX9_spell_92 (by decide) ?_
      refine tv_iload X dX9_spell_94 5 rfl ?_
      refine tv_imul X dX9_spell_96 ?_
      refine tv_iload X dX9_spell_97 6 rfl ?_
      refine tv_iadd X dX9_spell_99 ?_
      refine baM (n := 3840) X (by omega) rfl dX9_spell_100 h (fun j8 hj8 h => ?_)
      refine bsM (n := (lenMb.getD v3 0)) X (by omega) rfl dX9_spell_101 h (fun j9 hj9 h => ?_)
      refine tv_ns h (fun s10 h => ?_)
      refine tv_iinc X (v5 + 1) dX9_spell_102 3 rfl rfl (by decide) [(5, .int (v5 + 1)), (0, .ref (ad 0 0)), (1, .int v1), (3, .ref (ad 2 v3)), (6, .int v6), (7, .int v7), (8, .int v8)] rfl ?_
      refine tv_iinc X (v8 + 1) dX9_spell_105 6 rfl rfl (by decide) [(8, .int (v8 + 1)), (5, .int (v5 + 1)), (0, .ref (ad 0 0)), (1, .int v1), (3, .ref (ad 2 v3)), (6, .int v6), (7, .int v7)] rfl ?_
      refine tv_goto X 73 dX9_spell_108 (by decide) ?_
      refine V.pick [2, 3, 4, 1, 5, 6, 0] rfl ?_
      exact ih s10 v1 v3 (v5 + 1) v6 v7 (v8 + 1) (by omega) h
set_option maxHeartbeats 4000000 in
set_option maxRecDepth 100000 in
theorem l_X9_spell_51 {Γ : Cx} {Ω : Wd} {ad : Nat → Nat → Nat} {A : Nat → Prop} {res : St × Int32} (X : Fx Γ Ω A cX9_spell 9 "MappingTextsModel" rm_X9_spell (some .int)) : ∀ (n : Nat) (σ : St) (v1 : Int32) (v3 : Nat) (v5 : Int32) (v6 : Int32) (_ : v3 < 9), f_X9_spell_51 n σ v1 v3 v5 v6 = some res → V Γ (0, 0) (Qe Γ (0, 0) A (Qci (PicM Ω ad A) A res)) A 9 (PicM Ω ad A σ) 51 [(0, .ref (ad 0 0)), (1, .int v1), (3, .ref (ad 2 v3)), (5, .int v5), (6, .int v6)] [] := by
  intro n
  induction n with
  | zero =>
    intro σ v1 v3 v5 v6 bv3 h
    cases (show none = some res from h)
  | succ n ih =>
    intro σ v1 v3 v5 v6 bv3 h
    rw [f_X9_spell_51] at h
    refine tv_iload X dX9_spell_51 4 rfl ?_
    refine tv_if_lt X 131 dX9_spell_53 (by decide) h (fun h => ?_) (fun h => ?_)
    · refine tv_iload X dX9_spell_131 3 rfl ?_
      exact tv_iret X dX9_spell_133 h
    · refine tv_bipush X 40 dX9_spell_56 (by decide) ?_
      refine tv_iload_n X dX9_spell_58 rfl 1 rfl ?_
      refine tv_imul X dX9_spell_59 ?_
      refine tv_aload_n X dX9_spell_60 rfl 0 rfl ?_
      refine gM8_53 X (by omega) gw_5_57 dX9_spell_61 ?_
      refine tv_iload X dX9_spell_64 4 rfl ?_
      refine iaM (n := 6) X (by omega) rfl dX9_spell_66 h (fun j4 hj4 h => ?_)
      refine tv_iadd X dX9_spell_67 ?_
      refine tv_istore X dX9_spell_68 (by decide) [(7, .int ((40 * v1) + (ga σ 1 25 j4))), (0, .ref (ad 0 0)), (1, .int v1), (3, .ref (ad 2 v3)), (5, .int v5), (6, .int v6)] rfl ?_
      refine tv_iconst X 0 dX9_spell_70 (by decide) ?_
      refine tv_istore X dX9_spell_71 (by decide) [(8, .int 0), (7, .int ((40 * v1) + (ga σ 1 25 j4))), (0, .ref (ad 0 0)), (1, .int v1), (3, .ref (ad 2 v3)), (5, .int v5), (6, .int v6)] rfl ?_
      refine V.pick [2, 3, 4, 5, 6, 1, 0] rfl ?_
      exact l_X9_spell_73 X ih fl σ v1 v3 v5 v6 ((40 * v1) + (ga σ 1 25 j4)) 0 (by omega) h
set_option maxHeartbeats 4000000 in
set_option maxRecDepth 100000 in
theorem l_X9_spell_6 {Γ : Cx} {Ω : Wd} {ad : Nat → Nat → Nat} {A : Nat → Prop} {res : St × Int32} (X : Fx Γ Ω A cX9_spell 9 "MappingTextsModel" rm_X9_spell (some .int)) : ∀ (n : Nat) (σ : St) (v1 : Int32) (v3 : Nat) (v4 : Int32) (v5 : Int32) (_ : v3 < 9), f_X9_spell_6 n σ v1 v3 v4 v5 = some res → V Γ (0, 0) (Qe Γ (0, 0) A (Qci (PicM Ω ad A) A res)) A 9 (PicM Ω ad A σ) 6 [(0, .ref (ad 0 0)), (1, .int v1), (3, .ref (ad 2 v3)), (4, .int v4), (5, .int v5)] [] := by
  intro n
  induction n with
  | zero =>
    intro σ v1 v3 v4 v5 bv3 h
    cases (show none = some res from h)
  | succ n ih =>
    intro σ v1 v3 v4 v5 bv3 h
    rw [f_X9_spell_6] at h
    refine tv_iload X dX9_spell_6 4 rfl ?_
    refine tv_bipush X (-2) dX9_spell_8 (by decide) ?_
    refine tv_icmp_eq X 42 dX9_spell_10 (by decide) h (fun h => ?_) (fun h => ?_)
    · refine tv_iconst X 0 dX9_spell_42 (by decide) ?_
      refine tv_istore X dX9_spell_43 (by decide) [(5, .int 0), (0, .ref (ad 0 0)), (1, .int v1), (3, .ref (ad 2 v3)), (4, .int v4)] rfl ?_
      refine tv_iload X dX9_spell_45 4 rfl ?_
      refine tv_iconst X 1 dX9_spell_47 (by decide) ?_
      refine tv_isub X dX9_spell_48 ?_
      refine tv_istore X dX9_spell_49 (by decide) [(6, .int (v4 - 1)), (5, .int 0), (0, .ref (ad 0 0)), (1, .int v1), (3, .ref (ad 2 v3)), (4, .int v4)] rfl ?_
      refine V.pick [2, 3, 4, 1, 0] rfl ?_
      exact l_X9_spell_51 X fl σ v1 v3 0 (v4 - 1) (by omega) h
    · refine tv_aload_n X dX9_spell_13 rfl 0 rfl ?_
      refine gM8_53 X (by omega) gw_5_57 dX9_spell_14 ?_
      refine tv_iload X dX9_spell_17 3 rfl ?_
      refine tv_iload X dX9_spell_19 4 rfl ?_
      refine isM (n := 6) X (by omega) rfl dX9_spell_21 h (fun j1 hj1 h => ?_)
      refine tv_ns h (fun s2 h => ?_)
      refine tv_iinc X (v4 + 1) dX9_spell_22 3 rfl rfl (by decide) [(4, .int (v4 + 1)), (0, .ref (ad 0 0)), (1, .int v1), (3, .ref (ad 2 v3)), (5, .int v5)] rfl ?_
      refine tv_aload_n X dX9_spell_25 rfl 1 rfl ?_
      refine gM8_23 X (by omega) gw_5_27 dX9_spell_26 ?_
      refine tv_bipush X 40 dX9_spell_29 (by decide) ?_
      refine tv_iload_n X dX9_spell_31 rfl 2 rfl ?_
      refine tv_imul X dX9_spell_32 ?_
      refine tv_iload X dX9_spell_33 4 rfl ?_
      refine tv_iadd X dX9_spell_35 ?_
      refine iaM (n := 320) X (by omega) rfl dX9_spell_36 h (fun j3 hj3 h => ?_)
      refine tv_istore X dX9_spell_37 (by decide) [(5, .int (ga s2 1 10 j3)), (4, .int (v4 + 1)), (0, .ref (ad 0 0)), (1, .int v1), (3, .ref (ad 2 v3))] rfl ?_
      refine tv_goto X 6 dX9_spell_39 (by decide) ?_
      refine V.pick [2, 3, 4, 1, 0] rfl ?_
      exact ih s2 v1 v3 (v4 + 1) (ga s2 1 10 j3) (by omega) h
set_option maxHeartbeats 4000000 in
set_option maxRecDepth 100000 in
theorem c_X9_spell (l : Launch) (Ω : Wd) (ad : Nat → Nat → Nat) (A : Nat → Prop) (σ : St) (a1 : Int32) (a2 : Int32) (a3 : Nat) (ba3 : a3 < 9) {res : St × Int32} (h : f_X9_spell σ a1 a2 a3 = some res) : Met l yX9_spell (wsO yX9_spell cX9_spell 9 (some .int)) rm_X9_spell (PcZ Ω A (PicM Ω ad A σ) [.ref (ad 0 0), .int a1, .int a2, .ref (ad 2 a3)]) (Qci (PicM Ω ad A) A res) 0 0 A := by
  refine Met.ofV (by decide) rfl (fun Γ hΓ X => ?_)
  have X : Fx Γ Ω A cX9_spell 9 "MappingTextsModel" rm_X9_spell (some .int) := X
  unfold f_X9_spell at h
  show V Γ (0, 0) _ A 9 _ 0 [(0, .ref (ad 0 0)), (1, .int a1), (2, .int a2), (3, .ref (ad 2 a3))] []
  refine tv_iconst X 0 dX9_spell_0 (by decide) ?_
  refine tv_istore X dX9_spell_1 (by decide) [(4, .int 0), (0, .ref (ad 0 0)), (1, .int a1), (2, .int a2), (3, .ref (ad 2 a3))] rfl ?_
  refine tv_iload_n X dX9_spell_3 rfl 3 rfl ?_
  refine tv_istore X dX9_spell_4 (by decide) [(5, .int a2), (4, .int 0), (0, .ref (ad 0 0)), (1, .int a1), (2, .int a2), (3, .ref (ad 2 a3))] rfl ?_
  refine V.pick [2, 3, 5, 1, 0] rfl ?_
  exact l_X9_spell_6 X fl σ a1 a3 0 a2 (by omega) h
set_option maxHeartbeats 4000000 in
set_option maxRecDepth 100000 in
theorem l_X9_isToken_73 {Γ : Cx} {Ω : Wd} {ad : Nat → Nat → Nat} {A : Nat → Prop} {res : St × Int32} (X : Fx Γ Ω A cX9_isToken 5 "MappingTextsModel" rm_X9_isToken (some .boolean)) {k24 : St → Int32 → Int32 → Int32 → Int32 → Option (St × Int32)} (hk24 : ∀ (σ : St) (v1 : Int32) (v2 : Int32) (v3 : Int32) (v4 : Int32), k24 σ v1 v2 v3 v4 = some res → V Γ (0, 0) (Qe Γ (0, 0) A (Qci (PicM Ω ad A) A res)) A 5 (PicM Ω ad A σ) 24 [(0, .ref (ad 0 0)), (1, .int v1), (2, .int v2), (3, .int v3), (4, .int v4)] []) (σ : St) (t0 : Int32) (v1 : Int32) (v2 : Int32) (v4 : Int32) (h : f_X9_isToken_73 k24 σ t0 v1 v2 v4 = some res) : V Γ (0, 0) (Qe Γ (0, 0) A (Qci (PicM Ω ad A) A res)) A 5 (PicM Ω ad A σ) 73 [(0, .ref (ad 0 0)), (1, .int v1), (2, .int v2), (4, .int v4)] [.int t0] := by
  unfold f_X9_isToken_73 at h
  refine tv_istore_n X dX9_isToken_73 rfl (by decide) [(3, .int t0), (0, .ref (ad 0 0)), (1, .int v1), (2, .int v2), (4, .int v4)] rfl ?_
  refine tv_iinc X (v4 + 1) dX9_isToken_74 4 rfl rfl (by decide) [(4, .int (v4 + 1)), (3, .int t0), (0, .ref (ad 0 0)), (1, .int v1), (2, .int v2)] rfl ?_
  refine tv_goto X 24 dX9_isToken_77 (by decide) ?_
  refine V.pick [2, 3, 4, 1, 0] rfl ?_
  exact hk24 σ v1 v2 t0 (v4 + 1) h
set_option maxHeartbeats 4000000 in
set_option maxRecDepth 100000 in
theorem l_X9_isToken_24 {Γ : Cx} {Ω : Wd} {ad : Nat → Nat → Nat} {A : Nat → Prop} {res : St × Int32} (X : Fx Γ Ω A cX9_isToken 5 "MappingTextsModel" rm_X9_isToken (some .boolean)) : ∀ (n : Nat) (σ : St) (v1 : Int32) (v2 : Int32) (v3 : Int32) (v4 : Int32), f_X9_isToken_24 n σ v1 v2 v3 v4 = some res → V Γ (0, 0) (Qe Γ (0, 0) A (Qci (PicM Ω ad A) A res)) A 5 (PicM Ω ad A σ) 24 [(0, .ref (ad 0 0)), (1, .int v1), (2, .int v2), (3, .int v3), (4, .int v4)] [] := by
  intro n
  induction n with
  | zero =>
    intro σ v1 v2 v3 v4 h
    cases (show none = some res from h)
  | succ n ih =>
    intro σ v1 v2 v3 v4 h
    rw [f_X9_isToken_24] at h
    refine tv_iload X dX9_isToken_24 4 rfl ?_
    refine tv_aload_n X dX9_isToken_26 rfl 0 rfl ?_
    refine gM8_14 X (by omega) gw_5_18 dX9_isToken_27 ?_
    refine tv_iload_n X dX9_isToken_30 rfl 1 rfl ?_
    refine iaM (n := 320) X (by omega) rfl dX9_isToken_31 h (fun j3 hj3 h => ?_)
    refine tv_icmp_ge X 80 dX9_isToken_32 (by decide) h (fun h => ?_) (fun h => ?_)
    · refine tv_iload_n X dX9_isToken_80 rfl 3 rfl ?_
      obtain ⟨hq, h⟩ := cq_some h
      exact tv_zret X dX9_isToken_81 (of_decide_eq_true hq) h
    · refine tv_iload_n X dX9_isToken_35 rfl 3 rfl ?_
      refine tv_if_eq X 80 dX9_isToken_36 (by decide) h (fun h => ?_) (fun h => ?_)
      · refine tv_iload_n X dX9_isToken_80 rfl 3 rfl ?_
        obtain ⟨hq, h⟩ := cq_some h
        exact tv_zret X dX9_isToken_81 (of_decide_eq_true hq) h
      · refine tv_aload_n X dX9_isToken_39 rfl 0 rfl ?_
        refine gM8_15 X (by omega) gw_5_19 dX9_isToken_40 ?_
        refine tv_bipush X 12 dX9_isToken_43 (by decide) ?_
        refine tv_iload_n X dX9_isToken_45 rfl 1 rfl ?_
        refine tv_imul X dX9_isToken_46 ?_
        refine tv_iload X dX9_isToken_47 4 rfl ?_
        refine tv_iadd X dX9_isToken_49 ?_
        refine baM (n := 3840) X (by omega) rfl dX9_isToken_50 h (fun j4 hj4 h => ?_)
        refine tv_aload_n X dX9_isToken_51 rfl 0 rfl ?_
        refine gM8_2 X (by omega) gw_5_6 dX9_isToken_52 ?_
        refine tv_aload_n X dX9_isToken_55 rfl 0 rfl ?_
        refine gM8_32 X (by omega) gw_5_36 dX9_isToken_56 ?_
        refine tv_iload_n X dX9_isToken_59 rfl 2 rfl ?_
        refine iaM (n := 2001) X (by omega) rfl dX9_isToken_60 h (fun j5 hj5 h => ?_)
        refine tv_iload X dX9_isToken_61 4 rfl ?_
        refine tv_iadd X dX9_isToken_63 ?_
        refine baM (n := 2000) X (by omega) rfl dX9_isToken_64 h (fun j6 hj6 h => ?_)
        refine tv_icmp_ne X 72 dX9_isToken_65 (by decide) h (fun h => ?_) (fun h => ?_)
        · refine tv_iconst X 0 dX9_isToken_72 (by decide) ?_
          refine V.pick [0, 1, 2, 4] rfl ?_
          exact l_X9_isToken_73 X ih σ 0 v1 v2 v4 h
        · refine tv_iconst X 1 dX9_isToken_68 (by decide) ?_
          refine tv_goto X 73 dX9_isToken_69 (by decide) ?_
          refine V.pick [0, 1, 2, 4] rfl ?_
          exact l_X9_isToken_73 X ih σ 1 v1 v2 v4 h
set_option maxHeartbeats 4000000 in
set_option maxRecDepth 100000 in
theorem l_X9_isToken_20 {Γ : Cx} {Ω : Wd} {ad : Nat → Nat → Nat} {A : Nat → Prop} {res : St × Int32} (X : Fx Γ Ω A cX9_isToken 5 "MappingTextsModel" rm_X9_isToken (some .boolean)) (σ : St) (t0 : Int32) (v1 : Int32) (v2 : Int32) (h : f_X9_isToken_20 σ t0 v1 v2 = some res) : V Γ (0, 0) (Qe Γ (0, 0) A (Qci (PicM Ω ad A) A res)) A 5 (PicM Ω ad A σ) 20 [(0, .ref (ad 0 0)), (1, .int v1), (2, .int v2)] [.int t0] := by
  unfold f_X9_isToken_20 at h
  refine tv_istore_n X dX9_isToken_20 rfl (by decide) [(3, .int t0), (0, .ref (ad 0 0)), (1, .int v1), (2, .int v2)] rfl ?_
  refine tv_iconst X 0 dX9_isToken_21 (by decide) ?_
  refine tv_istore X dX9_isToken_22 (by decide) [(4, .int 0), (3, .int t0), (0, .ref (ad 0 0)), (1, .int v1), (2, .int v2)] rfl ?_
  refine V.pick [2, 3, 4, 1, 0] rfl ?_
  exact l_X9_isToken_24 X fl σ v1 v2 t0 0 h
set_option maxHeartbeats 4000000 in
set_option maxRecDepth 100000 in
theorem c_X9_isToken (l : Launch) (Ω : Wd) (ad : Nat → Nat → Nat) (A : Nat → Prop) (σ : St) (a1 : Int32) (a2 : Int32) {res : St × Int32} (h : f_X9_isToken σ a1 a2 = some res) : Met l yX9_isToken (wsO yX9_isToken cX9_isToken 5 (some .boolean)) rm_X9_isToken (PcZ Ω A (PicM Ω ad A σ) [.ref (ad 0 0), .int a1, .int a2]) (Qci (PicM Ω ad A) A res) 0 0 A := by
  refine Met.ofV (by decide) rfl (fun Γ hΓ X => ?_)
  have X : Fx Γ Ω A cX9_isToken 5 "MappingTextsModel" rm_X9_isToken (some .boolean) := X
  unfold f_X9_isToken at h
  show V Γ (0, 0) _ A 5 _ 0 [(0, .ref (ad 0 0)), (1, .int a1), (2, .int a2)] []
  refine tv_aload_n X dX9_isToken_0 rfl 0 rfl ?_
  refine gM8_14 X (by omega) gw_5_18 dX9_isToken_1 ?_
  refine tv_iload_n X dX9_isToken_4 rfl 1 rfl ?_
  refine iaM (n := 320) X (by omega) rfl dX9_isToken_5 h (fun j1 hj1 h => ?_)
  refine tv_aload_n X dX9_isToken_6 rfl 0 rfl ?_
  refine gM8_33 X (by omega) gw_5_37 dX9_isToken_7 ?_
  refine tv_iload_n X dX9_isToken_10 rfl 2 rfl ?_
  refine iaM (n := 2001) X (by omega) rfl dX9_isToken_11 h (fun j2 hj2 h => ?_)
  refine tv_icmp_ne X 19 dX9_isToken_12 (by decide) h (fun h => ?_) (fun h => ?_)
  · refine tv_iconst X 0 dX9_isToken_19 (by decide) ?_
    exact l_X9_isToken_20 X σ 0 a1 a2 h
  · refine tv_iconst X 1 dX9_isToken_15 (by decide) ?_
    refine tv_goto X 20 dX9_isToken_16 (by decide) ?_
    exact l_X9_isToken_20 X σ 1 a1 a2 h
set_option maxHeartbeats 4000000 in
set_option maxRecDepth 100000 in
theorem l_X9_fieldOf_71 {Γ : Cx} {Ω : Wd} {ad : Nat → Nat → Nat} {A : Nat → Prop} {res : St × Int32} (X : Fx Γ Ω A cX9_fieldOf 9 "MappingTextsModel" rm_X9_fieldOf (some .int)) {k72 : St → Int32 → Int32 → Int32 → Int32 → Int32 → Int32 → Int32 → Int32 → Option (St × Int32)} (hk72 : ∀ (σ : St) (t0 : Int32) (v1 : Int32) (v2 : Int32) (v3 : Int32) (v4 : Int32) (v5 : Int32) (v6 : Int32) (v8 : Int32), k72 σ t0 v1 v2 v3 v4 v5 v6 v8 = some res → V Γ (0, 0) (Qe Γ (0, 0) A (Qci (PicM Ω ad A) A res)) A 9 (PicM Ω ad A σ) 72 [(0, .ref (ad 0 0)), (1, .int v1), (2, .int v2), (3, .int v3), (4, .int v4), (5, .int v5), (6, .int v6), (8, .int v8)] [.int t0]) (σ : St) (v1 : Int32) (v2 : Int32) (v3 : Int32) (v4 : Int32) (v5 : Int32) (v6 : Int32) (v8 : Int32) (h : f_X9_fieldOf_71 k72 σ v1 v2 v3 v4 v5 v6 v8 = some res) : V Γ (0, 0) (Qe Γ (0, 0) A (Qci (PicM Ω ad A) A res)) A 9 (PicM Ω ad A σ) 71 [(0, .ref (ad 0 0)), (1, .int v1), (2, .int v2), (3, .int v3), (4, .int v4), (5, .int v5), (6, .int v6), (8, .int v8)] [] := by
  unfold f_X9_fieldOf_71 at h
  refine tv_iconst X 0 dX9_fieldOf_71 (by decide) ?_
  exact hk72 σ 0 v1 v2 v3 v4 v5 v6 v8 h
set_option maxHeartbeats 4000000 in
set_option maxRecDepth 100000 in
theorem l_X9_fieldOf_96 {Γ : Cx} {Ω : Wd} {ad : Nat → Nat → Nat} {A : Nat → Prop} {res : St × Int32} (X : Fx Γ Ω A cX9_fieldOf 9 "MappingTextsModel" rm_X9_fieldOf (some .int)) {k33 : St → Int32 → Int32 → Int32 → Int32 → Int32 → Int32 → Int32 → Int32 → Option (St × Int32)} (hk33 : ∀ (σ : St) (v1 : Int32) (v2 : Int32) (v3 : Int32) (v4 : Int32) (v5 : Int32) (v6 : Int32) (v7 : Int32) (v8 : Int32), k33 σ v1 v2 v3 v4 v5 v6 v7 v8 = some res → V Γ (0, 0) (Qe Γ (0, 0) A (Qci (PicM Ω ad A) A res)) A 9 (PicM Ω ad A σ) 33 [(0, .ref (ad 0 0)), (1, .int v1), (2, .int v2), (3, .int v3), (4, .int v4), (5, .int v5), (6, .int v6), (7, .int v7), (8, .int v8)] []) (σ : St) (t0 : Int32) (v1 : Int32) (v2 : Int32) (v3 : Int32) (v4 : Int32) (v6 : Int32) (v7 : Int32) (v8 : Int32) (h : f_X9_fieldOf_96 k33 σ t0 v1 v2 v3 v4 v6 v7 v8 = some res) : V Γ (0, 0) (Qe Γ (0, 0) A (Qci (PicM Ω ad A) A res)) A 9 (PicM Ω ad A σ) 96 [(0, .ref (ad 0 0)), (1, .int v1), (2, .int v2), (3, .int v3), (4, .int v4), (6, .int v6), (7, .int v7), (8, .int v8)] [.int t0] := by
  unfold f_X9_fieldOf_96 at h
  refine tv_istore X dX9_fieldOf_96 (by decide) [(5, .int t0), (0, .ref (ad 0 0)), (1, .int v1), (2, .int v2), (3, .int v3), (4, .int v4), (6, .int v6), (7, .int v7), (8, .int v8)] rfl ?_
  refine tv_iinc X (v6 + (-2)) dX9_fieldOf_98 6 rfl rfl (by decide) [(6, .int (v6 + (-2))), (5, .int t0), (0, .ref (ad 0 0)), (1, .int v1), (2, .int v2), (3, .int v3), (4, .int v4), (7, .int v7), (8, .int v8)] rfl ?_
  refine tv_iinc X (v8 + 1) dX9_fieldOf_101 8 rfl rfl (by decide) [(8, .int (v8 + 1)), (6, .int (v6 + (-2))), (5, .int t0), (0, .ref (ad 0 0)), (1, .int v1), (2, .int v2), (3, .int v3), (4, .int v4), (7, .int v7)] rfl ?_
  refine tv_goto X 33 dX9_fieldOf_104 (by decide) ?_
  refine V.pick [3, 4, 5, 6, 7, 2, 1, 8, 0] rfl ?_
  exact hk33 σ v1 v2 v3 v4 t0 (v6 + (-2)) v7 (v8 + 1) h
set_option maxHeartbeats 4000000 in
set_option maxRecDepth 100000 in
theorem l_X9_fieldOf_72 {Γ : Cx} {Ω : Wd} {ad : Nat → Nat → Nat} {A : Nat → Prop} {res : St × Int32} (X : Fx Γ Ω A cX9_fieldOf 9 "MappingTextsModel" rm_X9_fieldOf (some .int)) {k33 : St → Int32 → Int32 → Int32 → Int32 → Int32 → Int32 → Int32 → Int32 → Option (St × Int32)} (hk33 : ∀ (σ : St) (v1 : Int32) (v2 : Int32) (v3 : Int32) (v4 : Int32) (v5 : Int32) (v6 : Int32) (v7 : Int32) (v8 : Int32), k33 σ v1 v2 v3 v4 v5 v6 v7 v8 = some res → V Γ (0, 0) (Qe Γ (0, 0) A (Qci (PicM Ω ad A) A res)) A 9 (PicM Ω ad A σ) 33 [(0, .ref (ad 0 0)), (1, .int v1), (2, .int v2), (3, .int v3), (4, .int v4), (5, .int v5), (6, .int v6), (7, .int v7), (8, .int v8)] []) (σ : St) (t0 : Int32) (v1 : Int32) (v2 : Int32) (v3 : Int32) (v4 : Int32) (v5 : Int32) (v6 : Int32) (v8 : Int32) (h : f_X9_fieldOf_72 k33 σ t0 v1 v2 v3 v4 v5 v6 v8 = some res) : V Γ (0, 0) (Qe Γ (0, 0) A (Qci (PicM Ω ad A) A res)) A 9 (PicM Ω ad A σ) 72 [(0, .ref (ad 0 0)), (1, .int v1), (2, .int v2), (3, .int v3), (4, .int v4), (5, .int v5), (6, .int v6), (8, .int v8)] [.int t0] := by
  unfold f_X9_fieldOf_72 at h
  refine tv_istore X dX9_fieldOf_72 (by decide) [(7, .int t0), (0, .ref (ad 0 0)), (1, .int v1), (2, .int v2), (3, .int v3), (4, .int v4), (5, .int v5), (6, .int v6), (8, .int v8)] rfl ?_
  refine tv_iload X dX9_fieldOf_74 0 rfl ?_
  refine tv_if_eq X 94 dX9_fieldOf_76 (by decide) h (fun h => ?_) (fun h => ?_)
  · refine tv_iload X dX9_fieldOf_94 6 rfl ?_
    refine V.pick [1, 2, 3, 4, 5, 7, 0, 8] rfl ?_
    exact l_X9_fieldOf_96 X hk33 σ v5 v1 v2 v3 v4 v6 t0 v8 h
  · refine tv_aload_n X dX9_fieldOf_79 rfl 1 rfl ?_
    refine gM8_23 X (by omega) gw_5_27 dX9_fieldOf_80 ?_
    refine tv_bipush X 40 dX9_fieldOf_83 (by decide) ?_
    refine tv_iload_n X dX9_fieldOf_85 rfl 2 rfl ?_
    refine tv_imul X dX9_fieldOf_86 ?_
    refine tv_iload X dX9_fieldOf_87 6 rfl ?_
    refine tv_iadd X dX9_fieldOf_89 ?_
    refine iaM (n := 320) X (by omega) rfl dX9_fieldOf_90 h (fun j4 hj4 h => ?_)
    refine tv_goto X 96 dX9_fieldOf_91 (by decide) ?_
    refine V.pick [1, 2, 3, 4, 5, 7, 0, 8] rfl ?_
    exact l_X9_fieldOf_96 X hk33 σ (ga σ 1 10 j4) v1 v2 v3 v4 v6 t0 v8 h
set_option maxHeartbeats 4000000 in
set_option maxRecDepth 100000 in
theorem l_X9_fieldOf_122 {Γ : Cx} {Ω : Wd} {ad : Nat → Nat → Nat} {A : Nat → Prop} {res : St × Int32} (X : Fx Γ Ω A cX9_fieldOf 9 "MappingTextsModel" rm_X9_fieldOf (some .int)) {k3 : St → Int32 → Int32 → Int32 → Int32 → Option (St × Int32)} (hk3 : ∀ (σ : St) (v1 : Int32) (v2 : Int32) (v3 : Int32) (v4 : Int32), k3 σ v1 v2 v3 v4 = some res → V Γ (0, 0) (Qe Γ (0, 0) A (Qci (PicM Ω ad A) A res)) A 9 (PicM Ω ad A σ) 3 [(0, .ref (ad 0 0)), (1, .int v1), (2, .int v2), (3, .int v3), (4, .int v4)] []) (σ : St) (v1 : Int32) (v2 : Int32) (v3 : Int32) (v4 : Int32) (h : f_X9_fieldOf_122 k3 σ v1 v2 v3 v4 = some res) : V Γ (0, 0) (Qe Γ (0, 0) A (Qci (PicM Ω ad A) A res)) A 9 (PicM Ω ad A σ) 122 [(0, .ref (ad 0 0)), (1, .int v1), (2, .int v2), (3, .int v3), (4, .int v4)] [] := by
  unfold f_X9_fieldOf_122 at h
  refine tv_iinc X (v4 + 1) dX9_fieldOf_122 4 rfl rfl (by decide) [(4, .int (v4 + 1)), (0, .ref (ad 0 0)), (1, .int v1), (2, .int v2), (3, .int v3)] rfl ?_
  refine tv_goto X 3 dX9_fieldOf_125 (by decide) ?_
  refine V.pick [1, 2, 3, 4, 0] rfl ?_
  exact hk3 σ v1 v2 v3 (v4 + 1) h
set_option maxHeartbeats 4000000 in
set_option maxRecDepth 100000 in
theorem l_X9_fieldOf_107 {Γ : Cx} {Ω : Wd} {ad : Nat → Nat → Nat} {A : Nat → Prop} {res : St × Int32} (X : Fx Γ Ω A cX9_fieldOf 9 "MappingTextsModel" rm_X9_fieldOf (some .int)) {k3 : St → Int32 → Int32 → Int32 → Int32 → Option (St × Int32)} (hk3 : ∀ (σ : St) (v1 : Int32) (v2 : Int32) (v3 : Int32) (v4 : Int32), k3 σ v1 v2 v3 v4 = some res → V Γ (0, 0) (Qe Γ (0, 0) A (Qci (PicM Ω ad A) A res)) A 9 (PicM Ω ad A σ) 3 [(0, .ref (ad 0 0)), (1, .int v1), (2, .int v2), (3, .int v3), (4, .int v4)] []) (σ : St) (v1 : Int32) (v2 : Int32) (v3 : Int32) (v4 : Int32) (v5 : Int32) (v7 : Int32) (h : f_X9_fieldOf_107 k3 σ v1 v2 v3 v4 v5 v7 = some res) : V Γ (0, 0) (Qe Γ (0, 0) A (Qci (PicM Ω ad A) A res)) A 9 (PicM Ω ad A σ) 107 [(0, .ref (ad 0 0)), (1, .int v1), (2, .int v2), (3, .int v3), (4, .int v4), (5, .int v5), (7, .int v7)] [] := by
  unfold f_X9_fieldOf_107 at h
  refine tv_iload X dX9_fieldOf_107 6 rfl ?_
  refine tv_if_eq X 122 dX9_fieldOf_109 (by decide) h (fun h => ?_) (fun h => ?_)
  · refine V.pick [0, 1, 2, 3, 4] rfl ?_
    exact l_X9_fieldOf_122 X hk3 σ v1 v2 v3 v4 h
  · refine tv_iload X dX9_fieldOf_112 5 rfl ?_
    refine tv_bipush X (-2) dX9_fieldOf_114 (by decide) ?_
    refine tv_icmp_ne X 122 dX9_fieldOf_116 (by decide) h (fun h => ?_) (fun h => ?_)
    · refine V.pick [0, 1, 2, 3, 4] rfl ?_
      exact l_X9_fieldOf_122 X hk3 σ v1 v2 v3 v4 h
    · refine tv_iload X dX9_fieldOf_119 4 rfl ?_
      exact tv_iret X dX9_fieldOf_121 h
set_option maxHeartbeats 4000000 in
set_option maxRecDepth 100000 in
theorem l_X9_fieldOf_33 {Γ : Cx} {Ω : Wd} {ad : Nat → Nat → Nat} {A : Nat → Prop} {res : St × Int32} (X : Fx Γ Ω A cX9_fieldOf 9 "MappingTextsModel" rm_X9_fieldOf (some .int)) {k3 : St → Int32 → Int32 → Int32 → Int32 → Option (St × Int32)} (hk3 : ∀ (σ : St) (v1 : Int32) (v2 : Int32) (v3 : Int32) (v4 : Int32), k3 σ v1 v2 v3 v4 = some res → V Γ (0, 0) (Qe Γ (0, 0) A (Qci (PicM Ω ad A) A res)) A 9 (PicM Ω ad A σ) 3 [(0, .ref (ad 0 0)), (1, .int v1), (2, .int v2), (3, .int v3), (4, .int v4)] []) : ∀ (n : Nat) (σ : St) (v1 : Int32) (v2 : Int32) (v3 : Int32) (v4 : Int32) (v5 : Int32) (v6 : Int32) (v7 : Int32) (v8 : Int32), f_X9_fieldOf_33 k3 n σ v1 v2 v3 v4 v5 v6 v7 v8 = some res → V Γ (0, 0) (Qe Γ (0, 0) A (Qci (PicM Ω ad A) A res)) A 9 (PicM Ω ad A σ) 33 [(0, .ref (ad 0 0)), (1, .int v1), (2, .int v2), (3, .int v3), (4, .int v4), (5, .int v5), (6, .int v6), (7, .int v7), (8, .int v8)] [] := by
  intro n
  induction n with
  | zero =>
    intro σ v1 v2 v3 v4 v5 v6 v7 v8 h
    cases (show none = some res from h)
  | succ n ih =>
    intro σ v1 v2 v3 v4 v5 v6 v7 v8 h
    rw [f_X9_fieldOf_33] at h
    refine tv_iload X dX9_fieldOf_33 8 rfl ?_
    refine tv_iload_n X dX9_fieldOf_35 rfl 3 rfl ?_
    refine tv_icmp_ge X 107 dX9_fieldOf_36 (by decide) h (fun h => ?_) (fun h => ?_)
    · refine V.pick [0, 1, 2, 3, 4, 5, 7] rfl ?_
      exact l_X9_fieldOf_107 X hk3 σ v1 v2 v3 v4 v5 v7 h
    · refine tv_iload X dX9_fieldOf_39 7 rfl ?_
      refine tv_if_eq X 107 dX9_fieldOf_41 (by decide) h (fun h => ?_) (fun h => ?_)
      · refine V.pick [0, 1, 2, 3, 4, 5, 7] rfl ?_
        exact l_X9_fieldOf_107 X hk3 σ v1 v2 v3 v4 v5 v7 h
      · refine tv_iload X dX9_fieldOf_44 5 rfl ?_
        refine tv_bipush X (-2) dX9_fieldOf_46 (by decide) ?_
        refine tv_icmp_eq X 71 dX9_fieldOf_48 (by decide) h (fun h => ?_) (fun h => ?_)
        · refine V.pick [0, 1, 2, 3, 4, 5, 6, 8] rfl ?_
          exact l_X9_fieldOf_71 X (l_X9_fieldOf_72 X ih) σ v1 v2 v3 v4 v5 v6 v8 h
        · refine tv_aload_n X dX9_fieldOf_51 rfl 0 rfl ?_
          refine tv_bipush X 40 dX9_fieldOf_52 (by decide) ?_
          refine tv_iload_n X dX9_fieldOf_54 rfl 1 rfl ?_
          refine tv_imul X dX9_fieldOf_55 ?_
          refine tv_iload X dX9_fieldOf_56 5 rfl ?_
          refine tv_iadd X dX9_fieldOf_58 ?_
          refine tv_iload X dX9_fieldOf_59 6 rfl ?_
          obtain ⟨s2, x3, hs2, h⟩ := cl_some h
          refine tv_callVi (st := []) X (c_X9_isToken Γ.2.1 Ω ad A σ ((40 * v1) + v5) v6 hs2) ⟨gw_6_45, gw_6_42, gw_1_10, q_X9_isToken, rfl, rfl, ⟨Nat.le_of_ble_eq_true rfl, Nat.le_of_ble_eq_true rfl⟩⟩ gw_6_44 gw_p_67 (fun H _ hz _ => PP.recv (f := 0) (i := 0) X.2.1 hz.1 (show 0 < 1 by omega) rfl rfl) rfl rfl (Nat.le_of_ble_eq_true rfl) dX9_fieldOf_61 ?_
          refine tv_if_eq X 71 dX9_fieldOf_64 (by decide) h (fun h => ?_) (fun h => ?_)
          · refine V.pick [0, 1, 2, 3, 4, 5, 6, 8] rfl ?_
            exact l_X9_fieldOf_71 X (l_X9_fieldOf_72 X ih) s2 v1 v2 v3 v4 v5 v6 v8 h
          · refine tv_iconst X 1 dX9_fieldOf_67 (by decide) ?_
            refine tv_goto X 72 dX9_fieldOf_68 (by decide) ?_
            refine V.pick [0, 1, 2, 3, 4, 5, 6, 8] rfl ?_
            exact l_X9_fieldOf_72 X ih s2 1 v1 v2 v3 v4 v5 v6 v8 h
set_option maxHeartbeats 4000000 in
set_option maxRecDepth 100000 in
theorem l_X9_fieldOf_3 {Γ : Cx} {Ω : Wd} {ad : Nat → Nat → Nat} {A : Nat → Prop} {res : St × Int32} (X : Fx Γ Ω A cX9_fieldOf 9 "MappingTextsModel" rm_X9_fieldOf (some .int)) : ∀ (n : Nat) (σ : St) (v1 : Int32) (v2 : Int32) (v3 : Int32) (v4 : Int32), f_X9_fieldOf_3 n σ v1 v2 v3 v4 = some res → V Γ (0, 0) (Qe Γ (0, 0) A (Qci (PicM Ω ad A) A res)) A 9 (PicM Ω ad A σ) 3 [(0, .ref (ad 0 0)), (1, .int v1), (2, .int v2), (3, .int v3), (4, .int v4)] [] := by
  intro n
  induction n with
  | zero =>
    intro σ v1 v2 v3 v4 h
    cases (show none = some res from h)
  | succ n ih =>
    intro σ v1 v2 v3 v4 h
    rw [f_X9_fieldOf_3] at h
    refine tv_iload X dX9_fieldOf_3 4 rfl ?_
    refine tv_aload_n X dX9_fieldOf_5 rfl 0 rfl ?_
    refine gM8_11 X (by omega) gw_5_15 dX9_fieldOf_6 ?_
    refine tv_iload_n X dX9_fieldOf_9 rfl 1 rfl ?_
    refine iaM (n := 8) X (by omega) rfl dX9_fieldOf_10 h (fun j1 hj1 h => ?_)
    refine tv_icmp_ge X 128 dX9_fieldOf_11 (by decide) h (fun h => ?_) (fun h => ?_)
    · refine tv_bipush X (-2) dX9_fieldOf_128 (by decide) ?_
      exact tv_iret X dX9_fieldOf_130 h
    · refine tv_iload X dX9_fieldOf_14 4 rfl ?_
      refine tv_istore X dX9_fieldOf_16 (by decide) [(5, .int v4), (0, .ref (ad 0 0)), (1, .int v1), (2, .int v2), (3, .int v3), (4, .int v4)] rfl ?_
      refine tv_iload_n X dX9_fieldOf_18 rfl 3 rfl ?_
      refine tv_iconst X 2 dX9_fieldOf_19 (by decide) ?_
      refine tv_iload_n X dX9_fieldOf_20 rfl 4 rfl ?_
      refine tv_iconst X 1 dX9_fieldOf_21 (by decide) ?_
      refine tv_isub X dX9_fieldOf_22 ?_
      refine tv_imul X dX9_fieldOf_23 ?_
      refine tv_iadd X dX9_fieldOf_24 ?_
      refine tv_istore X dX9_fieldOf_25 (by decide) [(6, .int (v2 + (2 * (v3 - 1)))), (5, .int v4), (0, .ref (ad 0 0)), (1, .int v1), (2, .int v2), (3, .int v3), (4, .int v4)] rfl ?_
      refine tv_iconst X 1 dX9_fieldOf_27 (by decide) ?_
      refine tv_istore X dX9_fieldOf_28 (by decide) [(7, .int 1), (6, .int (v2 + (2 * (v3 - 1)))), (5, .int v4), (0, .ref (ad 0 0)), (1, .int v1), (2, .int v2), (3, .int v3), (4, .int v4)] rfl ?_
      refine tv_iconst X 0 dX9_fieldOf_30 (by decide) ?_
      refine tv_istore X dX9_fieldOf_31 (by decide) [(8, .int 0), (7, .int 1), (6, .int (v2 + (2 * (v3 - 1)))), (5, .int v4), (0, .ref (ad 0 0)), (1, .int v1), (2, .int v2), (3, .int v3), (4, .int v4)] rfl ?_
      refine V.pick [4, 5, 6, 7, 8, 3, 2, 1, 0] rfl ?_
      exact l_X9_fieldOf_33 X ih fl σ v1 v2 v3 v4 v4 (v2 + (2 * (v3 - 1))) 1 0 h
set_option maxHeartbeats 4000000 in
set_option maxRecDepth 100000 in
theorem c_X9_fieldOf (l : Launch) (Ω : Wd) (ad : Nat → Nat → Nat) (A : Nat → Prop) (σ : St) (a1 : Int32) (a2 : Int32) (a3 : Int32) {res : St × Int32} (h : f_X9_fieldOf σ a1 a2 a3 = some res) : Met l yX9_fieldOf (wsO yX9_fieldOf cX9_fieldOf 9 (some .int)) rm_X9_fieldOf (PcZ Ω A (PicM Ω ad A σ) [.ref (ad 0 0), .int a1, .int a2, .int a3]) (Qci (PicM Ω ad A) A res) 0 0 A := by
  refine Met.ofV (by decide) rfl (fun Γ hΓ X => ?_)
  have X : Fx Γ Ω A cX9_fieldOf 9 "MappingTextsModel" rm_X9_fieldOf (some .int) := X
  unfold f_X9_fieldOf at h
  show V Γ (0, 0) _ A 9 _ 0 [(0, .ref (ad 0 0)), (1, .int a1), (2, .int a2), (3, .int a3)] []
  refine tv_iconst X 0 dX9_fieldOf_0 (by decide) ?_
  refine tv_istore X dX9_fieldOf_1 (by decide) [(4, .int 0), (0, .ref (ad 0 0)), (1, .int a1), (2, .int a2), (3, .int a3)] rfl ?_
  refine V.pick [1, 2, 3, 4, 0] rfl ?_
  exact l_X9_fieldOf_3 X fl σ a1 a2 a3 0 h
set_option maxHeartbeats 4000000 in
set_option maxRecDepth 100000 in
theorem l_X9_isFirst_39 {Γ : Cx} {Ω : Wd} {ad : Nat → Nat → Nat} {A : Nat → Prop} {res : St × Int32} (X : Fx Γ Ω A cX9_isFirst 3 "MappingTextsModel" rm_X9_isFirst (some .boolean)) {k2 : St → Int32 → Int32 → Option (St × Int32)} (hk2 : ∀ (σ : St) (v1 : Int32) (v2 : Int32), k2 σ v1 v2 = some res → V Γ (0, 0) (Qe Γ (0, 0) A (Qci (PicM Ω ad A) A res)) A 3 (PicM Ω ad A σ) 2 [(0, .ref (ad 0 0)), (1, .int v1), (2, .int v2)] []) (σ : St) (v1 : Int32) (v2 : Int32) (h : f_X9_isFirst_39 k2 σ v1 v2 = some res) : V Γ (0, 0) (Qe Γ (0, 0) A (Qci (PicM Ω ad A) A res)) A 3 (PicM Ω ad A σ) 39 [(0, .ref (ad 0 0)), (1, .int v1), (2, .int v2)] [] := by
  unfold f_X9_isFirst_39 at h
  refine tv_iinc X (v2 + 1) dX9_isFirst_39 2 rfl rfl (by decide) [(2, .int (v2 + 1)), (0, .ref (ad 0 0)), (1, .int v1)] rfl ?_
  refine tv_goto X 2 dX9_isFirst_42 (by decide) ?_
  refine V.pick [1, 2, 0] rfl ?_
  exact hk2 σ v1 (v2 + 1) h
set_option maxHeartbeats 4000000 in
set_option maxRecDepth 100000 in
theorem l_X9_isFirst_2 {Γ : Cx} {Ω : Wd} {ad : Nat → Nat → Nat} {A : Nat → Prop} {res : St × Int32} (X : Fx Γ Ω A cX9_isFirst 3 "MappingTextsModel" rm_X9_isFirst (some .boolean)) : ∀ (n : Nat) (σ : St) (v1 : Int32) (v2 : Int32), f_X9_isFirst_2 n σ v1 v2 = some res → V Γ (0, 0) (Qe Γ (0, 0) A (Qci (PicM Ω ad A) A res)) A 3 (PicM Ω ad A σ) 2 [(0, .ref (ad 0 0)), (1, .int v1), (2, .int v2)] [] := by
  intro n
  induction n with
  | zero =>
    intro σ v1 v2 h
    cases (show none = some res from h)
  | succ n ih =>
    intro σ v1 v2 h
    rw [f_X9_isFirst_2] at h
    refine tv_iload_n X dX9_isFirst_2 rfl 2 rfl ?_
    refine tv_iload_n X dX9_isFirst_3 rfl 1 rfl ?_
    refine tv_icmp_ge X 45 dX9_isFirst_4 (by decide) h (fun h => ?_) (fun h => ?_)
    · refine tv_iconst X 1 dX9_isFirst_45 (by decide) ?_
      exact tv_zret X dX9_isFirst_46 (Or.inr rfl) h
    · refine tv_aload_n X dX9_isFirst_7 rfl 0 rfl ?_
      refine gM8_39 X (by omega) gw_5_43 dX9_isFirst_8 ?_
      refine tv_iload_n X dX9_isFirst_11 rfl 2 rfl ?_
      refine iaM (n := 700) X (by omega) rfl dX9_isFirst_12 h (fun j1 hj1 h => ?_)
      refine tv_aload_n X dX9_isFirst_13 rfl 0 rfl ?_
      refine gM8_39 X (by omega) gw_5_43 dX9_isFirst_14 ?_
      refine tv_iload_n X dX9_isFirst_17 rfl 1 rfl ?_
      refine iaM (n := 700) X (by omega) rfl dX9_isFirst_18 h (fun j2 hj2 h => ?_)
      refine tv_icmp_ne X 39 dX9_isFirst_19 (by decide) h (fun h => ?_) (fun h => ?_)
      · exact l_X9_isFirst_39 X ih σ v1 v2 h
      · refine tv_aload_n X dX9_isFirst_22 rfl 0 rfl ?_
        refine gM8_40 X (by omega) gw_5_44 dX9_isFirst_23 ?_
        refine tv_iload_n X dX9_isFirst_26 rfl 2 rfl ?_
        refine iaM (n := 700) X (by omega) rfl dX9_isFirst_27 h (fun j3 hj3 h => ?_)
        refine tv_aload_n X dX9_isFirst_28 rfl 0 rfl ?_
        refine gM8_40 X (by omega) gw_5_44 dX9_isFirst_29 ?_
        refine tv_iload_n X dX9_isFirst_32 rfl 1 rfl ?_
        refine iaM (n := 700) X (by omega) rfl dX9_isFirst_33 h (fun j4 hj4 h => ?_)
        refine tv_icmp_ne X 39 dX9_isFirst_34 (by decide) h (fun h => ?_) (fun h => ?_)
        · exact l_X9_isFirst_39 X ih σ v1 v2 h
        · refine tv_iconst X 0 dX9_isFirst_37 (by decide) ?_
          exact tv_zret X dX9_isFirst_38 (Or.inl rfl) h
set_option maxHeartbeats 4000000 in
set_option maxRecDepth 100000 in
theorem c_X9_isFirst (l : Launch) (Ω : Wd) (ad : Nat → Nat → Nat) (A : Nat → Prop) (σ : St) (a1 : Int32) {res : St × Int32} (h : f_X9_isFirst σ a1 = some res) : Met l yX9_isFirst (wsO yX9_isFirst cX9_isFirst 3 (some .boolean)) rm_X9_isFirst (PcZ Ω A (PicM Ω ad A σ) [.ref (ad 0 0), .int a1]) (Qci (PicM Ω ad A) A res) 0 0 A := by
  refine Met.ofV (by decide) rfl (fun Γ hΓ X => ?_)
  have X : Fx Γ Ω A cX9_isFirst 3 "MappingTextsModel" rm_X9_isFirst (some .boolean) := X
  unfold f_X9_isFirst at h
  show V Γ (0, 0) _ A 3 _ 0 [(0, .ref (ad 0 0)), (1, .int a1)] []
  refine tv_iconst X 0 dX9_isFirst_0 (by decide) ?_
  refine tv_istore_n X dX9_isFirst_1 rfl (by decide) [(2, .int 0), (0, .ref (ad 0 0)), (1, .int a1)] rfl ?_
  refine V.pick [1, 2, 0] rfl ?_
  exact l_X9_isFirst_2 X fl σ a1 0 h
set_option maxHeartbeats 4000000 in
set_option maxRecDepth 100000 in
theorem l_X9_judge_133 {Γ : Cx} {Ω : Wd} {ad : Nat → Nat → Nat} {A : Nat → Prop} {res : St × Unit} (X : Fx Γ Ω A cX9_judge 6 "MappingTextsModel" rm_X9_judge none) {k149 : St → Int32 → Int32 → Option (St × Unit)} (hk149 : ∀ (σ : St) (v1 : Int32) (v2 : Int32), k149 σ v1 v2 = some res → V Γ (0, 0) (Qe Γ (0, 0) A (Qcv (PicM Ω ad A) A res)) A 6 (PicM Ω ad A σ) 149 [(0, .ref (ad 0 0)), (1, .int v1), (2, .int v2)] []) (σ : St) (v1 : Int32) (v2 : Int32) (v3 : Int32) (v4 : Int32) (h : f_X9_judge_133 k149 σ v1 v2 v3 v4 = some res) : V Γ (0, 0) (Qe Γ (0, 0) A (Qcv (PicM Ω ad A) A res)) A 6 (PicM Ω ad A σ) 133 [(0, .ref (ad 0 0)), (1, .int v1), (2, .int v2), (3, .int v3), (4, .int v4)] [] := by
  unfold f_X9_judge_133 at h
  refine tv_aload_n X dX9_judge_133 rfl 0 rfl ?_
  refine tv_iload_n X dX9_judge_134 rfl 2 rfl ?_
  obtain ⟨s38, x39, hs38, h⟩ := cl_some h
  refine tv_callVi (st := []) X (c_X9_isFirst Γ.2.1 Ω ad A σ v2 hs38) ⟨gw_6_49, gw_6_46, gw_1_10, q_X9_isFirst, rfl, rfl, ⟨Nat.le_of_ble_eq_true rfl, Nat.le_of_ble_eq_true rfl⟩⟩ gw_6_48 gw_p_68 (fun H _ hz _ => PP.recv (f := 0) (i := 0) X.2.1 hz.1 (show 0 < 1 by omega) rfl rfl) rfl rfl (Nat.le_of_ble_eq_true rfl) dX9_judge_135 ?_
  refine tv_if_eq X 149 dX9_judge_138 (by decide) h (fun h => ?_) (fun h => ?_)
  · refine V.pick [0, 1, 2] rfl ?_
    exact hk149 s38 v1 v2 h
  · refine tv_aload_n X dX9_judge_141 rfl 0 rfl ?_
    refine gM8_20 X (by omega) gw_5_24 dX9_judge_142 ?_
    refine tv_iload_n X dX9_judge_145 rfl 3 rfl ?_
    refine tv_iload X dX9_judge_146 4 rfl ?_
    refine isM (n := 320) X (by omega) rfl dX9_judge_148 h (fun j40 hj40 h => ?_)
    refine tv_ns h (fun s41 h => ?_)
    refine V.pick [0, 1, 2] rfl ?_
    exact hk149 s41 v1 v2 h
set_option maxHeartbeats 4000000 in
set_option maxRecDepth 100000 in
theorem l_X9_judge_149 {Γ : Cx} {Ω : Wd} {ad : Nat → Nat → Nat} {A : Nat → Prop} {res : St × Unit} (X : Fx Γ Ω A cX9_judge 6 "MappingTextsModel" rm_X9_judge none) {k2 : St → Int32 → Int32 → Option (St × Unit)} (hk2 : ∀ (σ : St) (v1 : Int32) (v2 : Int32), k2 σ v1 v2 = some res → V Γ (0, 0) (Qe Γ (0, 0) A (Qcv (PicM Ω ad A) A res)) A 6 (PicM Ω ad A σ) 2 [(0, .ref (ad 0 0)), (1, .int v1), (2, .int v2)] []) (σ : St) (v1 : Int32) (v2 : Int32) (h : f_X9_judge_149 k2 σ v1 v2 = some res) : V Γ (0, 0) (Qe Γ (0, 0) A (Qcv (PicM Ω ad A) A res)) A 6 (PicM Ω ad A σ) 149 [(0, .ref (ad 0 0)), (1, .int v1), (2, .int v2)] [] := by
  unfold f_X9_judge_149 at h
  refine tv_iinc X (v2 + 1) dX9_judge_149 2 rfl rfl (by decide) [(2, .int (v2 + 1)), (0, .ref (ad 0 0)), (1, .int v1)] rfl ?_
  refine tv_goto X 2 dX9_judge_152 (by decide) ?_
  refine V.pick [1, 2, 0] rfl ?_
  exact hk2 σ v1 (v2 + 1) h
set_option maxHeartbeats 4000000 in
set_option maxRecDepth 100000 in
theorem l_X9_judge_104 {Γ : Cx} {Ω : Wd} {ad : Nat → Nat → Nat} {A : Nat → Prop} {res : St × Unit} (X : Fx Γ Ω A cX9_judge 6 "MappingTextsModel" rm_X9_judge none) {k2 : St → Int32 → Int32 → Option (St × Unit)} (hk2 : ∀ (σ : St) (v1 : Int32) (v2 : Int32), k2 σ v1 v2 = some res → V Γ (0, 0) (Qe Γ (0, 0) A (Qcv (PicM Ω ad A) A res)) A 6 (PicM Ω ad A σ) 2 [(0, .ref (ad 0 0)), (1, .int v1), (2, .int v2)] []) (σ : St) (v1 : Int32) (v2 : Int32) (v3 : Int32) (v4 : Int32) (h : f_X9_judge_104 k2 σ v1 v2 v3 v4 = some res) : V Γ (0, 0) (Qe Γ (0, 0) A (Qcv (PicM Ω ad A) A res)) A 6 (PicM Ω ad A σ) 104 [(0, .ref (ad 0 0)), (1, .int v1), (2, .int v2), (3, .int v3), (4, .int v4)] [] := by
  unfold f_X9_judge_104 at h
  refine tv_aload_n X dX9_judge_104 rfl 0 rfl ?_
  refine tv_iload_n X dX9_judge_105 rfl 2 rfl ?_
  obtain ⟨s24, x25, hs24, h⟩ := cl_some h
  refine tv_callVi (st := []) X (c_X9_isFirst Γ.2.1 Ω ad A σ v2 hs24) ⟨gw_6_49, gw_6_46, gw_1_10, q_X9_isFirst, rfl, rfl, ⟨Nat.le_of_ble_eq_true rfl, Nat.le_of_ble_eq_true rfl⟩⟩ gw_6_48 gw_p_68 (fun H _ hz _ => PP.recv (f := 0) (i := 0) X.2.1 hz.1 (show 0 < 1 by omega) rfl rfl) rfl rfl (Nat.le_of_ble_eq_true rfl) dX9_judge_106 ?_
  refine tv_if_eq X 133 dX9_judge_109 (by decide) h (fun h => ?_) (fun h => ?_)
  · exact l_X9_judge_133 X (l_X9_judge_149 X hk2) s24 v1 v2 v3 v4 h
  · refine tv_aload_n X dX9_judge_112 rfl 0 rfl ?_
    refine gM8_40 X (by omega) gw_5_44 dX9_judge_113 ?_
    refine tv_iload_n X dX9_judge_116 rfl 2 rfl ?_
    refine iaM (n := 700) X (by omega) rfl dX9_judge_117 h (fun j26 hj26 h => ?_)
    refine tv_iconst X 4 dX9_judge_118 (by decide) ?_
    refine tv_icmp_ne X 133 dX9_judge_119 (by decide) h (fun h => ?_) (fun h => ?_)
    · exact l_X9_judge_133 X (l_X9_judge_149 X hk2) s24 v1 v2 v3 v4 h
    · refine tv_aload_n X dX9_judge_122 rfl 0 rfl ?_
      refine gM8_19 X (by omega) gw_5_23 dX9_judge_123 ?_
      refine tv_iload_n X dX9_judge_126 rfl 3 rfl ?_
      refine tv_iload X dX9_judge_127 4 rfl ?_
      refine isM (n := 320) X (by omega) rfl dX9_judge_129 h (fun j27 hj27 h => ?_)
      refine tv_ns h (fun s28 h => ?_)
      refine tv_goto X 149 dX9_judge_130 (by decide) ?_
      refine V.pick [0, 1, 2] rfl ?_
      exact l_X9_judge_149 X hk2 s28 v1 v2 h
set_option maxHeartbeats 4000000 in
set_option maxRecDepth 100000 in
theorem l_X9_judge_84 {Γ : Cx} {Ω : Wd} {ad : Nat → Nat → Nat} {A : Nat → Prop} {res : St × Unit} (X : Fx Γ Ω A cX9_judge 6 "MappingTextsModel" rm_X9_judge none) {k2 : St → Int32 → Int32 → Option (St × Unit)} (hk2 : ∀ (σ : St) (v1 : Int32) (v2 : Int32), k2 σ v1 v2 = some res → V Γ (0, 0) (Qe Γ (0, 0) A (Qcv (PicM Ω ad A) A res)) A 6 (PicM Ω ad A σ) 2 [(0, .ref (ad 0 0)), (1, .int v1), (2, .int v2)] []) (σ : St) (t0 : Int32) (t1 : Int32) (v1 : Int32) (v2 : Int32) (v3 : Int32) (v4 : Int32) (h : f_X9_judge_84 k2 σ t0 t1 v1 v2 v3 v4 = some res) : V Γ (0, 0) (Qe Γ (0, 0) A (Qcv (PicM Ω ad A) A res)) A 6 (PicM Ω ad A σ) 84 [(0, .ref (ad 0 0)), (1, .int v1), (2, .int v2), (3, .int v3), (4, .int v4)] [.int t1, .int t0] := by
  unfold f_X9_judge_84 at h
  refine tv_icmp_le X 104 dX9_judge_84 (by decide) h (fun h => ?_) (fun h => ?_)
  · exact l_X9_judge_104 X hk2 σ v1 v2 v3 v4 h
  · refine tv_aload_n X dX9_judge_87 rfl 0 rfl ?_
    refine tv_bipush X 8 dX9_judge_88 (by decide) ?_
    refine tv_aload_n X dX9_judge_90 rfl 0 rfl ?_
    refine gM8_32 X (by omega) gw_5_36 dX9_judge_91 ?_
    refine tv_aload_n X dX9_judge_94 rfl 0 rfl ?_
    refine gM8_41 X (by omega) gw_5_45 dX9_judge_95 ?_
    refine tv_iload_n X dX9_judge_98 rfl 2 rfl ?_
    refine iaM (n := 700) X (by omega) rfl dX9_judge_99 h (fun j15 hj15 h => ?_)
    refine iaM (n := 2001) X (by omega) rfl dX9_judge_100 h (fun j16 hj16 h => ?_)
    obtain ⟨s17, _u101, hs17, h⟩ := cl_some h
    refine tv_callVv (st := []) X (c_X9_note Γ.2.1 Ω ad A σ 8 (ga σ 1 15 j16) hs17) ⟨gw_6_5, gw_6_2, gw_1_10, q_X9_note, rfl, rfl, ⟨Nat.le_of_ble_eq_true rfl, Nat.le_of_ble_eq_true rfl⟩⟩ gw_6_4 gw_p_57 (fun H _ hz _ => PP.recv (f := 0) (i := 0) X.2.1 hz.1 (show 0 < 1 by omega) rfl rfl) rfl rfl (Nat.le_of_ble_eq_true rfl) dX9_judge_101 ?_
    exact l_X9_judge_104 X hk2 s17 v1 v2 v3 v4 h
set_option maxHeartbeats 4000000 in
set_option maxRecDepth 100000 in
theorem l_X9_judge_65 {Γ : Cx} {Ω : Wd} {ad : Nat → Nat → Nat} {A : Nat → Prop} {res : St × Unit} (X : Fx Γ Ω A cX9_judge 6 "MappingTextsModel" rm_X9_judge none) {k2 : St → Int32 → Int32 → Option (St × Unit)} (hk2 : ∀ (σ : St) (v1 : Int32) (v2 : Int32), k2 σ v1 v2 = some res → V Γ (0, 0) (Qe Γ (0, 0) A (Qcv (PicM Ω ad A) A res)) A 6 (PicM Ω ad A σ) 2 [(0, .ref (ad 0 0)), (1, .int v1), (2, .int v2)] []) (σ : St) (t0 : Int32) (v1 : Int32) (v2 : Int32) (v3 : Int32) (v4 : Int32) (h : f_X9_judge_65 k2 σ t0 v1 v2 v3 v4 = some res) : V Γ (0, 0) (Qe Γ (0, 0) A (Qcv (PicM Ω ad A) A res)) A 6 (PicM Ω ad A σ) 65 [(0, .ref (ad 0 0)), (1, .int v1), (2, .int v2), (3, .int v3), (4, .int v4)] [.int t0] := by
  unfold f_X9_judge_65 at h
  refine tv_istore X dX9_judge_65 (by decide) [(5, .int t0), (0, .ref (ad 0 0)), (1, .int v1), (2, .int v2), (3, .int v3), (4, .int v4)] rfl ?_
  refine tv_iload X dX9_judge_67 0 rfl ?_
  refine tv_aload_n X dX9_judge_69 rfl 1 rfl ?_
  refine gM8_40 X (by omega) gw_5_44 dX9_judge_70 ?_
  refine tv_iload_n X dX9_judge_73 rfl 3 rfl ?_
  refine iaM (n := 700) X (by omega) rfl dX9_judge_74 h (fun j7 hj7 h => ?_)
  refine tv_iconst X 4 dX9_judge_75 (by decide) ?_
  refine tv_icmp_ne X 83 dX9_judge_76 (by decide) h (fun h => ?_) (fun h => ?_)
  · refine tv_iconst X 4 dX9_judge_83 (by decide) ?_
    refine V.pick [1, 2, 3, 4, 5] rfl ?_
    exact l_X9_judge_84 X hk2 σ t0 4 v1 v2 v3 v4 h
  · refine tv_iconst X 1 dX9_judge_79 (by decide) ?_
    refine tv_goto X 84 dX9_judge_80 (by decide) ?_
    refine V.pick [1, 2, 3, 4, 5] rfl ?_
    exact l_X9_judge_84 X hk2 σ t0 1 v1 v2 v3 v4 h
set_option maxHeartbeats 4000000 in
set_option maxRecDepth 100000 in
theorem l_X9_judge_244 {Γ : Cx} {Ω : Wd} {ad : Nat → Nat → Nat} {A : Nat → Prop} {res : St × Unit} (X : Fx Γ Ω A cX9_judge 6 "MappingTextsModel" rm_X9_judge none) {k271 : St → Int32 → Int32 → Option (St × Unit)} (hk271 : ∀ (σ : St) (v1 : Int32) (v2 : Int32), k271 σ v1 v2 = some res → V Γ (0, 0) (Qe Γ (0, 0) A (Qcv (PicM Ω ad A) A res)) A 6 (PicM Ω ad A σ) 271 [(0, .ref (ad 0 0)), (1, .int v1), (2, .int v2)] []) (σ : St) (v1 : Int32) (v2 : Int32) (v3 : Int32) (h : f_X9_judge_244 k271 σ v1 v2 v3 = some res) : V Γ (0, 0) (Qe Γ (0, 0) A (Qcv (PicM Ω ad A) A res)) A 6 (PicM Ω ad A σ) 244 [(0, .ref (ad 0 0)), (1, .int v1), (2, .int v2), (3, .int v3)] [] := by
  unfold f_X9_judge_244 at h
  refine tv_iload_n X dX9_judge_244 rfl 3 rfl ?_
  refine tv_aload_n X dX9_judge_245 rfl 0 rfl ?_
  refine gM8_39 X (by omega) gw_5_43 dX9_judge_246 ?_
  refine tv_iload_n X dX9_judge_249 rfl 2 rfl ?_
  refine iaM (n := 700) X (by omega) rfl dX9_judge_250 h (fun j29 hj29 h => ?_)
  refine tv_icmp_ne X 271 dX9_judge_251 (by decide) h (fun h => ?_) (fun h => ?_)
  · refine V.pick [0, 1, 2] rfl ?_
    exact hk271 σ v1 v2 h
  · refine tv_aload_n X dX9_judge_254 rfl 0 rfl ?_
    refine tv_bipush X 9 dX9_judge_255 (by decide) ?_
    refine tv_aload_n X dX9_judge_257 rfl 0 rfl ?_
    refine gM8_32 X (by omega) gw_5_36 dX9_judge_258 ?_
    refine tv_aload_n X dX9_judge_261 rfl 0 rfl ?_
    refine gM8_43 X (by omega) gw_5_47 dX9_judge_262 ?_
    refine tv_iload_n X dX9_judge_265 rfl 2 rfl ?_
    refine iaM (n := 700) X (by omega) rfl dX9_judge_266 h (fun j30 hj30 h => ?_)
    refine iaM (n := 2001) X (by omega) rfl dX9_judge_267 h (fun j31 hj31 h => ?_)
    obtain ⟨s32, _u268, hs32, h⟩ := cl_some h
    refine tv_callVv (st := []) X (c_X9_note Γ.2.1 Ω ad A σ 9 (ga σ 1 15 j31) hs32) ⟨gw_6_5, gw_6_2, gw_1_10, q_X9_note, rfl, rfl, ⟨Nat.le_of_ble_eq_true rfl, Nat.le_of_ble_eq_true rfl⟩⟩ gw_6_4 gw_p_57 (fun H _ hz _ => PP.recv (f := 0) (i := 0) X.2.1 hz.1 (show 0 < 1 by omega) rfl rfl) rfl rfl (Nat.le_of_ble_eq_true rfl) dX9_judge_268 ?_
    refine V.pick [0, 1, 2] rfl ?_
    exact hk271 s32 v1 v2 h
set_option maxHeartbeats 4000000 in
set_option maxRecDepth 100000 in
theorem l_X9_judge_203 {Γ : Cx} {Ω : Wd} {ad : Nat → Nat → Nat} {A : Nat → Prop} {res : St × Unit} (X : Fx Γ Ω A cX9_judge 6 "MappingTextsModel" rm_X9_judge none) {k271 : St → Int32 → Int32 → Option (St × Unit)} (hk271 : ∀ (σ : St) (v1 : Int32) (v2 : Int32), k271 σ v1 v2 = some res → V Γ (0, 0) (Qe Γ (0, 0) A (Qcv (PicM Ω ad A) A res)) A 6 (PicM Ω ad A σ) 271 [(0, .ref (ad 0 0)), (1, .int v1), (2, .int v2)] []) : ∀ (n : Nat) (σ : St) (v1 : Int32) (v2 : Int32) (v3 : Int32) (v4 : Int32), f_X9_judge_203 k271 n σ v1 v2 v3 v4 = some res → V Γ (0, 0) (Qe Γ (0, 0) A (Qcv (PicM Ω ad A) A res)) A 6 (PicM Ω ad A σ) 203 [(0, .ref (ad 0 0)), (1, .int v1), (2, .int v2), (3, .int v3), (4, .int v4)] [] := by
  intro n
  induction n with
  | zero =>
    intro σ v1 v2 v3 v4 h
    cases (show none = some res from h)
  | succ n ih =>
    intro σ v1 v2 v3 v4 h
    rw [f_X9_judge_203] at h
    refine tv_iload X dX9_judge_203 4 rfl ?_
    refine tv_bipush X 40 dX9_judge_205 (by decide) ?_
    refine tv_icmp_ge X 244 dX9_judge_207 (by decide) h (fun h => ?_) (fun h => ?_)
    · refine V.pick [0, 1, 2, 3] rfl ?_
      exact l_X9_judge_244 X hk271 σ v1 v2 v3 h
    · refine tv_iload_n X dX9_judge_210 rfl 3 rfl ?_
      refine tv_bipush X (-2) dX9_judge_211 (by decide) ?_
      refine tv_icmp_eq X 244 dX9_judge_213 (by decide) h (fun h => ?_) (fun h => ?_)
      · refine V.pick [0, 1, 2, 3] rfl ?_
        exact l_X9_judge_244 X hk271 σ v1 v2 v3 h
      · refine tv_iload_n X dX9_judge_216 rfl 3 rfl ?_
        refine tv_aload_n X dX9_judge_217 rfl 0 rfl ?_
        refine gM8_39 X (by omega) gw_5_43 dX9_judge_218 ?_
        refine tv_iload_n X dX9_judge_221 rfl 2 rfl ?_
        refine iaM (n := 700) X (by omega) rfl dX9_judge_222 h (fun j18 hj18 h => ?_)
        refine tv_icmp_eq X 244 dX9_judge_223 (by decide) h (fun h => ?_) (fun h => ?_)
        · refine V.pick [0, 1, 2, 3] rfl ?_
          exact l_X9_judge_244 X hk271 σ v1 v2 v3 h
        · refine tv_aload_n X dX9_judge_226 rfl 0 rfl ?_
          refine gM8_19 X (by omega) gw_5_23 dX9_judge_227 ?_
          refine tv_bipush X 40 dX9_judge_230 (by decide) ?_
          refine tv_iload_n X dX9_judge_232 rfl 1 rfl ?_
          refine tv_imul X dX9_judge_233 ?_
          refine tv_iload_n X dX9_judge_234 rfl 3 rfl ?_
          refine tv_iadd X dX9_judge_235 ?_
          refine iaM (n := 320) X (by omega) rfl dX9_judge_236 h (fun j19 hj19 h => ?_)
          refine tv_istore_n X dX9_judge_237 rfl (by decide) [(3, .int (ga σ 1 7 j19)), (0, .ref (ad 0 0)), (1, .int v1), (2, .int v2), (4, .int v4)] rfl ?_
          refine tv_iinc X (v4 + 1) dX9_judge_238 4 rfl rfl (by decide) [(4, .int (v4 + 1)), (3, .int (ga σ 1 7 j19)), (0, .ref (ad 0 0)), (1, .int v1), (2, .int v2)] rfl ?_
          refine tv_goto X 203 dX9_judge_241 (by decide) ?_
          refine V.pick [2, 3, 4, 1, 0] rfl ?_
          exact ih σ v1 v2 (ga σ 1 7 j19) (v4 + 1) h
set_option maxHeartbeats 4000000 in
set_option maxRecDepth 100000 in
theorem l_X9_judge_271 {Γ : Cx} {Ω : Wd} {ad : Nat → Nat → Nat} {A : Nat → Prop} {res : St × Unit} (X : Fx Γ Ω A cX9_judge 6 "MappingTextsModel" rm_X9_judge none) {k157 : St → Int32 → Int32 → Option (St × Unit)} (hk157 : ∀ (σ : St) (v1 : Int32) (v2 : Int32), k157 σ v1 v2 = some res → V Γ (0, 0) (Qe Γ (0, 0) A (Qcv (PicM Ω ad A) A res)) A 6 (PicM Ω ad A σ) 157 [(0, .ref (ad 0 0)), (1, .int v1), (2, .int v2)] []) (σ : St) (v1 : Int32) (v2 : Int32) (h : f_X9_judge_271 k157 σ v1 v2 = some res) : V Γ (0, 0) (Qe Γ (0, 0) A (Qcv (PicM Ω ad A) A res)) A 6 (PicM Ω ad A σ) 271 [(0, .ref (ad 0 0)), (1, .int v1), (2, .int v2)] [] := by
  unfold f_X9_judge_271 at h
  refine tv_iinc X (v2 + 1) dX9_judge_271 2 rfl rfl (by decide) [(2, .int (v2 + 1)), (0, .ref (ad 0 0)), (1, .int v1)] rfl ?_
  refine tv_goto X 157 dX9_judge_274 (by decide) ?_
  refine V.pick [1, 2, 0] rfl ?_
  exact hk157 σ v1 (v2 + 1) h
set_option maxHeartbeats 4000000 in
set_option maxRecDepth 100000 in
theorem l_X9_judge_322 {Γ : Cx} {Ω : Wd} {ad : Nat → Nat → Nat} {A : Nat → Prop} {res : St × Unit} (X : Fx Γ Ω A cX9_judge 6 "MappingTextsModel" rm_X9_judge none) {k339 : St → Int32 → Int32 → Int32 → Option (St × Unit)} (hk339 : ∀ (σ : St) (v1 : Int32) (v2 : Int32) (v3 : Int32), k339 σ v1 v2 v3 = some res → V Γ (0, 0) (Qe Γ (0, 0) A (Qcv (PicM Ω ad A) A res)) A 6 (PicM Ω ad A σ) 339 [(0, .ref (ad 0 0)), (1, .int v1), (2, .int v2), (3, .int v3)] []) (σ : St) (v1 : Int32) (v2 : Int32) (v3 : Int32) (h : f_X9_judge_322 k339 σ v1 v2 v3 = some res) : V Γ (0, 0) (Qe Γ (0, 0) A (Qcv (PicM Ω ad A) A res)) A 6 (PicM Ω ad A σ) 322 [(0, .ref (ad 0 0)), (1, .int v1), (2, .int v2), (3, .int v3)] [] := by
  unfold f_X9_judge_322 at h
  refine tv_aload_n X dX9_judge_322 rfl 0 rfl ?_
  refine tv_bipush X 10 dX9_judge_323 (by decide) ?_
  refine tv_aload_n X dX9_judge_325 rfl 0 rfl ?_
  refine gM8_32 X (by omega) gw_5_36 dX9_judge_326 ?_
  refine tv_aload_n X dX9_judge_329 rfl 0 rfl ?_
  refine gM8_45 X (by omega) gw_5_49 dX9_judge_330 ?_
  refine tv_iload_n X dX9_judge_333 rfl 2 rfl ?_
  refine iaM (n := 700) X (by omega) rfl dX9_judge_334 h (fun j33 hj33 h => ?_)
  refine iaM (n := 2001) X (by omega) rfl dX9_judge_335 h (fun j34 hj34 h => ?_)
  obtain ⟨s35, _u336, hs35, h⟩ := cl_some h
  refine tv_callVv (st := []) X (c_X9_note Γ.2.1 Ω ad A σ 10 (ga σ 1 15 j34) hs35) ⟨gw_6_5, gw_6_2, gw_1_10, q_X9_note, rfl, rfl, ⟨Nat.le_of_ble_eq_true rfl, Nat.le_of_ble_eq_true rfl⟩⟩ gw_6_4 gw_p_57 (fun H _ hz _ => PP.recv (f := 0) (i := 0) X.2.1 hz.1 (show 0 < 1 by omega) rfl rfl) rfl rfl (Nat.le_of_ble_eq_true rfl) dX9_judge_336 ?_
  exact hk339 s35 v1 v2 v3 h
set_option maxHeartbeats 4000000 in
set_option maxRecDepth 100000 in
theorem l_X9_judge_339 {Γ : Cx} {Ω : Wd} {ad : Nat → Nat → Nat} {A : Nat → Prop} {res : St × Unit} (X : Fx Γ Ω A cX9_judge 6 "MappingTextsModel" rm_X9_judge none) {k287 : St → Int32 → Int32 → Option (St × Unit)} (hk287 : ∀ (σ : St) (v1 : Int32) (v2 : Int32), k287 σ v1 v2 = some res → V Γ (0, 0) (Qe Γ (0, 0) A (Qcv (PicM Ω ad A) A res)) A 6 (PicM Ω ad A σ) 287 [(0, .ref (ad 0 0)), (1, .int v1), (2, .int v2)] []) (σ : St) (v1 : Int32) (v2 : Int32) (v3 : Int32) (h : f_X9_judge_339 k287 σ v1 v2 v3 = some res) : V Γ (0, 0) (Qe Γ (0, 0) A (Qcv (PicM Ω ad A) A res)) A 6 (PicM Ω ad A σ) 339 [(0, .ref (ad 0 0)), (1, .int v1), (2, .int v2), (3, .int v3)] [] := by
  unfold f_X9_judge_339 at h
  refine tv_aload_n X dX9_judge_339 rfl 0 rfl ?_
  refine gM8_13 X (by omega) gw_5_17 dX9_judge_340 ?_
  refine tv_iload_n X dX9_judge_343 rfl 1 rfl ?_
  refine tv_iload_n X dX9_judge_344 rfl 3 rfl ?_
  refine isM (n := 8) X (by omega) rfl dX9_judge_345 h (fun j36 hj36 h => ?_)
  refine tv_ns h (fun s37 h => ?_)
  refine tv_iinc X (v2 + 1) dX9_judge_346 2 rfl rfl (by decide) [(2, .int (v2 + 1)), (0, .ref (ad 0 0)), (1, .int v1), (3, .int v3)] rfl ?_
  refine tv_goto X 287 dX9_judge_349 (by decide) ?_
  refine V.pick [1, 2, 0] rfl ?_
  exact hk287 s37 v1 (v2 + 1) h
set_option maxHeartbeats 4000000 in
set_option maxRecDepth 100000 in
theorem l_X9_judge_287 {Γ : Cx} {Ω : Wd} {ad : Nat → Nat → Nat} {A : Nat → Prop} {res : St × Unit} (X : Fx Γ Ω A cX9_judge 6 "MappingTextsModel" rm_X9_judge none) : ∀ (n : Nat) (σ : St) (v1 : Int32) (v2 : Int32), f_X9_judge_287 n σ v1 v2 = some res → V Γ (0, 0) (Qe Γ (0, 0) A (Qcv (PicM Ω ad A) A res)) A 6 (PicM Ω ad A σ) 287 [(0, .ref (ad 0 0)), (1, .int v1), (2, .int v2)] [] := by
  intro n
  induction n with
  | zero =>
    intro σ v1 v2 h
    cases (show none = some res from h)
  | succ n ih =>
    intro σ v1 v2 h
    rw [f_X9_judge_287] at h
    refine tv_iload_n X dX9_judge_287 rfl 2 rfl ?_
    refine tv_aload_n X dX9_judge_288 rfl 0 rfl ?_
    refine gM8_44 X (by omega) gw_5_48 dX9_judge_289 ?_
    refine tv_icmp_ge X 352 dX9_judge_292 (by decide) h (fun h => ?_) (fun h => ?_)
    · exact tv_vret X dX9_judge_352 h
    · refine tv_aload_n X dX9_judge_295 rfl 0 rfl ?_
      refine tv_aload_n X dX9_judge_296 rfl 0 rfl ?_
      refine gM8_45 X (by omega) gw_5_49 dX9_judge_297 ?_
      refine tv_iload_n X dX9_judge_300 rfl 2 rfl ?_
      refine iaM (n := 700) X (by omega) rfl dX9_judge_301 h (fun j20 hj20 h => ?_)
      obtain ⟨s21, x22, hs21, h⟩ := cl_some h
      refine tv_callVi (st := []) X (c_X9_number Γ.2.1 Ω ad A σ (ga σ 1 22 j20) hs21) ⟨gw_6_29, gw_6_26, gw_1_10, q_X9_number, rfl, rfl, ⟨Nat.le_of_ble_eq_true rfl, Nat.le_of_ble_eq_true rfl⟩⟩ gw_6_28 gw_p_63 (fun H _ hz _ => PP.recv (f := 0) (i := 0) X.2.1 hz.1 (show 0 < 1 by omega) rfl rfl) rfl rfl (Nat.le_of_ble_eq_true rfl) dX9_judge_302 ?_
      refine tv_istore_n X dX9_judge_305 rfl (by decide) [(3, .int x22), (0, .ref (ad 0 0)), (1, .int v1), (2, .int v2)] rfl ?_
      refine tv_iload_n X dX9_judge_306 rfl 0 rfl ?_
      refine tv_bipush X 40 dX9_judge_307 (by decide) ?_
      refine tv_icmp_gt X 322 dX9_judge_309 (by decide) h (fun h => ?_) (fun h => ?_)
      · refine V.pick [1, 2, 3, 0] rfl ?_
        exact l_X9_judge_322 X (l_X9_judge_339 X ih) s21 v1 v2 x22 h
      · refine tv_iload_n X dX9_judge_312 rfl 0 rfl ?_
        refine tv_aload_n X dX9_judge_313 rfl 1 rfl ?_
        refine gM8_11 X (by omega) gw_5_15 dX9_judge_314 ?_
        refine tv_iload_n X dX9_judge_317 rfl 2 rfl ?_
        refine iaM (n := 8) X (by omega) rfl dX9_judge_318 h (fun j23 hj23 h => ?_)
        refine tv_icmp_ge X 339 dX9_judge_319 (by decide) h (fun h => ?_) (fun h => ?_)
        · refine V.pick [1, 2, 3, 0] rfl ?_
          exact l_X9_judge_339 X ih s21 v1 v2 x22 h
        · refine V.pick [1, 2, 3, 0] rfl ?_
          exact l_X9_judge_322 X (l_X9_judge_339 X ih) s21 v1 v2 x22 h
set_option maxHeartbeats 4000000 in
set_option maxRecDepth 100000 in
theorem l_X9_judge_157 {Γ : Cx} {Ω : Wd} {ad : Nat → Nat → Nat} {A : Nat → Prop} {res : St × Unit} (X : Fx Γ Ω A cX9_judge 6 "MappingTextsModel" rm_X9_judge none) : ∀ (n : Nat) (σ : St) (v1 : Int32) (v2 : Int32), f_X9_judge_157 n σ v1 v2 = some res → V Γ (0, 0) (Qe Γ (0, 0) A (Qcv (PicM Ω ad A) A res)) A 6 (PicM Ω ad A σ) 157 [(0, .ref (ad 0 0)), (1, .int v1), (2, .int v2)] [] := by
  intro n
  induction n with
  | zero =>
    intro σ v1 v2 h
    cases (show none = some res from h)
  | succ n ih =>
    intro σ v1 v2 h
    rw [f_X9_judge_157] at h
    refine tv_iload_n X dX9_judge_157 rfl 2 rfl ?_
    refine tv_aload_n X dX9_judge_158 rfl 0 rfl ?_
    refine gM8_38 X (by omega) gw_5_42 dX9_judge_159 ?_
    refine tv_icmp_ge X 277 dX9_judge_162 (by decide) h (fun h => ?_) (fun h => ?_)
    · refine tv_aload_n X dX9_judge_277 rfl 0 rfl ?_
      refine gM8_13 X (by omega) gw_5_17 dX9_judge_278 ?_
      refine tv_iload_n X dX9_judge_281 rfl 1 rfl ?_
      refine tv_bipush X 40 dX9_judge_282 (by decide) ?_
      refine isM (n := 8) X (by omega) rfl dX9_judge_284 h (fun j8 hj8 h => ?_)
      refine tv_ns h (fun s9 h => ?_)
      refine tv_iconst X 0 dX9_judge_285 (by decide) ?_
      refine tv_istore_n X dX9_judge_286 rfl (by decide) [(2, .int 0), (0, .ref (ad 0 0)), (1, .int v1)] rfl ?_
      refine V.pick [1, 2, 0] rfl ?_
      exact l_X9_judge_287 X fl s9 v1 0 h
    · refine tv_aload_n X dX9_judge_165 rfl 0 rfl ?_
      refine gM8_40 X (by omega) gw_5_44 dX9_judge_166 ?_
      refine tv_iload_n X dX9_judge_169 rfl 2 rfl ?_
      refine iaM (n := 700) X (by omega) rfl dX9_judge_170 h (fun j10 hj10 h => ?_)
      refine tv_iconst X 4 dX9_judge_171 (by decide) ?_
      refine tv_icmp_ne X 271 dX9_judge_172 (by decide) h (fun h => ?_) (fun h => ?_)
      · exact l_X9_judge_271 X ih σ v1 v2 h
      · refine tv_aload_n X dX9_judge_175 rfl 0 rfl ?_
        refine tv_iload_n X dX9_judge_176 rfl 2 rfl ?_
        obtain ⟨s11, x12, hs11, h⟩ := cl_some h
        refine tv_callVi (st := []) X (c_X9_isFirst Γ.2.1 Ω ad A σ v2 hs11) ⟨gw_6_49, gw_6_46, gw_1_10, q_X9_isFirst, rfl, rfl, ⟨Nat.le_of_ble_eq_true rfl, Nat.le_of_ble_eq_true rfl⟩⟩ gw_6_48 gw_p_68 (fun H _ hz _ => PP.recv (f := 0) (i := 0) X.2.1 hz.1 (show 0 < 1 by omega) rfl rfl) rfl rfl (Nat.le_of_ble_eq_true rfl) dX9_judge_177 ?_
        refine tv_if_eq X 271 dX9_judge_180 (by decide) h (fun h => ?_) (fun h => ?_)
        · exact l_X9_judge_271 X ih s11 v1 v2 h
        · refine tv_aload_n X dX9_judge_183 rfl 0 rfl ?_
          refine gM8_19 X (by omega) gw_5_23 dX9_judge_184 ?_
          refine tv_bipush X 40 dX9_judge_187 (by decide) ?_
          refine tv_iload_n X dX9_judge_189 rfl 1 rfl ?_
          refine tv_imul X dX9_judge_190 ?_
          refine tv_aload_n X dX9_judge_191 rfl 0 rfl ?_
          refine gM8_39 X (by omega) gw_5_43 dX9_judge_192 ?_
          refine tv_iload_n X dX9_judge_195 rfl 2 rfl ?_
          refine iaM (n := 700) X (by omega) rfl dX9_judge_196 h (fun j13 hj13 h => ?_)
          refine tv_iadd X dX9_judge_197 ?_
          refine iaM (n := 320) X (by omega) rfl dX9_judge_198 h (fun j14 hj14 h => ?_)
          refine tv_istore_n X dX9_judge_199 rfl (by decide) [(3, .int (ga s11 1 7 j14)), (0, .ref (ad 0 0)), (1, .int v1), (2, .int v2)] rfl ?_
          refine tv_iconst X 0 dX9_judge_200 (by decide) ?_
          refine tv_istore X dX9_judge_201 (by decide) [(4, .int 0), (3, .int (ga s11 1 7 j14)), (0, .ref (ad 0 0)), (1, .int v1), (2, .int v2)] rfl ?_
          refine V.pick [2, 3, 4, 1, 0] rfl ?_
          exact l_X9_judge_203 X (l_X9_judge_271 X ih) fl s11 v1 v2 (ga s11 1 7 j14) 0 h
set_option maxHeartbeats 4000000 in
set_option maxRecDepth 100000 in
theorem l_X9_judge_2 {Γ : Cx} {Ω : Wd} {ad : Nat → Nat → Nat} {A : Nat → Prop} {res : St × Unit} (X : Fx Γ Ω A cX9_judge 6 "MappingTextsModel" rm_X9_judge none) : ∀ (n : Nat) (σ : St) (v1 : Int32) (v2 : Int32), f_X9_judge_2 n σ v1 v2 = some res → V Γ (0, 0) (Qe Γ (0, 0) A (Qcv (PicM Ω ad A) A res)) A 6 (PicM Ω ad A σ) 2 [(0, .ref (ad 0 0)), (1, .int v1), (2, .int v2)] [] := by
  intro n
  induction n with
  | zero =>
    intro σ v1 v2 h
    cases (show none = some res from h)
  | succ n ih =>
    intro σ v1 v2 h
    rw [f_X9_judge_2] at h
    refine tv_iload_n X dX9_judge_2 rfl 2 rfl ?_
    refine tv_aload_n X dX9_judge_3 rfl 0 rfl ?_
    refine gM8_38 X (by omega) gw_5_42 dX9_judge_4 ?_
    refine tv_icmp_ge X 155 dX9_judge_7 (by decide) h (fun h => ?_) (fun h => ?_)
    · refine tv_iconst X 0 dX9_judge_155 (by decide) ?_
      refine tv_istore_n X dX9_judge_156 rfl (by decide) [(2, .int 0), (0, .ref (ad 0 0)), (1, .int v1)] rfl ?_
      refine V.pick [1, 2, 0] rfl ?_
      exact l_X9_judge_157 X fl σ v1 0 h
    · refine tv_bipush X 40 dX9_judge_10 (by decide) ?_
      refine tv_iload_n X dX9_judge_12 rfl 1 rfl ?_
      refine tv_imul X dX9_judge_13 ?_
      refine tv_aload_n X dX9_judge_14 rfl 0 rfl ?_
      refine gM8_39 X (by omega) gw_5_43 dX9_judge_15 ?_
      refine tv_iload_n X dX9_judge_18 rfl 2 rfl ?_
      refine iaM (n := 700) X (by omega) rfl dX9_judge_19 h (fun j1 hj1 h => ?_)
      refine tv_iadd X dX9_judge_20 ?_
      refine tv_istore_n X dX9_judge_21 rfl (by decide) [(3, .int ((40 * v1) + (ga σ 1 17 j1))), (0, .ref (ad 0 0)), (1, .int v1), (2, .int v2)] rfl ?_
      refine tv_aload_n X dX9_judge_22 rfl 1 rfl ?_
      refine tv_iload_n X dX9_judge_23 rfl 2 rfl ?_
      refine tv_aload_n X dX9_judge_24 rfl 1 rfl ?_
      refine gM8_41 X (by omega) gw_5_45 dX9_judge_25 ?_
      refine tv_iload_n X dX9_judge_28 rfl 3 rfl ?_
      refine iaM (n := 700) X (by omega) rfl dX9_judge_29 h (fun j2 hj2 h => ?_)
      refine tv_aload_n X dX9_judge_30 rfl 1 rfl ?_
      refine gM8_42 X (by omega) gw_5_46 dX9_judge_31 ?_
      refine tv_iload_n X dX9_judge_34 rfl 3 rfl ?_
      refine iaM (n := 700) X (by omega) rfl dX9_judge_35 h (fun j3 hj3 h => ?_)
      obtain ⟨s4, x5, hs4, h⟩ := cl_some h
      refine tv_callVi (st := []) X (c_X9_fieldOf Γ.2.1 Ω ad A σ v1 (ga σ 1 19 j2) (ga σ 1 20 j3) hs4) ⟨gw_6_41, gw_6_38, gw_1_10, q_X9_fieldOf, rfl, rfl, ⟨Nat.le_of_ble_eq_true rfl, Nat.le_of_ble_eq_true rfl⟩⟩ gw_6_40 gw_p_66 (fun H _ hz _ => PP.recv (f := 0) (i := 0) X.2.1 hz.1 (show 0 < 1 by omega) rfl rfl) rfl rfl (Nat.le_of_ble_eq_true rfl) dX9_judge_36 ?_
      refine tv_istore X dX9_judge_39 (by decide) [(4, .int x5), (3, .int ((40 * v1) + (ga σ 1 17 j1))), (0, .ref (ad 0 0)), (1, .int v1), (2, .int v2)] rfl ?_
      refine tv_iload X dX9_judge_41 0 rfl ?_
      refine tv_bipush X (-2) dX9_judge_43 (by decide) ?_
      refine tv_icmp_ne X 53 dX9_judge_45 (by decide) h (fun h => ?_) (fun h => ?_)
      · refine tv_aload_n X dX9_judge_53 rfl 2 rfl ?_
        refine gM8_16 X (by omega) gw_5_20 dX9_judge_54 ?_
        refine tv_bipush X 40 dX9_judge_57 (by decide) ?_
        refine tv_iload_n X dX9_judge_59 rfl 3 rfl ?_
        refine tv_imul X dX9_judge_60 ?_
        refine tv_iload X dX9_judge_61 0 rfl ?_
        refine tv_iadd X dX9_judge_63 ?_
        refine iaM (n := 320) X (by omega) rfl dX9_judge_64 h (fun j6 hj6 h => ?_)
        refine V.pick [2, 3, 4, 1, 0] rfl ?_
        exact l_X9_judge_65 X ih s4 (ga s4 1 4 j6) v1 v2 ((40 * v1) + (ga σ 1 17 j1)) x5 h
      · refine tv_bipush X 9 dX9_judge_48 (by decide) ?_
        refine tv_goto X 65 dX9_judge_50 (by decide) ?_
        refine V.pick [2, 3, 4, 1, 0] rfl ?_
        exact l_X9_judge_65 X ih s4 9 v1 v2 ((40 * v1) + (ga σ 1 17 j1)) x5 h
set_option maxHeartbeats 4000000 in
set_option maxRecDepth 100000 in
theorem c_X9_judge (l : Launch) (Ω : Wd) (ad : Nat → Nat → Nat) (A : Nat → Prop) (σ : St) (a1 : Int32) {res : St × Unit} (h : f_X9_judge σ a1 = some res) : Met l yX9_judge (wsO yX9_judge cX9_judge 6 none) rm_X9_judge (PcZ Ω A (PicM Ω ad A σ) [.ref (ad 0 0), .int a1]) (Qcv (PicM Ω ad A) A res) 0 0 A := by
  refine Met.ofV (by decide) rfl (fun Γ hΓ X => ?_)
  have X : Fx Γ Ω A cX9_judge 6 "MappingTextsModel" rm_X9_judge none := X
  unfold f_X9_judge at h
  show V Γ (0, 0) _ A 6 _ 0 [(0, .ref (ad 0 0)), (1, .int a1)] []
  refine tv_iconst X 0 dX9_judge_0 (by decide) ?_
  refine tv_istore_n X dX9_judge_1 rfl (by decide) [(2, .int 0), (0, .ref (ad 0 0)), (1, .int a1)] rfl ?_
  refine V.pick [1, 2, 0] rfl ?_
  exact l_X9_judge_2 X fl σ a1 0 h
set_option maxHeartbeats 4000000 in
set_option maxRecDepth 100000 in
theorem l_X9_read_131 {Γ : Cx} {Ω : Wd} {ad : Nat → Nat → Nat} {A : Nat → Prop} {res : St × Int32} (X : Fx Γ Ω A cX9_read 3 "MappingTextsModel" rm_X9_read (some .int)) (σ : St) (v1 : Int32) (h : f_X9_read_131 σ v1 = some res) : V Γ (0, 0) (Qe Γ (0, 0) A (Qci (PicM Ω ad A) A res)) A 3 (PicM Ω ad A σ) 131 [(0, .ref (ad 0 0)), (1, .int v1)] [] := by
  unfold f_X9_read_131 at h
  refine tv_aload_n X dX9_read_131 rfl 0 rfl ?_
  refine gM8_35 X (by omega) gw_5_39 dX9_read_132 ?_
  refine tv_if_eq X 146 dX9_read_135 (by decide) h (fun h => ?_) (fun h => ?_)
  · refine tv_aload_n X dX9_read_146 rfl 0 rfl ?_
    refine tv_dup X dX9_read_147 rfl ?_
    refine gM8_10 X (by omega) gw_5_14 dX9_read_148 ?_
    refine tv_iconst X 1 dX9_read_151 (by decide) ?_
    refine tv_iadd X dX9_read_152 ?_
    refine pM8_10 X (by omega) gw_5_14 dX9_read_153 ?_
    refine tv_ns h (fun s19 h => ?_)
    refine tv_iload_n X dX9_read_156 rfl 1 rfl ?_
    exact tv_iret X dX9_read_157 h
  · refine tv_bipush X (-10) dX9_read_138 (by decide) ?_
    refine tv_aload_n X dX9_read_140 rfl 0 rfl ?_
    refine gM8_35 X (by omega) gw_5_39 dX9_read_141 ?_
    refine tv_isub X dX9_read_144 ?_
    exact tv_iret X dX9_read_145 h
set_option maxHeartbeats 4000000 in
set_option maxRecDepth 100000 in
theorem l_X9_read_100 {Γ : Cx} {Ω : Wd} {ad : Nat → Nat → Nat} {A : Nat → Prop} {res : St × Int32} (X : Fx Γ Ω A cX9_read 3 "MappingTextsModel" rm_X9_read (some .int)) (σ : St) (v1 : Int32) (h : f_X9_read_100 σ v1 = some res) : V Γ (0, 0) (Qe Γ (0, 0) A (Qci (PicM Ω ad A) A res)) A 3 (PicM Ω ad A σ) 100 [(0, .ref (ad 0 0)), (1, .int v1)] [] := by
  unfold f_X9_read_100 at h
  refine tv_aload_n X dX9_read_100 rfl 0 rfl ?_
  refine gM8_35 X (by omega) gw_5_39 dX9_read_101 ?_
  refine tv_if_ne X 131 dX9_read_104 (by decide) h (fun h => ?_) (fun h => ?_)
  · exact l_X9_read_131 X σ v1 h
  · refine tv_aload_n X dX9_read_107 rfl 0 rfl ?_
    refine tv_iload_n X dX9_read_108 rfl 1 rfl ?_
    obtain ⟨s17, _u109, hs17, h⟩ := cl_some h
    refine tv_callVv (st := []) X (c_X9_judge Γ.2.1 Ω ad A σ v1 hs17) ⟨gw_6_37, gw_6_34, gw_1_10, q_X9_judge, rfl, rfl, ⟨Nat.le_of_ble_eq_true rfl, Nat.le_of_ble_eq_true rfl⟩⟩ gw_6_36 gw_p_65 (fun H _ hz _ => PP.recv (f := 0) (i := 0) X.2.1 hz.1 (show 0 < 1 by omega) rfl rfl) rfl rfl (Nat.le_of_ble_eq_true rfl) dX9_read_109 ?_
    refine tv_aload_n X dX9_read_112 rfl 0 rfl ?_
    refine gM8_36 X (by omega) gw_5_40 dX9_read_113 ?_
    refine tv_if_eq X 131 dX9_read_116 (by decide) h (fun h => ?_) (fun h => ?_)
    · exact l_X9_read_131 X s17 v1 h
    · refine tv_aload_n X dX9_read_119 rfl 0 rfl ?_
      refine tv_aload_n X dX9_read_120 rfl 0 rfl ?_
      refine gM8_36 X (by omega) gw_5_40 dX9_read_121 ?_
      refine tv_aload_n X dX9_read_124 rfl 0 rfl ?_
      refine gM8_37 X (by omega) gw_5_41 dX9_read_125 ?_
      obtain ⟨s18, _u128, hs18, h⟩ := cl_some h
      refine tv_callVv (st := []) X (c_X9_fails Γ.2.1 Ω ad A s17 (gi s17 836 0) (gi s17 837 0) hs18) ⟨gw_5_208, gw_5_205, gw_1_10, q_X9_fails, rfl, rfl, ⟨Nat.le_of_ble_eq_true rfl, Nat.le_of_ble_eq_true rfl⟩⟩ gw_5_207 gw_p_49 (fun H _ hz _ => PP.recv (f := 0) (i := 0) X.2.1 hz.1 (show 0 < 1 by omega) rfl rfl) rfl rfl (Nat.le_of_ble_eq_true rfl) dX9_read_128 ?_
      exact l_X9_read_131 X s18 v1 h
set_option maxHeartbeats 4000000 in
set_option maxRecDepth 100000 in
theorem l_X9_read_88 {Γ : Cx} {Ω : Wd} {ad : Nat → Nat → Nat} {A : Nat → Prop} {res : St × Int32} (X : Fx Γ Ω A cX9_read 3 "MappingTextsModel" rm_X9_read (some .int)) (σ : St) (v1 : Int32) (h : f_X9_read_88 σ v1 = some res) : V Γ (0, 0) (Qe Γ (0, 0) A (Qci (PicM Ω ad A) A res)) A 3 (PicM Ω ad A σ) 88 [(0, .ref (ad 0 0)), (1, .int v1)] [] := by
  unfold f_X9_read_88 at h
  refine tv_aload_n X dX9_read_88 rfl 0 rfl ?_
  refine gM8_35 X (by omega) gw_5_39 dX9_read_89 ?_
  refine tv_if_ne X 100 dX9_read_92 (by decide) h (fun h => ?_) (fun h => ?_)
  · exact l_X9_read_100 X σ v1 h
  · refine tv_aload_n X dX9_read_95 rfl 0 rfl ?_
    refine tv_iload_n X dX9_read_96 rfl 1 rfl ?_
    obtain ⟨s16, _u97, hs16, h⟩ := cl_some h
    refine tv_callVv (st := []) X (c_X9_text Γ.2.1 Ω ad A σ v1 hs16) ⟨gw_5_212, gw_5_209, gw_1_10, q_X9_text, rfl, rfl, ⟨Nat.le_of_ble_eq_true rfl, Nat.le_of_ble_eq_true rfl⟩⟩ gw_5_211 gw_p_50 (fun H _ hz _ => PP.recv (f := 0) (i := 0) X.2.1 hz.1 (show 0 < 1 by omega) rfl rfl) rfl rfl (Nat.le_of_ble_eq_true rfl) dX9_read_97 ?_
    exact l_X9_read_100 X s16 v1 h
set_option maxHeartbeats 4000000 in
set_option maxRecDepth 100000 in
theorem c_X9_read (l : Launch) (Ω : Wd) (ad : Nat → Nat → Nat) (A : Nat → Prop) (σ : St) {res : St × Int32} (h : f_X9_read σ = some res) : Met l yX9_read (wsO yX9_read cX9_read 3 (some .int)) rm_X9_read (PcZ Ω A (PicM Ω ad A σ) [.ref (ad 0 0)]) (Qci (PicM Ω ad A) A res) 0 0 A := by
  refine Met.ofV (by decide) rfl (fun Γ hΓ X => ?_)
  have X : Fx Γ Ω A cX9_read 3 "MappingTextsModel" rm_X9_read (some .int) := X
  unfold f_X9_read at h
  show V Γ (0, 0) _ A 3 _ 0 [(0, .ref (ad 0 0))] []
  refine tv_aload_n X dX9_read_0 rfl 0 rfl ?_
  refine gM8_10 X (by omega) gw_5_14 dX9_read_1 ?_
  refine tv_bipush X 8 dX9_read_4 (by decide) ?_
  refine tv_icmp_ne X 23 dX9_read_6 (by decide) h (fun h => ?_) (fun h => ?_)
  · refine tv_aload_n X dX9_read_23 rfl 0 rfl ?_
    refine gM8_10 X (by omega) gw_5_14 dX9_read_24 ?_
    refine tv_istore_n X dX9_read_27 rfl (by decide) [(1, .int (gi σ 810 0)), (0, .ref (ad 0 0))] rfl ?_
    refine tv_aload_n X dX9_read_28 rfl 1 rfl ?_
    refine gM8_11 X (by omega) gw_5_15 dX9_read_29 ?_
    refine tv_iload_n X dX9_read_32 rfl 0 rfl ?_
    refine tv_iconst X 0 dX9_read_33 (by decide) ?_
    refine isM (n := 8) X (by omega) rfl dX9_read_34 h (fun j1 hj1 h => ?_)
    refine tv_ns h (fun s2 h => ?_)
    refine tv_aload_n X dX9_read_35 rfl 1 rfl ?_
    refine gM8_12 X (by omega) gw_5_16 dX9_read_36 ?_
    refine tv_iload_n X dX9_read_39 rfl 0 rfl ?_
    refine tv_iconst X 0 dX9_read_40 (by decide) ?_
    refine isM (n := 8) X (by omega) rfl dX9_read_41 h (fun j3 hj3 h => ?_)
    refine tv_ns h (fun s4 h => ?_)
    refine tv_aload_n X dX9_read_42 rfl 1 rfl ?_
    refine tv_iconst X 0 dX9_read_43 (by decide) ?_
    refine pM8_38 X (by omega) gw_5_42 dX9_read_44 ?_
    refine tv_ns h (fun s5 h => ?_)
    refine tv_aload_n X dX9_read_47 rfl 1 rfl ?_
    refine tv_iconst X 0 dX9_read_48 (by decide) ?_
    refine pM8_44 X (by omega) gw_5_48 dX9_read_49 ?_
    refine tv_ns h (fun s6 h => ?_)
    refine tv_aload_n X dX9_read_52 rfl 1 rfl ?_
    refine tv_iconst X 0 dX9_read_53 (by decide) ?_
    refine pM8_35 X (by omega) gw_5_39 dX9_read_54 ?_
    refine tv_ns h (fun s7 h => ?_)
    refine tv_aload_n X dX9_read_57 rfl 1 rfl ?_
    refine tv_iconst X 0 dX9_read_58 (by decide) ?_
    refine pM8_36 X (by omega) gw_5_40 dX9_read_59 ?_
    refine tv_ns h (fun s8 h => ?_)
    refine tv_aload_n X dX9_read_62 rfl 1 rfl ?_
    refine tv_iconst X 0 dX9_read_63 (by decide) ?_
    refine pM8_37 X (by omega) gw_5_41 dX9_read_64 ?_
    refine tv_ns h (fun s9 h => ?_)
    refine tv_aload_n X dX9_read_67 rfl 1 rfl ?_
    refine tv_bipush X (-2) dX9_read_68 (by decide) ?_
    refine pM8_9 X (by omega) gw_5_13 dX9_read_70 ?_
    refine tv_ns h (fun s10 h => ?_)
    refine tv_aload_n X dX9_read_73 rfl 1 rfl ?_
    obtain ⟨s11, x12, hs11, h⟩ := cl_some h
    refine tv_callVi (st := []) X (c_X9_cut Γ.2.1 Ω ad A s10 hs11) ⟨gw_5_195, gw_5_192, gw_1_10, q_X9_cut, rfl, rfl, ⟨Nat.le_of_ble_eq_true rfl, Nat.le_of_ble_eq_true rfl⟩⟩ gw_5_194 gw_p_48 (fun H _ hz _ => PP.recv (f := 0) (i := 0) X.2.1 hz.1 (show 0 < 1 by omega) rfl rfl) rfl rfl (Nat.le_of_ble_eq_true rfl) dX9_read_74 ?_
    refine tv_istore_n X dX9_read_77 rfl (by decide) [(2, .int x12), (1, .int (gi σ 810 0)), (0, .ref (ad 0 0))] rfl ?_
    refine tv_iload_n X dX9_read_78 rfl 0 rfl ?_
    refine tv_if_lt X 88 dX9_read_79 (by decide) h (fun h => ?_) (fun h => ?_)
    · refine V.pick [2, 1] rfl ?_
      exact l_X9_read_88 X s11 (gi σ 810 0) h
    · refine tv_aload_n X dX9_read_82 rfl 2 rfl ?_
      refine tv_iconst X 1 dX9_read_83 (by decide) ?_
      refine tv_iload_n X dX9_read_84 rfl 0 rfl ?_
      obtain ⟨s13, _u85, hs13, h⟩ := cl_some h
      refine tv_callVv (st := []) X (c_X9_fails Γ.2.1 Ω ad A s11 1 x12 hs13) ⟨gw_5_208, gw_5_205, gw_1_10, q_X9_fails, rfl, rfl, ⟨Nat.le_of_ble_eq_true rfl, Nat.le_of_ble_eq_true rfl⟩⟩ gw_5_207 gw_p_49 (fun H _ hz _ => PP.recv (f := 0) (i := 0) X.2.1 hz.1 (show 0 < 1 by omega) rfl rfl) rfl rfl (Nat.le_of_ble_eq_true rfl) dX9_read_85 ?_
      refine V.pick [2, 1] rfl ?_
      exact l_X9_read_88 X s13 (gi σ 810 0) h
  · refine tv_aload_n X dX9_read_9 rfl 0 rfl ?_
    refine tv_iconst X 0 dX9_read_10 (by decide) ?_
    refine pM8_3 X (by omega) gw_5_7 dX9_read_11 ?_
    refine tv_ns h (fun s14 h => ?_)
    refine tv_aload_n X dX9_read_14 rfl 0 rfl ?_
    refine tv_bipush X (-2) dX9_read_15 (by decide) ?_
    refine pM8_9 X (by omega) gw_5_13 dX9_read_17 ?_
    refine tv_ns h (fun s15 h => ?_)
    refine tv_bipush X (-3) dX9_read_20 (by decide) ?_
    exact tv_iret X dX9_read_22 h
set_option maxHeartbeats 4000000 in
set_option maxRecDepth 100000 in
theorem c_X9_place (l : Launch) (Ω : Wd) (ad : Nat → Nat → Nat) (A : Nat → Prop) (σ : St) {res : St × Int32} (h : f_X9_place σ = some res) : Met l yX9_place (wsO yX9_place cX9_place 1 (some .int)) rm_X9_place (PcZ Ω A (PicM Ω ad A σ) [.ref (ad 0 0)]) (Qci (PicM Ω ad A) A res) 0 0 A := by
  refine Met.ofV (by decide) rfl (fun Γ hΓ X => ?_)
  have X : Fx Γ Ω A cX9_place 1 "MappingTextsModel" rm_X9_place (some .int) := X
  unfold f_X9_place at h
  show V Γ (0, 0) _ A 1 _ 0 [(0, .ref (ad 0 0))] []
  refine tv_aload_n X dX9_place_0 rfl 0 rfl ?_
  refine gM8_9 X (by omega) gw_5_13 dX9_place_1 ?_
  exact tv_iret X dX9_place_4 h
set_option maxHeartbeats 4000000 in
set_option maxRecDepth 100000 in
theorem c_X9_drop (l : Launch) (Ω : Wd) (ad : Nat → Nat → Nat) (A : Nat → Prop) (σ : St) {res : St × Int32} (h : f_X9_drop σ = some res) : Met l yX9_drop (wsO yX9_drop cX9_drop 1 (some .int)) rm_X9_drop (PcZ Ω A (PicM Ω ad A σ) [.ref (ad 0 0)]) (Qci (PicM Ω ad A) A res) 0 0 A := by
  refine Met.ofV (by decide) rfl (fun Γ hΓ X => ?_)
  have X : Fx Γ Ω A cX9_drop 1 "MappingTextsModel" rm_X9_drop (some .int) := X
  unfold f_X9_drop at h
  show V Γ (0, 0) _ A 1 _ 0 [(0, .ref (ad 0 0))] []
  refine tv_aload_n X dX9_drop_0 rfl 0 rfl ?_
  refine gM8_10 X (by omega) gw_5_14 dX9_drop_1 ?_
  refine tv_if_ne X 10 dX9_drop_4 (by decide) h (fun h => ?_) (fun h => ?_)
  · refine tv_aload_n X dX9_drop_10 rfl 0 rfl ?_
    refine tv_dup X dX9_drop_11 rfl ?_
    refine gM8_10 X (by omega) gw_5_14 dX9_drop_12 ?_
    refine tv_iconst X 1 dX9_drop_15 (by decide) ?_
    refine tv_isub X dX9_drop_16 ?_
    refine pM8_10 X (by omega) gw_5_14 dX9_drop_17 ?_
    refine tv_ns h (fun s1 h => ?_)
    refine tv_aload_n X dX9_drop_20 rfl 0 rfl ?_
    refine gM8_10 X (by omega) gw_5_14 dX9_drop_21 ?_
    exact tv_iret X dX9_drop_24 h
  · refine tv_bipush X (-2) dX9_drop_7 (by decide) ?_
    exact tv_iret X dX9_drop_9 h
set_option maxHeartbeats 4000000 in
set_option maxRecDepth 100000 in
theorem l_X9_tapePath_46 {Γ : Cx} {Ω : Wd} {ad : Nat → Nat → Nat} {A : Nat → Prop} {res : St × Int32} (X : Fx Γ Ω A cX9_tapePath 2 "MappingTextsModel" rm_X9_tapePath (some .int)) {k20 : St → Int32 → Option (St × Int32)} (hk20 : ∀ (σ : St) (v1 : Int32), k20 σ v1 = some res → V Γ (0, 0) (Qe Γ (0, 0) A (Qci (PicM Ω ad A) A res)) A 2 (PicM Ω ad A σ) 20 [(0, .ref (ad 0 0)), (1, .int v1)] []) (σ : St) (t0 : Int32) (t1 : Int32) (v1 : Int32) (h : f_X9_tapePath_46 k20 σ t0 t1 v1 = some res) : V Γ (0, 0) (Qe Γ (0, 0) A (Qci (PicM Ω ad A) A res)) A 2 (PicM Ω ad A σ) 46 [(0, .ref (ad 0 0)), (1, .int v1)] [.int t1, .int t0] := by
  unfold f_X9_tapePath_46 at h
  refine tv_icmp_eq X 51 dX9_tapePath_46 (by decide) h (fun h => ?_) (fun h => ?_)
  · refine tv_iinc X (v1 + 1) dX9_tapePath_51 1 rfl rfl (by decide) [(1, .int (v1 + 1)), (0, .ref (ad 0 0))] rfl ?_
    refine tv_goto X 20 dX9_tapePath_54 (by decide) ?_
    refine V.pick [1, 0] rfl ?_
    exact hk20 σ (v1 + 1) h
  · refine tv_iconst X 0 dX9_tapePath_49 (by decide) ?_
    exact tv_iret X dX9_tapePath_50 h
set_option maxHeartbeats 4000000 in
set_option maxRecDepth 100000 in
theorem l_X9_tapePath_20 {Γ : Cx} {Ω : Wd} {ad : Nat → Nat → Nat} {A : Nat → Prop} {res : St × Int32} (X : Fx Γ Ω A cX9_tapePath 2 "MappingTextsModel" rm_X9_tapePath (some .int)) : ∀ (n : Nat) (σ : St) (v1 : Int32), f_X9_tapePath_20 n σ v1 = some res → V Γ (0, 0) (Qe Γ (0, 0) A (Qci (PicM Ω ad A) A res)) A 2 (PicM Ω ad A σ) 20 [(0, .ref (ad 0 0)), (1, .int v1)] [] := by
  intro n
  induction n with
  | zero =>
    intro σ v1 h
    cases (show none = some res from h)
  | succ n ih =>
    intro σ v1 h
    rw [f_X9_tapePath_20] at h
    refine tv_iload_n X dX9_tapePath_20 rfl 1 rfl ?_
    refine tv_aload_n X dX9_tapePath_21 rfl 0 rfl ?_
    refine gM8_30 X (by omega) gw_5_34 dX9_tapePath_22 ?_
    refine tv_icmp_ge X 57 dX9_tapePath_25 (by decide) h (fun h => ?_) (fun h => ?_)
    · refine tv_aload_n X dX9_tapePath_57 rfl 0 rfl ?_
      refine gM8_30 X (by omega) gw_5_34 dX9_tapePath_58 ?_
      refine tv_iconst X 1 dX9_tapePath_61 (by decide) ?_
      refine tv_iadd X dX9_tapePath_62 ?_
      refine tv_iconst X 2 dX9_tapePath_63 (by decide) ?_
      refine tv_idiv X dX9_tapePath_64 (by decide) ?_
      exact tv_iret X dX9_tapePath_65 h
    · refine tv_aload_n X dX9_tapePath_28 rfl 0 rfl ?_
      refine gM8_31 X (by omega) gw_5_35 dX9_tapePath_29 ?_
      refine tv_iload_n X dX9_tapePath_32 rfl 1 rfl ?_
      refine iaM (n := 2001) X (by omega) rfl dX9_tapePath_33 h (fun j3 hj3 h => ?_)
      refine tv_iload_n X dX9_tapePath_34 rfl 1 rfl ?_
      refine tv_iconst X 2 dX9_tapePath_35 (by decide) ?_
      refine tv_irem X dX9_tapePath_36 (by decide) ?_
      refine tv_if_ne X 44 dX9_tapePath_37 (by decide) h (fun h => ?_) (fun h => ?_)
      · refine tv_bipush X 46 dX9_tapePath_44 (by decide) ?_
        exact l_X9_tapePath_46 X ih σ (ga σ 1 14 j3) 46 v1 h
      · refine tv_iconst X 1 dX9_tapePath_40 (by decide) ?_
        refine tv_goto X 46 dX9_tapePath_41 (by decide) ?_
        exact l_X9_tapePath_46 X ih σ (ga σ 1 14 j3) 1 v1 h
set_option maxHeartbeats 4000000 in
set_option maxRecDepth 100000 in
theorem c_X9_tapePath (l : Launch) (Ω : Wd) (ad : Nat → Nat → Nat) (A : Nat → Prop) (σ : St) {res : St × Int32} (h : f_X9_tapePath σ = some res) : Met l yX9_tapePath (wsO yX9_tapePath cX9_tapePath 2 (some .int)) rm_X9_tapePath (PcZ Ω A (PicM Ω ad A σ) [.ref (ad 0 0)]) (Qci (PicM Ω ad A) A res) 0 0 A := by
  refine Met.ofV (by decide) rfl (fun Γ hΓ X => ?_)
  have X : Fx Γ Ω A cX9_tapePath 2 "MappingTextsModel" rm_X9_tapePath (some .int) := X
  unfold f_X9_tapePath at h
  show V Γ (0, 0) _ A 2 _ 0 [(0, .ref (ad 0 0))] []
  refine tv_aload_n X dX9_tapePath_0 rfl 0 rfl ?_
  obtain ⟨s1, x2, hs1, h⟩ := cl_some h
  refine tv_callVi (st := []) X (c_X9_cut Γ.2.1 Ω ad A σ hs1) ⟨gw_5_195, gw_5_192, gw_1_10, q_X9_cut, rfl, rfl, ⟨Nat.le_of_ble_eq_true rfl, Nat.le_of_ble_eq_true rfl⟩⟩ gw_5_194 gw_p_48 (fun H _ hz _ => PP.recv (f := 0) (i := 0) X.2.1 hz.1 (show 0 < 1 by omega) rfl rfl) rfl rfl (Nat.le_of_ble_eq_true rfl) dX9_tapePath_1 ?_
  refine tv_if_ge X 16 dX9_tapePath_4 (by decide) h (fun h => ?_) (fun h => ?_)
  · refine tv_iconst X 0 dX9_tapePath_16 (by decide) ?_
    exact tv_iret X dX9_tapePath_17 h
  · refine tv_aload_n X dX9_tapePath_7 rfl 0 rfl ?_
    refine gM8_30 X (by omega) gw_5_34 dX9_tapePath_8 ?_
    refine tv_iconst X 2 dX9_tapePath_11 (by decide) ?_
    refine tv_irem X dX9_tapePath_12 (by decide) ?_
    refine tv_if_ne X 18 dX9_tapePath_13 (by decide) h (fun h => ?_) (fun h => ?_)
    · refine tv_iconst X 0 dX9_tapePath_18 (by decide) ?_
      refine tv_istore_n X dX9_tapePath_19 rfl (by decide) [(1, .int 0), (0, .ref (ad 0 0))] rfl ?_
      refine V.pick [1, 0] rfl ?_
      exact l_X9_tapePath_20 X fl s1 0 h
    · refine tv_iconst X 0 dX9_tapePath_16 (by decide) ?_
      exact tv_iret X dX9_tapePath_17 h
set_option maxHeartbeats 4000000 in
set_option maxRecDepth 100000 in
theorem c_X9_find (l : Launch) (Ω : Wd) (ad : Nat → Nat → Nat) (A : Nat → Prop) (σ : St) (a1 : Int32) {res : St × Int32} (h : f_X9_find σ a1 = some res) : Met l yX9_find (wsO yX9_find cX9_find 3 (some .int)) rm_X9_find (PcZ Ω A (PicM Ω ad A σ) [.ref (ad 0 0), .int a1]) (Qci (PicM Ω ad A) A res) 0 0 A := by
  refine Met.ofV (by decide) rfl (fun Γ hΓ X => ?_)
  have X : Fx Γ Ω A cX9_find 3 "MappingTextsModel" rm_X9_find (some .int) := X
  unfold f_X9_find at h
  show V Γ (0, 0) _ A 3 _ 0 [(0, .ref (ad 0 0)), (1, .int a1)] []
  refine tv_aload_n X dX9_find_0 rfl 0 rfl ?_
  obtain ⟨s1, x2, hs1, h⟩ := cl_some h
  refine tv_callVi (st := []) X (c_X9_tapePath Γ.2.1 Ω ad A σ hs1) ⟨gw_6_65, gw_6_62, gw_1_10, q_X9_tapePath, rfl, rfl, ⟨Nat.le_of_ble_eq_true rfl, Nat.le_of_ble_eq_true rfl⟩⟩ gw_6_64 gw_p_69 (fun H _ hz _ => PP.recv (f := 0) (i := 0) X.2.1 hz.1 (show 0 < 1 by omega) rfl rfl) rfl rfl (Nat.le_of_ble_eq_true rfl) dX9_find_1 ?_
  refine tv_istore_n X dX9_find_4 rfl (by decide) [(2, .int x2), (0, .ref (ad 0 0)), (1, .int a1)] rfl ?_
  refine tv_aload_n X dX9_find_5 rfl 1 rfl ?_
  refine tv_iload_n X dX9_find_6 rfl 2 rfl ?_
  obtain ⟨s3, x4, hs3, h⟩ := cl_some h
  refine tv_callVi (st := []) X (c_X9_isVersion Γ.2.1 Ω ad A s1 a1 hs3) ⟨gw_6_69, gw_6_66, gw_1_10, q_X9_isVersion, rfl, rfl, ⟨Nat.le_of_ble_eq_true rfl, Nat.le_of_ble_eq_true rfl⟩⟩ gw_6_68 gw_p_70 (fun H _ hz _ => PP.recv (f := 0) (i := 0) X.2.1 hz.1 (show 0 < 1 by omega) rfl rfl) rfl rfl (Nat.le_of_ble_eq_true rfl) dX9_find_7 ?_
  refine tv_if_ne X 17 dX9_find_10 (by decide) h (fun h => ?_) (fun h => ?_)
  · refine tv_iload_n X dX9_find_17 rfl 0 rfl ?_
    refine tv_if_ne X 26 dX9_find_18 (by decide) h (fun h => ?_) (fun h => ?_)
    · refine tv_aload_n X dX9_find_26 rfl 1 rfl ?_
      refine tv_iload_n X dX9_find_27 rfl 2 rfl ?_
      refine tv_iconst X 0 dX9_find_28 (by decide) ?_
      refine tv_iload_n X dX9_find_29 rfl 0 rfl ?_
      obtain ⟨s5, x6, hs5, h⟩ := cl_some h
      refine tv_callVi (st := []) X (c_X9_fieldOf Γ.2.1 Ω ad A s3 a1 0 x2 hs5) ⟨gw_6_41, gw_6_38, gw_1_10, q_X9_fieldOf, rfl, rfl, ⟨Nat.le_of_ble_eq_true rfl, Nat.le_of_ble_eq_true rfl⟩⟩ gw_6_40 gw_p_66 (fun H _ hz _ => PP.recv (f := 0) (i := 0) X.2.1 hz.1 (show 0 < 1 by omega) rfl rfl) rfl rfl (Nat.le_of_ble_eq_true rfl) dX9_find_30 ?_
      exact tv_iret X dX9_find_33 h
    · refine tv_bipush X (-2) dX9_find_21 (by decide) ?_
      refine tv_goto X 33 dX9_find_23 (by decide) ?_
      exact tv_iret X dX9_find_33 h
  · refine tv_iconst X (-1) dX9_find_13 (by decide) ?_
    refine tv_goto X 33 dX9_find_14 (by decide) ?_
    exact tv_iret X dX9_find_33 h
set_option maxHeartbeats 4000000 in
set_option maxRecDepth 100000 in
theorem l_X9_fits_111 {Γ : Cx} {Ω : Wd} {ad : Nat → Nat → Nat} {A : Nat → Prop} {res : St × Int32} (X : Fx Γ Ω A cX9_fits 8 "MappingTextsModel" rm_X9_fits (some .boolean)) {k65 : St → Int32 → Int32 → Int32 → Int32 → Int32 → Int32 → Int32 → Option (St × Int32)} (hk65 : ∀ (σ : St) (v1 : Int32) (v2 : Int32) (v3 : Int32) (v4 : Int32) (v5 : Int32) (v6 : Int32) (v7 : Int32), k65 σ v1 v2 v3 v4 v5 v6 v7 = some res → V Γ (0, 0) (Qe Γ (0, 0) A (Qci (PicM Ω ad A) A res)) A 8 (PicM Ω ad A σ) 65 [(0, .ref (ad 0 0)), (1, .int v1), (2, .int v2), (3, .int v3), (4, .int v4), (5, .int v5), (6, .int v6), (7, .int v7)] []) (σ : St) (t0 : Int32) (v1 : Int32) (v2 : Int32) (v3 : Int32) (v4 : Int32) (v5 : Int32) (v7 : Int32) (h : f_X9_fits_111 k65 σ t0 v1 v2 v3 v4 v5 v7 = some res) : V Γ (0, 0) (Qe Γ (0, 0) A (Qci (PicM Ω ad A) A res)) A 8 (PicM Ω ad A σ) 111 [(0, .ref (ad 0 0)), (1, .int v1), (2, .int v2), (3, .int v3), (4, .int v4), (5, .int v5), (7, .int v7)] [.int t0] := by
  unfold f_X9_fits_111 at h
  refine tv_istore X dX9_fits_111 (by decide) [(6, .int t0), (0, .ref (ad 0 0)), (1, .int v1), (2, .int v2), (3, .int v3), (4, .int v4), (5, .int v5), (7, .int v7)] rfl ?_
  refine tv_iinc X (v7 + 1) dX9_fits_113 7 rfl rfl (by decide) [(7, .int (v7 + 1)), (6, .int t0), (0, .ref (ad 0 0)), (1, .int v1), (2, .int v2), (3, .int v3), (4, .int v4), (5, .int v5)] rfl ?_
  refine tv_goto X 65 dX9_fits_116 (by decide) ?_
  refine V.pick [2, 3, 4, 5, 6, 7, 1, 0] rfl ?_
  exact hk65 σ v1 v2 v3 v4 v5 t0 (v7 + 1) h
set_option maxHeartbeats 4000000 in
set_option maxRecDepth 100000 in
theorem l_X9_fits_173 {Γ : Cx} {Ω : Wd} {ad : Nat → Nat → Nat} {A : Nat → Prop} {res : St × Int32} (X : Fx Γ Ω A cX9_fits 8 "MappingTextsModel" rm_X9_fits (some .boolean)) {k122 : St → Int32 → Int32 → Int32 → Int32 → Int32 → Int32 → Option (St × Int32)} (hk122 : ∀ (σ : St) (v1 : Int32) (v2 : Int32) (v3 : Int32) (v5 : Int32) (v6 : Int32) (v7 : Int32), k122 σ v1 v2 v3 v5 v6 v7 = some res → V Γ (0, 0) (Qe Γ (0, 0) A (Qci (PicM Ω ad A) A res)) A 8 (PicM Ω ad A σ) 122 [(0, .ref (ad 0 0)), (1, .int v1), (2, .int v2), (3, .int v3), (5, .int v5), (6, .int v6), (7, .int v7)] []) (σ : St) (t0 : Int32) (v1 : Int32) (v2 : Int32) (v3 : Int32) (v5 : Int32) (v7 : Int32) (h : f_X9_fits_173 k122 σ t0 v1 v2 v3 v5 v7 = some res) : V Γ (0, 0) (Qe Γ (0, 0) A (Qci (PicM Ω ad A) A res)) A 8 (PicM Ω ad A σ) 173 [(0, .ref (ad 0 0)), (1, .int v1), (2, .int v2), (3, .int v3), (5, .int v5), (7, .int v7)] [.int t0] := by
  unfold f_X9_fits_173 at h
  refine tv_istore X dX9_fits_173 (by decide) [(6, .int t0), (0, .ref (ad 0 0)), (1, .int v1), (2, .int v2), (3, .int v3), (5, .int v5), (7, .int v7)] rfl ?_
  refine tv_iinc X (v7 + 1) dX9_fits_175 6 rfl rfl (by decide) [(7, .int (v7 + 1)), (6, .int t0), (0, .ref (ad 0 0)), (1, .int v1), (2, .int v2), (3, .int v3), (5, .int v5)] rfl ?_
  refine tv_goto X 122 dX9_fits_178 (by decide) ?_
  refine V.pick [2, 3, 4, 5, 6, 1, 0] rfl ?_
  exact hk122 σ v1 v2 v3 v5 t0 (v7 + 1) h
set_option maxHeartbeats 4000000 in
set_option maxRecDepth 100000 in
theorem l_X9_fits_122 {Γ : Cx} {Ω : Wd} {ad : Nat → Nat → Nat} {A : Nat → Prop} {res : St × Int32} (X : Fx Γ Ω A cX9_fits 8 "MappingTextsModel" rm_X9_fits (some .boolean)) : ∀ (n : Nat) (σ : St) (v1 : Int32) (v2 : Int32) (v3 : Int32) (v5 : Int32) (v6 : Int32) (v7 : Int32), f_X9_fits_122 n σ v1 v2 v3 v5 v6 v7 = some res → V Γ (0, 0) (Qe Γ (0, 0) A (Qci (PicM Ω ad A) A res)) A 8 (PicM Ω ad A σ) 122 [(0, .ref (ad 0 0)), (1, .int v1), (2, .int v2), (3, .int v3), (5, .int v5), (6, .int v6), (7, .int v7)] [] := by
  intro n
  induction n with
  | zero =>
    intro σ v1 v2 v3 v5 v6 v7 h
    cases (show none = some res from h)
  | succ n ih =>
    intro σ v1 v2 v3 v5 v6 v7 h
    rw [f_X9_fits_122] at h
    refine tv_iload X dX9_fits_122 6 rfl ?_
    refine tv_iload X dX9_fits_124 4 rfl ?_
    refine tv_icmp_ge X 181 dX9_fits_126 (by decide) h (fun h => ?_) (fun h => ?_)
    · refine tv_iload X dX9_fits_181 5 rfl ?_
      obtain ⟨hq, h⟩ := cq_some h
      exact tv_zret X dX9_fits_183 (of_decide_eq_true hq) h
    · refine tv_iload X dX9_fits_129 5 rfl ?_
      refine tv_if_eq X 181 dX9_fits_131 (by decide) h (fun h => ?_) (fun h => ?_)
      · refine tv_iload X dX9_fits_181 5 rfl ?_
        obtain ⟨hq, h⟩ := cq_some h
        exact tv_zret X dX9_fits_183 (of_decide_eq_true hq) h
      · refine tv_aload_n X dX9_fits_134 rfl 0 rfl ?_
        refine gM8_2 X (by omega) gw_5_6 dX9_fits_135 ?_
        refine tv_aload_n X dX9_fits_138 rfl 0 rfl ?_
        refine gM8_32 X (by omega) gw_5_36 dX9_fits_139 ?_
        refine tv_iload_n X dX9_fits_142 rfl 2 rfl ?_
        refine iaM (n := 2001) X (by omega) rfl dX9_fits_143 h (fun j8 hj8 h => ?_)
        refine tv_iload_n X dX9_fits_144 rfl 3 rfl ?_
        refine tv_iadd X dX9_fits_145 ?_
        refine tv_iload X dX9_fits_146 4 rfl ?_
        refine tv_isub X dX9_fits_148 ?_
        refine tv_iload X dX9_fits_149 6 rfl ?_
        refine tv_iadd X dX9_fits_151 ?_
        refine baM (n := 2000) X (by omega) rfl dX9_fits_152 h (fun j9 hj9 h => ?_)
        refine tv_aload_n X dX9_fits_153 rfl 0 rfl ?_
        refine gM8_28 X (by omega) gw_5_32 dX9_fits_154 ?_
        refine tv_bipush X 12 dX9_fits_157 (by decide) ?_
        refine tv_iload_n X dX9_fits_159 rfl 1 rfl ?_
        refine tv_imul X dX9_fits_160 ?_
        refine tv_iload X dX9_fits_161 6 rfl ?_
        refine tv_iadd X dX9_fits_163 ?_
        refine baM (n := 768) X (by omega) rfl dX9_fits_164 h (fun j10 hj10 h => ?_)
        refine tv_icmp_ne X 172 dX9_fits_165 (by decide) h (fun h => ?_) (fun h => ?_)
        · refine tv_iconst X 0 dX9_fits_172 (by decide) ?_
          refine V.pick [0, 1, 2, 3, 4, 6] rfl ?_
          exact l_X9_fits_173 X ih σ 0 v1 v2 v3 v5 v7 h
        · refine tv_iconst X 1 dX9_fits_168 (by decide) ?_
          refine tv_goto X 173 dX9_fits_169 (by decide) ?_
          refine V.pick [0, 1, 2, 3, 4, 6] rfl ?_
          exact l_X9_fits_173 X ih σ 1 v1 v2 v3 v5 v7 h
set_option maxHeartbeats 4000000 in
set_option maxRecDepth 100000 in
theorem l_X9_fits_119 {Γ : Cx} {Ω : Wd} {ad : Nat → Nat → Nat} {A : Nat → Prop} {res : St × Int32} (X : Fx Γ Ω A cX9_fits 8 "MappingTextsModel" rm_X9_fits (some .boolean)) (σ : St) (v1 : Int32) (v2 : Int32) (v3 : Int32) (v5 : Int32) (v6 : Int32) (h : f_X9_fits_119 σ v1 v2 v3 v5 v6 = some res) : V Γ (0, 0) (Qe Γ (0, 0) A (Qci (PicM Ω ad A) A res)) A 8 (PicM Ω ad A σ) 119 [(0, .ref (ad 0 0)), (1, .int v1), (2, .int v2), (3, .int v3), (5, .int v5), (6, .int v6)] [] := by
  unfold f_X9_fits_119 at h
  refine tv_iconst X 0 dX9_fits_119 (by decide) ?_
  refine tv_istore X dX9_fits_120 (by decide) [(7, .int 0), (0, .ref (ad 0 0)), (1, .int v1), (2, .int v2), (3, .int v3), (5, .int v5), (6, .int v6)] rfl ?_
  refine V.pick [1, 2, 3, 4, 5, 6, 0] rfl ?_
  exact l_X9_fits_122 X fl σ v1 v2 v3 v5 v6 0 h
set_option maxHeartbeats 4000000 in
set_option maxRecDepth 100000 in
theorem l_X9_fits_65 {Γ : Cx} {Ω : Wd} {ad : Nat → Nat → Nat} {A : Nat → Prop} {res : St × Int32} (X : Fx Γ Ω A cX9_fits 8 "MappingTextsModel" rm_X9_fits (some .boolean)) : ∀ (n : Nat) (σ : St) (v1 : Int32) (v2 : Int32) (v3 : Int32) (v4 : Int32) (v5 : Int32) (v6 : Int32) (v7 : Int32), f_X9_fits_65 n σ v1 v2 v3 v4 v5 v6 v7 = some res → V Γ (0, 0) (Qe Γ (0, 0) A (Qci (PicM Ω ad A) A res)) A 8 (PicM Ω ad A σ) 65 [(0, .ref (ad 0 0)), (1, .int v1), (2, .int v2), (3, .int v3), (4, .int v4), (5, .int v5), (6, .int v6), (7, .int v7)] [] := by
  intro n
  induction n with
  | zero =>
    intro σ v1 v2 v3 v4 v5 v6 v7 h
    cases (show none = some res from h)
  | succ n ih =>
    intro σ v1 v2 v3 v4 v5 v6 v7 h
    rw [f_X9_fits_65] at h
    refine tv_iload X dX9_fits_65 7 rfl ?_
    refine tv_iload X dX9_fits_67 4 rfl ?_
    refine tv_icmp_ge X 119 dX9_fits_69 (by decide) h (fun h => ?_) (fun h => ?_)
    · refine V.pick [0, 1, 2, 3, 5, 6] rfl ?_
      exact l_X9_fits_119 X σ v1 v2 v3 v5 v6 h
    · refine tv_iload X dX9_fits_72 6 rfl ?_
      refine tv_if_eq X 119 dX9_fits_74 (by decide) h (fun h => ?_) (fun h => ?_)
      · refine V.pick [0, 1, 2, 3, 5, 6] rfl ?_
        exact l_X9_fits_119 X σ v1 v2 v3 v5 v6 h
      · refine tv_aload_n X dX9_fits_77 rfl 0 rfl ?_
        refine gM8_2 X (by omega) gw_5_6 dX9_fits_78 ?_
        refine tv_aload_n X dX9_fits_81 rfl 0 rfl ?_
        refine gM8_32 X (by omega) gw_5_36 dX9_fits_82 ?_
        refine tv_iload_n X dX9_fits_85 rfl 2 rfl ?_
        refine iaM (n := 2001) X (by omega) rfl dX9_fits_86 h (fun j5 hj5 h => ?_)
        refine tv_iload X dX9_fits_87 7 rfl ?_
        refine tv_iadd X dX9_fits_89 ?_
        refine baM (n := 2000) X (by omega) rfl dX9_fits_90 h (fun j6 hj6 h => ?_)
        refine tv_aload_n X dX9_fits_91 rfl 0 rfl ?_
        refine gM8_25 X (by omega) gw_5_29 dX9_fits_92 ?_
        refine tv_bipush X 12 dX9_fits_95 (by decide) ?_
        refine tv_iload_n X dX9_fits_97 rfl 1 rfl ?_
        refine tv_imul X dX9_fits_98 ?_
        refine tv_iload X dX9_fits_99 7 rfl ?_
        refine tv_iadd X dX9_fits_101 ?_
        refine baM (n := 768) X (by omega) rfl dX9_fits_102 h (fun j7 hj7 h => ?_)
        refine tv_icmp_ne X 110 dX9_fits_103 (by decide) h (fun h => ?_) (fun h => ?_)
        · refine tv_iconst X 0 dX9_fits_110 (by decide) ?_
          refine V.pick [0, 1, 2, 3, 4, 5, 7] rfl ?_
          exact l_X9_fits_111 X ih σ 0 v1 v2 v3 v4 v5 v7 h
        · refine tv_iconst X 1 dX9_fits_106 (by decide) ?_
          refine tv_goto X 111 dX9_fits_107 (by decide) ?_
          refine V.pick [0, 1, 2, 3, 4, 5, 7] rfl ?_
          exact l_X9_fits_111 X ih σ 1 v1 v2 v3 v4 v5 v7 h
set_option maxHeartbeats 4000000 in
set_option maxRecDepth 100000 in
theorem l_X9_fits_60 {Γ : Cx} {Ω : Wd} {ad : Nat → Nat → Nat} {A : Nat → Prop} {res : St × Int32} (X : Fx Γ Ω A cX9_fits 8 "MappingTextsModel" rm_X9_fits (some .boolean)) (σ : St) (t0 : Int32) (v1 : Int32) (v2 : Int32) (v3 : Int32) (v4 : Int32) (v5 : Int32) (h : f_X9_fits_60 σ t0 v1 v2 v3 v4 v5 = some res) : V Γ (0, 0) (Qe Γ (0, 0) A (Qci (PicM Ω ad A) A res)) A 8 (PicM Ω ad A σ) 60 [(0, .ref (ad 0 0)), (1, .int v1), (2, .int v2), (3, .int v3), (4, .int v4), (5, .int v5)] [.int t0] := by
  unfold f_X9_fits_60 at h
  refine tv_istore X dX9_fits_60 (by decide) [(6, .int t0), (0, .ref (ad 0 0)), (1, .int v1), (2, .int v2), (3, .int v3), (4, .int v4), (5, .int v5)] rfl ?_
  refine tv_iconst X 0 dX9_fits_62 (by decide) ?_
  refine tv_istore X dX9_fits_63 (by decide) [(7, .int 0), (6, .int t0), (0, .ref (ad 0 0)), (1, .int v1), (2, .int v2), (3, .int v3), (4, .int v4), (5, .int v5)] rfl ?_
  refine V.pick [2, 3, 4, 5, 6, 7, 1, 0] rfl ?_
  exact l_X9_fits_65 X fl σ v1 v2 v3 v4 v5 t0 0 h
set_option maxHeartbeats 4000000 in
set_option maxRecDepth 100000 in
theorem c_X9_fits (l : Launch) (Ω : Wd) (ad : Nat → Nat → Nat) (A : Nat → Prop) (σ : St) (a1 : Int32) (a2 : Int32) {res : St × Int32} (h : f_X9_fits σ a1 a2 = some res) : Met l yX9_fits (wsO yX9_fits cX9_fits 8 (some .boolean)) rm_X9_fits (PcZ Ω A (PicM Ω ad A σ) [.ref (ad 0 0), .int a1, .int a2]) (Qci (PicM Ω ad A) A res) 0 0 A := by
  refine Met.ofV (by decide) rfl (fun Γ hΓ X => ?_)
  have X : Fx Γ Ω A cX9_fits 8 "MappingTextsModel" rm_X9_fits (some .boolean) := X
  unfold f_X9_fits at h
  show V Γ (0, 0) _ A 8 _ 0 [(0, .ref (ad 0 0)), (1, .int a1), (2, .int a2)] []
  refine tv_aload_n X dX9_fits_0 rfl 0 rfl ?_
  refine gM8_33 X (by omega) gw_5_37 dX9_fits_1 ?_
  refine tv_iload_n X dX9_fits_4 rfl 2 rfl ?_
  refine iaM (n := 2001) X (by omega) rfl dX9_fits_5 h (fun j1 hj1 h => ?_)
  refine tv_istore_n X dX9_fits_6 rfl (by decide) [(3, .int (ga σ 1 16 j1)), (0, .ref (ad 0 0)), (1, .int a1), (2, .int a2)] rfl ?_
  refine tv_aload_n X dX9_fits_7 rfl 1 rfl ?_
  refine gM8_24 X (by omega) gw_5_28 dX9_fits_8 ?_
  refine tv_iload_n X dX9_fits_11 rfl 2 rfl ?_
  refine iaM (n := 64) X (by omega) rfl dX9_fits_12 h (fun j2 hj2 h => ?_)
  refine tv_istore X dX9_fits_13 (by decide) [(4, .int (ga σ 1 11 j2)), (3, .int (ga σ 1 16 j1)), (0, .ref (ad 0 0)), (1, .int a1), (2, .int a2)] rfl ?_
  refine tv_aload_n X dX9_fits_15 rfl 2 rfl ?_
  refine gM8_27 X (by omega) gw_5_31 dX9_fits_16 ?_
  refine tv_iload_n X dX9_fits_19 rfl 3 rfl ?_
  refine iaM (n := 64) X (by omega) rfl dX9_fits_20 h (fun j3 hj3 h => ?_)
  refine tv_istore X dX9_fits_21 (by decide) [(5, .int (ga σ 1 12 j3)), (4, .int (ga σ 1 11 j2)), (3, .int (ga σ 1 16 j1)), (0, .ref (ad 0 0)), (1, .int a1), (2, .int a2)] rfl ?_
  refine tv_aload_n X dX9_fits_23 rfl 3 rfl ?_
  refine gM8_26 X (by omega) gw_5_30 dX9_fits_24 ?_
  refine tv_iload_n X dX9_fits_27 rfl 4 rfl ?_
  refine zaM (n := 64) X (by omega) rfl dX9_fits_28 h (fun j4 hj4 h => ?_)
  refine tv_if_eq X 49 dX9_fits_29 (by decide) h (fun h => ?_) (fun h => ?_)
  · refine tv_iload_n X dX9_fits_49 rfl 2 rfl ?_
    refine tv_iload X dX9_fits_50 1 rfl ?_
    refine tv_icmp_ne X 59 dX9_fits_52 (by decide) h (fun h => ?_) (fun h => ?_)
    · refine tv_iconst X 0 dX9_fits_59 (by decide) ?_
      refine V.pick [3, 4, 5, 2, 1, 0] rfl ?_
      exact l_X9_fits_60 X σ 0 a1 a2 (ga σ 1 16 j1) (ga σ 1 11 j2) (ga σ 1 12 j3) h
    · refine tv_iconst X 1 dX9_fits_55 (by decide) ?_
      refine tv_goto X 60 dX9_fits_56 (by decide) ?_
      refine V.pick [3, 4, 5, 2, 1, 0] rfl ?_
      exact l_X9_fits_60 X σ 1 a1 a2 (ga σ 1 16 j1) (ga σ 1 11 j2) (ga σ 1 12 j3) h
  · refine tv_iload_n X dX9_fits_32 rfl 2 rfl ?_
    refine tv_iload X dX9_fits_33 1 rfl ?_
    refine tv_iload X dX9_fits_35 0 rfl ?_
    refine tv_iadd X dX9_fits_37 ?_
    refine tv_icmp_lt X 45 dX9_fits_38 (by decide) h (fun h => ?_) (fun h => ?_)
    · refine tv_iconst X 0 dX9_fits_45 (by decide) ?_
      refine tv_goto X 60 dX9_fits_46 (by decide) ?_
      refine V.pick [3, 4, 5, 2, 1, 0] rfl ?_
      exact l_X9_fits_60 X σ 0 a1 a2 (ga σ 1 16 j1) (ga σ 1 11 j2) (ga σ 1 12 j3) h
    · refine tv_iconst X 1 dX9_fits_41 (by decide) ?_
      refine tv_goto X 60 dX9_fits_42 (by decide) ?_
      refine V.pick [3, 4, 5, 2, 1, 0] rfl ?_
      exact l_X9_fits_60 X σ 1 a1 a2 (ga σ 1 16 j1) (ga σ 1 11 j2) (ga σ 1 12 j3) h
set_option maxHeartbeats 4000000 in
set_option maxRecDepth 100000 in
theorem l_X9_suits_44 {Γ : Cx} {Ω : Wd} {ad : Nat → Nat → Nat} {A : Nat → Prop} {res : St × Int32} (X : Fx Γ Ω A cX9_suits 2 "MappingTextsModel" rm_X9_suits (some .boolean)) (σ : St) (v1 : Int32) (h : f_X9_suits_44 σ v1 = some res) : V Γ (0, 0) (Qe Γ (0, 0) A (Qci (PicM Ω ad A) A res)) A 2 (PicM Ω ad A σ) 44 [(1, .int v1)] [] := by
  unfold f_X9_suits_44 at h
  refine tv_iload_n X dX9_suits_44 rfl 0 rfl ?_
  refine tv_iconst X 1 dX9_suits_45 (by decide) ?_
  refine tv_icmp_ne X 53 dX9_suits_46 (by decide) h (fun h => ?_) (fun h => ?_)
  · refine tv_iconst X 0 dX9_suits_53 (by decide) ?_
    refine tv_goto X 91 dX9_suits_54 (by decide) ?_
    exact tv_zret X dX9_suits_91 (Or.inl rfl) h
  · refine tv_iconst X 1 dX9_suits_49 (by decide) ?_
    refine tv_goto X 91 dX9_suits_50 (by decide) ?_
    exact tv_zret X dX9_suits_91 (Or.inr rfl) h
set_option maxHeartbeats 4000000 in
set_option maxRecDepth 100000 in
theorem c_X9_suits (l : Launch) (Ω : Wd) (ad : Nat → Nat → Nat) (A : Nat → Prop) (σ : St) (a1 : Int32) (a2 : Int32) {res : St × Int32} (h : f_X9_suits σ a1 a2 = some res) : Met l yX9_suits (wsO yX9_suits cX9_suits 2 (some .boolean)) rm_X9_suits (PcZ Ω A (PicM Ω ad A σ) [.int a1, .int a2]) (Qci (PicM Ω ad A) A res) 0 0 A := by
  refine Met.ofV (by decide) rfl (fun Γ hΓ X => ?_)
  have X : Fx Γ Ω A cX9_suits 2 "MappingTextsModel" rm_X9_suits (some .boolean) := X
  unfold f_X9_suits at h
  show V Γ (0, 0) _ A 2 _ 0 [(0, .int a1), (1, .int a2)] []
  refine tv_iload_n X dX9_suits_0 rfl 0 rfl ?_
  refine tv_if_ne X 17 dX9_suits_1 (by decide) h (fun h => ?_) (fun h => ?_)
  · refine tv_iload_n X dX9_suits_17 rfl 0 rfl ?_
    refine tv_iconst X 1 dX9_suits_18 (by decide) ?_
    refine tv_icmp_ne X 34 dX9_suits_19 (by decide) h (fun h => ?_) (fun h => ?_)
    · refine tv_iload_n X dX9_suits_34 rfl 0 rfl ?_
      refine tv_iconst X 2 dX9_suits_35 (by decide) ?_
      refine tv_icmp_eq X 44 dX9_suits_36 (by decide) h (fun h => ?_) (fun h => ?_)
      · refine V.pick [1] rfl ?_
        exact l_X9_suits_44 X σ a2 h
      · refine tv_iload_n X dX9_suits_39 rfl 0 rfl ?_
        refine tv_iconst X 3 dX9_suits_40 (by decide) ?_
        refine tv_icmp_ne X 57 dX9_suits_41 (by decide) h (fun h => ?_) (fun h => ?_)
        · refine tv_iload_n X dX9_suits_57 rfl 0 rfl ?_
          refine tv_iconst X 4 dX9_suits_58 (by decide) ?_
          refine tv_icmp_ne X 75 dX9_suits_59 (by decide) h (fun h => ?_) (fun h => ?_)
          · refine tv_iload_n X dX9_suits_75 rfl 0 rfl ?_
            refine tv_bipush X 6 dX9_suits_76 (by decide) ?_
            refine tv_icmp_gt X 90 dX9_suits_78 (by decide) h (fun h => ?_) (fun h => ?_)
            · refine tv_iconst X 0 dX9_suits_90 (by decide) ?_
              exact tv_zret X dX9_suits_91 (Or.inl rfl) h
            · refine tv_iload_n X dX9_suits_81 rfl 1 rfl ?_
              refine tv_iconst X 3 dX9_suits_82 (by decide) ?_
              refine tv_icmp_ne X 90 dX9_suits_83 (by decide) h (fun h => ?_) (fun h => ?_)
              · refine tv_iconst X 0 dX9_suits_90 (by decide) ?_
                exact tv_zret X dX9_suits_91 (Or.inl rfl) h
              · refine tv_iconst X 1 dX9_suits_86 (by decide) ?_
                refine tv_goto X 91 dX9_suits_87 (by decide) ?_
                exact tv_zret X dX9_suits_91 (Or.inr rfl) h
          · refine tv_iload_n X dX9_suits_62 rfl 1 rfl ?_
            refine tv_iconst X 2 dX9_suits_63 (by decide) ?_
            refine tv_icmp_ne X 71 dX9_suits_64 (by decide) h (fun h => ?_) (fun h => ?_)
            · refine tv_iconst X 0 dX9_suits_71 (by decide) ?_
              refine tv_goto X 91 dX9_suits_72 (by decide) ?_
              exact tv_zret X dX9_suits_91 (Or.inl rfl) h
            · refine tv_iconst X 1 dX9_suits_67 (by decide) ?_
              refine tv_goto X 91 dX9_suits_68 (by decide) ?_
              exact tv_zret X dX9_suits_91 (Or.inr rfl) h
        · refine V.pick [1] rfl ?_
          exact l_X9_suits_44 X σ a2 h
    · refine tv_iload_n X dX9_suits_22 rfl 1 rfl ?_
      refine tv_if_ne X 30 dX9_suits_23 (by decide) h (fun h => ?_) (fun h => ?_)
      · refine tv_iconst X 0 dX9_suits_30 (by decide) ?_
        refine tv_goto X 91 dX9_suits_31 (by decide) ?_
        exact tv_zret X dX9_suits_91 (Or.inl rfl) h
      · refine tv_iconst X 1 dX9_suits_26 (by decide) ?_
        refine tv_goto X 91 dX9_suits_27 (by decide) ?_
        exact tv_zret X dX9_suits_91 (Or.inr rfl) h
  · refine tv_iload_n X dX9_suits_4 rfl 1 rfl ?_
    refine tv_iconst X 2 dX9_suits_5 (by decide) ?_
    refine tv_icmp_gt X 13 dX9_suits_6 (by decide) h (fun h => ?_) (fun h => ?_)
    · refine tv_iconst X 0 dX9_suits_13 (by decide) ?_
      refine tv_goto X 91 dX9_suits_14 (by decide) ?_
      exact tv_zret X dX9_suits_91 (Or.inl rfl) h
    · refine tv_iconst X 1 dX9_suits_9 (by decide) ?_
      refine tv_goto X 91 dX9_suits_10 (by decide) ?_
      exact tv_zret X dX9_suits_91 (Or.inr rfl) h
