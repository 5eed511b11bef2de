set_option maxHeartbeats 4000000 in
set_option maxRecDepth 100000 in
theorem l_X9_firstRule_51 {Γ : Cx} {Ω : Wd} {ad : Nat → Nat → Nat} {A : Nat → Prop} {res : St × Int32} (X : Fx Γ Ω A cX9_firstRule 5 "MappingTextsModel" rm_X9_firstRule (some .int)) {k3 : St → Int32 → Int32 → Int32 → Int32 → Option (St × Int32)} (hk3 : ∀ (σ : St) (v1 : Int32) (v2 : Int32) (v3 : Int32) (v4 : Int32), k3 σ v1 v2 v3 v4 = some res → V Γ (0, 0) (Qe Γ (0, 0) A (Qci (PicM Ω ad A) A res)) A 5 (PicM Ω ad A σ) 3 [(0, .ref (ad 0 0)), (1, .int v1), (2, .int v2), (3, .int v3), (4, .int v4)] []) (σ : St) (v1 : Int32) (v2 : Int32) (v3 : Int32) (v4 : Int32) (h : f_X9_firstRule_51 k3 σ v1 v2 v3 v4 = some res) : V Γ (0, 0) (Qe Γ (0, 0) A (Qci (PicM Ω ad A) A res)) A 5 (PicM Ω ad A σ) 51 [(0, .ref (ad 0 0)), (1, .int v1), (2, .int v2), (3, .int v3), (4, .int v4)] [] := by
  unfold f_X9_firstRule_51 at h
  refine tv_iinc X (v4 + 1) dX9_firstRule_51 4 rfl rfl (by decide) [(4, .int (v4 + 1)), (0, .ref (ad 0 0)), (1, .int v1), (2, .int v2), (3, .int v3)] rfl ?_
  refine tv_goto X 3 dX9_firstRule_54 (by decide) ?_
  refine V.pick [1, 2, 3, 4, 0] rfl ?_
  exact hk3 σ v1 v2 v3 (v4 + 1) h
set_option maxHeartbeats 4000000 in
set_option maxRecDepth 100000 in
theorem l_X9_firstRule_3 {Γ : Cx} {Ω : Wd} {ad : Nat → Nat → Nat} {A : Nat → Prop} {res : St × Int32} (X : Fx Γ Ω A cX9_firstRule 5 "MappingTextsModel" rm_X9_firstRule (some .int)) : ∀ (n : Nat) (σ : St) (v1 : Int32) (v2 : Int32) (v3 : Int32) (v4 : Int32), f_X9_firstRule_3 n σ v1 v2 v3 v4 = some res → V Γ (0, 0) (Qe Γ (0, 0) A (Qci (PicM Ω ad A) A res)) A 5 (PicM Ω ad A σ) 3 [(0, .ref (ad 0 0)), (1, .int v1), (2, .int v2), (3, .int v3), (4, .int v4)] [] := by
  intro n
  induction n with
  | zero =>
    intro σ v1 v2 v3 v4 h
    cases (show none = some res from h)
  | succ n ih =>
    intro σ v1 v2 v3 v4 h
    rw [f_X9_firstRule_3] at h
    refine tv_iload X dX9_firstRule_3 4 rfl ?_
    refine tv_aload_n X dX9_firstRule_5 rfl 0 rfl ?_
    refine gM8_12 X (by omega) gw_5_16 dX9_firstRule_6 ?_
    refine tv_iload_n X dX9_firstRule_9 rfl 1 rfl ?_
    refine iaM (n := 8) X (by omega) rfl dX9_firstRule_10 h (fun j1 hj1 h => ?_)
    refine tv_icmp_ge X 57 dX9_firstRule_11 (by decide) h (fun h => ?_) (fun h => ?_)
    · refine tv_bipush X (-2) dX9_firstRule_57 (by decide) ?_
      exact tv_iret X dX9_firstRule_59 h
    · refine tv_aload_n X dX9_firstRule_14 rfl 0 rfl ?_
      refine tv_bipush X 8 dX9_firstRule_15 (by decide) ?_
      refine tv_iload_n X dX9_firstRule_17 rfl 1 rfl ?_
      refine tv_imul X dX9_firstRule_18 ?_
      refine tv_iload X dX9_firstRule_19 4 rfl ?_
      refine tv_iadd X dX9_firstRule_21 ?_
      refine tv_iload_n X dX9_firstRule_22 rfl 2 rfl ?_
      obtain ⟨s2, x3, hs2, h⟩ := cl_some h
      refine tv_callVi (st := []) X (c_X9_fits Γ.2.1 Ω ad A σ ((8 * v1) + v4) v2 hs2) ⟨gw_6_81, gw_6_78, gw_1_10, q_X9_fits, rfl, rfl, ⟨Nat.le_of_ble_eq_true rfl, Nat.le_of_ble_eq_true rfl⟩⟩ gw_6_80 gw_p_72 (fun H _ hz _ => PP.recv (f := 0) (i := 0) X.2.1 hz.1 (show 0 < 1 by omega) rfl rfl) rfl rfl (Nat.le_of_ble_eq_true rfl) dX9_firstRule_23 ?_
      refine tv_if_eq X 51 dX9_firstRule_26 (by decide) h (fun h => ?_) (fun h => ?_)
      · exact l_X9_firstRule_51 X ih s2 v1 v2 v3 v4 h
      · refine tv_aload_n X dX9_firstRule_29 rfl 0 rfl ?_
        refine gM8_29 X (by omega) gw_5_33 dX9_firstRule_30 ?_
        refine tv_bipush X 8 dX9_firstRule_33 (by decide) ?_
        refine tv_iload_n X dX9_firstRule_35 rfl 1 rfl ?_
        refine tv_imul X dX9_firstRule_36 ?_
        refine tv_iload X dX9_firstRule_37 4 rfl ?_
        refine tv_iadd X dX9_firstRule_39 ?_
        refine iaM (n := 64) X (by omega) rfl dX9_firstRule_40 h (fun j4 hj4 h => ?_)
        refine tv_iload_n X dX9_firstRule_41 rfl 3 rfl ?_
        obtain ⟨s5, x6, hs5, h⟩ := cl_some h
        refine tv_callSi (st := []) X (c_X9_suits Γ.2.1 Ω ad A s2 (ga s2 1 13 j4) v3 hs5) ⟨gw_6_84, gw_6_82, gw_1_10, q_X9_suits, rfl, rfl, ⟨Nat.le_of_ble_eq_true rfl, Nat.le_of_ble_eq_true rfl⟩⟩ gw_6_83 rfl rfl (Nat.le_of_ble_eq_true rfl) dX9_firstRule_42 ?_
        refine tv_if_eq X 51 dX9_firstRule_45 (by decide) h (fun h => ?_) (fun h => ?_)
        · exact l_X9_firstRule_51 X ih s5 v1 v2 v3 v4 h
        · refine tv_iload X dX9_firstRule_48 4 rfl ?_
          exact tv_iret X dX9_firstRule_50 h
set_option maxHeartbeats 4000000 in
set_option maxRecDepth 100000 in
theorem c_X9_firstRule (l : Launch) (Ω : Wd) (ad : Nat → Nat → Nat) (A : Nat → Prop) (σ : St) (a1 : Int32) (a2 : Int32) (a3 : Int32) {res : St × Int32} (h : f_X9_firstRule σ a1 a2 a3 = some res) : Met l yX9_firstRule (wsO yX9_firstRule cX9_firstRule 5 (some .int)) rm_X9_firstRule (PcZ Ω A (PicM Ω ad A σ) [.ref (ad 0 0), .int a1, .int a2, .int a3]) (Qci (PicM Ω ad A) A res) 0 0 A := by
  refine Met.ofV (by decide) rfl (fun Γ hΓ X => ?_)
  have X : Fx Γ Ω A cX9_firstRule 5 "MappingTextsModel" rm_X9_firstRule (some .int) := X
  unfold f_X9_firstRule at h
  show V Γ (0, 0) _ A 5 _ 0 [(0, .ref (ad 0 0)), (1, .int a1), (2, .int a2), (3, .int a3)] []
  refine tv_iconst X 0 dX9_firstRule_0 (by decide) ?_
  refine tv_istore X dX9_firstRule_1 (by decide) [(4, .int 0), (0, .ref (ad 0 0)), (1, .int a1), (2, .int a2), (3, .int a3)] rfl ?_
  refine V.pick [1, 2, 3, 4, 0] rfl ?_
  exact l_X9_firstRule_3 X fl σ a1 a2 a3 0 h
set_option maxHeartbeats 4000000 in
set_option maxRecDepth 100000 in
theorem c_X9_rule_ (l : Launch) (Ω : Wd) (ad : Nat → Nat → Nat) (A : Nat → Prop) (σ : St) (a1 : Int32) (a2 : Int32) {res : St × Int32} (h : f_X9_rule_ σ a1 a2 = some res) : Met l yX9_rule_ (wsO yX9_rule_ cX9_rule_ 4 (some .int)) rm_X9_rule_ (PcZ Ω A (PicM Ω ad A σ) [.ref (ad 0 0), .int a1, .int a2]) (Qci (PicM Ω ad A) A res) 0 0 A := by
  refine Met.ofV (by decide) rfl (fun Γ hΓ X => ?_)
  have X : Fx Γ Ω A cX9_rule_ 4 "MappingTextsModel" rm_X9_rule_ (some .int) := X
  unfold f_X9_rule_ at h
  show V Γ (0, 0) _ A 4 _ 0 [(0, .ref (ad 0 0)), (1, .int a1), (2, .int a2)] []
  refine tv_aload_n X dX9_rule__0 rfl 0 rfl ?_
  obtain ⟨s1, x2, hs1, h⟩ := cl_some h
  refine tv_callVi (st := []) X (c_X9_tapePath Γ.2.1 Ω ad A σ hs1) ⟨gw_6_65, gw_6_62, gw_1_10, q_X9_tapePath, rfl, rfl, ⟨Nat.le_of_ble_eq_true rfl, Nat.le_of_ble_eq_true rfl⟩⟩ gw_6_64 gw_p_69 (fun H _ hz _ => PP.recv (f := 0) (i := 0) X.2.1 hz.1 (show 0 < 1 by omega) rfl rfl) rfl rfl (Nat.le_of_ble_eq_true rfl) dX9_rule__1 ?_
  refine tv_istore_n X dX9_rule__4 rfl (by decide) [(3, .int x2), (0, .ref (ad 0 0)), (1, .int a1), (2, .int a2)] rfl ?_
  refine tv_aload_n X dX9_rule__5 rfl 1 rfl ?_
  refine tv_iload_n X dX9_rule__6 rfl 2 rfl ?_
  obtain ⟨s3, x4, hs3, h⟩ := cl_some h
  refine tv_callVi (st := []) X (c_X9_isVersion Γ.2.1 Ω ad A s1 a1 hs3) ⟨gw_6_69, gw_6_66, gw_1_10, q_X9_isVersion, rfl, rfl, ⟨Nat.le_of_ble_eq_true rfl, Nat.le_of_ble_eq_true rfl⟩⟩ gw_6_68 gw_p_70 (fun H _ hz _ => PP.recv (f := 0) (i := 0) X.2.1 hz.1 (show 0 < 1 by omega) rfl rfl) rfl rfl (Nat.le_of_ble_eq_true rfl) dX9_rule__7 ?_
  refine tv_if_eq X 22 dX9_rule__10 (by decide) h (fun h => ?_) (fun h => ?_)
  · refine tv_iconst X (-1) dX9_rule__22 (by decide) ?_
    exact tv_iret X dX9_rule__23 h
  · refine tv_iload_n X dX9_rule__13 rfl 3 rfl ?_
    refine tv_iconst X 0 dX9_rule__14 (by decide) ?_
    refine tv_iconst X 3 dX9_rule__15 (by decide) ?_
    obtain ⟨s5, x6, hs5, h⟩ := cl_some h
    refine tv_callSi (st := []) X (c_X9_in Γ.2.1 Ω ad A s3 a2 0 3 hs5) ⟨gw_5_187, gw_5_185, gw_1_10, q_X9_in, rfl, rfl, ⟨Nat.le_of_ble_eq_true rfl, Nat.le_of_ble_eq_true rfl⟩⟩ gw_5_186 rfl rfl (Nat.le_of_ble_eq_true rfl) dX9_rule__16 ?_
    refine tv_if_ne X 24 dX9_rule__19 (by decide) h (fun h => ?_) (fun h => ?_)
    · refine tv_iload_n X dX9_rule__24 rfl 0 rfl ?_
      refine tv_iconst X 1 dX9_rule__25 (by decide) ?_
      refine tv_icmp_ne X 39 dX9_rule__26 (by decide) h (fun h => ?_) (fun h => ?_)
      · refine tv_bipush X (-2) dX9_rule__39 (by decide) ?_
        exact tv_iret X dX9_rule__41 h
      · refine tv_aload_n X dX9_rule__29 rfl 1 rfl ?_
        refine tv_iload_n X dX9_rule__30 rfl 2 rfl ?_
        refine tv_iconst X 0 dX9_rule__31 (by decide) ?_
        refine tv_iload_n X dX9_rule__32 rfl 3 rfl ?_
        obtain ⟨s7, x8, hs7, h⟩ := cl_some h
        refine tv_callVi (st := []) X (c_X9_firstRule Γ.2.1 Ω ad A s5 a1 0 a2 hs7) ⟨gw_6_77, gw_6_74, gw_1_10, q_X9_firstRule, rfl, rfl, ⟨Nat.le_of_ble_eq_true rfl, Nat.le_of_ble_eq_true rfl⟩⟩ gw_6_76 gw_p_71 (fun H _ hz _ => PP.recv (f := 0) (i := 0) X.2.1 hz.1 (show 0 < 1 by omega) rfl rfl) rfl rfl (Nat.le_of_ble_eq_true rfl) dX9_rule__33 ?_
        refine tv_goto X 41 dX9_rule__36 (by decide) ?_
        exact tv_iret X dX9_rule__41 h
    · refine tv_iconst X (-1) dX9_rule__22 (by decide) ?_
      exact tv_iret X dX9_rule__23 h
set_option maxHeartbeats 4000000 in
set_option maxRecDepth 100000 in
theorem l_X9_depthOf_15 {Γ : Cx} {Ω : Wd} {ad : Nat → Nat → Nat} {A : Nat → Prop} {res : St × Int32} (X : Fx Γ Ω A cX9_depthOf 5 "MappingTextsModel" rm_X9_depthOf (some .int)) : ∀ (n : Nat) (σ : St) (v1 : Int32) (v3 : Int32) (v4 : Int32), f_X9_depthOf_15 n σ v1 v3 v4 = some res → V Γ (0, 0) (Qe Γ (0, 0) A (Qci (PicM Ω ad A) A res)) A 5 (PicM Ω ad A σ) 15 [(0, .ref (ad 0 0)), (1, .int v1), (3, .int v3), (4, .int v4)] [] := by
  intro n
  induction n with
  | zero =>
    intro σ v1 v3 v4 h
    cases (show none = some res from h)
  | succ n ih =>
    intro σ v1 v3 v4 h
    rw [f_X9_depthOf_15] at h
    refine tv_iload X dX9_depthOf_15 3 rfl ?_
    refine tv_bipush X (-2) dX9_depthOf_17 (by decide) ?_
    refine tv_icmp_eq X 42 dX9_depthOf_19 (by decide) h (fun h => ?_) (fun h => ?_)
    · refine tv_iload_n X dX9_depthOf_42 rfl 2 rfl ?_
      exact tv_iret X dX9_depthOf_43 h
    · refine tv_iinc X (v3 + 1) dX9_depthOf_22 2 rfl rfl (by decide) [(3, .int (v3 + 1)), (0, .ref (ad 0 0)), (1, .int v1), (4, .int v4)] rfl ?_
      refine tv_aload_n X dX9_depthOf_25 rfl 1 rfl ?_
      refine gM8_23 X (by omega) gw_5_27 dX9_depthOf_26 ?_
      refine tv_bipush X 40 dX9_depthOf_29 (by decide) ?_
      refine tv_iload_n X dX9_depthOf_31 rfl 2 rfl ?_
      refine tv_imul X dX9_depthOf_32 ?_
      refine tv_iload X dX9_depthOf_33 3 rfl ?_
      refine tv_iadd X dX9_depthOf_35 ?_
      refine iaM (n := 320) X (by omega) rfl dX9_depthOf_36 h (fun j2 hj2 h => ?_)
      refine tv_istore X dX9_depthOf_37 (by decide) [(4, .int (ga σ 1 10 j2)), (3, .int (v3 + 1)), (0, .ref (ad 0 0)), (1, .int v1)] rfl ?_
      refine tv_goto X 15 dX9_depthOf_39 (by decide) ?_
      refine V.pick [2, 3, 1, 0] rfl ?_
      exact ih σ v1 (v3 + 1) (ga σ 1 10 j2) h
set_option maxHeartbeats 4000000 in
set_option maxRecDepth 100000 in
theorem c_X9_depthOf (l : Launch) (Ω : Wd) (ad : Nat → Nat → Nat) (A : Nat → Prop) (σ : St) (a1 : Int32) (a2 : Int32) {res : St × Int32} (h : f_X9_depthOf σ a1 a2 = some res) : Met l yX9_depthOf (wsO yX9_depthOf cX9_depthOf 5 (some .int)) rm_X9_depthOf (PcZ Ω A (PicM Ω ad A σ) [.ref (ad 0 0), .int a1, .int a2]) (Qci (PicM Ω ad A) A res) 0 0 A := by
  refine Met.ofV (by decide) rfl (fun Γ hΓ X => ?_)
  have X : Fx Γ Ω A cX9_depthOf 5 "MappingTextsModel" rm_X9_depthOf (some .int) := X
  unfold f_X9_depthOf at h
  show V Γ (0, 0) _ A 5 _ 0 [(0, .ref (ad 0 0)), (1, .int a1), (2, .int a2)] []
  refine tv_iconst X 0 dX9_depthOf_0 (by decide) ?_
  refine tv_istore_n X dX9_depthOf_1 rfl (by decide) [(3, .int 0), (0, .ref (ad 0 0)), (1, .int a1), (2, .int a2)] rfl ?_
  refine tv_aload_n X dX9_depthOf_2 rfl 1 rfl ?_
  refine gM8_23 X (by omega) gw_5_27 dX9_depthOf_3 ?_
  refine tv_bipush X 40 dX9_depthOf_6 (by decide) ?_
  refine tv_iload_n X dX9_depthOf_8 rfl 2 rfl ?_
  refine tv_imul X dX9_depthOf_9 ?_
  refine tv_iload_n X dX9_depthOf_10 rfl 3 rfl ?_
  refine tv_iadd X dX9_depthOf_11 ?_
  refine iaM (n := 320) X (by omega) rfl dX9_depthOf_12 h (fun j1 hj1 h => ?_)
  refine tv_istore X dX9_depthOf_13 (by decide) [(4, .int (ga σ 1 10 j1)), (3, .int 0), (0, .ref (ad 0 0)), (1, .int a1), (2, .int a2)] rfl ?_
  refine V.pick [2, 3, 1, 0] rfl ?_
  exact l_X9_depthOf_15 X fl σ a1 0 (ga σ 1 10 j1) h
set_option maxHeartbeats 4000000 in
set_option maxRecDepth 100000 in
theorem l_X9_copyField_62 {Γ : Cx} {Ω : Wd} {ad : Nat → Nat → Nat} {A : Nat → Prop} {res : St × Unit} (X : Fx Γ Ω A cX9_copyField 4 "MappingTextsModel" rm_X9_copyField none) : ∀ (n : Nat) (σ : St) (v1 : Int32) (v2 : Int32) (v3 : Int32), f_X9_copyField_62 n σ v1 v2 v3 = some res → V Γ (0, 0) (Qe Γ (0, 0) A (Qcv (PicM Ω ad A) A res)) A 4 (PicM Ω ad A σ) 62 [(0, .ref (ad 0 0)), (1, .int v1), (2, .int v2), (3, .int v3)] [] := by
  intro n
  induction n with
  | zero =>
    intro σ v1 v2 v3 h
    cases (show none = some res from h)
  | succ n ih =>
    intro σ v1 v2 v3 h
    rw [f_X9_copyField_62] at h
    refine tv_iload_n X dX9_copyField_62 rfl 3 rfl ?_
    refine tv_bipush X 12 dX9_copyField_63 (by decide) ?_
    refine tv_icmp_ge X 118 dX9_copyField_65 (by decide) h (fun h => ?_) (fun h => ?_)
    · exact tv_vret X dX9_copyField_118 h
    · refine tv_aload_n X dX9_copyField_68 rfl 0 rfl ?_
      refine gM8_15 X (by omega) gw_5_19 dX9_copyField_69 ?_
      refine tv_bipush X 12 dX9_copyField_72 (by decide) ?_
      refine tv_iload_n X dX9_copyField_74 rfl 2 rfl ?_
      refine tv_imul X dX9_copyField_75 ?_
      refine tv_iload_n X dX9_copyField_76 rfl 3 rfl ?_
      refine tv_iadd X dX9_copyField_77 ?_
      refine tv_aload_n X dX9_copyField_78 rfl 0 rfl ?_
      refine gM8_15 X (by omega) gw_5_19 dX9_copyField_79 ?_
      refine tv_bipush X 12 dX9_copyField_82 (by decide) ?_
      refine tv_iload_n X dX9_copyField_84 rfl 1 rfl ?_
      refine tv_imul X dX9_copyField_85 ?_
      refine tv_iload_n X dX9_copyField_86 rfl 3 rfl ?_
      refine tv_iadd X dX9_copyField_87 ?_
      refine baM (n := 3840) X (by omega) rfl dX9_copyField_88 h (fun j16 hj16 h => ?_)
      refine bsM (n := 3840) X (by omega) rfl dX9_copyField_89 h (fun j17 hj17 h => ?_)
      refine tv_ns h (fun s18 h => ?_)
      refine tv_aload_n X dX9_copyField_90 rfl 0 rfl ?_
      refine gM8_22 X (by omega) gw_5_26 dX9_copyField_91 ?_
      refine tv_bipush X 12 dX9_copyField_94 (by decide) ?_
      refine tv_iload_n X dX9_copyField_96 rfl 2 rfl ?_
      refine tv_imul X dX9_copyField_97 ?_
      refine tv_iload_n X dX9_copyField_98 rfl 3 rfl ?_
      refine tv_iadd X dX9_copyField_99 ?_
      refine tv_aload_n X dX9_copyField_100 rfl 0 rfl ?_
      refine gM8_22 X (by omega) gw_5_26 dX9_copyField_101 ?_
      refine tv_bipush X 12 dX9_copyField_104 (by decide) ?_
      refine tv_iload_n X dX9_copyField_106 rfl 1 rfl ?_
      refine tv_imul X dX9_copyField_107 ?_
      refine tv_iload_n X dX9_copyField_108 rfl 3 rfl ?_
      refine tv_iadd X dX9_copyField_109 ?_
      refine baM (n := 3840) X (by omega) rfl dX9_copyField_110 h (fun j19 hj19 h => ?_)
      refine bsM (n := 3840) X (by omega) rfl dX9_copyField_111 h (fun j20 hj20 h => ?_)
      refine tv_ns h (fun s21 h => ?_)
      refine tv_iinc X (v3 + 1) dX9_copyField_112 3 rfl rfl (by decide) [(3, .int (v3 + 1)), (0, .ref (ad 0 0)), (1, .int v1), (2, .int v2)] rfl ?_
      refine tv_goto X 62 dX9_copyField_115 (by decide) ?_
      refine V.pick [1, 2, 3, 0] rfl ?_
      exact ih s21 v1 v2 (v3 + 1) h
set_option maxHeartbeats 4000000 in
set_option maxRecDepth 100000 in
theorem c_X9_copyField (l : Launch) (Ω : Wd) (ad : Nat → Nat → Nat) (A : Nat → Prop) (σ : St) (a1 : Int32) (a2 : Int32) {res : St × Unit} (h : f_X9_copyField σ a1 a2 = some res) : Met l yX9_copyField (wsO yX9_copyField cX9_copyField 4 none) rm_X9_copyField (PcZ Ω A (PicM Ω ad A σ) [.ref (ad 0 0), .int a1, .int a2]) (Qcv (PicM Ω ad A) A res) 0 0 A := by
  refine Met.ofV (by decide) rfl (fun Γ hΓ X => ?_)
  have X : Fx Γ Ω A cX9_copyField 4 "MappingTextsModel" rm_X9_copyField none := X
  unfold f_X9_copyField at h
  show V Γ (0, 0) _ A 4 _ 0 [(0, .ref (ad 0 0)), (1, .int a1), (2, .int a2)] []
  refine tv_aload_n X dX9_copyField_0 rfl 0 rfl ?_
  refine gM8_14 X (by omega) gw_5_18 dX9_copyField_1 ?_
  refine tv_iload_n X dX9_copyField_4 rfl 2 rfl ?_
  refine tv_aload_n X dX9_copyField_5 rfl 0 rfl ?_
  refine gM8_14 X (by omega) gw_5_18 dX9_copyField_6 ?_
  refine tv_iload_n X dX9_copyField_9 rfl 1 rfl ?_
  refine iaM (n := 320) X (by omega) rfl dX9_copyField_10 h (fun j1 hj1 h => ?_)
  refine isM (n := 320) X (by omega) rfl dX9_copyField_11 h (fun j2 hj2 h => ?_)
  refine tv_ns h (fun s3 h => ?_)
  refine tv_aload_n X dX9_copyField_12 rfl 0 rfl ?_
  refine gM8_21 X (by omega) gw_5_25 dX9_copyField_13 ?_
  refine tv_iload_n X dX9_copyField_16 rfl 2 rfl ?_
  refine tv_aload_n X dX9_copyField_17 rfl 0 rfl ?_
  refine gM8_21 X (by omega) gw_5_25 dX9_copyField_18 ?_
  refine tv_iload_n X dX9_copyField_21 rfl 1 rfl ?_
  refine iaM (n := 320) X (by omega) rfl dX9_copyField_22 h (fun j4 hj4 h => ?_)
  refine isM (n := 320) X (by omega) rfl dX9_copyField_23 h (fun j5 hj5 h => ?_)
  refine tv_ns h (fun s6 h => ?_)
  refine tv_aload_n X dX9_copyField_24 rfl 0 rfl ?_
  refine gM8_16 X (by omega) gw_5_20 dX9_copyField_25 ?_
  refine tv_iload_n X dX9_copyField_28 rfl 2 rfl ?_
  refine tv_aload_n X dX9_copyField_29 rfl 0 rfl ?_
  refine gM8_16 X (by omega) gw_5_20 dX9_copyField_30 ?_
  refine tv_iload_n X dX9_copyField_33 rfl 1 rfl ?_
  refine iaM (n := 320) X (by omega) rfl dX9_copyField_34 h (fun j7 hj7 h => ?_)
  refine isM (n := 320) X (by omega) rfl dX9_copyField_35 h (fun j8 hj8 h => ?_)
  refine tv_ns h (fun s9 h => ?_)
  refine tv_aload_n X dX9_copyField_36 rfl 0 rfl ?_
  refine gM8_17 X (by omega) gw_5_21 dX9_copyField_37 ?_
  refine tv_iload_n X dX9_copyField_40 rfl 2 rfl ?_
  refine tv_aload_n X dX9_copyField_41 rfl 0 rfl ?_
  refine gM8_17 X (by omega) gw_5_21 dX9_copyField_42 ?_
  refine tv_iload_n X dX9_copyField_45 rfl 1 rfl ?_
  refine iaM (n := 320) X (by omega) rfl dX9_copyField_46 h (fun j10 hj10 h => ?_)
  refine isM (n := 320) X (by omega) rfl dX9_copyField_47 h (fun j11 hj11 h => ?_)
  refine tv_ns h (fun s12 h => ?_)
  refine tv_aload_n X dX9_copyField_48 rfl 0 rfl ?_
  refine gM8_18 X (by omega) gw_5_22 dX9_copyField_49 ?_
  refine tv_iload_n X dX9_copyField_52 rfl 2 rfl ?_
  refine tv_aload_n X dX9_copyField_53 rfl 0 rfl ?_
  refine gM8_18 X (by omega) gw_5_22 dX9_copyField_54 ?_
  refine tv_iload_n X dX9_copyField_57 rfl 1 rfl ?_
  refine iaM (n := 320) X (by omega) rfl dX9_copyField_58 h (fun j13 hj13 h => ?_)
  refine isM (n := 320) X (by omega) rfl dX9_copyField_59 h (fun j14 hj14 h => ?_)
  refine tv_ns h (fun s15 h => ?_)
  refine tv_iconst X 0 dX9_copyField_60 (by decide) ?_
  refine tv_istore_n X dX9_copyField_61 rfl (by decide) [(3, .int 0), (0, .ref (ad 0 0)), (1, .int a1), (2, .int a2)] rfl ?_
  refine V.pick [1, 2, 3, 0] rfl ?_
  exact l_X9_copyField_62 X fl s15 a1 a2 0 h
set_option maxHeartbeats 4000000 in
set_option maxRecDepth 100000 in
theorem l_X9_copyRule_50 {Γ : Cx} {Ω : Wd} {ad : Nat → Nat → Nat} {A : Nat → Prop} {res : St × Unit} (X : Fx Γ Ω A cX9_copyRule 4 "MappingTextsModel" rm_X9_copyRule none) : ∀ (n : Nat) (σ : St) (v1 : Int32) (v2 : Int32) (v3 : Int32), f_X9_copyRule_50 n σ v1 v2 v3 = some res → V Γ (0, 0) (Qe Γ (0, 0) A (Qcv (PicM Ω ad A) A res)) A 4 (PicM Ω ad A σ) 50 [(0, .ref (ad 0 0)), (1, .int v1), (2, .int v2), (3, .int v3)] [] := by
  intro n
  induction n with
  | zero =>
    intro σ v1 v2 v3 h
    cases (show none = some res from h)
  | succ n ih =>
    intro σ v1 v2 v3 h
    rw [f_X9_copyRule_50] at h
    refine tv_iload_n X dX9_copyRule_50 rfl 3 rfl ?_
    refine tv_bipush X 12 dX9_copyRule_51 (by decide) ?_
    refine tv_icmp_ge X 106 dX9_copyRule_53 (by decide) h (fun h => ?_) (fun h => ?_)
    · exact tv_vret X dX9_copyRule_106 h
    · refine tv_aload_n X dX9_copyRule_56 rfl 0 rfl ?_
      refine gM8_25 X (by omega) gw_5_29 dX9_copyRule_57 ?_
      refine tv_bipush X 12 dX9_copyRule_60 (by decide) ?_
      refine tv_iload_n X dX9_copyRule_62 rfl 2 rfl ?_
      refine tv_imul X dX9_copyRule_63 ?_
      refine tv_iload_n X dX9_copyRule_64 rfl 3 rfl ?_
      refine tv_iadd X dX9_copyRule_65 ?_
      refine tv_aload_n X dX9_copyRule_66 rfl 0 rfl ?_
      refine gM8_25 X (by omega) gw_5_29 dX9_copyRule_67 ?_
      refine tv_bipush X 12 dX9_copyRule_70 (by decide) ?_
      refine tv_iload_n X dX9_copyRule_72 rfl 1 rfl ?_
      refine tv_imul X dX9_copyRule_73 ?_
      refine tv_iload_n X dX9_copyRule_74 rfl 3 rfl ?_
      refine tv_iadd X dX9_copyRule_75 ?_
      refine baM (n := 768) X (by omega) rfl dX9_copyRule_76 h (fun j13 hj13 h => ?_)
      refine bsM (n := 768) X (by omega) rfl dX9_copyRule_77 h (fun j14 hj14 h => ?_)
      refine tv_ns h (fun s15 h => ?_)
      refine tv_aload_n X dX9_copyRule_78 rfl 0 rfl ?_
      refine gM8_28 X (by omega) gw_5_32 dX9_copyRule_79 ?_
      refine tv_bipush X 12 dX9_copyRule_82 (by decide) ?_
      refine tv_iload_n X dX9_copyRule_84 rfl 2 rfl ?_
      refine tv_imul X dX9_copyRule_85 ?_
      refine tv_iload_n X dX9_copyRule_86 rfl 3 rfl ?_
      refine tv_iadd X dX9_copyRule_87 ?_
      refine tv_aload_n X dX9_copyRule_88 rfl 0 rfl ?_
      refine gM8_28 X (by omega) gw_5_32 dX9_copyRule_89 ?_
      refine tv_bipush X 12 dX9_copyRule_92 (by decide) ?_
      refine tv_iload_n X dX9_copyRule_94 rfl 1 rfl ?_
      refine tv_imul X dX9_copyRule_95 ?_
      refine tv_iload_n X dX9_copyRule_96 rfl 3 rfl ?_
      refine tv_iadd X dX9_copyRule_97 ?_
      refine baM (n := 768) X (by omega) rfl dX9_copyRule_98 h (fun j16 hj16 h => ?_)
      refine bsM (n := 768) X (by omega) rfl dX9_copyRule_99 h (fun j17 hj17 h => ?_)
      refine tv_ns h (fun s18 h => ?_)
      refine tv_iinc X (v3 + 1) dX9_copyRule_100 3 rfl rfl (by decide) [(3, .int (v3 + 1)), (0, .ref (ad 0 0)), (1, .int v1), (2, .int v2)] rfl ?_
      refine tv_goto X 50 dX9_copyRule_103 (by decide) ?_
      refine V.pick [1, 2, 3, 0] rfl ?_
      exact ih s18 v1 v2 (v3 + 1) h
set_option maxHeartbeats 4000000 in
set_option maxRecDepth 100000 in
theorem c_X9_copyRule (l : Launch) (Ω : Wd) (ad : Nat → Nat → Nat) (A : Nat → Prop) (σ : St) (a1 : Int32) (a2 : Int32) {res : St × Unit} (h : f_X9_copyRule σ a1 a2 = some res) : Met l yX9_copyRule (wsO yX9_copyRule cX9_copyRule 4 none) rm_X9_copyRule (PcZ Ω A (PicM Ω ad A σ) [.ref (ad 0 0), .int a1, .int a2]) (Qcv (PicM Ω ad A) A res) 0 0 A := by
  refine Met.ofV (by decide) rfl (fun Γ hΓ X => ?_)
  have X : Fx Γ Ω A cX9_copyRule 4 "MappingTextsModel" rm_X9_copyRule none := X
  unfold f_X9_copyRule at h
  show V Γ (0, 0) _ A 4 _ 0 [(0, .ref (ad 0 0)), (1, .int a1), (2, .int a2)] []
  refine tv_aload_n X dX9_copyRule_0 rfl 0 rfl ?_
  refine gM8_24 X (by omega) gw_5_28 dX9_copyRule_1 ?_
  refine tv_iload_n X dX9_copyRule_4 rfl 2 rfl ?_
  refine tv_aload_n X dX9_copyRule_5 rfl 0 rfl ?_
  refine gM8_24 X (by omega) gw_5_28 dX9_copyRule_6 ?_
  refine tv_iload_n X dX9_copyRule_9 rfl 1 rfl ?_
  refine iaM (n := 64) X (by omega) rfl dX9_copyRule_10 h (fun j1 hj1 h => ?_)
  refine isM (n := 64) X (by omega) rfl dX9_copyRule_11 h (fun j2 hj2 h => ?_)
  refine tv_ns h (fun s3 h => ?_)
  refine tv_aload_n X dX9_copyRule_12 rfl 0 rfl ?_
  refine gM8_27 X (by omega) gw_5_31 dX9_copyRule_13 ?_
  refine tv_iload_n X dX9_copyRule_16 rfl 2 rfl ?_
  refine tv_aload_n X dX9_copyRule_17 rfl 0 rfl ?_
  refine gM8_27 X (by omega) gw_5_31 dX9_copyRule_18 ?_
  refine tv_iload_n X dX9_copyRule_21 rfl 1 rfl ?_
  refine iaM (n := 64) X (by omega) rfl dX9_copyRule_22 h (fun j4 hj4 h => ?_)
  refine isM (n := 64) X (by omega) rfl dX9_copyRule_23 h (fun j5 hj5 h => ?_)
  refine tv_ns h (fun s6 h => ?_)
  refine tv_aload_n X dX9_copyRule_24 rfl 0 rfl ?_
  refine gM8_26 X (by omega) gw_5_30 dX9_copyRule_25 ?_
  refine tv_iload_n X dX9_copyRule_28 rfl 2 rfl ?_
  refine tv_aload_n X dX9_copyRule_29 rfl 0 rfl ?_
  refine gM8_26 X (by omega) gw_5_30 dX9_copyRule_30 ?_
  refine tv_iload_n X dX9_copyRule_33 rfl 1 rfl ?_
  refine zaM (n := 64) X (by omega) rfl dX9_copyRule_34 h (fun j7 hj7 h => ?_)
  refine zsM (n := 64) X (by omega) rfl dX9_copyRule_35 h (fun j8 hj8 h => ?_)
  refine tv_ns h (fun s9 h => ?_)
  refine tv_aload_n X dX9_copyRule_36 rfl 0 rfl ?_
  refine gM8_29 X (by omega) gw_5_33 dX9_copyRule_37 ?_
  refine tv_iload_n X dX9_copyRule_40 rfl 2 rfl ?_
  refine tv_aload_n X dX9_copyRule_41 rfl 0 rfl ?_
  refine gM8_29 X (by omega) gw_5_33 dX9_copyRule_42 ?_
  refine tv_iload_n X dX9_copyRule_45 rfl 1 rfl ?_
  refine iaM (n := 64) X (by omega) rfl dX9_copyRule_46 h (fun j10 hj10 h => ?_)
  refine isM (n := 64) X (by omega) rfl dX9_copyRule_47 h (fun j11 hj11 h => ?_)
  refine tv_ns h (fun s12 h => ?_)
  refine tv_iconst X 0 dX9_copyRule_48 (by decide) ?_
  refine tv_istore_n X dX9_copyRule_49 rfl (by decide) [(3, .int 0), (0, .ref (ad 0 0)), (1, .int a1), (2, .int a2)] rfl ?_
  refine V.pick [1, 2, 3, 0] rfl ?_
  exact l_X9_copyRule_50 X fl s12 a1 a2 0 h
set_option maxHeartbeats 4000000 in
set_option maxRecDepth 100000 in
theorem l_X9_isWithin_33 {Γ : Cx} {Ω : Wd} {ad : Nat → Nat → Nat} {A : Nat → Prop} {res : St × Int32} (X : Fx Γ Ω A cX9_isWithin 5 "MappingTextsModel" rm_X9_isWithin (some .boolean)) (σ : St) (v3 : Int32) (v4 : Int32) (h : f_X9_isWithin_33 σ v3 v4 = some res) : V Γ (0, 0) (Qe Γ (0, 0) A (Qci (PicM Ω ad A) A res)) A 5 (PicM Ω ad A σ) 33 [(3, .int v3), (4, .int v4)] [] := by
  unfold f_X9_isWithin_33 at h
  refine tv_iload X dX9_isWithin_33 1 rfl ?_
  refine tv_iload_n X dX9_isWithin_35 rfl 0 rfl ?_
  refine tv_icmp_ne X 43 dX9_isWithin_36 (by decide) h (fun h => ?_) (fun h => ?_)
  · refine tv_iconst X 0 dX9_isWithin_43 (by decide) ?_
    exact tv_zret X dX9_isWithin_44 (Or.inl rfl) h
  · refine tv_iconst X 1 dX9_isWithin_39 (by decide) ?_
    refine tv_goto X 44 dX9_isWithin_40 (by decide) ?_
    exact tv_zret X dX9_isWithin_44 (Or.inr rfl) h
set_option maxHeartbeats 4000000 in
set_option maxRecDepth 100000 in
theorem l_X9_isWithin_3 {Γ : Cx} {Ω : Wd} {ad : Nat → Nat → Nat} {A : Nat → Prop} {res : St × Int32} (X : Fx Γ Ω A cX9_isWithin 5 "MappingTextsModel" rm_X9_isWithin (some .boolean)) : ∀ (n : Nat) (σ : St) (v1 : Int32) (v3 : Int32) (v4 : Int32), f_X9_isWithin_3 n σ v1 v3 v4 = some res → V Γ (0, 0) (Qe Γ (0, 0) A (Qci (PicM Ω ad A) A res)) A 5 (PicM Ω ad A σ) 3 [(0, .ref (ad 0 0)), (1, .int v1), (3, .int v3), (4, .int v4)] [] := by
  intro n
  induction n with
  | zero =>
    intro σ v1 v3 v4 h
    cases (show none = some res from h)
  | succ n ih =>
    intro σ v1 v3 v4 h
    rw [f_X9_isWithin_3] at h
    refine tv_iload X dX9_isWithin_3 3 rfl ?_
    refine tv_bipush X (-2) dX9_isWithin_5 (by decide) ?_
    refine tv_icmp_eq X 33 dX9_isWithin_7 (by decide) h (fun h => ?_) (fun h => ?_)
    · refine V.pick [2, 3] rfl ?_
      exact l_X9_isWithin_33 X σ v3 v4 h
    · refine tv_iload X dX9_isWithin_10 3 rfl ?_
      refine tv_iload_n X dX9_isWithin_12 rfl 2 rfl ?_
      refine tv_icmp_eq X 33 dX9_isWithin_13 (by decide) h (fun h => ?_) (fun h => ?_)
      · refine V.pick [2, 3] rfl ?_
        exact l_X9_isWithin_33 X σ v3 v4 h
      · refine tv_aload_n X dX9_isWithin_16 rfl 0 rfl ?_
        refine gM8_23 X (by omega) gw_5_27 dX9_isWithin_17 ?_
        refine tv_bipush X 40 dX9_isWithin_20 (by decide) ?_
        refine tv_iload_n X dX9_isWithin_22 rfl 1 rfl ?_
        refine tv_imul X dX9_isWithin_23 ?_
        refine tv_iload X dX9_isWithin_24 3 rfl ?_
        refine tv_iadd X dX9_isWithin_26 ?_
        refine iaM (n := 320) X (by omega) rfl dX9_isWithin_27 h (fun j1 hj1 h => ?_)
        refine tv_istore X dX9_isWithin_28 (by decide) [(4, .int (ga σ 1 10 j1)), (0, .ref (ad 0 0)), (1, .int v1), (3, .int v3)] rfl ?_
        refine tv_goto X 3 dX9_isWithin_30 (by decide) ?_
        refine V.pick [1, 2, 3, 0] rfl ?_
        exact ih σ v1 v3 (ga σ 1 10 j1) h
set_option maxHeartbeats 4000000 in
set_option maxRecDepth 100000 in
theorem c_X9_isWithin (l : Launch) (Ω : Wd) (ad : Nat → Nat → Nat) (A : Nat → Prop) (σ : St) (a1 : Int32) (a2 : Int32) (a3 : Int32) {res : St × Int32} (h : f_X9_isWithin σ a1 a2 a3 = some res) : Met l yX9_isWithin (wsO yX9_isWithin cX9_isWithin 5 (some .boolean)) rm_X9_isWithin (PcZ Ω A (PicM Ω ad A σ) [.ref (ad 0 0), .int a1, .int a2, .int a3]) (Qci (PicM Ω ad A) A res) 0 0 A := by
  refine Met.ofV (by decide) rfl (fun Γ hΓ X => ?_)
  have X : Fx Γ Ω A cX9_isWithin 5 "MappingTextsModel" rm_X9_isWithin (some .boolean) := X
  unfold f_X9_isWithin at h
  show V Γ (0, 0) _ A 5 _ 0 [(0, .ref (ad 0 0)), (1, .int a1), (2, .int a2), (3, .int a3)] []
  refine tv_iload_n X dX9_isWithin_0 rfl 2 rfl ?_
  refine tv_istore X dX9_isWithin_1 (by decide) [(4, .int a2), (0, .ref (ad 0 0)), (1, .int a1), (2, .int a2), (3, .int a3)] rfl ?_
  refine V.pick [1, 2, 4, 0] rfl ?_
  exact l_X9_isWithin_3 X fl σ a1 a3 a2 h
set_option maxHeartbeats 4000000 in
set_option maxRecDepth 100000 in
theorem c_X9_moved (l : Launch) (Ω : Wd) (ad : Nat → Nat → Nat) (A : Nat → Prop) (σ : St) (a1 : Int32) (a2 : Int32) {res : St × Int32} (h : f_X9_moved σ a1 a2 = some res) : Met l yX9_moved (wsO yX9_moved cX9_moved 2 (some .int)) rm_X9_moved (PcZ Ω A (PicM Ω ad A σ) [.int a1, .int a2]) (Qci (PicM Ω ad A) A res) 0 0 A := by
  refine Met.ofV (by decide) rfl (fun Γ hΓ X => ?_)
  have X : Fx Γ Ω A cX9_moved 2 "MappingTextsModel" rm_X9_moved (some .int) := X
  unfold f_X9_moved at h
  show V Γ (0, 0) _ A 2 _ 0 [(0, .int a1), (1, .int a2)] []
  refine tv_iload_n X dX9_moved_0 rfl 0 rfl ?_
  refine tv_bipush X (-2) dX9_moved_1 (by decide) ?_
  refine tv_icmp_eq X 17 dX9_moved_3 (by decide) h (fun h => ?_) (fun h => ?_)
  · refine tv_iload_n X dX9_moved_17 rfl 0 rfl ?_
    exact tv_iret X dX9_moved_18 h
  · refine tv_iload_n X dX9_moved_6 rfl 0 rfl ?_
    refine tv_iload_n X dX9_moved_7 rfl 1 rfl ?_
    refine tv_icmp_lt X 17 dX9_moved_8 (by decide) h (fun h => ?_) (fun h => ?_)
    · refine tv_iload_n X dX9_moved_17 rfl 0 rfl ?_
      exact tv_iret X dX9_moved_18 h
    · refine tv_iload_n X dX9_moved_11 rfl 0 rfl ?_
      refine tv_iconst X 1 dX9_moved_12 (by decide) ?_
      refine tv_iadd X dX9_moved_13 ?_
      refine tv_goto X 18 dX9_moved_14 (by decide) ?_
      exact tv_iret X dX9_moved_18 h
set_option maxHeartbeats 4000000 in
set_option maxRecDepth 100000 in
theorem l_X9_grown_25 {Γ : Cx} {Ω : Wd} {ad : Nat → Nat → Nat} {A : Nat → Prop} {res : St × Unit} (X : Fx Γ Ω A cX9_grown 10 "MappingTextsModel" rm_X9_grown none) {k53 : St → Int32 → Int32 → Int32 → Int32 → Int32 → Int32 → Option (St × Unit)} (hk53 : ∀ (σ : St) (v1 : Int32) (v2 : Int32) (v3 : Int32) (v4 : Int32) (v5 : Int32) (v6 : Int32), k53 σ v1 v2 v3 v4 v5 v6 = some res → V Γ (0, 0) (Qe Γ (0, 0) A (Qcv (PicM Ω ad A) A res)) A 10 (PicM Ω ad A σ) 53 [(0, .ref (ad 0 0)), (1, .int v1), (2, .int v2), (3, .int v3), (4, .int v4), (5, .int v5), (6, .int v6)] []) : ∀ (n : Nat) (σ : St) (v1 : Int32) (v2 : Int32) (v3 : Int32) (v4 : Int32) (v5 : Int32) (v6 : Int32), f_X9_grown_25 k53 n σ v1 v2 v3 v4 v5 v6 = some res → V Γ (0, 0) (Qe Γ (0, 0) A (Qcv (PicM Ω ad A) A res)) A 10 (PicM Ω ad A σ) 25 [(0, .ref (ad 0 0)), (1, .int v1), (2, .int v2), (3, .int v3), (4, .int v4), (5, .int v5), (6, .int v6)] [] := by
  intro n
  induction n with
  | zero =>
    intro σ v1 v2 v3 v4 v5 v6 h
    cases (show none = some res from h)
  | succ n ih =>
    intro σ v1 v2 v3 v4 v5 v6 h
    rw [f_X9_grown_25] at h
    refine tv_iload X dX9_grown_25 6 rfl ?_
    refine tv_aload_n X dX9_grown_27 rfl 0 rfl ?_
    refine gM8_11 X (by omega) gw_5_15 dX9_grown_28 ?_
    refine tv_iload_n X dX9_grown_31 rfl 1 rfl ?_
    refine iaM (n := 8) X (by omega) rfl dX9_grown_32 h (fun j2 hj2 h => ?_)
    refine tv_icmp_ge X 53 dX9_grown_33 (by decide) h (fun h => ?_) (fun h => ?_)
    · exact hk53 σ v1 v2 v3 v4 v5 v6 h
    · refine tv_aload_n X dX9_grown_36 rfl 0 rfl ?_
      refine tv_iload_n X dX9_grown_37 rfl 1 rfl ?_
      refine tv_iload X dX9_grown_38 6 rfl ?_
      refine tv_iload_n X dX9_grown_40 rfl 2 rfl ?_
      obtain ⟨s3, x4, hs3, h⟩ := cl_some h
      refine tv_callVi (st := []) X (c_X9_isWithin Γ.2.1 Ω ad A σ v1 v6 v2 hs3) ⟨gw_6_100, gw_6_97, gw_1_10, q_X9_isWithin, rfl, rfl, ⟨Nat.le_of_ble_eq_true rfl, Nat.le_of_ble_eq_true rfl⟩⟩ gw_6_99 gw_p_75 (fun H _ hz _ => PP.recv (f := 0) (i := 0) X.2.1 hz.1 (show 0 < 1 by omega) rfl rfl) rfl rfl (Nat.le_of_ble_eq_true rfl) dX9_grown_41 ?_
      refine tv_if_eq X 53 dX9_grown_44 (by decide) h (fun h => ?_) (fun h => ?_)
      · exact hk53 s3 v1 v2 v3 v4 v5 v6 h
      · refine tv_iinc X (v6 + 1) dX9_grown_47 6 rfl rfl (by decide) [(6, .int (v6 + 1)), (0, .ref (ad 0 0)), (1, .int v1), (2, .int v2), (3, .int v3), (4, .int v4), (5, .int v5)] rfl ?_
        refine tv_goto X 25 dX9_grown_50 (by decide) ?_
        refine V.pick [1, 2, 3, 4, 5, 6, 0] rfl ?_
        exact ih s3 v1 v2 v3 v4 v5 (v6 + 1) h
set_option maxHeartbeats 4000000 in
set_option maxRecDepth 100000 in
theorem l_X9_grown_266 {Γ : Cx} {Ω : Wd} {ad : Nat → Nat → Nat} {A : Nat → Prop} {res : St × Unit} (X : Fx Γ Ω A cX9_grown 10 "MappingTextsModel" rm_X9_grown none) : ∀ (n : Nat) (σ : St) (v1 : Int32) (v5 : Int32) (v8 : Int32), f_X9_grown_266 n σ v1 v5 v8 = some res → V Γ (0, 0) (Qe Γ (0, 0) A (Qcv (PicM Ω ad A) A res)) A 10 (PicM Ω ad A σ) 266 [(0, .ref (ad 0 0)), (1, .int v1), (5, .int v5), (8, .int v8)] [] := by
  intro n
  induction n with
  | zero =>
    intro σ v1 v5 v8 h
    cases (show none = some res from h)
  | succ n ih =>
    intro σ v1 v5 v8 h
    rw [f_X9_grown_266] at h
    refine tv_iload X dX9_grown_266 3 rfl ?_
    refine tv_aload_n X dX9_grown_268 rfl 0 rfl ?_
    refine gM8_12 X (by omega) gw_5_16 dX9_grown_269 ?_
    refine tv_iload X dX9_grown_272 2 rfl ?_
    refine iaM (n := 8) X (by omega) rfl dX9_grown_274 h (fun j42 hj42 h => ?_)
    refine tv_icmp_ge X 303 dX9_grown_275 (by decide) h (fun h => ?_) (fun h => ?_)
    · exact tv_vret X dX9_grown_303 h
    · refine tv_aload_n X dX9_grown_278 rfl 0 rfl ?_
      refine tv_bipush X 8 dX9_grown_279 (by decide) ?_
      refine tv_iload_n X dX9_grown_281 rfl 1 rfl ?_
      refine tv_imul X dX9_grown_282 ?_
      refine tv_iload X dX9_grown_283 3 rfl ?_
      refine tv_iadd X dX9_grown_285 ?_
      refine tv_bipush X 8 dX9_grown_286 (by decide) ?_
      refine tv_iload X dX9_grown_288 2 rfl ?_
      refine tv_imul X dX9_grown_290 ?_
      refine tv_iload X dX9_grown_291 3 rfl ?_
      refine tv_iadd X dX9_grown_293 ?_
      obtain ⟨s43, _u294, hs43, h⟩ := cl_some h
      refine tv_callVv (st := []) X (c_X9_copyRule Γ.2.1 Ω ad A σ ((8 * v1) + v8) ((8 * v5) + v8) hs43) ⟨gw_6_111, gw_6_108, gw_1_10, q_X9_copyRule, rfl, rfl, ⟨Nat.le_of_ble_eq_true rfl, Nat.le_of_ble_eq_true rfl⟩⟩ gw_6_110 gw_p_77 (fun H _ hz _ => PP.recv (f := 0) (i := 0) X.2.1 hz.1 (show 0 < 1 by omega) rfl rfl) rfl rfl (Nat.le_of_ble_eq_true rfl) dX9_grown_294 ?_
      refine tv_iinc X (v8 + 1) dX9_grown_297 3 rfl rfl (by decide) [(8, .int (v8 + 1)), (0, .ref (ad 0 0)), (1, .int v1), (5, .int v5)] rfl ?_
      refine tv_goto X 266 dX9_grown_300 (by decide) ?_
      refine V.pick [1, 2, 3, 0] rfl ?_
      exact ih s43 v1 v5 (v8 + 1) h
set_option maxHeartbeats 4000000 in
set_option maxRecDepth 100000 in
theorem l_X9_grown_97 {Γ : Cx} {Ω : Wd} {ad : Nat → Nat → Nat} {A : Nat → Prop} {res : St × Unit} (X : Fx Γ Ω A cX9_grown 10 "MappingTextsModel" rm_X9_grown none) : ∀ (n : Nat) (σ : St) (v1 : Int32) (v2 : Int32) (v3 : Int32) (v4 : Int32) (v5 : Int32) (v6 : Int32) (v7 : Int32), f_X9_grown_97 n σ v1 v2 v3 v4 v5 v6 v7 = some res → V Γ (0, 0) (Qe Γ (0, 0) A (Qcv (PicM Ω ad A) A res)) A 10 (PicM Ω ad A σ) 97 [(0, .ref (ad 0 0)), (1, .int v1), (2, .int v2), (3, .int v3), (4, .int v4), (5, .int v5), (6, .int v6), (7, .int v7)] [] := by
  intro n
  induction n with
  | zero =>
    intro σ v1 v2 v3 v4 v5 v6 v7 h
    cases (show none = some res from h)
  | succ n ih =>
    intro σ v1 v2 v3 v4 v5 v6 v7 h
    rw [f_X9_grown_97] at h
    refine tv_iload X dX9_grown_97 7 rfl ?_
    refine tv_aload_n X dX9_grown_99 rfl 0 rfl ?_
    refine gM8_11 X (by omega) gw_5_15 dX9_grown_100 ?_
    refine tv_iload_n X dX9_grown_103 rfl 1 rfl ?_
    refine iaM (n := 8) X (by omega) rfl dX9_grown_104 h (fun j14 hj14 h => ?_)
    refine tv_icmp_ge X 203 dX9_grown_105 (by decide) h (fun h => ?_) (fun h => ?_)
    · refine tv_bipush X 40 dX9_grown_203 (by decide) ?_
      refine tv_iload X dX9_grown_205 5 rfl ?_
      refine tv_imul X dX9_grown_207 ?_
      refine tv_iload X dX9_grown_208 6 rfl ?_
      refine tv_iadd X dX9_grown_210 ?_
      refine tv_istore X dX9_grown_211 (by decide) [(7, .int ((40 * v5) + v6)), (0, .ref (ad 0 0)), (1, .int v1), (2, .int v2), (3, .int v3), (4, .int v4), (5, .int v5), (6, .int v6)] rfl ?_
      refine tv_aload_n X dX9_grown_213 rfl 1 rfl ?_
      refine tv_iload X dX9_grown_214 0 rfl ?_
      obtain ⟨s15, _u216, hs15, h⟩ := cl_some h
      refine tv_callVv (st := []) X (c_X9_begin Γ.2.1 Ω ad A σ ((40 * v5) + v6) hs15) ⟨gw_6_13, gw_6_10, gw_1_10, q_X9_begin, rfl, rfl, ⟨Nat.le_of_ble_eq_true rfl, Nat.le_of_ble_eq_true rfl⟩⟩ gw_6_12 gw_p_59 (fun H _ hz _ => PP.recv (f := 0) (i := 0) X.2.1 hz.1 (show 0 < 1 by omega) rfl rfl) rfl rfl (Nat.le_of_ble_eq_true rfl) dX9_grown_216 ?_
      refine tv_aload_n X dX9_grown_219 rfl 1 rfl ?_
      refine gM8_14 X (by omega) gw_5_18 dX9_grown_220 ?_
      refine tv_iload X dX9_grown_223 0 rfl ?_
      refine tv_aload_n X dX9_grown_225 rfl 1 rfl ?_
      refine gM8_33 X (by omega) gw_5_37 dX9_grown_226 ?_
      refine tv_iload_n X dX9_grown_229 rfl 4 rfl ?_
      refine iaM (n := 2001) X (by omega) rfl dX9_grown_230 h (fun j16 hj16 h => ?_)
      refine isM (n := 320) X (by omega) rfl dX9_grown_231 h (fun j17 hj17 h => ?_)
      refine tv_ns h (fun s18 h => ?_)
      refine tv_aload_n X dX9_grown_232 rfl 1 rfl ?_
      refine tv_iload_n X dX9_grown_233 rfl 4 rfl ?_
      refine tv_aload_n X dX9_grown_234 rfl 1 rfl ?_
      refine gM8_15 X (by omega) gw_5_19 dX9_grown_235 ?_
      refine tv_bipush X 12 dX9_grown_238 (by decide) ?_
      refine tv_iload X dX9_grown_240 0 rfl ?_
      refine tv_imul X dX9_grown_242 ?_
      obtain ⟨s19, _u243, hs19, h⟩ := cl_some h
      refine tv_callVv (st := []) X (c_X9_copyName Γ.2.1 Ω ad A s18 v3 3 (12 * ((40 * v5) + v6)) (by omega) hs19) ⟨gw_5_230, gw_5_227, gw_1_10, q_X9_copyName, rfl, rfl, ⟨Nat.le_of_ble_eq_true rfl, Nat.le_of_ble_eq_true rfl⟩⟩ gw_5_229 gw_p_54 (fun H _ hz _ => PP.recv (f := 0) (i := 0) X.2.1 hz.1 (show 0 < 1 by omega) rfl rfl) rfl rfl (Nat.le_of_ble_eq_true rfl) dX9_grown_243 ?_
      refine tv_aload_n X dX9_grown_246 rfl 1 rfl ?_
      refine gM8_16 X (by omega) gw_5_20 dX9_grown_247 ?_
      refine tv_iload X dX9_grown_250 0 rfl ?_
      refine tv_iload X dX9_grown_252 5 rfl ?_
      refine isM (n := 320) X (by omega) rfl dX9_grown_254 h (fun j20 hj20 h => ?_)
      refine tv_ns h (fun s21 h => ?_)
      refine tv_aload_n X dX9_grown_255 rfl 1 rfl ?_
      refine gM8_23 X (by omega) gw_5_27 dX9_grown_256 ?_
      refine tv_iload X dX9_grown_259 0 rfl ?_
      refine tv_iload_n X dX9_grown_261 rfl 3 rfl ?_
      refine isM (n := 320) X (by omega) rfl dX9_grown_262 h (fun j22 hj22 h => ?_)
      refine tv_ns h (fun s23 h => ?_)
      refine tv_iconst X 0 dX9_grown_263 (by decide) ?_
      refine tv_istore X dX9_grown_264 (by decide) [(8, .int 0), (7, .int ((40 * v5) + v6)), (0, .ref (ad 0 0)), (1, .int v1), (2, .int v2), (3, .int v3), (4, .int v4), (5, .int v5), (6, .int v6)] rfl ?_
      refine V.pick [2, 3, 7, 0] rfl ?_
      exact l_X9_grown_266 X fl s23 v1 v5 0 h
    · refine tv_bipush X 40 dX9_grown_108 (by decide) ?_
      refine tv_iload_n X dX9_grown_110 rfl 1 rfl ?_
      refine tv_imul X dX9_grown_111 ?_
      refine tv_iload X dX9_grown_112 7 rfl ?_
      refine tv_iadd X dX9_grown_114 ?_
      refine tv_istore X dX9_grown_115 (by decide) [(8, .int ((40 * v1) + v7)), (0, .ref (ad 0 0)), (1, .int v1), (2, .int v2), (3, .int v3), (4, .int v4), (5, .int v5), (6, .int v6), (7, .int v7)] rfl ?_
      refine tv_bipush X 40 dX9_grown_117 (by decide) ?_
      refine tv_iload X dX9_grown_119 6 rfl ?_
      refine tv_imul X dX9_grown_121 ?_
      refine tv_iload X dX9_grown_122 8 rfl ?_
      refine tv_iload X dX9_grown_124 7 rfl ?_
      obtain ⟨s24, x25, hs24, h⟩ := cl_some h
      refine tv_callSi (st := [.int (40 * v5)]) X (c_X9_moved Γ.2.1 Ω ad A σ v7 v6 hs24) ⟨gw_6_103, gw_6_101, gw_1_10, q_X9_moved, rfl, rfl, ⟨Nat.le_of_ble_eq_true rfl, Nat.le_of_ble_eq_true rfl⟩⟩ gw_6_102 rfl rfl (Nat.le_of_ble_eq_true rfl) dX9_grown_126 ?_
      refine tv_iadd X dX9_grown_129 ?_
      refine tv_istore X dX9_grown_130 (by decide) [(9, .int ((40 * v5) + x25)), (8, .int ((40 * v1) + v7)), (0, .ref (ad 0 0)), (1, .int v1), (2, .int v2), (3, .int v3), (4, .int v4), (5, .int v5), (6, .int v6), (7, .int v7)] rfl ?_
      refine tv_aload_n X dX9_grown_132 rfl 2 rfl ?_
      refine tv_iload X dX9_grown_133 1 rfl ?_
      refine tv_iload X dX9_grown_135 0 rfl ?_
      obtain ⟨s26, _u137, hs26, h⟩ := cl_some h
      refine tv_callVv (st := []) X (c_X9_copyField Γ.2.1 Ω ad A s24 ((40 * v1) + v7) ((40 * v5) + x25) hs26) ⟨gw_6_107, gw_6_104, gw_1_10, q_X9_copyField, rfl, rfl, ⟨Nat.le_of_ble_eq_true rfl, Nat.le_of_ble_eq_true rfl⟩⟩ gw_6_106 gw_p_76 (fun H _ hz _ => PP.recv (f := 0) (i := 0) X.2.1 hz.1 (show 0 < 1 by omega) rfl rfl) rfl rfl (Nat.le_of_ble_eq_true rfl) dX9_grown_137 ?_
      refine tv_aload_n X dX9_grown_140 rfl 2 rfl ?_
      refine gM8_23 X (by omega) gw_5_27 dX9_grown_141 ?_
      refine tv_iload X dX9_grown_144 0 rfl ?_
      refine tv_aload_n X dX9_grown_146 rfl 2 rfl ?_
      refine gM8_23 X (by omega) gw_5_27 dX9_grown_147 ?_
      refine tv_iload X dX9_grown_150 1 rfl ?_
      refine iaM (n := 320) X (by omega) rfl dX9_grown_152 h (fun j27 hj27 h => ?_)
      refine tv_iload X dX9_grown_153 8 rfl ?_
      obtain ⟨s28, x29, hs28, h⟩ := cl_some h
      refine tv_callSi (st := [.int ((40 * v5) + x25), .ref (ad 1 10)]) X (c_X9_moved Γ.2.1 Ω ad A s26 (ga s26 1 10 j27) v6 hs28) ⟨gw_6_103, gw_6_101, gw_1_10, q_X9_moved, rfl, rfl, ⟨Nat.le_of_ble_eq_true rfl, Nat.le_of_ble_eq_true rfl⟩⟩ gw_6_102 rfl rfl (Nat.le_of_ble_eq_true rfl) dX9_grown_155 ?_
      refine isM (n := 320) X (by omega) rfl dX9_grown_158 h (fun j30 hj30 h => ?_)
      refine tv_ns h (fun s31 h => ?_)
      refine tv_aload_n X dX9_grown_159 rfl 2 rfl ?_
      refine gM8_19 X (by omega) gw_5_23 dX9_grown_160 ?_
      refine tv_iload X dX9_grown_163 0 rfl ?_
      refine tv_aload_n X dX9_grown_165 rfl 2 rfl ?_
      refine gM8_19 X (by omega) gw_5_23 dX9_grown_166 ?_
      refine tv_iload X dX9_grown_169 1 rfl ?_
      refine iaM (n := 320) X (by omega) rfl dX9_grown_171 h (fun j32 hj32 h => ?_)
      refine tv_iload X dX9_grown_172 8 rfl ?_
      obtain ⟨s33, x34, hs33, h⟩ := cl_some h
      refine tv_callSi (st := [.int ((40 * v5) + x25), .ref (ad 1 7)]) X (c_X9_moved Γ.2.1 Ω ad A s31 (ga s31 1 7 j32) v6 hs33) ⟨gw_6_103, gw_6_101, gw_1_10, q_X9_moved, rfl, rfl, ⟨Nat.le_of_ble_eq_true rfl, Nat.le_of_ble_eq_true rfl⟩⟩ gw_6_102 rfl rfl (Nat.le_of_ble_eq_true rfl) dX9_grown_174 ?_
      refine isM (n := 320) X (by omega) rfl dX9_grown_177 h (fun j35 hj35 h => ?_)
      refine tv_ns h (fun s36 h => ?_)
      refine tv_aload_n X dX9_grown_178 rfl 2 rfl ?_
      refine gM8_20 X (by omega) gw_5_24 dX9_grown_179 ?_
      refine tv_iload X dX9_grown_182 0 rfl ?_
      refine tv_aload_n X dX9_grown_184 rfl 2 rfl ?_
      refine gM8_20 X (by omega) gw_5_24 dX9_grown_185 ?_
      refine tv_iload X dX9_grown_188 1 rfl ?_
      refine iaM (n := 320) X (by omega) rfl dX9_grown_190 h (fun j37 hj37 h => ?_)
      refine tv_iload X dX9_grown_191 8 rfl ?_
      obtain ⟨s38, x39, hs38, h⟩ := cl_some h
      refine tv_callSi (st := [.int ((40 * v5) + x25), .ref (ad 1 8)]) X (c_X9_moved Γ.2.1 Ω ad A s36 (ga s36 1 8 j37) v6 hs38) ⟨gw_6_103, gw_6_101, gw_1_10, q_X9_moved, rfl, rfl, ⟨Nat.le_of_ble_eq_true rfl, Nat.le_of_ble_eq_true rfl⟩⟩ gw_6_102 rfl rfl (Nat.le_of_ble_eq_true rfl) dX9_grown_193 ?_
      refine isM (n := 320) X (by omega) rfl dX9_grown_196 h (fun j40 hj40 h => ?_)
      refine tv_ns h (fun s41 h => ?_)
      refine tv_iinc X (v7 + 1) dX9_grown_197 9 rfl rfl (by decide) [(7, .int (v7 + 1)), (9, .int ((40 * v5) + x25)), (8, .int ((40 * v1) + v7)), (0, .ref (ad 0 0)), (1, .int v1), (2, .int v2), (3, .int v3), (4, .int v4), (5, .int v5), (6, .int v6)] rfl ?_
      refine tv_goto X 97 dX9_grown_200 (by decide) ?_
      refine V.pick [3, 4, 5, 6, 7, 8, 9, 0] rfl ?_
      exact ih s41 v1 v2 v3 v4 v5 v6 (v7 + 1) h
set_option maxHeartbeats 4000000 in
set_option maxRecDepth 100000 in
theorem l_X9_grown_53 {Γ : Cx} {Ω : Wd} {ad : Nat → Nat → Nat} {A : Nat → Prop} {res : St × Unit} (X : Fx Γ Ω A cX9_grown 10 "MappingTextsModel" rm_X9_grown none) (σ : St) (v1 : Int32) (v2 : Int32) (v3 : Int32) (v4 : Int32) (v5 : Int32) (v6 : Int32) (h : f_X9_grown_53 σ v1 v2 v3 v4 v5 v6 = some res) : V Γ (0, 0) (Qe Γ (0, 0) A (Qcv (PicM Ω ad A) A res)) A 10 (PicM Ω ad A σ) 53 [(0, .ref (ad 0 0)), (1, .int v1), (2, .int v2), (3, .int v3), (4, .int v4), (5, .int v5), (6, .int v6)] [] := by
  unfold f_X9_grown_53 at h
  refine tv_aload_n X dX9_grown_53 rfl 0 rfl ?_
  refine gM8_11 X (by omega) gw_5_15 dX9_grown_54 ?_
  refine tv_iload X dX9_grown_57 5 rfl ?_
  refine tv_aload_n X dX9_grown_59 rfl 0 rfl ?_
  refine gM8_11 X (by omega) gw_5_15 dX9_grown_60 ?_
  refine tv_iload_n X dX9_grown_63 rfl 1 rfl ?_
  refine iaM (n := 8) X (by omega) rfl dX9_grown_64 h (fun j5 hj5 h => ?_)
  refine tv_iconst X 1 dX9_grown_65 (by decide) ?_
  refine tv_iadd X dX9_grown_66 ?_
  refine isM (n := 8) X (by omega) rfl dX9_grown_67 h (fun j6 hj6 h => ?_)
  refine tv_ns h (fun s7 h => ?_)
  refine tv_aload_n X dX9_grown_68 rfl 0 rfl ?_
  refine gM8_12 X (by omega) gw_5_16 dX9_grown_69 ?_
  refine tv_iload X dX9_grown_72 5 rfl ?_
  refine tv_aload_n X dX9_grown_74 rfl 0 rfl ?_
  refine gM8_12 X (by omega) gw_5_16 dX9_grown_75 ?_
  refine tv_iload_n X dX9_grown_78 rfl 1 rfl ?_
  refine iaM (n := 8) X (by omega) rfl dX9_grown_79 h (fun j8 hj8 h => ?_)
  refine isM (n := 8) X (by omega) rfl dX9_grown_80 h (fun j9 hj9 h => ?_)
  refine tv_ns h (fun s10 h => ?_)
  refine tv_aload_n X dX9_grown_81 rfl 0 rfl ?_
  refine gM8_13 X (by omega) gw_5_17 dX9_grown_82 ?_
  refine tv_iload X dX9_grown_85 5 rfl ?_
  refine tv_aload_n X dX9_grown_87 rfl 0 rfl ?_
  refine gM8_13 X (by omega) gw_5_17 dX9_grown_88 ?_
  refine tv_iload_n X dX9_grown_91 rfl 1 rfl ?_
  refine iaM (n := 8) X (by omega) rfl dX9_grown_92 h (fun j11 hj11 h => ?_)
  refine isM (n := 8) X (by omega) rfl dX9_grown_93 h (fun j12 hj12 h => ?_)
  refine tv_ns h (fun s13 h => ?_)
  refine tv_iconst X 0 dX9_grown_94 (by decide) ?_
  refine tv_istore X dX9_grown_95 (by decide) [(7, .int 0), (0, .ref (ad 0 0)), (1, .int v1), (2, .int v2), (3, .int v3), (4, .int v4), (5, .int v5), (6, .int v6)] rfl ?_
  refine V.pick [1, 2, 3, 4, 5, 6, 7, 0] rfl ?_
  exact l_X9_grown_97 X fl s13 v1 v2 v3 v4 v5 v6 0 h
set_option maxHeartbeats 4000000 in
set_option maxRecDepth 100000 in
theorem c_X9_grown (l : Launch) (Ω : Wd) (ad : Nat → Nat → Nat) (A : Nat → Prop) (σ : St) (a1 : Int32) (a2 : Int32) (a3 : Int32) (a4 : Int32) {res : St × Unit} (h : f_X9_grown σ a1 a2 a3 a4 = some res) : Met l yX9_grown (wsO yX9_grown cX9_grown 10 none) rm_X9_grown (PcZ Ω A (PicM Ω ad A σ) [.ref (ad 0 0), .int a1, .int a2, .int a3, .int a4]) (Qcv (PicM Ω ad A) A res) 0 0 A := by
  refine Met.ofV (by decide) rfl (fun Γ hΓ X => ?_)
  have X : Fx Γ Ω A cX9_grown 10 "MappingTextsModel" rm_X9_grown none := X
  unfold f_X9_grown at h
  show V Γ (0, 0) _ A 10 _ 0 [(0, .ref (ad 0 0)), (1, .int a1), (2, .int a2), (3, .int a3), (4, .int a4)] []
  refine tv_aload_n X dX9_grown_0 rfl 0 rfl ?_
  refine gM8_10 X (by omega) gw_5_14 dX9_grown_1 ?_
  refine tv_istore X dX9_grown_4 (by decide) [(5, .int (gi σ 810 0)), (0, .ref (ad 0 0)), (1, .int a1), (2, .int a2), (3, .int a3), (4, .int a4)] rfl ?_
  refine tv_aload_n X dX9_grown_6 rfl 1 rfl ?_
  refine gM8_11 X (by omega) gw_5_15 dX9_grown_7 ?_
  refine tv_iload_n X dX9_grown_10 rfl 2 rfl ?_
  refine iaM (n := 8) X (by omega) rfl dX9_grown_11 h (fun j1 hj1 h => ?_)
  refine tv_istore X dX9_grown_12 (by decide) [(6, .int (ga σ 1 0 j1)), (5, .int (gi σ 810 0)), (0, .ref (ad 0 0)), (1, .int a1), (2, .int a2), (3, .int a3), (4, .int a4)] rfl ?_
  refine tv_iload_n X dX9_grown_14 rfl 4 rfl ?_
  refine tv_bipush X (-2) dX9_grown_15 (by decide) ?_
  refine tv_icmp_eq X 53 dX9_grown_17 (by decide) h (fun h => ?_) (fun h => ?_)
  · refine V.pick [2, 3, 4, 5, 6, 1, 0] rfl ?_
    exact l_X9_grown_53 X σ a1 a2 a3 a4 (gi σ 810 0) (ga σ 1 0 j1) h
  · refine tv_iload_n X dX9_grown_20 rfl 4 rfl ?_
    refine tv_iconst X 1 dX9_grown_21 (by decide) ?_
    refine tv_iadd X dX9_grown_22 ?_
    refine tv_istore X dX9_grown_23 (by decide) [(6, .int (a2 + 1)), (5, .int (gi σ 810 0)), (0, .ref (ad 0 0)), (1, .int a1), (2, .int a2), (3, .int a3), (4, .int a4)] rfl ?_
    refine V.pick [2, 3, 4, 5, 6, 1, 0] rfl ?_
    exact l_X9_grown_25 X (l_X9_grown_53 X) fl σ a1 a2 a3 a4 (gi σ 810 0) (a2 + 1) h
set_option maxHeartbeats 4000000 in
set_option maxRecDepth 100000 in
theorem l_X9_grow_158 {Γ : Cx} {Ω : Wd} {ad : Nat → Nat → Nat} {A : Nat → Prop} {res : St × Int32} (X : Fx Γ Ω A cX9_grow 8 "MappingTextsModel" rm_X9_grow (some .int)) {k163 : St → Int32 → Int32 → Int32 → Int32 → Int32 → Option (St × Int32)} (hk163 : ∀ (σ : St) (t0 : Int32) (v1 : Int32) (v4 : Int32) (v5 : Int32) (v6 : Int32), k163 σ t0 v1 v4 v5 v6 = some res → V Γ (0, 0) (Qe Γ (0, 0) A (Qci (PicM Ω ad A) A res)) A 8 (PicM Ω ad A σ) 163 [(0, .ref (ad 0 0)), (1, .int v1), (4, .int v4), (5, .int v5), (6, .int v6)] [.int t0]) (σ : St) (v1 : Int32) (v4 : Int32) (v5 : Int32) (v6 : Int32) (h : f_X9_grow_158 k163 σ v1 v4 v5 v6 = some res) : V Γ (0, 0) (Qe Γ (0, 0) A (Qci (PicM Ω ad A) A res)) A 8 (PicM Ω ad A σ) 158 [(0, .ref (ad 0 0)), (1, .int v1), (4, .int v4), (5, .int v5), (6, .int v6)] [] := by
  unfold f_X9_grow_158 at h
  refine tv_iconst X 1 dX9_grow_158 (by decide) ?_
  refine tv_goto X 163 dX9_grow_159 (by decide) ?_
  exact hk163 σ 1 v1 v4 v5 v6 h
set_option maxHeartbeats 4000000 in
set_option maxRecDepth 100000 in
theorem l_X9_grow_195 {Γ : Cx} {Ω : Wd} {ad : Nat → Nat → Nat} {A : Nat → Prop} {res : St × Int32} (X : Fx Γ Ω A cX9_grow 8 "MappingTextsModel" rm_X9_grow (some .int)) (σ : St) (v1 : Int32) (v4 : Int32) (v5 : Int32) (v6 : Int32) (h : f_X9_grow_195 σ v1 v4 v5 v6 = some res) : V Γ (0, 0) (Qe Γ (0, 0) A (Qci (PicM Ω ad A) A res)) A 8 (PicM Ω ad A σ) 195 [(0, .ref (ad 0 0)), (1, .int v1), (4, .int v4), (5, .int v5), (6, .int v6)] [] := by
  unfold f_X9_grow_195 at h
  refine tv_aload_n X dX9_grow_195 rfl 0 rfl ?_
  refine gM8_11 X (by omega) gw_5_15 dX9_grow_196 ?_
  refine tv_iload_n X dX9_grow_199 rfl 1 rfl ?_
  refine iaM (n := 8) X (by omega) rfl dX9_grow_200 h (fun j21 hj21 h => ?_)
  refine tv_aload_n X dX9_grow_201 rfl 0 rfl ?_
  refine gM8_13 X (by omega) gw_5_17 dX9_grow_202 ?_
  refine tv_iload_n X dX9_grow_205 rfl 1 rfl ?_
  refine iaM (n := 8) X (by omega) rfl dX9_grow_206 h (fun j22 hj22 h => ?_)
  refine tv_icmp_ne X 213 dX9_grow_207 (by decide) h (fun h => ?_) (fun h => ?_)
  · refine tv_aload_n X dX9_grow_213 rfl 0 rfl ?_
    refine gM8_10 X (by omega) gw_5_14 dX9_grow_214 ?_
    refine tv_bipush X 8 dX9_grow_217 (by decide) ?_
    refine tv_icmp_ne X 225 dX9_grow_219 (by decide) h (fun h => ?_) (fun h => ?_)
    · refine tv_aload_n X dX9_grow_225 rfl 0 rfl ?_
      refine tv_iload_n X dX9_grow_226 rfl 1 rfl ?_
      refine tv_iload X dX9_grow_227 2 rfl ?_
      refine tv_iload X dX9_grow_229 3 rfl ?_
      refine tv_aload_n X dX9_grow_231 rfl 0 rfl ?_
      refine gM8_29 X (by omega) gw_5_33 dX9_grow_232 ?_
      refine tv_bipush X 8 dX9_grow_235 (by decide) ?_
      refine tv_iload_n X dX9_grow_237 rfl 1 rfl ?_
      refine tv_imul X dX9_grow_238 ?_
      refine tv_iload X dX9_grow_239 4 rfl ?_
      refine tv_iadd X dX9_grow_241 ?_
      refine iaM (n := 64) X (by omega) rfl dX9_grow_242 h (fun j23 hj23 h => ?_)
      obtain ⟨s24, _u243, hs24, h⟩ := cl_some h
      refine tv_callVv (st := []) X (c_X9_grown Γ.2.1 Ω ad A σ v1 v4 v5 (ga σ 1 13 j23) hs24) ⟨gw_6_96, gw_6_93, gw_1_10, q_X9_grown, rfl, rfl, ⟨Nat.le_of_ble_eq_true rfl, Nat.le_of_ble_eq_true rfl⟩⟩ gw_6_95 gw_p_74 (fun H _ hz _ => PP.recv (f := 0) (i := 0) X.2.1 hz.1 (show 0 < 1 by omega) rfl rfl) rfl rfl (Nat.le_of_ble_eq_true rfl) dX9_grow_243 ?_
      refine tv_aload_n X dX9_grow_246 rfl 0 rfl ?_
      refine tv_dup X dX9_grow_247 rfl ?_
      refine gM8_10 X (by omega) gw_5_14 dX9_grow_248 ?_
      refine tv_iconst X 1 dX9_grow_251 (by decide) ?_
      refine tv_iadd X dX9_grow_252 ?_
      refine pM8_10 X (by omega) gw_5_14 dX9_grow_253 ?_
      refine tv_ns h (fun s25 h => ?_)
      refine tv_aload_n X dX9_grow_256 rfl 0 rfl ?_
      refine gM8_10 X (by omega) gw_5_14 dX9_grow_257 ?_
      refine tv_iconst X 1 dX9_grow_260 (by decide) ?_
      refine tv_isub X dX9_grow_261 ?_
      exact tv_iret X dX9_grow_262 h
    · refine tv_bipush X (-3) dX9_grow_222 (by decide) ?_
      exact tv_iret X dX9_grow_224 h
  · refine tv_bipush X (-2) dX9_grow_210 (by decide) ?_
    exact tv_iret X dX9_grow_212 h
set_option maxHeartbeats 4000000 in
set_option maxRecDepth 100000 in
theorem l_X9_grow_163 {Γ : Cx} {Ω : Wd} {ad : Nat → Nat → Nat} {A : Nat → Prop} {res : St × Int32} (X : Fx Γ Ω A cX9_grow 8 "MappingTextsModel" rm_X9_grow (some .int)) (σ : St) (t0 : Int32) (v1 : Int32) (v4 : Int32) (v5 : Int32) (v6 : Int32) (h : f_X9_grow_163 σ t0 v1 v4 v5 v6 = some res) : V Γ (0, 0) (Qe Γ (0, 0) A (Qci (PicM Ω ad A) A res)) A 8 (PicM Ω ad A σ) 163 [(0, .ref (ad 0 0)), (1, .int v1), (4, .int v4), (5, .int v5), (6, .int v6)] [.int t0] := by
  unfold f_X9_grow_163 at h
  refine tv_istore X dX9_grow_163 (by decide) [(7, .int t0), (0, .ref (ad 0 0)), (1, .int v1), (4, .int v4), (5, .int v5), (6, .int v6)] rfl ?_
  refine tv_iload X dX9_grow_165 0 rfl ?_
  refine tv_if_ne X 210 dX9_grow_167 (by decide) h (fun h => ?_) (fun h => ?_)
  · refine tv_bipush X (-2) dX9_grow_210 (by decide) ?_
    exact tv_iret X dX9_grow_212 h
  · refine tv_iload X dX9_grow_170 5 rfl ?_
    refine tv_bipush X (-2) dX9_grow_172 (by decide) ?_
    refine tv_icmp_eq X 210 dX9_grow_174 (by decide) h (fun h => ?_) (fun h => ?_)
    · refine tv_bipush X (-2) dX9_grow_210 (by decide) ?_
      exact tv_iret X dX9_grow_212 h
    · refine tv_iload X dX9_grow_177 3 rfl ?_
      refine tv_bipush X (-2) dX9_grow_179 (by decide) ?_
      refine tv_icmp_eq X 195 dX9_grow_181 (by decide) h (fun h => ?_) (fun h => ?_)
      · refine V.pick [1, 2, 3, 4, 5] rfl ?_
        exact l_X9_grow_195 X σ v1 v4 v5 v6 h
      · refine tv_aload_n X dX9_grow_184 rfl 1 rfl ?_
        refine tv_iload_n X dX9_grow_185 rfl 2 rfl ?_
        refine tv_iload X dX9_grow_186 3 rfl ?_
        obtain ⟨s19, x20, hs19, h⟩ := cl_some h
        refine tv_callVi (st := []) X (c_X9_depthOf Γ.2.1 Ω ad A σ v1 v4 hs19) ⟨gw_6_92, gw_6_89, gw_1_10, q_X9_depthOf, rfl, rfl, ⟨Nat.le_of_ble_eq_true rfl, Nat.le_of_ble_eq_true rfl⟩⟩ gw_6_91 gw_p_73 (fun H _ hz _ => PP.recv (f := 0) (i := 0) X.2.1 hz.1 (show 0 < 1 by omega) rfl rfl) rfl rfl (Nat.le_of_ble_eq_true rfl) dX9_grow_188 ?_
        refine tv_iconst X 4 dX9_grow_191 (by decide) ?_
        refine tv_icmp_eq X 210 dX9_grow_192 (by decide) h (fun h => ?_) (fun h => ?_)
        · refine tv_bipush X (-2) dX9_grow_210 (by decide) ?_
          exact tv_iret X dX9_grow_212 h
        · refine V.pick [1, 2, 3, 4, 5] rfl ?_
          exact l_X9_grow_195 X s19 v1 v4 v5 v6 h
set_option maxHeartbeats 4000000 in
set_option maxRecDepth 100000 in
theorem l_X9_grow_114 {Γ : Cx} {Ω : Wd} {ad : Nat → Nat → Nat} {A : Nat → Prop} {res : St × Int32} (X : Fx Γ Ω A cX9_grow 8 "MappingTextsModel" rm_X9_grow (some .int)) (σ : St) (v1 : Int32) (v2 : Int32) (v4 : Int32) (h : f_X9_grow_114 σ v1 v2 v4 = some res) : V Γ (0, 0) (Qe Γ (0, 0) A (Qci (PicM Ω ad A) A res)) A 8 (PicM Ω ad A σ) 114 [(0, .ref (ad 0 0)), (1, .int v1), (2, .int v2), (4, .int v4)] [] := by
  unfold f_X9_grow_114 at h
  refine tv_aload_n X dX9_grow_114 rfl 0 rfl ?_
  refine gM8_30 X (by omega) gw_5_34 dX9_grow_115 ?_
  refine tv_iconst X 1 dX9_grow_118 (by decide) ?_
  refine tv_isub X dX9_grow_119 ?_
  refine tv_istore X dX9_grow_120 (by decide) [(5, .int ((gi σ 830 0) - 1)), (0, .ref (ad 0 0)), (1, .int v1), (2, .int v2), (4, .int v4)] rfl ?_
  refine tv_aload_n X dX9_grow_122 rfl 1 rfl ?_
  refine tv_iload_n X dX9_grow_123 rfl 2 rfl ?_
  refine tv_iload X dX9_grow_124 0 rfl ?_
  refine tv_iload_n X dX9_grow_126 rfl 3 rfl ?_
  obtain ⟨s13, x14, hs13, h⟩ := cl_some h
  refine tv_callVi (st := []) X (c_X9_firstRule Γ.2.1 Ω ad A σ v1 ((gi σ 830 0) - 1) v2 hs13) ⟨gw_6_77, gw_6_74, gw_1_10, q_X9_firstRule, rfl, rfl, ⟨Nat.le_of_ble_eq_true rfl, Nat.le_of_ble_eq_true rfl⟩⟩ gw_6_76 gw_p_71 (fun H _ hz _ => PP.recv (f := 0) (i := 0) X.2.1 hz.1 (show 0 < 1 by omega) rfl rfl) rfl rfl (Nat.le_of_ble_eq_true rfl) dX9_grow_127 ?_
  refine tv_istore X dX9_grow_130 (by decide) [(6, .int x14), (5, .int ((gi σ 830 0) - 1)), (0, .ref (ad 0 0)), (1, .int v1), (2, .int v2), (4, .int v4)] rfl ?_
  refine tv_aload_n X dX9_grow_132 rfl 2 rfl ?_
  refine tv_iload X dX9_grow_133 1 rfl ?_
  obtain ⟨s15, x16, hs15, h⟩ := cl_some h
  refine tv_callVl (st := []) X (c_X9_word Γ.2.1 Ω ad A s13 ((gi σ 830 0) - 1) hs15) ⟨gw_5_216, gw_5_213, gw_1_10, q_X9_word, rfl, rfl, ⟨Nat.le_of_ble_eq_true rfl, Nat.le_of_ble_eq_true rfl⟩⟩ gw_5_215 gw_p_51 (fun H _ hz _ => PP.recv (f := 0) (i := 0) X.2.1 hz.1 (show 0 < 1 by omega) rfl rfl) rfl rfl (Nat.le_of_ble_eq_true rfl) dX9_grow_135 ?_
  refine tv_ldc2 X 1920298085 gw_5_221 dX9_grow_138 ?_
  refine tv_lcmp X dX9_grow_141 ?_
  refine tv_if_eq X 158 dX9_grow_142 (by decide) h (fun h => ?_) (fun h => ?_)
  · refine V.pick [2, 3, 5, 1, 0] rfl ?_
    exact l_X9_grow_158 X (l_X9_grow_163 X) s15 v1 v4 ((gi σ 830 0) - 1) x14 h
  · refine tv_aload_n X dX9_grow_145 rfl 2 rfl ?_
    refine tv_iload X dX9_grow_146 1 rfl ?_
    obtain ⟨s17, x18, hs17, h⟩ := cl_some h
    refine tv_callVl (st := []) X (c_X9_word Γ.2.1 Ω ad A s15 ((gi σ 830 0) - 1) hs17) ⟨gw_5_216, gw_5_213, gw_1_10, q_X9_word, rfl, rfl, ⟨Nat.le_of_ble_eq_true rfl, Nat.le_of_ble_eq_true rfl⟩⟩ gw_5_215 gw_p_51 (fun H _ hz _ => PP.recv (f := 0) (i := 0) X.2.1 hz.1 (show 0 < 1 by omega) rfl rfl) rfl rfl (Nat.le_of_ble_eq_true rfl) dX9_grow_148 ?_
    refine tv_ldc2 X 465625246068 gw_5_222 dX9_grow_151 ?_
    refine tv_lcmp X dX9_grow_154 ?_
    refine tv_if_ne X 162 dX9_grow_155 (by decide) h (fun h => ?_) (fun h => ?_)
    · refine tv_iconst X 0 dX9_grow_162 (by decide) ?_
      refine V.pick [2, 3, 5, 1, 0] rfl ?_
      exact l_X9_grow_163 X s17 0 v1 v4 ((gi σ 830 0) - 1) x14 h
    · refine V.pick [2, 3, 5, 1, 0] rfl ?_
      exact l_X9_grow_158 X (l_X9_grow_163 X) s17 v1 v4 ((gi σ 830 0) - 1) x14 h
set_option maxHeartbeats 4000000 in
set_option maxRecDepth 100000 in
theorem l_X9_grow_64 {Γ : Cx} {Ω : Wd} {ad : Nat → Nat → Nat} {A : Nat → Prop} {res : St × Int32} (X : Fx Γ Ω A cX9_grow 8 "MappingTextsModel" rm_X9_grow (some .int)) (σ : St) (t0 : Int32) (v1 : Int32) (v2 : Int32) (v3 : Int32) (h : f_X9_grow_64 σ t0 v1 v2 v3 = some res) : V Γ (0, 0) (Qe Γ (0, 0) A (Qci (PicM Ω ad A) A res)) A 8 (PicM Ω ad A σ) 64 [(0, .ref (ad 0 0)), (1, .int v1), (2, .int v2), (3, .int v3)] [.int t0] := by
  unfold f_X9_grow_64 at h
  refine tv_istore X dX9_grow_64 (by decide) [(4, .int t0), (0, .ref (ad 0 0)), (1, .int v1), (2, .int v2), (3, .int v3)] rfl ?_
  refine tv_iload_n X dX9_grow_66 rfl 4 rfl ?_
  refine tv_iconst X 1 dX9_grow_67 (by decide) ?_
  refine tv_icmp_le X 114 dX9_grow_68 (by decide) h (fun h => ?_) (fun h => ?_)
  · refine V.pick [1, 2, 3, 0] rfl ?_
    exact l_X9_grow_114 X σ v1 v2 t0 h
  · refine tv_iload X dX9_grow_71 0 rfl ?_
    refine tv_bipush X (-2) dX9_grow_73 (by decide) ?_
    refine tv_icmp_eq X 111 dX9_grow_75 (by decide) h (fun h => ?_) (fun h => ?_)
    · refine tv_bipush X (-2) dX9_grow_111 (by decide) ?_
      exact tv_iret X dX9_grow_113 h
    · refine tv_aload_n X dX9_grow_78 rfl 1 rfl ?_
      refine gM8_16 X (by omega) gw_5_20 dX9_grow_79 ?_
      refine tv_bipush X 40 dX9_grow_82 (by decide) ?_
      refine tv_iload_n X dX9_grow_84 rfl 2 rfl ?_
      refine tv_imul X dX9_grow_85 ?_
      refine tv_iload X dX9_grow_86 0 rfl ?_
      refine tv_iadd X dX9_grow_88 ?_
      refine iaM (n := 320) X (by omega) rfl dX9_grow_89 h (fun j11 hj11 h => ?_)
      refine tv_iconst X 5 dX9_grow_90 (by decide) ?_
      refine tv_icmp_eq X 114 dX9_grow_91 (by decide) h (fun h => ?_) (fun h => ?_)
      · refine V.pick [1, 2, 3, 0] rfl ?_
        exact l_X9_grow_114 X σ v1 v2 t0 h
      · refine tv_aload_n X dX9_grow_94 rfl 1 rfl ?_
        refine gM8_16 X (by omega) gw_5_20 dX9_grow_95 ?_
        refine tv_bipush X 40 dX9_grow_98 (by decide) ?_
        refine tv_iload_n X dX9_grow_100 rfl 2 rfl ?_
        refine tv_imul X dX9_grow_101 ?_
        refine tv_iload X dX9_grow_102 0 rfl ?_
        refine tv_iadd X dX9_grow_104 ?_
        refine iaM (n := 320) X (by omega) rfl dX9_grow_105 h (fun j12 hj12 h => ?_)
        refine tv_bipush X 6 dX9_grow_106 (by decide) ?_
        refine tv_icmp_eq X 114 dX9_grow_108 (by decide) h (fun h => ?_) (fun h => ?_)
        · refine V.pick [1, 2, 3, 0] rfl ?_
          exact l_X9_grow_114 X σ v1 v2 t0 h
        · refine tv_bipush X (-2) dX9_grow_111 (by decide) ?_
          exact tv_iret X dX9_grow_113 h
set_option maxHeartbeats 4000000 in
set_option maxRecDepth 100000 in
theorem c_X9_grow (l : Launch) (Ω : Wd) (ad : Nat → Nat → Nat) (A : Nat → Prop) (σ : St) (a1 : Int32) (a2 : Int32) {res : St × Int32} (h : f_X9_grow σ a1 a2 = some res) : Met l yX9_grow (wsO yX9_grow cX9_grow 8 (some .int)) rm_X9_grow (PcZ Ω A (PicM Ω ad A σ) [.ref (ad 0 0), .int a1, .int a2]) (Qci (PicM Ω ad A) A res) 0 0 A := by
  refine Met.ofV (by decide) rfl (fun Γ hΓ X => ?_)
  have X : Fx Γ Ω A cX9_grow 8 "MappingTextsModel" rm_X9_grow (some .int) := X
  unfold f_X9_grow at h
  show V Γ (0, 0) _ A 8 _ 0 [(0, .ref (ad 0 0)), (1, .int a1), (2, .int a2)] []
  refine tv_aload_n X dX9_grow_0 rfl 0 rfl ?_
  obtain ⟨s1, x2, hs1, h⟩ := cl_some h
  refine tv_callVi (st := []) X (c_X9_tapePath Γ.2.1 Ω ad A σ hs1) ⟨gw_6_65, gw_6_62, gw_1_10, q_X9_tapePath, rfl, rfl, ⟨Nat.le_of_ble_eq_true rfl, Nat.le_of_ble_eq_true rfl⟩⟩ gw_6_64 gw_p_69 (fun H _ hz _ => PP.recv (f := 0) (i := 0) X.2.1 hz.1 (show 0 < 1 by omega) rfl rfl) rfl rfl (Nat.le_of_ble_eq_true rfl) dX9_grow_1 ?_
  refine tv_istore_n X dX9_grow_4 rfl (by decide) [(3, .int x2), (0, .ref (ad 0 0)), (1, .int a1), (2, .int a2)] rfl ?_
  refine tv_aload_n X dX9_grow_5 rfl 1 rfl ?_
  refine tv_iload_n X dX9_grow_6 rfl 2 rfl ?_
  obtain ⟨s3, x4, hs3, h⟩ := cl_some h
  refine tv_callVi (st := []) X (c_X9_isVersion Γ.2.1 Ω ad A s1 a1 hs3) ⟨gw_6_69, gw_6_66, gw_1_10, q_X9_isVersion, rfl, rfl, ⟨Nat.le_of_ble_eq_true rfl, Nat.le_of_ble_eq_true rfl⟩⟩ gw_6_68 gw_p_70 (fun H _ hz _ => PP.recv (f := 0) (i := 0) X.2.1 hz.1 (show 0 < 1 by omega) rfl rfl) rfl rfl (Nat.le_of_ble_eq_true rfl) dX9_grow_7 ?_
  refine tv_if_eq X 22 dX9_grow_10 (by decide) h (fun h => ?_) (fun h => ?_)
  · refine tv_iconst X (-1) dX9_grow_22 (by decide) ?_
    exact tv_iret X dX9_grow_23 h
  · refine tv_iload_n X dX9_grow_13 rfl 3 rfl ?_
    refine tv_iconst X 0 dX9_grow_14 (by decide) ?_
    refine tv_iconst X 3 dX9_grow_15 (by decide) ?_
    obtain ⟨s5, x6, hs5, h⟩ := cl_some h
    refine tv_callSi (st := []) X (c_X9_in Γ.2.1 Ω ad A s3 a2 0 3 hs5) ⟨gw_5_187, gw_5_185, gw_1_10, q_X9_in, rfl, rfl, ⟨Nat.le_of_ble_eq_true rfl, Nat.le_of_ble_eq_true rfl⟩⟩ gw_5_186 rfl rfl (Nat.le_of_ble_eq_true rfl) dX9_grow_16 ?_
    refine tv_if_ne X 24 dX9_grow_19 (by decide) h (fun h => ?_) (fun h => ?_)
    · refine tv_iload_n X dX9_grow_24 rfl 0 rfl ?_
      refine tv_if_ne X 31 dX9_grow_25 (by decide) h (fun h => ?_) (fun h => ?_)
      · refine tv_aload_n X dX9_grow_31 rfl 1 rfl ?_
        refine tv_iload_n X dX9_grow_32 rfl 2 rfl ?_
        refine tv_iconst X 0 dX9_grow_33 (by decide) ?_
        refine tv_iload_n X dX9_grow_34 rfl 0 rfl ?_
        obtain ⟨s7, x8, hs7, h⟩ := cl_some h
        refine tv_callVi (st := []) X (c_X9_fieldOf Γ.2.1 Ω ad A s5 a1 0 x2 hs7) ⟨gw_6_41, gw_6_38, gw_1_10, q_X9_fieldOf, rfl, rfl, ⟨Nat.le_of_ble_eq_true rfl, Nat.le_of_ble_eq_true rfl⟩⟩ gw_6_40 gw_p_66 (fun H _ hz _ => PP.recv (f := 0) (i := 0) X.2.1 hz.1 (show 0 < 1 by omega) rfl rfl) rfl rfl (Nat.le_of_ble_eq_true rfl) dX9_grow_35 ?_
        refine tv_bipush X (-2) dX9_grow_38 (by decide) ?_
        refine tv_icmp_eq X 45 dX9_grow_40 (by decide) h (fun h => ?_) (fun h => ?_)
        · refine tv_iload_n X dX9_grow_45 rfl 0 rfl ?_
          refine tv_iconst X 1 dX9_grow_46 (by decide) ?_
          refine tv_icmp_ne X 55 dX9_grow_47 (by decide) h (fun h => ?_) (fun h => ?_)
          · refine tv_aload_n X dX9_grow_55 rfl 1 rfl ?_
            refine tv_iload_n X dX9_grow_56 rfl 2 rfl ?_
            refine tv_iconst X 0 dX9_grow_57 (by decide) ?_
            refine tv_iload_n X dX9_grow_58 rfl 0 rfl ?_
            refine tv_iconst X 1 dX9_grow_59 (by decide) ?_
            refine tv_isub X dX9_grow_60 ?_
            obtain ⟨s9, x10, hs9, h⟩ := cl_some h
            refine tv_callVi (st := []) X (c_X9_fieldOf Γ.2.1 Ω ad A s7 a1 0 (x2 - 1) hs9) ⟨gw_6_41, gw_6_38, gw_1_10, q_X9_fieldOf, rfl, rfl, ⟨Nat.le_of_ble_eq_true rfl, Nat.le_of_ble_eq_true rfl⟩⟩ gw_6_40 gw_p_66 (fun H _ hz _ => PP.recv (f := 0) (i := 0) X.2.1 hz.1 (show 0 < 1 by omega) rfl rfl) rfl rfl (Nat.le_of_ble_eq_true rfl) dX9_grow_61 ?_
            refine V.pick [1, 2, 3, 0] rfl ?_
            exact l_X9_grow_64 X s9 x10 a1 a2 x2 h
          · refine tv_bipush X (-2) dX9_grow_50 (by decide) ?_
            refine tv_goto X 64 dX9_grow_52 (by decide) ?_
            refine V.pick [1, 2, 3, 0] rfl ?_
            exact l_X9_grow_64 X s7 (-2) a1 a2 x2 h
        · refine tv_iload_n X dX9_grow_43 rfl 2 rfl ?_
          exact tv_iret X dX9_grow_44 h
      · refine tv_bipush X (-2) dX9_grow_28 (by decide) ?_
        exact tv_iret X dX9_grow_30 h
    · refine tv_iconst X (-1) dX9_grow_22 (by decide) ?_
      exact tv_iret X dX9_grow_23 h
set_option maxHeartbeats 4000000 in
set_option maxRecDepth 100000 in
theorem c_X9_isField (l : Launch) (Ω : Wd) (ad : Nat → Nat → Nat) (A : Nat → Prop) (σ : St) (a1 : Int32) (a2 : Int32) {res : St × Int32} (h : f_X9_isField σ a1 a2 = some res) : Met l yX9_isField (wsO yX9_isField cX9_isField 3 (some .boolean)) rm_X9_isField (PcZ Ω A (PicM Ω ad A σ) [.ref (ad 0 0), .int a1, .int a2]) (Qci (PicM Ω ad A) A res) 0 0 A := by
  refine Met.ofV (by decide) rfl (fun Γ hΓ X => ?_)
  have X : Fx Γ Ω A cX9_isField 3 "MappingTextsModel" rm_X9_isField (some .boolean) := X
  unfold f_X9_isField at h
  show V Γ (0, 0) _ A 3 _ 0 [(0, .ref (ad 0 0)), (1, .int a1), (2, .int a2)] []
  refine tv_aload_n X dX9_isField_0 rfl 0 rfl ?_
  refine tv_iload_n X dX9_isField_1 rfl 1 rfl ?_
  obtain ⟨s1, x2, hs1, h⟩ := cl_some h
  refine tv_callVi (st := []) X (c_X9_isVersion Γ.2.1 Ω ad A σ a1 hs1) ⟨gw_6_69, gw_6_66, gw_1_10, q_X9_isVersion, rfl, rfl, ⟨Nat.le_of_ble_eq_true rfl, Nat.le_of_ble_eq_true rfl⟩⟩ gw_6_68 gw_p_70 (fun H _ hz _ => PP.recv (f := 0) (i := 0) X.2.1 hz.1 (show 0 < 1 by omega) rfl rfl) rfl rfl (Nat.le_of_ble_eq_true rfl) dX9_isField_2 ?_
  refine tv_if_eq X 28 dX9_isField_5 (by decide) h (fun h => ?_) (fun h => ?_)
  · refine tv_iconst X 0 dX9_isField_28 (by decide) ?_
    exact tv_zret X dX9_isField_29 (Or.inl rfl) h
  · refine tv_iload_n X dX9_isField_8 rfl 2 rfl ?_
    refine tv_iconst X 0 dX9_isField_9 (by decide) ?_
    refine tv_aload_n X dX9_isField_10 rfl 0 rfl ?_
    refine gM8_11 X (by omega) gw_5_15 dX9_isField_11 ?_
    refine tv_iload_n X dX9_isField_14 rfl 1 rfl ?_
    refine iaM (n := 8) X (by omega) rfl dX9_isField_15 h (fun j3 hj3 h => ?_)
    refine tv_iconst X 1 dX9_isField_16 (by decide) ?_
    refine tv_isub X dX9_isField_17 ?_
    obtain ⟨s4, x5, hs4, h⟩ := cl_some h
    refine tv_callSi (st := []) X (c_X9_in Γ.2.1 Ω ad A s1 a2 0 ((ga s1 1 0 j3) - 1) hs4) ⟨gw_5_187, gw_5_185, gw_1_10, q_X9_in, rfl, rfl, ⟨Nat.le_of_ble_eq_true rfl, Nat.le_of_ble_eq_true rfl⟩⟩ gw_5_186 rfl rfl (Nat.le_of_ble_eq_true rfl) dX9_isField_18 ?_
    refine tv_if_eq X 28 dX9_isField_21 (by decide) h (fun h => ?_) (fun h => ?_)
    · refine tv_iconst X 0 dX9_isField_28 (by decide) ?_
      exact tv_zret X dX9_isField_29 (Or.inl rfl) h
    · refine tv_iconst X 1 dX9_isField_24 (by decide) ?_
      refine tv_goto X 29 dX9_isField_25 (by decide) ?_
      exact tv_zret X dX9_isField_29 (Or.inr rfl) h
set_option maxHeartbeats 4000000 in
set_option maxRecDepth 100000 in
theorem l_X9_field__203 {Γ : Cx} {Ω : Wd} {ad : Nat → Nat → Nat} {A : Nat → Prop} {res : St × Int32} (X : Fx Γ Ω A cX9_field_ 7 "MappingTextsModel" rm_X9_field_ (some .int)) : ∀ (n : Nat) (σ : St) (v1 : Int32) (v4 : Int32) (v5 : Int32) (v6 : Int32), f_X9_field__203 n σ v1 v4 v5 v6 = some res → V Γ (0, 0) (Qe Γ (0, 0) A (Qci (PicM Ω ad A) A res)) A 7 (PicM Ω ad A σ) 203 [(0, .ref (ad 0 0)), (1, .int v1), (4, .int v4), (5, .int v5), (6, .int v6)] [] := by
  intro n
  induction n with
  | zero =>
    intro σ v1 v4 v5 v6 h
    cases (show none = some res from h)
  | succ n ih =>
    intro σ v1 v4 v5 v6 h
    rw [f_X9_field__203] at h
    refine tv_aload_n X dX9_field__203 rfl 0 rfl ?_
    refine gM8_16 X (by omega) gw_5_20 dX9_field__204 ?_
    refine tv_iload X dX9_field__207 2 rfl ?_
    refine iaM (n := 320) X (by omega) rfl dX9_field__209 h (fun j15 hj15 h => ?_)
    refine tv_iconst X 4 dX9_field__210 (by decide) ?_
    refine tv_icmp_gt X 241 dX9_field__211 (by decide) h (fun h => ?_) (fun h => ?_)
    · refine tv_iload X dX9_field__241 3 rfl ?_
      exact tv_iret X dX9_field__243 h
    · refine tv_iload X dX9_field__214 4 rfl ?_
      refine tv_bipush X (-2) dX9_field__216 (by decide) ?_
      refine tv_icmp_eq X 241 dX9_field__218 (by decide) h (fun h => ?_) (fun h => ?_)
      · refine tv_iload X dX9_field__241 3 rfl ?_
        exact tv_iret X dX9_field__243 h
      · refine tv_iinc X (v5 + 1) dX9_field__221 3 rfl rfl (by decide) [(5, .int (v5 + 1)), (0, .ref (ad 0 0)), (1, .int v1), (4, .int v4), (6, .int v6)] rfl ?_
        refine tv_aload_n X dX9_field__224 rfl 1 rfl ?_
        refine gM8_19 X (by omega) gw_5_23 dX9_field__225 ?_
        refine tv_bipush X 40 dX9_field__228 (by decide) ?_
        refine tv_iload_n X dX9_field__230 rfl 2 rfl ?_
        refine tv_imul X dX9_field__231 ?_
        refine tv_iload X dX9_field__232 4 rfl ?_
        refine tv_iadd X dX9_field__234 ?_
        refine iaM (n := 320) X (by omega) rfl dX9_field__235 h (fun j16 hj16 h => ?_)
        refine tv_istore X dX9_field__236 (by decide) [(6, .int (ga σ 1 7 j16)), (5, .int (v5 + 1)), (0, .ref (ad 0 0)), (1, .int v1), (4, .int v4)] rfl ?_
        refine tv_goto X 203 dX9_field__238 (by decide) ?_
        refine V.pick [2, 3, 4, 1, 0] rfl ?_
        exact ih σ v1 v4 (v5 + 1) (ga σ 1 7 j16) h
set_option maxHeartbeats 4000000 in
set_option maxRecDepth 100000 in
theorem l_X9_field__169 {Γ : Cx} {Ω : Wd} {ad : Nat → Nat → Nat} {A : Nat → Prop} {res : St × Int32} (X : Fx Γ Ω A cX9_field_ 7 "MappingTextsModel" rm_X9_field_ (some .int)) {k135 : St → Int32 → Int32 → Int32 → Int32 → Option (St × Int32)} (hk135 : ∀ (σ : St) (v1 : Int32) (v2 : Int32) (v5 : Int32) (v6 : Int32), k135 σ v1 v2 v5 v6 = some res → V Γ (0, 0) (Qe Γ (0, 0) A (Qci (PicM Ω ad A) A res)) A 7 (PicM Ω ad A σ) 135 [(0, .ref (ad 0 0)), (1, .int v1), (2, .int v2), (5, .int v5), (6, .int v6)] []) (σ : St) (t0 : Int32) (t1 : Int32) (v1 : Int32) (v2 : Int32) (v6 : Int32) (h : f_X9_field__169 k135 σ t0 t1 v1 v2 v6 = some res) : V Γ (0, 0) (Qe Γ (0, 0) A (Qci (PicM Ω ad A) A res)) A 7 (PicM Ω ad A σ) 169 [(0, .ref (ad 0 0)), (1, .int v1), (2, .int v2), (6, .int v6)] [.int t1, .int t0] := by
  unfold f_X9_field__169 at h
  refine tv_iadd X dX9_field__169 ?_
  refine tv_istore X dX9_field__170 (by decide) [(5, .int (t0 + t1)), (0, .ref (ad 0 0)), (1, .int v1), (2, .int v2), (6, .int v6)] rfl ?_
  refine tv_iinc X (v6 + 1) dX9_field__172 4 rfl rfl (by decide) [(6, .int (v6 + 1)), (5, .int (t0 + t1)), (0, .ref (ad 0 0)), (1, .int v1), (2, .int v2)] rfl ?_
  refine tv_goto X 135 dX9_field__175 (by decide) ?_
  refine V.pick [2, 3, 4, 1, 0] rfl ?_
  exact hk135 σ v1 v2 (t0 + t1) (v6 + 1) h
set_option maxHeartbeats 4000000 in
set_option maxRecDepth 100000 in
theorem l_X9_field__135 {Γ : Cx} {Ω : Wd} {ad : Nat → Nat → Nat} {A : Nat → Prop} {res : St × Int32} (X : Fx Γ Ω A cX9_field_ 7 "MappingTextsModel" rm_X9_field_ (some .int)) : ∀ (n : Nat) (σ : St) (v1 : Int32) (v2 : Int32) (v5 : Int32) (v6 : Int32), f_X9_field__135 n σ v1 v2 v5 v6 = some res → V Γ (0, 0) (Qe Γ (0, 0) A (Qci (PicM Ω ad A) A res)) A 7 (PicM Ω ad A σ) 135 [(0, .ref (ad 0 0)), (1, .int v1), (2, .int v2), (5, .int v5), (6, .int v6)] [] := by
  intro n
  induction n with
  | zero =>
    intro σ v1 v2 v5 v6 h
    cases (show none = some res from h)
  | succ n ih =>
    intro σ v1 v2 v5 v6 h
    rw [f_X9_field__135] at h
    refine tv_iload X dX9_field__135 4 rfl ?_
    refine tv_aload_n X dX9_field__137 rfl 0 rfl ?_
    refine gM8_11 X (by omega) gw_5_15 dX9_field__138 ?_
    refine tv_iload_n X dX9_field__141 rfl 1 rfl ?_
    refine iaM (n := 8) X (by omega) rfl dX9_field__142 h (fun j17 hj17 h => ?_)
    refine tv_icmp_ge X 178 dX9_field__143 (by decide) h (fun h => ?_) (fun h => ?_)
    · refine tv_iload X dX9_field__178 3 rfl ?_
      exact tv_iret X dX9_field__180 h
    · refine tv_iload X dX9_field__146 3 rfl ?_
      refine tv_aload_n X dX9_field__148 rfl 0 rfl ?_
      refine gM8_23 X (by omega) gw_5_27 dX9_field__149 ?_
      refine tv_bipush X 40 dX9_field__152 (by decide) ?_
      refine tv_iload_n X dX9_field__154 rfl 1 rfl ?_
      refine tv_imul X dX9_field__155 ?_
      refine tv_iload X dX9_field__156 4 rfl ?_
      refine tv_iadd X dX9_field__158 ?_
      refine iaM (n := 320) X (by omega) rfl dX9_field__159 h (fun j18 hj18 h => ?_)
      refine tv_iload_n X dX9_field__160 rfl 2 rfl ?_
      refine tv_icmp_ne X 168 dX9_field__161 (by decide) h (fun h => ?_) (fun h => ?_)
      · refine tv_iconst X 0 dX9_field__168 (by decide) ?_
        refine V.pick [0, 1, 2, 4] rfl ?_
        exact l_X9_field__169 X ih σ v5 0 v1 v2 v6 h
      · refine tv_iconst X 1 dX9_field__164 (by decide) ?_
        refine tv_goto X 169 dX9_field__165 (by decide) ?_
        refine V.pick [0, 1, 2, 4] rfl ?_
        exact l_X9_field__169 X ih σ v5 1 v1 v2 v6 h
set_option maxHeartbeats 4000000 in
set_option maxRecDepth 100000 in
theorem c_X9_field_ (l : Launch) (Ω : Wd) (ad : Nat → Nat → Nat) (A : Nat → Prop) (σ : St) (a1 : Int32) (a2 : Int32) (a3 : Int32) {res : St × Int32} (h : f_X9_field_ σ a1 a2 a3 = some res) : Met l yX9_field_ (wsO yX9_field_ cX9_field_ 7 (some .int)) rm_X9_field_ (PcZ Ω A (PicM Ω ad A σ) [.ref (ad 0 0), .int a1, .int a2, .int a3]) (Qci (PicM Ω ad A) A res) 0 0 A := by
  refine Met.ofV (by decide) rfl (fun Γ hΓ X => ?_)
  have X : Fx Γ Ω A cX9_field_ 7 "MappingTextsModel" rm_X9_field_ (some .int) := X
  unfold f_X9_field_ at h
  show V Γ (0, 0) _ A 7 _ 0 [(0, .ref (ad 0 0)), (1, .int a1), (2, .int a2), (3, .int a3)] []
  refine tv_aload_n X dX9_field__0 rfl 0 rfl ?_
  refine tv_iload_n X dX9_field__1 rfl 1 rfl ?_
  refine tv_iload_n X dX9_field__2 rfl 2 rfl ?_
  obtain ⟨s1, x2, hs1, h⟩ := cl_some h
  refine tv_callVi (st := []) X (c_X9_isField Γ.2.1 Ω ad A σ a1 a2 hs1) ⟨gw_6_119, gw_6_116, gw_1_10, q_X9_isField, rfl, rfl, ⟨Nat.le_of_ble_eq_true rfl, Nat.le_of_ble_eq_true rfl⟩⟩ gw_6_118 gw_p_78 (fun H _ hz _ => PP.recv (f := 0) (i := 0) X.2.1 hz.1 (show 0 < 1 by omega) rfl rfl) rfl rfl (Nat.le_of_ble_eq_true rfl) dX9_field__3 ?_
  refine tv_if_eq X 19 dX9_field__6 (by decide) h (fun h => ?_) (fun h => ?_)
  · refine tv_iconst X (-1) dX9_field__19 (by decide) ?_
    exact tv_iret X dX9_field__20 h
  · refine tv_iload_n X dX9_field__9 rfl 3 rfl ?_
    refine tv_iconst X 0 dX9_field__10 (by decide) ?_
    refine tv_bipush X 9 dX9_field__11 (by decide) ?_
    obtain ⟨s3, x4, hs3, h⟩ := cl_some h
    refine tv_callSi (st := []) X (c_X9_in Γ.2.1 Ω ad A s1 a3 0 9 hs3) ⟨gw_5_187, gw_5_185, gw_1_10, q_X9_in, rfl, rfl, ⟨Nat.le_of_ble_eq_true rfl, Nat.le_of_ble_eq_true rfl⟩⟩ gw_5_186 rfl rfl (Nat.le_of_ble_eq_true rfl) dX9_field__13 ?_
    refine tv_if_ne X 21 dX9_field__16 (by decide) h (fun h => ?_) (fun h => ?_)
    · refine tv_bipush X 40 dX9_field__21 (by decide) ?_
      refine tv_iload_n X dX9_field__23 rfl 1 rfl ?_
      refine tv_imul X dX9_field__24 ?_
      refine tv_iload_n X dX9_field__25 rfl 2 rfl ?_
      refine tv_iadd X dX9_field__26 ?_
      refine tv_istore X dX9_field__27 (by decide) [(4, .int ((40 * a1) + a2)), (0, .ref (ad 0 0)), (1, .int a1), (2, .int a2), (3, .int a3)] rfl ?_
      refine tv_iconst X 0 dX9_field__29 (by decide) ?_
      refine tv_istore X dX9_field__30 (by decide) [(5, .int 0), (4, .int ((40 * a1) + a2)), (0, .ref (ad 0 0)), (1, .int a1), (2, .int a2), (3, .int a3)] rfl ?_
      refine tv_iload_n X dX9_field__32 rfl 5 rfl ?_
      refine tv_nm h (fun x5 h => ?_)
      by_cases c33_0 : x5 = 0
      · rw [if_pos c33_0] at h
        refine tv_tableIn 84 X dX9_field__33 (by rw [c33_0]; decide) (by rw [c33_0]; decide) (by rw [c33_0]; rfl) (by decide) ?_
        refine tv_aload_n X dX9_field__84 rfl 2 rfl ?_
        refine gM8_16 X (by omega) gw_5_20 dX9_field__85 ?_
        refine tv_iload X dX9_field__88 1 rfl ?_
        refine iaM (n := 320) X (by omega) rfl dX9_field__90 h (fun j6 hj6 h => ?_)
        exact tv_iret X dX9_field__91 h
      rw [if_neg c33_0] at h
      by_cases c33_1 : x5 = 1
      · rw [if_pos c33_1] at h
        refine tv_tableIn 92 X dX9_field__33 (by rw [c33_1]; decide) (by rw [c33_1]; decide) (by rw [c33_1]; rfl) (by decide) ?_
        refine tv_aload_n X dX9_field__92 rfl 2 rfl ?_
        refine gM8_17 X (by omega) gw_5_21 dX9_field__93 ?_
        refine tv_iload X dX9_field__96 1 rfl ?_
        refine iaM (n := 320) X (by omega) rfl dX9_field__98 h (fun j7 hj7 h => ?_)
        exact tv_iret X dX9_field__99 h
      rw [if_neg c33_1] at h
      by_cases c33_2 : x5 = 2
      · rw [if_pos c33_2] at h
        refine tv_tableIn 100 X dX9_field__33 (by rw [c33_2]; decide) (by rw [c33_2]; decide) (by rw [c33_2]; rfl) (by decide) ?_
        refine tv_aload_n X dX9_field__100 rfl 2 rfl ?_
        refine gM8_18 X (by omega) gw_5_22 dX9_field__101 ?_
        refine tv_iload X dX9_field__104 1 rfl ?_
        refine iaM (n := 320) X (by omega) rfl dX9_field__106 h (fun j8 hj8 h => ?_)
        exact tv_iret X dX9_field__107 h
      rw [if_neg c33_2] at h
      by_cases c33_3 : x5 = 3
      · rw [if_pos c33_3] at h
        refine tv_tableIn 108 X dX9_field__33 (by rw [c33_3]; decide) (by rw [c33_3]; decide) (by rw [c33_3]; rfl) (by decide) ?_
        refine tv_aload_n X dX9_field__108 rfl 2 rfl ?_
        refine gM8_19 X (by omega) gw_5_23 dX9_field__109 ?_
        refine tv_iload X dX9_field__112 1 rfl ?_
        refine iaM (n := 320) X (by omega) rfl dX9_field__114 h (fun j9 hj9 h => ?_)
        exact tv_iret X dX9_field__115 h
      rw [if_neg c33_3] at h
      by_cases c33_4 : x5 = 4
      · rw [if_pos c33_4] at h
        refine tv_tableIn 116 X dX9_field__33 (by rw [c33_4]; decide) (by rw [c33_4]; decide) (by rw [c33_4]; rfl) (by decide) ?_
        refine tv_aload_n X dX9_field__116 rfl 2 rfl ?_
        refine gM8_20 X (by omega) gw_5_24 dX9_field__117 ?_
        refine tv_iload X dX9_field__120 1 rfl ?_
        refine iaM (n := 320) X (by omega) rfl dX9_field__122 h (fun j10 hj10 h => ?_)
        exact tv_iret X dX9_field__123 h
      rw [if_neg c33_4] at h
      by_cases c33_5 : x5 = 5
      · rw [if_pos c33_5] at h
        refine tv_tableIn 124 X dX9_field__33 (by rw [c33_5]; decide) (by rw [c33_5]; decide) (by rw [c33_5]; rfl) (by decide) ?_
        refine tv_aload_n X dX9_field__124 rfl 2 rfl ?_
        refine gM8_23 X (by omega) gw_5_27 dX9_field__125 ?_
        refine tv_iload X dX9_field__128 1 rfl ?_
        refine iaM (n := 320) X (by omega) rfl dX9_field__130 h (fun j11 hj11 h => ?_)
        exact tv_iret X dX9_field__131 h
      rw [if_neg c33_5] at h
      by_cases c33_6 : x5 = 6
      · rw [if_pos c33_6] at h
        refine tv_tableIn 132 X dX9_field__33 (by rw [c33_6]; decide) (by rw [c33_6]; decide) (by rw [c33_6]; rfl) (by decide) ?_
        refine tv_iconst X 0 dX9_field__132 (by decide) ?_
        refine tv_istore X dX9_field__133 (by decide) [(6, .int 0), (5, .int 0), (4, .int ((40 * a1) + a2)), (0, .ref (ad 0 0)), (1, .int a1), (2, .int a2), (3, .int a3)] rfl ?_
        refine V.pick [3, 4, 5, 1, 0] rfl ?_
        exact l_X9_field__135 X fl s3 a1 a2 0 0 h
      rw [if_neg c33_6] at h
      by_cases c33_7 : x5 = 7
      · rw [if_pos c33_7] at h
        refine tv_tableIn 181 X dX9_field__33 (by rw [c33_7]; decide) (by rw [c33_7]; decide) (by rw [c33_7]; rfl) (by decide) ?_
        refine tv_aload_n X dX9_field__181 rfl 2 rfl ?_
        refine tv_iload_n X dX9_field__182 rfl 3 rfl ?_
        refine tv_iload_n X dX9_field__183 rfl 4 rfl ?_
        refine tv_aload_n X dX9_field__184 rfl 2 rfl ?_
        refine gM8_49 X (by omega) gw_5_53 dX9_field__185 ?_
        obtain ⟨s12, x13, hs12, h⟩ := cl_some h
        refine tv_callVi (st := []) X (c_X9_spell Γ.2.1 Ω ad A s3 a1 a2 7 (by omega) hs12) ⟨gw_6_123, gw_6_120, gw_1_10, q_X9_spell, rfl, rfl, ⟨Nat.le_of_ble_eq_true rfl, Nat.le_of_ble_eq_true rfl⟩⟩ gw_6_122 gw_p_79 (fun H _ hz _ => PP.recv (f := 0) (i := 0) X.2.1 hz.1 (show 0 < 1 by omega) rfl rfl) rfl rfl (Nat.le_of_ble_eq_true rfl) dX9_field__188 ?_
        exact tv_iret X dX9_field__191 h
      rw [if_neg c33_7] at h
      by_cases c33_8 : x5 = 8
      · rw [if_pos c33_8] at h
        refine tv_tableIn 192 X dX9_field__33 (by rw [c33_8]; decide) (by rw [c33_8]; decide) (by rw [c33_8]; rfl) (by decide) ?_
        refine tv_aload_n X dX9_field__192 rfl 2 rfl ?_
        refine gM8_21 X (by omega) gw_5_25 dX9_field__193 ?_
        refine tv_iload X dX9_field__196 1 rfl ?_
        refine iaM (n := 320) X (by omega) rfl dX9_field__198 h (fun j14 hj14 h => ?_)
        exact tv_iret X dX9_field__199 h
      rw [if_neg c33_8] at h
      have zc33_0 := ne_toInt 0 c33_0 (by decide)
      have zc33_1 := ne_toInt 1 c33_1 (by decide)
      have zc33_2 := ne_toInt 2 c33_2 (by decide)
      have zc33_3 := ne_toInt 3 c33_3 (by decide)
      have zc33_4 := ne_toInt 4 c33_4 (by decide)
      have zc33_5 := ne_toInt 5 c33_5 (by decide)
      have zc33_6 := ne_toInt 6 c33_6 (by decide)
      have zc33_7 := ne_toInt 7 c33_7 (by decide)
      have zc33_8 := ne_toInt 8 c33_8 (by decide)
      refine tv_tableOut 200 X dX9_field__33 (by omega) (by decide) ?_
      refine tv_iload_n X dX9_field__200 rfl 4 rfl ?_
      refine tv_istore X dX9_field__201 (by decide) [(6, .int a2), (5, .int 0), (4, .int ((40 * a1) + a2)), (0, .ref (ad 0 0)), (1, .int a1), (2, .int a2), (3, .int a3)] rfl ?_
      refine V.pick [3, 4, 2, 1, 0] rfl ?_
      exact l_X9_field__203 X fl s3 a1 ((40 * a1) + a2) 0 a2 h
    · refine tv_iconst X (-1) dX9_field__19 (by decide) ?_
      exact tv_iret X dX9_field__20 h
set_option maxHeartbeats 4000000 in
set_option maxRecDepth 100000 in
theorem c_X9_letter (l : Launch) (Ω : Wd) (ad : Nat → Nat → Nat) (A : Nat → Prop) (σ : St) (a1 : Int32) (a2 : Int32) (a3 : Int32) {res : St × Int32} (h : f_X9_letter σ a1 a2 a3 = some res) : Met l yX9_letter (wsO yX9_letter cX9_letter 4 (some .int)) rm_X9_letter (PcZ Ω A (PicM Ω ad A σ) [.ref (ad 0 0), .int a1, .int a2, .int a3]) (Qci (PicM Ω ad A) A res) 0 0 A := by
  refine Met.ofV (by decide) rfl (fun Γ hΓ X => ?_)
  have X : Fx Γ Ω A cX9_letter 4 "MappingTextsModel" rm_X9_letter (some .int) := X
  unfold f_X9_letter at h
  show V Γ (0, 0) _ A 4 _ 0 [(0, .ref (ad 0 0)), (1, .int a1), (2, .int a2), (3, .int a3)] []
  refine tv_aload_n X dX9_letter_0 rfl 0 rfl ?_
  refine tv_iload_n X dX9_letter_1 rfl 1 rfl ?_
  refine tv_iload_n X dX9_letter_2 rfl 2 rfl ?_
  obtain ⟨s1, x2, hs1, h⟩ := cl_some h
  refine tv_callVi (st := []) X (c_X9_isField Γ.2.1 Ω ad A σ a1 a2 hs1) ⟨gw_6_119, gw_6_116, gw_1_10, q_X9_isField, rfl, rfl, ⟨Nat.le_of_ble_eq_true rfl, Nat.le_of_ble_eq_true rfl⟩⟩ gw_6_118 gw_p_78 (fun H _ hz _ => PP.recv (f := 0) (i := 0) X.2.1 hz.1 (show 0 < 1 by omega) rfl rfl) rfl rfl (Nat.le_of_ble_eq_true rfl) dX9_letter_3 ?_
  refine tv_if_eq X 29 dX9_letter_6 (by decide) h (fun h => ?_) (fun h => ?_)
  · refine tv_iconst X (-1) dX9_letter_29 (by decide) ?_
    exact tv_iret X dX9_letter_30 h
  · refine tv_iload_n X dX9_letter_9 rfl 3 rfl ?_
    refine tv_iconst X 0 dX9_letter_10 (by decide) ?_
    refine tv_aload_n X dX9_letter_11 rfl 0 rfl ?_
    refine tv_iload_n X dX9_letter_12 rfl 1 rfl ?_
    refine tv_iload_n X dX9_letter_13 rfl 2 rfl ?_
    refine tv_aload_n X dX9_letter_14 rfl 0 rfl ?_
    refine gM8_49 X (by omega) gw_5_53 dX9_letter_15 ?_
    obtain ⟨s3, x4, hs3, h⟩ := cl_some h
    refine tv_callVi (st := [.int 0, .int a3]) X (c_X9_spell Γ.2.1 Ω ad A s1 a1 a2 7 (by omega) hs3) ⟨gw_6_123, gw_6_120, gw_1_10, q_X9_spell, rfl, rfl, ⟨Nat.le_of_ble_eq_true rfl, Nat.le_of_ble_eq_true rfl⟩⟩ gw_6_122 gw_p_79 (fun H _ hz _ => PP.recv (f := 0) (i := 0) X.2.1 hz.1 (show 0 < 1 by omega) rfl rfl) rfl rfl (Nat.le_of_ble_eq_true rfl) dX9_letter_18 ?_
    refine tv_iconst X 1 dX9_letter_21 (by decide) ?_
    refine tv_isub X dX9_letter_22 ?_
    obtain ⟨s5, x6, hs5, h⟩ := cl_some h
    refine tv_callSi (st := []) X (c_X9_in Γ.2.1 Ω ad A s3 a3 0 (x4 - 1) hs5) ⟨gw_5_187, gw_5_185, gw_1_10, q_X9_in, rfl, rfl, ⟨Nat.le_of_ble_eq_true rfl, Nat.le_of_ble_eq_true rfl⟩⟩ gw_5_186 rfl rfl (Nat.le_of_ble_eq_true rfl) dX9_letter_23 ?_
    refine tv_if_ne X 31 dX9_letter_26 (by decide) h (fun h => ?_) (fun h => ?_)
    · refine tv_aload_n X dX9_letter_31 rfl 0 rfl ?_
      refine gM8_49 X (by omega) gw_5_53 dX9_letter_32 ?_
      refine tv_iload_n X dX9_letter_35 rfl 3 rfl ?_
      refine baM (n := 128) X (by omega) rfl dX9_letter_36 h (fun j7 hj7 h => ?_)
      exact tv_iret X dX9_letter_37 h
    · refine tv_iconst X (-1) dX9_letter_29 (by decide) ?_
      exact tv_iret X dX9_letter_30 h
set_option maxHeartbeats 4000000 in
set_option maxRecDepth 100000 in
theorem c_X9_leaf (l : Launch) (Ω : Wd) (ad : Nat → Nat → Nat) (A : Nat → Prop) (σ : St) (a1 : Int32) (a2 : Int32) {res : St × Int32} (h : f_X9_leaf σ a1 a2 = some res) : Met l yX9_leaf (wsO yX9_leaf cX9_leaf 4 (some .int)) rm_X9_leaf (PcZ Ω A (PicM Ω ad A σ) [.ref (ad 0 0), .int a1, .int a2]) (Qci (PicM Ω ad A) A res) 0 0 A := by
  refine Met.ofV (by decide) rfl (fun Γ hΓ X => ?_)
  have X : Fx Γ Ω A cX9_leaf 4 "MappingTextsModel" rm_X9_leaf (some .int) := X
  unfold f_X9_leaf at h
  show V Γ (0, 0) _ A 4 _ 0 [(0, .ref (ad 0 0)), (1, .int a1), (2, .int a2)] []
  refine tv_aload_n X dX9_leaf_0 rfl 0 rfl ?_
  refine tv_iload_n X dX9_leaf_1 rfl 1 rfl ?_
  refine tv_iload_n X dX9_leaf_2 rfl 2 rfl ?_
  obtain ⟨s1, x2, hs1, h⟩ := cl_some h
  refine tv_callVi (st := []) X (c_X9_isField Γ.2.1 Ω ad A σ a1 a2 hs1) ⟨gw_6_119, gw_6_116, gw_1_10, q_X9_isField, rfl, rfl, ⟨Nat.le_of_ble_eq_true rfl, Nat.le_of_ble_eq_true rfl⟩⟩ gw_6_118 gw_p_78 (fun H _ hz _ => PP.recv (f := 0) (i := 0) X.2.1 hz.1 (show 0 < 1 by omega) rfl rfl) rfl rfl (Nat.le_of_ble_eq_true rfl) dX9_leaf_3 ?_
  refine tv_if_ne X 11 dX9_leaf_6 (by decide) h (fun h => ?_) (fun h => ?_)
  · refine tv_bipush X 40 dX9_leaf_11 (by decide) ?_
    refine tv_iload_n X dX9_leaf_13 rfl 1 rfl ?_
    refine tv_imul X dX9_leaf_14 ?_
    refine tv_iload_n X dX9_leaf_15 rfl 2 rfl ?_
    refine tv_iadd X dX9_leaf_16 ?_
    refine tv_istore_n X dX9_leaf_17 rfl (by decide) [(3, .int ((40 * a1) + a2)), (0, .ref (ad 0 0)), (1, .int a1), (2, .int a2)] rfl ?_
    refine tv_aload_n X dX9_leaf_18 rfl 1 rfl ?_
    refine gM8_16 X (by omega) gw_5_20 dX9_leaf_19 ?_
    refine tv_iload_n X dX9_leaf_22 rfl 0 rfl ?_
    refine iaM (n := 320) X (by omega) rfl dX9_leaf_23 h (fun j3 hj3 h => ?_)
    refine tv_iconst X 4 dX9_leaf_24 (by decide) ?_
    refine tv_icmp_gt X 32 dX9_leaf_25 (by decide) h (fun h => ?_) (fun h => ?_)
    · refine tv_aload_n X dX9_leaf_32 rfl 1 rfl ?_
      refine gM8_16 X (by omega) gw_5_20 dX9_leaf_33 ?_
      refine tv_iload_n X dX9_leaf_36 rfl 0 rfl ?_
      refine iaM (n := 320) X (by omega) rfl dX9_leaf_37 h (fun j4 hj4 h => ?_)
      refine tv_bipush X 7 dX9_leaf_38 (by decide) ?_
      refine tv_icmp_ne X 52 dX9_leaf_40 (by decide) h (fun h => ?_) (fun h => ?_)
      · refine tv_bipush X (-2) dX9_leaf_52 (by decide) ?_
        exact tv_iret X dX9_leaf_54 h
      · refine tv_aload_n X dX9_leaf_43 rfl 1 rfl ?_
        refine gM8_20 X (by omega) gw_5_24 dX9_leaf_44 ?_
        refine tv_iload_n X dX9_leaf_47 rfl 0 rfl ?_
        refine iaM (n := 320) X (by omega) rfl dX9_leaf_48 h (fun j5 hj5 h => ?_)
        refine tv_goto X 54 dX9_leaf_49 (by decide) ?_
        exact tv_iret X dX9_leaf_54 h
    · refine tv_iload_n X dX9_leaf_28 rfl 3 rfl ?_
      refine tv_goto X 54 dX9_leaf_29 (by decide) ?_
      exact tv_iret X dX9_leaf_54 h
  · refine tv_iconst X (-1) dX9_leaf_9 (by decide) ?_
    exact tv_iret X dX9_leaf_10 h
set_option maxHeartbeats 4000000 in
set_option maxRecDepth 100000 in
theorem c_X9_put (l : Launch) (Ω : Wd) (ad : Nat → Nat → Nat) (A : Nat → Prop) (σ : St) (a1 : Int32) {res : St × Unit} (h : f_X9_put σ a1 = some res) : Met l yX9_put (wsO yX9_put cX9_put 2 none) rm_X9_put (PcZ Ω A (PicM Ω ad A σ) [.ref (ad 0 0), .int a1]) (Qcv (PicM Ω ad A) A res) 0 0 A := by
  refine Met.ofV (by decide) rfl (fun Γ hΓ X => ?_)
  have X : Fx Γ Ω A cX9_put 2 "MappingTextsModel" rm_X9_put none := X
  unfold f_X9_put at h
  show V Γ (0, 0) _ A 2 _ 0 [(0, .ref (ad 0 0)), (1, .int a1)] []
  refine tv_aload_n X dX9_put_0 rfl 0 rfl ?_
  refine gM8_7 X (by omega) gw_5_11 dX9_put_1 ?_
  refine tv_aload_n X dX9_put_4 rfl 0 rfl ?_
  refine gM8_8 X (by omega) gw_5_12 dX9_put_5 ?_
  refine tv_iload_n X dX9_put_8 rfl 1 rfl ?_
  refine tv_i2b X dX9_put_9 ?_
  refine bsM (n := 20000) X (by omega) rfl dX9_put_10 h (fun j1 hj1 h => ?_)
  refine tv_ns h (fun s2 h => ?_)
  refine tv_aload_n X dX9_put_11 rfl 0 rfl ?_
  refine tv_dup X dX9_put_12 rfl ?_
  refine gM8_8 X (by omega) gw_5_12 dX9_put_13 ?_
  refine tv_iconst X 1 dX9_put_16 (by decide) ?_
  refine tv_iadd X dX9_put_17 ?_
  refine pM8_8 X (by omega) gw_5_12 dX9_put_18 ?_
  refine tv_ns h (fun s3 h => ?_)
  exact tv_vret X dX9_put_21 h
set_option maxHeartbeats 4000000 in
set_option maxRecDepth 100000 in
theorem l_X9_putWord_28 {Γ : Cx} {Ω : Wd} {ad : Nat → Nat → Nat} {A : Nat → Prop} {res : St × Unit} (X : Fx Γ Ω A cX9_putWord 5 "MappingTextsModel" rm_X9_putWord none) {k3 : St → Int64 → Int32 → Option (St × Unit)} (hk3 : ∀ (σ : St) (v1 : Int64) (v3 : Int32), k3 σ v1 v3 = some res → V Γ (0, 0) (Qe Γ (0, 0) A (Qcv (PicM Ω ad A) A res)) A 5 (PicM Ω ad A σ) 3 [(0, .ref (ad 0 0)), (1, .long v1), (3, .int v3)] []) (σ : St) (v1 : Int64) (v3 : Int32) (h : f_X9_putWord_28 k3 σ v1 v3 = some res) : V Γ (0, 0) (Qe Γ (0, 0) A (Qcv (PicM Ω ad A) A res)) A 5 (PicM Ω ad A σ) 28 [(0, .ref (ad 0 0)), (1, .long v1), (3, .int v3)] [] := by
  unfold f_X9_putWord_28 at h
  refine tv_iinc X (v3 + (-8)) dX9_putWord_28 2 rfl rfl (by decide) [(3, .int (v3 + (-8))), (0, .ref (ad 0 0)), (1, .long v1)] rfl ?_
  refine tv_goto X 3 dX9_putWord_31 (by decide) ?_
  refine V.pick [1, 2, 0] rfl ?_
  exact hk3 σ v1 (v3 + (-8)) h
set_option maxHeartbeats 4000000 in
set_option maxRecDepth 100000 in
theorem l_X9_putWord_3 {Γ : Cx} {Ω : Wd} {ad : Nat → Nat → Nat} {A : Nat → Prop} {res : St × Unit} (X : Fx Γ Ω A cX9_putWord 5 "MappingTextsModel" rm_X9_putWord none) : ∀ (n : Nat) (σ : St) (v1 : Int64) (v3 : Int32), f_X9_putWord_3 n σ v1 v3 = some res → V Γ (0, 0) (Qe Γ (0, 0) A (Qcv (PicM Ω ad A) A res)) A 5 (PicM Ω ad A σ) 3 [(0, .ref (ad 0 0)), (1, .long v1), (3, .int v3)] [] := by
  intro n
  induction n with
  | zero =>
    intro σ v1 v3 h
    cases (show none = some res from h)
  | succ n ih =>
    intro σ v1 v3 h
    rw [f_X9_putWord_3] at h
    refine tv_iload_n X dX9_putWord_3 rfl 2 rfl ?_
    refine tv_if_lt X 34 dX9_putWord_4 (by decide) h (fun h => ?_) (fun h => ?_)
    · exact tv_vret X dX9_putWord_34 h
    · refine tv_lload_n X dX9_putWord_7 rfl 1 rfl ?_
      refine tv_iload_n X dX9_putWord_8 rfl 2 rfl ?_
      refine tv_lshr X dX9_putWord_9 ?_
      refine tv_ldc2 X 255 gw_6_148 dX9_putWord_10 ?_
      refine tv_land X dX9_putWord_13 ?_
      refine tv_l2i X dX9_putWord_14 ?_
      refine tv_nm h (fun x1 h => ?_)
      refine tv_istore X dX9_putWord_15 (by decide) [(4, .int x1), (0, .ref (ad 0 0)), (1, .long v1), (3, .int v3)] rfl ?_
      refine tv_iload X dX9_putWord_17 0 rfl ?_
      refine tv_if_eq X 28 dX9_putWord_19 (by decide) h (fun h => ?_) (fun h => ?_)
      · refine V.pick [1, 2, 3] rfl ?_
        exact l_X9_putWord_28 X ih σ v1 v3 h
      · refine tv_aload_n X dX9_putWord_22 rfl 1 rfl ?_
        refine tv_iload X dX9_putWord_23 0 rfl ?_
        obtain ⟨s2, _u25, hs2, h⟩ := cl_some h
        refine tv_callVv (st := []) X (c_X9_put Γ.2.1 Ω ad A σ x1 hs2) ⟨gw_6_143, gw_6_140, gw_1_10, q_X9_put, rfl, rfl, ⟨Nat.le_of_ble_eq_true rfl, Nat.le_of_ble_eq_true rfl⟩⟩ gw_6_142 gw_p_81 (fun H _ hz _ => PP.recv (f := 0) (i := 0) X.2.1 hz.1 (show 0 < 1 by omega) rfl rfl) rfl rfl (Nat.le_of_ble_eq_true rfl) dX9_putWord_25 ?_
        refine V.pick [1, 2, 3] rfl ?_
        exact l_X9_putWord_28 X ih s2 v1 v3 h
set_option maxHeartbeats 4000000 in
set_option maxRecDepth 100000 in
theorem c_X9_putWord (l : Launch) (Ω : Wd) (ad : Nat → Nat → Nat) (A : Nat → Prop) (σ : St) (a1 : Int64) {res : St × Unit} (h : f_X9_putWord σ a1 = some res) : Met l yX9_putWord (wsO yX9_putWord cX9_putWord 5 none) rm_X9_putWord (PcZ Ω A (PicM Ω ad A σ) [.ref (ad 0 0), .long a1]) (Qcv (PicM Ω ad A) A res) 0 0 A := by
  refine Met.ofV (by decide) rfl (fun Γ hΓ X => ?_)
  have X : Fx Γ Ω A cX9_putWord 5 "MappingTextsModel" rm_X9_putWord none := X
  unfold f_X9_putWord at h
  show V Γ (0, 0) _ A 5 _ 0 [(0, .ref (ad 0 0)), (1, .long a1)] []
  refine tv_bipush X 56 dX9_putWord_0 (by decide) ?_
  refine tv_istore_n X dX9_putWord_2 rfl (by decide) [(3, .int 56), (0, .ref (ad 0 0)), (1, .long a1)] rfl ?_
  refine V.pick [1, 2, 0] rfl ?_
  exact l_X9_putWord_3 X fl σ a1 56 h
set_option maxHeartbeats 4000000 in
set_option maxRecDepth 100000 in
theorem l_X9_putBytes_3 {Γ : Cx} {Ω : Wd} {ad : Nat → Nat → Nat} {A : Nat → Prop} {res : St × Unit} (X : Fx Γ Ω A cX9_putBytes 5 "MappingTextsModel" rm_X9_putBytes none) : ∀ (n : Nat) (σ : St) (v1 : Nat) (v2 : Int32) (v3 : Int32) (v4 : Int32) (_ : v1 < 9), f_X9_putBytes_3 n σ v1 v2 v3 v4 = some res → V Γ (0, 0) (Qe Γ (0, 0) A (Qcv (PicM Ω ad A) A res)) A 5 (PicM Ω ad A σ) 3 [(0, .ref (ad 0 0)), (1, .ref (ad 2 v1)), (2, .int v2), (3, .int v3), (4, .int v4)] [] := by
  intro n
  induction n with
  | zero =>
    intro σ v1 v2 v3 v4 bv1 h
    cases (show none = some res from h)
  | succ n ih =>
    intro σ v1 v2 v3 v4 bv1 h
    rw [f_X9_putBytes_3] at h
    refine tv_iload X dX9_putBytes_3 4 rfl ?_
    refine tv_iload_n X dX9_putBytes_5 rfl 3 rfl ?_
    refine tv_icmp_ge X 25 dX9_putBytes_6 (by decide) h (fun h => ?_) (fun h => ?_)
    · exact tv_vret X dX9_putBytes_25 h
    · refine tv_aload_n X dX9_putBytes_9 rfl 0 rfl ?_
      refine tv_aload_n X dX9_putBytes_10 rfl 1 rfl ?_
      refine tv_iload_n X dX9_putBytes_11 rfl 2 rfl ?_
      refine tv_iload X dX9_putBytes_12 4 rfl ?_
      refine tv_iadd X dX9_putBytes_14 ?_
      refine baM (n := (lenMb.getD v1 0)) X (by omega) rfl dX9_putBytes_15 h (fun j1 hj1 h => ?_)
      obtain ⟨s2, _u16, hs2, h⟩ := cl_some h
      refine tv_callVv (st := []) X (c_X9_put Γ.2.1 Ω ad A σ (ga σ 2 v1 j1) hs2) ⟨gw_6_143, gw_6_140, gw_1_10, q_X9_put, rfl, rfl, ⟨Nat.le_of_ble_eq_true rfl, Nat.le_of_ble_eq_true rfl⟩⟩ gw_6_142 gw_p_81 (fun H _ hz _ => PP.recv (f := 0) (i := 0) X.2.1 hz.1 (show 0 < 1 by omega) rfl rfl) rfl rfl (Nat.le_of_ble_eq_true rfl) dX9_putBytes_16 ?_
      refine tv_iinc X (v4 + 1) dX9_putBytes_19 4 rfl rfl (by decide) [(4, .int (v4 + 1)), (0, .ref (ad 0 0)), (1, .ref (ad 2 v1)), (2, .int v2), (3, .int v3)] rfl ?_
      refine tv_goto X 3 dX9_putBytes_22 (by decide) ?_
      refine V.pick [1, 2, 3, 4, 0] rfl ?_
      exact ih s2 v1 v2 v3 (v4 + 1) (by omega) h
set_option maxHeartbeats 4000000 in
set_option maxRecDepth 100000 in
theorem c_X9_putBytes (l : Launch) (Ω : Wd) (ad : Nat → Nat → Nat) (A : Nat → Prop) (σ : St) (a1 : Nat) (a2 : Int32) (a3 : Int32) (ba1 : a1 < 9) {res : St × Unit} (h : f_X9_putBytes σ a1 a2 a3 = some res) : Met l yX9_putBytes (wsO yX9_putBytes cX9_putBytes 5 none) rm_X9_putBytes (PcZ Ω A (PicM Ω ad A σ) [.ref (ad 0 0), .ref (ad 2 a1), .int a2, .int a3]) (Qcv (PicM Ω ad A) A res) 0 0 A := by
  refine Met.ofV (by decide) rfl (fun Γ hΓ X => ?_)
  have X : Fx Γ Ω A cX9_putBytes 5 "MappingTextsModel" rm_X9_putBytes none := X
  unfold f_X9_putBytes at h
  show V Γ (0, 0) _ A 5 _ 0 [(0, .ref (ad 0 0)), (1, .ref (ad 2 a1)), (2, .int a2), (3, .int a3)] []
  refine tv_iconst X 0 dX9_putBytes_0 (by decide) ?_
  refine tv_istore X dX9_putBytes_1 (by decide) [(4, .int 0), (0, .ref (ad 0 0)), (1, .ref (ad 2 a1)), (2, .int a2), (3, .int a3)] rfl ?_
  refine V.pick [1, 2, 3, 4, 0] rfl ?_
  exact l_X9_putBytes_3 X fl σ a1 a2 a3 0 (by omega) h
set_option maxHeartbeats 4000000 in
set_option maxRecDepth 100000 in
theorem l_X9_putNumber_22 {Γ : Cx} {Ω : Wd} {ad : Nat → Nat → Nat} {A : Nat → Prop} {res : St × Unit} (X : Fx Γ Ω A cX9_putNumber 3 "MappingTextsModel" rm_X9_putNumber none) : ∀ (n : Nat) (σ : St) (v1 : Int32) (v2 : Int32), f_X9_putNumber_22 n σ v1 v2 = some res → V Γ (0, 0) (Qe Γ (0, 0) A (Qcv (PicM Ω ad A) A res)) A 3 (PicM Ω ad A σ) 22 [(0, .ref (ad 0 0)), (1, .int v1), (2, .int v2)] [] := by
  intro n
  induction n with
  | zero =>
    intro σ v1 v2 h
    cases (show none = some res from h)
  | succ n ih =>
    intro σ v1 v2 h
    rw [f_X9_putNumber_22] at h
    refine tv_iload_n X dX9_putNumber_22 rfl 2 rfl ?_
    refine tv_if_le X 47 dX9_putNumber_23 (by decide) h (fun h => ?_) (fun h => ?_)
    · exact tv_vret X dX9_putNumber_47 h
    · refine tv_aload_n X dX9_putNumber_26 rfl 0 rfl ?_
      refine tv_bipush X 48 dX9_putNumber_27 (by decide) ?_
      refine tv_iload_n X dX9_putNumber_29 rfl 1 rfl ?_
      refine tv_iload_n X dX9_putNumber_30 rfl 2 rfl ?_
      obtain ⟨hq, h⟩ := cq_some h
      refine tv_idiv X dX9_putNumber_31 (of_decide_eq_true hq) ?_
      refine tv_bipush X 10 dX9_putNumber_32 (by decide) ?_
      refine tv_irem X dX9_putNumber_34 (by decide) ?_
      refine tv_iadd X dX9_putNumber_35 ?_
      obtain ⟨s1, _u36, hs1, h⟩ := cl_some h
      refine tv_callVv (st := []) X (c_X9_put Γ.2.1 Ω ad A σ (48 + ((v1 / v2) - (v1 / v2) / 10 * 10)) hs1) ⟨gw_6_143, gw_6_140, gw_1_10, q_X9_put, rfl, rfl, ⟨Nat.le_of_ble_eq_true rfl, Nat.le_of_ble_eq_true rfl⟩⟩ gw_6_142 gw_p_81 (fun H _ hz _ => PP.recv (f := 0) (i := 0) X.2.1 hz.1 (show 0 < 1 by omega) rfl rfl) rfl rfl (Nat.le_of_ble_eq_true rfl) dX9_putNumber_36 ?_
      refine tv_iload_n X dX9_putNumber_39 rfl 2 rfl ?_
      refine tv_bipush X 10 dX9_putNumber_40 (by decide) ?_
      refine tv_idiv X dX9_putNumber_42 (by decide) ?_
      refine tv_istore_n X dX9_putNumber_43 rfl (by decide) [(2, .int (v2 / 10)), (0, .ref (ad 0 0)), (1, .int v1)] rfl ?_
      refine tv_goto X 22 dX9_putNumber_44 (by decide) ?_
      refine V.pick [1, 2, 0] rfl ?_
      exact ih s1 v1 (v2 / 10) h
set_option maxHeartbeats 4000000 in
set_option maxRecDepth 100000 in
theorem l_X9_putNumber_4 {Γ : Cx} {Ω : Wd} {ad : Nat → Nat → Nat} {A : Nat → Prop} {res : St × Unit} (X : Fx Γ Ω A cX9_putNumber 3 "MappingTextsModel" rm_X9_putNumber none) : ∀ (n : Nat) (σ : St) (v1 : Int32) (v2 : Int32), f_X9_putNumber_4 n σ v1 v2 = some res → V Γ (0, 0) (Qe Γ (0, 0) A (Qcv (PicM Ω ad A) A res)) A 3 (PicM Ω ad A σ) 4 [(0, .ref (ad 0 0)), (1, .int v1), (2, .int v2)] [] := by
  intro n
  induction n with
  | zero =>
    intro σ v1 v2 h
    cases (show none = some res from h)
  | succ n ih =>
    intro σ v1 v2 h
    rw [f_X9_putNumber_4] at h
    refine tv_iload_n X dX9_putNumber_4 rfl 2 rfl ?_
    refine tv_iconst X 1 dX9_putNumber_5 (by decide) ?_
    refine tv_icmp_le X 22 dX9_putNumber_6 (by decide) h (fun h => ?_) (fun h => ?_)
    · exact l_X9_putNumber_22 X fl σ v1 v2 h
    · refine tv_iload_n X dX9_putNumber_9 rfl 1 rfl ?_
      refine tv_iload_n X dX9_putNumber_10 rfl 2 rfl ?_
      refine tv_icmp_ge X 22 dX9_putNumber_11 (by decide) h (fun h => ?_) (fun h => ?_)
      · exact l_X9_putNumber_22 X fl σ v1 v2 h
      · refine tv_iload_n X dX9_putNumber_14 rfl 2 rfl ?_
        refine tv_bipush X 10 dX9_putNumber_15 (by decide) ?_
        refine tv_idiv X dX9_putNumber_17 (by decide) ?_
        refine tv_istore_n X dX9_putNumber_18 rfl (by decide) [(2, .int (v2 / 10)), (0, .ref (ad 0 0)), (1, .int v1)] rfl ?_
        refine tv_goto X 4 dX9_putNumber_19 (by decide) ?_
        refine V.pick [1, 2, 0] rfl ?_
        exact ih σ v1 (v2 / 10) h
set_option maxHeartbeats 4000000 in
set_option maxRecDepth 100000 in
theorem c_X9_putNumber (l : Launch) (Ω : Wd) (ad : Nat → Nat → Nat) (A : Nat → Prop) (σ : St) (a1 : Int32) {res : St × Unit} (h : f_X9_putNumber σ a1 = some res) : Met l yX9_putNumber (wsO yX9_putNumber cX9_putNumber 3 none) rm_X9_putNumber (PcZ Ω A (PicM Ω ad A σ) [.ref (ad 0 0), .int a1]) (Qcv (PicM Ω ad A) A res) 0 0 A := by
  refine Met.ofV (by decide) rfl (fun Γ hΓ X => ?_)
  have X : Fx Γ Ω A cX9_putNumber 3 "MappingTextsModel" rm_X9_putNumber none := X
  unfold f_X9_putNumber at h
  show V Γ (0, 0) _ A 3 _ 0 [(0, .ref (ad 0 0)), (1, .int a1)] []
  refine tv_ldcw X 100000 gw_6_157 dX9_putNumber_0 ?_
  refine tv_istore_n X dX9_putNumber_3 rfl (by decide) [(2, .int 100000), (0, .ref (ad 0 0)), (1, .int a1)] rfl ?_
  refine V.pick [1, 2, 0] rfl ?_
  exact l_X9_putNumber_4 X fl σ a1 100000 h
set_option maxHeartbeats 4000000 in
set_option maxRecDepth 100000 in
theorem c_X9_putPath (l : Launch) (Ω : Wd) (ad : Nat → Nat → Nat) (A : Nat → Prop) (σ : St) (a1 : Int32) (a2 : Int32) {res : St × Unit} (h : f_X9_putPath σ a1 a2 = some res) : Met l yX9_putPath (wsO yX9_putPath cX9_putPath 3 none) rm_X9_putPath (PcZ Ω A (PicM Ω ad A σ) [.ref (ad 0 0), .int a1, .int a2]) (Qcv (PicM Ω ad A) A res) 0 0 A := by
  refine Met.ofV (by decide) rfl (fun Γ hΓ X => ?_)
  have X : Fx Γ Ω A cX9_putPath 3 "MappingTextsModel" rm_X9_putPath none := X
  unfold f_X9_putPath at h
  show V Γ (0, 0) _ A 3 _ 0 [(0, .ref (ad 0 0)), (1, .int a1), (2, .int a2)] []
  refine tv_aload_n X dX9_putPath_0 rfl 0 rfl ?_
  refine tv_aload_n X dX9_putPath_1 rfl 0 rfl ?_
  refine tv_iload_n X dX9_putPath_2 rfl 1 rfl ?_
  refine tv_iload_n X dX9_putPath_3 rfl 2 rfl ?_
  refine tv_aload_n X dX9_putPath_4 rfl 0 rfl ?_
  refine gM8_49 X (by omega) gw_5_53 dX9_putPath_5 ?_
  obtain ⟨s1, x2, hs1, h⟩ := cl_some h
  refine tv_callVi (st := [.ref (ad 0 0)]) X (c_X9_spell Γ.2.1 Ω ad A σ a1 a2 7 (by omega) hs1) ⟨gw_6_123, gw_6_120, gw_1_10, q_X9_spell, rfl, rfl, ⟨Nat.le_of_ble_eq_true rfl, Nat.le_of_ble_eq_true rfl⟩⟩ gw_6_122 gw_p_79 (fun H _ hz _ => PP.recv (f := 0) (i := 0) X.2.1 hz.1 (show 0 < 1 by omega) rfl rfl) rfl rfl (Nat.le_of_ble_eq_true rfl) dX9_putPath_8 ?_
  refine pM8_50 X (by omega) gw_5_54 dX9_putPath_11 ?_
  refine tv_ns h (fun s3 h => ?_)
  refine tv_aload_n X dX9_putPath_14 rfl 0 rfl ?_
  refine tv_aload_n X dX9_putPath_15 rfl 0 rfl ?_
  refine gM8_49 X (by omega) gw_5_53 dX9_putPath_16 ?_
  refine tv_iconst X 0 dX9_putPath_19 (by decide) ?_
  refine tv_aload_n X dX9_putPath_20 rfl 0 rfl ?_
  refine gM8_50 X (by omega) gw_5_54 dX9_putPath_21 ?_
  obtain ⟨s4, _u24, hs4, h⟩ := cl_some h
  refine tv_callVv (st := []) X (c_X9_putBytes Γ.2.1 Ω ad A s3 7 0 (gi s3 850 0) (by omega) hs4) ⟨gw_6_139, gw_6_136, gw_1_10, q_X9_putBytes, rfl, rfl, ⟨Nat.le_of_ble_eq_true rfl, Nat.le_of_ble_eq_true rfl⟩⟩ gw_6_138 gw_p_80 (fun H _ hz _ => PP.recv (f := 0) (i := 0) X.2.1 hz.1 (show 0 < 1 by omega) rfl rfl) rfl rfl (Nat.le_of_ble_eq_true rfl) dX9_putPath_24 ?_
  exact tv_vret X dX9_putPath_27 h
set_option maxHeartbeats 4000000 in
set_option maxRecDepth 100000 in
theorem l_X9_putOptions_122 {Γ : Cx} {Ω : Wd} {ad : Nat → Nat → Nat} {A : Nat → Prop} {res : St × Unit} (X : Fx Γ Ω A cX9_putOptions 5 "MappingTextsModel" rm_X9_putOptions none) {k152 : St → Int32 → Int32 → Int32 → Int32 → Option (St × Unit)} (hk152 : ∀ (σ : St) (v1 : Int32) (v2 : Int32) (v3 : Int32) (v4 : Int32), k152 σ v1 v2 v3 v4 = some res → V Γ (0, 0) (Qe Γ (0, 0) A (Qcv (PicM Ω ad A) A res)) A 5 (PicM Ω ad A σ) 152 [(0, .ref (ad 0 0)), (1, .int v1), (2, .int v2), (3, .int v3), (4, .int v4)] []) (σ : St) (t1 : Int32) (t2 : Int32) (v1 : Int32) (v2 : Int32) (v3 : Int32) (v4 : Int32) (h : f_X9_putOptions_122 k152 σ t1 t2 v1 v2 v3 v4 = some res) : V Γ (0, 0) (Qe Γ (0, 0) A (Qcv (PicM Ω ad A) A res)) A 5 (PicM Ω ad A σ) 122 [(0, .ref (ad 0 0)), (1, .int v1), (2, .int v2), (3, .int v3), (4, .int v4)] [.int t2, .int t1, .ref (ad 0 0)] := by
  unfold f_X9_putOptions_122 at h
  obtain ⟨s13, _u122, hs13, h⟩ := cl_some h
  refine tv_callVv (st := []) X (c_X9_putPath Γ.2.1 Ω ad A σ t1 t2 hs13) ⟨gw_6_161, gw_6_158, gw_1_10, q_X9_putPath, rfl, rfl, ⟨Nat.le_of_ble_eq_true rfl, Nat.le_of_ble_eq_true rfl⟩⟩ gw_6_160 gw_p_85 (fun H _ hz _ => PP.recv (f := 0) (i := 0) X.2.1 hz.1 (show 0 < 1 by omega) rfl rfl) rfl rfl (Nat.le_of_ble_eq_true rfl) dX9_putOptions_122 ?_
  refine tv_goto X 152 dX9_putOptions_125 (by decide) ?_
  exact hk152 s13 v1 v2 v3 v4 h
set_option maxHeartbeats 4000000 in
set_option maxRecDepth 100000 in
theorem l_X9_putOptions_99 {Γ : Cx} {Ω : Wd} {ad : Nat → Nat → Nat} {A : Nat → Prop} {res : St × Unit} (X : Fx Γ Ω A cX9_putOptions 5 "MappingTextsModel" rm_X9_putOptions none) {k152 : St → Int32 → Int32 → Int32 → Int32 → Option (St × Unit)} (hk152 : ∀ (σ : St) (v1 : Int32) (v2 : Int32) (v3 : Int32) (v4 : Int32), k152 σ v1 v2 v3 v4 = some res → V Γ (0, 0) (Qe Γ (0, 0) A (Qcv (PicM Ω ad A) A res)) A 5 (PicM Ω ad A σ) 152 [(0, .ref (ad 0 0)), (1, .int v1), (2, .int v2), (3, .int v3), (4, .int v4)] []) (σ : St) (v1 : Int32) (v2 : Int32) (v3 : Int32) (v4 : Int32) (h : f_X9_putOptions_99 k152 σ v1 v2 v3 v4 = some res) : V Γ (0, 0) (Qe Γ (0, 0) A (Qcv (PicM Ω ad A) A res)) A 5 (PicM Ω ad A σ) 99 [(0, .ref (ad 0 0)), (1, .int v1), (2, .int v2), (3, .int v3), (4, .int v4)] [] := by
  unfold f_X9_putOptions_99 at h
  refine tv_aload_n X dX9_putOptions_99 rfl 0 rfl ?_
  refine tv_iload_n X dX9_putOptions_100 rfl 1 rfl ?_
  refine tv_iload X dX9_putOptions_101 4 rfl ?_
  refine tv_iconst X 4 dX9_putOptions_103 (by decide) ?_
  refine tv_icmp_ne X 116 dX9_putOptions_104 (by decide) h (fun h => ?_) (fun h => ?_)
  · refine tv_aload_n X dX9_putOptions_116 rfl 0 rfl ?_
    refine gM8_20 X (by omega) gw_5_24 dX9_putOptions_117 ?_
    refine tv_iload_n X dX9_putOptions_120 rfl 2 rfl ?_
    refine iaM (n := 320) X (by omega) rfl dX9_putOptions_121 h (fun j11 hj11 h => ?_)
    exact l_X9_putOptions_122 X hk152 σ v1 (ga σ 1 8 j11) v1 v2 v3 v4 h
  · refine tv_aload_n X dX9_putOptions_107 rfl 0 rfl ?_
    refine gM8_19 X (by omega) gw_5_23 dX9_putOptions_108 ?_
    refine tv_iload_n X dX9_putOptions_111 rfl 2 rfl ?_
    refine iaM (n := 320) X (by omega) rfl dX9_putOptions_112 h (fun j12 hj12 h => ?_)
    refine tv_goto X 122 dX9_putOptions_113 (by decide) ?_
    exact l_X9_putOptions_122 X hk152 σ v1 (ga σ 1 7 j12) v1 v2 v3 v4 h
set_option maxHeartbeats 4000000 in
set_option maxRecDepth 100000 in
theorem l_X9_putOptions_67 {Γ : Cx} {Ω : Wd} {ad : Nat → Nat → Nat} {A : Nat → Prop} {res : St × Unit} (X : Fx Γ Ω A cX9_putOptions 5 "MappingTextsModel" rm_X9_putOptions none) {k152 : St → Int32 → Int32 → Int32 → Int32 → Option (St × Unit)} (hk152 : ∀ (σ : St) (v1 : Int32) (v2 : Int32) (v3 : Int32) (v4 : Int32), k152 σ v1 v2 v3 v4 = some res → V Γ (0, 0) (Qe Γ (0, 0) A (Qcv (PicM Ω ad A) A res)) A 5 (PicM Ω ad A σ) 152 [(0, .ref (ad 0 0)), (1, .int v1), (2, .int v2), (3, .int v3), (4, .int v4)] []) (σ : St) (v1 : Int32) (v2 : Int32) (v3 : Int32) (v4 : Int32) (h : f_X9_putOptions_67 k152 σ v1 v2 v3 v4 = some res) : V Γ (0, 0) (Qe Γ (0, 0) A (Qcv (PicM Ω ad A) A res)) A 5 (PicM Ω ad A σ) 67 [(0, .ref (ad 0 0)), (1, .int v1), (2, .int v2), (3, .int v3), (4, .int v4)] [] := by
  unfold f_X9_putOptions_67 at h
  refine tv_iload X dX9_putOptions_67 4 rfl ?_
  refine tv_iconst X 3 dX9_putOptions_69 (by decide) ?_
  refine tv_icmp_ne X 86 dX9_putOptions_70 (by decide) h (fun h => ?_) (fun h => ?_)
  · refine tv_iload X dX9_putOptions_86 4 rfl ?_
    refine tv_iconst X 4 dX9_putOptions_88 (by decide) ?_
    refine tv_icmp_eq X 99 dX9_putOptions_89 (by decide) h (fun h => ?_) (fun h => ?_)
    · exact l_X9_putOptions_99 X hk152 σ v1 v2 v3 v4 h
    · refine tv_iload X dX9_putOptions_92 4 rfl ?_
      refine tv_bipush X 6 dX9_putOptions_94 (by decide) ?_
      refine tv_icmp_ne X 128 dX9_putOptions_96 (by decide) h (fun h => ?_) (fun h => ?_)
      · refine tv_iload X dX9_putOptions_128 4 rfl ?_
        refine tv_iconst X 5 dX9_putOptions_130 (by decide) ?_
        refine tv_icmp_ne X 152 dX9_putOptions_131 (by decide) h (fun h => ?_) (fun h => ?_)
        · exact hk152 σ v1 v2 v3 v4 h
        · refine tv_aload_n X dX9_putOptions_134 rfl 0 rfl ?_
          refine tv_aload_n X dX9_putOptions_135 rfl 0 rfl ?_
          refine gM8_22 X (by omega) gw_5_26 dX9_putOptions_136 ?_
          refine tv_bipush X 12 dX9_putOptions_139 (by decide) ?_
          refine tv_iload_n X dX9_putOptions_141 rfl 2 rfl ?_
          refine tv_imul X dX9_putOptions_142 ?_
          refine tv_aload_n X dX9_putOptions_143 rfl 0 rfl ?_
          refine gM8_21 X (by omega) gw_5_25 dX9_putOptions_144 ?_
          refine tv_iload_n X dX9_putOptions_147 rfl 2 rfl ?_
          refine iaM (n := 320) X (by omega) rfl dX9_putOptions_148 h (fun j7 hj7 h => ?_)
          obtain ⟨s8, _u149, hs8, h⟩ := cl_some h
          refine tv_callVv (st := []) X (c_X9_putBytes Γ.2.1 Ω ad A σ 4 (12 * v2) (ga σ 1 9 j7) (by omega) hs8) ⟨gw_6_139, gw_6_136, gw_1_10, q_X9_putBytes, rfl, rfl, ⟨Nat.le_of_ble_eq_true rfl, Nat.le_of_ble_eq_true rfl⟩⟩ gw_6_138 gw_p_80 (fun H _ hz _ => PP.recv (f := 0) (i := 0) X.2.1 hz.1 (show 0 < 1 by omega) rfl rfl) rfl rfl (Nat.le_of_ble_eq_true rfl) dX9_putOptions_149 ?_
          exact hk152 s8 v1 v2 v3 v4 h
      · exact l_X9_putOptions_99 X hk152 σ v1 v2 v3 v4 h
  · refine tv_aload_n X dX9_putOptions_73 rfl 0 rfl ?_
    refine tv_aload_n X dX9_putOptions_74 rfl 0 rfl ?_
    refine gM8_18 X (by omega) gw_5_22 dX9_putOptions_75 ?_
    refine tv_iload_n X dX9_putOptions_78 rfl 2 rfl ?_
    refine iaM (n := 320) X (by omega) rfl dX9_putOptions_79 h (fun j9 hj9 h => ?_)
    obtain ⟨s10, _u80, hs10, h⟩ := cl_some h
    refine tv_callVv (st := []) X (c_X9_putNumber Γ.2.1 Ω ad A σ (ga σ 1 6 j9) hs10) ⟨gw_6_156, gw_6_153, gw_1_10, q_X9_putNumber, rfl, rfl, ⟨Nat.le_of_ble_eq_true rfl, Nat.le_of_ble_eq_true rfl⟩⟩ gw_6_155 gw_p_84 (fun H _ hz _ => PP.recv (f := 0) (i := 0) X.2.1 hz.1 (show 0 < 1 by omega) rfl rfl) rfl rfl (Nat.le_of_ble_eq_true rfl) dX9_putOptions_80 ?_
    refine tv_goto X 152 dX9_putOptions_83 (by decide) ?_
    exact hk152 s10 v1 v2 v3 v4 h
set_option maxHeartbeats 4000000 in
set_option maxRecDepth 100000 in
theorem l_X9_putOptions_39 {Γ : Cx} {Ω : Wd} {ad : Nat → Nat → Nat} {A : Nat → Prop} {res : St × Unit} (X : Fx Γ Ω A cX9_putOptions 5 "MappingTextsModel" rm_X9_putOptions none) {k152 : St → Int32 → Int32 → Int32 → Int32 → Option (St × Unit)} (hk152 : ∀ (σ : St) (v1 : Int32) (v2 : Int32) (v3 : Int32) (v4 : Int32), k152 σ v1 v2 v3 v4 = some res → V Γ (0, 0) (Qe Γ (0, 0) A (Qcv (PicM Ω ad A) A res)) A 5 (PicM Ω ad A σ) 152 [(0, .ref (ad 0 0)), (1, .int v1), (2, .int v2), (3, .int v3), (4, .int v4)] []) (σ : St) (t1 : Int32) (v1 : Int32) (v2 : Int32) (v4 : Int32) (h : f_X9_putOptions_39 k152 σ t1 v1 v2 v4 = some res) : V Γ (0, 0) (Qe Γ (0, 0) A (Qcv (PicM Ω ad A) A res)) A 5 (PicM Ω ad A σ) 39 [(0, .ref (ad 0 0)), (1, .int v1), (2, .int v2), (4, .int v4)] [.int t1, .ref (ad 0 0)] := by
  unfold f_X9_putOptions_39 at h
  obtain ⟨s3, _u39, hs3, h⟩ := cl_some h
  refine tv_callVv (st := []) X (c_X9_put Γ.2.1 Ω ad A σ t1 hs3) ⟨gw_6_143, gw_6_140, gw_1_10, q_X9_put, rfl, rfl, ⟨Nat.le_of_ble_eq_true rfl, Nat.le_of_ble_eq_true rfl⟩⟩ gw_6_142 gw_p_81 (fun H _ hz _ => PP.recv (f := 0) (i := 0) X.2.1 hz.1 (show 0 < 1 by omega) rfl rfl) rfl rfl (Nat.le_of_ble_eq_true rfl) dX9_putOptions_39 ?_
  refine tv_iconst X 0 dX9_putOptions_42 (by decide) ?_
  refine tv_istore_n X dX9_putOptions_43 rfl (by decide) [(3, .int 0), (0, .ref (ad 0 0)), (1, .int v1), (2, .int v2), (4, .int v4)] rfl ?_
  refine tv_aload_n X dX9_putOptions_44 rfl 1 rfl ?_
  refine tv_aload_n X dX9_putOptions_45 rfl 1 rfl ?_
  refine gM8_1 X (by omega) gw_5_5 dX9_putOptions_46 ?_
  refine tv_iload X dX9_putOptions_49 4 rfl ?_
  refine laM (n := 7) X (by omega) rfl dX9_putOptions_51 h (fun j4 hj4 h => ?_)
  obtain ⟨s5, _u52, hs5, h⟩ := cl_some h
  refine tv_callVv (st := []) X (c_X9_putWord Γ.2.1 Ω ad A s3 (wdM 1 j4) hs5) ⟨gw_6_147, gw_6_144, gw_1_10, q_X9_putWord, rfl, rfl, ⟨Nat.le_of_ble_eq_true rfl, Nat.le_of_ble_eq_true rfl⟩⟩ gw_6_146 gw_p_82 (fun H _ hz _ => PP.recv (f := 0) (i := 0) X.2.1 hz.1 (show 0 < 1 by omega) rfl rfl) rfl rfl (Nat.le_of_ble_eq_true rfl) dX9_putOptions_52 ?_
  refine tv_iload X dX9_putOptions_55 4 rfl ?_
  refine tv_iconst X 2 dX9_putOptions_57 (by decide) ?_
  refine tv_icmp_le X 67 dX9_putOptions_58 (by decide) h (fun h => ?_) (fun h => ?_)
  · refine V.pick [1, 2, 3, 0, 4] rfl ?_
    exact l_X9_putOptions_67 X hk152 s5 v1 v2 0 v4 h
  · refine tv_aload_n X dX9_putOptions_61 rfl 1 rfl ?_
    refine tv_bipush X 61 dX9_putOptions_62 (by decide) ?_
    obtain ⟨s6, _u64, hs6, h⟩ := cl_some h
    refine tv_callVv (st := []) X (c_X9_put Γ.2.1 Ω ad A s5 61 hs6) ⟨gw_6_143, gw_6_140, gw_1_10, q_X9_put, rfl, rfl, ⟨Nat.le_of_ble_eq_true rfl, Nat.le_of_ble_eq_true rfl⟩⟩ gw_6_142 gw_p_81 (fun H _ hz _ => PP.recv (f := 0) (i := 0) X.2.1 hz.1 (show 0 < 1 by omega) rfl rfl) rfl rfl (Nat.le_of_ble_eq_true rfl) dX9_putOptions_64 ?_
    refine V.pick [1, 2, 3, 0, 4] rfl ?_
    exact l_X9_putOptions_67 X hk152 s6 v1 v2 0 v4 h
set_option maxHeartbeats 4000000 in
set_option maxRecDepth 100000 in
theorem l_X9_putOptions_152 {Γ : Cx} {Ω : Wd} {ad : Nat → Nat → Nat} {A : Nat → Prop} {res : St × Unit} (X : Fx Γ Ω A cX9_putOptions 5 "MappingTextsModel" rm_X9_putOptions none) {k5 : St → Int32 → Int32 → Int32 → Int32 → Option (St × Unit)} (hk5 : ∀ (σ : St) (v1 : Int32) (v2 : Int32) (v3 : Int32) (v4 : Int32), k5 σ v1 v2 v3 v4 = some res → V Γ (0, 0) (Qe Γ (0, 0) A (Qcv (PicM Ω ad A) A res)) A 5 (PicM Ω ad A σ) 5 [(0, .ref (ad 0 0)), (1, .int v1), (2, .int v2), (3, .int v3), (4, .int v4)] []) (σ : St) (v1 : Int32) (v2 : Int32) (v3 : Int32) (v4 : Int32) (h : f_X9_putOptions_152 k5 σ v1 v2 v3 v4 = some res) : V Γ (0, 0) (Qe Γ (0, 0) A (Qcv (PicM Ω ad A) A res)) A 5 (PicM Ω ad A σ) 152 [(0, .ref (ad 0 0)), (1, .int v1), (2, .int v2), (3, .int v3), (4, .int v4)] [] := by
  unfold f_X9_putOptions_152 at h
  refine tv_iinc X (v4 + 1) dX9_putOptions_152 4 rfl rfl (by decide) [(4, .int (v4 + 1)), (0, .ref (ad 0 0)), (1, .int v1), (2, .int v2), (3, .int v3)] rfl ?_
  refine tv_goto X 5 dX9_putOptions_155 (by decide) ?_
  refine V.pick [1, 2, 3, 4, 0] rfl ?_
  exact hk5 σ v1 v2 v3 (v4 + 1) h
set_option maxHeartbeats 4000000 in
set_option maxRecDepth 100000 in
theorem l_X9_putOptions_5 {Γ : Cx} {Ω : Wd} {ad : Nat → Nat → Nat} {A : Nat → Prop} {res : St × Unit} (X : Fx Γ Ω A cX9_putOptions 5 "MappingTextsModel" rm_X9_putOptions none) : ∀ (n : Nat) (σ : St) (v1 : Int32) (v2 : Int32) (v3 : Int32) (v4 : Int32), f_X9_putOptions_5 n σ v1 v2 v3 v4 = some res → V Γ (0, 0) (Qe Γ (0, 0) A (Qcv (PicM Ω ad A) A res)) A 5 (PicM Ω ad A σ) 5 [(0, .ref (ad 0 0)), (1, .int v1), (2, .int v2), (3, .int v3), (4, .int v4)] [] := by
  intro n
  induction n with
  | zero =>
    intro σ v1 v2 v3 v4 h
    cases (show none = some res from h)
  | succ n ih =>
    intro σ v1 v2 v3 v4 h
    rw [f_X9_putOptions_5] at h
    refine tv_iload X dX9_putOptions_5 4 rfl ?_
    refine tv_bipush X 7 dX9_putOptions_7 (by decide) ?_
    refine tv_icmp_ge X 158 dX9_putOptions_9 (by decide) h (fun h => ?_) (fun h => ?_)
    · refine tv_iload_n X dX9_putOptions_158 rfl 3 rfl ?_
      refine tv_if_ne X 168 dX9_putOptions_159 (by decide) h (fun h => ?_) (fun h => ?_)
      · exact tv_vret X dX9_putOptions_168 h
      · refine tv_aload_n X dX9_putOptions_162 rfl 0 rfl ?_
        refine tv_bipush X 41 dX9_putOptions_163 (by decide) ?_
        obtain ⟨s1, _u165, hs1, h⟩ := cl_some h
        refine tv_callVv (st := []) X (c_X9_put Γ.2.1 Ω ad A σ 41 hs1) ⟨gw_6_143, gw_6_140, gw_1_10, q_X9_put, rfl, rfl, ⟨Nat.le_of_ble_eq_true rfl, Nat.le_of_ble_eq_true rfl⟩⟩ gw_6_142 gw_p_81 (fun H _ hz _ => PP.recv (f := 0) (i := 0) X.2.1 hz.1 (show 0 < 1 by omega) rfl rfl) rfl rfl (Nat.le_of_ble_eq_true rfl) dX9_putOptions_165 ?_
        exact tv_vret X dX9_putOptions_168 h
    · refine tv_aload_n X dX9_putOptions_12 rfl 0 rfl ?_
      refine gM8_17 X (by omega) gw_5_21 dX9_putOptions_13 ?_
      refine tv_iload_n X dX9_putOptions_16 rfl 2 rfl ?_
      refine iaM (n := 320) X (by omega) rfl dX9_putOptions_17 h (fun j2 hj2 h => ?_)
      refine tv_iload X dX9_putOptions_18 4 rfl ?_
      refine tv_ishr X dX9_putOptions_20 ?_
      refine tv_iconst X 1 dX9_putOptions_21 (by decide) ?_
      refine tv_iand X dX9_putOptions_22 ?_
      refine tv_iconst X 1 dX9_putOptions_23 (by decide) ?_
      refine tv_icmp_ne X 152 dX9_putOptions_24 (by decide) h (fun h => ?_) (fun h => ?_)
      · exact l_X9_putOptions_152 X ih σ v1 v2 v3 v4 h
      · refine tv_aload_n X dX9_putOptions_27 rfl 0 rfl ?_
        refine tv_iload_n X dX9_putOptions_28 rfl 3 rfl ?_
        refine tv_if_eq X 37 dX9_putOptions_29 (by decide) h (fun h => ?_) (fun h => ?_)
        · refine tv_bipush X 44 dX9_putOptions_37 (by decide) ?_
          refine V.pick [0, 1, 2, 4] rfl ?_
          exact l_X9_putOptions_39 X (l_X9_putOptions_152 X ih) σ 44 v1 v2 v4 h
        · refine tv_bipush X 40 dX9_putOptions_32 (by decide) ?_
          refine tv_goto X 39 dX9_putOptions_34 (by decide) ?_
          refine V.pick [0, 1, 2, 4] rfl ?_
          exact l_X9_putOptions_39 X (l_X9_putOptions_152 X ih) σ 40 v1 v2 v4 h
set_option maxHeartbeats 4000000 in
set_option maxRecDepth 100000 in
theorem c_X9_putOptions (l : Launch) (Ω : Wd) (ad : Nat → Nat → Nat) (A : Nat → Prop) (σ : St) (a1 : Int32) (a2 : Int32) {res : St × Unit} (h : f_X9_putOptions σ a1 a2 = some res) : Met l yX9_putOptions (wsO yX9_putOptions cX9_putOptions 5 none) rm_X9_putOptions (PcZ Ω A (PicM Ω ad A σ) [.ref (ad 0 0), .int a1, .int a2]) (Qcv (PicM Ω ad A) A res) 0 0 A := by
  refine Met.ofV (by decide) rfl (fun Γ hΓ X => ?_)
  have X : Fx Γ Ω A cX9_putOptions 5 "MappingTextsModel" rm_X9_putOptions none := X
  unfold f_X9_putOptions at h
  show V Γ (0, 0) _ A 5 _ 0 [(0, .ref (ad 0 0)), (1, .int a1), (2, .int a2)] []
  refine tv_iconst X 1 dX9_putOptions_0 (by decide) ?_
  refine tv_istore_n X dX9_putOptions_1 rfl (by decide) [(3, .int 1), (0, .ref (ad 0 0)), (1, .int a1), (2, .int a2)] rfl ?_
  refine tv_iconst X 0 dX9_putOptions_2 (by decide) ?_
  refine tv_istore X dX9_putOptions_3 (by decide) [(4, .int 0), (3, .int 1), (0, .ref (ad 0 0)), (1, .int a1), (2, .int a2)] rfl ?_
  refine V.pick [2, 3, 4, 1, 0] rfl ?_
  exact l_X9_putOptions_5 X fl σ a1 a2 1 0 h
set_option maxHeartbeats 4000000 in
set_option maxRecDepth 100000 in
theorem l_X9_print_149 {Γ : Cx} {Ω : Wd} {ad : Nat → Nat → Nat} {A : Nat → Prop} {res : St × Int32} (X : Fx Γ Ω A cX9_print 7 "MappingTextsModel" rm_X9_print (some .int)) {k173 : St → Int32 → Int32 → Int32 → Option (St × Int32)} (hk173 : ∀ (σ : St) (v2 : Int32) (v3 : Int32) (v4 : Int32), k173 σ v2 v3 v4 = some res → V Γ (0, 0) (Qe Γ (0, 0) A (Qci (PicM Ω ad A) A res)) A 7 (PicM Ω ad A σ) 173 [(0, .ref (ad 0 0)), (2, .int v2), (3, .int v3), (4, .int v4)] []) : ∀ (n : Nat) (σ : St) (v2 : Int32) (v3 : Int32) (v4 : Int32) (v6 : Int32), f_X9_print_149 k173 n σ v2 v3 v4 v6 = some res → V Γ (0, 0) (Qe Γ (0, 0) A (Qci (PicM Ω ad A) A res)) A 7 (PicM Ω ad A σ) 149 [(0, .ref (ad 0 0)), (2, .int v2), (3, .int v3), (4, .int v4), (6, .int v6)] [] := by
  intro n
  induction n with
  | zero =>
    intro σ v2 v3 v4 v6 h
    cases (show none = some res from h)
  | succ n ih =>
    intro σ v2 v3 v4 v6 h
    rw [f_X9_print_149] at h
    refine tv_iload_n X dX9_print_149 rfl 2 rfl ?_
    refine tv_iload X dX9_print_150 4 rfl ?_
    refine tv_icmp_le X 173 dX9_print_152 (by decide) h (fun h => ?_) (fun h => ?_)
    · refine V.pick [0, 1, 2, 3] rfl ?_
      exact hk173 σ v2 v3 v4 h
    · refine tv_aload_n X dX9_print_155 rfl 0 rfl ?_
      refine tv_bipush X 125 dX9_print_156 (by decide) ?_
      obtain ⟨s32, _u158, hs32, h⟩ := cl_some h
      refine tv_callVv (st := []) X (c_X9_put Γ.2.1 Ω ad A σ 125 hs32) ⟨gw_6_143, gw_6_140, gw_1_10, q_X9_put, rfl, rfl, ⟨Nat.le_of_ble_eq_true rfl, Nat.le_of_ble_eq_true rfl⟩⟩ gw_6_142 gw_p_81 (fun H _ hz _ => PP.recv (f := 0) (i := 0) X.2.1 hz.1 (show 0 < 1 by omega) rfl rfl) rfl rfl (Nat.le_of_ble_eq_true rfl) dX9_print_158 ?_
      refine tv_aload_n X dX9_print_161 rfl 0 rfl ?_
      refine tv_bipush X 59 dX9_print_162 (by decide) ?_
      obtain ⟨s33, _u164, hs33, h⟩ := cl_some h
      refine tv_callVv (st := []) X (c_X9_put Γ.2.1 Ω ad A s32 59 hs33) ⟨gw_6_143, gw_6_140, gw_1_10, q_X9_put, rfl, rfl, ⟨Nat.le_of_ble_eq_true rfl, Nat.le_of_ble_eq_true rfl⟩⟩ gw_6_142 gw_p_81 (fun H _ hz _ => PP.recv (f := 0) (i := 0) X.2.1 hz.1 (show 0 < 1 by omega) rfl rfl) rfl rfl (Nat.le_of_ble_eq_true rfl) dX9_print_164 ?_
      refine tv_iinc X (v3 + (-1)) dX9_print_167 2 rfl rfl (by decide) [(3, .int (v3 + (-1))), (0, .ref (ad 0 0)), (2, .int v2), (4, .int v4), (6, .int v6)] rfl ?_
      refine tv_goto X 149 dX9_print_170 (by decide) ?_
      refine V.pick [1, 2, 0, 3, 4] rfl ?_
      exact ih s33 v2 (v3 + (-1)) v4 v6 h
set_option maxHeartbeats 4000000 in
set_option maxRecDepth 100000 in
theorem l_X9_print_173 {Γ : Cx} {Ω : Wd} {ad : Nat → Nat → Nat} {A : Nat → Prop} {res : St × Int32} (X : Fx Γ Ω A cX9_print 7 "MappingTextsModel" rm_X9_print (some .int)) {k22 : St → Int32 → Int32 → Int32 → Option (St × Int32)} (hk22 : ∀ (σ : St) (v2 : Int32) (v3 : Int32) (v4 : Int32), k22 σ v2 v3 v4 = some res → V Γ (0, 0) (Qe Γ (0, 0) A (Qci (PicM Ω ad A) A res)) A 7 (PicM Ω ad A σ) 22 [(0, .ref (ad 0 0)), (2, .int v2), (3, .int v3), (4, .int v4)] []) (σ : St) (v2 : Int32) (v3 : Int32) (v4 : Int32) (h : f_X9_print_173 k22 σ v2 v3 v4 = some res) : V Γ (0, 0) (Qe Γ (0, 0) A (Qci (PicM Ω ad A) A res)) A 7 (PicM Ω ad A σ) 173 [(0, .ref (ad 0 0)), (2, .int v2), (3, .int v3), (4, .int v4)] [] := by
  unfold f_X9_print_173 at h
  refine tv_iinc X (v4 + 1) dX9_print_173 3 rfl rfl (by decide) [(4, .int (v4 + 1)), (0, .ref (ad 0 0)), (2, .int v2), (3, .int v3)] rfl ?_
  refine tv_goto X 22 dX9_print_176 (by decide) ?_
  refine V.pick [1, 2, 3, 0] rfl ?_
  exact hk22 σ v2 v3 (v4 + 1) h
set_option maxHeartbeats 4000000 in
set_option maxRecDepth 100000 in
theorem l_X9_print_117 {Γ : Cx} {Ω : Wd} {ad : Nat → Nat → Nat} {A : Nat → Prop} {res : St × Int32} (X : Fx Γ Ω A cX9_print 7 "MappingTextsModel" rm_X9_print (some .int)) {k22 : St → Int32 → Int32 → Int32 → Option (St × Int32)} (hk22 : ∀ (σ : St) (v2 : Int32) (v3 : Int32) (v4 : Int32), k22 σ v2 v3 v4 = some res → V Γ (0, 0) (Qe Γ (0, 0) A (Qci (PicM Ω ad A) A res)) A 7 (PicM Ω ad A σ) 22 [(0, .ref (ad 0 0)), (2, .int v2), (3, .int v3), (4, .int v4)] []) (σ : St) (t0 : Int32) (v2 : Int32) (v3 : Int32) (v4 : Int32) (h : f_X9_print_117 k22 σ t0 v2 v3 v4 = some res) : V Γ (0, 0) (Qe Γ (0, 0) A (Qci (PicM Ω ad A) A res)) A 7 (PicM Ω ad A σ) 117 [(0, .ref (ad 0 0)), (2, .int v2), (3, .int v3), (4, .int v4)] [.int t0] := by
  unfold f_X9_print_117 at h
  refine tv_istore X dX9_print_117 (by decide) [(6, .int t0), (0, .ref (ad 0 0)), (2, .int v2), (3, .int v3), (4, .int v4)] rfl ?_
  refine tv_iload X dX9_print_119 0 rfl ?_
  refine tv_aload_n X dX9_print_121 rfl 1 rfl ?_
  refine tv_iload_n X dX9_print_122 rfl 2 rfl ?_
  refine tv_iload X dX9_print_123 4 rfl ?_
  obtain ⟨s15, x16, hs15, h⟩ := cl_some h
  refine tv_callVi (st := [.int t0]) X (c_X9_depthOf Γ.2.1 Ω ad A σ v2 v4 hs15) ⟨gw_6_92, gw_6_89, gw_1_10, q_X9_depthOf, rfl, rfl, ⟨Nat.le_of_ble_eq_true rfl, Nat.le_of_ble_eq_true rfl⟩⟩ gw_6_91 gw_p_73 (fun H _ hz _ => PP.recv (f := 0) (i := 0) X.2.1 hz.1 (show 0 < 1 by omega) rfl rfl) rfl rfl (Nat.le_of_ble_eq_true rfl) dX9_print_125 ?_
  refine tv_icmp_le X 143 dX9_print_128 (by decide) h (fun h => ?_) (fun h => ?_)
  · refine tv_aload_n X dX9_print_143 rfl 1 rfl ?_
    refine tv_bipush X 59 dX9_print_144 (by decide) ?_
    obtain ⟨s17, _u146, hs17, h⟩ := cl_some h
    refine tv_callVv (st := []) X (c_X9_put Γ.2.1 Ω ad A s15 59 hs17) ⟨gw_6_143, gw_6_140, gw_1_10, q_X9_put, rfl, rfl, ⟨Nat.le_of_ble_eq_true rfl, Nat.le_of_ble_eq_true rfl⟩⟩ gw_6_142 gw_p_81 (fun H _ hz _ => PP.recv (f := 0) (i := 0) X.2.1 hz.1 (show 0 < 1 by omega) rfl rfl) rfl rfl (Nat.le_of_ble_eq_true rfl) dX9_print_146 ?_
    refine V.pick [1, 2, 3, 4, 0] rfl ?_
    exact l_X9_print_149 X (l_X9_print_173 X hk22) fl s17 v2 v3 v4 t0 h
  · refine tv_aload_n X dX9_print_131 rfl 1 rfl ?_
    refine tv_bipush X 123 dX9_print_132 (by decide) ?_
    obtain ⟨s18, _u134, hs18, h⟩ := cl_some h
    refine tv_callVv (st := []) X (c_X9_put Γ.2.1 Ω ad A s15 123 hs18) ⟨gw_6_143, gw_6_140, gw_1_10, q_X9_put, rfl, rfl, ⟨Nat.le_of_ble_eq_true rfl, Nat.le_of_ble_eq_true rfl⟩⟩ gw_6_142 gw_p_81 (fun H _ hz _ => PP.recv (f := 0) (i := 0) X.2.1 hz.1 (show 0 < 1 by omega) rfl rfl) rfl rfl (Nat.le_of_ble_eq_true rfl) dX9_print_134 ?_
    refine tv_iinc X (v3 + 1) dX9_print_137 3 rfl rfl (by decide) [(3, .int (v3 + 1)), (6, .int t0), (0, .ref (ad 0 0)), (2, .int v2), (4, .int v4)] rfl ?_
    refine tv_goto X 173 dX9_print_140 (by decide) ?_
    refine V.pick [2, 3, 0, 4] rfl ?_
    exact l_X9_print_173 X hk22 s18 v2 (v3 + 1) v4 h
set_option maxHeartbeats 4000000 in
set_option maxRecDepth 100000 in
theorem l_X9_print_251 {Γ : Cx} {Ω : Wd} {ad : Nat → Nat → Nat} {A : Nat → Prop} {res : St × Int32} (X : Fx Γ Ω A cX9_print 7 "MappingTextsModel" rm_X9_print (some .int)) {k182 : St → Int32 → Int32 → Option (St × Int32)} (hk182 : ∀ (σ : St) (v2 : Int32) (v4 : Int32), k182 σ v2 v4 = some res → V Γ (0, 0) (Qe Γ (0, 0) A (Qci (PicM Ω ad A) A res)) A 7 (PicM Ω ad A σ) 182 [(0, .ref (ad 0 0)), (2, .int v2), (4, .int v4)] []) (σ : St) (v2 : Int32) (v4 : Int32) (v5 : Int32) (h : f_X9_print_251 k182 σ v2 v4 v5 = some res) : V Γ (0, 0) (Qe Γ (0, 0) A (Qci (PicM Ω ad A) A res)) A 7 (PicM Ω ad A σ) 251 [(0, .ref (ad 0 0)), (2, .int v2), (4, .int v4), (5, .int v5)] [] := by
  unfold f_X9_print_251 at h
  refine tv_aload_n X dX9_print_251 rfl 0 rfl ?_
  refine tv_aload_n X dX9_print_252 rfl 0 rfl ?_
  refine gM8_28 X (by omega) gw_5_32 dX9_print_253 ?_
  refine tv_bipush X 12 dX9_print_256 (by decide) ?_
  refine tv_iload X dX9_print_258 3 rfl ?_
  refine tv_imul X dX9_print_260 ?_
  refine tv_aload_n X dX9_print_261 rfl 0 rfl ?_
  refine gM8_27 X (by omega) gw_5_31 dX9_print_262 ?_
  refine tv_iload X dX9_print_265 3 rfl ?_
  refine iaM (n := 64) X (by omega) rfl dX9_print_267 h (fun j34 hj34 h => ?_)
  obtain ⟨s35, _u268, hs35, h⟩ := cl_some h
  refine tv_callVv (st := []) X (c_X9_putBytes Γ.2.1 Ω ad A σ 6 (12 * v5) (ga σ 1 12 j34) (by omega) hs35) ⟨gw_6_139, gw_6_136, gw_1_10, q_X9_putBytes, rfl, rfl, ⟨Nat.le_of_ble_eq_true rfl, Nat.le_of_ble_eq_true rfl⟩⟩ gw_6_138 gw_p_80 (fun H _ hz _ => PP.recv (f := 0) (i := 0) X.2.1 hz.1 (show 0 < 1 by omega) rfl rfl) rfl rfl (Nat.le_of_ble_eq_true rfl) dX9_print_268 ?_
  refine tv_aload_n X dX9_print_271 rfl 0 rfl ?_
  refine tv_bipush X 58 dX9_print_272 (by decide) ?_
  obtain ⟨s36, _u274, hs36, h⟩ := cl_some h
  refine tv_callVv (st := []) X (c_X9_put Γ.2.1 Ω ad A s35 58 hs36) ⟨gw_6_143, gw_6_140, gw_1_10, q_X9_put, rfl, rfl, ⟨Nat.le_of_ble_eq_true rfl, Nat.le_of_ble_eq_true rfl⟩⟩ gw_6_142 gw_p_81 (fun H _ hz _ => PP.recv (f := 0) (i := 0) X.2.1 hz.1 (show 0 < 1 by omega) rfl rfl) rfl rfl (Nat.le_of_ble_eq_true rfl) dX9_print_274 ?_
  refine tv_aload_n X dX9_print_277 rfl 0 rfl ?_
  refine tv_aload_n X dX9_print_278 rfl 0 rfl ?_
  refine gM8_0 X (by omega) gw_5_4 dX9_print_279 ?_
  refine tv_aload_n X dX9_print_282 rfl 0 rfl ?_
  refine gM8_29 X (by omega) gw_5_33 dX9_print_283 ?_
  refine tv_iload X dX9_print_286 3 rfl ?_
  refine iaM (n := 64) X (by omega) rfl dX9_print_288 h (fun j37 hj37 h => ?_)
  refine laM (n := 8) X (by omega) rfl dX9_print_289 h (fun j38 hj38 h => ?_)
  obtain ⟨s39, _u290, hs39, h⟩ := cl_some h
  refine tv_callVv (st := []) X (c_X9_putWord Γ.2.1 Ω ad A s36 (wdM 0 j38) hs39) ⟨gw_6_147, gw_6_144, gw_1_10, q_X9_putWord, rfl, rfl, ⟨Nat.le_of_ble_eq_true rfl, Nat.le_of_ble_eq_true rfl⟩⟩ gw_6_146 gw_p_82 (fun H _ hz _ => PP.recv (f := 0) (i := 0) X.2.1 hz.1 (show 0 < 1 by omega) rfl rfl) rfl rfl (Nat.le_of_ble_eq_true rfl) dX9_print_290 ?_
  refine tv_aload_n X dX9_print_293 rfl 0 rfl ?_
  refine tv_bipush X 59 dX9_print_294 (by decide) ?_
  obtain ⟨s40, _u296, hs40, h⟩ := cl_some h
  refine tv_callVv (st := []) X (c_X9_put Γ.2.1 Ω ad A s39 59 hs40) ⟨gw_6_143, gw_6_140, gw_1_10, q_X9_put, rfl, rfl, ⟨Nat.le_of_ble_eq_true rfl, Nat.le_of_ble_eq_true rfl⟩⟩ gw_6_142 gw_p_81 (fun H _ hz _ => PP.recv (f := 0) (i := 0) X.2.1 hz.1 (show 0 < 1 by omega) rfl rfl) rfl rfl (Nat.le_of_ble_eq_true rfl) dX9_print_296 ?_
  refine tv_iinc X (v4 + 1) dX9_print_299 2 rfl rfl (by decide) [(4, .int (v4 + 1)), (0, .ref (ad 0 0)), (2, .int v2), (5, .int v5)] rfl ?_
  refine tv_goto X 182 dX9_print_302 (by decide) ?_
  refine V.pick [1, 2, 0] rfl ?_
  exact hk182 s40 v2 (v4 + 1) h
set_option maxHeartbeats 4000000 in
set_option maxRecDepth 100000 in
theorem l_X9_print_369 {Γ : Cx} {Ω : Wd} {ad : Nat → Nat → Nat} {A : Nat → Prop} {res : St × Int32} (X : Fx Γ Ω A cX9_print 7 "MappingTextsModel" rm_X9_print (some .int)) : ∀ (n : Nat) (σ : St) (v4 : Int32), f_X9_print_369 n σ v4 = some res → V Γ (0, 0) (Qe Γ (0, 0) A (Qci (PicM Ω ad A) A res)) A 7 (PicM Ω ad A σ) 369 [(0, .ref (ad 0 0)), (4, .int v4)] [] := by
  intro n
  induction n with
  | zero =>
    intro σ v4 h
    cases (show none = some res from h)
  | succ n ih =>
    intro σ v4 h
    rw [f_X9_print_369] at h
    refine tv_iload X dX9_print_369 1 rfl ?_
    refine tv_aload_n X dX9_print_371 rfl 0 rfl ?_
    refine gM8_8 X (by omega) gw_5_12 dX9_print_372 ?_
    refine tv_icmp_ge X 398 dX9_print_375 (by decide) h (fun h => ?_) (fun h => ?_)
    · refine tv_aload_n X dX9_print_398 rfl 0 rfl ?_
      refine gM8_6 X (by omega) gw_5_10 dX9_print_399 ?_
      exact tv_iret X dX9_print_402 h
    · refine tv_aload_n X dX9_print_378 rfl 0 rfl ?_
      refine gM8_5 X (by omega) gw_5_9 dX9_print_379 ?_
      refine tv_iload X dX9_print_382 1 rfl ?_
      refine tv_aload_n X dX9_print_384 rfl 0 rfl ?_
      refine gM8_7 X (by omega) gw_5_11 dX9_print_385 ?_
      refine tv_iload X dX9_print_388 1 rfl ?_
      refine baM (n := 20000) X (by omega) rfl dX9_print_390 h (fun j42 hj42 h => ?_)
      refine bsM (n := 4000) X (by omega) rfl dX9_print_391 h (fun j43 hj43 h => ?_)
      refine tv_ns h (fun s44 h => ?_)
      refine tv_iinc X (v4 + 1) dX9_print_392 1 rfl rfl (by decide) [(4, .int (v4 + 1)), (0, .ref (ad 0 0))] rfl ?_
      refine tv_goto X 369 dX9_print_395 (by decide) ?_
      refine V.pick [1, 0] rfl ?_
      exact ih s44 (v4 + 1) h
set_option maxHeartbeats 4000000 in
set_option maxRecDepth 100000 in
theorem l_X9_print_345 {Γ : Cx} {Ω : Wd} {ad : Nat → Nat → Nat} {A : Nat → Prop} {res : St × Int32} (X : Fx Γ Ω A cX9_print 7 "MappingTextsModel" rm_X9_print (some .int)) (σ : St) (h : f_X9_print_345 σ = some res) : V Γ (0, 0) (Qe Γ (0, 0) A (Qci (PicM Ω ad A) A res)) A 7 (PicM Ω ad A σ) 345 [(0, .ref (ad 0 0))] [] := by
  unfold f_X9_print_345 at h
  refine tv_aload_n X dX9_print_345 rfl 0 rfl ?_
  refine gM8_8 X (by omega) gw_5_12 dX9_print_346 ?_
  refine tv_sipush X 4000 dX9_print_349 (by decide) ?_
  refine tv_icmp_le X 358 dX9_print_352 (by decide) h (fun h => ?_) (fun h => ?_)
  · refine tv_aload_n X dX9_print_358 rfl 0 rfl ?_
    refine tv_aload_n X dX9_print_359 rfl 0 rfl ?_
    refine gM8_8 X (by omega) gw_5_12 dX9_print_360 ?_
    refine pM8_6 X (by omega) gw_5_10 dX9_print_363 ?_
    refine tv_ns h (fun s41 h => ?_)
    refine tv_iconst X 0 dX9_print_366 (by decide) ?_
    refine tv_istore X dX9_print_367 (by decide) [(4, .int 0), (0, .ref (ad 0 0))] rfl ?_
    refine V.pick [1, 0] rfl ?_
    exact l_X9_print_369 X fl s41 0 h
  · refine tv_bipush X (-3) dX9_print_355 (by decide) ?_
    exact tv_iret X dX9_print_357 h
set_option maxHeartbeats 4000000 in
set_option maxRecDepth 100000 in
theorem l_X9_print_182 {Γ : Cx} {Ω : Wd} {ad : Nat → Nat → Nat} {A : Nat → Prop} {res : St × Int32} (X : Fx Γ Ω A cX9_print 7 "MappingTextsModel" rm_X9_print (some .int)) : ∀ (n : Nat) (σ : St) (v2 : Int32) (v4 : Int32), f_X9_print_182 n σ v2 v4 = some res → V Γ (0, 0) (Qe Γ (0, 0) A (Qci (PicM Ω ad A) A res)) A 7 (PicM Ω ad A σ) 182 [(0, .ref (ad 0 0)), (2, .int v2), (4, .int v4)] [] := by
  intro n
  induction n with
  | zero =>
    intro σ v2 v4 h
    cases (show none = some res from h)
  | succ n ih =>
    intro σ v2 v4 h
    rw [f_X9_print_182] at h
    refine tv_iload X dX9_print_182 2 rfl ?_
    refine tv_aload_n X dX9_print_184 rfl 0 rfl ?_
    refine gM8_12 X (by omega) gw_5_16 dX9_print_185 ?_
    refine tv_iload_n X dX9_print_188 rfl 1 rfl ?_
    refine iaM (n := 8) X (by omega) rfl dX9_print_189 h (fun j19 hj19 h => ?_)
    refine tv_icmp_ge X 305 dX9_print_190 (by decide) h (fun h => ?_) (fun h => ?_)
    · refine tv_aload_n X dX9_print_305 rfl 0 rfl ?_
      refine gM8_13 X (by omega) gw_5_17 dX9_print_306 ?_
      refine tv_iload_n X dX9_print_309 rfl 1 rfl ?_
      refine iaM (n := 8) X (by omega) rfl dX9_print_310 h (fun j20 hj20 h => ?_)
      refine tv_bipush X 40 dX9_print_311 (by decide) ?_
      refine tv_icmp_eq X 345 dX9_print_313 (by decide) h (fun h => ?_) (fun h => ?_)
      · refine V.pick [0] rfl ?_
        exact l_X9_print_345 X σ h
      · refine tv_aload_n X dX9_print_316 rfl 0 rfl ?_
        refine tv_ldc2 X 465625246068 gw_5_222 dX9_print_317 ?_
        obtain ⟨s21, _u320, hs21, h⟩ := cl_some h
        refine tv_callVv (st := []) X (c_X9_putWord Γ.2.1 Ω ad A σ (465625246068 : Int64) hs21) ⟨gw_6_147, gw_6_144, gw_1_10, q_X9_putWord, rfl, rfl, ⟨Nat.le_of_ble_eq_true rfl, Nat.le_of_ble_eq_true rfl⟩⟩ gw_6_146 gw_p_82 (fun H _ hz _ => PP.recv (f := 0) (i := 0) X.2.1 hz.1 (show 0 < 1 by omega) rfl rfl) rfl rfl (Nat.le_of_ble_eq_true rfl) dX9_print_320 ?_
        refine tv_aload_n X dX9_print_323 rfl 0 rfl ?_
        refine tv_bipush X 32 dX9_print_324 (by decide) ?_
        obtain ⟨s22, _u326, hs22, h⟩ := cl_some h
        refine tv_callVv (st := []) X (c_X9_put Γ.2.1 Ω ad A s21 32 hs22) ⟨gw_6_143, gw_6_140, gw_1_10, q_X9_put, rfl, rfl, ⟨Nat.le_of_ble_eq_true rfl, Nat.le_of_ble_eq_true rfl⟩⟩ gw_6_142 gw_p_81 (fun H _ hz _ => PP.recv (f := 0) (i := 0) X.2.1 hz.1 (show 0 < 1 by omega) rfl rfl) rfl rfl (Nat.le_of_ble_eq_true rfl) dX9_print_326 ?_
        refine tv_aload_n X dX9_print_329 rfl 0 rfl ?_
        refine tv_aload_n X dX9_print_330 rfl 0 rfl ?_
        refine gM8_13 X (by omega) gw_5_17 dX9_print_331 ?_
        refine tv_iload_n X dX9_print_334 rfl 1 rfl ?_
        refine iaM (n := 8) X (by omega) rfl dX9_print_335 h (fun j23 hj23 h => ?_)
        obtain ⟨s24, _u336, hs24, h⟩ := cl_some h
        refine tv_callVv (st := []) X (c_X9_putNumber Γ.2.1 Ω ad A s22 (ga s22 1 2 j23) hs24) ⟨gw_6_156, gw_6_153, gw_1_10, q_X9_putNumber, rfl, rfl, ⟨Nat.le_of_ble_eq_true rfl, Nat.le_of_ble_eq_true rfl⟩⟩ gw_6_155 gw_p_84 (fun H _ hz _ => PP.recv (f := 0) (i := 0) X.2.1 hz.1 (show 0 < 1 by omega) rfl rfl) rfl rfl (Nat.le_of_ble_eq_true rfl) dX9_print_336 ?_
        refine tv_aload_n X dX9_print_339 rfl 0 rfl ?_
        refine tv_bipush X 59 dX9_print_340 (by decide) ?_
        obtain ⟨s25, _u342, hs25, h⟩ := cl_some h
        refine tv_callVv (st := []) X (c_X9_put Γ.2.1 Ω ad A s24 59 hs25) ⟨gw_6_143, gw_6_140, gw_1_10, q_X9_put, rfl, rfl, ⟨Nat.le_of_ble_eq_true rfl, Nat.le_of_ble_eq_true rfl⟩⟩ gw_6_142 gw_p_81 (fun H _ hz _ => PP.recv (f := 0) (i := 0) X.2.1 hz.1 (show 0 < 1 by omega) rfl rfl) rfl rfl (Nat.le_of_ble_eq_true rfl) dX9_print_342 ?_
        refine V.pick [0] rfl ?_
        exact l_X9_print_345 X s25 h
    · refine tv_bipush X 8 dX9_print_193 (by decide) ?_
      refine tv_iload_n X dX9_print_195 rfl 1 rfl ?_
      refine tv_imul X dX9_print_196 ?_
      refine tv_iload X dX9_print_197 2 rfl ?_
      refine tv_iadd X dX9_print_199 ?_
      refine tv_istore X dX9_print_200 (by decide) [(5, .int ((8 * v2) + v4)), (0, .ref (ad 0 0)), (2, .int v2), (4, .int v4)] rfl ?_
      refine tv_aload_n X dX9_print_202 rfl 1 rfl ?_
      refine tv_ldc2 X 1920298085 gw_5_221 dX9_print_203 ?_
      obtain ⟨s26, _u206, hs26, h⟩ := cl_some h
      refine tv_callVv (st := []) X (c_X9_putWord Γ.2.1 Ω ad A σ (1920298085 : Int64) hs26) ⟨gw_6_147, gw_6_144, gw_1_10, q_X9_putWord, rfl, rfl, ⟨Nat.le_of_ble_eq_true rfl, Nat.le_of_ble_eq_true rfl⟩⟩ gw_6_146 gw_p_82 (fun H _ hz _ => PP.recv (f := 0) (i := 0) X.2.1 hz.1 (show 0 < 1 by omega) rfl rfl) rfl rfl (Nat.le_of_ble_eq_true rfl) dX9_print_206 ?_
      refine tv_aload_n X dX9_print_209 rfl 1 rfl ?_
      refine tv_bipush X 32 dX9_print_210 (by decide) ?_
      obtain ⟨s27, _u212, hs27, h⟩ := cl_some h
      refine tv_callVv (st := []) X (c_X9_put Γ.2.1 Ω ad A s26 32 hs27) ⟨gw_6_143, gw_6_140, gw_1_10, q_X9_put, rfl, rfl, ⟨Nat.le_of_ble_eq_true rfl, Nat.le_of_ble_eq_true rfl⟩⟩ gw_6_142 gw_p_81 (fun H _ hz _ => PP.recv (f := 0) (i := 0) X.2.1 hz.1 (show 0 < 1 by omega) rfl rfl) rfl rfl (Nat.le_of_ble_eq_true rfl) dX9_print_212 ?_
      refine tv_aload_n X dX9_print_215 rfl 1 rfl ?_
      refine tv_aload_n X dX9_print_216 rfl 1 rfl ?_
      refine gM8_25 X (by omega) gw_5_29 dX9_print_217 ?_
      refine tv_bipush X 12 dX9_print_220 (by decide) ?_
      refine tv_iload X dX9_print_222 0 rfl ?_
      refine tv_imul X dX9_print_224 ?_
      refine tv_aload_n X dX9_print_225 rfl 1 rfl ?_
      refine gM8_24 X (by omega) gw_5_28 dX9_print_226 ?_
      refine tv_iload X dX9_print_229 0 rfl ?_
      refine iaM (n := 64) X (by omega) rfl dX9_print_231 h (fun j28 hj28 h => ?_)
      obtain ⟨s29, _u232, hs29, h⟩ := cl_some h
      refine tv_callVv (st := []) X (c_X9_putBytes Γ.2.1 Ω ad A s27 5 (12 * ((8 * v2) + v4)) (ga s27 1 11 j28) (by omega) hs29) ⟨gw_6_139, gw_6_136, gw_1_10, q_X9_putBytes, rfl, rfl, ⟨Nat.le_of_ble_eq_true rfl, Nat.le_of_ble_eq_true rfl⟩⟩ gw_6_138 gw_p_80 (fun H _ hz _ => PP.recv (f := 0) (i := 0) X.2.1 hz.1 (show 0 < 1 by omega) rfl rfl) rfl rfl (Nat.le_of_ble_eq_true rfl) dX9_print_232 ?_
      refine tv_aload_n X dX9_print_235 rfl 1 rfl ?_
      refine gM8_26 X (by omega) gw_5_30 dX9_print_236 ?_
      refine tv_iload X dX9_print_239 0 rfl ?_
      refine zaM (n := 64) X (by omega) rfl dX9_print_241 h (fun j30 hj30 h => ?_)
      refine tv_if_eq X 251 dX9_print_242 (by decide) h (fun h => ?_) (fun h => ?_)
      · refine V.pick [1, 2, 3, 0] rfl ?_
        exact l_X9_print_251 X ih s29 v2 v4 ((8 * v2) + v4) h
      · refine tv_aload_n X dX9_print_245 rfl 1 rfl ?_
        refine tv_bipush X 42 dX9_print_246 (by decide) ?_
        obtain ⟨s31, _u248, hs31, h⟩ := cl_some h
        refine tv_callVv (st := []) X (c_X9_put Γ.2.1 Ω ad A s29 42 hs31) ⟨gw_6_143, gw_6_140, gw_1_10, q_X9_put, rfl, rfl, ⟨Nat.le_of_ble_eq_true rfl, Nat.le_of_ble_eq_true rfl⟩⟩ gw_6_142 gw_p_81 (fun H _ hz _ => PP.recv (f := 0) (i := 0) X.2.1 hz.1 (show 0 < 1 by omega) rfl rfl) rfl rfl (Nat.le_of_ble_eq_true rfl) dX9_print_248 ?_
        refine V.pick [1, 2, 3, 0] rfl ?_
        exact l_X9_print_251 X ih s31 v2 v4 ((8 * v2) + v4) h
set_option maxHeartbeats 4000000 in
set_option maxRecDepth 100000 in
theorem l_X9_print_22 {Γ : Cx} {Ω : Wd} {ad : Nat → Nat → Nat} {A : Nat → Prop} {res : St × Int32} (X : Fx Γ Ω A cX9_print 7 "MappingTextsModel" rm_X9_print (some .int)) : ∀ (n : Nat) (σ : St) (v2 : Int32) (v3 : Int32) (v4 : Int32), f_X9_print_22 n σ v2 v3 v4 = some res → V Γ (0, 0) (Qe Γ (0, 0) A (Qci (PicM Ω ad A) A res)) A 7 (PicM Ω ad A σ) 22 [(0, .ref (ad 0 0)), (2, .int v2), (3, .int v3), (4, .int v4)] [] := by
  intro n
  induction n with
  | zero =>
    intro σ v2 v3 v4 h
    cases (show none = some res from h)
  | succ n ih =>
    intro σ v2 v3 v4 h
    rw [f_X9_print_22] at h
    refine tv_iload X dX9_print_22 3 rfl ?_
    refine tv_aload_n X dX9_print_24 rfl 0 rfl ?_
    refine gM8_11 X (by omega) gw_5_15 dX9_print_25 ?_
    refine tv_iload_n X dX9_print_28 rfl 1 rfl ?_
    refine iaM (n := 8) X (by omega) rfl dX9_print_29 h (fun j4 hj4 h => ?_)
    refine tv_icmp_ge X 179 dX9_print_30 (by decide) h (fun h => ?_) (fun h => ?_)
    · refine tv_iconst X 0 dX9_print_179 (by decide) ?_
      refine tv_istore X dX9_print_180 (by decide) [(4, .int 0), (0, .ref (ad 0 0)), (2, .int v2), (3, .int v3)] rfl ?_
      refine V.pick [1, 2, 0] rfl ?_
      exact l_X9_print_182 X fl σ v2 0 h
    · refine tv_bipush X 40 dX9_print_33 (by decide) ?_
      refine tv_iload_n X dX9_print_35 rfl 1 rfl ?_
      refine tv_imul X dX9_print_36 ?_
      refine tv_iload X dX9_print_37 3 rfl ?_
      refine tv_iadd X dX9_print_39 ?_
      refine tv_istore X dX9_print_40 (by decide) [(5, .int ((40 * v2) + v4)), (0, .ref (ad 0 0)), (2, .int v2), (3, .int v3), (4, .int v4)] rfl ?_
      refine tv_aload_n X dX9_print_42 rfl 1 rfl ?_
      refine tv_aload_n X dX9_print_43 rfl 1 rfl ?_
      refine gM8_15 X (by omega) gw_5_19 dX9_print_44 ?_
      refine tv_bipush X 12 dX9_print_47 (by decide) ?_
      refine tv_iload X dX9_print_49 0 rfl ?_
      refine tv_imul X dX9_print_51 ?_
      refine tv_aload_n X dX9_print_52 rfl 1 rfl ?_
      refine gM8_14 X (by omega) gw_5_18 dX9_print_53 ?_
      refine tv_iload X dX9_print_56 0 rfl ?_
      refine iaM (n := 320) X (by omega) rfl dX9_print_58 h (fun j5 hj5 h => ?_)
      obtain ⟨s6, _u59, hs6, h⟩ := cl_some h
      refine tv_callVv (st := []) X (c_X9_putBytes Γ.2.1 Ω ad A σ 3 (12 * ((40 * v2) + v4)) (ga σ 1 3 j5) (by omega) hs6) ⟨gw_6_139, gw_6_136, gw_1_10, q_X9_putBytes, rfl, rfl, ⟨Nat.le_of_ble_eq_true rfl, Nat.le_of_ble_eq_true rfl⟩⟩ gw_6_138 gw_p_80 (fun H _ hz _ => PP.recv (f := 0) (i := 0) X.2.1 hz.1 (show 0 < 1 by omega) rfl rfl) rfl rfl (Nat.le_of_ble_eq_true rfl) dX9_print_59 ?_
      refine tv_aload_n X dX9_print_62 rfl 1 rfl ?_
      refine tv_bipush X 58 dX9_print_63 (by decide) ?_
      obtain ⟨s7, _u65, hs7, h⟩ := cl_some h
      refine tv_callVv (st := []) X (c_X9_put Γ.2.1 Ω ad A s6 58 hs7) ⟨gw_6_143, gw_6_140, gw_1_10, q_X9_put, rfl, rfl, ⟨Nat.le_of_ble_eq_true rfl, Nat.le_of_ble_eq_true rfl⟩⟩ gw_6_142 gw_p_81 (fun H _ hz _ => PP.recv (f := 0) (i := 0) X.2.1 hz.1 (show 0 < 1 by omega) rfl rfl) rfl rfl (Nat.le_of_ble_eq_true rfl) dX9_print_65 ?_
      refine tv_aload_n X dX9_print_68 rfl 1 rfl ?_
      refine tv_aload_n X dX9_print_69 rfl 1 rfl ?_
      refine gM8_0 X (by omega) gw_5_4 dX9_print_70 ?_
      refine tv_aload_n X dX9_print_73 rfl 1 rfl ?_
      refine gM8_16 X (by omega) gw_5_20 dX9_print_74 ?_
      refine tv_iload X dX9_print_77 0 rfl ?_
      refine iaM (n := 320) X (by omega) rfl dX9_print_79 h (fun j8 hj8 h => ?_)
      refine laM (n := 8) X (by omega) rfl dX9_print_80 h (fun j9 hj9 h => ?_)
      obtain ⟨s10, _u81, hs10, h⟩ := cl_some h
      refine tv_callVv (st := []) X (c_X9_putWord Γ.2.1 Ω ad A s7 (wdM 0 j9) hs10) ⟨gw_6_147, gw_6_144, gw_1_10, q_X9_putWord, rfl, rfl, ⟨Nat.le_of_ble_eq_true rfl, Nat.le_of_ble_eq_true rfl⟩⟩ gw_6_146 gw_p_82 (fun H _ hz _ => PP.recv (f := 0) (i := 0) X.2.1 hz.1 (show 0 < 1 by omega) rfl rfl) rfl rfl (Nat.le_of_ble_eq_true rfl) dX9_print_81 ?_
      refine tv_aload_n X dX9_print_84 rfl 1 rfl ?_
      refine tv_iload_n X dX9_print_85 rfl 2 rfl ?_
      refine tv_iload X dX9_print_86 0 rfl ?_
      obtain ⟨s11, _u88, hs11, h⟩ := cl_some h
      refine tv_callVv (st := []) X (c_X9_putOptions Γ.2.1 Ω ad A s10 v2 ((40 * v2) + v4) hs11) ⟨gw_6_152, gw_6_149, gw_1_10, q_X9_putOptions, rfl, rfl, ⟨Nat.le_of_ble_eq_true rfl, Nat.le_of_ble_eq_true rfl⟩⟩ gw_6_151 gw_p_83 (fun H _ hz _ => PP.recv (f := 0) (i := 0) X.2.1 hz.1 (show 0 < 1 by omega) rfl rfl) rfl rfl (Nat.le_of_ble_eq_true rfl) dX9_print_88 ?_
      refine tv_iload X dX9_print_91 4 rfl ?_
      refine tv_iconst X 1 dX9_print_93 (by decide) ?_
      refine tv_iadd X dX9_print_94 ?_
      refine tv_aload_n X dX9_print_95 rfl 1 rfl ?_
      refine gM8_11 X (by omega) gw_5_15 dX9_print_96 ?_
      refine tv_iload_n X dX9_print_99 rfl 2 rfl ?_
      refine iaM (n := 8) X (by omega) rfl dX9_print_100 h (fun j12 hj12 h => ?_)
      refine tv_icmp_ge X 116 dX9_print_101 (by decide) h (fun h => ?_) (fun h => ?_)
      · refine tv_iconst X 0 dX9_print_116 (by decide) ?_
        refine V.pick [1, 2, 3, 4] rfl ?_
        exact l_X9_print_117 X ih s11 0 v2 v3 v4 h
      · refine tv_aload_n X dX9_print_104 rfl 1 rfl ?_
        refine tv_iload_n X dX9_print_105 rfl 2 rfl ?_
        refine tv_iload X dX9_print_106 4 rfl ?_
        refine tv_iconst X 1 dX9_print_108 (by decide) ?_
        refine tv_iadd X dX9_print_109 ?_
        obtain ⟨s13, x14, hs13, h⟩ := cl_some h
        refine tv_callVi (st := []) X (c_X9_depthOf Γ.2.1 Ω ad A s11 v2 (v4 + 1) hs13) ⟨gw_6_92, gw_6_89, gw_1_10, q_X9_depthOf, rfl, rfl, ⟨Nat.le_of_ble_eq_true rfl, Nat.le_of_ble_eq_true rfl⟩⟩ gw_6_91 gw_p_73 (fun H _ hz _ => PP.recv (f := 0) (i := 0) X.2.1 hz.1 (show 0 < 1 by omega) rfl rfl) rfl rfl (Nat.le_of_ble_eq_true rfl) dX9_print_110 ?_
        refine tv_goto X 117 dX9_print_113 (by decide) ?_
        refine V.pick [1, 2, 3, 4] rfl ?_
        exact l_X9_print_117 X ih s13 x14 v2 v3 v4 h
set_option maxHeartbeats 4000000 in
set_option maxRecDepth 100000 in
theorem c_X9_print (l : Launch) (Ω : Wd) (ad : Nat → Nat → Nat) (A : Nat → Prop) (σ : St) (a1 : Int32) {res : St × Int32} (h : f_X9_print σ a1 = some res) : Met l yX9_print (wsO yX9_print cX9_print 7 (some .int)) rm_X9_print (PcZ Ω A (PicM Ω ad A σ) [.ref (ad 0 0), .int a1]) (Qci (PicM Ω ad A) A res) 0 0 A := by
  refine Met.ofV (by decide) rfl (fun Γ hΓ X => ?_)
  have X : Fx Γ Ω A cX9_print 7 "MappingTextsModel" rm_X9_print (some .int) := X
  unfold f_X9_print at h
  show V Γ (0, 0) _ A 7 _ 0 [(0, .ref (ad 0 0)), (1, .int a1)] []
  refine tv_aload_n X dX9_print_0 rfl 0 rfl ?_
  refine tv_iload_n X dX9_print_1 rfl 1 rfl ?_
  obtain ⟨s1, x2, hs1, h⟩ := cl_some h
  refine tv_callVi (st := []) X (c_X9_isVersion Γ.2.1 Ω ad A σ a1 hs1) ⟨gw_6_69, gw_6_66, gw_1_10, q_X9_isVersion, rfl, rfl, ⟨Nat.le_of_ble_eq_true rfl, Nat.le_of_ble_eq_true rfl⟩⟩ gw_6_68 gw_p_70 (fun H _ hz _ => PP.recv (f := 0) (i := 0) X.2.1 hz.1 (show 0 < 1 by omega) rfl rfl) rfl rfl (Nat.le_of_ble_eq_true rfl) dX9_print_2 ?_
  refine tv_if_ne X 10 dX9_print_5 (by decide) h (fun h => ?_) (fun h => ?_)
  · refine tv_iload_n X dX9_print_10 rfl 1 rfl ?_
    refine tv_istore_n X dX9_print_11 rfl (by decide) [(2, .int a1), (0, .ref (ad 0 0)), (1, .int a1)] rfl ?_
    refine tv_aload_n X dX9_print_12 rfl 1 rfl ?_
    refine tv_iconst X 0 dX9_print_13 (by decide) ?_
    refine pM8_8 X (by omega) gw_5_12 dX9_print_14 ?_
    refine tv_ns h (fun s3 h => ?_)
    refine tv_iconst X 0 dX9_print_17 (by decide) ?_
    refine tv_istore_n X dX9_print_18 rfl (by decide) [(3, .int 0), (2, .int a1), (0, .ref (ad 0 0)), (1, .int a1)] rfl ?_
    refine tv_iconst X 0 dX9_print_19 (by decide) ?_
    refine tv_istore X dX9_print_20 (by decide) [(4, .int 0), (3, .int 0), (2, .int a1), (0, .ref (ad 0 0)), (1, .int a1)] rfl ?_
    refine V.pick [3, 2, 1, 0] rfl ?_
    exact l_X9_print_22 X fl s3 a1 0 0 h
  · refine tv_iconst X (-1) dX9_print_8 (by decide) ?_
    exact tv_iret X dX9_print_9 h
