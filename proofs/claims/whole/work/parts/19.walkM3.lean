set_option maxHeartbeats 4000000 in
set_option maxRecDepth 100000 in
theorem c_X9_out (l : Launch) (Ω : Wd) (ad : Nat → Nat → Nat) (A : Nat → Prop) (σ : St) (a1 : Int32) {res : St × Int32} (h : f_X9_out σ a1 = some res) : Met l yX9_out (wsO yX9_out cX9_out 2 (some .int)) rm_X9_out (PcZ Ω A (PicM Ω ad A σ) [.ref (ad 0 0), .int a1]) (Qci (PicM Ω ad A) A res) 0 0 A := by
  refine Met.ofV (by decide) rfl (fun Γ hΓ X => ?_)
  have X : Fx Γ Ω A cX9_out 2 "MappingTextsModel" rm_X9_out (some .int) := X
  unfold f_X9_out at h
  show V Γ (0, 0) _ A 2 _ 0 [(0, .ref (ad 0 0)), (1, .int a1)] []
  refine tv_iload_n X dX9_out_0 rfl 1 rfl ?_
  refine tv_iconst X 0 dX9_out_1 (by decide) ?_
  refine tv_aload_n X dX9_out_2 rfl 0 rfl ?_
  refine gM8_6 X (by omega) gw_5_10 dX9_out_3 ?_
  refine tv_iconst X 1 dX9_out_6 (by decide) ?_
  refine tv_isub X dX9_out_7 ?_
  obtain ⟨s1, x2, hs1, h⟩ := cl_some h
  refine tv_callSi (st := []) X (c_X9_in Γ.2.1 Ω ad A σ a1 0 ((gi σ 806 0) - 1) hs1) ⟨gw_5_187, gw_5_185, gw_1_10, q_X9_in, rfl, rfl, ⟨Nat.le_of_ble_eq_true rfl, Nat.le_of_ble_eq_true rfl⟩⟩ gw_5_186 rfl rfl (Nat.le_of_ble_eq_true rfl) dX9_out_8 ?_
  refine tv_if_eq X 23 dX9_out_11 (by decide) h (fun h => ?_) (fun h => ?_)
  · refine tv_iconst X (-1) dX9_out_23 (by decide) ?_
    exact tv_iret X dX9_out_24 h
  · refine tv_aload_n X dX9_out_14 rfl 0 rfl ?_
    refine gM8_5 X (by omega) gw_5_9 dX9_out_15 ?_
    refine tv_iload_n X dX9_out_18 rfl 1 rfl ?_
    refine baM (n := 4000) X (by omega) rfl dX9_out_19 h (fun j3 hj3 h => ?_)
    refine tv_goto X 24 dX9_out_20 (by decide) ?_
    exact tv_iret X dX9_out_24 h
set_option maxHeartbeats 4000000 in
set_option maxRecDepth 100000 in
theorem l_X9_take_23 {Γ : Cx} {Ω : Wd} {ad : Nat → Nat → Nat} {A : Nat → Prop} {res : St × Int32} (X : Fx Γ Ω A cX9_take 2 "MappingTextsModel" rm_X9_take (some .int)) : ∀ (n : Nat) (σ : St) (v1 : Int32), f_X9_take_23 n σ v1 = some res → V Γ (0, 0) (Qe Γ (0, 0) A (Qci (PicM Ω ad A) A res)) A 2 (PicM Ω ad A σ) 23 [(0, .ref (ad 0 0)), (1, .int v1)] [] := by
  intro n
  induction n with
  | zero =>
    intro σ v1 h
    cases (show none = some res from h)
  | succ n ih =>
    intro σ v1 h
    rw [f_X9_take_23] at h
    refine tv_iload_n X dX9_take_23 rfl 1 rfl ?_
    refine tv_aload_n X dX9_take_24 rfl 0 rfl ?_
    refine gM8_6 X (by omega) gw_5_10 dX9_take_25 ?_
    refine tv_icmp_ge X 49 dX9_take_28 (by decide) h (fun h => ?_) (fun h => ?_)
    · refine tv_aload_n X dX9_take_49 rfl 0 rfl ?_
      refine gM8_6 X (by omega) gw_5_10 dX9_take_50 ?_
      exact tv_iret X dX9_take_53 h
    · refine tv_aload_n X dX9_take_31 rfl 0 rfl ?_
      refine gM8_2 X (by omega) gw_5_6 dX9_take_32 ?_
      refine tv_iload_n X dX9_take_35 rfl 1 rfl ?_
      refine tv_aload_n X dX9_take_36 rfl 0 rfl ?_
      refine gM8_5 X (by omega) gw_5_9 dX9_take_37 ?_
      refine tv_iload_n X dX9_take_40 rfl 1 rfl ?_
      refine baM (n := 4000) X (by omega) rfl dX9_take_41 h (fun j2 hj2 h => ?_)
      refine bsM (n := 2000) X (by omega) rfl dX9_take_42 h (fun j3 hj3 h => ?_)
      refine tv_ns h (fun s4 h => ?_)
      refine tv_iinc X (v1 + 1) dX9_take_43 1 rfl rfl (by decide) [(1, .int (v1 + 1)), (0, .ref (ad 0 0))] rfl ?_
      refine tv_goto X 23 dX9_take_46 (by decide) ?_
      refine V.pick [1, 0] rfl ?_
      exact ih s4 (v1 + 1) h
set_option maxHeartbeats 4000000 in
set_option maxRecDepth 100000 in
theorem c_X9_take (l : Launch) (Ω : Wd) (ad : Nat → Nat → Nat) (A : Nat → Prop) (σ : St) {res : St × Int32} (h : f_X9_take σ = some res) : Met l yX9_take (wsO yX9_take cX9_take 2 (some .int)) rm_X9_take (PcZ Ω A (PicM Ω ad A σ) [.ref (ad 0 0)]) (Qci (PicM Ω ad A) A res) 0 0 A := by
  refine Met.ofV (by decide) rfl (fun Γ hΓ X => ?_)
  have X : Fx Γ Ω A cX9_take 2 "MappingTextsModel" rm_X9_take (some .int) := X
  unfold f_X9_take at h
  show V Γ (0, 0) _ A 2 _ 0 [(0, .ref (ad 0 0))] []
  refine tv_aload_n X dX9_take_0 rfl 0 rfl ?_
  refine gM8_6 X (by omega) gw_5_10 dX9_take_1 ?_
  refine tv_sipush X 2000 dX9_take_4 (by decide) ?_
  refine tv_icmp_le X 13 dX9_take_7 (by decide) h (fun h => ?_) (fun h => ?_)
  · refine tv_aload_n X dX9_take_13 rfl 0 rfl ?_
    refine tv_aload_n X dX9_take_14 rfl 0 rfl ?_
    refine gM8_6 X (by omega) gw_5_10 dX9_take_15 ?_
    refine pM8_3 X (by omega) gw_5_7 dX9_take_18 ?_
    refine tv_ns h (fun s1 h => ?_)
    refine tv_iconst X 0 dX9_take_21 (by decide) ?_
    refine tv_istore_n X dX9_take_22 rfl (by decide) [(1, .int 0), (0, .ref (ad 0 0))] rfl ?_
    refine V.pick [1, 0] rfl ?_
    exact l_X9_take_23 X fl s1 0 h
  · refine tv_bipush X (-3) dX9_take_10 (by decide) ?_
    exact tv_iret X dX9_take_12 h
set_option maxHeartbeats 4000000 in
set_option maxRecDepth 100000 in
theorem l_X9_compare_89 {Γ : Cx} {Ω : Wd} {ad : Nat → Nat → Nat} {A : Nat → Prop} {res : St × Int32} (X : Fx Γ Ω A cX9_compare 6 "MappingTextsModel" rm_X9_compare (some .int)) (σ : St) (h : f_X9_compare_89 σ = some res) : V Γ (0, 0) (Qe Γ (0, 0) A (Qci (PicM Ω ad A) A res)) A 6 (PicM Ω ad A σ) 89 [(0, .ref (ad 0 0))] [] := by
  unfold f_X9_compare_89 at h
  refine tv_aload_n X dX9_compare_89 rfl 0 rfl ?_
  refine gM8_50 X (by omega) gw_5_54 dX9_compare_90 ?_
  refine tv_aload_n X dX9_compare_93 rfl 0 rfl ?_
  refine gM8_52 X (by omega) gw_5_56 dX9_compare_94 ?_
  refine tv_isub X dX9_compare_97 ?_
  exact tv_iret X dX9_compare_98 h
set_option maxHeartbeats 4000000 in
set_option maxRecDepth 100000 in
theorem l_X9_compare_32 {Γ : Cx} {Ω : Wd} {ad : Nat → Nat → Nat} {A : Nat → Prop} {res : St × Int32} (X : Fx Γ Ω A cX9_compare 6 "MappingTextsModel" rm_X9_compare (some .int)) : ∀ (n : Nat) (σ : St) (v5 : Int32), f_X9_compare_32 n σ v5 = some res → V Γ (0, 0) (Qe Γ (0, 0) A (Qci (PicM Ω ad A) A res)) A 6 (PicM Ω ad A σ) 32 [(0, .ref (ad 0 0)), (5, .int v5)] [] := by
  intro n
  induction n with
  | zero =>
    intro σ v5 h
    cases (show none = some res from h)
  | succ n ih =>
    intro σ v5 h
    rw [f_X9_compare_32] at h
    refine tv_iload X dX9_compare_32 1 rfl ?_
    refine tv_aload_n X dX9_compare_34 rfl 0 rfl ?_
    refine gM8_50 X (by omega) gw_5_54 dX9_compare_35 ?_
    refine tv_icmp_ge X 89 dX9_compare_38 (by decide) h (fun h => ?_) (fun h => ?_)
    · refine V.pick [0] rfl ?_
      exact l_X9_compare_89 X σ h
    · refine tv_iload X dX9_compare_41 1 rfl ?_
      refine tv_aload_n X dX9_compare_43 rfl 0 rfl ?_
      refine gM8_52 X (by omega) gw_5_56 dX9_compare_44 ?_
      refine tv_icmp_ge X 89 dX9_compare_47 (by decide) h (fun h => ?_) (fun h => ?_)
      · refine V.pick [0] rfl ?_
        exact l_X9_compare_89 X σ h
      · refine tv_aload_n X dX9_compare_50 rfl 0 rfl ?_
        refine gM8_49 X (by omega) gw_5_53 dX9_compare_51 ?_
        refine tv_iload X dX9_compare_54 1 rfl ?_
        refine baM (n := 128) X (by omega) rfl dX9_compare_56 h (fun j7 hj7 h => ?_)
        refine tv_aload_n X dX9_compare_57 rfl 0 rfl ?_
        refine gM8_51 X (by omega) gw_5_55 dX9_compare_58 ?_
        refine tv_iload X dX9_compare_61 1 rfl ?_
        refine baM (n := 128) X (by omega) rfl dX9_compare_63 h (fun j8 hj8 h => ?_)
        refine tv_icmp_eq X 83 dX9_compare_64 (by decide) h (fun h => ?_) (fun h => ?_)
        · refine tv_iinc X (v5 + 1) dX9_compare_83 1 rfl rfl (by decide) [(5, .int (v5 + 1)), (0, .ref (ad 0 0))] rfl ?_
          refine tv_goto X 32 dX9_compare_86 (by decide) ?_
          refine V.pick [1, 0] rfl ?_
          exact ih σ (v5 + 1) h
        · refine tv_aload_n X dX9_compare_67 rfl 0 rfl ?_
          refine gM8_49 X (by omega) gw_5_53 dX9_compare_68 ?_
          refine tv_iload X dX9_compare_71 1 rfl ?_
          refine baM (n := 128) X (by omega) rfl dX9_compare_73 h (fun j9 hj9 h => ?_)
          refine tv_aload_n X dX9_compare_74 rfl 0 rfl ?_
          refine gM8_51 X (by omega) gw_5_55 dX9_compare_75 ?_
          refine tv_iload X dX9_compare_78 1 rfl ?_
          refine baM (n := 128) X (by omega) rfl dX9_compare_80 h (fun j10 hj10 h => ?_)
          refine tv_isub X dX9_compare_81 ?_
          exact tv_iret X dX9_compare_82 h
set_option maxHeartbeats 4000000 in
set_option maxRecDepth 100000 in
theorem c_X9_compare (l : Launch) (Ω : Wd) (ad : Nat → Nat → Nat) (A : Nat → Prop) (σ : St) (a1 : Int32) (a2 : Int32) (a3 : Int32) (a4 : Int32) {res : St × Int32} (h : f_X9_compare σ a1 a2 a3 a4 = some res) : Met l yX9_compare (wsO yX9_compare cX9_compare 6 (some .int)) rm_X9_compare (PcZ Ω A (PicM Ω ad A σ) [.ref (ad 0 0), .int a1, .int a2, .int a3, .int a4]) (Qci (PicM Ω ad A) A res) 0 0 A := by
  refine Met.ofV (by decide) rfl (fun Γ hΓ X => ?_)
  have X : Fx Γ Ω A cX9_compare 6 "MappingTextsModel" rm_X9_compare (some .int) := X
  unfold f_X9_compare at h
  show V Γ (0, 0) _ A 6 _ 0 [(0, .ref (ad 0 0)), (1, .int a1), (2, .int a2), (3, .int a3), (4, .int a4)] []
  refine tv_aload_n X dX9_compare_0 rfl 0 rfl ?_
  refine tv_aload_n X dX9_compare_1 rfl 0 rfl ?_
  refine tv_iload_n X dX9_compare_2 rfl 1 rfl ?_
  refine tv_iload_n X dX9_compare_3 rfl 2 rfl ?_
  refine tv_aload_n X dX9_compare_4 rfl 0 rfl ?_
  refine gM8_49 X (by omega) gw_5_53 dX9_compare_5 ?_
  obtain ⟨s1, x2, hs1, h⟩ := cl_some h
  refine tv_callVi (st := [.ref (ad 0 0)]) X (c_X9_spell Γ.2.1 Ω ad A σ a1 a2 7 (by omega) hs1) ⟨gw_6_123, gw_6_120, gw_1_10, q_X9_spell, rfl, rfl, ⟨Nat.le_of_ble_eq_true rfl, Nat.le_of_ble_eq_true rfl⟩⟩ gw_6_122 gw_p_79 (fun H _ hz _ => PP.recv (f := 0) (i := 0) X.2.1 hz.1 (show 0 < 1 by omega) rfl rfl) rfl rfl (Nat.le_of_ble_eq_true rfl) dX9_compare_8 ?_
  refine pM8_50 X (by omega) gw_5_54 dX9_compare_11 ?_
  refine tv_ns h (fun s3 h => ?_)
  refine tv_aload_n X dX9_compare_14 rfl 0 rfl ?_
  refine tv_aload_n X dX9_compare_15 rfl 0 rfl ?_
  refine tv_iload_n X dX9_compare_16 rfl 3 rfl ?_
  refine tv_iload X dX9_compare_17 4 rfl ?_
  refine tv_aload_n X dX9_compare_19 rfl 0 rfl ?_
  refine gM8_51 X (by omega) gw_5_55 dX9_compare_20 ?_
  obtain ⟨s4, x5, hs4, h⟩ := cl_some h
  refine tv_callVi (st := [.ref (ad 0 0)]) X (c_X9_spell Γ.2.1 Ω ad A s3 a3 a4 8 (by omega) hs4) ⟨gw_6_123, gw_6_120, gw_1_10, q_X9_spell, rfl, rfl, ⟨Nat.le_of_ble_eq_true rfl, Nat.le_of_ble_eq_true rfl⟩⟩ gw_6_122 gw_p_79 (fun H _ hz _ => PP.recv (f := 0) (i := 0) X.2.1 hz.1 (show 0 < 1 by omega) rfl rfl) rfl rfl (Nat.le_of_ble_eq_true rfl) dX9_compare_23 ?_
  refine pM8_52 X (by omega) gw_5_56 dX9_compare_26 ?_
  refine tv_ns h (fun s6 h => ?_)
  refine tv_iconst X 0 dX9_compare_29 (by decide) ?_
  refine tv_istore X dX9_compare_30 (by decide) [(5, .int 0), (0, .ref (ad 0 0)), (1, .int a1), (2, .int a2), (3, .int a3), (4, .int a4)] rfl ?_
  refine V.pick [1, 0] rfl ?_
  exact l_X9_compare_32 X fl s6 0 h
set_option maxHeartbeats 4000000 in
set_option maxRecDepth 100000 in
theorem l_X9_twin_3 {Γ : Cx} {Ω : Wd} {ad : Nat → Nat → Nat} {A : Nat → Prop} {res : St × Int32} (X : Fx Γ Ω A cX9_twin 5 "MappingTextsModel" rm_X9_twin (some .int)) : ∀ (n : Nat) (σ : St) (v1 : Int32) (v2 : Int32) (v3 : Int32) (v4 : Int32), f_X9_twin_3 n σ v1 v2 v3 v4 = some res → V Γ (0, 0) (Qe Γ (0, 0) A (Qci (PicM Ω ad A) A res)) A 5 (PicM Ω ad A σ) 3 [(0, .ref (ad 0 0)), (1, .int v1), (2, .int v2), (3, .int v3), (4, .int v4)] [] := by
  intro n
  induction n with
  | zero =>
    intro σ v1 v2 v3 v4 h
    cases (show none = some res from h)
  | succ n ih =>
    intro σ v1 v2 v3 v4 h
    rw [f_X9_twin_3] at h
    refine tv_iload X dX9_twin_3 4 rfl ?_
    refine tv_aload_n X dX9_twin_5 rfl 0 rfl ?_
    refine gM8_11 X (by omega) gw_5_15 dX9_twin_6 ?_
    refine tv_iload_n X dX9_twin_9 rfl 3 rfl ?_
    refine iaM (n := 8) X (by omega) rfl dX9_twin_10 h (fun j1 hj1 h => ?_)
    refine tv_icmp_ge X 35 dX9_twin_11 (by decide) h (fun h => ?_) (fun h => ?_)
    · refine tv_bipush X (-2) dX9_twin_35 (by decide) ?_
      exact tv_iret X dX9_twin_37 h
    · refine tv_aload_n X dX9_twin_14 rfl 0 rfl ?_
      refine tv_iload_n X dX9_twin_15 rfl 1 rfl ?_
      refine tv_iload_n X dX9_twin_16 rfl 2 rfl ?_
      refine tv_iload_n X dX9_twin_17 rfl 3 rfl ?_
      refine tv_iload X dX9_twin_18 4 rfl ?_
      obtain ⟨s2, x3, hs2, h⟩ := cl_some h
      refine tv_callVi (st := []) X (c_X9_compare Γ.2.1 Ω ad A σ v1 v2 v3 v4 hs2) ⟨gw_6_185, gw_6_182, gw_1_10, q_X9_compare, rfl, rfl, ⟨Nat.le_of_ble_eq_true rfl, Nat.le_of_ble_eq_true rfl⟩⟩ gw_6_184 gw_p_88 (fun H _ hz _ => PP.recv (f := 0) (i := 0) X.2.1 hz.1 (show 0 < 1 by omega) rfl rfl) rfl rfl (Nat.le_of_ble_eq_true rfl) dX9_twin_20 ?_
      refine tv_if_ne X 29 dX9_twin_23 (by decide) h (fun h => ?_) (fun h => ?_)
      · refine tv_iinc X (v4 + 1) dX9_twin_29 4 rfl rfl (by decide) [(4, .int (v4 + 1)), (0, .ref (ad 0 0)), (1, .int v1), (2, .int v2), (3, .int v3)] rfl ?_
        refine tv_goto X 3 dX9_twin_32 (by decide) ?_
        refine V.pick [1, 2, 3, 4, 0] rfl ?_
        exact ih s2 v1 v2 v3 (v4 + 1) h
      · refine tv_iload X dX9_twin_26 4 rfl ?_
        exact tv_iret X dX9_twin_28 h
set_option maxHeartbeats 4000000 in
set_option maxRecDepth 100000 in
theorem c_X9_twin (l : Launch) (Ω : Wd) (ad : Nat → Nat → Nat) (A : Nat → Prop) (σ : St) (a1 : Int32) (a2 : Int32) (a3 : Int32) {res : St × Int32} (h : f_X9_twin σ a1 a2 a3 = some res) : Met l yX9_twin (wsO yX9_twin cX9_twin 5 (some .int)) rm_X9_twin (PcZ Ω A (PicM Ω ad A σ) [.ref (ad 0 0), .int a1, .int a2, .int a3]) (Qci (PicM Ω ad A) A res) 0 0 A := by
  refine Met.ofV (by decide) rfl (fun Γ hΓ X => ?_)
  have X : Fx Γ Ω A cX9_twin 5 "MappingTextsModel" rm_X9_twin (some .int) := X
  unfold f_X9_twin at h
  show V Γ (0, 0) _ A 5 _ 0 [(0, .ref (ad 0 0)), (1, .int a1), (2, .int a2), (3, .int a3)] []
  refine tv_iconst X 0 dX9_twin_0 (by decide) ?_
  refine tv_istore X dX9_twin_1 (by decide) [(4, .int 0), (0, .ref (ad 0 0)), (1, .int a1), (2, .int a2), (3, .int a3)] rfl ?_
  refine V.pick [1, 2, 3, 4, 0] rfl ?_
  exact l_X9_twin_3 X fl σ a1 a2 a3 0 h
set_option maxHeartbeats 4000000 in
set_option maxRecDepth 100000 in
theorem l_X9_isSamePath_13 {Γ : Cx} {Ω : Wd} {ad : Nat → Nat → Nat} {A : Nat → Prop} {res : St × Int32} (X : Fx Γ Ω A cX9_isSamePath 5 "MappingTextsModel" rm_X9_isSamePath (some .boolean)) (σ : St) (v2 : Int32) (v4 : Int32) (h : f_X9_isSamePath_13 σ v2 v4 = some res) : V Γ (0, 0) (Qe Γ (0, 0) A (Qci (PicM Ω ad A) A res)) A 5 (PicM Ω ad A σ) 13 [(2, .int v2), (4, .int v4)] [] := by
  unfold f_X9_isSamePath_13 at h
  refine tv_iload_n X dX9_isSamePath_13 rfl 0 rfl ?_
  refine tv_iload X dX9_isSamePath_14 1 rfl ?_
  refine tv_icmp_ne X 23 dX9_isSamePath_16 (by decide) h (fun h => ?_) (fun h => ?_)
  · refine tv_iconst X 0 dX9_isSamePath_23 (by decide) ?_
    refine tv_goto X 44 dX9_isSamePath_24 (by decide) ?_
    exact tv_zret X dX9_isSamePath_44 (Or.inl rfl) h
  · refine tv_iconst X 1 dX9_isSamePath_19 (by decide) ?_
    refine tv_goto X 44 dX9_isSamePath_20 (by decide) ?_
    exact tv_zret X dX9_isSamePath_44 (Or.inr rfl) h
set_option maxHeartbeats 4000000 in
set_option maxRecDepth 100000 in
theorem c_X9_isSamePath (l : Launch) (Ω : Wd) (ad : Nat → Nat → Nat) (A : Nat → Prop) (σ : St) (a1 : Int32) (a2 : Int32) (a3 : Int32) (a4 : Int32) {res : St × Int32} (h : f_X9_isSamePath σ a1 a2 a3 a4 = some res) : Met l yX9_isSamePath (wsO yX9_isSamePath cX9_isSamePath 5 (some .boolean)) rm_X9_isSamePath (PcZ Ω A (PicM Ω ad A σ) [.ref (ad 0 0), .int a1, .int a2, .int a3, .int a4]) (Qci (PicM Ω ad A) A res) 0 0 A := by
  refine Met.ofV (by decide) rfl (fun Γ hΓ X => ?_)
  have X : Fx Γ Ω A cX9_isSamePath 5 "MappingTextsModel" rm_X9_isSamePath (some .boolean) := X
  unfold f_X9_isSamePath at h
  show V Γ (0, 0) _ A 5 _ 0 [(0, .ref (ad 0 0)), (1, .int a1), (2, .int a2), (3, .int a3), (4, .int a4)] []
  refine tv_iload_n X dX9_isSamePath_0 rfl 2 rfl ?_
  refine tv_bipush X (-2) dX9_isSamePath_1 (by decide) ?_
  refine tv_icmp_eq X 13 dX9_isSamePath_3 (by decide) h (fun h => ?_) (fun h => ?_)
  · refine V.pick [2, 4] rfl ?_
    exact l_X9_isSamePath_13 X σ a2 a4 h
  · refine tv_iload X dX9_isSamePath_6 4 rfl ?_
    refine tv_bipush X (-2) dX9_isSamePath_8 (by decide) ?_
    refine tv_icmp_ne X 27 dX9_isSamePath_10 (by decide) h (fun h => ?_) (fun h => ?_)
    · refine tv_aload_n X dX9_isSamePath_27 rfl 0 rfl ?_
      refine tv_iload_n X dX9_isSamePath_28 rfl 1 rfl ?_
      refine tv_iload_n X dX9_isSamePath_29 rfl 2 rfl ?_
      refine tv_iload_n X dX9_isSamePath_30 rfl 3 rfl ?_
      refine tv_iload X dX9_isSamePath_31 4 rfl ?_
      obtain ⟨s1, x2, hs1, h⟩ := cl_some h
      refine tv_callVi (st := []) X (c_X9_compare Γ.2.1 Ω ad A σ a1 a2 a3 a4 hs1) ⟨gw_6_185, gw_6_182, gw_1_10, q_X9_compare, rfl, rfl, ⟨Nat.le_of_ble_eq_true rfl, Nat.le_of_ble_eq_true rfl⟩⟩ gw_6_184 gw_p_88 (fun H _ hz _ => PP.recv (f := 0) (i := 0) X.2.1 hz.1 (show 0 < 1 by omega) rfl rfl) rfl rfl (Nat.le_of_ble_eq_true rfl) dX9_isSamePath_33 ?_
      refine tv_if_ne X 43 dX9_isSamePath_36 (by decide) h (fun h => ?_) (fun h => ?_)
      · refine tv_iconst X 0 dX9_isSamePath_43 (by decide) ?_
        exact tv_zret X dX9_isSamePath_44 (Or.inl rfl) h
      · refine tv_iconst X 1 dX9_isSamePath_39 (by decide) ?_
        refine tv_goto X 44 dX9_isSamePath_40 (by decide) ?_
        exact tv_zret X dX9_isSamePath_44 (Or.inr rfl) h
    · refine V.pick [2, 4] rfl ?_
      exact l_X9_isSamePath_13 X σ a2 a4 h
set_option maxHeartbeats 4000000 in
set_option maxRecDepth 100000 in
theorem l_X9_isSameBy_71 {Γ : Cx} {Ω : Wd} {ad : Nat → Nat → Nat} {A : Nat → Prop} {res : St × Int32} (X : Fx Γ Ω A cX9_isSameBy 5 "MappingTextsModel" rm_X9_isSameBy (some .boolean)) {k24 : St → Int32 → Int32 → Int32 → Int32 → Option (St × Int32)} (hk24 : ∀ (σ : St) (v1 : Int32) (v2 : Int32) (v3 : Int32) (v4 : Int32), k24 σ v1 v2 v3 v4 = some res → V Γ (0, 0) (Qe Γ (0, 0) A (Qci (PicM Ω ad A) A res)) A 5 (PicM Ω ad A σ) 24 [(0, .ref (ad 0 0)), (1, .int v1), (2, .int v2), (3, .int v3), (4, .int v4)] []) (σ : St) (t0 : Int32) (v1 : Int32) (v2 : Int32) (v4 : Int32) (h : f_X9_isSameBy_71 k24 σ t0 v1 v2 v4 = some res) : V Γ (0, 0) (Qe Γ (0, 0) A (Qci (PicM Ω ad A) A res)) A 5 (PicM Ω ad A σ) 71 [(0, .ref (ad 0 0)), (1, .int v1), (2, .int v2), (4, .int v4)] [.int t0] := by
  unfold f_X9_isSameBy_71 at h
  refine tv_istore_n X dX9_isSameBy_71 rfl (by decide) [(3, .int t0), (0, .ref (ad 0 0)), (1, .int v1), (2, .int v2), (4, .int v4)] rfl ?_
  refine tv_iinc X (v4 + 1) dX9_isSameBy_72 4 rfl rfl (by decide) [(4, .int (v4 + 1)), (3, .int t0), (0, .ref (ad 0 0)), (1, .int v1), (2, .int v2)] rfl ?_
  refine tv_goto X 24 dX9_isSameBy_75 (by decide) ?_
  refine V.pick [2, 3, 4, 1, 0] rfl ?_
  exact hk24 σ v1 v2 t0 (v4 + 1) h
set_option maxHeartbeats 4000000 in
set_option maxRecDepth 100000 in
theorem l_X9_isSameBy_24 {Γ : Cx} {Ω : Wd} {ad : Nat → Nat → Nat} {A : Nat → Prop} {res : St × Int32} (X : Fx Γ Ω A cX9_isSameBy 5 "MappingTextsModel" rm_X9_isSameBy (some .boolean)) : ∀ (n : Nat) (σ : St) (v1 : Int32) (v2 : Int32) (v3 : Int32) (v4 : Int32), f_X9_isSameBy_24 n σ v1 v2 v3 v4 = some res → V Γ (0, 0) (Qe Γ (0, 0) A (Qci (PicM Ω ad A) A res)) A 5 (PicM Ω ad A σ) 24 [(0, .ref (ad 0 0)), (1, .int v1), (2, .int v2), (3, .int v3), (4, .int v4)] [] := by
  intro n
  induction n with
  | zero =>
    intro σ v1 v2 v3 v4 h
    cases (show none = some res from h)
  | succ n ih =>
    intro σ v1 v2 v3 v4 h
    rw [f_X9_isSameBy_24] at h
    refine tv_iload X dX9_isSameBy_24 4 rfl ?_
    refine tv_aload_n X dX9_isSameBy_26 rfl 0 rfl ?_
    refine gM8_21 X (by omega) gw_5_25 dX9_isSameBy_27 ?_
    refine tv_iload_n X dX9_isSameBy_30 rfl 1 rfl ?_
    refine iaM (n := 320) X (by omega) rfl dX9_isSameBy_31 h (fun j3 hj3 h => ?_)
    refine tv_icmp_ge X 78 dX9_isSameBy_32 (by decide) h (fun h => ?_) (fun h => ?_)
    · refine tv_iload_n X dX9_isSameBy_78 rfl 3 rfl ?_
      obtain ⟨hq, h⟩ := cq_some h
      exact tv_zret X dX9_isSameBy_79 (of_decide_eq_true hq) h
    · refine tv_iload_n X dX9_isSameBy_35 rfl 3 rfl ?_
      refine tv_if_eq X 78 dX9_isSameBy_36 (by decide) h (fun h => ?_) (fun h => ?_)
      · refine tv_iload_n X dX9_isSameBy_78 rfl 3 rfl ?_
        obtain ⟨hq, h⟩ := cq_some h
        exact tv_zret X dX9_isSameBy_79 (of_decide_eq_true hq) h
      · refine tv_aload_n X dX9_isSameBy_39 rfl 0 rfl ?_
        refine gM8_22 X (by omega) gw_5_26 dX9_isSameBy_40 ?_
        refine tv_bipush X 12 dX9_isSameBy_43 (by decide) ?_
        refine tv_iload_n X dX9_isSameBy_45 rfl 1 rfl ?_
        refine tv_imul X dX9_isSameBy_46 ?_
        refine tv_iload X dX9_isSameBy_47 4 rfl ?_
        refine tv_iadd X dX9_isSameBy_49 ?_
        refine baM (n := 3840) X (by omega) rfl dX9_isSameBy_50 h (fun j4 hj4 h => ?_)
        refine tv_aload_n X dX9_isSameBy_51 rfl 0 rfl ?_
        refine gM8_22 X (by omega) gw_5_26 dX9_isSameBy_52 ?_
        refine tv_bipush X 12 dX9_isSameBy_55 (by decide) ?_
        refine tv_iload_n X dX9_isSameBy_57 rfl 2 rfl ?_
        refine tv_imul X dX9_isSameBy_58 ?_
        refine tv_iload X dX9_isSameBy_59 4 rfl ?_
        refine tv_iadd X dX9_isSameBy_61 ?_
        refine baM (n := 3840) X (by omega) rfl dX9_isSameBy_62 h (fun j5 hj5 h => ?_)
        refine tv_icmp_ne X 70 dX9_isSameBy_63 (by decide) h (fun h => ?_) (fun h => ?_)
        · refine tv_iconst X 0 dX9_isSameBy_70 (by decide) ?_
          refine V.pick [0, 1, 2, 4] rfl ?_
          exact l_X9_isSameBy_71 X ih σ 0 v1 v2 v4 h
        · refine tv_iconst X 1 dX9_isSameBy_66 (by decide) ?_
          refine tv_goto X 71 dX9_isSameBy_67 (by decide) ?_
          refine V.pick [0, 1, 2, 4] rfl ?_
          exact l_X9_isSameBy_71 X ih σ 1 v1 v2 v4 h
set_option maxHeartbeats 4000000 in
set_option maxRecDepth 100000 in
theorem l_X9_isSameBy_20 {Γ : Cx} {Ω : Wd} {ad : Nat → Nat → Nat} {A : Nat → Prop} {res : St × Int32} (X : Fx Γ Ω A cX9_isSameBy 5 "MappingTextsModel" rm_X9_isSameBy (some .boolean)) (σ : St) (t0 : Int32) (v1 : Int32) (v2 : Int32) (h : f_X9_isSameBy_20 σ t0 v1 v2 = some res) : V Γ (0, 0) (Qe Γ (0, 0) A (Qci (PicM Ω ad A) A res)) A 5 (PicM Ω ad A σ) 20 [(0, .ref (ad 0 0)), (1, .int v1), (2, .int v2)] [.int t0] := by
  unfold f_X9_isSameBy_20 at h
  refine tv_istore_n X dX9_isSameBy_20 rfl (by decide) [(3, .int t0), (0, .ref (ad 0 0)), (1, .int v1), (2, .int v2)] rfl ?_
  refine tv_iconst X 0 dX9_isSameBy_21 (by decide) ?_
  refine tv_istore X dX9_isSameBy_22 (by decide) [(4, .int 0), (3, .int t0), (0, .ref (ad 0 0)), (1, .int v1), (2, .int v2)] rfl ?_
  refine V.pick [2, 3, 4, 1, 0] rfl ?_
  exact l_X9_isSameBy_24 X fl σ v1 v2 t0 0 h
set_option maxHeartbeats 4000000 in
set_option maxRecDepth 100000 in
theorem c_X9_isSameBy (l : Launch) (Ω : Wd) (ad : Nat → Nat → Nat) (A : Nat → Prop) (σ : St) (a1 : Int32) (a2 : Int32) {res : St × Int32} (h : f_X9_isSameBy σ a1 a2 = some res) : Met l yX9_isSameBy (wsO yX9_isSameBy cX9_isSameBy 5 (some .boolean)) rm_X9_isSameBy (PcZ Ω A (PicM Ω ad A σ) [.ref (ad 0 0), .int a1, .int a2]) (Qci (PicM Ω ad A) A res) 0 0 A := by
  refine Met.ofV (by decide) rfl (fun Γ hΓ X => ?_)
  have X : Fx Γ Ω A cX9_isSameBy 5 "MappingTextsModel" rm_X9_isSameBy (some .boolean) := X
  unfold f_X9_isSameBy at h
  show V Γ (0, 0) _ A 5 _ 0 [(0, .ref (ad 0 0)), (1, .int a1), (2, .int a2)] []
  refine tv_aload_n X dX9_isSameBy_0 rfl 0 rfl ?_
  refine gM8_21 X (by omega) gw_5_25 dX9_isSameBy_1 ?_
  refine tv_iload_n X dX9_isSameBy_4 rfl 1 rfl ?_
  refine iaM (n := 320) X (by omega) rfl dX9_isSameBy_5 h (fun j1 hj1 h => ?_)
  refine tv_aload_n X dX9_isSameBy_6 rfl 0 rfl ?_
  refine gM8_21 X (by omega) gw_5_25 dX9_isSameBy_7 ?_
  refine tv_iload_n X dX9_isSameBy_10 rfl 2 rfl ?_
  refine iaM (n := 320) X (by omega) rfl dX9_isSameBy_11 h (fun j2 hj2 h => ?_)
  refine tv_icmp_ne X 19 dX9_isSameBy_12 (by decide) h (fun h => ?_) (fun h => ?_)
  · refine tv_iconst X 0 dX9_isSameBy_19 (by decide) ?_
    exact l_X9_isSameBy_20 X σ 0 a1 a2 h
  · refine tv_iconst X 1 dX9_isSameBy_15 (by decide) ?_
    refine tv_goto X 20 dX9_isSameBy_16 (by decide) ?_
    exact l_X9_isSameBy_20 X σ 1 a1 a2 h
set_option maxHeartbeats 4000000 in
set_option maxRecDepth 100000 in
theorem l_X9_code_112 {Γ : Cx} {Ω : Wd} {ad : Nat → Nat → Nat} {A : Nat → Prop} {res : St × Int32} (X : Fx Γ Ω A cX9_code 8 "MappingTextsModel" rm_X9_code (some .int)) {k113 : St → Int32 → Int32 → Int32 → Int32 → Int32 → Option (St × Int32)} (hk113 : ∀ (σ : St) (t0 : Int32) (v1 : Int32) (v3 : Int32) (v5 : Int32) (v6 : Int32), k113 σ t0 v1 v3 v5 v6 = some res → V Γ (0, 0) (Qe Γ (0, 0) A (Qci (PicM Ω ad A) A res)) A 8 (PicM Ω ad A σ) 113 [(0, .ref (ad 0 0)), (1, .int v1), (3, .int v3), (5, .int v5), (6, .int v6)] [.int t0]) (σ : St) (v1 : Int32) (v3 : Int32) (v5 : Int32) (v6 : Int32) (h : f_X9_code_112 k113 σ v1 v3 v5 v6 = some res) : V Γ (0, 0) (Qe Γ (0, 0) A (Qci (PicM Ω ad A) A res)) A 8 (PicM Ω ad A σ) 112 [(0, .ref (ad 0 0)), (1, .int v1), (3, .int v3), (5, .int v5), (6, .int v6)] [] := by
  unfold f_X9_code_112 at h
  refine tv_iconst X 0 dX9_code_112 (by decide) ?_
  exact hk113 σ 0 v1 v3 v5 v6 h
set_option maxHeartbeats 4000000 in
set_option maxRecDepth 100000 in
theorem l_X9_code_113 {Γ : Cx} {Ω : Wd} {ad : Nat → Nat → Nat} {A : Nat → Prop} {res : St × Int32} (X : Fx Γ Ω A cX9_code 8 "MappingTextsModel" rm_X9_code (some .int)) (σ : St) (t0 : Int32) (v1 : Int32) (v3 : Int32) (v5 : Int32) (v6 : Int32) (h : f_X9_code_113 σ t0 v1 v3 v5 v6 = some res) : V Γ (0, 0) (Qe Γ (0, 0) A (Qci (PicM Ω ad A) A res)) A 8 (PicM Ω ad A σ) 113 [(0, .ref (ad 0 0)), (1, .int v1), (3, .int v3), (5, .int v5), (6, .int v6)] [.int t0] := by
  unfold f_X9_code_113 at h
  refine tv_istore X dX9_code_113 (by decide) [(7, .int t0), (0, .ref (ad 0 0)), (1, .int v1), (3, .int v3), (5, .int v5), (6, .int v6)] rfl ?_
  refine tv_iload X dX9_code_115 0 rfl ?_
  refine tv_if_eq X 170 dX9_code_117 (by decide) h (fun h => ?_) (fun h => ?_)
  · refine tv_iconst X 3 dX9_code_170 (by decide) ?_
    exact tv_iret X dX9_code_171 h
  · refine tv_aload_n X dX9_code_120 rfl 1 rfl ?_
    refine tv_iload_n X dX9_code_121 rfl 2 rfl ?_
    refine tv_aload_n X dX9_code_122 rfl 1 rfl ?_
    refine gM8_19 X (by omega) gw_5_23 dX9_code_123 ?_
    refine tv_iload X dX9_code_126 4 rfl ?_
    refine iaM (n := 320) X (by omega) rfl dX9_code_128 h (fun j11 hj11 h => ?_)
    refine tv_iload_n X dX9_code_129 rfl 3 rfl ?_
    refine tv_aload_n X dX9_code_130 rfl 1 rfl ?_
    refine gM8_19 X (by omega) gw_5_23 dX9_code_131 ?_
    refine tv_iload X dX9_code_134 5 rfl ?_
    refine iaM (n := 320) X (by omega) rfl dX9_code_136 h (fun j12 hj12 h => ?_)
    obtain ⟨s13, x14, hs13, h⟩ := cl_some h
    refine tv_callVi (st := []) X (c_X9_isSamePath Γ.2.1 Ω ad A σ v1 (ga σ 1 7 j11) v3 (ga σ 1 7 j12) hs13) ⟨gw_6_197, gw_6_194, gw_1_10, q_X9_isSamePath, rfl, rfl, ⟨Nat.le_of_ble_eq_true rfl, Nat.le_of_ble_eq_true rfl⟩⟩ gw_6_196 gw_p_91 (fun H _ hz _ => PP.recv (f := 0) (i := 0) X.2.1 hz.1 (show 0 < 1 by omega) rfl rfl) rfl rfl (Nat.le_of_ble_eq_true rfl) dX9_code_137 ?_
    refine tv_if_eq X 170 dX9_code_140 (by decide) h (fun h => ?_) (fun h => ?_)
    · refine tv_iconst X 3 dX9_code_170 (by decide) ?_
      exact tv_iret X dX9_code_171 h
    · refine tv_aload_n X dX9_code_143 rfl 1 rfl ?_
      refine tv_iload_n X dX9_code_144 rfl 2 rfl ?_
      refine tv_aload_n X dX9_code_145 rfl 1 rfl ?_
      refine gM8_20 X (by omega) gw_5_24 dX9_code_146 ?_
      refine tv_iload X dX9_code_149 4 rfl ?_
      refine iaM (n := 320) X (by omega) rfl dX9_code_151 h (fun j15 hj15 h => ?_)
      refine tv_iload_n X dX9_code_152 rfl 3 rfl ?_
      refine tv_aload_n X dX9_code_153 rfl 1 rfl ?_
      refine gM8_20 X (by omega) gw_5_24 dX9_code_154 ?_
      refine tv_iload X dX9_code_157 5 rfl ?_
      refine iaM (n := 320) X (by omega) rfl dX9_code_159 h (fun j16 hj16 h => ?_)
      obtain ⟨s17, x18, hs17, h⟩ := cl_some h
      refine tv_callVi (st := []) X (c_X9_isSamePath Γ.2.1 Ω ad A s13 v1 (ga s13 1 8 j15) v3 (ga s13 1 8 j16) hs17) ⟨gw_6_197, gw_6_194, gw_1_10, q_X9_isSamePath, rfl, rfl, ⟨Nat.le_of_ble_eq_true rfl, Nat.le_of_ble_eq_true rfl⟩⟩ gw_6_196 gw_p_91 (fun H _ hz _ => PP.recv (f := 0) (i := 0) X.2.1 hz.1 (show 0 < 1 by omega) rfl rfl) rfl rfl (Nat.le_of_ble_eq_true rfl) dX9_code_160 ?_
      refine tv_if_eq X 170 dX9_code_163 (by decide) h (fun h => ?_) (fun h => ?_)
      · refine tv_iconst X 3 dX9_code_170 (by decide) ?_
        exact tv_iret X dX9_code_171 h
      · refine tv_iconst X 0 dX9_code_166 (by decide) ?_
        refine tv_goto X 171 dX9_code_167 (by decide) ?_
        exact tv_iret X dX9_code_171 h
set_option maxHeartbeats 4000000 in
set_option maxRecDepth 100000 in
theorem c_X9_code (l : Launch) (Ω : Wd) (ad : Nat → Nat → Nat) (A : Nat → Prop) (σ : St) (a1 : Int32) (a2 : Int32) (a3 : Int32) (a4 : Int32) {res : St × Int32} (h : f_X9_code σ a1 a2 a3 a4 = some res) : Met l yX9_code (wsO yX9_code cX9_code 8 (some .int)) rm_X9_code (PcZ Ω A (PicM Ω ad A σ) [.ref (ad 0 0), .int a1, .int a2, .int a3, .int a4]) (Qci (PicM Ω ad A) A res) 0 0 A := by
  refine Met.ofV (by decide) rfl (fun Γ hΓ X => ?_)
  have X : Fx Γ Ω A cX9_code 8 "MappingTextsModel" rm_X9_code (some .int) := X
  unfold f_X9_code at h
  show V Γ (0, 0) _ A 8 _ 0 [(0, .ref (ad 0 0)), (1, .int a1), (2, .int a2), (3, .int a3), (4, .int a4)] []
  refine tv_bipush X 40 dX9_code_0 (by decide) ?_
  refine tv_iload_n X dX9_code_2 rfl 1 rfl ?_
  refine tv_imul X dX9_code_3 ?_
  refine tv_iload_n X dX9_code_4 rfl 2 rfl ?_
  refine tv_iadd X dX9_code_5 ?_
  refine tv_istore X dX9_code_6 (by decide) [(5, .int ((40 * a1) + a2)), (0, .ref (ad 0 0)), (1, .int a1), (2, .int a2), (3, .int a3), (4, .int a4)] rfl ?_
  refine tv_bipush X 40 dX9_code_8 (by decide) ?_
  refine tv_iload_n X dX9_code_10 rfl 4 rfl ?_
  refine tv_imul X dX9_code_11 ?_
  refine tv_iload X dX9_code_12 5 rfl ?_
  refine tv_iadd X dX9_code_14 ?_
  refine tv_istore X dX9_code_15 (by decide) [(6, .int ((40 * a3) + a4)), (5, .int ((40 * a1) + a2)), (0, .ref (ad 0 0)), (1, .int a1), (2, .int a2), (3, .int a3), (4, .int a4)] rfl ?_
  refine tv_aload_n X dX9_code_17 rfl 2 rfl ?_
  refine gM8_16 X (by omega) gw_5_20 dX9_code_18 ?_
  refine tv_iload X dX9_code_21 1 rfl ?_
  refine iaM (n := 320) X (by omega) rfl dX9_code_23 h (fun j1 hj1 h => ?_)
  refine tv_aload_n X dX9_code_24 rfl 2 rfl ?_
  refine gM8_16 X (by omega) gw_5_20 dX9_code_25 ?_
  refine tv_iload X dX9_code_28 0 rfl ?_
  refine iaM (n := 320) X (by omega) rfl dX9_code_30 h (fun j2 hj2 h => ?_)
  refine tv_icmp_ne X 68 dX9_code_31 (by decide) h (fun h => ?_) (fun h => ?_)
  · refine tv_iconst X 4 dX9_code_68 (by decide) ?_
    exact tv_iret X dX9_code_69 h
  · refine tv_aload_n X dX9_code_34 rfl 2 rfl ?_
    refine gM8_17 X (by omega) gw_5_21 dX9_code_35 ?_
    refine tv_iload X dX9_code_38 1 rfl ?_
    refine iaM (n := 320) X (by omega) rfl dX9_code_40 h (fun j3 hj3 h => ?_)
    refine tv_bipush X 6 dX9_code_41 (by decide) ?_
    refine tv_iand X dX9_code_43 ?_
    refine tv_aload_n X dX9_code_44 rfl 2 rfl ?_
    refine gM8_17 X (by omega) gw_5_21 dX9_code_45 ?_
    refine tv_iload X dX9_code_48 0 rfl ?_
    refine iaM (n := 320) X (by omega) rfl dX9_code_50 h (fun j4 hj4 h => ?_)
    refine tv_bipush X 6 dX9_code_51 (by decide) ?_
    refine tv_iand X dX9_code_53 ?_
    refine tv_icmp_ne X 68 dX9_code_54 (by decide) h (fun h => ?_) (fun h => ?_)
    · refine tv_iconst X 4 dX9_code_68 (by decide) ?_
      exact tv_iret X dX9_code_69 h
    · refine tv_aload_n X dX9_code_57 rfl 2 rfl ?_
      refine tv_iload X dX9_code_58 1 rfl ?_
      refine tv_iload X dX9_code_60 0 rfl ?_
      obtain ⟨s5, x6, hs5, h⟩ := cl_some h
      refine tv_callVi (st := []) X (c_X9_isSameBy Γ.2.1 Ω ad A σ ((40 * a1) + a2) ((40 * a3) + a4) hs5) ⟨gw_6_193, gw_6_190, gw_1_10, q_X9_isSameBy, rfl, rfl, ⟨Nat.le_of_ble_eq_true rfl, Nat.le_of_ble_eq_true rfl⟩⟩ gw_6_192 gw_p_90 (fun H _ hz _ => PP.recv (f := 0) (i := 0) X.2.1 hz.1 (show 0 < 1 by omega) rfl rfl) rfl rfl (Nat.le_of_ble_eq_true rfl) dX9_code_62 ?_
      refine tv_if_ne X 70 dX9_code_65 (by decide) h (fun h => ?_) (fun h => ?_)
      · refine tv_aload_n X dX9_code_70 rfl 2 rfl ?_
        refine gM8_17 X (by omega) gw_5_21 dX9_code_71 ?_
        refine tv_iload X dX9_code_74 1 rfl ?_
        refine iaM (n := 320) X (by omega) rfl dX9_code_76 h (fun j7 hj7 h => ?_)
        refine tv_iconst X 1 dX9_code_77 (by decide) ?_
        refine tv_iand X dX9_code_78 ?_
        refine tv_aload_n X dX9_code_79 rfl 2 rfl ?_
        refine gM8_17 X (by omega) gw_5_21 dX9_code_80 ?_
        refine tv_iload X dX9_code_83 0 rfl ?_
        refine iaM (n := 320) X (by omega) rfl dX9_code_85 h (fun j8 hj8 h => ?_)
        refine tv_iconst X 1 dX9_code_86 (by decide) ?_
        refine tv_iand X dX9_code_87 ?_
        refine tv_icmp_ne X 112 dX9_code_88 (by decide) h (fun h => ?_) (fun h => ?_)
        · refine V.pick [2, 3, 5, 1, 0] rfl ?_
          exact l_X9_code_112 X (l_X9_code_113 X) s5 a1 a3 ((40 * a1) + a2) ((40 * a3) + a4) h
        · refine tv_aload_n X dX9_code_91 rfl 2 rfl ?_
          refine gM8_18 X (by omega) gw_5_22 dX9_code_92 ?_
          refine tv_iload X dX9_code_95 1 rfl ?_
          refine iaM (n := 320) X (by omega) rfl dX9_code_97 h (fun j9 hj9 h => ?_)
          refine tv_aload_n X dX9_code_98 rfl 2 rfl ?_
          refine gM8_18 X (by omega) gw_5_22 dX9_code_99 ?_
          refine tv_iload X dX9_code_102 0 rfl ?_
          refine iaM (n := 320) X (by omega) rfl dX9_code_104 h (fun j10 hj10 h => ?_)
          refine tv_icmp_ne X 112 dX9_code_105 (by decide) h (fun h => ?_) (fun h => ?_)
          · refine V.pick [2, 3, 5, 1, 0] rfl ?_
            exact l_X9_code_112 X (l_X9_code_113 X) s5 a1 a3 ((40 * a1) + a2) ((40 * a3) + a4) h
          · refine tv_iconst X 1 dX9_code_108 (by decide) ?_
            refine tv_goto X 113 dX9_code_109 (by decide) ?_
            refine V.pick [2, 3, 5, 1, 0] rfl ?_
            exact l_X9_code_113 X s5 1 a1 a3 ((40 * a1) + a2) ((40 * a3) + a4) h
      · refine tv_iconst X 4 dX9_code_68 (by decide) ?_
        exact tv_iret X dX9_code_69 h
set_option maxHeartbeats 4000000 in
set_option maxRecDepth 100000 in
theorem l_X9_differ_95 {Γ : Cx} {Ω : Wd} {ad : Nat → Nat → Nat} {A : Nat → Prop} {res : St × Unit} (X : Fx Γ Ω A cX9_differ 6 "MappingTextsModel" rm_X9_differ none) {k7 : St → Int32 → Int32 → Int32 → Option (St × Unit)} (hk7 : ∀ (σ : St) (v1 : Int32) (v2 : Int32) (v3 : Int32), k7 σ v1 v2 v3 = some res → V Γ (0, 0) (Qe Γ (0, 0) A (Qcv (PicM Ω ad A) A res)) A 6 (PicM Ω ad A σ) 7 [(0, .ref (ad 0 0)), (1, .int v1), (2, .int v2), (3, .int v3)] []) (σ : St) (v1 : Int32) (v2 : Int32) (v3 : Int32) (h : f_X9_differ_95 k7 σ v1 v2 v3 = some res) : V Γ (0, 0) (Qe Γ (0, 0) A (Qcv (PicM Ω ad A) A res)) A 6 (PicM Ω ad A σ) 95 [(0, .ref (ad 0 0)), (1, .int v1), (2, .int v2), (3, .int v3)] [] := by
  unfold f_X9_differ_95 at h
  refine tv_iinc X (v3 + 1) dX9_differ_95 3 rfl rfl (by decide) [(3, .int (v3 + 1)), (0, .ref (ad 0 0)), (1, .int v1), (2, .int v2)] rfl ?_
  refine tv_goto X 7 dX9_differ_98 (by decide) ?_
  refine V.pick [1, 2, 3, 0] rfl ?_
  exact hk7 σ v1 v2 (v3 + 1) h
set_option maxHeartbeats 4000000 in
set_option maxRecDepth 100000 in
theorem l_X9_differ_46 {Γ : Cx} {Ω : Wd} {ad : Nat → Nat → Nat} {A : Nat → Prop} {res : St × Unit} (X : Fx Γ Ω A cX9_differ 6 "MappingTextsModel" rm_X9_differ none) {k7 : St → Int32 → Int32 → Int32 → Option (St × Unit)} (hk7 : ∀ (σ : St) (v1 : Int32) (v2 : Int32) (v3 : Int32), k7 σ v1 v2 v3 = some res → V Γ (0, 0) (Qe Γ (0, 0) A (Qcv (PicM Ω ad A) A res)) A 6 (PicM Ω ad A σ) 7 [(0, .ref (ad 0 0)), (1, .int v1), (2, .int v2), (3, .int v3)] []) (σ : St) (t0 : Int32) (v1 : Int32) (v2 : Int32) (v3 : Int32) (v4 : Int32) (h : f_X9_differ_46 k7 σ t0 v1 v2 v3 v4 = some res) : V Γ (0, 0) (Qe Γ (0, 0) A (Qcv (PicM Ω ad A) A res)) A 6 (PicM Ω ad A σ) 46 [(0, .ref (ad 0 0)), (1, .int v1), (2, .int v2), (3, .int v3), (4, .int v4)] [.int t0] := by
  unfold f_X9_differ_46 at h
  refine tv_istore X dX9_differ_46 (by decide) [(5, .int t0), (0, .ref (ad 0 0)), (1, .int v1), (2, .int v2), (3, .int v3), (4, .int v4)] rfl ?_
  refine tv_iload X dX9_differ_48 0 rfl ?_
  refine tv_if_eq X 95 dX9_differ_50 (by decide) h (fun h => ?_) (fun h => ?_)
  · refine V.pick [1, 2, 3, 4] rfl ?_
    exact l_X9_differ_95 X hk7 σ v1 v2 v3 h
  · refine tv_aload_n X dX9_differ_53 rfl 1 rfl ?_
    refine gM8_55 X (by omega) gw_5_59 dX9_differ_54 ?_
    refine tv_aload_n X dX9_differ_57 rfl 1 rfl ?_
    refine gM8_54 X (by omega) gw_5_58 dX9_differ_58 ?_
    refine tv_iload X dX9_differ_61 0 rfl ?_
    refine isM (n := 80) X (by omega) rfl dX9_differ_63 h (fun j7 hj7 h => ?_)
    refine tv_ns h (fun s8 h => ?_)
    refine tv_aload_n X dX9_differ_64 rfl 1 rfl ?_
    refine gM8_56 X (by omega) gw_5_60 dX9_differ_65 ?_
    refine tv_aload_n X dX9_differ_68 rfl 1 rfl ?_
    refine gM8_54 X (by omega) gw_5_58 dX9_differ_69 ?_
    refine tv_iload_n X dX9_differ_72 rfl 4 rfl ?_
    refine isM (n := 80) X (by omega) rfl dX9_differ_73 h (fun j9 hj9 h => ?_)
    refine tv_ns h (fun s10 h => ?_)
    refine tv_aload_n X dX9_differ_74 rfl 1 rfl ?_
    refine gM8_57 X (by omega) gw_5_61 dX9_differ_75 ?_
    refine tv_aload_n X dX9_differ_78 rfl 1 rfl ?_
    refine gM8_54 X (by omega) gw_5_58 dX9_differ_79 ?_
    refine tv_iload X dX9_differ_82 5 rfl ?_
    refine isM (n := 80) X (by omega) rfl dX9_differ_84 h (fun j11 hj11 h => ?_)
    refine tv_ns h (fun s12 h => ?_)
    refine tv_aload_n X dX9_differ_85 rfl 1 rfl ?_
    refine tv_dup X dX9_differ_86 rfl ?_
    refine gM8_54 X (by omega) gw_5_58 dX9_differ_87 ?_
    refine tv_iconst X 1 dX9_differ_90 (by decide) ?_
    refine tv_iadd X dX9_differ_91 ?_
    refine pM8_54 X (by omega) gw_5_58 dX9_differ_92 ?_
    refine tv_ns h (fun s13 h => ?_)
    refine V.pick [1, 2, 3, 4] rfl ?_
    exact l_X9_differ_95 X hk7 s13 v1 v2 v3 h
set_option maxHeartbeats 4000000 in
set_option maxRecDepth 100000 in
theorem l_X9_differ_166 {Γ : Cx} {Ω : Wd} {ad : Nat → Nat → Nat} {A : Nat → Prop} {res : St × Unit} (X : Fx Γ Ω A cX9_differ 6 "MappingTextsModel" rm_X9_differ none) {k103 : St → Int32 → Int32 → Int32 → Option (St × Unit)} (hk103 : ∀ (σ : St) (v1 : Int32) (v2 : Int32) (v3 : Int32), k103 σ v1 v2 v3 = some res → V Γ (0, 0) (Qe Γ (0, 0) A (Qcv (PicM Ω ad A) A res)) A 6 (PicM Ω ad A σ) 103 [(0, .ref (ad 0 0)), (1, .int v1), (2, .int v2), (3, .int v3)] []) (σ : St) (v1 : Int32) (v2 : Int32) (v3 : Int32) (h : f_X9_differ_166 k103 σ v1 v2 v3 = some res) : V Γ (0, 0) (Qe Γ (0, 0) A (Qcv (PicM Ω ad A) A res)) A 6 (PicM Ω ad A σ) 166 [(0, .ref (ad 0 0)), (1, .int v1), (2, .int v2), (3, .int v3)] [] := by
  unfold f_X9_differ_166 at h
  refine tv_iinc X (v3 + 1) dX9_differ_166 3 rfl rfl (by decide) [(3, .int (v3 + 1)), (0, .ref (ad 0 0)), (1, .int v1), (2, .int v2)] rfl ?_
  refine tv_goto X 103 dX9_differ_169 (by decide) ?_
  refine V.pick [1, 2, 3, 0] rfl ?_
  exact hk103 σ v1 v2 (v3 + 1) h
set_option maxHeartbeats 4000000 in
set_option maxRecDepth 100000 in
theorem l_X9_differ_103 {Γ : Cx} {Ω : Wd} {ad : Nat → Nat → Nat} {A : Nat → Prop} {res : St × Unit} (X : Fx Γ Ω A cX9_differ 6 "MappingTextsModel" rm_X9_differ none) : ∀ (n : Nat) (σ : St) (v1 : Int32) (v2 : Int32) (v3 : Int32), f_X9_differ_103 n σ v1 v2 v3 = some res → V Γ (0, 0) (Qe Γ (0, 0) A (Qcv (PicM Ω ad A) A res)) A 6 (PicM Ω ad A σ) 103 [(0, .ref (ad 0 0)), (1, .int v1), (2, .int v2), (3, .int v3)] [] := by
  intro n
  induction n with
  | zero =>
    intro σ v1 v2 v3 h
    cases (show none = some res from h)
  | succ n ih =>
    intro σ v1 v2 v3 h
    rw [f_X9_differ_103] at h
    refine tv_iload_n X dX9_differ_103 rfl 3 rfl ?_
    refine tv_aload_n X dX9_differ_104 rfl 0 rfl ?_
    refine gM8_11 X (by omega) gw_5_15 dX9_differ_105 ?_
    refine tv_iload_n X dX9_differ_108 rfl 2 rfl ?_
    refine iaM (n := 8) X (by omega) rfl dX9_differ_109 h (fun j14 hj14 h => ?_)
    refine tv_icmp_ge X 172 dX9_differ_110 (by decide) h (fun h => ?_) (fun h => ?_)
    · exact tv_vret X dX9_differ_172 h
    · refine tv_aload_n X dX9_differ_113 rfl 0 rfl ?_
      refine tv_iload_n X dX9_differ_114 rfl 2 rfl ?_
      refine tv_iload_n X dX9_differ_115 rfl 3 rfl ?_
      refine tv_iload_n X dX9_differ_116 rfl 1 rfl ?_
      obtain ⟨s15, x16, hs15, h⟩ := cl_some h
      refine tv_callVi (st := []) X (c_X9_twin Γ.2.1 Ω ad A σ v2 v3 v1 hs15) ⟨gw_6_181, gw_6_178, gw_1_10, q_X9_twin, rfl, rfl, ⟨Nat.le_of_ble_eq_true rfl, Nat.le_of_ble_eq_true rfl⟩⟩ gw_6_180 gw_p_87 (fun H _ hz _ => PP.recv (f := 0) (i := 0) X.2.1 hz.1 (show 0 < 1 by omega) rfl rfl) rfl rfl (Nat.le_of_ble_eq_true rfl) dX9_differ_117 ?_
      refine tv_bipush X (-2) dX9_differ_120 (by decide) ?_
      refine tv_icmp_ne X 166 dX9_differ_122 (by decide) h (fun h => ?_) (fun h => ?_)
      · exact l_X9_differ_166 X ih s15 v1 v2 v3 h
      · refine tv_aload_n X dX9_differ_125 rfl 0 rfl ?_
        refine gM8_55 X (by omega) gw_5_59 dX9_differ_126 ?_
        refine tv_aload_n X dX9_differ_129 rfl 0 rfl ?_
        refine gM8_54 X (by omega) gw_5_58 dX9_differ_130 ?_
        refine tv_iconst X 1 dX9_differ_133 (by decide) ?_
        refine isM (n := 80) X (by omega) rfl dX9_differ_134 h (fun j17 hj17 h => ?_)
        refine tv_ns h (fun s18 h => ?_)
        refine tv_aload_n X dX9_differ_135 rfl 0 rfl ?_
        refine gM8_56 X (by omega) gw_5_60 dX9_differ_136 ?_
        refine tv_aload_n X dX9_differ_139 rfl 0 rfl ?_
        refine gM8_54 X (by omega) gw_5_58 dX9_differ_140 ?_
        refine tv_bipush X (-2) dX9_differ_143 (by decide) ?_
        refine isM (n := 80) X (by omega) rfl dX9_differ_145 h (fun j19 hj19 h => ?_)
        refine tv_ns h (fun s20 h => ?_)
        refine tv_aload_n X dX9_differ_146 rfl 0 rfl ?_
        refine gM8_57 X (by omega) gw_5_61 dX9_differ_147 ?_
        refine tv_aload_n X dX9_differ_150 rfl 0 rfl ?_
        refine gM8_54 X (by omega) gw_5_58 dX9_differ_151 ?_
        refine tv_iload_n X dX9_differ_154 rfl 3 rfl ?_
        refine isM (n := 80) X (by omega) rfl dX9_differ_155 h (fun j21 hj21 h => ?_)
        refine tv_ns h (fun s22 h => ?_)
        refine tv_aload_n X dX9_differ_156 rfl 0 rfl ?_
        refine tv_dup X dX9_differ_157 rfl ?_
        refine gM8_54 X (by omega) gw_5_58 dX9_differ_158 ?_
        refine tv_iconst X 1 dX9_differ_161 (by decide) ?_
        refine tv_iadd X dX9_differ_162 ?_
        refine pM8_54 X (by omega) gw_5_58 dX9_differ_163 ?_
        refine tv_ns h (fun s23 h => ?_)
        exact l_X9_differ_166 X ih s23 v1 v2 v3 h
set_option maxHeartbeats 4000000 in
set_option maxRecDepth 100000 in
theorem l_X9_differ_7 {Γ : Cx} {Ω : Wd} {ad : Nat → Nat → Nat} {A : Nat → Prop} {res : St × Unit} (X : Fx Γ Ω A cX9_differ 6 "MappingTextsModel" rm_X9_differ none) : ∀ (n : Nat) (σ : St) (v1 : Int32) (v2 : Int32) (v3 : Int32), f_X9_differ_7 n σ v1 v2 v3 = some res → V Γ (0, 0) (Qe Γ (0, 0) A (Qcv (PicM Ω ad A) A res)) A 6 (PicM Ω ad A σ) 7 [(0, .ref (ad 0 0)), (1, .int v1), (2, .int v2), (3, .int v3)] [] := by
  intro n
  induction n with
  | zero =>
    intro σ v1 v2 v3 h
    cases (show none = some res from h)
  | succ n ih =>
    intro σ v1 v2 v3 h
    rw [f_X9_differ_7] at h
    refine tv_iload_n X dX9_differ_7 rfl 3 rfl ?_
    refine tv_aload_n X dX9_differ_8 rfl 0 rfl ?_
    refine gM8_11 X (by omega) gw_5_15 dX9_differ_9 ?_
    refine tv_iload_n X dX9_differ_12 rfl 1 rfl ?_
    refine iaM (n := 8) X (by omega) rfl dX9_differ_13 h (fun j2 hj2 h => ?_)
    refine tv_icmp_ge X 101 dX9_differ_14 (by decide) h (fun h => ?_) (fun h => ?_)
    · refine tv_iconst X 0 dX9_differ_101 (by decide) ?_
      refine tv_istore_n X dX9_differ_102 rfl (by decide) [(3, .int 0), (0, .ref (ad 0 0)), (1, .int v1), (2, .int v2)] rfl ?_
      refine V.pick [1, 2, 3, 0] rfl ?_
      exact l_X9_differ_103 X fl σ v1 v2 0 h
    · refine tv_aload_n X dX9_differ_17 rfl 0 rfl ?_
      refine tv_iload_n X dX9_differ_18 rfl 1 rfl ?_
      refine tv_iload_n X dX9_differ_19 rfl 3 rfl ?_
      refine tv_iload_n X dX9_differ_20 rfl 2 rfl ?_
      obtain ⟨s3, x4, hs3, h⟩ := cl_some h
      refine tv_callVi (st := []) X (c_X9_twin Γ.2.1 Ω ad A σ v1 v3 v2 hs3) ⟨gw_6_181, gw_6_178, gw_1_10, q_X9_twin, rfl, rfl, ⟨Nat.le_of_ble_eq_true rfl, Nat.le_of_ble_eq_true rfl⟩⟩ gw_6_180 gw_p_87 (fun H _ hz _ => PP.recv (f := 0) (i := 0) X.2.1 hz.1 (show 0 < 1 by omega) rfl rfl) rfl rfl (Nat.le_of_ble_eq_true rfl) dX9_differ_21 ?_
      refine tv_istore X dX9_differ_24 (by decide) [(4, .int x4), (0, .ref (ad 0 0)), (1, .int v1), (2, .int v2), (3, .int v3)] rfl ?_
      refine tv_iload X dX9_differ_26 0 rfl ?_
      refine tv_bipush X (-2) dX9_differ_28 (by decide) ?_
      refine tv_icmp_ne X 37 dX9_differ_30 (by decide) h (fun h => ?_) (fun h => ?_)
      · refine tv_aload_n X dX9_differ_37 rfl 1 rfl ?_
        refine tv_iload_n X dX9_differ_38 rfl 2 rfl ?_
        refine tv_iload_n X dX9_differ_39 rfl 4 rfl ?_
        refine tv_iload_n X dX9_differ_40 rfl 3 rfl ?_
        refine tv_iload X dX9_differ_41 0 rfl ?_
        obtain ⟨s5, x6, hs5, h⟩ := cl_some h
        refine tv_callVi (st := []) X (c_X9_code Γ.2.1 Ω ad A s3 v1 v3 v2 x4 hs5) ⟨gw_6_189, gw_6_186, gw_1_10, q_X9_code, rfl, rfl, ⟨Nat.le_of_ble_eq_true rfl, Nat.le_of_ble_eq_true rfl⟩⟩ gw_6_188 gw_p_89 (fun H _ hz _ => PP.recv (f := 0) (i := 0) X.2.1 hz.1 (show 0 < 1 by omega) rfl rfl) rfl rfl (Nat.le_of_ble_eq_true rfl) dX9_differ_43 ?_
        refine V.pick [1, 2, 3, 4, 0] rfl ?_
        exact l_X9_differ_46 X ih s5 x6 v1 v2 v3 x4 h
      · refine tv_iconst X 2 dX9_differ_33 (by decide) ?_
        refine tv_goto X 46 dX9_differ_34 (by decide) ?_
        refine V.pick [1, 2, 3, 4, 0] rfl ?_
        exact l_X9_differ_46 X ih s3 2 v1 v2 v3 x4 h
set_option maxHeartbeats 4000000 in
set_option maxRecDepth 100000 in
theorem c_X9_differ (l : Launch) (Ω : Wd) (ad : Nat → Nat → Nat) (A : Nat → Prop) (σ : St) (a1 : Int32) (a2 : Int32) {res : St × Unit} (h : f_X9_differ σ a1 a2 = some res) : Met l yX9_differ (wsO yX9_differ cX9_differ 6 none) rm_X9_differ (PcZ Ω A (PicM Ω ad A σ) [.ref (ad 0 0), .int a1, .int a2]) (Qcv (PicM Ω ad A) A res) 0 0 A := by
  refine Met.ofV (by decide) rfl (fun Γ hΓ X => ?_)
  have X : Fx Γ Ω A cX9_differ 6 "MappingTextsModel" rm_X9_differ none := X
  unfold f_X9_differ at h
  show V Γ (0, 0) _ A 6 _ 0 [(0, .ref (ad 0 0)), (1, .int a1), (2, .int a2)] []
  refine tv_aload_n X dX9_differ_0 rfl 0 rfl ?_
  refine tv_iconst X 0 dX9_differ_1 (by decide) ?_
  refine pM8_54 X (by omega) gw_5_58 dX9_differ_2 ?_
  refine tv_ns h (fun s1 h => ?_)
  refine tv_iconst X 0 dX9_differ_5 (by decide) ?_
  refine tv_istore_n X dX9_differ_6 rfl (by decide) [(3, .int 0), (0, .ref (ad 0 0)), (1, .int a1), (2, .int a2)] rfl ?_
  refine V.pick [1, 2, 3, 0] rfl ?_
  exact l_X9_differ_7 X fl s1 a1 a2 0 h
set_option maxHeartbeats 4000000 in
set_option maxRecDepth 100000 in
theorem l_X9_compareRows_97 {Γ : Cx} {Ω : Wd} {ad : Nat → Nat → Nat} {A : Nat → Prop} {res : St × Int32} (X : Fx Γ Ω A cX9_compareRows 7 "MappingTextsModel" rm_X9_compareRows (some .int)) (σ : St) (t1 : Int32) (t2 : Int32) (t3 : Int32) (t4 : Int32) (h : f_X9_compareRows_97 σ t1 t2 t3 t4 = some res) : V Γ (0, 0) (Qe Γ (0, 0) A (Qci (PicM Ω ad A) A res)) A 7 (PicM Ω ad A σ) 97 [] [.int t4, .int t3, .int t2, .int t1, .ref (ad 0 0)] := by
  unfold f_X9_compareRows_97 at h
  obtain ⟨s9, x10, hs9, h⟩ := cl_some h
  refine tv_callVi (st := []) X (c_X9_compare Γ.2.1 Ω ad A σ t1 t2 t3 t4 hs9) ⟨gw_6_185, gw_6_182, gw_1_10, q_X9_compare, rfl, rfl, ⟨Nat.le_of_ble_eq_true rfl, Nat.le_of_ble_eq_true rfl⟩⟩ gw_6_184 gw_p_88 (fun H _ hz _ => PP.recv (f := 0) (i := 0) X.2.1 hz.1 (show 0 < 1 by omega) rfl rfl) rfl rfl (Nat.le_of_ble_eq_true rfl) dX9_compareRows_97 ?_
  exact tv_iret X dX9_compareRows_100 h
set_option maxHeartbeats 4000000 in
set_option maxRecDepth 100000 in
theorem l_X9_compareRows_66 {Γ : Cx} {Ω : Wd} {ad : Nat → Nat → Nat} {A : Nat → Prop} {res : St × Int32} (X : Fx Γ Ω A cX9_compareRows 7 "MappingTextsModel" rm_X9_compareRows (some .int)) (σ : St) (t1 : Int32) (t2 : Int32) (v4 : Int32) (v6 : Int32) (h : f_X9_compareRows_66 σ t1 t2 v4 v6 = some res) : V Γ (0, 0) (Qe Γ (0, 0) A (Qci (PicM Ω ad A) A res)) A 7 (PicM Ω ad A σ) 66 [(0, .ref (ad 0 0)), (4, .int v4), (6, .int v6)] [.int t2, .int t1, .ref (ad 0 0)] := by
  unfold f_X9_compareRows_66 at h
  refine tv_iload X dX9_compareRows_66 2 rfl ?_
  refine tv_aload_n X dX9_compareRows_68 rfl 0 rfl ?_
  refine gM8_56 X (by omega) gw_5_60 dX9_compareRows_69 ?_
  refine tv_iload X dX9_compareRows_72 1 rfl ?_
  refine iaM (n := 80) X (by omega) rfl dX9_compareRows_74 h (fun j6 hj6 h => ?_)
  refine tv_bipush X (-2) dX9_compareRows_75 (by decide) ?_
  refine tv_icmp_ne X 90 dX9_compareRows_77 (by decide) h (fun h => ?_) (fun h => ?_)
  · refine tv_aload_n X dX9_compareRows_90 rfl 0 rfl ?_
    refine gM8_56 X (by omega) gw_5_60 dX9_compareRows_91 ?_
    refine tv_iload X dX9_compareRows_94 1 rfl ?_
    refine iaM (n := 80) X (by omega) rfl dX9_compareRows_96 h (fun j7 hj7 h => ?_)
    refine V.pick [] rfl ?_
    exact l_X9_compareRows_97 X σ t1 t2 v6 (ga σ 1 27 j7) h
  · refine tv_aload_n X dX9_compareRows_80 rfl 0 rfl ?_
    refine gM8_57 X (by omega) gw_5_61 dX9_compareRows_81 ?_
    refine tv_iload X dX9_compareRows_84 1 rfl ?_
    refine iaM (n := 80) X (by omega) rfl dX9_compareRows_86 h (fun j8 hj8 h => ?_)
    refine tv_goto X 97 dX9_compareRows_87 (by decide) ?_
    refine V.pick [] rfl ?_
    exact l_X9_compareRows_97 X σ t1 t2 v6 (ga σ 1 28 j8) h
set_option maxHeartbeats 4000000 in
set_option maxRecDepth 100000 in
theorem l_X9_compareRows_35 {Γ : Cx} {Ω : Wd} {ad : Nat → Nat → Nat} {A : Nat → Prop} {res : St × Int32} (X : Fx Γ Ω A cX9_compareRows 7 "MappingTextsModel" rm_X9_compareRows (some .int)) (σ : St) (t0 : Int32) (v3 : Int32) (v4 : Int32) (v5 : Int32) (h : f_X9_compareRows_35 σ t0 v3 v4 v5 = some res) : V Γ (0, 0) (Qe Γ (0, 0) A (Qci (PicM Ω ad A) A res)) A 7 (PicM Ω ad A σ) 35 [(0, .ref (ad 0 0)), (3, .int v3), (4, .int v4), (5, .int v5)] [.int t0] := by
  unfold f_X9_compareRows_35 at h
  refine tv_istore X dX9_compareRows_35 (by decide) [(6, .int t0), (0, .ref (ad 0 0)), (3, .int v3), (4, .int v4), (5, .int v5)] rfl ?_
  refine tv_aload_n X dX9_compareRows_37 rfl 1 rfl ?_
  refine tv_iload X dX9_compareRows_38 4 rfl ?_
  refine tv_aload_n X dX9_compareRows_40 rfl 1 rfl ?_
  refine gM8_56 X (by omega) gw_5_60 dX9_compareRows_41 ?_
  refine tv_iload_n X dX9_compareRows_44 rfl 2 rfl ?_
  refine iaM (n := 80) X (by omega) rfl dX9_compareRows_45 h (fun j3 hj3 h => ?_)
  refine tv_bipush X (-2) dX9_compareRows_46 (by decide) ?_
  refine tv_icmp_ne X 60 dX9_compareRows_48 (by decide) h (fun h => ?_) (fun h => ?_)
  · refine tv_aload_n X dX9_compareRows_60 rfl 1 rfl ?_
    refine gM8_56 X (by omega) gw_5_60 dX9_compareRows_61 ?_
    refine tv_iload_n X dX9_compareRows_64 rfl 2 rfl ?_
    refine iaM (n := 80) X (by omega) rfl dX9_compareRows_65 h (fun j4 hj4 h => ?_)
    refine V.pick [1, 3, 0] rfl ?_
    exact l_X9_compareRows_66 X σ v5 (ga σ 1 27 j4) v4 t0 h
  · refine tv_aload_n X dX9_compareRows_51 rfl 1 rfl ?_
    refine gM8_57 X (by omega) gw_5_61 dX9_compareRows_52 ?_
    refine tv_iload_n X dX9_compareRows_55 rfl 2 rfl ?_
    refine iaM (n := 80) X (by omega) rfl dX9_compareRows_56 h (fun j5 hj5 h => ?_)
    refine tv_goto X 66 dX9_compareRows_57 (by decide) ?_
    refine V.pick [1, 3, 0] rfl ?_
    exact l_X9_compareRows_66 X σ v5 (ga σ 1 28 j5) v4 t0 h
set_option maxHeartbeats 4000000 in
set_option maxRecDepth 100000 in
theorem l_X9_compareRows_16 {Γ : Cx} {Ω : Wd} {ad : Nat → Nat → Nat} {A : Nat → Prop} {res : St × Int32} (X : Fx Γ Ω A cX9_compareRows 7 "MappingTextsModel" rm_X9_compareRows (some .int)) (σ : St) (t0 : Int32) (v1 : Int32) (v2 : Int32) (v3 : Int32) (v4 : Int32) (h : f_X9_compareRows_16 σ t0 v1 v2 v3 v4 = some res) : V Γ (0, 0) (Qe Γ (0, 0) A (Qci (PicM Ω ad A) A res)) A 7 (PicM Ω ad A σ) 16 [(0, .ref (ad 0 0)), (1, .int v1), (2, .int v2), (3, .int v3), (4, .int v4)] [.int t0] := by
  unfold f_X9_compareRows_16 at h
  refine tv_istore X dX9_compareRows_16 (by decide) [(5, .int t0), (0, .ref (ad 0 0)), (1, .int v1), (2, .int v2), (3, .int v3), (4, .int v4)] rfl ?_
  refine tv_aload_n X dX9_compareRows_18 rfl 1 rfl ?_
  refine gM8_56 X (by omega) gw_5_60 dX9_compareRows_19 ?_
  refine tv_iload X dX9_compareRows_22 5 rfl ?_
  refine iaM (n := 80) X (by omega) rfl dX9_compareRows_24 h (fun j2 hj2 h => ?_)
  refine tv_bipush X (-2) dX9_compareRows_25 (by decide) ?_
  refine tv_icmp_ne X 34 dX9_compareRows_27 (by decide) h (fun h => ?_) (fun h => ?_)
  · refine tv_iload_n X dX9_compareRows_34 rfl 2 rfl ?_
    refine V.pick [1, 4, 5, 0] rfl ?_
    exact l_X9_compareRows_35 X σ v1 v3 v4 t0 h
  · refine tv_iload_n X dX9_compareRows_30 rfl 3 rfl ?_
    refine tv_goto X 35 dX9_compareRows_31 (by decide) ?_
    refine V.pick [1, 4, 5, 0] rfl ?_
    exact l_X9_compareRows_35 X σ v2 v3 v4 t0 h
set_option maxHeartbeats 4000000 in
set_option maxRecDepth 100000 in
theorem c_X9_compareRows (l : Launch) (Ω : Wd) (ad : Nat → Nat → Nat) (A : Nat → Prop) (σ : St) (a1 : Int32) (a2 : Int32) (a3 : Int32) (a4 : Int32) {res : St × Int32} (h : f_X9_compareRows σ a1 a2 a3 a4 = some res) : Met l yX9_compareRows (wsO yX9_compareRows cX9_compareRows 7 (some .int)) rm_X9_compareRows (PcZ Ω A (PicM Ω ad A σ) [.ref (ad 0 0), .int a1, .int a2, .int a3, .int a4]) (Qci (PicM Ω ad A) A res) 0 0 A := by
  refine Met.ofV (by decide) rfl (fun Γ hΓ X => ?_)
  have X : Fx Γ Ω A cX9_compareRows 7 "MappingTextsModel" rm_X9_compareRows (some .int) := X
  unfold f_X9_compareRows at h
  show V Γ (0, 0) _ A 7 _ 0 [(0, .ref (ad 0 0)), (1, .int a1), (2, .int a2), (3, .int a3), (4, .int a4)] []
  refine tv_aload_n X dX9_compareRows_0 rfl 0 rfl ?_
  refine gM8_56 X (by omega) gw_5_60 dX9_compareRows_1 ?_
  refine tv_iload_n X dX9_compareRows_4 rfl 3 rfl ?_
  refine iaM (n := 80) X (by omega) rfl dX9_compareRows_5 h (fun j1 hj1 h => ?_)
  refine tv_bipush X (-2) dX9_compareRows_6 (by decide) ?_
  refine tv_icmp_ne X 15 dX9_compareRows_8 (by decide) h (fun h => ?_) (fun h => ?_)
  · refine tv_iload_n X dX9_compareRows_15 rfl 1 rfl ?_
    exact l_X9_compareRows_16 X σ a1 a1 a2 a3 a4 h
  · refine tv_iload_n X dX9_compareRows_11 rfl 2 rfl ?_
    refine tv_goto X 16 dX9_compareRows_12 (by decide) ?_
    exact l_X9_compareRows_16 X σ a2 a1 a2 a3 a4 h
set_option maxHeartbeats 4000000 in
set_option maxRecDepth 100000 in
theorem c_X9_differences (l : Launch) (Ω : Wd) (ad : Nat → Nat → Nat) (A : Nat → Prop) (σ : St) (a1 : Int32) (a2 : Int32) {res : St × Int32} (h : f_X9_differences σ a1 a2 = some res) : Met l yX9_differences (wsO yX9_differences cX9_differences 3 (some .int)) rm_X9_differences (PcZ Ω A (PicM Ω ad A σ) [.ref (ad 0 0), .int a1, .int a2]) (Qci (PicM Ω ad A) A res) 0 0 A := by
  refine Met.ofV (by decide) rfl (fun Γ hΓ X => ?_)
  have X : Fx Γ Ω A cX9_differences 3 "MappingTextsModel" rm_X9_differences (some .int) := X
  unfold f_X9_differences at h
  show V Γ (0, 0) _ A 3 _ 0 [(0, .ref (ad 0 0)), (1, .int a1), (2, .int a2)] []
  refine tv_aload_n X dX9_differences_0 rfl 0 rfl ?_
  refine tv_iload_n X dX9_differences_1 rfl 1 rfl ?_
  obtain ⟨s1, x2, hs1, h⟩ := cl_some h
  refine tv_callVi (st := []) X (c_X9_isVersion Γ.2.1 Ω ad A σ a1 hs1) ⟨gw_6_69, gw_6_66, gw_1_10, q_X9_isVersion, rfl, rfl, ⟨Nat.le_of_ble_eq_true rfl, Nat.le_of_ble_eq_true rfl⟩⟩ gw_6_68 gw_p_70 (fun H _ hz _ => PP.recv (f := 0) (i := 0) X.2.1 hz.1 (show 0 < 1 by omega) rfl rfl) rfl rfl (Nat.le_of_ble_eq_true rfl) dX9_differences_2 ?_
  refine tv_if_eq X 16 dX9_differences_5 (by decide) h (fun h => ?_) (fun h => ?_)
  · refine tv_iconst X (-1) dX9_differences_16 (by decide) ?_
    exact tv_iret X dX9_differences_17 h
  · refine tv_aload_n X dX9_differences_8 rfl 0 rfl ?_
    refine tv_iload_n X dX9_differences_9 rfl 2 rfl ?_
    obtain ⟨s3, x4, hs3, h⟩ := cl_some h
    refine tv_callVi (st := []) X (c_X9_isVersion Γ.2.1 Ω ad A s1 a2 hs3) ⟨gw_6_69, gw_6_66, gw_1_10, q_X9_isVersion, rfl, rfl, ⟨Nat.le_of_ble_eq_true rfl, Nat.le_of_ble_eq_true rfl⟩⟩ gw_6_68 gw_p_70 (fun H _ hz _ => PP.recv (f := 0) (i := 0) X.2.1 hz.1 (show 0 < 1 by omega) rfl rfl) rfl rfl (Nat.le_of_ble_eq_true rfl) dX9_differences_10 ?_
    refine tv_if_ne X 18 dX9_differences_13 (by decide) h (fun h => ?_) (fun h => ?_)
    · refine tv_aload_n X dX9_differences_18 rfl 0 rfl ?_
      refine tv_iload_n X dX9_differences_19 rfl 1 rfl ?_
      refine tv_iload_n X dX9_differences_20 rfl 2 rfl ?_
      obtain ⟨s5, _u21, hs5, h⟩ := cl_some h
      refine tv_callVv (st := []) X (c_X9_differ Γ.2.1 Ω ad A s3 a1 a2 hs5) ⟨gw_6_177, gw_6_174, gw_1_10, q_X9_differ, rfl, rfl, ⟨Nat.le_of_ble_eq_true rfl, Nat.le_of_ble_eq_true rfl⟩⟩ gw_6_176 gw_p_86 (fun H _ hz _ => PP.recv (f := 0) (i := 0) X.2.1 hz.1 (show 0 < 1 by omega) rfl rfl) rfl rfl (Nat.le_of_ble_eq_true rfl) dX9_differences_21 ?_
      refine tv_aload_n X dX9_differences_24 rfl 0 rfl ?_
      refine gM8_54 X (by omega) gw_5_58 dX9_differences_25 ?_
      exact tv_iret X dX9_differences_28 h
    · refine tv_iconst X (-1) dX9_differences_16 (by decide) ?_
      exact tv_iret X dX9_differences_17 h
set_option maxHeartbeats 4000000 in
set_option maxRecDepth 100000 in
theorem l_X9_difference_81 {Γ : Cx} {Ω : Wd} {ad : Nat → Nat → Nat} {A : Nat → Prop} {res : St × Int32} (X : Fx Γ Ω A cX9_difference 8 "MappingTextsModel" rm_X9_difference (some .int)) {k52 : St → Int32 → Int32 → Int32 → Int32 → Int32 → Int32 → Int32 → Option (St × Int32)} (hk52 : ∀ (σ : St) (v1 : Int32) (v2 : Int32) (v3 : Int32) (v4 : Int32) (v5 : Int32) (v6 : Int32) (v7 : Int32), k52 σ v1 v2 v3 v4 v5 v6 v7 = some res → V Γ (0, 0) (Qe Γ (0, 0) A (Qci (PicM Ω ad A) A res)) A 8 (PicM Ω ad A σ) 52 [(0, .ref (ad 0 0)), (1, .int v1), (2, .int v2), (3, .int v3), (4, .int v4), (5, .int v5), (6, .int v6), (7, .int v7)] []) (σ : St) (t0 : Int32) (t1 : Int32) (v1 : Int32) (v2 : Int32) (v3 : Int32) (v4 : Int32) (v5 : Int32) (v7 : Int32) (h : f_X9_difference_81 k52 σ t0 t1 v1 v2 v3 v4 v5 v7 = some res) : V Γ (0, 0) (Qe Γ (0, 0) A (Qci (PicM Ω ad A) A res)) A 8 (PicM Ω ad A σ) 81 [(0, .ref (ad 0 0)), (1, .int v1), (2, .int v2), (3, .int v3), (4, .int v4), (5, .int v5), (7, .int v7)] [.int t1, .int t0] := by
  unfold f_X9_difference_81 at h
  refine tv_iadd X dX9_difference_81 ?_
  refine tv_istore X dX9_difference_82 (by decide) [(6, .int (t0 + t1)), (0, .ref (ad 0 0)), (1, .int v1), (2, .int v2), (3, .int v3), (4, .int v4), (5, .int v5), (7, .int v7)] rfl ?_
  refine tv_iinc X (v7 + 1) dX9_difference_84 7 rfl rfl (by decide) [(7, .int (v7 + 1)), (6, .int (t0 + t1)), (0, .ref (ad 0 0)), (1, .int v1), (2, .int v2), (3, .int v3), (4, .int v4), (5, .int v5)] rfl ?_
  refine tv_goto X 52 dX9_difference_87 (by decide) ?_
  refine V.pick [2, 3, 4, 5, 6, 7, 1, 0] rfl ?_
  exact hk52 σ v1 v2 v3 v4 v5 (t0 + t1) (v7 + 1) h
set_option maxHeartbeats 4000000 in
set_option maxRecDepth 100000 in
theorem l_X9_difference_52 {Γ : Cx} {Ω : Wd} {ad : Nat → Nat → Nat} {A : Nat → Prop} {res : St × Int32} (X : Fx Γ Ω A cX9_difference 8 "MappingTextsModel" rm_X9_difference (some .int)) {k37 : St → Int32 → Int32 → Int32 → Int32 → Int32 → Option (St × Int32)} (hk37 : ∀ (σ : St) (v1 : Int32) (v2 : Int32) (v3 : Int32) (v4 : Int32) (v5 : Int32), k37 σ v1 v2 v3 v4 v5 = some res → V Γ (0, 0) (Qe Γ (0, 0) A (Qci (PicM Ω ad A) A res)) A 8 (PicM Ω ad A σ) 37 [(0, .ref (ad 0 0)), (1, .int v1), (2, .int v2), (3, .int v3), (4, .int v4), (5, .int v5)] []) : ∀ (n : Nat) (σ : St) (v1 : Int32) (v2 : Int32) (v3 : Int32) (v4 : Int32) (v5 : Int32) (v6 : Int32) (v7 : Int32), f_X9_difference_52 k37 n σ v1 v2 v3 v4 v5 v6 v7 = some res → V Γ (0, 0) (Qe Γ (0, 0) A (Qci (PicM Ω ad A) A res)) A 8 (PicM Ω ad A σ) 52 [(0, .ref (ad 0 0)), (1, .int v1), (2, .int v2), (3, .int v3), (4, .int v4), (5, .int v5), (6, .int v6), (7, .int v7)] [] := by
  intro n
  induction n with
  | zero =>
    intro σ v1 v2 v3 v4 v5 v6 v7 h
    cases (show none = some res from h)
  | succ n ih =>
    intro σ v1 v2 v3 v4 v5 v6 v7 h
    rw [f_X9_difference_52] at h
    refine tv_iload X dX9_difference_52 7 rfl ?_
    refine tv_aload_n X dX9_difference_54 rfl 0 rfl ?_
    refine gM8_54 X (by omega) gw_5_58 dX9_difference_55 ?_
    refine tv_icmp_ge X 90 dX9_difference_58 (by decide) h (fun h => ?_) (fun h => ?_)
    · refine tv_iload X dX9_difference_90 6 rfl ?_
      refine tv_iload_n X dX9_difference_92 rfl 3 rfl ?_
      refine tv_icmp_ne X 135 dX9_difference_93 (by decide) h (fun h => ?_) (fun h => ?_)
      · refine tv_iinc X (v5 + 1) dX9_difference_135 5 rfl rfl (by decide) [(5, .int (v5 + 1)), (0, .ref (ad 0 0)), (1, .int v1), (2, .int v2), (3, .int v3), (4, .int v4), (6, .int v6), (7, .int v7)] rfl ?_
        refine tv_goto X 37 dX9_difference_138 (by decide) ?_
        refine V.pick [1, 2, 3, 4, 5, 0] rfl ?_
        exact hk37 σ v1 v2 v3 v4 (v5 + 1) h
      · refine tv_iload X dX9_difference_96 4 rfl ?_
        refine tv_if_ne X 111 dX9_difference_98 (by decide) h (fun h => ?_) (fun h => ?_)
        · refine tv_iload X dX9_difference_111 4 rfl ?_
          refine tv_iconst X 1 dX9_difference_113 (by decide) ?_
          refine tv_icmp_ne X 127 dX9_difference_114 (by decide) h (fun h => ?_) (fun h => ?_)
          · refine tv_aload_n X dX9_difference_127 rfl 0 rfl ?_
            refine gM8_57 X (by omega) gw_5_61 dX9_difference_128 ?_
            refine tv_iload X dX9_difference_131 5 rfl ?_
            refine iaM (n := 80) X (by omega) rfl dX9_difference_133 h (fun j8 hj8 h => ?_)
            exact tv_iret X dX9_difference_134 h
          · refine tv_aload_n X dX9_difference_117 rfl 0 rfl ?_
            refine gM8_56 X (by omega) gw_5_60 dX9_difference_118 ?_
            refine tv_iload X dX9_difference_121 5 rfl ?_
            refine iaM (n := 80) X (by omega) rfl dX9_difference_123 h (fun j9 hj9 h => ?_)
            refine tv_goto X 134 dX9_difference_124 (by decide) ?_
            exact tv_iret X dX9_difference_134 h
        · refine tv_aload_n X dX9_difference_101 rfl 0 rfl ?_
          refine gM8_55 X (by omega) gw_5_59 dX9_difference_102 ?_
          refine tv_iload X dX9_difference_105 5 rfl ?_
          refine iaM (n := 80) X (by omega) rfl dX9_difference_107 h (fun j10 hj10 h => ?_)
          refine tv_goto X 134 dX9_difference_108 (by decide) ?_
          exact tv_iret X dX9_difference_134 h
    · refine tv_iload X dX9_difference_61 6 rfl ?_
      refine tv_aload_n X dX9_difference_63 rfl 0 rfl ?_
      refine tv_iload_n X dX9_difference_64 rfl 1 rfl ?_
      refine tv_iload_n X dX9_difference_65 rfl 2 rfl ?_
      refine tv_iload X dX9_difference_66 7 rfl ?_
      refine tv_iload X dX9_difference_68 5 rfl ?_
      obtain ⟨s11, x12, hs11, h⟩ := cl_some h
      refine tv_callVi (st := [.int v6]) X (c_X9_compareRows Γ.2.1 Ω ad A σ v1 v2 v7 v5 hs11) ⟨gw_6_205, gw_6_202, gw_1_10, q_X9_compareRows, rfl, rfl, ⟨Nat.le_of_ble_eq_true rfl, Nat.le_of_ble_eq_true rfl⟩⟩ gw_6_204 gw_p_92 (fun H _ hz _ => PP.recv (f := 0) (i := 0) X.2.1 hz.1 (show 0 < 1 by omega) rfl rfl) rfl rfl (Nat.le_of_ble_eq_true rfl) dX9_difference_70 ?_
      refine tv_if_ge X 80 dX9_difference_73 (by decide) h (fun h => ?_) (fun h => ?_)
      · refine tv_iconst X 0 dX9_difference_80 (by decide) ?_
        refine V.pick [0, 1, 2, 3, 4, 5, 7] rfl ?_
        exact l_X9_difference_81 X ih s11 v6 0 v1 v2 v3 v4 v5 v7 h
      · refine tv_iconst X 1 dX9_difference_76 (by decide) ?_
        refine tv_goto X 81 dX9_difference_77 (by decide) ?_
        refine V.pick [0, 1, 2, 3, 4, 5, 7] rfl ?_
        exact l_X9_difference_81 X ih s11 v6 1 v1 v2 v3 v4 v5 v7 h
set_option maxHeartbeats 4000000 in
set_option maxRecDepth 100000 in
theorem l_X9_difference_37 {Γ : Cx} {Ω : Wd} {ad : Nat → Nat → Nat} {A : Nat → Prop} {res : St × Int32} (X : Fx Γ Ω A cX9_difference 8 "MappingTextsModel" rm_X9_difference (some .int)) : ∀ (n : Nat) (σ : St) (v1 : Int32) (v2 : Int32) (v3 : Int32) (v4 : Int32) (v5 : Int32), f_X9_difference_37 n σ v1 v2 v3 v4 v5 = some res → V Γ (0, 0) (Qe Γ (0, 0) A (Qci (PicM Ω ad A) A res)) A 8 (PicM Ω ad A σ) 37 [(0, .ref (ad 0 0)), (1, .int v1), (2, .int v2), (3, .int v3), (4, .int v4), (5, .int v5)] [] := by
  intro n
  induction n with
  | zero =>
    intro σ v1 v2 v3 v4 v5 h
    cases (show none = some res from h)
  | succ n ih =>
    intro σ v1 v2 v3 v4 v5 h
    rw [f_X9_difference_37] at h
    refine tv_iload X dX9_difference_37 5 rfl ?_
    refine tv_aload_n X dX9_difference_39 rfl 0 rfl ?_
    refine gM8_54 X (by omega) gw_5_58 dX9_difference_40 ?_
    refine tv_icmp_ge X 141 dX9_difference_43 (by decide) h (fun h => ?_) (fun h => ?_)
    · refine tv_iconst X (-1) dX9_difference_141 (by decide) ?_
      exact tv_iret X dX9_difference_142 h
    · refine tv_iconst X 0 dX9_difference_46 (by decide) ?_
      refine tv_istore X dX9_difference_47 (by decide) [(6, .int 0), (0, .ref (ad 0 0)), (1, .int v1), (2, .int v2), (3, .int v3), (4, .int v4), (5, .int v5)] rfl ?_
      refine tv_iconst X 0 dX9_difference_49 (by decide) ?_
      refine tv_istore X dX9_difference_50 (by decide) [(7, .int 0), (6, .int 0), (0, .ref (ad 0 0)), (1, .int v1), (2, .int v2), (3, .int v3), (4, .int v4), (5, .int v5)] rfl ?_
      refine V.pick [2, 3, 4, 5, 6, 7, 1, 0] rfl ?_
      exact l_X9_difference_52 X ih fl σ v1 v2 v3 v4 v5 0 0 h
set_option maxHeartbeats 4000000 in
set_option maxRecDepth 100000 in
theorem c_X9_difference (l : Launch) (Ω : Wd) (ad : Nat → Nat → Nat) (A : Nat → Prop) (σ : St) (a1 : Int32) (a2 : Int32) (a3 : Int32) (a4 : Int32) {res : St × Int32} (h : f_X9_difference σ a1 a2 a3 a4 = some res) : Met l yX9_difference (wsO yX9_difference cX9_difference 8 (some .int)) rm_X9_difference (PcZ Ω A (PicM Ω ad A σ) [.ref (ad 0 0), .int a1, .int a2, .int a3, .int a4]) (Qci (PicM Ω ad A) A res) 0 0 A := by
  refine Met.ofV (by decide) rfl (fun Γ hΓ X => ?_)
  have X : Fx Γ Ω A cX9_difference 8 "MappingTextsModel" rm_X9_difference (some .int) := X
  unfold f_X9_difference at h
  show V Γ (0, 0) _ A 8 _ 0 [(0, .ref (ad 0 0)), (1, .int a1), (2, .int a2), (3, .int a3), (4, .int a4)] []
  refine tv_aload_n X dX9_difference_0 rfl 0 rfl ?_
  refine tv_iload_n X dX9_difference_1 rfl 1 rfl ?_
  obtain ⟨s1, x2, hs1, h⟩ := cl_some h
  refine tv_callVi (st := []) X (c_X9_isVersion Γ.2.1 Ω ad A σ a1 hs1) ⟨gw_6_69, gw_6_66, gw_1_10, q_X9_isVersion, rfl, rfl, ⟨Nat.le_of_ble_eq_true rfl, Nat.le_of_ble_eq_true rfl⟩⟩ gw_6_68 gw_p_70 (fun H _ hz _ => PP.recv (f := 0) (i := 0) X.2.1 hz.1 (show 0 < 1 by omega) rfl rfl) rfl rfl (Nat.le_of_ble_eq_true rfl) dX9_difference_2 ?_
  refine tv_if_eq X 26 dX9_difference_5 (by decide) h (fun h => ?_) (fun h => ?_)
  · refine tv_iconst X (-1) dX9_difference_26 (by decide) ?_
    exact tv_iret X dX9_difference_27 h
  · refine tv_aload_n X dX9_difference_8 rfl 0 rfl ?_
    refine tv_iload_n X dX9_difference_9 rfl 2 rfl ?_
    obtain ⟨s3, x4, hs3, h⟩ := cl_some h
    refine tv_callVi (st := []) X (c_X9_isVersion Γ.2.1 Ω ad A s1 a2 hs3) ⟨gw_6_69, gw_6_66, gw_1_10, q_X9_isVersion, rfl, rfl, ⟨Nat.le_of_ble_eq_true rfl, Nat.le_of_ble_eq_true rfl⟩⟩ gw_6_68 gw_p_70 (fun H _ hz _ => PP.recv (f := 0) (i := 0) X.2.1 hz.1 (show 0 < 1 by omega) rfl rfl) rfl rfl (Nat.le_of_ble_eq_true rfl) dX9_difference_10 ?_
    refine tv_if_eq X 26 dX9_difference_13 (by decide) h (fun h => ?_) (fun h => ?_)
    · refine tv_iconst X (-1) dX9_difference_26 (by decide) ?_
      exact tv_iret X dX9_difference_27 h
    · refine tv_iload X dX9_difference_16 4 rfl ?_
      refine tv_iconst X 0 dX9_difference_18 (by decide) ?_
      refine tv_iconst X 2 dX9_difference_19 (by decide) ?_
      obtain ⟨s5, x6, hs5, h⟩ := cl_some h
      refine tv_callSi (st := []) X (c_X9_in Γ.2.1 Ω ad A s3 a4 0 2 hs5) ⟨gw_5_187, gw_5_185, gw_1_10, q_X9_in, rfl, rfl, ⟨Nat.le_of_ble_eq_true rfl, Nat.le_of_ble_eq_true rfl⟩⟩ gw_5_186 rfl rfl (Nat.le_of_ble_eq_true rfl) dX9_difference_20 ?_
      refine tv_if_ne X 28 dX9_difference_23 (by decide) h (fun h => ?_) (fun h => ?_)
      · refine tv_aload_n X dX9_difference_28 rfl 0 rfl ?_
        refine tv_iload_n X dX9_difference_29 rfl 1 rfl ?_
        refine tv_iload_n X dX9_difference_30 rfl 2 rfl ?_
        obtain ⟨s7, _u31, hs7, h⟩ := cl_some h
        refine tv_callVv (st := []) X (c_X9_differ Γ.2.1 Ω ad A s5 a1 a2 hs7) ⟨gw_6_177, gw_6_174, gw_1_10, q_X9_differ, rfl, rfl, ⟨Nat.le_of_ble_eq_true rfl, Nat.le_of_ble_eq_true rfl⟩⟩ gw_6_176 gw_p_86 (fun H _ hz _ => PP.recv (f := 0) (i := 0) X.2.1 hz.1 (show 0 < 1 by omega) rfl rfl) rfl rfl (Nat.le_of_ble_eq_true rfl) dX9_difference_31 ?_
        refine tv_iconst X 0 dX9_difference_34 (by decide) ?_
        refine tv_istore X dX9_difference_35 (by decide) [(5, .int 0), (0, .ref (ad 0 0)), (1, .int a1), (2, .int a2), (3, .int a3), (4, .int a4)] rfl ?_
        refine V.pick [1, 2, 3, 4, 5, 0] rfl ?_
        exact l_X9_difference_37 X fl s7 a1 a2 a3 a4 0 h
      · refine tv_iconst X (-1) dX9_difference_26 (by decide) ?_
        exact tv_iret X dX9_difference_27 h
set_option maxHeartbeats 4000000 in
set_option maxRecDepth 100000 in
theorem l_X9_told_140 {Γ : Cx} {Ω : Wd} {ad : Nat → Nat → Nat} {A : Nat → Prop} {res : St × Int32} (X : Fx Γ Ω A cX9_told 5 "MappingTextsModel" rm_X9_told (some .int)) {k107 : St → Int32 → Int32 → Int32 → Option (St × Int32)} (hk107 : ∀ (σ : St) (v1 : Int32) (v3 : Int32) (v4 : Int32), k107 σ v1 v3 v4 = some res → V Γ (0, 0) (Qe Γ (0, 0) A (Qci (PicM Ω ad A) A res)) A 5 (PicM Ω ad A σ) 107 [(0, .ref (ad 0 0)), (1, .int v1), (3, .int v3), (4, .int v4)] []) (σ : St) (t0 : Int32) (t1 : Int32) (v1 : Int32) (v4 : Int32) (h : f_X9_told_140 k107 σ t0 t1 v1 v4 = some res) : V Γ (0, 0) (Qe Γ (0, 0) A (Qci (PicM Ω ad A) A res)) A 5 (PicM Ω ad A σ) 140 [(0, .ref (ad 0 0)), (1, .int v1), (4, .int v4)] [.int t1, .int t0] := by
  unfold f_X9_told_140 at h
  refine tv_iadd X dX9_told_140 ?_
  refine tv_istore_n X dX9_told_141 rfl (by decide) [(3, .int (t0 + t1)), (0, .ref (ad 0 0)), (1, .int v1), (4, .int v4)] rfl ?_
  refine tv_iinc X (v4 + 1) dX9_told_142 3 rfl rfl (by decide) [(4, .int (v4 + 1)), (3, .int (t0 + t1)), (0, .ref (ad 0 0)), (1, .int v1)] rfl ?_
  refine tv_goto X 107 dX9_told_145 (by decide) ?_
  refine V.pick [2, 3, 1, 0] rfl ?_
  exact hk107 σ v1 (t0 + t1) (v4 + 1) h
set_option maxHeartbeats 4000000 in
set_option maxRecDepth 100000 in
theorem l_X9_told_107 {Γ : Cx} {Ω : Wd} {ad : Nat → Nat → Nat} {A : Nat → Prop} {res : St × Int32} (X : Fx Γ Ω A cX9_told 5 "MappingTextsModel" rm_X9_told (some .int)) : ∀ (n : Nat) (σ : St) (v1 : Int32) (v3 : Int32) (v4 : Int32), f_X9_told_107 n σ v1 v3 v4 = some res → V Γ (0, 0) (Qe Γ (0, 0) A (Qci (PicM Ω ad A) A res)) A 5 (PicM Ω ad A σ) 107 [(0, .ref (ad 0 0)), (1, .int v1), (3, .int v3), (4, .int v4)] [] := by
  intro n
  induction n with
  | zero =>
    intro σ v1 v3 v4 h
    cases (show none = some res from h)
  | succ n ih =>
    intro σ v1 v3 v4 h
    rw [f_X9_told_107] at h
    refine tv_iload X dX9_told_107 3 rfl ?_
    refine tv_aload_n X dX9_told_109 rfl 0 rfl ?_
    refine gM8_11 X (by omega) gw_5_15 dX9_told_110 ?_
    refine tv_iload_n X dX9_told_113 rfl 1 rfl ?_
    refine iaM (n := 8) X (by omega) rfl dX9_told_114 h (fun j9 hj9 h => ?_)
    refine tv_icmp_ge X 148 dX9_told_115 (by decide) h (fun h => ?_) (fun h => ?_)
    · refine tv_iload_n X dX9_told_148 rfl 2 rfl ?_
      exact tv_iret X dX9_told_149 h
    · refine tv_iload_n X dX9_told_118 rfl 2 rfl ?_
      refine tv_aload_n X dX9_told_119 rfl 0 rfl ?_
      refine gM8_16 X (by omega) gw_5_20 dX9_told_120 ?_
      refine tv_bipush X 40 dX9_told_123 (by decide) ?_
      refine tv_iload_n X dX9_told_125 rfl 1 rfl ?_
      refine tv_imul X dX9_told_126 ?_
      refine tv_iload X dX9_told_127 3 rfl ?_
      refine tv_iadd X dX9_told_129 ?_
      refine iaM (n := 320) X (by omega) rfl dX9_told_130 h (fun j10 hj10 h => ?_)
      refine tv_iconst X 4 dX9_told_131 (by decide) ?_
      refine tv_icmp_gt X 139 dX9_told_132 (by decide) h (fun h => ?_) (fun h => ?_)
      · refine tv_iconst X 0 dX9_told_139 (by decide) ?_
        refine V.pick [0, 1, 3] rfl ?_
        exact l_X9_told_140 X ih σ v3 0 v1 v4 h
      · refine tv_iconst X 1 dX9_told_135 (by decide) ?_
        refine tv_goto X 140 dX9_told_136 (by decide) ?_
        refine V.pick [0, 1, 3] rfl ?_
        exact l_X9_told_140 X ih σ v3 1 v1 v4 h
set_option maxHeartbeats 4000000 in
set_option maxRecDepth 100000 in
theorem l_X9_told_25 {Γ : Cx} {Ω : Wd} {ad : Nat → Nat → Nat} {A : Nat → Prop} {res : St × Int32} (X : Fx Γ Ω A cX9_told 5 "MappingTextsModel" rm_X9_told (some .int)) (σ : St) (v1 : Int32) (v2 : Int32) (h : f_X9_told_25 σ v1 v2 = some res) : V Γ (0, 0) (Qe Γ (0, 0) A (Qci (PicM Ω ad A) A res)) A 5 (PicM Ω ad A σ) 25 [(0, .ref (ad 0 0)), (1, .int v1), (2, .int v2)] [] := by
  unfold f_X9_told_25 at h
  refine tv_iconst X 0 dX9_told_25 (by decide) ?_
  refine tv_istore_n X dX9_told_26 rfl (by decide) [(3, .int 0), (0, .ref (ad 0 0)), (1, .int v1), (2, .int v2)] rfl ?_
  refine tv_iload_n X dX9_told_27 rfl 3 rfl ?_
  refine tv_nm h (fun x5 h => ?_)
  by_cases c28_0 : x5 = 0
  · rw [if_pos c28_0] at h
    refine tv_tableIn 68 X dX9_told_28 (by rw [c28_0]; decide) (by rw [c28_0]; decide) (by rw [c28_0]; rfl) (by decide) ?_
    refine tv_aload_n X dX9_told_68 rfl 1 rfl ?_
    refine gM8_10 X (by omega) gw_5_14 dX9_told_69 ?_
    exact tv_iret X dX9_told_72 h
  rw [if_neg c28_0] at h
  by_cases c28_1 : x5 = 1
  · rw [if_pos c28_1] at h
    refine tv_tableIn 73 X dX9_told_28 (by rw [c28_1]; decide) (by rw [c28_1]; decide) (by rw [c28_1]; rfl) (by decide) ?_
    refine tv_aload_n X dX9_told_73 rfl 1 rfl ?_
    refine gM8_3 X (by omega) gw_5_7 dX9_told_74 ?_
    exact tv_iret X dX9_told_77 h
  rw [if_neg c28_1] at h
  by_cases c28_2 : x5 = 2
  · rw [if_pos c28_2] at h
    refine tv_tableIn 78 X dX9_told_28 (by rw [c28_2]; decide) (by rw [c28_2]; decide) (by rw [c28_2]; rfl) (by decide) ?_
    refine tv_aload_n X dX9_told_78 rfl 1 rfl ?_
    refine gM8_6 X (by omega) gw_5_10 dX9_told_79 ?_
    exact tv_iret X dX9_told_82 h
  rw [if_neg c28_2] at h
  by_cases c28_3 : x5 = 3
  · rw [if_pos c28_3] at h
    refine tv_tableIn 83 X dX9_told_28 (by rw [c28_3]; decide) (by rw [c28_3]; decide) (by rw [c28_3]; rfl) (by decide) ?_
    refine tv_aload_n X dX9_told_83 rfl 1 rfl ?_
    refine gM8_11 X (by omega) gw_5_15 dX9_told_84 ?_
    refine tv_iload_n X dX9_told_87 rfl 2 rfl ?_
    refine iaM (n := 8) X (by omega) rfl dX9_told_88 h (fun j6 hj6 h => ?_)
    exact tv_iret X dX9_told_89 h
  rw [if_neg c28_3] at h
  by_cases c28_4 : x5 = 4
  · rw [if_pos c28_4] at h
    refine tv_tableIn 90 X dX9_told_28 (by rw [c28_4]; decide) (by rw [c28_4]; decide) (by rw [c28_4]; rfl) (by decide) ?_
    refine tv_aload_n X dX9_told_90 rfl 1 rfl ?_
    refine gM8_12 X (by omega) gw_5_16 dX9_told_91 ?_
    refine tv_iload_n X dX9_told_94 rfl 2 rfl ?_
    refine iaM (n := 8) X (by omega) rfl dX9_told_95 h (fun j7 hj7 h => ?_)
    exact tv_iret X dX9_told_96 h
  rw [if_neg c28_4] at h
  by_cases c28_5 : x5 = 5
  · rw [if_pos c28_5] at h
    refine tv_tableIn 97 X dX9_told_28 (by rw [c28_5]; decide) (by rw [c28_5]; decide) (by rw [c28_5]; rfl) (by decide) ?_
    refine tv_aload_n X dX9_told_97 rfl 1 rfl ?_
    refine gM8_13 X (by omega) gw_5_17 dX9_told_98 ?_
    refine tv_iload_n X dX9_told_101 rfl 2 rfl ?_
    refine iaM (n := 8) X (by omega) rfl dX9_told_102 h (fun j8 hj8 h => ?_)
    exact tv_iret X dX9_told_103 h
  rw [if_neg c28_5] at h
  have zc28_0 := ne_toInt 0 c28_0 (by decide)
  have zc28_1 := ne_toInt 1 c28_1 (by decide)
  have zc28_2 := ne_toInt 2 c28_2 (by decide)
  have zc28_3 := ne_toInt 3 c28_3 (by decide)
  have zc28_4 := ne_toInt 4 c28_4 (by decide)
  have zc28_5 := ne_toInt 5 c28_5 (by decide)
  refine tv_tableOut 104 X dX9_told_28 (by omega) (by decide) ?_
  refine tv_iconst X 0 dX9_told_104 (by decide) ?_
  refine tv_istore X dX9_told_105 (by decide) [(4, .int 0), (3, .int 0), (0, .ref (ad 0 0)), (1, .int v1), (2, .int v2)] rfl ?_
  refine V.pick [2, 3, 1, 0] rfl ?_
  exact l_X9_told_107 X fl σ v1 0 0 h
set_option maxHeartbeats 4000000 in
set_option maxRecDepth 100000 in
theorem c_X9_told (l : Launch) (Ω : Wd) (ad : Nat → Nat → Nat) (A : Nat → Prop) (σ : St) (a1 : Int32) (a2 : Int32) {res : St × Int32} (h : f_X9_told σ a1 a2 = some res) : Met l yX9_told (wsO yX9_told cX9_told 5 (some .int)) rm_X9_told (PcZ Ω A (PicM Ω ad A σ) [.ref (ad 0 0), .int a1, .int a2]) (Qci (PicM Ω ad A) A res) 0 0 A := by
  refine Met.ofV (by decide) rfl (fun Γ hΓ X => ?_)
  have X : Fx Γ Ω A cX9_told 5 "MappingTextsModel" rm_X9_told (some .int) := X
  unfold f_X9_told at h
  show V Γ (0, 0) _ A 5 _ 0 [(0, .ref (ad 0 0)), (1, .int a1), (2, .int a2)] []
  refine tv_iload_n X dX9_told_0 rfl 2 rfl ?_
  refine tv_iconst X 0 dX9_told_1 (by decide) ?_
  refine tv_bipush X 6 dX9_told_2 (by decide) ?_
  obtain ⟨s1, x2, hs1, h⟩ := cl_some h
  refine tv_callSi (st := []) X (c_X9_in Γ.2.1 Ω ad A σ a2 0 6 hs1) ⟨gw_5_187, gw_5_185, gw_1_10, q_X9_in, rfl, rfl, ⟨Nat.le_of_ble_eq_true rfl, Nat.le_of_ble_eq_true rfl⟩⟩ gw_5_186 rfl rfl (Nat.le_of_ble_eq_true rfl) dX9_told_4 ?_
  refine tv_if_eq X 23 dX9_told_7 (by decide) h (fun h => ?_) (fun h => ?_)
  · refine tv_iconst X (-1) dX9_told_23 (by decide) ?_
    exact tv_iret X dX9_told_24 h
  · refine tv_iload_n X dX9_told_10 rfl 2 rfl ?_
    refine tv_iconst X 2 dX9_told_11 (by decide) ?_
    refine tv_icmp_le X 25 dX9_told_12 (by decide) h (fun h => ?_) (fun h => ?_)
    · exact l_X9_told_25 X s1 a1 a2 h
    · refine tv_aload_n X dX9_told_15 rfl 0 rfl ?_
      refine tv_iload_n X dX9_told_16 rfl 1 rfl ?_
      obtain ⟨s3, x4, hs3, h⟩ := cl_some h
      refine tv_callVi (st := []) X (c_X9_isVersion Γ.2.1 Ω ad A s1 a1 hs3) ⟨gw_6_69, gw_6_66, gw_1_10, q_X9_isVersion, rfl, rfl, ⟨Nat.le_of_ble_eq_true rfl, Nat.le_of_ble_eq_true rfl⟩⟩ gw_6_68 gw_p_70 (fun H _ hz _ => PP.recv (f := 0) (i := 0) X.2.1 hz.1 (show 0 < 1 by omega) rfl rfl) rfl rfl (Nat.le_of_ble_eq_true rfl) dX9_told_17 ?_
      refine tv_if_ne X 25 dX9_told_20 (by decide) h (fun h => ?_) (fun h => ?_)
      · exact l_X9_told_25 X s3 a1 a2 h
      · refine tv_iconst X (-1) dX9_told_23 (by decide) ?_
        exact tv_iret X dX9_told_24 h
