set_option maxHeartbeats 4000000 in
set_option maxRecDepth 100000 in
theorem l_X7_printBetween_20 {Γ : Cx} {Ω : Wd} {ad : Nat → Nat → Nat} {A : Nat → Prop} {res : St × Unit} (X : Fx Γ Ω A cX7_printBetween 4 "MappingTexts$Version" rm_X7_printBetween none) : ∀ (n : Nat) (σ : St) (v0 : Nat) (v1 : Int32) (v3 : Int32) (_ : v0 < 773), f_X7_printBetween_20 n σ v0 v1 v3 = some res → V Γ (0, 0) (Qe Γ (0, 0) A (Qcv (PicX Ω ad A) A res)) A 4 (PicX Ω ad A σ) 20 [(0, .ref (ad 1 v0)), (1, .int v1), (3, .int v3)] [] := by
  intro n
  induction n with
  | zero =>
    intro σ v0 v1 v3 bv0 h
    cases (show none = some res from h)
  | succ n ih =>
    intro σ v0 v1 v3 bv0 h
    rw [f_X7_printBetween_20] at h
    refine tv_iload_n X dX7_printBetween_20 rfl 2 rfl ?_
    refine tv_iload_n X dX7_printBetween_21 rfl 1 rfl ?_
    refine tv_icmp_ge X 37 dX7_printBetween_22 (by decide) h (fun h => ?_) (fun h => ?_)
    · exact tv_vret X dX7_printBetween_37 h
    · refine tv_aload_n X dX7_printBetween_25 rfl 0 rfl ?_
      refine tv_ldcS X 17 (List.mem_of_getElem? (i := 19) rfl) dX7_printBetween_26 ?_
      obtain ⟨s3, _u28, hs3, h⟩ := cl_some h
      refine tv_callVv (st := []) X (c_X3_addWord Γ.2.1 Ω ad A σ v0 17 (by omega) (by decide) hs3) ⟨gw_4_140, gw_4_137, gw_1_2, q_X3_addWord, rfl, rfl, ⟨Nat.le_of_ble_eq_true rfl, Nat.le_of_ble_eq_true rfl⟩⟩ gw_4_138 gw_4_139 (fun H _ hz _ => PP.recv (f := 1) (i := v0) X.2.1 hz.1 (show v0 < 773 by omega) rfl rfl) rfl rfl (Nat.le_of_ble_eq_true rfl) dX7_printBetween_28 ?_
      refine tv_iinc X (v3 + 1) dX7_printBetween_31 2 rfl rfl (by decide) [(3, .int (v3 + 1)), (0, .ref (ad 1 v0)), (1, .int v1)] rfl ?_
      refine tv_goto X 20 dX7_printBetween_34 (by decide) ?_
      refine V.pick [1, 2, 0] rfl ?_
      exact ih s3 v0 v1 (v3 + 1) (by omega) h
set_option maxHeartbeats 4000000 in
set_option maxRecDepth 100000 in
theorem c_X7_printBetween (l : Launch) (Ω : Wd) (ad : Nat → Nat → Nat) (A : Nat → Prop) (σ : St) (a1 : Nat) (a2 : Int32) (a3 : Int32) (ba1 : a1 < 773) {res : St × Unit} (h : f_X7_printBetween σ a1 a2 a3 = some res) : Met l yX7_printBetween (wsO yX7_printBetween cX7_printBetween 4 none) rm_X7_printBetween (PcZ Ω A (PicX Ω ad A σ) [.ref (ad 1 a1), .int a2, .int a3]) (Qcv (PicX Ω ad A) A res) 0 0 A := by
  refine Met.ofV (by decide) rfl (fun Γ hΓ X => ?_)
  have X : Fx Γ Ω A cX7_printBetween 4 "MappingTexts$Version" rm_X7_printBetween none := X
  unfold f_X7_printBetween at h
  show V Γ (0, 0) _ A 4 _ 0 [(0, .ref (ad 1 a1)), (1, .int a2), (2, .int a3)] []
  refine tv_iload_n X dX7_printBetween_0 rfl 2 rfl ?_
  refine tv_iload_n X dX7_printBetween_1 rfl 1 rfl ?_
  refine tv_icmp_le X 12 dX7_printBetween_2 (by decide) h (fun h => ?_) (fun h => ?_)
  · refine tv_aload_n X dX7_printBetween_12 rfl 0 rfl ?_
    refine tv_bipush X 59 dX7_printBetween_13 (by decide) ?_
    obtain ⟨s1, _u15, hs1, h⟩ := cl_some h
    refine tv_callVv (st := []) X (c_X3_add Γ.2.1 Ω ad A σ a1 59 (by omega) hs1) ⟨gw_2_86, gw_3_5, gw_1_2, q_X3_add, rfl, rfl, ⟨Nat.le_of_ble_eq_true rfl, Nat.le_of_ble_eq_true rfl⟩⟩ gw_2_84 gw_2_85 (fun H _ hz _ => PP.recv (f := 1) (i := a1) X.2.1 hz.1 (show a1 < 773 by omega) rfl rfl) rfl rfl (Nat.le_of_ble_eq_true rfl) dX7_printBetween_15 ?_
    refine tv_iload_n X dX7_printBetween_18 rfl 2 rfl ?_
    refine tv_istore_n X dX7_printBetween_19 rfl (by decide) [(3, .int a3), (0, .ref (ad 1 a1)), (1, .int a2), (2, .int a3)] rfl ?_
    refine V.pick [1, 2, 0] rfl ?_
    exact l_X7_printBetween_20 X fl s1 a1 a2 a3 (by omega) h
  · refine tv_aload_n X dX7_printBetween_5 rfl 0 rfl ?_
    refine tv_bipush X 123 dX7_printBetween_6 (by decide) ?_
    obtain ⟨s2, _u8, hs2, h⟩ := cl_some h
    refine tv_callVv (st := []) X (c_X3_add Γ.2.1 Ω ad A σ a1 123 (by omega) hs2) ⟨gw_2_86, gw_3_5, gw_1_2, q_X3_add, rfl, rfl, ⟨Nat.le_of_ble_eq_true rfl, Nat.le_of_ble_eq_true rfl⟩⟩ gw_2_84 gw_2_85 (fun H _ hz _ => PP.recv (f := 1) (i := a1) X.2.1 hz.1 (show a1 < 773 by omega) rfl rfl) rfl rfl (Nat.le_of_ble_eq_true rfl) dX7_printBetween_8 ?_
    exact tv_vret X dX7_printBetween_11 h
set_option maxHeartbeats 4000000 in
set_option maxRecDepth 100000 in
theorem c_X7_printPath (l : Launch) (Ω : Wd) (ad : Nat → Nat → Nat) (A : Nat → Prop) (σ : St) (o : Nat) (a1 : Nat) (a2 : Int32) (bo : o < 8) (ba1 : a1 < 773) {res : St × Unit} (h : f_X7_printPath σ o a1 a2 = some res) : Met l yX7_printPath (wsO yX7_printPath cX7_printPath 3 none) rm_X7_printPath (PcZ Ω A (PicX Ω ad A σ) [.ref (ad 3 o), .ref (ad 1 a1), .int a2]) (Qcv (PicX Ω ad A) A res) 0 0 A := by
  refine Met.ofV (by decide) rfl (fun Γ hΓ X => ?_)
  have X : Fx Γ Ω A cX7_printPath 3 "MappingTexts$Version" rm_X7_printPath none := X
  unfold f_X7_printPath at h
  show V Γ (0, 0) _ A 3 _ 0 [(0, .ref (ad 3 o)), (1, .ref (ad 1 a1)), (2, .int a2)] []
  refine tv_iload_n X dX7_printPath_0 rfl 2 rfl ?_
  refine tv_if_lt X 38 dX7_printPath_1 (by decide) h (fun h => ?_) (fun h => ?_)
  · exact tv_vret X dX7_printPath_38 h
  · refine tv_iload_n X dX7_printPath_4 rfl 2 rfl ?_
    refine tv_aload_n X dX7_printPath_5 rfl 0 rfl ?_
    refine gX6_3 X (by omega) gw_1_201 dX7_printPath_6 ?_
    refine tv_icmp_ge X 38 dX7_printPath_9 (by decide) h (fun h => ?_) (fun h => ?_)
    · exact tv_vret X dX7_printPath_38 h
    · refine tv_aload_n X dX7_printPath_12 rfl 1 rfl ?_
      refine tv_aload_n X dX7_printPath_13 rfl 0 rfl ?_
      refine gX6_0 X (by omega) gw_1_193 dX7_printPath_14 ?_
      refine tv_iload_n X dX7_printPath_17 rfl 2 rfl ?_
      refine aaX6 X (by omega) dX7_printPath_18 h (fun j1 hj1 h => ?_)
      refine gX1_0 X (by omega) gw_1_110 dX7_printPath_19 ?_
      refine tv_iconst X 0 dX7_printPath_22 (by decide) ?_
      refine tv_aload_n X dX7_printPath_23 rfl 0 rfl ?_
      refine gX6_0 X (by omega) gw_1_193 dX7_printPath_24 ?_
      refine tv_iload_n X dX7_printPath_27 rfl 2 rfl ?_
      refine aaX6 X (by omega) dX7_printPath_28 h (fun j2 hj2 h => ?_)
      refine gX1_0 X (by omega) gw_1_110 dX7_printPath_29 ?_
      obtain ⟨s3, x4, hs3, h⟩ := cl_some h
      refine tv_callVi (st := [.int 0, .ref (ad 1 (5 + 2 * (40 * o + j1))), .ref (ad 1 a1)]) X (c_X3_length Γ.2.1 Ω ad A σ (5 + 2 * (40 * o + j2)) (by omega) hs3) ⟨gw_2_90, gw_2_237, gw_1_2, q_X3_length, rfl, rfl, ⟨Nat.le_of_ble_eq_true rfl, Nat.le_of_ble_eq_true rfl⟩⟩ gw_2_88 gw_2_89 (fun H _ hz _ => PP.recv (f := 1) (i := (5 + 2 * (40 * o + j2))) X.2.1 hz.1 (show (5 + 2 * (40 * o + j2)) < 773 by omega) rfl rfl) rfl rfl (Nat.le_of_ble_eq_true rfl) dX7_printPath_32 ?_
      obtain ⟨s5, _u35, hs5, h⟩ := cl_some h
      refine tv_callVv (st := []) X (c_X3_addPart Γ.2.1 Ω ad A s3 a1 (5 + 2 * (40 * o + j1)) 0 x4 (by omega) (by omega) hs5) ⟨gw_3_1, gw_2_238, gw_1_2, q_X3_addPart, rfl, rfl, ⟨Nat.le_of_ble_eq_true rfl, Nat.le_of_ble_eq_true rfl⟩⟩ gw_2_239 gw_3_0 (fun H _ hz _ => PP.recv (f := 1) (i := a1) X.2.1 hz.1 (show a1 < 773 by omega) rfl rfl) rfl rfl (Nat.le_of_ble_eq_true rfl) dX7_printPath_35 ?_
      exact tv_vret X dX7_printPath_38 h
set_option maxHeartbeats 4000000 in
set_option maxRecDepth 100000 in
theorem c_X7_printOption (l : Launch) (Ω : Wd) (ad : Nat → Nat → Nat) (A : Nat → Prop) (σ : St) (o : Nat) (a1 : Nat) (a2 : Nat) (a3 : Int32) (bo : o < 8) (ba1 : a1 < 773) (ba2 : a2 < 320) {res : St × Unit} (h : f_X7_printOption σ o a1 a2 a3 = some res) : Met l yX7_printOption (wsO yX7_printOption cX7_printOption 4 none) rm_X7_printOption (PcZ Ω A (PicX Ω ad A σ) [.ref (ad 3 o), .ref (ad 1 a1), .ref (ad 4 a2), .int a3]) (Qcv (PicX Ω ad A) A res) 0 0 A := by
  refine Met.ofV (by decide) rfl (fun Γ hΓ X => ?_)
  have X : Fx Γ Ω A cX7_printOption 4 "MappingTexts$Version" rm_X7_printOption none := X
  unfold f_X7_printOption at h
  show V Γ (0, 0) _ A 4 _ 0 [(0, .ref (ad 3 o)), (1, .ref (ad 1 a1)), (2, .ref (ad 4 a2)), (3, .int a3)] []
  refine tv_aload_n X dX7_printOption_0 rfl 1 rfl ?_
  refine tv_iload_n X dX7_printOption_1 rfl 3 rfl ?_
  obtain ⟨s1, x2, hs1, h⟩ := cl_some h
  have hbx2 := b_X2_optionWord hs1
  refine tv_callSr (st := [.ref (ad 1 a1)]) X (c_X2_optionWord Γ.2.1 Ω ad A σ a3 hs1) ⟨gw_3_97, gw_4_152, gw_1_16, q_X2_optionWord, rfl, rfl, ⟨Nat.le_of_ble_eq_true rfl, Nat.le_of_ble_eq_true rfl⟩⟩ gw_3_96 rfl rfl (Nat.le_of_ble_eq_true rfl) dX7_printOption_2 ?_
  obtain ⟨s3, _u5, hs3, h⟩ := cl_some h
  refine tv_callVv (st := []) X (c_X3_addWord Γ.2.1 Ω ad A s1 a1 x2 (by omega) (by omega) hs3) ⟨gw_4_140, gw_4_137, gw_1_2, q_X3_addWord, rfl, rfl, ⟨Nat.le_of_ble_eq_true rfl, Nat.le_of_ble_eq_true rfl⟩⟩ gw_4_138 gw_4_139 (fun H _ hz _ => PP.recv (f := 1) (i := a1) X.2.1 hz.1 (show a1 < 773 by omega) rfl rfl) rfl rfl (Nat.le_of_ble_eq_true rfl) dX7_printOption_5 ?_
  refine tv_iload_n X dX7_printOption_8 rfl 3 rfl ?_
  refine tv_iconst X 3 dX7_printOption_9 (by decide) ?_
  refine tv_icmp_ge X 14 dX7_printOption_10 (by decide) h (fun h => ?_) (fun h => ?_)
  · refine tv_aload_n X dX7_printOption_14 rfl 1 rfl ?_
    refine tv_bipush X 61 dX7_printOption_15 (by decide) ?_
    obtain ⟨s4, _u17, hs4, h⟩ := cl_some h
    refine tv_callVv (st := []) X (c_X3_add Γ.2.1 Ω ad A s3 a1 61 (by omega) hs4) ⟨gw_2_86, gw_3_5, gw_1_2, q_X3_add, rfl, rfl, ⟨Nat.le_of_ble_eq_true rfl, Nat.le_of_ble_eq_true rfl⟩⟩ gw_2_84 gw_2_85 (fun H _ hz _ => PP.recv (f := 1) (i := a1) X.2.1 hz.1 (show a1 < 773 by omega) rfl rfl) rfl rfl (Nat.le_of_ble_eq_true rfl) dX7_printOption_17 ?_
    refine tv_iload_n X dX7_printOption_20 rfl 3 rfl ?_
    refine tv_nm h (fun x5 h => ?_)
    by_cases c21_3 : x5 = 3
    · rw [if_pos c21_3] at h
      refine tv_tableIn 48 X dX7_printOption_21 (by rw [c21_3]; decide) (by rw [c21_3]; decide) (by rw [c21_3]; rfl) (by decide) ?_
      refine tv_aload_n X dX7_printOption_48 rfl 1 rfl ?_
      refine tv_aload_n X dX7_printOption_49 rfl 2 rfl ?_
      refine gX1_4 X (by omega) gw_1_131 dX7_printOption_50 ?_
      obtain ⟨s6, _u53, hs6, h⟩ := cl_some h
      refine tv_callVv (st := []) X (c_X3_addNumber Γ.2.1 Ω ad A s4 a1 (gi s4 104 a2) (by omega) hs6) ⟨gw_4_156, gw_4_153, gw_1_2, q_X3_addNumber, rfl, rfl, ⟨Nat.le_of_ble_eq_true rfl, Nat.le_of_ble_eq_true rfl⟩⟩ gw_4_154 gw_4_155 (fun H _ hz _ => PP.recv (f := 1) (i := a1) X.2.1 hz.1 (show a1 < 773 by omega) rfl rfl) rfl rfl (Nat.le_of_ble_eq_true rfl) dX7_printOption_53 ?_
      refine tv_goto X 91 dX7_printOption_56 (by decide) ?_
      exact tv_vret X dX7_printOption_91 h
    rw [if_neg c21_3] at h
    by_cases c21_4 : x5 = 4
    · rw [if_pos c21_4] at h
      refine tv_tableIn 70 X dX7_printOption_21 (by rw [c21_4]; decide) (by rw [c21_4]; decide) (by rw [c21_4]; rfl) (by decide) ?_
      refine tv_aload_n X dX7_printOption_70 rfl 0 rfl ?_
      refine tv_aload_n X dX7_printOption_71 rfl 1 rfl ?_
      refine tv_aload_n X dX7_printOption_72 rfl 2 rfl ?_
      refine gX1_5 X (by omega) gw_1_135 dX7_printOption_73 ?_
      obtain ⟨s7, _u76, hs7, h⟩ := cl_some h
      refine tv_callVv (st := []) X (c_X7_printPath Γ.2.1 Ω ad A s4 o a1 (gi s4 105 a2) (by omega) (by omega) hs7) ⟨gw_4_164, gw_4_161, gw_1_6, q_X7_printPath, rfl, rfl, ⟨Nat.le_of_ble_eq_true rfl, Nat.le_of_ble_eq_true rfl⟩⟩ gw_4_163 gw_p_46 (fun H _ hz _ => PP.recv (f := 3) (i := o) X.2.1 hz.1 (show o < 8 by omega) rfl rfl) rfl rfl (Nat.le_of_ble_eq_true rfl) dX7_printOption_76 ?_
      refine tv_goto X 91 dX7_printOption_79 (by decide) ?_
      exact tv_vret X dX7_printOption_91 h
    rw [if_neg c21_4] at h
    by_cases c21_5 : x5 = 5
    · rw [if_pos c21_5] at h
      refine tv_tableIn 59 X dX7_printOption_21 (by rw [c21_5]; decide) (by rw [c21_5]; decide) (by rw [c21_5]; rfl) (by decide) ?_
      refine tv_aload_n X dX7_printOption_59 rfl 1 rfl ?_
      refine tv_aload_n X dX7_printOption_60 rfl 2 rfl ?_
      refine gX1_1 X (by omega) gw_1_117 dX7_printOption_61 ?_
      obtain ⟨s8, _u64, hs8, h⟩ := cl_some h
      refine tv_callVv (st := []) X (c_X3_addAll Γ.2.1 Ω ad A s4 a1 (6 + 2 * a2) (by omega) (by omega) hs8) ⟨gw_4_160, gw_4_157, gw_1_2, q_X3_addAll, rfl, rfl, ⟨Nat.le_of_ble_eq_true rfl, Nat.le_of_ble_eq_true rfl⟩⟩ gw_4_158 gw_4_159 (fun H _ hz _ => PP.recv (f := 1) (i := a1) X.2.1 hz.1 (show a1 < 773 by omega) rfl rfl) rfl rfl (Nat.le_of_ble_eq_true rfl) dX7_printOption_64 ?_
      refine tv_goto X 91 dX7_printOption_67 (by decide) ?_
      exact tv_vret X dX7_printOption_91 h
    rw [if_neg c21_5] at h
    have zc21_3 := ne_toInt 3 c21_3 (by decide)
    have zc21_4 := ne_toInt 4 c21_4 (by decide)
    have zc21_5 := ne_toInt 5 c21_5 (by decide)
    refine tv_tableOut 82 X dX7_printOption_21 (by omega) (by decide) ?_
    refine tv_aload_n X dX7_printOption_82 rfl 0 rfl ?_
    refine tv_aload_n X dX7_printOption_83 rfl 1 rfl ?_
    refine tv_aload_n X dX7_printOption_84 rfl 2 rfl ?_
    refine gX1_6 X (by omega) gw_1_141 dX7_printOption_85 ?_
    obtain ⟨s9, _u88, hs9, h⟩ := cl_some h
    refine tv_callVv (st := []) X (c_X7_printPath Γ.2.1 Ω ad A s4 o a1 (gi s4 106 a2) (by omega) (by omega) hs9) ⟨gw_4_164, gw_4_161, gw_1_6, q_X7_printPath, rfl, rfl, ⟨Nat.le_of_ble_eq_true rfl, Nat.le_of_ble_eq_true rfl⟩⟩ gw_4_163 gw_p_46 (fun H _ hz _ => PP.recv (f := 3) (i := o) X.2.1 hz.1 (show o < 8 by omega) rfl rfl) rfl rfl (Nat.le_of_ble_eq_true rfl) dX7_printOption_88 ?_
    exact tv_vret X dX7_printOption_91 h
  · exact tv_vret X dX7_printOption_13 h
set_option maxHeartbeats 4000000 in
set_option maxRecDepth 100000 in
theorem l_X7_printHead_84 {Γ : Cx} {Ω : Wd} {ad : Nat → Nat → Nat} {A : Nat → Prop} {res : St × Unit} (X : Fx Γ Ω A cX7_printHead 6 "MappingTexts$Version" rm_X7_printHead none) {k50 : St → Nat → Nat → Nat → Int32 → Int32 → Option (St × Unit)} (hk50 : ∀ (σ : St) (v0 : Nat) (v1 : Nat) (v2 : Nat) (v4 : Int32) (v5 : Int32) (_ : v0 < 8) (_ : v1 < 773) (_ : v2 < 320), k50 σ v0 v1 v2 v4 v5 = some res → V Γ (0, 0) (Qe Γ (0, 0) A (Qcv (PicX Ω ad A) A res)) A 6 (PicX Ω ad A σ) 50 [(0, .ref (ad 3 v0)), (1, .ref (ad 1 v1)), (2, .ref (ad 4 v2)), (4, .int v4), (5, .int v5)] []) (σ : St) (v0 : Nat) (v1 : Nat) (v2 : Nat) (v4 : Int32) (v5 : Int32) (bv0 : v0 < 8) (bv1 : v1 < 773) (bv2 : v2 < 320) (h : f_X7_printHead_84 k50 σ v0 v1 v2 v4 v5 = some res) : V Γ (0, 0) (Qe Γ (0, 0) A (Qcv (PicX Ω ad A) A res)) A 6 (PicX Ω ad A σ) 84 [(0, .ref (ad 3 v0)), (1, .ref (ad 1 v1)), (2, .ref (ad 4 v2)), (4, .int v4), (5, .int v5)] [] := by
  unfold f_X7_printHead_84 at h
  refine tv_iinc X (v5 + 1) dX7_printHead_84 4 rfl rfl (by decide) [(5, .int (v5 + 1)), (0, .ref (ad 3 v0)), (1, .ref (ad 1 v1)), (2, .ref (ad 4 v2)), (4, .int v4)] rfl ?_
  refine tv_goto X 50 dX7_printHead_87 (by decide) ?_
  refine V.pick [1, 2, 3, 4, 0] rfl ?_
  exact hk50 σ v0 v1 v2 v4 (v5 + 1) (by omega) (by omega) (by omega) h
set_option maxHeartbeats 4000000 in
set_option maxRecDepth 100000 in
theorem l_X7_printHead_50 {Γ : Cx} {Ω : Wd} {ad : Nat → Nat → Nat} {A : Nat → Prop} {res : St × Unit} (X : Fx Γ Ω A cX7_printHead 6 "MappingTexts$Version" rm_X7_printHead none) : ∀ (n : Nat) (σ : St) (v0 : Nat) (v1 : Nat) (v2 : Nat) (v4 : Int32) (v5 : Int32) (_ : v0 < 8) (_ : v1 < 773) (_ : v2 < 320), f_X7_printHead_50 n σ v0 v1 v2 v4 v5 = some res → V Γ (0, 0) (Qe Γ (0, 0) A (Qcv (PicX Ω ad A) A res)) A 6 (PicX Ω ad A σ) 50 [(0, .ref (ad 3 v0)), (1, .ref (ad 1 v1)), (2, .ref (ad 4 v2)), (4, .int v4), (5, .int v5)] [] := by
  intro n
  induction n with
  | zero =>
    intro σ v0 v1 v2 v4 v5 bv0 bv1 bv2 h
    cases (show none = some res from h)
  | succ n ih =>
    intro σ v0 v1 v2 v4 v5 bv0 bv1 bv2 h
    rw [f_X7_printHead_50] at h
    refine tv_iload X dX7_printHead_50 4 rfl ?_
    refine tv_bipush X 7 dX7_printHead_52 (by decide) ?_
    refine tv_icmp_ge X 90 dX7_printHead_54 (by decide) h (fun h => ?_) (fun h => ?_)
    · refine tv_iload X dX7_printHead_90 3 rfl ?_
      refine tv_bipush X 44 dX7_printHead_92 (by decide) ?_
      refine tv_icmp_ne X 103 dX7_printHead_94 (by decide) h (fun h => ?_) (fun h => ?_)
      · exact tv_vret X dX7_printHead_103 h
      · refine tv_aload_n X dX7_printHead_97 rfl 1 rfl ?_
        refine tv_bipush X 41 dX7_printHead_98 (by decide) ?_
        obtain ⟨s10, _u100, hs10, h⟩ := cl_some h
        refine tv_callVv (st := []) X (c_X3_add Γ.2.1 Ω ad A σ v1 41 (by omega) hs10) ⟨gw_2_86, gw_3_5, gw_1_2, q_X3_add, rfl, rfl, ⟨Nat.le_of_ble_eq_true rfl, Nat.le_of_ble_eq_true rfl⟩⟩ gw_2_84 gw_2_85 (fun H _ hz _ => PP.recv (f := 1) (i := v1) X.2.1 hz.1 (show v1 < 773 by omega) rfl rfl) rfl rfl (Nat.le_of_ble_eq_true rfl) dX7_printHead_100 ?_
        exact tv_vret X dX7_printHead_103 h
    · refine tv_aload_n X dX7_printHead_57 rfl 2 rfl ?_
      refine tv_iload X dX7_printHead_58 4 rfl ?_
      obtain ⟨s11, x12, hs11, h⟩ := cl_some h
      refine tv_callVi (st := []) X (c_X1_has Γ.2.1 Ω ad A σ v2 v5 (by omega) hs11) ⟨gw_3_79, gw_4_147, gw_1_7, q_X1_has, rfl, rfl, ⟨Nat.le_of_ble_eq_true rfl, Nat.le_of_ble_eq_true rfl⟩⟩ gw_3_77 gw_3_78 (fun H _ hz _ => PP.recv (f := 4) (i := v2) X.2.1 hz.1 (show v2 < 320 by omega) rfl rfl) rfl rfl (Nat.le_of_ble_eq_true rfl) dX7_printHead_60 ?_
      refine tv_if_eq X 84 dX7_printHead_63 (by decide) h (fun h => ?_) (fun h => ?_)
      · exact l_X7_printHead_84 X ih s11 v0 v1 v2 v4 v5 (by omega) (by omega) (by omega) h
      · refine tv_aload_n X dX7_printHead_66 rfl 1 rfl ?_
        refine tv_iload X dX7_printHead_67 3 rfl ?_
        obtain ⟨s13, _u69, hs13, h⟩ := cl_some h
        refine tv_callVv (st := []) X (c_X3_add Γ.2.1 Ω ad A s11 v1 v4 (by omega) hs13) ⟨gw_2_86, gw_3_5, gw_1_2, q_X3_add, rfl, rfl, ⟨Nat.le_of_ble_eq_true rfl, Nat.le_of_ble_eq_true rfl⟩⟩ gw_2_84 gw_2_85 (fun H _ hz _ => PP.recv (f := 1) (i := v1) X.2.1 hz.1 (show v1 < 773 by omega) rfl rfl) rfl rfl (Nat.le_of_ble_eq_true rfl) dX7_printHead_69 ?_
        refine tv_aload_n X dX7_printHead_72 rfl 0 rfl ?_
        refine tv_aload_n X dX7_printHead_73 rfl 1 rfl ?_
        refine tv_aload_n X dX7_printHead_74 rfl 2 rfl ?_
        refine tv_iload X dX7_printHead_75 4 rfl ?_
        obtain ⟨s14, _u77, hs14, h⟩ := cl_some h
        refine tv_callVv (st := []) X (c_X7_printOption Γ.2.1 Ω ad A s13 v0 v1 v2 v5 (by omega) (by omega) (by omega) hs14) ⟨gw_4_151, gw_4_148, gw_1_6, q_X7_printOption, rfl, rfl, ⟨Nat.le_of_ble_eq_true rfl, Nat.le_of_ble_eq_true rfl⟩⟩ gw_4_150 gw_p_45 (fun H _ hz _ => PP.recv (f := 3) (i := v0) X.2.1 hz.1 (show v0 < 8 by omega) rfl rfl) rfl rfl (Nat.le_of_ble_eq_true rfl) dX7_printHead_77 ?_
        refine tv_bipush X 44 dX7_printHead_80 (by decide) ?_
        refine tv_istore X dX7_printHead_82 (by decide) [(4, .int 44), (0, .ref (ad 3 v0)), (1, .ref (ad 1 v1)), (2, .ref (ad 4 v2)), (5, .int v5)] rfl ?_
        refine V.pick [1, 2, 3, 0, 4] rfl ?_
        exact l_X7_printHead_84 X ih s14 v0 v1 v2 44 v5 (by omega) (by omega) (by omega) h
set_option maxHeartbeats 4000000 in
set_option maxRecDepth 100000 in
theorem c_X7_printHead (l : Launch) (Ω : Wd) (ad : Nat → Nat → Nat) (A : Nat → Prop) (σ : St) (o : Nat) (a1 : Nat) (a2 : Nat) (bo : o < 8) (ba1 : a1 < 773) (ba2 : a2 < 320) {res : St × Unit} (h : f_X7_printHead σ o a1 a2 = some res) : Met l yX7_printHead (wsO yX7_printHead cX7_printHead 6 none) rm_X7_printHead (PcZ Ω A (PicX Ω ad A σ) [.ref (ad 3 o), .ref (ad 1 a1), .ref (ad 4 a2)]) (Qcv (PicX Ω ad A) A res) 0 0 A := by
  refine Met.ofV (by decide) rfl (fun Γ hΓ X => ?_)
  have X : Fx Γ Ω A cX7_printHead 6 "MappingTexts$Version" rm_X7_printHead none := X
  unfold f_X7_printHead at h
  show V Γ (0, 0) _ A 6 _ 0 [(0, .ref (ad 3 o)), (1, .ref (ad 1 a1)), (2, .ref (ad 4 a2))] []
  refine tv_aload_n X dX7_printHead_0 rfl 2 rfl ?_
  refine gX1_0 X (by omega) gw_1_110 dX7_printHead_1 ?_
  obtain ⟨s1, x2, hs1, h⟩ := cl_some h
  refine tv_callVi (st := []) X (c_X3_nameStart Γ.2.1 Ω ad A σ (5 + 2 * a2) (by omega) hs1) ⟨gw_4_27, gw_4_24, gw_1_2, q_X3_nameStart, rfl, rfl, ⟨Nat.le_of_ble_eq_true rfl, Nat.le_of_ble_eq_true rfl⟩⟩ gw_4_25 gw_4_26 (fun H _ hz _ => PP.recv (f := 1) (i := (5 + 2 * a2)) X.2.1 hz.1 (show (5 + 2 * a2) < 773 by omega) rfl rfl) rfl rfl (Nat.le_of_ble_eq_true rfl) dX7_printHead_4 ?_
  refine tv_istore_n X dX7_printHead_7 rfl (by decide) [(3, .int x2), (0, .ref (ad 3 o)), (1, .ref (ad 1 a1)), (2, .ref (ad 4 a2))] rfl ?_
  refine tv_aload_n X dX7_printHead_8 rfl 2 rfl ?_
  refine tv_aload_n X dX7_printHead_9 rfl 3 rfl ?_
  refine gX1_0 X (by omega) gw_1_110 dX7_printHead_10 ?_
  refine tv_iload_n X dX7_printHead_13 rfl 0 rfl ?_
  refine tv_aload_n X dX7_printHead_14 rfl 3 rfl ?_
  refine gX1_0 X (by omega) gw_1_110 dX7_printHead_15 ?_
  obtain ⟨s3, x4, hs3, h⟩ := cl_some h
  refine tv_callVi (st := [.int x2, .ref (ad 1 (5 + 2 * a2)), .ref (ad 1 a1)]) X (c_X3_length Γ.2.1 Ω ad A s1 (5 + 2 * a2) (by omega) hs3) ⟨gw_2_90, gw_2_237, gw_1_2, q_X3_length, rfl, rfl, ⟨Nat.le_of_ble_eq_true rfl, Nat.le_of_ble_eq_true rfl⟩⟩ gw_2_88 gw_2_89 (fun H _ hz _ => PP.recv (f := 1) (i := (5 + 2 * a2)) X.2.1 hz.1 (show (5 + 2 * a2) < 773 by omega) rfl rfl) rfl rfl (Nat.le_of_ble_eq_true rfl) dX7_printHead_18 ?_
  refine tv_iload_n X dX7_printHead_21 rfl 0 rfl ?_
  refine tv_isub X dX7_printHead_22 ?_
  obtain ⟨s5, _u23, hs5, h⟩ := cl_some h
  refine tv_callVv (st := []) X (c_X3_addPart Γ.2.1 Ω ad A s3 a1 (5 + 2 * a2) x2 (x4 - x2) (by omega) (by omega) hs5) ⟨gw_3_1, gw_2_238, gw_1_2, q_X3_addPart, rfl, rfl, ⟨Nat.le_of_ble_eq_true rfl, Nat.le_of_ble_eq_true rfl⟩⟩ gw_2_239 gw_3_0 (fun H _ hz _ => PP.recv (f := 1) (i := a1) X.2.1 hz.1 (show a1 < 773 by omega) rfl rfl) rfl rfl (Nat.le_of_ble_eq_true rfl) dX7_printHead_23 ?_
  refine tv_aload_n X dX7_printHead_26 rfl 2 rfl ?_
  refine tv_bipush X 58 dX7_printHead_27 (by decide) ?_
  obtain ⟨s6, _u29, hs6, h⟩ := cl_some h
  refine tv_callVv (st := []) X (c_X3_add Γ.2.1 Ω ad A s5 a1 58 (by omega) hs6) ⟨gw_2_86, gw_3_5, gw_1_2, q_X3_add, rfl, rfl, ⟨Nat.le_of_ble_eq_true rfl, Nat.le_of_ble_eq_true rfl⟩⟩ gw_2_84 gw_2_85 (fun H _ hz _ => PP.recv (f := 1) (i := a1) X.2.1 hz.1 (show a1 < 773 by omega) rfl rfl) rfl rfl (Nat.le_of_ble_eq_true rfl) dX7_printHead_29 ?_
  refine tv_aload_n X dX7_printHead_32 rfl 2 rfl ?_
  refine tv_aload_n X dX7_printHead_33 rfl 3 rfl ?_
  refine gX1_2 X (by omega) gw_1_121 dX7_printHead_34 ?_
  obtain ⟨s7, x8, hs7, h⟩ := cl_some h
  have hbx8 := b_X2_kindWord hs7
  refine tv_callSr (st := [.ref (ad 1 a1)]) X (c_X2_kindWord Γ.2.1 Ω ad A s6 (gi s6 102 a2) hs7) ⟨gw_3_59, gw_4_146, gw_1_16, q_X2_kindWord, rfl, rfl, ⟨Nat.le_of_ble_eq_true rfl, Nat.le_of_ble_eq_true rfl⟩⟩ gw_3_58 rfl rfl (Nat.le_of_ble_eq_true rfl) dX7_printHead_37 ?_
  obtain ⟨s9, _u40, hs9, h⟩ := cl_some h
  refine tv_callVv (st := []) X (c_X3_addWord Γ.2.1 Ω ad A s7 a1 x8 (by omega) (by omega) hs9) ⟨gw_4_140, gw_4_137, gw_1_2, q_X3_addWord, rfl, rfl, ⟨Nat.le_of_ble_eq_true rfl, Nat.le_of_ble_eq_true rfl⟩⟩ gw_4_138 gw_4_139 (fun H _ hz _ => PP.recv (f := 1) (i := a1) X.2.1 hz.1 (show a1 < 773 by omega) rfl rfl) rfl rfl (Nat.le_of_ble_eq_true rfl) dX7_printHead_40 ?_
  refine tv_bipush X 40 dX7_printHead_43 (by decide) ?_
  refine tv_istore X dX7_printHead_45 (by decide) [(4, .int 40), (3, .int x2), (0, .ref (ad 3 o)), (1, .ref (ad 1 a1)), (2, .ref (ad 4 a2))] rfl ?_
  refine tv_iconst X 0 dX7_printHead_47 (by decide) ?_
  refine tv_istore X dX7_printHead_48 (by decide) [(5, .int 0), (4, .int 40), (3, .int x2), (0, .ref (ad 3 o)), (1, .ref (ad 1 a1)), (2, .ref (ad 4 a2))] rfl ?_
  refine V.pick [3, 4, 5, 1, 0] rfl ?_
  exact l_X7_printHead_50 X fl s9 o a1 a2 40 0 (by omega) (by omega) (by omega) h
set_option maxHeartbeats 4000000 in
set_option maxRecDepth 100000 in
theorem l_X7_printTo_30 {Γ : Cx} {Ω : Wd} {ad : Nat → Nat → Nat} {A : Nat → Prop} {res : St × Unit} (X : Fx Γ Ω A cX7_printTo 4 "MappingTexts$Version" rm_X7_printTo none) {k4 : St → Nat → Nat → Int32 → Int32 → Option (St × Unit)} (hk4 : ∀ (σ : St) (v0 : Nat) (v1 : Nat) (v2 : Int32) (v3 : Int32) (_ : v0 < 8) (_ : v1 < 773), k4 σ v0 v1 v2 v3 = some res → V Γ (0, 0) (Qe Γ (0, 0) A (Qcv (PicX Ω ad A) A res)) A 4 (PicX Ω ad A σ) 4 [(0, .ref (ad 3 v0)), (1, .ref (ad 1 v1)), (2, .int v2), (3, .int v3)] []) (σ : St) (v0 : Nat) (v1 : Nat) (v3 : Int32) (bv0 : v0 < 8) (bv1 : v1 < 773) (h : f_X7_printTo_30 k4 σ v0 v1 v3 = some res) : V Γ (0, 0) (Qe Γ (0, 0) A (Qcv (PicX Ω ad A) A res)) A 4 (PicX Ω ad A σ) 30 [(0, .ref (ad 3 v0)), (1, .ref (ad 1 v1)), (3, .int v3)] [] := by
  unfold f_X7_printTo_30 at h
  refine tv_aload_n X dX7_printTo_30 rfl 0 rfl ?_
  refine gX6_0 X (by omega) gw_1_193 dX7_printTo_31 ?_
  refine tv_iload_n X dX7_printTo_34 rfl 2 rfl ?_
  refine aaX6 X (by omega) dX7_printTo_35 h (fun j4 hj4 h => ?_)
  refine gX1_8 X (by omega) gw_1_148 dX7_printTo_36 ?_
  refine tv_istore_n X dX7_printTo_39 rfl (by decide) [(2, .int (gi σ 108 (40 * v0 + j4))), (0, .ref (ad 3 v0)), (1, .ref (ad 1 v1)), (3, .int v3)] rfl ?_
  refine tv_aload_n X dX7_printTo_40 rfl 1 rfl ?_
  refine tv_aload_n X dX7_printTo_41 rfl 2 rfl ?_
  refine tv_aload_n X dX7_printTo_42 rfl 1 rfl ?_
  refine gX6_0 X (by omega) gw_1_193 dX7_printTo_43 ?_
  refine tv_iload_n X dX7_printTo_46 rfl 3 rfl ?_
  refine aaX6 X (by omega) dX7_printTo_47 h (fun j5 hj5 h => ?_)
  obtain ⟨s6, _u48, hs6, h⟩ := cl_some h
  refine tv_callVv (st := []) X (c_X7_printHead Γ.2.1 Ω ad A σ v0 v1 (40 * v0 + j5) (by omega) (by omega) (by omega) hs6) ⟨gw_4_145, gw_4_142, gw_1_6, q_X7_printHead, rfl, rfl, ⟨Nat.le_of_ble_eq_true rfl, Nat.le_of_ble_eq_true rfl⟩⟩ gw_4_144 gw_p_44 (fun H _ hz _ => PP.recv (f := 3) (i := v0) X.2.1 hz.1 (show v0 < 8 by omega) rfl rfl) rfl rfl (Nat.le_of_ble_eq_true rfl) dX7_printTo_48 ?_
  refine tv_iinc X (v3 + 1) dX7_printTo_51 3 rfl rfl (by decide) [(3, .int (v3 + 1)), (2, .int (gi σ 108 (40 * v0 + j4))), (0, .ref (ad 3 v0)), (1, .ref (ad 1 v1))] rfl ?_
  refine tv_goto X 4 dX7_printTo_54 (by decide) ?_
  refine V.pick [2, 3, 1, 0] rfl ?_
  exact hk4 s6 v0 v1 (gi σ 108 (40 * v0 + j4)) (v3 + 1) (by omega) (by omega) h
set_option maxHeartbeats 4000000 in
set_option maxRecDepth 100000 in
theorem l_X7_printTo_72 {Γ : Cx} {Ω : Wd} {ad : Nat → Nat → Nat} {A : Nat → Prop} {res : St × Unit} (X : Fx Γ Ω A cX7_printTo 4 "MappingTexts$Version" rm_X7_printTo none) : ∀ (n : Nat) (σ : St) (v0 : Nat) (v1 : Nat) (v3 : Int32) (_ : v0 < 8) (_ : v1 < 773), f_X7_printTo_72 n σ v0 v1 v3 = some res → V Γ (0, 0) (Qe Γ (0, 0) A (Qcv (PicX Ω ad A) A res)) A 4 (PicX Ω ad A σ) 72 [(0, .ref (ad 3 v0)), (1, .ref (ad 1 v1)), (3, .int v3)] [] := by
  intro n
  induction n with
  | zero =>
    intro σ v0 v1 v3 bv0 bv1 h
    cases (show none = some res from h)
  | succ n ih =>
    intro σ v0 v1 v3 bv0 bv1 h
    rw [f_X7_printTo_72] at h
    refine tv_iload_n X dX7_printTo_72 rfl 2 rfl ?_
    refine tv_aload_n X dX7_printTo_73 rfl 0 rfl ?_
    refine gX6_4 X (by omega) gw_1_205 dX7_printTo_74 ?_
    refine tv_icmp_ge X 96 dX7_printTo_77 (by decide) h (fun h => ?_) (fun h => ?_)
    · refine tv_aload_n X dX7_printTo_96 rfl 0 rfl ?_
      refine gX6_5 X (by omega) gw_1_208 dX7_printTo_97 ?_
      refine tv_bipush X 40 dX7_printTo_100 (by decide) ?_
      refine tv_icmp_eq X 125 dX7_printTo_102 (by decide) h (fun h => ?_) (fun h => ?_)
      · exact tv_vret X dX7_printTo_125 h
      · refine tv_aload_n X dX7_printTo_105 rfl 1 rfl ?_
        refine tv_ldcS X 19 (List.mem_of_getElem? (i := 21) rfl) dX7_printTo_106 ?_
        obtain ⟨s7, _u108, hs7, h⟩ := cl_some h
        refine tv_callVv (st := []) X (c_X3_addWord Γ.2.1 Ω ad A σ v1 19 (by omega) (by decide) hs7) ⟨gw_4_140, gw_4_137, gw_1_2, q_X3_addWord, rfl, rfl, ⟨Nat.le_of_ble_eq_true rfl, Nat.le_of_ble_eq_true rfl⟩⟩ gw_4_138 gw_4_139 (fun H _ hz _ => PP.recv (f := 1) (i := v1) X.2.1 hz.1 (show v1 < 773 by omega) rfl rfl) rfl rfl (Nat.le_of_ble_eq_true rfl) dX7_printTo_108 ?_
        refine tv_aload_n X dX7_printTo_111 rfl 1 rfl ?_
        refine tv_aload_n X dX7_printTo_112 rfl 0 rfl ?_
        refine gX6_5 X (by omega) gw_1_208 dX7_printTo_113 ?_
        obtain ⟨s8, _u116, hs8, h⟩ := cl_some h
        refine tv_callVv (st := []) X (c_X3_addNumber Γ.2.1 Ω ad A s7 v1 (gi s7 605 v0) (by omega) hs8) ⟨gw_4_156, gw_4_153, gw_1_2, q_X3_addNumber, rfl, rfl, ⟨Nat.le_of_ble_eq_true rfl, Nat.le_of_ble_eq_true rfl⟩⟩ gw_4_154 gw_4_155 (fun H _ hz _ => PP.recv (f := 1) (i := v1) X.2.1 hz.1 (show v1 < 773 by omega) rfl rfl) rfl rfl (Nat.le_of_ble_eq_true rfl) dX7_printTo_116 ?_
        refine tv_aload_n X dX7_printTo_119 rfl 1 rfl ?_
        refine tv_bipush X 59 dX7_printTo_120 (by decide) ?_
        obtain ⟨s9, _u122, hs9, h⟩ := cl_some h
        refine tv_callVv (st := []) X (c_X3_add Γ.2.1 Ω ad A s8 v1 59 (by omega) hs9) ⟨gw_2_86, gw_3_5, gw_1_2, q_X3_add, rfl, rfl, ⟨Nat.le_of_ble_eq_true rfl, Nat.le_of_ble_eq_true rfl⟩⟩ gw_2_84 gw_2_85 (fun H _ hz _ => PP.recv (f := 1) (i := v1) X.2.1 hz.1 (show v1 < 773 by omega) rfl rfl) rfl rfl (Nat.le_of_ble_eq_true rfl) dX7_printTo_122 ?_
        exact tv_vret X dX7_printTo_125 h
    · refine tv_aload_n X dX7_printTo_80 rfl 0 rfl ?_
      refine gX6_1 X (by omega) gw_1_197 dX7_printTo_81 ?_
      refine tv_iload_n X dX7_printTo_84 rfl 2 rfl ?_
      refine aaX7 X (by omega) dX7_printTo_85 h (fun j10 hj10 h => ?_)
      refine tv_aload_n X dX7_printTo_86 rfl 1 rfl ?_
      obtain ⟨s11, _u87, hs11, h⟩ := cl_some h
      refine tv_callVv (st := []) X (c_X4_printTo Γ.2.1 Ω ad A σ (8 * v0 + j10) v1 (by omega) (by omega) hs11) ⟨gw_4_168, gw_4_165, gw_1_8, q_X4_printTo, rfl, rfl, ⟨Nat.le_of_ble_eq_true rfl, Nat.le_of_ble_eq_true rfl⟩⟩ gw_4_166 gw_4_167 (fun H _ hz _ => PP.recv (f := 5) (i := (8 * v0 + j10)) X.2.1 hz.1 (show (8 * v0 + j10) < 64 by omega) rfl rfl) rfl rfl (Nat.le_of_ble_eq_true rfl) dX7_printTo_87 ?_
      refine tv_iinc X (v3 + 1) dX7_printTo_90 2 rfl rfl (by decide) [(3, .int (v3 + 1)), (0, .ref (ad 3 v0)), (1, .ref (ad 1 v1))] rfl ?_
      refine tv_goto X 72 dX7_printTo_93 (by decide) ?_
      refine V.pick [1, 2, 0] rfl ?_
      exact ih s11 v0 v1 (v3 + 1) (by omega) (by omega) h
set_option maxHeartbeats 4000000 in
set_option maxRecDepth 100000 in
theorem l_X7_printTo_70 {Γ : Cx} {Ω : Wd} {ad : Nat → Nat → Nat} {A : Nat → Prop} {res : St × Unit} (X : Fx Γ Ω A cX7_printTo 4 "MappingTexts$Version" rm_X7_printTo none) (σ : St) (v0 : Nat) (v1 : Nat) (bv0 : v0 < 8) (bv1 : v1 < 773) (h : f_X7_printTo_70 σ v0 v1 = some res) : V Γ (0, 0) (Qe Γ (0, 0) A (Qcv (PicX Ω ad A) A res)) A 4 (PicX Ω ad A σ) 70 [(0, .ref (ad 3 v0)), (1, .ref (ad 1 v1))] [] := by
  unfold f_X7_printTo_70 at h
  refine tv_iconst X 0 dX7_printTo_70 (by decide) ?_
  refine tv_istore_n X dX7_printTo_71 rfl (by decide) [(3, .int 0), (0, .ref (ad 3 v0)), (1, .ref (ad 1 v1))] rfl ?_
  refine V.pick [1, 2, 0] rfl ?_
  exact l_X7_printTo_72 X fl σ v0 v1 0 (by omega) (by omega) h
set_option maxHeartbeats 4000000 in
set_option maxRecDepth 100000 in
theorem l_X7_printTo_4 {Γ : Cx} {Ω : Wd} {ad : Nat → Nat → Nat} {A : Nat → Prop} {res : St × Unit} (X : Fx Γ Ω A cX7_printTo 4 "MappingTexts$Version" rm_X7_printTo none) : ∀ (n : Nat) (σ : St) (v0 : Nat) (v1 : Nat) (v2 : Int32) (v3 : Int32) (_ : v0 < 8) (_ : v1 < 773), f_X7_printTo_4 n σ v0 v1 v2 v3 = some res → V Γ (0, 0) (Qe Γ (0, 0) A (Qcv (PicX Ω ad A) A res)) A 4 (PicX Ω ad A σ) 4 [(0, .ref (ad 3 v0)), (1, .ref (ad 1 v1)), (2, .int v2), (3, .int v3)] [] := by
  intro n
  induction n with
  | zero =>
    intro σ v0 v1 v2 v3 bv0 bv1 h
    cases (show none = some res from h)
  | succ n ih =>
    intro σ v0 v1 v2 v3 bv0 bv1 h
    rw [f_X7_printTo_4] at h
    refine tv_iload_n X dX7_printTo_4 rfl 3 rfl ?_
    refine tv_aload_n X dX7_printTo_5 rfl 0 rfl ?_
    refine gX6_3 X (by omega) gw_1_201 dX7_printTo_6 ?_
    refine tv_icmp_ge X 57 dX7_printTo_9 (by decide) h (fun h => ?_) (fun h => ?_)
    · refine tv_aload_n X dX7_printTo_57 rfl 0 rfl ?_
      refine gX6_3 X (by omega) gw_1_201 dX7_printTo_58 ?_
      refine tv_if_le X 70 dX7_printTo_61 (by decide) h (fun h => ?_) (fun h => ?_)
      · refine V.pick [0, 1] rfl ?_
        exact l_X7_printTo_70 X σ v0 v1 (by omega) (by omega) h
      · refine tv_aload_n X dX7_printTo_64 rfl 1 rfl ?_
        refine tv_iload_n X dX7_printTo_65 rfl 2 rfl ?_
        refine tv_iconst X 0 dX7_printTo_66 (by decide) ?_
        obtain ⟨s1, _u67, hs1, h⟩ := cl_some h
        refine tv_callSv (st := []) X (c_X7_printBetween Γ.2.1 Ω ad A σ v1 v2 0 (by omega) hs1) ⟨gw_4_135, gw_4_133, gw_1_6, q_X7_printBetween, rfl, rfl, ⟨Nat.le_of_ble_eq_true rfl, Nat.le_of_ble_eq_true rfl⟩⟩ gw_4_134 rfl rfl (Nat.le_of_ble_eq_true rfl) dX7_printTo_67 ?_
        refine V.pick [0, 1] rfl ?_
        exact l_X7_printTo_70 X s1 v0 v1 (by omega) (by omega) h
    · refine tv_iload_n X dX7_printTo_12 rfl 3 rfl ?_
      refine tv_if_le X 30 dX7_printTo_13 (by decide) h (fun h => ?_) (fun h => ?_)
      · refine V.pick [0, 1, 3] rfl ?_
        exact l_X7_printTo_30 X ih σ v0 v1 v3 (by omega) (by omega) h
      · refine tv_aload_n X dX7_printTo_16 rfl 1 rfl ?_
        refine tv_iload_n X dX7_printTo_17 rfl 2 rfl ?_
        refine tv_aload_n X dX7_printTo_18 rfl 0 rfl ?_
        refine gX6_0 X (by omega) gw_1_193 dX7_printTo_19 ?_
        refine tv_iload_n X dX7_printTo_22 rfl 3 rfl ?_
        refine aaX6 X (by omega) dX7_printTo_23 h (fun j2 hj2 h => ?_)
        refine gX1_8 X (by omega) gw_1_148 dX7_printTo_24 ?_
        obtain ⟨s3, _u27, hs3, h⟩ := cl_some h
        refine tv_callSv (st := []) X (c_X7_printBetween Γ.2.1 Ω ad A σ v1 v2 (gi σ 108 (40 * v0 + j2)) (by omega) hs3) ⟨gw_4_135, gw_4_133, gw_1_6, q_X7_printBetween, rfl, rfl, ⟨Nat.le_of_ble_eq_true rfl, Nat.le_of_ble_eq_true rfl⟩⟩ gw_4_134 rfl rfl (Nat.le_of_ble_eq_true rfl) dX7_printTo_27 ?_
        refine V.pick [0, 1, 3] rfl ?_
        exact l_X7_printTo_30 X ih s3 v0 v1 v3 (by omega) (by omega) h
set_option maxHeartbeats 4000000 in
set_option maxRecDepth 100000 in
theorem c_X7_printTo (l : Launch) (Ω : Wd) (ad : Nat → Nat → Nat) (A : Nat → Prop) (σ : St) (o : Nat) (a1 : Nat) (bo : o < 8) (ba1 : a1 < 773) {res : St × Unit} (h : f_X7_printTo σ o a1 = some res) : Met l yX7_printTo (wsO yX7_printTo cX7_printTo 4 none) rm_X7_printTo (PcZ Ω A (PicX Ω ad A σ) [.ref (ad 3 o), .ref (ad 1 a1)]) (Qcv (PicX Ω ad A) A res) 0 0 A := by
  refine Met.ofV (by decide) rfl (fun Γ hΓ X => ?_)
  have X : Fx Γ Ω A cX7_printTo 4 "MappingTexts$Version" rm_X7_printTo none := X
  unfold f_X7_printTo at h
  show V Γ (0, 0) _ A 4 _ 0 [(0, .ref (ad 3 o)), (1, .ref (ad 1 a1))] []
  refine tv_iconst X 0 dX7_printTo_0 (by decide) ?_
  refine tv_istore_n X dX7_printTo_1 rfl (by decide) [(2, .int 0), (0, .ref (ad 3 o)), (1, .ref (ad 1 a1))] rfl ?_
  refine tv_iconst X 0 dX7_printTo_2 (by decide) ?_
  refine tv_istore_n X dX7_printTo_3 rfl (by decide) [(3, .int 0), (2, .int 0), (0, .ref (ad 3 o)), (1, .ref (ad 1 a1))] rfl ?_
  refine V.pick [2, 3, 1, 0] rfl ?_
  exact l_X7_printTo_4 X fl σ o a1 0 0 (by omega) (by omega) h
set_option maxHeartbeats 4000000 in
set_option maxRecDepth 100000 in
theorem l_X8_feed_30 {Γ : Cx} {Ω : Wd} {ad : Nat → Nat → Nat} {A : Nat → Prop} {res : St × Int32} (X : Fx Γ Ω A cX8_feed 5 "MappingTexts" rm_X8_feed (some .int)) : ∀ (n : Nat) (σ : St) (v1 : Int32) (v2 : Int64) (v4 : Int32), f_X8_feed_30 n σ v1 v2 v4 = some res → V Γ (0, 0) (Qe Γ (0, 0) A (Qci (PicX Ω ad A) A res)) A 5 (PicX Ω ad A σ) 30 [(0, .ref (ad 0 0)), (1, .int v1), (2, .long v2), (4, .int v4)] [] := by
  intro n
  induction n with
  | zero =>
    intro σ v1 v2 v4 h
    cases (show none = some res from h)
  | succ n ih =>
    intro σ v1 v2 v4 h
    rw [f_X8_feed_30] at h
    refine tv_iload X dX8_feed_30 3 rfl ?_
    refine tv_iload_n X dX8_feed_32 rfl 1 rfl ?_
    refine tv_icmp_ge X 61 dX8_feed_33 (by decide) h (fun h => ?_) (fun h => ?_)
    · refine tv_aload_n X dX8_feed_61 rfl 0 rfl ?_
      refine gX7_0 X (by omega) gw_2_44 dX8_feed_62 ?_
      obtain ⟨s3, x4, hs3, h⟩ := cl_some h
      refine tv_callVi (st := []) X (c_X3_length Γ.2.1 Ω ad A σ 0 (by omega) hs3) ⟨gw_2_90, gw_2_87, gw_1_2, q_X3_length, rfl, rfl, ⟨Nat.le_of_ble_eq_true rfl, Nat.le_of_ble_eq_true rfl⟩⟩ gw_2_88 gw_2_89 (fun H _ hz _ => PP.recv (f := 1) (i := 0) X.2.1 hz.1 (show 0 < 773 by omega) rfl rfl) rfl rfl (Nat.le_of_ble_eq_true rfl) dX8_feed_65 ?_
      exact tv_iret X dX8_feed_68 h
    · refine tv_aload_n X dX8_feed_36 rfl 0 rfl ?_
      refine gX7_0 X (by omega) gw_2_44 dX8_feed_37 ?_
      refine tv_lload_n X dX8_feed_40 rfl 2 rfl ?_
      refine tv_bipush X 8 dX8_feed_41 (by decide) ?_
      refine tv_iload X dX8_feed_43 3 rfl ?_
      refine tv_imul X dX8_feed_45 ?_
      refine tv_lushr X dX8_feed_46 ?_
      refine tv_l2i X dX8_feed_47 ?_
      refine tv_sipush X 255 dX8_feed_48 (by decide) ?_
      refine tv_iand X dX8_feed_51 ?_
      obtain ⟨s5, _u52, hs5, h⟩ := cl_some h
      refine tv_callVv (st := []) X (c_X3_add Γ.2.1 Ω ad A σ 0 ((Int64.toInt32 (UInt64.toInt64 (Int64.toUInt64 v2 >>> (Int64.toUInt64 (Int32.toInt64 (8 * v4)) &&& Int64.toUInt64 63)))) &&& 255) (by omega) hs5) ⟨gw_2_86, gw_2_83, gw_1_2, q_X3_add, rfl, rfl, ⟨Nat.le_of_ble_eq_true rfl, Nat.le_of_ble_eq_true rfl⟩⟩ gw_2_84 gw_2_85 (fun H _ hz _ => PP.recv (f := 1) (i := 0) X.2.1 hz.1 (show 0 < 773 by omega) rfl rfl) rfl rfl (Nat.le_of_ble_eq_true rfl) dX8_feed_52 ?_
      refine tv_iinc X (v4 + 1) dX8_feed_55 3 rfl rfl (by decide) [(4, .int (v4 + 1)), (0, .ref (ad 0 0)), (1, .int v1), (2, .long v2)] rfl ?_
      refine tv_goto X 30 dX8_feed_58 (by decide) ?_
      refine V.pick [1, 2, 3, 0] rfl ?_
      exact ih s5 v1 v2 (v4 + 1) h
set_option maxHeartbeats 4000000 in
set_option maxRecDepth 100000 in
theorem c_X8_feed (l : Launch) (Ω : Wd) (ad : Nat → Nat → Nat) (A : Nat → Prop) (σ : St) (a1 : Int32) (a2 : Int64) {res : St × Int32} (h : f_X8_feed σ a1 a2 = some res) : Met l yX8_feed (wsO yX8_feed cX8_feed 5 (some .int)) rm_X8_feed (PcZ Ω A (PicX Ω ad A σ) [.ref (ad 0 0), .int a1, .long a2]) (Qci (PicX Ω ad A) A res) 0 0 A := by
  refine Met.ofV (by decide) rfl (fun Γ hΓ X => ?_)
  have X : Fx Γ Ω A cX8_feed 5 "MappingTexts" rm_X8_feed (some .int) := X
  unfold f_X8_feed at h
  show V Γ (0, 0) _ A 5 _ 0 [(0, .ref (ad 0 0)), (1, .int a1), (2, .long a2)] []
  refine tv_iload_n X dX8_feed_0 rfl 1 rfl ?_
  refine tv_iconst X 1 dX8_feed_1 (by decide) ?_
  refine tv_icmp_lt X 11 dX8_feed_2 (by decide) h (fun h => ?_) (fun h => ?_)
  · refine tv_iconst X (-1) dX8_feed_11 (by decide) ?_
    exact tv_iret X dX8_feed_12 h
  · refine tv_iload_n X dX8_feed_5 rfl 1 rfl ?_
    refine tv_bipush X 8 dX8_feed_6 (by decide) ?_
    refine tv_icmp_le X 13 dX8_feed_8 (by decide) h (fun h => ?_) (fun h => ?_)
    · refine tv_aload_n X dX8_feed_13 rfl 0 rfl ?_
      refine gX7_0 X (by omega) gw_2_44 dX8_feed_14 ?_
      refine tv_iload_n X dX8_feed_17 rfl 1 rfl ?_
      obtain ⟨s1, x2, hs1, h⟩ := cl_some h
      refine tv_callVi (st := []) X (c_X3_hasRoomFor Γ.2.1 Ω ad A σ 0 a1 (by omega) hs1) ⟨gw_2_82, gw_2_79, gw_1_2, q_X3_hasRoomFor, rfl, rfl, ⟨Nat.le_of_ble_eq_true rfl, Nat.le_of_ble_eq_true rfl⟩⟩ gw_2_80 gw_2_81 (fun H _ hz _ => PP.recv (f := 1) (i := 0) X.2.1 hz.1 (show 0 < 773 by omega) rfl rfl) rfl rfl (Nat.le_of_ble_eq_true rfl) dX8_feed_18 ?_
      refine tv_if_ne X 27 dX8_feed_21 (by decide) h (fun h => ?_) (fun h => ?_)
      · refine tv_iconst X 0 dX8_feed_27 (by decide) ?_
        refine tv_istore X dX8_feed_28 (by decide) [(4, .int 0), (0, .ref (ad 0 0)), (1, .int a1), (2, .long a2)] rfl ?_
        refine V.pick [1, 2, 3, 0] rfl ?_
        exact l_X8_feed_30 X fl s1 a1 a2 0 h
      · refine tv_bipush X (-3) dX8_feed_24 (by decide) ?_
        exact tv_iret X dX8_feed_26 h
    · refine tv_iconst X (-1) dX8_feed_11 (by decide) ?_
      exact tv_iret X dX8_feed_12 h
set_option maxHeartbeats 4000000 in
set_option maxRecDepth 100000 in
theorem c_X8_keep (l : Launch) (Ω : Wd) (ad : Nat → Nat → Nat) (A : Nat → Prop) (σ : St) (a1 : Nat) (ba1 : a1 < 8) {res : St × Int32} (h : f_X8_keep σ a1 = some res) : Met l yX8_keep (wsO yX8_keep cX8_keep 2 (some .int)) rm_X8_keep (PcZ Ω A (PicX Ω ad A σ) [.ref (ad 0 0), .ref (ad 3 a1)]) (Qci (PicX Ω ad A) A res) 0 0 A := by
  refine Met.ofV (by decide) rfl (fun Γ hΓ X => ?_)
  have X : Fx Γ Ω A cX8_keep 2 "MappingTexts" rm_X8_keep (some .int) := X
  unfold f_X8_keep at h
  show V Γ (0, 0) _ A 2 _ 0 [(0, .ref (ad 0 0)), (1, .ref (ad 3 a1))] []
  refine tv_aload_n X dX8_keep_0 rfl 1 rfl ?_
  obtain ⟨s1, _u1, hs1, h⟩ := cl_some h
  refine tv_callVv (st := []) X (c_X7_sortByPath Γ.2.1 Ω ad A σ a1 (by omega) hs1) ⟨gw_3_217, gw_3_214, gw_1_6, q_X7_sortByPath, rfl, rfl, ⟨Nat.le_of_ble_eq_true rfl, Nat.le_of_ble_eq_true rfl⟩⟩ gw_3_215 gw_3_216 (fun H _ hz _ => PP.recv (f := 3) (i := a1) X.2.1 hz.1 (show a1 < 8 by omega) rfl rfl) rfl rfl (Nat.le_of_ble_eq_true rfl) dX8_keep_1 ?_
  refine tv_aload_n X dX8_keep_4 rfl 0 rfl ?_
  refine tv_dup X dX8_keep_5 rfl ?_
  refine gX7_8 X (by omega) gw_2_52 dX8_keep_6 ?_
  refine tv_iconst X 1 dX8_keep_9 (by decide) ?_
  refine tv_iadd X dX8_keep_10 ?_
  refine pX7_8 X (by omega) gw_2_52 dX8_keep_11 ?_
  refine tv_ns h (fun s2 h => ?_)
  refine tv_aload_n X dX8_keep_14 rfl 0 rfl ?_
  refine gX7_8 X (by omega) gw_2_52 dX8_keep_15 ?_
  refine tv_iconst X 1 dX8_keep_18 (by decide) ?_
  refine tv_isub X dX8_keep_19 ?_
  exact tv_iret X dX8_keep_20 h
set_option maxHeartbeats 4000000 in
set_option maxRecDepth 100000 in
theorem c_X8_read (l : Launch) (Ω : Wd) (ad : Nat → Nat → Nat) (A : Nat → Prop) (σ : St) {res : St × Int32} (h : f_X8_read σ = some res) : Met l yX8_read (wsO yX8_read cX8_read 3 (some .int)) rm_X8_read (PcZ Ω A (PicX Ω ad A σ) [.ref (ad 0 0)]) (Qci (PicX Ω ad A) A res) 0 0 A := by
  refine Met.ofV (by decide) rfl (fun Γ hΓ X => ?_)
  have X : Fx Γ Ω A cX8_read 3 "MappingTexts" rm_X8_read (some .int) := X
  unfold f_X8_read at h
  show V Γ (0, 0) _ A 3 _ 0 [(0, .ref (ad 0 0))] []
  refine tv_aload_n X dX8_read_0 rfl 0 rfl ?_
  refine gX7_8 X (by omega) gw_2_52 dX8_read_1 ?_
  refine tv_bipush X 8 dX8_read_4 (by decide) ?_
  refine tv_icmp_lt X 25 dX8_read_6 (by decide) h (fun h => ?_) (fun h => ?_)
  · refine tv_aload_n X dX8_read_25 rfl 0 rfl ?_
    refine gX7_3 X (by omega) gw_2_47 dX8_read_26 ?_
    refine tv_aload_n X dX8_read_29 rfl 0 rfl ?_
    refine gX7_8 X (by omega) gw_2_52 dX8_read_30 ?_
    refine aaX12 X (by omega) dX8_read_33 h (fun j1 hj1 h => ?_)
    refine tv_astore_n X dX8_read_34 rfl (by decide) [(1, .ref (ad 3 j1)), (0, .ref (ad 0 0))] rfl ?_
    refine tv_aload_n X dX8_read_35 rfl 1 rfl ?_
    refine gX7_4 X (by omega) gw_2_48 dX8_read_36 ?_
    refine tv_aload_n X dX8_read_39 rfl 0 rfl ?_
    obtain ⟨s2, x3, hs2, h⟩ := cl_some h
    refine tv_callVi (st := []) X (c_X5_readInto Γ.2.1 Ω ad A σ j1 (by omega) hs2) ⟨gw_2_102, gw_2_99, gw_1_9, q_X5_readInto, rfl, rfl, ⟨Nat.le_of_ble_eq_true rfl, Nat.le_of_ble_eq_true rfl⟩⟩ gw_2_100 gw_2_101 (fun H _ hz _ => PP.recv (f := 10) (i := 0) X.2.1 hz.1 (show 0 < 1 by omega) rfl rfl) rfl rfl (Nat.le_of_ble_eq_true rfl) dX8_read_40 ?_
    refine tv_istore_n X dX8_read_43 rfl (by decide) [(2, .int x3), (1, .ref (ad 3 j1)), (0, .ref (ad 0 0))] rfl ?_
    refine tv_aload_n X dX8_read_44 rfl 2 rfl ?_
    refine tv_aload_n X dX8_read_45 rfl 2 rfl ?_
    refine gX7_4 X (by omega) gw_2_48 dX8_read_46 ?_
    obtain ⟨s4, x5, hs4, h⟩ := cl_some h
    refine tv_callVi (st := [.ref (ad 0 0)]) X (c_X5_placeOfFault Γ.2.1 Ω ad A s2 hs4) ⟨gw_3_209, gw_3_206, gw_1_9, q_X5_placeOfFault, rfl, rfl, ⟨Nat.le_of_ble_eq_true rfl, Nat.le_of_ble_eq_true rfl⟩⟩ gw_3_207 gw_3_208 (fun H _ hz _ => PP.recv (f := 10) (i := 0) X.2.1 hz.1 (show 0 < 1 by omega) rfl rfl) rfl rfl (Nat.le_of_ble_eq_true rfl) dX8_read_49 ?_
    refine pX7_9 X (by omega) gw_2_53 dX8_read_52 ?_
    refine tv_ns h (fun s6 h => ?_)
    refine tv_aload_n X dX8_read_55 rfl 2 rfl ?_
    refine gX7_0 X (by omega) gw_2_44 dX8_read_56 ?_
    obtain ⟨s7, _u59, hs7, h⟩ := cl_some h
    refine tv_callVv (st := []) X (c_X3_clear Γ.2.1 Ω ad A s6 0 (by omega) hs7) ⟨gw_2_98, gw_2_95, gw_1_2, q_X3_clear, rfl, rfl, ⟨Nat.le_of_ble_eq_true rfl, Nat.le_of_ble_eq_true rfl⟩⟩ gw_2_96 gw_2_97 (fun H _ hz _ => PP.recv (f := 1) (i := 0) X.2.1 hz.1 (show 0 < 773 by omega) rfl rfl) rfl rfl (Nat.le_of_ble_eq_true rfl) dX8_read_59 ?_
    refine tv_iload_n X dX8_read_62 rfl 0 rfl ?_
    refine tv_if_eq X 71 dX8_read_63 (by decide) h (fun h => ?_) (fun h => ?_)
    · refine tv_aload_n X dX8_read_71 rfl 2 rfl ?_
      refine tv_aload_n X dX8_read_72 rfl 1 rfl ?_
      obtain ⟨s8, x9, hs8, h⟩ := cl_some h
      refine tv_callVi (st := []) X (c_X8_keep Γ.2.1 Ω ad A s7 j1 (by omega) hs8) ⟨gw_3_213, gw_3_210, gw_1_1, q_X8_keep, rfl, rfl, ⟨Nat.le_of_ble_eq_true rfl, Nat.le_of_ble_eq_true rfl⟩⟩ gw_3_212 gw_p_36 (fun H _ hz _ => PP.recv (f := 0) (i := 0) X.2.1 hz.1 (show 0 < 1 by omega) rfl rfl) rfl rfl (Nat.le_of_ble_eq_true rfl) dX8_read_73 ?_
      exact tv_iret X dX8_read_76 h
    · refine tv_bipush X (-10) dX8_read_66 (by decide) ?_
      refine tv_iload_n X dX8_read_68 rfl 0 rfl ?_
      refine tv_isub X dX8_read_69 ?_
      exact tv_iret X dX8_read_70 h
  · refine tv_aload_n X dX8_read_9 rfl 0 rfl ?_
    refine tv_bipush X (-2) dX8_read_10 (by decide) ?_
    refine pX7_9 X (by omega) gw_2_53 dX8_read_12 ?_
    refine tv_ns h (fun s10 h => ?_)
    refine tv_aload_n X dX8_read_15 rfl 0 rfl ?_
    refine gX7_0 X (by omega) gw_2_44 dX8_read_16 ?_
    obtain ⟨s11, _u19, hs11, h⟩ := cl_some h
    refine tv_callVv (st := []) X (c_X3_clear Γ.2.1 Ω ad A s10 0 (by omega) hs11) ⟨gw_2_98, gw_2_95, gw_1_2, q_X3_clear, rfl, rfl, ⟨Nat.le_of_ble_eq_true rfl, Nat.le_of_ble_eq_true rfl⟩⟩ gw_2_96 gw_2_97 (fun H _ hz _ => PP.recv (f := 1) (i := 0) X.2.1 hz.1 (show 0 < 773 by omega) rfl rfl) rfl rfl (Nat.le_of_ble_eq_true rfl) dX8_read_19 ?_
    refine tv_bipush X (-3) dX8_read_22 (by decide) ?_
    exact tv_iret X dX8_read_24 h
set_option maxHeartbeats 4000000 in
set_option maxRecDepth 100000 in
theorem c_X8_place (l : Launch) (Ω : Wd) (ad : Nat → Nat → Nat) (A : Nat → Prop) (σ : St) {res : St × Int32} (h : f_X8_place σ = some res) : Met l yX8_place (wsO yX8_place cX8_place 1 (some .int)) rm_X8_place (PcZ Ω A (PicX Ω ad A σ) [.ref (ad 0 0)]) (Qci (PicX Ω ad A) A res) 0 0 A := by
  refine Met.ofV (by decide) rfl (fun Γ hΓ X => ?_)
  have X : Fx Γ Ω A cX8_place 1 "MappingTexts" rm_X8_place (some .int) := X
  unfold f_X8_place at h
  show V Γ (0, 0) _ A 1 _ 0 [(0, .ref (ad 0 0))] []
  refine tv_aload_n X dX8_place_0 rfl 0 rfl ?_
  refine gX7_9 X (by omega) gw_2_53 dX8_place_1 ?_
  exact tv_iret X dX8_place_4 h
set_option maxHeartbeats 4000000 in
set_option maxRecDepth 100000 in
theorem c_X8_growByPath (l : Launch) (Ω : Wd) (ad : Nat → Nat → Nat) (A : Nat → Prop) (σ : St) (a1 : Int32) (a2 : Int32) {res : St × Int32} (h : f_X8_growByPath σ a1 a2 = some res) : Met l yX8_growByPath (wsO yX8_growByPath cX8_growByPath 6 (some .int)) rm_X8_growByPath (PcZ Ω A (PicX Ω ad A σ) [.ref (ad 0 0), .int a1, .int a2]) (Qci (PicX Ω ad A) A res) 0 0 A := by
  refine Met.ofV (by decide) rfl (fun Γ hΓ X => ?_)
  have X : Fx Γ Ω A cX8_growByPath 6 "MappingTexts" rm_X8_growByPath (some .int) := X
  unfold f_X8_growByPath at h
  show V Γ (0, 0) _ A 6 _ 0 [(0, .ref (ad 0 0)), (1, .int a1), (2, .int a2)] []
  refine tv_aload_n X dX8_growByPath_0 rfl 0 rfl ?_
  refine gX7_3 X (by omega) gw_2_47 dX8_growByPath_1 ?_
  refine tv_iload_n X dX8_growByPath_4 rfl 1 rfl ?_
  refine aaX12 X (by omega) dX8_growByPath_5 h (fun j1 hj1 h => ?_)
  refine tv_astore_n X dX8_growByPath_6 rfl (by decide) [(3, .ref (ad 3 j1)), (0, .ref (ad 0 0)), (1, .int a1), (2, .int a2)] rfl ?_
  refine tv_aload_n X dX8_growByPath_7 rfl 0 rfl ?_
  refine tv_aload_n X dX8_growByPath_8 rfl 1 rfl ?_
  refine gX7_1 X (by omega) gw_2_45 dX8_growByPath_9 ?_
  refine tv_aload_n X dX8_growByPath_12 rfl 1 rfl ?_
  refine gX7_1 X (by omega) gw_2_45 dX8_growByPath_13 ?_
  obtain ⟨s2, x3, hs2, h⟩ := cl_some h
  refine tv_callVi (st := [.ref (ad 1 1), .ref (ad 3 j1)]) X (c_X3_length Γ.2.1 Ω ad A σ 1 (by omega) hs2) ⟨gw_2_90, gw_2_87, gw_1_2, q_X3_length, rfl, rfl, ⟨Nat.le_of_ble_eq_true rfl, Nat.le_of_ble_eq_true rfl⟩⟩ gw_2_88 gw_2_89 (fun H _ hz _ => PP.recv (f := 1) (i := 1) X.2.1 hz.1 (show 1 < 773 by omega) rfl rfl) rfl rfl (Nat.le_of_ble_eq_true rfl) dX8_growByPath_16 ?_
  obtain ⟨s4, x5, hs4, h⟩ := cl_some h
  refine tv_callVi (st := []) X (c_X7_fieldOf Γ.2.1 Ω ad A s2 j1 1 x3 (by omega) (by omega) hs4) ⟨gw_3_186, gw_4_19, gw_1_6, q_X7_fieldOf, rfl, rfl, ⟨Nat.le_of_ble_eq_true rfl, Nat.le_of_ble_eq_true rfl⟩⟩ gw_3_184 gw_3_185 (fun H _ hz _ => PP.recv (f := 3) (i := j1) X.2.1 hz.1 (show j1 < 8 by omega) rfl rfl) rfl rfl (Nat.le_of_ble_eq_true rfl) dX8_growByPath_19 ?_
  refine tv_if_lt X 27 dX8_growByPath_22 (by decide) h (fun h => ?_) (fun h => ?_)
  · refine tv_aload_n X dX8_growByPath_27 rfl 0 rfl ?_
    refine tv_aload_n X dX8_growByPath_28 rfl 1 rfl ?_
    refine gX7_1 X (by omega) gw_2_45 dX8_growByPath_29 ?_
    refine tv_iload_n X dX8_growByPath_32 rfl 3 rfl ?_
    obtain ⟨s6, x7, hs6, h⟩ := cl_some h
    refine tv_callVi (st := []) X (c_X7_kindToCome Γ.2.1 Ω ad A s4 j1 1 a2 (by omega) (by omega) hs6) ⟨gw_4_23, gw_4_20, gw_1_6, q_X7_kindToCome, rfl, rfl, ⟨Nat.le_of_ble_eq_true rfl, Nat.le_of_ble_eq_true rfl⟩⟩ gw_4_21 gw_4_22 (fun H _ hz _ => PP.recv (f := 3) (i := j1) X.2.1 hz.1 (show j1 < 8 by omega) rfl rfl) rfl rfl (Nat.le_of_ble_eq_true rfl) dX8_growByPath_33 ?_
    refine tv_istore X dX8_growByPath_36 (by decide) [(4, .int x7), (3, .ref (ad 3 j1)), (0, .ref (ad 0 0)), (1, .int a1), (2, .int a2)] rfl ?_
    refine tv_iload X dX8_growByPath_38 0 rfl ?_
    refine tv_if_ge X 46 dX8_growByPath_40 (by decide) h (fun h => ?_) (fun h => ?_)
    · refine tv_aload_n X dX8_growByPath_46 rfl 2 rfl ?_
      refine gX7_8 X (by omega) gw_2_52 dX8_growByPath_47 ?_
      refine tv_bipush X 8 dX8_growByPath_50 (by decide) ?_
      refine tv_icmp_lt X 58 dX8_growByPath_52 (by decide) h (fun h => ?_) (fun h => ?_)
      · refine tv_aload_n X dX8_growByPath_58 rfl 2 rfl ?_
        refine gX7_3 X (by omega) gw_2_47 dX8_growByPath_59 ?_
        refine tv_aload_n X dX8_growByPath_62 rfl 2 rfl ?_
        refine gX7_8 X (by omega) gw_2_52 dX8_growByPath_63 ?_
        refine aaX12 X (by omega) dX8_growByPath_66 h (fun j8 hj8 h => ?_)
        refine tv_astore X dX8_growByPath_67 (by decide) [(5, .ref (ad 3 j8)), (4, .int x7), (3, .ref (ad 3 j1)), (0, .ref (ad 0 0)), (1, .int a1), (2, .int a2)] rfl ?_
        refine tv_aload X dX8_growByPath_69 0 rfl ?_
        refine tv_aload_n X dX8_growByPath_71 rfl 2 rfl ?_
        refine tv_aload_n X dX8_growByPath_72 rfl 3 rfl ?_
        refine gX7_1 X (by omega) gw_2_45 dX8_growByPath_73 ?_
        refine tv_iload X dX8_growByPath_76 1 rfl ?_
        obtain ⟨s9, _u78, hs9, h⟩ := cl_some h
        refine tv_callVv (st := []) X (c_X7_growFrom Γ.2.1 Ω ad A s6 j8 j1 1 x7 (by omega) (by omega) (by omega) hs9) ⟨gw_4_58, gw_4_55, gw_1_6, q_X7_growFrom, rfl, rfl, ⟨Nat.le_of_ble_eq_true rfl, Nat.le_of_ble_eq_true rfl⟩⟩ gw_4_56 gw_4_57 (fun H _ hz _ => PP.recv (f := 3) (i := j8) X.2.1 hz.1 (show j8 < 8 by omega) rfl rfl) rfl rfl (Nat.le_of_ble_eq_true rfl) dX8_growByPath_78 ?_
        refine tv_aload_n X dX8_growByPath_81 rfl 3 rfl ?_
        refine tv_aload X dX8_growByPath_82 0 rfl ?_
        obtain ⟨s10, x11, hs10, h⟩ := cl_some h
        refine tv_callVi (st := []) X (c_X8_keep Γ.2.1 Ω ad A s9 j8 (by omega) hs10) ⟨gw_3_213, gw_3_210, gw_1_1, q_X8_keep, rfl, rfl, ⟨Nat.le_of_ble_eq_true rfl, Nat.le_of_ble_eq_true rfl⟩⟩ gw_3_212 gw_p_36 (fun H _ hz _ => PP.recv (f := 0) (i := 0) X.2.1 hz.1 (show 0 < 1 by omega) rfl rfl) rfl rfl (Nat.le_of_ble_eq_true rfl) dX8_growByPath_84 ?_
        exact tv_iret X dX8_growByPath_87 h
      · refine tv_bipush X (-3) dX8_growByPath_55 (by decide) ?_
        exact tv_iret X dX8_growByPath_57 h
    · refine tv_bipush X (-2) dX8_growByPath_43 (by decide) ?_
      exact tv_iret X dX8_growByPath_45 h
  · refine tv_iload_n X dX8_growByPath_25 rfl 2 rfl ?_
    exact tv_iret X dX8_growByPath_26 h
set_option maxHeartbeats 4000000 in
set_option maxRecDepth 100000 in
theorem c_X8_isMet (l : Launch) (Ω : Wd) (ad : Nat → Nat → Nat) (A : Nat → Prop) (σ : St) (a1 : Int32) {res : St × Int32} (h : f_X8_isMet σ a1 = some res) : Met l yX8_isMet (wsO yX8_isMet cX8_isMet 1 (some .boolean)) rm_X8_isMet (PcZ Ω A (PicX Ω ad A σ) [.int a1]) (Qci (PicX Ω ad A) A res) 0 0 A := by
  refine Met.ofV (by decide) rfl (fun Γ hΓ X => ?_)
  have X : Fx Γ Ω A cX8_isMet 1 "MappingTexts" rm_X8_isMet (some .boolean) := X
  unfold f_X8_isMet at h
  show V Γ (0, 0) _ A 1 _ 0 [(0, .int a1)] []
  refine tv_iload_n X dX8_isMet_0 rfl 0 rfl ?_
  refine tv_if_lt X 13 dX8_isMet_1 (by decide) h (fun h => ?_) (fun h => ?_)
  · refine tv_iconst X 0 dX8_isMet_13 (by decide) ?_
    exact tv_zret X dX8_isMet_14 (Or.inl rfl) h
  · refine tv_iload_n X dX8_isMet_4 rfl 0 rfl ?_
    refine tv_iconst X 3 dX8_isMet_5 (by decide) ?_
    refine tv_icmp_gt X 13 dX8_isMet_6 (by decide) h (fun h => ?_) (fun h => ?_)
    · refine tv_iconst X 0 dX8_isMet_13 (by decide) ?_
      exact tv_zret X dX8_isMet_14 (Or.inl rfl) h
    · refine tv_iconst X 1 dX8_isMet_9 (by decide) ?_
      refine tv_goto X 14 dX8_isMet_10 (by decide) ?_
      exact tv_zret X dX8_isMet_14 (Or.inr rfl) h
set_option maxHeartbeats 4000000 in
set_option maxRecDepth 100000 in
theorem c_X8_isVersion (l : Launch) (Ω : Wd) (ad : Nat → Nat → Nat) (A : Nat → Prop) (σ : St) (a1 : Int32) {res : St × Int32} (h : f_X8_isVersion σ a1 = some res) : Met l yX8_isVersion (wsO yX8_isVersion cX8_isVersion 2 (some .boolean)) rm_X8_isVersion (PcZ Ω A (PicX Ω ad A σ) [.ref (ad 0 0), .int a1]) (Qci (PicX Ω ad A) A res) 0 0 A := by
  refine Met.ofV (by decide) rfl (fun Γ hΓ X => ?_)
  have X : Fx Γ Ω A cX8_isVersion 2 "MappingTexts" rm_X8_isVersion (some .boolean) := X
  unfold f_X8_isVersion at h
  show V Γ (0, 0) _ A 2 _ 0 [(0, .ref (ad 0 0)), (1, .int a1)] []
  refine tv_iload_n X dX8_isVersion_0 rfl 1 rfl ?_
  refine tv_if_lt X 16 dX8_isVersion_1 (by decide) h (fun h => ?_) (fun h => ?_)
  · refine tv_iconst X 0 dX8_isVersion_16 (by decide) ?_
    exact tv_zret X dX8_isVersion_17 (Or.inl rfl) h
  · refine tv_iload_n X dX8_isVersion_4 rfl 1 rfl ?_
    refine tv_aload_n X dX8_isVersion_5 rfl 0 rfl ?_
    refine gX7_8 X (by omega) gw_2_52 dX8_isVersion_6 ?_
    refine tv_icmp_ge X 16 dX8_isVersion_9 (by decide) h (fun h => ?_) (fun h => ?_)
    · refine tv_iconst X 0 dX8_isVersion_16 (by decide) ?_
      exact tv_zret X dX8_isVersion_17 (Or.inl rfl) h
    · refine tv_iconst X 1 dX8_isVersion_12 (by decide) ?_
      refine tv_goto X 17 dX8_isVersion_13 (by decide) ?_
      exact tv_zret X dX8_isVersion_17 (Or.inr rfl) h
set_option maxHeartbeats 4000000 in
set_option maxRecDepth 100000 in
theorem l_X8_takePath_25 {Γ : Cx} {Ω : Wd} {ad : Nat → Nat → Nat} {A : Nat → Prop} {res : St × Int32} (X : Fx Γ Ω A cX8_takePath 2 "MappingTexts" rm_X8_takePath (some .boolean)) {k26 : St → Int32 → Option (St × Int32)} (hk26 : ∀ (σ : St) (t0 : Int32), k26 σ t0 = some res → V Γ (0, 0) (Qe Γ (0, 0) A (Qci (PicX Ω ad A) A res)) A 2 (PicX Ω ad A σ) 26 [(0, .ref (ad 0 0))] [.int t0]) (σ : St) (h : f_X8_takePath_25 k26 σ = some res) : V Γ (0, 0) (Qe Γ (0, 0) A (Qci (PicX Ω ad A) A res)) A 2 (PicX Ω ad A σ) 25 [(0, .ref (ad 0 0))] [] := by
  unfold f_X8_takePath_25 at h
  refine tv_iconst X 0 dX8_takePath_25 (by decide) ?_
  exact hk26 σ 0 h
set_option maxHeartbeats 4000000 in
set_option maxRecDepth 100000 in
theorem l_X8_takePath_50 {Γ : Cx} {Ω : Wd} {ad : Nat → Nat → Nat} {A : Nat → Prop} {res : St × Int32} (X : Fx Γ Ω A cX8_takePath 2 "MappingTexts" rm_X8_takePath (some .boolean)) (σ : St) (v1 : Int32) (h : f_X8_takePath_50 σ v1 = some res) : V Γ (0, 0) (Qe Γ (0, 0) A (Qci (PicX Ω ad A) A res)) A 2 (PicX Ω ad A σ) 50 [(0, .ref (ad 0 0)), (1, .int v1)] [] := by
  unfold f_X8_takePath_50 at h
  refine tv_aload_n X dX8_takePath_50 rfl 0 rfl ?_
  refine gX7_0 X (by omega) gw_2_44 dX8_takePath_51 ?_
  obtain ⟨s7, _u54, hs7, h⟩ := cl_some h
  refine tv_callVv (st := []) X (c_X3_clear Γ.2.1 Ω ad A σ 0 (by omega) hs7) ⟨gw_2_98, gw_2_95, gw_1_2, q_X3_clear, rfl, rfl, ⟨Nat.le_of_ble_eq_true rfl, Nat.le_of_ble_eq_true rfl⟩⟩ gw_2_96 gw_2_97 (fun H _ hz _ => PP.recv (f := 1) (i := 0) X.2.1 hz.1 (show 0 < 773 by omega) rfl rfl) rfl rfl (Nat.le_of_ble_eq_true rfl) dX8_takePath_54 ?_
  refine tv_iload_n X dX8_takePath_57 rfl 1 rfl ?_
  refine tv_if_eq X 75 dX8_takePath_58 (by decide) h (fun h => ?_) (fun h => ?_)
  · refine tv_iconst X 0 dX8_takePath_75 (by decide) ?_
    exact tv_zret X dX8_takePath_76 (Or.inl rfl) h
  · refine tv_aload_n X dX8_takePath_61 rfl 0 rfl ?_
    refine gX7_1 X (by omega) gw_2_45 dX8_takePath_62 ?_
    obtain ⟨s8, x9, hs8, h⟩ := cl_some h
    refine tv_callVi (st := []) X (c_X3_isOver Γ.2.1 Ω ad A s7 1 (by omega) hs8) ⟨gw_3_181, gw_4_7, gw_1_2, q_X3_isOver, rfl, rfl, ⟨Nat.le_of_ble_eq_true rfl, Nat.le_of_ble_eq_true rfl⟩⟩ gw_3_179 gw_3_180 (fun H _ hz _ => PP.recv (f := 1) (i := 1) X.2.1 hz.1 (show 1 < 773 by omega) rfl rfl) rfl rfl (Nat.le_of_ble_eq_true rfl) dX8_takePath_65 ?_
    refine tv_if_ne X 75 dX8_takePath_68 (by decide) h (fun h => ?_) (fun h => ?_)
    · refine tv_iconst X 0 dX8_takePath_75 (by decide) ?_
      exact tv_zret X dX8_takePath_76 (Or.inl rfl) h
    · refine tv_iconst X 1 dX8_takePath_71 (by decide) ?_
      refine tv_goto X 76 dX8_takePath_72 (by decide) ?_
      exact tv_zret X dX8_takePath_76 (Or.inr rfl) h
set_option maxHeartbeats 4000000 in
set_option maxRecDepth 100000 in
theorem l_X8_takePath_26 {Γ : Cx} {Ω : Wd} {ad : Nat → Nat → Nat} {A : Nat → Prop} {res : St × Int32} (X : Fx Γ Ω A cX8_takePath 2 "MappingTexts" rm_X8_takePath (some .boolean)) (σ : St) (t0 : Int32) (h : f_X8_takePath_26 σ t0 = some res) : V Γ (0, 0) (Qe Γ (0, 0) A (Qci (PicX Ω ad A) A res)) A 2 (PicX Ω ad A σ) 26 [(0, .ref (ad 0 0))] [.int t0] := by
  unfold f_X8_takePath_26 at h
  refine tv_istore_n X dX8_takePath_26 rfl (by decide) [(1, .int t0), (0, .ref (ad 0 0))] rfl ?_
  refine tv_aload_n X dX8_takePath_27 rfl 1 rfl ?_
  refine gX7_1 X (by omega) gw_2_45 dX8_takePath_28 ?_
  obtain ⟨s5, _u31, hs5, h⟩ := cl_some h
  refine tv_callVv (st := []) X (c_X3_clear Γ.2.1 Ω ad A σ 1 (by omega) hs5) ⟨gw_2_98, gw_2_95, gw_1_2, q_X3_clear, rfl, rfl, ⟨Nat.le_of_ble_eq_true rfl, Nat.le_of_ble_eq_true rfl⟩⟩ gw_2_96 gw_2_97 (fun H _ hz _ => PP.recv (f := 1) (i := 1) X.2.1 hz.1 (show 1 < 773 by omega) rfl rfl) rfl rfl (Nat.le_of_ble_eq_true rfl) dX8_takePath_31 ?_
  refine tv_iload_n X dX8_takePath_34 rfl 0 rfl ?_
  refine tv_if_eq X 50 dX8_takePath_35 (by decide) h (fun h => ?_) (fun h => ?_)
  · refine V.pick [1, 0] rfl ?_
    exact l_X8_takePath_50 X s5 t0 h
  · refine tv_aload_n X dX8_takePath_38 rfl 1 rfl ?_
    refine gX7_2 X (by omega) gw_2_46 dX8_takePath_39 ?_
    refine tv_iconst X 0 dX8_takePath_42 (by decide) ?_
    refine tv_aload_n X dX8_takePath_43 rfl 1 rfl ?_
    refine gX7_1 X (by omega) gw_2_45 dX8_takePath_44 ?_
    obtain ⟨s6, _u47, hs6, h⟩ := cl_some h
    refine tv_callVv (st := []) X (c_X6_joinPath Γ.2.1 Ω ad A s5 0 1 (by omega) hs6) ⟨gw_3_175, gw_4_6, gw_1_4, q_X6_joinPath, rfl, rfl, ⟨Nat.le_of_ble_eq_true rfl, Nat.le_of_ble_eq_true rfl⟩⟩ gw_3_173 gw_3_174 (fun H _ hz _ => PP.recv (f := 9) (i := 0) X.2.1 hz.1 (show 0 < 1 by omega) rfl rfl) rfl rfl (Nat.le_of_ble_eq_true rfl) dX8_takePath_47 ?_
    refine V.pick [1, 0] rfl ?_
    exact l_X8_takePath_50 X s6 t0 h
set_option maxHeartbeats 4000000 in
set_option maxRecDepth 100000 in
theorem c_X8_takePath (l : Launch) (Ω : Wd) (ad : Nat → Nat → Nat) (A : Nat → Prop) (σ : St) {res : St × Int32} (h : f_X8_takePath σ = some res) : Met l yX8_takePath (wsO yX8_takePath cX8_takePath 2 (some .boolean)) rm_X8_takePath (PcZ Ω A (PicX Ω ad A σ) [.ref (ad 0 0)]) (Qci (PicX Ω ad A) A res) 0 0 A := by
  refine Met.ofV (by decide) rfl (fun Γ hΓ X => ?_)
  have X : Fx Γ Ω A cX8_takePath 2 "MappingTexts" rm_X8_takePath (some .boolean) := X
  unfold f_X8_takePath at h
  show V Γ (0, 0) _ A 2 _ 0 [(0, .ref (ad 0 0))] []
  refine tv_aload_n X dX8_takePath_0 rfl 0 rfl ?_
  refine gX7_2 X (by omega) gw_2_46 dX8_takePath_1 ?_
  obtain ⟨s1, x2, hs1, h⟩ := cl_some h
  refine tv_callVi (st := []) X (c_X6_readAll Γ.2.1 Ω ad A σ hs1) ⟨gw_2_114, gw_4_1, gw_1_4, q_X6_readAll, rfl, rfl, ⟨Nat.le_of_ble_eq_true rfl, Nat.le_of_ble_eq_true rfl⟩⟩ gw_2_112 gw_2_113 (fun H _ hz _ => PP.recv (f := 9) (i := 0) X.2.1 hz.1 (show 0 < 1 by omega) rfl rfl) rfl rfl (Nat.le_of_ble_eq_true rfl) dX8_takePath_4 ?_
  refine tv_iconst X (-1) dX8_takePath_7 (by decide) ?_
  refine tv_icmp_ne X 25 dX8_takePath_8 (by decide) h (fun h => ?_) (fun h => ?_)
  · exact l_X8_takePath_25 X (l_X8_takePath_26 X) s1 h
  · refine tv_aload_n X dX8_takePath_11 rfl 0 rfl ?_
    refine gX7_2 X (by omega) gw_2_46 dX8_takePath_12 ?_
    obtain ⟨s3, x4, hs3, h⟩ := cl_some h
    refine tv_callVi (st := []) X (c_X6_arePath Γ.2.1 Ω ad A s1 hs3) ⟨gw_4_5, gw_4_2, gw_1_4, q_X6_arePath, rfl, rfl, ⟨Nat.le_of_ble_eq_true rfl, Nat.le_of_ble_eq_true rfl⟩⟩ gw_4_3 gw_4_4 (fun H _ hz _ => PP.recv (f := 9) (i := 0) X.2.1 hz.1 (show 0 < 1 by omega) rfl rfl) rfl rfl (Nat.le_of_ble_eq_true rfl) dX8_takePath_15 ?_
    refine tv_if_eq X 25 dX8_takePath_18 (by decide) h (fun h => ?_) (fun h => ?_)
    · exact l_X8_takePath_25 X (l_X8_takePath_26 X) s3 h
    · refine tv_iconst X 1 dX8_takePath_21 (by decide) ?_
      refine tv_goto X 26 dX8_takePath_22 (by decide) ?_
      exact l_X8_takePath_26 X s3 1 h
set_option maxHeartbeats 4000000 in
set_option maxRecDepth 100000 in
theorem c_X8_grow (l : Launch) (Ω : Wd) (ad : Nat → Nat → Nat) (A : Nat → Prop) (σ : St) (a1 : Int32) (a2 : Int32) {res : St × Int32} (h : f_X8_grow σ a1 a2 = some res) : Met l yX8_grow (wsO yX8_grow cX8_grow 4 (some .int)) rm_X8_grow (PcZ Ω A (PicX Ω ad A σ) [.ref (ad 0 0), .int a1, .int a2]) (Qci (PicX Ω ad A) A res) 0 0 A := by
  refine Met.ofV (by decide) rfl (fun Γ hΓ X => ?_)
  have X : Fx Γ Ω A cX8_grow 4 "MappingTexts" rm_X8_grow (some .int) := X
  unfold f_X8_grow at h
  show V Γ (0, 0) _ A 4 _ 0 [(0, .ref (ad 0 0)), (1, .int a1), (2, .int a2)] []
  refine tv_aload_n X dX8_grow_0 rfl 0 rfl ?_
  obtain ⟨s1, x2, hs1, h⟩ := cl_some h
  refine tv_callVi (st := []) X (c_X8_takePath Γ.2.1 Ω ad A σ hs1) ⟨gw_4_0, gw_3_237, gw_1_1, q_X8_takePath, rfl, rfl, ⟨Nat.le_of_ble_eq_true rfl, Nat.le_of_ble_eq_true rfl⟩⟩ gw_3_239 gw_p_38 (fun H _ hz _ => PP.recv (f := 0) (i := 0) X.2.1 hz.1 (show 0 < 1 by omega) rfl rfl) rfl rfl (Nat.le_of_ble_eq_true rfl) dX8_grow_1 ?_
  refine tv_istore_n X dX8_grow_4 rfl (by decide) [(3, .int x2), (0, .ref (ad 0 0)), (1, .int a1), (2, .int a2)] rfl ?_
  refine tv_aload_n X dX8_grow_5 rfl 1 rfl ?_
  refine tv_iload_n X dX8_grow_6 rfl 2 rfl ?_
  obtain ⟨s3, x4, hs3, h⟩ := cl_some h
  refine tv_callVi (st := []) X (c_X8_isVersion Γ.2.1 Ω ad A s1 a1 hs3) ⟨gw_4_11, gw_4_8, gw_1_1, q_X8_isVersion, rfl, rfl, ⟨Nat.le_of_ble_eq_true rfl, Nat.le_of_ble_eq_true rfl⟩⟩ gw_4_10 gw_p_39 (fun H _ hz _ => PP.recv (f := 0) (i := 0) X.2.1 hz.1 (show 0 < 1 by omega) rfl rfl) rfl rfl (Nat.le_of_ble_eq_true rfl) dX8_grow_7 ?_
  refine tv_if_eq X 20 dX8_grow_10 (by decide) h (fun h => ?_) (fun h => ?_)
  · refine tv_iconst X (-1) dX8_grow_20 (by decide) ?_
    exact tv_iret X dX8_grow_21 h
  · refine tv_iload_n X dX8_grow_13 rfl 3 rfl ?_
    obtain ⟨s5, x6, hs5, h⟩ := cl_some h
    refine tv_callSi (st := []) X (c_X8_isMet Γ.2.1 Ω ad A s3 a2 hs5) ⟨gw_4_14, gw_4_12, gw_1_1, q_X8_isMet, rfl, rfl, ⟨Nat.le_of_ble_eq_true rfl, Nat.le_of_ble_eq_true rfl⟩⟩ gw_4_13 rfl rfl (Nat.le_of_ble_eq_true rfl) dX8_grow_14 ?_
    refine tv_if_ne X 22 dX8_grow_17 (by decide) h (fun h => ?_) (fun h => ?_)
    · refine tv_iload_n X dX8_grow_22 rfl 0 rfl ?_
      refine tv_if_eq X 35 dX8_grow_23 (by decide) h (fun h => ?_) (fun h => ?_)
      · refine tv_bipush X (-2) dX8_grow_35 (by decide) ?_
        exact tv_iret X dX8_grow_37 h
      · refine tv_aload_n X dX8_grow_26 rfl 1 rfl ?_
        refine tv_iload_n X dX8_grow_27 rfl 2 rfl ?_
        refine tv_iload_n X dX8_grow_28 rfl 3 rfl ?_
        obtain ⟨s7, x8, hs7, h⟩ := cl_some h
        refine tv_callVi (st := []) X (c_X8_growByPath Γ.2.1 Ω ad A s5 a1 a2 hs7) ⟨gw_4_18, gw_4_15, gw_1_1, q_X8_growByPath, rfl, rfl, ⟨Nat.le_of_ble_eq_true rfl, Nat.le_of_ble_eq_true rfl⟩⟩ gw_4_17 gw_p_40 (fun H _ hz _ => PP.recv (f := 0) (i := 0) X.2.1 hz.1 (show 0 < 1 by omega) rfl rfl) rfl rfl (Nat.le_of_ble_eq_true rfl) dX8_grow_29 ?_
        refine tv_goto X 37 dX8_grow_32 (by decide) ?_
        exact tv_iret X dX8_grow_37 h
    · refine tv_iconst X (-1) dX8_grow_20 (by decide) ?_
      exact tv_iret X dX8_grow_21 h
set_option maxHeartbeats 4000000 in
set_option maxRecDepth 100000 in
theorem c_X8_drop (l : Launch) (Ω : Wd) (ad : Nat → Nat → Nat) (A : Nat → Prop) (σ : St) {res : St × Int32} (h : f_X8_drop σ = some res) : Met l yX8_drop (wsO yX8_drop cX8_drop 1 (some .int)) rm_X8_drop (PcZ Ω A (PicX Ω ad A σ) [.ref (ad 0 0)]) (Qci (PicX Ω ad A) A res) 0 0 A := by
  refine Met.ofV (by decide) rfl (fun Γ hΓ X => ?_)
  have X : Fx Γ Ω A cX8_drop 1 "MappingTexts" rm_X8_drop (some .int) := X
  unfold f_X8_drop at h
  show V Γ (0, 0) _ A 1 _ 0 [(0, .ref (ad 0 0))] []
  refine tv_aload_n X dX8_drop_0 rfl 0 rfl ?_
  refine gX7_8 X (by omega) gw_2_52 dX8_drop_1 ?_
  refine tv_if_ne X 10 dX8_drop_4 (by decide) h (fun h => ?_) (fun h => ?_)
  · refine tv_aload_n X dX8_drop_10 rfl 0 rfl ?_
    refine tv_dup X dX8_drop_11 rfl ?_
    refine gX7_8 X (by omega) gw_2_52 dX8_drop_12 ?_
    refine tv_iconst X 1 dX8_drop_15 (by decide) ?_
    refine tv_isub X dX8_drop_16 ?_
    refine pX7_8 X (by omega) gw_2_52 dX8_drop_17 ?_
    refine tv_ns h (fun s1 h => ?_)
    refine tv_aload_n X dX8_drop_20 rfl 0 rfl ?_
    refine gX7_8 X (by omega) gw_2_52 dX8_drop_21 ?_
    exact tv_iret X dX8_drop_24 h
  · refine tv_bipush X (-2) dX8_drop_7 (by decide) ?_
    exact tv_iret X dX8_drop_9 h
set_option maxHeartbeats 4000000 in
set_option maxRecDepth 100000 in
theorem c_X8_find (l : Launch) (Ω : Wd) (ad : Nat → Nat → Nat) (A : Nat → Prop) (σ : St) (a1 : Int32) {res : St × Int32} (h : f_X8_find σ a1 = some res) : Met l yX8_find (wsO yX8_find cX8_find 3 (some .int)) rm_X8_find (PcZ Ω A (PicX Ω ad A σ) [.ref (ad 0 0), .int a1]) (Qci (PicX Ω ad A) A res) 0 0 A := by
  refine Met.ofV (by decide) rfl (fun Γ hΓ X => ?_)
  have X : Fx Γ Ω A cX8_find 3 "MappingTexts" rm_X8_find (some .int) := X
  unfold f_X8_find at h
  show V Γ (0, 0) _ A 3 _ 0 [(0, .ref (ad 0 0)), (1, .int a1)] []
  refine tv_aload_n X dX8_find_0 rfl 0 rfl ?_
  obtain ⟨s1, x2, hs1, h⟩ := cl_some h
  refine tv_callVi (st := []) X (c_X8_takePath Γ.2.1 Ω ad A σ hs1) ⟨gw_4_0, gw_3_237, gw_1_1, q_X8_takePath, rfl, rfl, ⟨Nat.le_of_ble_eq_true rfl, Nat.le_of_ble_eq_true rfl⟩⟩ gw_3_239 gw_p_38 (fun H _ hz _ => PP.recv (f := 0) (i := 0) X.2.1 hz.1 (show 0 < 1 by omega) rfl rfl) rfl rfl (Nat.le_of_ble_eq_true rfl) dX8_find_1 ?_
  refine tv_istore_n X dX8_find_4 rfl (by decide) [(2, .int x2), (0, .ref (ad 0 0)), (1, .int a1)] rfl ?_
  refine tv_aload_n X dX8_find_5 rfl 1 rfl ?_
  refine tv_iload_n X dX8_find_6 rfl 2 rfl ?_
  obtain ⟨s3, x4, hs3, h⟩ := cl_some h
  refine tv_callVi (st := []) X (c_X8_isVersion Γ.2.1 Ω ad A s1 a1 hs3) ⟨gw_4_11, gw_4_8, gw_1_1, q_X8_isVersion, rfl, rfl, ⟨Nat.le_of_ble_eq_true rfl, Nat.le_of_ble_eq_true rfl⟩⟩ gw_4_10 gw_p_39 (fun H _ hz _ => PP.recv (f := 0) (i := 0) X.2.1 hz.1 (show 0 < 1 by omega) rfl rfl) rfl rfl (Nat.le_of_ble_eq_true rfl) dX8_find_7 ?_
  refine tv_if_ne X 15 dX8_find_10 (by decide) h (fun h => ?_) (fun h => ?_)
  · refine tv_iload_n X dX8_find_15 rfl 0 rfl ?_
    refine tv_if_eq X 42 dX8_find_16 (by decide) h (fun h => ?_) (fun h => ?_)
    · refine tv_bipush X (-2) dX8_find_42 (by decide) ?_
      exact tv_iret X dX8_find_44 h
    · refine tv_aload_n X dX8_find_19 rfl 1 rfl ?_
      refine gX7_3 X (by omega) gw_2_47 dX8_find_20 ?_
      refine tv_iload_n X dX8_find_23 rfl 2 rfl ?_
      refine aaX12 X (by omega) dX8_find_24 h (fun j5 hj5 h => ?_)
      refine tv_aload_n X dX8_find_25 rfl 1 rfl ?_
      refine gX7_1 X (by omega) gw_2_45 dX8_find_26 ?_
      refine tv_aload_n X dX8_find_29 rfl 1 rfl ?_
      refine gX7_1 X (by omega) gw_2_45 dX8_find_30 ?_
      obtain ⟨s6, x7, hs6, h⟩ := cl_some h
      refine tv_callVi (st := [.ref (ad 1 1), .ref (ad 3 j5)]) X (c_X3_length Γ.2.1 Ω ad A s3 1 (by omega) hs6) ⟨gw_2_90, gw_2_87, gw_1_2, q_X3_length, rfl, rfl, ⟨Nat.le_of_ble_eq_true rfl, Nat.le_of_ble_eq_true rfl⟩⟩ gw_2_88 gw_2_89 (fun H _ hz _ => PP.recv (f := 1) (i := 1) X.2.1 hz.1 (show 1 < 773 by omega) rfl rfl) rfl rfl (Nat.le_of_ble_eq_true rfl) dX8_find_33 ?_
      obtain ⟨s8, x9, hs8, h⟩ := cl_some h
      refine tv_callVi (st := []) X (c_X7_fieldOf Γ.2.1 Ω ad A s6 j5 1 x7 (by omega) (by omega) hs8) ⟨gw_3_186, gw_4_19, gw_1_6, q_X7_fieldOf, rfl, rfl, ⟨Nat.le_of_ble_eq_true rfl, Nat.le_of_ble_eq_true rfl⟩⟩ gw_3_184 gw_3_185 (fun H _ hz _ => PP.recv (f := 3) (i := j5) X.2.1 hz.1 (show j5 < 8 by omega) rfl rfl) rfl rfl (Nat.le_of_ble_eq_true rfl) dX8_find_36 ?_
      refine tv_goto X 44 dX8_find_39 (by decide) ?_
      exact tv_iret X dX8_find_44 h
  · refine tv_iconst X (-1) dX8_find_13 (by decide) ?_
    exact tv_iret X dX8_find_14 h
set_option maxHeartbeats 4000000 in
set_option maxRecDepth 100000 in
theorem c_X8_isField (l : Launch) (Ω : Wd) (ad : Nat → Nat → Nat) (A : Nat → Prop) (σ : St) (a1 : Int32) (a2 : Int32) {res : St × Int32} (h : f_X8_isField σ a1 a2 = some res) : Met l yX8_isField (wsO yX8_isField cX8_isField 3 (some .boolean)) rm_X8_isField (PcZ Ω A (PicX Ω ad A σ) [.ref (ad 0 0), .int a1, .int a2]) (Qci (PicX Ω ad A) A res) 0 0 A := by
  refine Met.ofV (by decide) rfl (fun Γ hΓ X => ?_)
  have X : Fx Γ Ω A cX8_isField 3 "MappingTexts" rm_X8_isField (some .boolean) := X
  unfold f_X8_isField at h
  show V Γ (0, 0) _ A 3 _ 0 [(0, .ref (ad 0 0)), (1, .int a1), (2, .int a2)] []
  refine tv_aload_n X dX8_isField_0 rfl 0 rfl ?_
  refine tv_iload_n X dX8_isField_1 rfl 1 rfl ?_
  obtain ⟨s1, x2, hs1, h⟩ := cl_some h
  refine tv_callVi (st := []) X (c_X8_isVersion Γ.2.1 Ω ad A σ a1 hs1) ⟨gw_4_11, gw_4_8, gw_1_1, q_X8_isVersion, rfl, rfl, ⟨Nat.le_of_ble_eq_true rfl, Nat.le_of_ble_eq_true rfl⟩⟩ gw_4_10 gw_p_39 (fun H _ hz _ => PP.recv (f := 0) (i := 0) X.2.1 hz.1 (show 0 < 1 by omega) rfl rfl) rfl rfl (Nat.le_of_ble_eq_true rfl) dX8_isField_2 ?_
  refine tv_if_eq X 29 dX8_isField_5 (by decide) h (fun h => ?_) (fun h => ?_)
  · refine tv_iconst X 0 dX8_isField_29 (by decide) ?_
    exact tv_zret X dX8_isField_30 (Or.inl rfl) h
  · refine tv_iload_n X dX8_isField_8 rfl 2 rfl ?_
    refine tv_if_lt X 29 dX8_isField_9 (by decide) h (fun h => ?_) (fun h => ?_)
    · refine tv_iconst X 0 dX8_isField_29 (by decide) ?_
      exact tv_zret X dX8_isField_30 (Or.inl rfl) h
    · refine tv_iload_n X dX8_isField_12 rfl 2 rfl ?_
      refine tv_aload_n X dX8_isField_13 rfl 0 rfl ?_
      refine gX7_3 X (by omega) gw_2_47 dX8_isField_14 ?_
      refine tv_iload_n X dX8_isField_17 rfl 1 rfl ?_
      refine aaX12 X (by omega) dX8_isField_18 h (fun j3 hj3 h => ?_)
      refine gX6_3 X (by omega) gw_1_204 dX8_isField_19 ?_
      refine tv_icmp_ge X 29 dX8_isField_22 (by decide) h (fun h => ?_) (fun h => ?_)
      · refine tv_iconst X 0 dX8_isField_29 (by decide) ?_
        exact tv_zret X dX8_isField_30 (Or.inl rfl) h
      · refine tv_iconst X 1 dX8_isField_25 (by decide) ?_
        refine tv_goto X 30 dX8_isField_26 (by decide) ?_
        exact tv_zret X dX8_isField_30 (Or.inr rfl) h
set_option maxHeartbeats 4000000 in
set_option maxRecDepth 100000 in
theorem c_X8_field (l : Launch) (Ω : Wd) (ad : Nat → Nat → Nat) (A : Nat → Prop) (σ : St) (a1 : Int32) (a2 : Int32) (a3 : Int32) {res : St × Int32} (h : f_X8_field σ a1 a2 a3 = some res) : Met l yX8_field (wsO yX8_field cX8_field 6 (some .int)) rm_X8_field (PcZ Ω A (PicX Ω ad A σ) [.ref (ad 0 0), .int a1, .int a2, .int a3]) (Qci (PicX Ω ad A) A res) 0 0 A := by
  refine Met.ofV (by decide) rfl (fun Γ hΓ X => ?_)
  have X : Fx Γ Ω A cX8_field 6 "MappingTexts" rm_X8_field (some .int) := X
  unfold f_X8_field at h
  show V Γ (0, 0) _ A 6 _ 0 [(0, .ref (ad 0 0)), (1, .int a1), (2, .int a2), (3, .int a3)] []
  refine tv_aload_n X dX8_field_0 rfl 0 rfl ?_
  refine tv_iload_n X dX8_field_1 rfl 1 rfl ?_
  refine tv_iload_n X dX8_field_2 rfl 2 rfl ?_
  obtain ⟨s1, x2, hs1, h⟩ := cl_some h
  refine tv_callVi (st := []) X (c_X8_isField Γ.2.1 Ω ad A σ a1 a2 hs1) ⟨gw_4_99, gw_4_96, gw_1_1, q_X8_isField, rfl, rfl, ⟨Nat.le_of_ble_eq_true rfl, Nat.le_of_ble_eq_true rfl⟩⟩ gw_4_98 gw_p_43 (fun H _ hz _ => PP.recv (f := 0) (i := 0) X.2.1 hz.1 (show 0 < 1 by omega) rfl rfl) rfl rfl (Nat.le_of_ble_eq_true rfl) dX8_field_3 ?_
  refine tv_if_ne X 11 dX8_field_6 (by decide) h (fun h => ?_) (fun h => ?_)
  · refine tv_aload_n X dX8_field_11 rfl 0 rfl ?_
    refine gX7_3 X (by omega) gw_2_47 dX8_field_12 ?_
    refine tv_iload_n X dX8_field_15 rfl 1 rfl ?_
    refine aaX12 X (by omega) dX8_field_16 h (fun j3 hj3 h => ?_)
    refine tv_astore X dX8_field_17 (by decide) [(4, .ref (ad 3 j3)), (0, .ref (ad 0 0)), (1, .int a1), (2, .int a2), (3, .int a3)] rfl ?_
    refine tv_aload X dX8_field_19 0 rfl ?_
    refine gX6_0 X (by omega) gw_1_196 dX8_field_21 ?_
    refine tv_iload_n X dX8_field_24 rfl 3 rfl ?_
    refine aaX6 X (by omega) dX8_field_25 h (fun j4 hj4 h => ?_)
    refine tv_astore X dX8_field_26 (by decide) [(5, .ref (ad 4 (40 * j3 + j4))), (4, .ref (ad 3 j3)), (0, .ref (ad 0 0)), (1, .int a1), (2, .int a2), (3, .int a3)] rfl ?_
    refine tv_iload_n X dX8_field_28 rfl 5 rfl ?_
    refine tv_nm h (fun x5 h => ?_)
    by_cases c29_0 : x5 = 0
    · rw [if_pos c29_0] at h
      refine tv_tableIn 84 X dX8_field_29 (by rw [c29_0]; decide) (by rw [c29_0]; decide) (by rw [c29_0]; rfl) (by decide) ?_
      refine tv_aload X dX8_field_84 0 rfl ?_
      refine gX1_2 X (by omega) gw_1_122 dX8_field_86 ?_
      exact tv_iret X dX8_field_89 h
    rw [if_neg c29_0] at h
    by_cases c29_1 : x5 = 1
    · rw [if_pos c29_1] at h
      refine tv_tableIn 90 X dX8_field_29 (by rw [c29_1]; decide) (by rw [c29_1]; decide) (by rw [c29_1]; rfl) (by decide) ?_
      refine tv_aload X dX8_field_90 0 rfl ?_
      refine gX1_3 X (by omega) gw_1_126 dX8_field_92 ?_
      exact tv_iret X dX8_field_95 h
    rw [if_neg c29_1] at h
    by_cases c29_2 : x5 = 2
    · rw [if_pos c29_2] at h
      refine tv_tableIn 96 X dX8_field_29 (by rw [c29_2]; decide) (by rw [c29_2]; decide) (by rw [c29_2]; rfl) (by decide) ?_
      refine tv_aload X dX8_field_96 0 rfl ?_
      refine gX1_4 X (by omega) gw_1_130 dX8_field_98 ?_
      exact tv_iret X dX8_field_101 h
    rw [if_neg c29_2] at h
    by_cases c29_3 : x5 = 3
    · rw [if_pos c29_3] at h
      refine tv_tableIn 102 X dX8_field_29 (by rw [c29_3]; decide) (by rw [c29_3]; decide) (by rw [c29_3]; rfl) (by decide) ?_
      refine tv_aload X dX8_field_102 0 rfl ?_
      refine gX1_5 X (by omega) gw_1_136 dX8_field_104 ?_
      exact tv_iret X dX8_field_107 h
    rw [if_neg c29_3] at h
    by_cases c29_4 : x5 = 4
    · rw [if_pos c29_4] at h
      refine tv_tableIn 108 X dX8_field_29 (by rw [c29_4]; decide) (by rw [c29_4]; decide) (by rw [c29_4]; rfl) (by decide) ?_
      refine tv_aload X dX8_field_108 0 rfl ?_
      refine gX1_6 X (by omega) gw_1_140 dX8_field_110 ?_
      exact tv_iret X dX8_field_113 h
    rw [if_neg c29_4] at h
    by_cases c29_5 : x5 = 5
    · rw [if_pos c29_5] at h
      refine tv_tableIn 114 X dX8_field_29 (by rw [c29_5]; decide) (by rw [c29_5]; decide) (by rw [c29_5]; rfl) (by decide) ?_
      refine tv_aload X dX8_field_114 0 rfl ?_
      refine gX1_7 X (by omega) gw_1_145 dX8_field_116 ?_
      exact tv_iret X dX8_field_119 h
    rw [if_neg c29_5] at h
    by_cases c29_6 : x5 = 6
    · rw [if_pos c29_6] at h
      refine tv_tableIn 120 X dX8_field_29 (by rw [c29_6]; decide) (by rw [c29_6]; decide) (by rw [c29_6]; rfl) (by decide) ?_
      refine tv_aload X dX8_field_120 1 rfl ?_
      refine tv_iload_n X dX8_field_122 rfl 4 rfl ?_
      obtain ⟨s6, x7, hs6, h⟩ := cl_some h
      refine tv_callVi (st := []) X (c_X7_countWithin Γ.2.1 Ω ad A s1 j3 a2 (by omega) hs6) ⟨gw_4_103, gw_4_100, gw_1_6, q_X7_countWithin, rfl, rfl, ⟨Nat.le_of_ble_eq_true rfl, Nat.le_of_ble_eq_true rfl⟩⟩ gw_4_101 gw_4_102 (fun H _ hz _ => PP.recv (f := 3) (i := j3) X.2.1 hz.1 (show j3 < 8 by omega) rfl rfl) rfl rfl (Nat.le_of_ble_eq_true rfl) dX8_field_123 ?_
      exact tv_iret X dX8_field_126 h
    rw [if_neg c29_6] at h
    by_cases c29_7 : x5 = 7
    · rw [if_pos c29_7] at h
      refine tv_tableIn 127 X dX8_field_29 (by rw [c29_7]; decide) (by rw [c29_7]; decide) (by rw [c29_7]; rfl) (by decide) ?_
      refine tv_aload X dX8_field_127 0 rfl ?_
      refine gX1_0 X (by omega) gw_1_112 dX8_field_129 ?_
      obtain ⟨s8, x9, hs8, h⟩ := cl_some h
      refine tv_callVi (st := []) X (c_X3_length Γ.2.1 Ω ad A s1 (5 + 2 * (40 * j3 + j4)) (by omega) hs8) ⟨gw_2_90, gw_2_87, gw_1_2, q_X3_length, rfl, rfl, ⟨Nat.le_of_ble_eq_true rfl, Nat.le_of_ble_eq_true rfl⟩⟩ gw_2_88 gw_2_89 (fun H _ hz _ => PP.recv (f := 1) (i := (5 + 2 * (40 * j3 + j4))) X.2.1 hz.1 (show (5 + 2 * (40 * j3 + j4)) < 773 by omega) rfl rfl) rfl rfl (Nat.le_of_ble_eq_true rfl) dX8_field_132 ?_
      exact tv_iret X dX8_field_135 h
    rw [if_neg c29_7] at h
    by_cases c29_8 : x5 = 8
    · rw [if_pos c29_8] at h
      refine tv_tableIn 136 X dX8_field_29 (by rw [c29_8]; decide) (by rw [c29_8]; decide) (by rw [c29_8]; rfl) (by decide) ?_
      refine tv_aload X dX8_field_136 0 rfl ?_
      refine gX1_1 X (by omega) gw_1_116 dX8_field_138 ?_
      obtain ⟨s10, x11, hs10, h⟩ := cl_some h
      refine tv_callVi (st := []) X (c_X3_length Γ.2.1 Ω ad A s1 (6 + 2 * (40 * j3 + j4)) (by omega) hs10) ⟨gw_2_90, gw_2_87, gw_1_2, q_X3_length, rfl, rfl, ⟨Nat.le_of_ble_eq_true rfl, Nat.le_of_ble_eq_true rfl⟩⟩ gw_2_88 gw_2_89 (fun H _ hz _ => PP.recv (f := 1) (i := (6 + 2 * (40 * j3 + j4))) X.2.1 hz.1 (show (6 + 2 * (40 * j3 + j4)) < 773 by omega) rfl rfl) rfl rfl (Nat.le_of_ble_eq_true rfl) dX8_field_141 ?_
      exact tv_iret X dX8_field_144 h
    rw [if_neg c29_8] at h
    by_cases c29_9 : x5 = 9
    · rw [if_pos c29_9] at h
      refine tv_tableIn 145 X dX8_field_29 (by rw [c29_9]; decide) (by rw [c29_9]; decide) (by rw [c29_9]; rfl) (by decide) ?_
      refine tv_aload X dX8_field_145 1 rfl ?_
      refine tv_iload_n X dX8_field_147 rfl 4 rfl ?_
      obtain ⟨s12, x13, hs12, h⟩ := cl_some h
      refine tv_callVi (st := []) X (c_X7_countReached Γ.2.1 Ω ad A s1 j3 a2 (by omega) hs12) ⟨gw_4_107, gw_4_104, gw_1_6, q_X7_countReached, rfl, rfl, ⟨Nat.le_of_ble_eq_true rfl, Nat.le_of_ble_eq_true rfl⟩⟩ gw_4_105 gw_4_106 (fun H _ hz _ => PP.recv (f := 3) (i := j3) X.2.1 hz.1 (show j3 < 8 by omega) rfl rfl) rfl rfl (Nat.le_of_ble_eq_true rfl) dX8_field_148 ?_
      exact tv_iret X dX8_field_151 h
    rw [if_neg c29_9] at h
    have zc29_0 := ne_toInt 0 c29_0 (by decide)
    have zc29_1 := ne_toInt 1 c29_1 (by decide)
    have zc29_2 := ne_toInt 2 c29_2 (by decide)
    have zc29_3 := ne_toInt 3 c29_3 (by decide)
    have zc29_4 := ne_toInt 4 c29_4 (by decide)
    have zc29_5 := ne_toInt 5 c29_5 (by decide)
    have zc29_6 := ne_toInt 6 c29_6 (by decide)
    have zc29_7 := ne_toInt 7 c29_7 (by decide)
    have zc29_8 := ne_toInt 8 c29_8 (by decide)
    have zc29_9 := ne_toInt 9 c29_9 (by decide)
    refine tv_tableOut 152 X dX8_field_29 (by omega) (by decide) ?_
    refine tv_iconst X (-1) dX8_field_152 (by decide) ?_
    exact tv_iret X dX8_field_153 h
  · refine tv_iconst X (-1) dX8_field_9 (by decide) ?_
    exact tv_iret X dX8_field_10 h
set_option maxHeartbeats 4000000 in
set_option maxRecDepth 100000 in
theorem c_X8_letter (l : Launch) (Ω : Wd) (ad : Nat → Nat → Nat) (A : Nat → Prop) (σ : St) (a1 : Int32) (a2 : Int32) (a3 : Int32) {res : St × Int32} (h : f_X8_letter σ a1 a2 a3 = some res) : Met l yX8_letter (wsO yX8_letter cX8_letter 4 (some .int)) rm_X8_letter (PcZ Ω A (PicX Ω ad A σ) [.ref (ad 0 0), .int a1, .int a2, .int a3]) (Qci (PicX Ω ad A) A res) 0 0 A := by
  refine Met.ofV (by decide) rfl (fun Γ hΓ X => ?_)
  have X : Fx Γ Ω A cX8_letter 4 "MappingTexts" rm_X8_letter (some .int) := X
  unfold f_X8_letter at h
  show V Γ (0, 0) _ A 4 _ 0 [(0, .ref (ad 0 0)), (1, .int a1), (2, .int a2), (3, .int a3)] []
  refine tv_aload_n X dX8_letter_0 rfl 0 rfl ?_
  refine tv_iload_n X dX8_letter_1 rfl 1 rfl ?_
  refine tv_iload_n X dX8_letter_2 rfl 2 rfl ?_
  obtain ⟨s1, x2, hs1, h⟩ := cl_some h
  refine tv_callVi (st := []) X (c_X8_isField Γ.2.1 Ω ad A σ a1 a2 hs1) ⟨gw_4_99, gw_4_96, gw_1_1, q_X8_isField, rfl, rfl, ⟨Nat.le_of_ble_eq_true rfl, Nat.le_of_ble_eq_true rfl⟩⟩ gw_4_98 gw_p_43 (fun H _ hz _ => PP.recv (f := 0) (i := 0) X.2.1 hz.1 (show 0 < 1 by omega) rfl rfl) rfl rfl (Nat.le_of_ble_eq_true rfl) dX8_letter_3 ?_
  refine tv_if_ne X 11 dX8_letter_6 (by decide) h (fun h => ?_) (fun h => ?_)
  · refine tv_aload_n X dX8_letter_11 rfl 0 rfl ?_
    refine gX7_3 X (by omega) gw_2_47 dX8_letter_12 ?_
    refine tv_iload_n X dX8_letter_15 rfl 1 rfl ?_
    refine aaX12 X (by omega) dX8_letter_16 h (fun j3 hj3 h => ?_)
    refine gX6_0 X (by omega) gw_1_196 dX8_letter_17 ?_
    refine tv_iload_n X dX8_letter_20 rfl 2 rfl ?_
    refine aaX6 X (by omega) dX8_letter_21 h (fun j4 hj4 h => ?_)
    refine gX1_0 X (by omega) gw_1_112 dX8_letter_22 ?_
    refine tv_iload_n X dX8_letter_25 rfl 3 rfl ?_
    obtain ⟨s5, x6, hs5, h⟩ := cl_some h
    refine tv_callVi (st := []) X (c_X3_at Γ.2.1 Ω ad A s1 (5 + 2 * (40 * j3 + j4)) a3 (by omega) hs5) ⟨gw_2_119, gw_4_113, gw_1_2, q_X3_at, rfl, rfl, ⟨Nat.le_of_ble_eq_true rfl, Nat.le_of_ble_eq_true rfl⟩⟩ gw_2_117 gw_2_118 (fun H _ hz _ => PP.recv (f := 1) (i := (5 + 2 * (40 * j3 + j4))) X.2.1 hz.1 (show (5 + 2 * (40 * j3 + j4)) < 773 by omega) rfl rfl) rfl rfl (Nat.le_of_ble_eq_true rfl) dX8_letter_26 ?_
    exact tv_iret X dX8_letter_29 h
  · refine tv_iconst X (-1) dX8_letter_9 (by decide) ?_
    exact tv_iret X dX8_letter_10 h
set_option maxHeartbeats 4000000 in
set_option maxRecDepth 100000 in
theorem c_X8_leaf (l : Launch) (Ω : Wd) (ad : Nat → Nat → Nat) (A : Nat → Prop) (σ : St) (a1 : Int32) (a2 : Int32) {res : St × Int32} (h : f_X8_leaf σ a1 a2 = some res) : Met l yX8_leaf (wsO yX8_leaf cX8_leaf 4 (some .int)) rm_X8_leaf (PcZ Ω A (PicX Ω ad A σ) [.ref (ad 0 0), .int a1, .int a2]) (Qci (PicX Ω ad A) A res) 0 0 A := by
  refine Met.ofV (by decide) rfl (fun Γ hΓ X => ?_)
  have X : Fx Γ Ω A cX8_leaf 4 "MappingTexts" rm_X8_leaf (some .int) := X
  unfold f_X8_leaf at h
  show V Γ (0, 0) _ A 4 _ 0 [(0, .ref (ad 0 0)), (1, .int a1), (2, .int a2)] []
  refine tv_aload_n X dX8_leaf_0 rfl 0 rfl ?_
  refine tv_iload_n X dX8_leaf_1 rfl 1 rfl ?_
  refine tv_iload_n X dX8_leaf_2 rfl 2 rfl ?_
  obtain ⟨s1, x2, hs1, h⟩ := cl_some h
  refine tv_callVi (st := []) X (c_X8_isField Γ.2.1 Ω ad A σ a1 a2 hs1) ⟨gw_4_99, gw_4_96, gw_1_1, q_X8_isField, rfl, rfl, ⟨Nat.le_of_ble_eq_true rfl, Nat.le_of_ble_eq_true rfl⟩⟩ gw_4_98 gw_p_43 (fun H _ hz _ => PP.recv (f := 0) (i := 0) X.2.1 hz.1 (show 0 < 1 by omega) rfl rfl) rfl rfl (Nat.le_of_ble_eq_true rfl) dX8_leaf_3 ?_
  refine tv_if_ne X 11 dX8_leaf_6 (by decide) h (fun h => ?_) (fun h => ?_)
  · refine tv_aload_n X dX8_leaf_11 rfl 0 rfl ?_
    refine gX7_3 X (by omega) gw_2_47 dX8_leaf_12 ?_
    refine tv_iload_n X dX8_leaf_15 rfl 1 rfl ?_
    refine aaX12 X (by omega) dX8_leaf_16 h (fun j3 hj3 h => ?_)
    refine gX6_0 X (by omega) gw_1_196 dX8_leaf_17 ?_
    refine tv_iload_n X dX8_leaf_20 rfl 2 rfl ?_
    refine aaX6 X (by omega) dX8_leaf_21 h (fun j4 hj4 h => ?_)
    refine tv_astore_n X dX8_leaf_22 rfl (by decide) [(3, .ref (ad 4 (40 * j3 + j4))), (0, .ref (ad 0 0)), (1, .int a1), (2, .int a2)] rfl ?_
    refine tv_aload_n X dX8_leaf_23 rfl 0 rfl ?_
    refine gX1_2 X (by omega) gw_1_122 dX8_leaf_24 ?_
    obtain ⟨s5, x6, hs5, h⟩ := cl_some h
    refine tv_callSi (st := []) X (c_X2_isLeaf Γ.2.1 Ω ad A s1 (gi s1 102 (40 * j3 + j4)) hs5) ⟨gw_3_110, gw_4_118, gw_1_16, q_X2_isLeaf, rfl, rfl, ⟨Nat.le_of_ble_eq_true rfl, Nat.le_of_ble_eq_true rfl⟩⟩ gw_3_109 rfl rfl (Nat.le_of_ble_eq_true rfl) dX8_leaf_27 ?_
    refine tv_if_eq X 37 dX8_leaf_30 (by decide) h (fun h => ?_) (fun h => ?_)
    · refine tv_aload_n X dX8_leaf_37 rfl 0 rfl ?_
      refine gX1_6 X (by omega) gw_1_140 dX8_leaf_38 ?_
      exact tv_iret X dX8_leaf_41 h
    · refine tv_iload_n X dX8_leaf_33 rfl 3 rfl ?_
      refine tv_goto X 41 dX8_leaf_34 (by decide) ?_
      exact tv_iret X dX8_leaf_41 h
  · refine tv_iconst X (-1) dX8_leaf_9 (by decide) ?_
    exact tv_iret X dX8_leaf_10 h
set_option maxHeartbeats 4000000 in
set_option maxRecDepth 100000 in
theorem l_X8_rule_22 {Γ : Cx} {Ω : Wd} {ad : Nat → Nat → Nat} {A : Nat → Prop} {res : St × Int32} (X : Fx Γ Ω A cX8_rule 4 "MappingTexts" rm_X8_rule (some .int)) {k23 : St → Int32 → Int32 → Int32 → Option (St × Int32)} (hk23 : ∀ (σ : St) (t0 : Int32) (v1 : Int32) (v2 : Int32), k23 σ t0 v1 v2 = some res → V Γ (0, 0) (Qe Γ (0, 0) A (Qci (PicX Ω ad A) A res)) A 4 (PicX Ω ad A σ) 23 [(0, .ref (ad 0 0)), (1, .int v1), (2, .int v2)] [.int t0]) (σ : St) (v1 : Int32) (v2 : Int32) (h : f_X8_rule_22 k23 σ v1 v2 = some res) : V Γ (0, 0) (Qe Γ (0, 0) A (Qci (PicX Ω ad A) A res)) A 4 (PicX Ω ad A σ) 22 [(0, .ref (ad 0 0)), (1, .int v1), (2, .int v2)] [] := by
  unfold f_X8_rule_22 at h
  refine tv_iconst X 0 dX8_rule_22 (by decide) ?_
  exact hk23 σ 0 v1 v2 h
set_option maxHeartbeats 4000000 in
set_option maxRecDepth 100000 in
theorem l_X8_rule_23 {Γ : Cx} {Ω : Wd} {ad : Nat → Nat → Nat} {A : Nat → Prop} {res : St × Int32} (X : Fx Γ Ω A cX8_rule 4 "MappingTexts" rm_X8_rule (some .int)) (σ : St) (t0 : Int32) (v1 : Int32) (v2 : Int32) (h : f_X8_rule_23 σ t0 v1 v2 = some res) : V Γ (0, 0) (Qe Γ (0, 0) A (Qci (PicX Ω ad A) A res)) A 4 (PicX Ω ad A σ) 23 [(0, .ref (ad 0 0)), (1, .int v1), (2, .int v2)] [.int t0] := by
  unfold f_X8_rule_23 at h
  refine tv_istore_n X dX8_rule_23 rfl (by decide) [(3, .int t0), (0, .ref (ad 0 0)), (1, .int v1), (2, .int v2)] rfl ?_
  refine tv_aload_n X dX8_rule_24 rfl 1 rfl ?_
  refine tv_iload_n X dX8_rule_25 rfl 2 rfl ?_
  obtain ⟨s5, x6, hs5, h⟩ := cl_some h
  refine tv_callVi (st := []) X (c_X8_isVersion Γ.2.1 Ω ad A σ v1 hs5) ⟨gw_4_11, gw_4_8, gw_1_1, q_X8_isVersion, rfl, rfl, ⟨Nat.le_of_ble_eq_true rfl, Nat.le_of_ble_eq_true rfl⟩⟩ gw_4_10 gw_p_39 (fun H _ hz _ => PP.recv (f := 0) (i := 0) X.2.1 hz.1 (show 0 < 1 by omega) rfl rfl) rfl rfl (Nat.le_of_ble_eq_true rfl) dX8_rule_26 ?_
  refine tv_if_eq X 39 dX8_rule_29 (by decide) h (fun h => ?_) (fun h => ?_)
  · refine tv_iconst X (-1) dX8_rule_39 (by decide) ?_
    exact tv_iret X dX8_rule_40 h
  · refine tv_iload_n X dX8_rule_32 rfl 3 rfl ?_
    obtain ⟨s7, x8, hs7, h⟩ := cl_some h
    refine tv_callSi (st := []) X (c_X8_isMet Γ.2.1 Ω ad A s5 v2 hs7) ⟨gw_4_14, gw_4_12, gw_1_1, q_X8_isMet, rfl, rfl, ⟨Nat.le_of_ble_eq_true rfl, Nat.le_of_ble_eq_true rfl⟩⟩ gw_4_13 rfl rfl (Nat.le_of_ble_eq_true rfl) dX8_rule_33 ?_
    refine tv_if_ne X 41 dX8_rule_36 (by decide) h (fun h => ?_) (fun h => ?_)
    · refine tv_iload_n X dX8_rule_41 rfl 0 rfl ?_
      refine tv_if_eq X 63 dX8_rule_42 (by decide) h (fun h => ?_) (fun h => ?_)
      · refine tv_bipush X (-2) dX8_rule_63 (by decide) ?_
        exact tv_iret X dX8_rule_65 h
      · refine tv_aload_n X dX8_rule_45 rfl 1 rfl ?_
        refine gX7_3 X (by omega) gw_2_47 dX8_rule_46 ?_
        refine tv_iload_n X dX8_rule_49 rfl 2 rfl ?_
        refine aaX12 X (by omega) dX8_rule_50 h (fun j9 hj9 h => ?_)
        refine tv_aload_n X dX8_rule_51 rfl 1 rfl ?_
        refine gX7_1 X (by omega) gw_2_45 dX8_rule_52 ?_
        refine tv_iconst X 0 dX8_rule_55 (by decide) ?_
        refine tv_iload_n X dX8_rule_56 rfl 3 rfl ?_
        obtain ⟨s10, x11, hs10, h⟩ := cl_some h
        refine tv_callVi (st := []) X (c_X7_ruleFor Γ.2.1 Ω ad A s7 j9 1 0 v2 (by omega) (by omega) hs10) ⟨gw_4_45, gw_4_124, gw_1_6, q_X7_ruleFor, rfl, rfl, ⟨Nat.le_of_ble_eq_true rfl, Nat.le_of_ble_eq_true rfl⟩⟩ gw_4_43 gw_4_44 (fun H _ hz _ => PP.recv (f := 3) (i := j9) X.2.1 hz.1 (show j9 < 8 by omega) rfl rfl) rfl rfl (Nat.le_of_ble_eq_true rfl) dX8_rule_57 ?_
        refine tv_goto X 65 dX8_rule_60 (by decide) ?_
        exact tv_iret X dX8_rule_65 h
    · refine tv_iconst X (-1) dX8_rule_39 (by decide) ?_
      exact tv_iret X dX8_rule_40 h
set_option maxHeartbeats 4000000 in
set_option maxRecDepth 100000 in
theorem c_X8_rule (l : Launch) (Ω : Wd) (ad : Nat → Nat → Nat) (A : Nat → Prop) (σ : St) (a1 : Int32) (a2 : Int32) {res : St × Int32} (h : f_X8_rule σ a1 a2 = some res) : Met l yX8_rule (wsO yX8_rule cX8_rule 4 (some .int)) rm_X8_rule (PcZ Ω A (PicX Ω ad A σ) [.ref (ad 0 0), .int a1, .int a2]) (Qci (PicX Ω ad A) A res) 0 0 A := by
  refine Met.ofV (by decide) rfl (fun Γ hΓ X => ?_)
  have X : Fx Γ Ω A cX8_rule 4 "MappingTexts" rm_X8_rule (some .int) := X
  unfold f_X8_rule at h
  show V Γ (0, 0) _ A 4 _ 0 [(0, .ref (ad 0 0)), (1, .int a1), (2, .int a2)] []
  refine tv_aload_n X dX8_rule_0 rfl 0 rfl ?_
  obtain ⟨s1, x2, hs1, h⟩ := cl_some h
  refine tv_callVi (st := []) X (c_X8_takePath Γ.2.1 Ω ad A σ hs1) ⟨gw_4_0, gw_3_237, gw_1_1, q_X8_takePath, rfl, rfl, ⟨Nat.le_of_ble_eq_true rfl, Nat.le_of_ble_eq_true rfl⟩⟩ gw_3_239 gw_p_38 (fun H _ hz _ => PP.recv (f := 0) (i := 0) X.2.1 hz.1 (show 0 < 1 by omega) rfl rfl) rfl rfl (Nat.le_of_ble_eq_true rfl) dX8_rule_1 ?_
  refine tv_if_eq X 22 dX8_rule_4 (by decide) h (fun h => ?_) (fun h => ?_)
  · exact l_X8_rule_22 X (l_X8_rule_23 X) s1 a1 a2 h
  · refine tv_aload_n X dX8_rule_7 rfl 0 rfl ?_
    refine gX7_2 X (by omega) gw_2_46 dX8_rule_8 ?_
    obtain ⟨s3, x4, hs3, h⟩ := cl_some h
    refine tv_callVi (st := []) X (c_X6_count Γ.2.1 Ω ad A s1 hs3) ⟨gw_2_151, gw_4_123, gw_1_4, q_X6_count, rfl, rfl, ⟨Nat.le_of_ble_eq_true rfl, Nat.le_of_ble_eq_true rfl⟩⟩ gw_2_149 gw_2_150 (fun H _ hz _ => PP.recv (f := 9) (i := 0) X.2.1 hz.1 (show 0 < 1 by omega) rfl rfl) rfl rfl (Nat.le_of_ble_eq_true rfl) dX8_rule_11 ?_
    refine tv_iconst X 1 dX8_rule_14 (by decide) ?_
    refine tv_icmp_ne X 22 dX8_rule_15 (by decide) h (fun h => ?_) (fun h => ?_)
    · exact l_X8_rule_22 X (l_X8_rule_23 X) s3 a1 a2 h
    · refine tv_iconst X 1 dX8_rule_18 (by decide) ?_
      refine tv_goto X 23 dX8_rule_19 (by decide) ?_
      exact l_X8_rule_23 X s3 1 a1 a2 h
set_option maxHeartbeats 4000000 in
set_option maxRecDepth 100000 in
theorem c_X8_print (l : Launch) (Ω : Wd) (ad : Nat → Nat → Nat) (A : Nat → Prop) (σ : St) (a1 : Int32) {res : St × Int32} (h : f_X8_print σ a1 = some res) : Met l yX8_print (wsO yX8_print cX8_print 3 (some .int)) rm_X8_print (PcZ Ω A (PicX Ω ad A σ) [.ref (ad 0 0), .int a1]) (Qci (PicX Ω ad A) A res) 0 0 A := by
  refine Met.ofV (by decide) rfl (fun Γ hΓ X => ?_)
  have X : Fx Γ Ω A cX8_print 3 "MappingTexts" rm_X8_print (some .int) := X
  unfold f_X8_print at h
  show V Γ (0, 0) _ A 3 _ 0 [(0, .ref (ad 0 0)), (1, .int a1)] []
  refine tv_aload_n X dX8_print_0 rfl 0 rfl ?_
  refine tv_iload_n X dX8_print_1 rfl 1 rfl ?_
  obtain ⟨s1, x2, hs1, h⟩ := cl_some h
  refine tv_callVi (st := []) X (c_X8_isVersion Γ.2.1 Ω ad A σ a1 hs1) ⟨gw_4_11, gw_4_8, gw_1_1, q_X8_isVersion, rfl, rfl, ⟨Nat.le_of_ble_eq_true rfl, Nat.le_of_ble_eq_true rfl⟩⟩ gw_4_10 gw_p_39 (fun H _ hz _ => PP.recv (f := 0) (i := 0) X.2.1 hz.1 (show 0 < 1 by omega) rfl rfl) rfl rfl (Nat.le_of_ble_eq_true rfl) dX8_print_2 ?_
  refine tv_if_ne X 10 dX8_print_5 (by decide) h (fun h => ?_) (fun h => ?_)
  · refine tv_aload_n X dX8_print_10 rfl 0 rfl ?_
    refine gX7_7 X (by omega) gw_2_51 dX8_print_11 (fun hg11 => ?_)
    obtain ⟨s3, _u14, hs3, h⟩ := cl_some h
    refine tv_callVv (st := []) X (c_X3_clear Γ.2.1 Ω ad A s1 (gr s1 1 0) (by omega) hs3) ⟨gw_2_98, gw_2_95, gw_1_2, q_X3_clear, rfl, rfl, ⟨Nat.le_of_ble_eq_true rfl, Nat.le_of_ble_eq_true rfl⟩⟩ gw_2_96 gw_2_97 (fun H _ hz _ => PP.recv (f := 1) (i := (gr s1 1 0)) X.2.1 hz.1 (show (gr s1 1 0) < 773 by omega) rfl rfl) rfl rfl (Nat.le_of_ble_eq_true rfl) dX8_print_14 ?_
    refine tv_aload_n X dX8_print_17 rfl 0 rfl ?_
    refine gX7_3 X (by omega) gw_2_47 dX8_print_18 ?_
    refine tv_iload_n X dX8_print_21 rfl 1 rfl ?_
    refine aaX12 X (by omega) dX8_print_22 h (fun j4 hj4 h => ?_)
    refine tv_aload_n X dX8_print_23 rfl 0 rfl ?_
    refine gX7_7 X (by omega) gw_2_51 dX8_print_24 (fun hg24 => ?_)
    obtain ⟨s5, _u27, hs5, h⟩ := cl_some h
    refine tv_callVv (st := []) X (c_X7_printTo Γ.2.1 Ω ad A s3 j4 (gr s3 1 0) (by omega) (by omega) hs5) ⟨gw_4_132, gw_4_129, gw_1_6, q_X7_printTo, rfl, rfl, ⟨Nat.le_of_ble_eq_true rfl, Nat.le_of_ble_eq_true rfl⟩⟩ gw_4_130 gw_4_131 (fun H _ hz _ => PP.recv (f := 3) (i := j4) X.2.1 hz.1 (show j4 < 8 by omega) rfl rfl) rfl rfl (Nat.le_of_ble_eq_true rfl) dX8_print_27 ?_
    refine tv_aload_n X dX8_print_30 rfl 0 rfl ?_
    refine gX7_7 X (by omega) gw_2_51 dX8_print_31 (fun hg31 => ?_)
    obtain ⟨s6, x7, hs6, h⟩ := cl_some h
    refine tv_callVi (st := []) X (c_X3_isOver Γ.2.1 Ω ad A s5 (gr s5 1 0) (by omega) hs6) ⟨gw_3_181, gw_4_7, gw_1_2, q_X3_isOver, rfl, rfl, ⟨Nat.le_of_ble_eq_true rfl, Nat.le_of_ble_eq_true rfl⟩⟩ gw_3_179 gw_3_180 (fun H _ hz _ => PP.recv (f := 1) (i := (gr s5 1 0)) X.2.1 hz.1 (show (gr s5 1 0) < 773 by omega) rfl rfl) rfl rfl (Nat.le_of_ble_eq_true rfl) dX8_print_34 ?_
    refine tv_if_eq X 43 dX8_print_37 (by decide) h (fun h => ?_) (fun h => ?_)
    · refine tv_aload_n X dX8_print_43 rfl 0 rfl ?_
      refine gX7_6 X (by omega) gw_2_50 dX8_print_44 (fun hg44 => ?_)
      refine tv_astore_n X dX8_print_47 rfl (by decide) [(2, .ref (ad 1 (gr s6 0 0))), (0, .ref (ad 0 0)), (1, .int a1)] rfl ?_
      refine tv_aload_n X dX8_print_48 rfl 1 rfl ?_
      refine tv_aload_n X dX8_print_49 rfl 1 rfl ?_
      refine gX7_7 X (by omega) gw_2_51 dX8_print_50 (fun hg50 => ?_)
      refine pX7_6 X (by omega) (by omega) gw_2_50 dX8_print_53 ?_
      refine tv_ns h (fun s8 h => ?_)
      refine tv_aload_n X dX8_print_56 rfl 1 rfl ?_
      refine tv_aload_n X dX8_print_57 rfl 0 rfl ?_
      refine pX7_7 X (by omega) (by omega) gw_2_51 dX8_print_58 ?_
      refine tv_ns h (fun s9 h => ?_)
      refine tv_aload_n X dX8_print_61 rfl 1 rfl ?_
      refine gX7_6 X (by omega) gw_2_50 dX8_print_62 (fun hg62 => ?_)
      obtain ⟨s10, x11, hs10, h⟩ := cl_some h
      refine tv_callVi (st := []) X (c_X3_length Γ.2.1 Ω ad A s9 (gr s9 0 0) (by omega) hs10) ⟨gw_2_90, gw_2_87, gw_1_2, q_X3_length, rfl, rfl, ⟨Nat.le_of_ble_eq_true rfl, Nat.le_of_ble_eq_true rfl⟩⟩ gw_2_88 gw_2_89 (fun H _ hz _ => PP.recv (f := 1) (i := (gr s9 0 0)) X.2.1 hz.1 (show (gr s9 0 0) < 773 by omega) rfl rfl) rfl rfl (Nat.le_of_ble_eq_true rfl) dX8_print_65 ?_
      exact tv_iret X dX8_print_68 h
    · refine tv_bipush X (-3) dX8_print_40 (by decide) ?_
      exact tv_iret X dX8_print_42 h
  · refine tv_iconst X (-1) dX8_print_8 (by decide) ?_
    exact tv_iret X dX8_print_9 h
set_option maxHeartbeats 4000000 in
set_option maxRecDepth 100000 in
theorem c_X8_out (l : Launch) (Ω : Wd) (ad : Nat → Nat → Nat) (A : Nat → Prop) (σ : St) (a1 : Int32) {res : St × Int32} (h : f_X8_out σ a1 = some res) : Met l yX8_out (wsO yX8_out cX8_out 2 (some .int)) rm_X8_out (PcZ Ω A (PicX Ω ad A σ) [.ref (ad 0 0), .int a1]) (Qci (PicX Ω ad A) A res) 0 0 A := by
  refine Met.ofV (by decide) rfl (fun Γ hΓ X => ?_)
  have X : Fx Γ Ω A cX8_out 2 "MappingTexts" rm_X8_out (some .int) := X
  unfold f_X8_out at h
  show V Γ (0, 0) _ A 2 _ 0 [(0, .ref (ad 0 0)), (1, .int a1)] []
  refine tv_aload_n X dX8_out_0 rfl 0 rfl ?_
  refine gX7_6 X (by omega) gw_2_50 dX8_out_1 (fun hg1 => ?_)
  refine tv_iload_n X dX8_out_4 rfl 1 rfl ?_
  obtain ⟨s1, x2, hs1, h⟩ := cl_some h
  refine tv_callVi (st := []) X (c_X3_at Γ.2.1 Ω ad A σ (gr σ 0 0) a1 (by omega) hs1) ⟨gw_2_119, gw_4_113, gw_1_2, q_X3_at, rfl, rfl, ⟨Nat.le_of_ble_eq_true rfl, Nat.le_of_ble_eq_true rfl⟩⟩ gw_2_117 gw_2_118 (fun H _ hz _ => PP.recv (f := 1) (i := (gr σ 0 0)) X.2.1 hz.1 (show (gr σ 0 0) < 773 by omega) rfl rfl) rfl rfl (Nat.le_of_ble_eq_true rfl) dX8_out_5 ?_
  exact tv_iret X dX8_out_8 h
set_option maxHeartbeats 4000000 in
set_option maxRecDepth 100000 in
theorem c_X8_take (l : Launch) (Ω : Wd) (ad : Nat → Nat → Nat) (A : Nat → Prop) (σ : St) {res : St × Int32} (h : f_X8_take σ = some res) : Met l yX8_take (wsO yX8_take cX8_take 1 (some .int)) rm_X8_take (PcZ Ω A (PicX Ω ad A σ) [.ref (ad 0 0)]) (Qci (PicX Ω ad A) A res) 0 0 A := by
  refine Met.ofV (by decide) rfl (fun Γ hΓ X => ?_)
  have X : Fx Γ Ω A cX8_take 1 "MappingTexts" rm_X8_take (some .int) := X
  unfold f_X8_take at h
  show V Γ (0, 0) _ A 1 _ 0 [(0, .ref (ad 0 0))] []
  refine tv_aload_n X dX8_take_0 rfl 0 rfl ?_
  refine gX7_6 X (by omega) gw_2_50 dX8_take_1 (fun hg1 => ?_)
  obtain ⟨s1, x2, hs1, h⟩ := cl_some h
  refine tv_callVi (st := []) X (c_X3_length Γ.2.1 Ω ad A σ (gr σ 0 0) (by omega) hs1) ⟨gw_2_90, gw_2_87, gw_1_2, q_X3_length, rfl, rfl, ⟨Nat.le_of_ble_eq_true rfl, Nat.le_of_ble_eq_true rfl⟩⟩ gw_2_88 gw_2_89 (fun H _ hz _ => PP.recv (f := 1) (i := (gr σ 0 0)) X.2.1 hz.1 (show (gr σ 0 0) < 773 by omega) rfl rfl) rfl rfl (Nat.le_of_ble_eq_true rfl) dX8_take_4 ?_
  refine tv_sipush X 2000 dX8_take_7 (by decide) ?_
  refine tv_icmp_le X 16 dX8_take_10 (by decide) h (fun h => ?_) (fun h => ?_)
  · refine tv_aload_n X dX8_take_16 rfl 0 rfl ?_
    refine gX7_0 X (by omega) gw_2_44 dX8_take_17 ?_
    refine tv_aload_n X dX8_take_20 rfl 0 rfl ?_
    refine gX7_6 X (by omega) gw_2_50 dX8_take_21 (fun hg21 => ?_)
    obtain ⟨s3, _u24, hs3, h⟩ := cl_some h
    refine tv_callVv (st := []) X (c_X3_copyFrom Γ.2.1 Ω ad A s1 0 (gr s1 0 0) (by omega) (by omega) hs3) ⟨gw_4_71, gw_4_183, gw_1_2, q_X3_copyFrom, rfl, rfl, ⟨Nat.le_of_ble_eq_true rfl, Nat.le_of_ble_eq_true rfl⟩⟩ gw_4_69 gw_4_70 (fun H _ hz _ => PP.recv (f := 1) (i := 0) X.2.1 hz.1 (show 0 < 773 by omega) rfl rfl) rfl rfl (Nat.le_of_ble_eq_true rfl) dX8_take_24 ?_
    refine tv_aload_n X dX8_take_27 rfl 0 rfl ?_
    refine gX7_0 X (by omega) gw_2_44 dX8_take_28 ?_
    obtain ⟨s4, x5, hs4, h⟩ := cl_some h
    refine tv_callVi (st := []) X (c_X3_length Γ.2.1 Ω ad A s3 0 (by omega) hs4) ⟨gw_2_90, gw_2_87, gw_1_2, q_X3_length, rfl, rfl, ⟨Nat.le_of_ble_eq_true rfl, Nat.le_of_ble_eq_true rfl⟩⟩ gw_2_88 gw_2_89 (fun H _ hz _ => PP.recv (f := 1) (i := 0) X.2.1 hz.1 (show 0 < 773 by omega) rfl rfl) rfl rfl (Nat.le_of_ble_eq_true rfl) dX8_take_31 ?_
    exact tv_iret X dX8_take_34 h
  · refine tv_bipush X (-3) dX8_take_13 (by decide) ?_
    exact tv_iret X dX8_take_15 h
set_option maxHeartbeats 4000000 in
set_option maxRecDepth 100000 in
theorem c_X8_differences (l : Launch) (Ω : Wd) (ad : Nat → Nat → Nat) (A : Nat → Prop) (σ : St) (a1 : Int32) (a2 : Int32) {res : St × Int32} (h : f_X8_differences σ a1 a2 = some res) : Met l yX8_differences (wsO yX8_differences cX8_differences 3 (some .int)) rm_X8_differences (PcZ Ω A (PicX Ω ad A σ) [.ref (ad 0 0), .int a1, .int a2]) (Qci (PicX Ω ad A) A res) 0 0 A := by
  refine Met.ofV (by decide) rfl (fun Γ hΓ X => ?_)
  have X : Fx Γ Ω A cX8_differences 3 "MappingTexts" rm_X8_differences (some .int) := X
  unfold f_X8_differences at h
  show V Γ (0, 0) _ A 3 _ 0 [(0, .ref (ad 0 0)), (1, .int a1), (2, .int a2)] []
  refine tv_aload_n X dX8_differences_0 rfl 0 rfl ?_
  refine tv_iload_n X dX8_differences_1 rfl 1 rfl ?_
  obtain ⟨s1, x2, hs1, h⟩ := cl_some h
  refine tv_callVi (st := []) X (c_X8_isVersion Γ.2.1 Ω ad A σ a1 hs1) ⟨gw_4_11, gw_4_8, gw_1_1, q_X8_isVersion, rfl, rfl, ⟨Nat.le_of_ble_eq_true rfl, Nat.le_of_ble_eq_true rfl⟩⟩ gw_4_10 gw_p_39 (fun H _ hz _ => PP.recv (f := 0) (i := 0) X.2.1 hz.1 (show 0 < 1 by omega) rfl rfl) rfl rfl (Nat.le_of_ble_eq_true rfl) dX8_differences_2 ?_
  refine tv_if_eq X 16 dX8_differences_5 (by decide) h (fun h => ?_) (fun h => ?_)
  · refine tv_iconst X (-1) dX8_differences_16 (by decide) ?_
    exact tv_iret X dX8_differences_17 h
  · refine tv_aload_n X dX8_differences_8 rfl 0 rfl ?_
    refine tv_iload_n X dX8_differences_9 rfl 2 rfl ?_
    obtain ⟨s3, x4, hs3, h⟩ := cl_some h
    refine tv_callVi (st := []) X (c_X8_isVersion Γ.2.1 Ω ad A s1 a2 hs3) ⟨gw_4_11, gw_4_8, gw_1_1, q_X8_isVersion, rfl, rfl, ⟨Nat.le_of_ble_eq_true rfl, Nat.le_of_ble_eq_true rfl⟩⟩ gw_4_10 gw_p_39 (fun H _ hz _ => PP.recv (f := 0) (i := 0) X.2.1 hz.1 (show 0 < 1 by omega) rfl rfl) rfl rfl (Nat.le_of_ble_eq_true rfl) dX8_differences_10 ?_
    refine tv_if_ne X 18 dX8_differences_13 (by decide) h (fun h => ?_) (fun h => ?_)
    · refine tv_aload_n X dX8_differences_18 rfl 0 rfl ?_
      refine gX7_5 X (by omega) gw_2_49 dX8_differences_19 ?_
      refine tv_aload_n X dX8_differences_22 rfl 0 rfl ?_
      refine gX7_3 X (by omega) gw_2_47 dX8_differences_23 ?_
      refine tv_iload_n X dX8_differences_26 rfl 1 rfl ?_
      refine aaX12 X (by omega) dX8_differences_27 h (fun j5 hj5 h => ?_)
      refine tv_aload_n X dX8_differences_28 rfl 0 rfl ?_
      refine gX7_3 X (by omega) gw_2_47 dX8_differences_29 ?_
      refine tv_iload_n X dX8_differences_32 rfl 2 rfl ?_
      refine aaX12 X (by omega) dX8_differences_33 h (fun j6 hj6 h => ?_)
      obtain ⟨s7, _u34, hs7, h⟩ := cl_some h
      refine tv_callVv (st := []) X (c_X0_compare Γ.2.1 Ω ad A s3 j5 j6 (by omega) (by omega) hs7) ⟨gw_4_191, gw_4_188, gw_1_5, q_X0_compare, rfl, rfl, ⟨Nat.le_of_ble_eq_true rfl, Nat.le_of_ble_eq_true rfl⟩⟩ gw_4_189 gw_4_190 (fun H _ hz _ => PP.recv (f := 11) (i := 0) X.2.1 hz.1 (show 0 < 1 by omega) rfl rfl) rfl rfl (Nat.le_of_ble_eq_true rfl) dX8_differences_34 ?_
      refine tv_aload_n X dX8_differences_37 rfl 0 rfl ?_
      refine gX7_5 X (by omega) gw_2_49 dX8_differences_38 ?_
      refine gX0_3 X (by omega) gw_1_83 dX8_differences_41 ?_
      exact tv_iret X dX8_differences_44 h
    · refine tv_iconst X (-1) dX8_differences_16 (by decide) ?_
      exact tv_iret X dX8_differences_17 h
set_option maxHeartbeats 4000000 in
set_option maxRecDepth 100000 in
theorem c_X8_difference (l : Launch) (Ω : Wd) (ad : Nat → Nat → Nat) (A : Nat → Prop) (σ : St) (a1 : Int32) (a2 : Int32) (a3 : Int32) (a4 : Int32) {res : St × Int32} (h : f_X8_difference σ a1 a2 a3 a4 = some res) : Met l yX8_difference (wsO yX8_difference cX8_difference 6 (some .int)) rm_X8_difference (PcZ Ω A (PicX Ω ad A σ) [.ref (ad 0 0), .int a1, .int a2, .int a3, .int a4]) (Qci (PicX Ω ad A) A res) 0 0 A := by
  refine Met.ofV (by decide) rfl (fun Γ hΓ X => ?_)
  have X : Fx Γ Ω A cX8_difference 6 "MappingTexts" rm_X8_difference (some .int) := X
  unfold f_X8_difference at h
  show V Γ (0, 0) _ A 6 _ 0 [(0, .ref (ad 0 0)), (1, .int a1), (2, .int a2), (3, .int a3), (4, .int a4)] []
  refine tv_aload_n X dX8_difference_0 rfl 0 rfl ?_
  refine tv_iload_n X dX8_difference_1 rfl 1 rfl ?_
  refine tv_iload_n X dX8_difference_2 rfl 2 rfl ?_
  obtain ⟨s1, x2, hs1, h⟩ := cl_some h
  refine tv_callVi (st := []) X (c_X8_differences Γ.2.1 Ω ad A σ a1 a2 hs1) ⟨gw_4_187, gw_4_211, gw_1_1, q_X8_differences, rfl, rfl, ⟨Nat.le_of_ble_eq_true rfl, Nat.le_of_ble_eq_true rfl⟩⟩ gw_4_185 gw_4_186 (fun H _ hz _ => PP.recv (f := 0) (i := 0) X.2.1 hz.1 (show 0 < 1 by omega) rfl rfl) rfl rfl (Nat.le_of_ble_eq_true rfl) dX8_difference_3 ?_
  refine tv_istore X dX8_difference_6 (by decide) [(5, .int x2), (0, .ref (ad 0 0)), (1, .int a1), (2, .int a2), (3, .int a3), (4, .int a4)] rfl ?_
  refine tv_iload X dX8_difference_8 0 rfl ?_
  refine tv_if_lt X 23 dX8_difference_10 (by decide) h (fun h => ?_) (fun h => ?_)
  · refine tv_iconst X (-1) dX8_difference_23 (by decide) ?_
    exact tv_iret X dX8_difference_24 h
  · refine tv_iload_n X dX8_difference_13 rfl 4 rfl ?_
    refine tv_if_lt X 23 dX8_difference_14 (by decide) h (fun h => ?_) (fun h => ?_)
    · refine tv_iconst X (-1) dX8_difference_23 (by decide) ?_
      exact tv_iret X dX8_difference_24 h
    · refine tv_iload_n X dX8_difference_17 rfl 4 rfl ?_
      refine tv_iload X dX8_difference_18 0 rfl ?_
      refine tv_icmp_lt X 25 dX8_difference_20 (by decide) h (fun h => ?_) (fun h => ?_)
      · refine tv_iload X dX8_difference_25 5 rfl ?_
        refine tv_nm h (fun x3 h => ?_)
        by_cases c27_0 : x3 = 0
        · rw [if_pos c27_0] at h
          refine tv_tableIn 52 X dX8_difference_27 (by rw [c27_0]; decide) (by rw [c27_0]; decide) (by rw [c27_0]; rfl) (by decide) ?_
          refine tv_aload_n X dX8_difference_52 rfl 1 rfl ?_
          refine gX7_5 X (by omega) gw_2_49 dX8_difference_53 ?_
          refine gX0_0 X (by omega) gw_1_77 dX8_difference_56 ?_
          refine tv_iload_n X dX8_difference_59 rfl 4 rfl ?_
          refine iaX X (by omega) dX8_difference_60 h (fun j4 hj4 h => ?_)
          exact tv_iret X dX8_difference_61 h
        rw [if_neg c27_0] at h
        by_cases c27_1 : x3 = 1
        · rw [if_pos c27_1] at h
          refine tv_tableIn 62 X dX8_difference_27 (by rw [c27_1]; decide) (by rw [c27_1]; decide) (by rw [c27_1]; rfl) (by decide) ?_
          refine tv_aload_n X dX8_difference_62 rfl 1 rfl ?_
          refine gX7_5 X (by omega) gw_2_49 dX8_difference_63 ?_
          refine gX0_1 X (by omega) gw_1_79 dX8_difference_66 ?_
          refine tv_iload_n X dX8_difference_69 rfl 4 rfl ?_
          refine iaX X (by omega) dX8_difference_70 h (fun j5 hj5 h => ?_)
          exact tv_iret X dX8_difference_71 h
        rw [if_neg c27_1] at h
        by_cases c27_2 : x3 = 2
        · rw [if_pos c27_2] at h
          refine tv_tableIn 72 X dX8_difference_27 (by rw [c27_2]; decide) (by rw [c27_2]; decide) (by rw [c27_2]; rfl) (by decide) ?_
          refine tv_aload_n X dX8_difference_72 rfl 1 rfl ?_
          refine gX7_5 X (by omega) gw_2_49 dX8_difference_73 ?_
          refine gX0_2 X (by omega) gw_1_81 dX8_difference_76 ?_
          refine tv_iload_n X dX8_difference_79 rfl 4 rfl ?_
          refine iaX X (by omega) dX8_difference_80 h (fun j6 hj6 h => ?_)
          exact tv_iret X dX8_difference_81 h
        rw [if_neg c27_2] at h
        have zc27_0 := ne_toInt 0 c27_0 (by decide)
        have zc27_1 := ne_toInt 1 c27_1 (by decide)
        have zc27_2 := ne_toInt 2 c27_2 (by decide)
        refine tv_tableOut 82 X dX8_difference_27 (by omega) (by decide) ?_
        refine tv_iconst X (-1) dX8_difference_82 (by decide) ?_
        exact tv_iret X dX8_difference_83 h
      · refine tv_iconst X (-1) dX8_difference_23 (by decide) ?_
        exact tv_iret X dX8_difference_24 h
set_option maxHeartbeats 4000000 in
set_option maxRecDepth 100000 in
theorem c_X8_toldOf (l : Launch) (Ω : Wd) (ad : Nat → Nat → Nat) (A : Nat → Prop) (σ : St) (a1 : Nat) (a2 : Int32) (ba1 : a1 < 8) {res : St × Int32} (h : f_X8_toldOf σ a1 a2 = some res) : Met l yX8_toldOf (wsO yX8_toldOf cX8_toldOf 2 (some .int)) rm_X8_toldOf (PcZ Ω A (PicX Ω ad A σ) [.ref (ad 3 a1), .int a2]) (Qci (PicX Ω ad A) A res) 0 0 A := by
  refine Met.ofV (by decide) rfl (fun Γ hΓ X => ?_)
  have X : Fx Γ Ω A cX8_toldOf 2 "MappingTexts" rm_X8_toldOf (some .int) := X
  unfold f_X8_toldOf at h
  show V Γ (0, 0) _ A 2 _ 0 [(0, .ref (ad 3 a1)), (1, .int a2)] []
  refine tv_iload_n X dX8_toldOf_0 rfl 1 rfl ?_
  refine tv_nm h (fun x1 h => ?_)
  by_cases c1_3 : x1 = 3
  · rw [if_pos c1_3] at h
    refine tv_tableIn 32 X dX8_toldOf_1 (by rw [c1_3]; decide) (by rw [c1_3]; decide) (by rw [c1_3]; rfl) (by decide) ?_
    refine tv_aload_n X dX8_toldOf_32 rfl 0 rfl ?_
    refine gX6_3 X (by omega) gw_1_204 dX8_toldOf_33 ?_
    exact tv_iret X dX8_toldOf_36 h
  rw [if_neg c1_3] at h
  by_cases c1_4 : x1 = 4
  · rw [if_pos c1_4] at h
    refine tv_tableIn 37 X dX8_toldOf_1 (by rw [c1_4]; decide) (by rw [c1_4]; decide) (by rw [c1_4]; rfl) (by decide) ?_
    refine tv_aload_n X dX8_toldOf_37 rfl 0 rfl ?_
    refine gX6_4 X (by omega) gw_1_206 dX8_toldOf_38 ?_
    exact tv_iret X dX8_toldOf_41 h
  rw [if_neg c1_4] at h
  by_cases c1_5 : x1 = 5
  · rw [if_pos c1_5] at h
    refine tv_tableIn 42 X dX8_toldOf_1 (by rw [c1_5]; decide) (by rw [c1_5]; decide) (by rw [c1_5]; rfl) (by decide) ?_
    refine tv_aload_n X dX8_toldOf_42 rfl 0 rfl ?_
    refine gX6_5 X (by omega) gw_1_209 dX8_toldOf_43 ?_
    exact tv_iret X dX8_toldOf_46 h
  rw [if_neg c1_5] at h
  by_cases c1_6 : x1 = 6
  · rw [if_pos c1_6] at h
    refine tv_tableIn 47 X dX8_toldOf_1 (by rw [c1_6]; decide) (by rw [c1_6]; decide) (by rw [c1_6]; rfl) (by decide) ?_
    refine tv_aload_n X dX8_toldOf_47 rfl 0 rfl ?_
    obtain ⟨s2, x3, hs2, h⟩ := cl_some h
    refine tv_callVi (st := []) X (c_X7_countLeaves Γ.2.1 Ω ad A σ a1 (by omega) hs2) ⟨gw_4_222, gw_4_219, gw_1_6, q_X7_countLeaves, rfl, rfl, ⟨Nat.le_of_ble_eq_true rfl, Nat.le_of_ble_eq_true rfl⟩⟩ gw_4_220 gw_4_221 (fun H _ hz _ => PP.recv (f := 3) (i := a1) X.2.1 hz.1 (show a1 < 8 by omega) rfl rfl) rfl rfl (Nat.le_of_ble_eq_true rfl) dX8_toldOf_48 ?_
    exact tv_iret X dX8_toldOf_51 h
  rw [if_neg c1_6] at h
  have zc1_3 := ne_toInt 3 c1_3 (by decide)
  have zc1_4 := ne_toInt 4 c1_4 (by decide)
  have zc1_5 := ne_toInt 5 c1_5 (by decide)
  have zc1_6 := ne_toInt 6 c1_6 (by decide)
  refine tv_tableOut 52 X dX8_toldOf_1 (by omega) (by decide) ?_
  refine tv_iconst X (-1) dX8_toldOf_52 (by decide) ?_
  exact tv_iret X dX8_toldOf_53 h
set_option maxHeartbeats 4000000 in
set_option maxRecDepth 100000 in
theorem c_X8_told (l : Launch) (Ω : Wd) (ad : Nat → Nat → Nat) (A : Nat → Prop) (σ : St) (a1 : Int32) (a2 : Int32) {res : St × Int32} (h : f_X8_told σ a1 a2 = some res) : Met l yX8_told (wsO yX8_told cX8_told 3 (some .int)) rm_X8_told (PcZ Ω A (PicX Ω ad A σ) [.ref (ad 0 0), .int a1, .int a2]) (Qci (PicX Ω ad A) A res) 0 0 A := by
  refine Met.ofV (by decide) rfl (fun Γ hΓ X => ?_)
  have X : Fx Γ Ω A cX8_told 3 "MappingTexts" rm_X8_told (some .int) := X
  unfold f_X8_told at h
  show V Γ (0, 0) _ A 3 _ 0 [(0, .ref (ad 0 0)), (1, .int a1), (2, .int a2)] []
  refine tv_iload_n X dX8_told_0 rfl 2 rfl ?_
  refine tv_nm h (fun x1 h => ?_)
  by_cases c1_0 : x1 = 0
  · rw [if_pos c1_0] at h
    refine tv_tableIn 28 X dX8_told_1 (by rw [c1_0]; decide) (by rw [c1_0]; decide) (by rw [c1_0]; rfl) (by decide) ?_
    refine tv_aload_n X dX8_told_28 rfl 0 rfl ?_
    refine gX7_8 X (by omega) gw_2_52 dX8_told_29 ?_
    exact tv_iret X dX8_told_32 h
  rw [if_neg c1_0] at h
  by_cases c1_1 : x1 = 1
  · rw [if_pos c1_1] at h
    refine tv_tableIn 33 X dX8_told_1 (by rw [c1_1]; decide) (by rw [c1_1]; decide) (by rw [c1_1]; rfl) (by decide) ?_
    refine tv_aload_n X dX8_told_33 rfl 0 rfl ?_
    refine gX7_0 X (by omega) gw_2_44 dX8_told_34 ?_
    obtain ⟨s2, x3, hs2, h⟩ := cl_some h
    refine tv_callVi (st := []) X (c_X3_length Γ.2.1 Ω ad A σ 0 (by omega) hs2) ⟨gw_2_90, gw_2_87, gw_1_2, q_X3_length, rfl, rfl, ⟨Nat.le_of_ble_eq_true rfl, Nat.le_of_ble_eq_true rfl⟩⟩ gw_2_88 gw_2_89 (fun H _ hz _ => PP.recv (f := 1) (i := 0) X.2.1 hz.1 (show 0 < 773 by omega) rfl rfl) rfl rfl (Nat.le_of_ble_eq_true rfl) dX8_told_37 ?_
    exact tv_iret X dX8_told_40 h
  rw [if_neg c1_1] at h
  by_cases c1_2 : x1 = 2
  · rw [if_pos c1_2] at h
    refine tv_tableIn 41 X dX8_told_1 (by rw [c1_2]; decide) (by rw [c1_2]; decide) (by rw [c1_2]; rfl) (by decide) ?_
    refine tv_aload_n X dX8_told_41 rfl 0 rfl ?_
    refine gX7_6 X (by omega) gw_2_50 dX8_told_42 (fun hg42 => ?_)
    obtain ⟨s4, x5, hs4, h⟩ := cl_some h
    refine tv_callVi (st := []) X (c_X3_length Γ.2.1 Ω ad A σ (gr σ 0 0) (by omega) hs4) ⟨gw_2_90, gw_2_87, gw_1_2, q_X3_length, rfl, rfl, ⟨Nat.le_of_ble_eq_true rfl, Nat.le_of_ble_eq_true rfl⟩⟩ gw_2_88 gw_2_89 (fun H _ hz _ => PP.recv (f := 1) (i := (gr σ 0 0)) X.2.1 hz.1 (show (gr σ 0 0) < 773 by omega) rfl rfl) rfl rfl (Nat.le_of_ble_eq_true rfl) dX8_told_45 ?_
    exact tv_iret X dX8_told_48 h
  rw [if_neg c1_2] at h
  have zc1_0 := ne_toInt 0 c1_0 (by decide)
  have zc1_1 := ne_toInt 1 c1_1 (by decide)
  have zc1_2 := ne_toInt 2 c1_2 (by decide)
  refine tv_tableOut 49 X dX8_told_1 (by omega) (by decide) ?_
  refine tv_aload_n X dX8_told_49 rfl 0 rfl ?_
  refine tv_iload_n X dX8_told_50 rfl 1 rfl ?_
  obtain ⟨s6, x7, hs6, h⟩ := cl_some h
  refine tv_callVi (st := []) X (c_X8_isVersion Γ.2.1 Ω ad A σ a1 hs6) ⟨gw_4_11, gw_4_8, gw_1_1, q_X8_isVersion, rfl, rfl, ⟨Nat.le_of_ble_eq_true rfl, Nat.le_of_ble_eq_true rfl⟩⟩ gw_4_10 gw_p_39 (fun H _ hz _ => PP.recv (f := 0) (i := 0) X.2.1 hz.1 (show 0 < 1 by omega) rfl rfl) rfl rfl (Nat.le_of_ble_eq_true rfl) dX8_told_51 ?_
  refine tv_if_eq X 70 dX8_told_54 (by decide) h (fun h => ?_) (fun h => ?_)
  · refine tv_iconst X (-1) dX8_told_70 (by decide) ?_
    exact tv_iret X dX8_told_71 h
  · refine tv_aload_n X dX8_told_57 rfl 0 rfl ?_
    refine gX7_3 X (by omega) gw_2_47 dX8_told_58 ?_
    refine tv_iload_n X dX8_told_61 rfl 1 rfl ?_
    refine aaX12 X (by omega) dX8_told_62 h (fun j8 hj8 h => ?_)
    refine tv_iload_n X dX8_told_63 rfl 2 rfl ?_
    obtain ⟨s9, x10, hs9, h⟩ := cl_some h
    refine tv_callSi (st := []) X (c_X8_toldOf Γ.2.1 Ω ad A s6 j8 a2 (by omega) hs9) ⟨gw_4_218, gw_4_216, gw_1_1, q_X8_toldOf, rfl, rfl, ⟨Nat.le_of_ble_eq_true rfl, Nat.le_of_ble_eq_true rfl⟩⟩ gw_4_217 rfl rfl (Nat.le_of_ble_eq_true rfl) dX8_told_64 ?_
    refine tv_goto X 71 dX8_told_67 (by decide) ?_
    exact tv_iret X dX8_told_71 h
