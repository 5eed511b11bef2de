set_option maxHeartbeats 4000000 in
set_option maxRecDepth 100000 in
theorem c_X9_in (l : Launch) (Ω : Wd) (ad : Nat → Nat → Nat) (A : Nat → Prop) (σ : St) (a1 : Int32) (a2 : Int32) (a3 : Int32) {res : St × Int32} (h : f_X9_in σ a1 a2 a3 = some res) : Met l yX9_in (wsO yX9_in cX9_in 3 (some .boolean)) rm_X9_in (PcZ Ω A (PicM Ω ad A σ) [.int a1, .int a2, .int a3]) (Qci (PicM Ω ad A) A res) 0 0 A := by
  refine Met.ofV (by decide) rfl (fun Γ hΓ X => ?_)
  have X : Fx Γ Ω A cX9_in 3 "MappingTextsModel" rm_X9_in (some .boolean) := X
  unfold f_X9_in at h
  show V Γ (0, 0) _ A 3 _ 0 [(0, .int a1), (1, .int a2), (2, .int a3)] []
  refine tv_iload_n X dX9_in_0 rfl 0 rfl ?_
  refine tv_iload_n X dX9_in_1 rfl 1 rfl ?_
  refine tv_icmp_lt X 14 dX9_in_2 (by decide) h (fun h => ?_) (fun h => ?_)
  · refine tv_iconst X 0 dX9_in_14 (by decide) ?_
    exact tv_zret X dX9_in_15 (Or.inl rfl) h
  · refine tv_iload_n X dX9_in_5 rfl 0 rfl ?_
    refine tv_iload_n X dX9_in_6 rfl 2 rfl ?_
    refine tv_icmp_gt X 14 dX9_in_7 (by decide) h (fun h => ?_) (fun h => ?_)
    · refine tv_iconst X 0 dX9_in_14 (by decide) ?_
      exact tv_zret X dX9_in_15 (Or.inl rfl) h
    · refine tv_iconst X 1 dX9_in_10 (by decide) ?_
      refine tv_goto X 15 dX9_in_11 (by decide) ?_
      exact tv_zret X dX9_in_15 (Or.inr rfl) h
set_option maxHeartbeats 4000000 in
set_option maxRecDepth 100000 in
theorem c_X9_isVersion (l : Launch) (Ω : Wd) (ad : Nat → Nat → Nat) (A : Nat → Prop) (σ : St) (a1 : Int32) {res : St × Int32} (h : f_X9_isVersion σ a1 = some res) : Met l yX9_isVersion (wsO yX9_isVersion cX9_isVersion 2 (some .boolean)) rm_X9_isVersion (PcZ Ω A (PicM Ω ad A σ) [.ref (ad 0 0), .int a1]) (Qci (PicM Ω ad A) A res) 0 0 A := by
  refine Met.ofV (by decide) rfl (fun Γ hΓ X => ?_)
  have X : Fx Γ Ω A cX9_isVersion 2 "MappingTextsModel" rm_X9_isVersion (some .boolean) := X
  unfold f_X9_isVersion at h
  show V Γ (0, 0) _ A 2 _ 0 [(0, .ref (ad 0 0)), (1, .int a1)] []
  refine tv_iload_n X dX9_isVersion_0 rfl 1 rfl ?_
  refine tv_iconst X 0 dX9_isVersion_1 (by decide) ?_
  refine tv_aload_n X dX9_isVersion_2 rfl 0 rfl ?_
  refine gM8_10 X (by omega) gw_5_14 dX9_isVersion_3 ?_
  refine tv_iconst X 1 dX9_isVersion_6 (by decide) ?_
  refine tv_isub X dX9_isVersion_7 ?_
  obtain ⟨s1, x2, hs1, h⟩ := cl_some h
  refine tv_callSi (st := []) X (c_X9_in Γ.2.1 Ω ad A σ a1 0 ((gi σ 810 0) - 1) hs1) ⟨gw_5_187, gw_5_185, gw_1_10, q_X9_in, rfl, rfl, ⟨Nat.le_of_ble_eq_true rfl, Nat.le_of_ble_eq_true rfl⟩⟩ gw_5_186 rfl rfl (Nat.le_of_ble_eq_true rfl) dX9_isVersion_8 ?_
  obtain ⟨hq, h⟩ := cq_some h
  exact tv_zret X dX9_isVersion_11 (of_decide_eq_true hq) h
set_option maxHeartbeats 4000000 in
set_option maxRecDepth 100000 in
theorem l_X9_feed_30 {Γ : Cx} {Ω : Wd} {ad : Nat → Nat → Nat} {A : Nat → Prop} {res : St × Int32} (X : Fx Γ Ω A cX9_feed 5 "MappingTextsModel" rm_X9_feed (some .int)) : ∀ (n : Nat) (σ : St) (v1 : Int32) (v2 : Int64) (v4 : Int32), f_X9_feed_30 n σ v1 v2 v4 = some res → V Γ (0, 0) (Qe Γ (0, 0) A (Qci (PicM Ω ad A) A res)) A 5 (PicM Ω ad A σ) 30 [(0, .ref (ad 0 0)), (1, .int v1), (2, .long v2), (4, .int v4)] [] := by
  intro n
  induction n with
  | zero =>
    intro σ v1 v2 v4 h
    cases (show none = some res from h)
  | succ n ih =>
    intro σ v1 v2 v4 h
    rw [f_X9_feed_30] at h
    refine tv_iload X dX9_feed_30 3 rfl ?_
    refine tv_iload_n X dX9_feed_32 rfl 1 rfl ?_
    refine tv_icmp_ge X 70 dX9_feed_33 (by decide) h (fun h => ?_) (fun h => ?_)
    · refine tv_aload_n X dX9_feed_70 rfl 0 rfl ?_
      refine gM8_3 X (by omega) gw_5_7 dX9_feed_71 ?_
      exact tv_iret X dX9_feed_74 h
    · refine tv_aload_n X dX9_feed_36 rfl 0 rfl ?_
      refine gM8_2 X (by omega) gw_5_6 dX9_feed_37 ?_
      refine tv_aload_n X dX9_feed_40 rfl 0 rfl ?_
      refine gM8_3 X (by omega) gw_5_7 dX9_feed_41 ?_
      refine tv_lload_n X dX9_feed_44 rfl 2 rfl ?_
      refine tv_bipush X 8 dX9_feed_45 (by decide) ?_
      refine tv_iload X dX9_feed_47 3 rfl ?_
      refine tv_imul X dX9_feed_49 ?_
      refine tv_lshr X dX9_feed_50 ?_
      refine tv_l2i X dX9_feed_51 ?_
      refine tv_i2b X dX9_feed_52 ?_
      refine bsM (n := 2000) X (by omega) rfl dX9_feed_53 h (fun j3 hj3 h => ?_)
      refine tv_ns h (fun s4 h => ?_)
      refine tv_aload_n X dX9_feed_54 rfl 0 rfl ?_
      refine tv_dup X dX9_feed_55 rfl ?_
      refine gM8_3 X (by omega) gw_5_7 dX9_feed_56 ?_
      refine tv_iconst X 1 dX9_feed_59 (by decide) ?_
      refine tv_iadd X dX9_feed_60 ?_
      refine pM8_3 X (by omega) gw_5_7 dX9_feed_61 ?_
      refine tv_ns h (fun s5 h => ?_)
      refine tv_iinc X (v4 + 1) dX9_feed_64 3 rfl rfl (by decide) [(4, .int (v4 + 1)), (0, .ref (ad 0 0)), (1, .int v1), (2, .long v2)] rfl ?_
      refine tv_goto X 30 dX9_feed_67 (by decide) ?_
      refine V.pick [1, 2, 3, 0] rfl ?_
      exact ih s5 v1 v2 (v4 + 1) h
set_option maxHeartbeats 4000000 in
set_option maxRecDepth 100000 in
theorem c_X9_feed (l : Launch) (Ω : Wd) (ad : Nat → Nat → Nat) (A : Nat → Prop) (σ : St) (a1 : Int32) (a2 : Int64) {res : St × Int32} (h : f_X9_feed σ a1 a2 = some res) : Met l yX9_feed (wsO yX9_feed cX9_feed 5 (some .int)) rm_X9_feed (PcZ Ω A (PicM Ω ad A σ) [.ref (ad 0 0), .int a1, .long a2]) (Qci (PicM Ω ad A) A res) 0 0 A := by
  refine Met.ofV (by decide) rfl (fun Γ hΓ X => ?_)
  have X : Fx Γ Ω A cX9_feed 5 "MappingTextsModel" rm_X9_feed (some .int) := X
  unfold f_X9_feed at h
  show V Γ (0, 0) _ A 5 _ 0 [(0, .ref (ad 0 0)), (1, .int a1), (2, .long a2)] []
  refine tv_iload_n X dX9_feed_0 rfl 1 rfl ?_
  refine tv_iconst X 1 dX9_feed_1 (by decide) ?_
  refine tv_bipush X 8 dX9_feed_2 (by decide) ?_
  obtain ⟨s1, x2, hs1, h⟩ := cl_some h
  refine tv_callSi (st := []) X (c_X9_in Γ.2.1 Ω ad A σ a1 1 8 hs1) ⟨gw_5_187, gw_5_185, gw_1_10, q_X9_in, rfl, rfl, ⟨Nat.le_of_ble_eq_true rfl, Nat.le_of_ble_eq_true rfl⟩⟩ gw_5_186 rfl rfl (Nat.le_of_ble_eq_true rfl) dX9_feed_4 ?_
  refine tv_if_ne X 12 dX9_feed_7 (by decide) h (fun h => ?_) (fun h => ?_)
  · refine tv_aload_n X dX9_feed_12 rfl 0 rfl ?_
    refine gM8_3 X (by omega) gw_5_7 dX9_feed_13 ?_
    refine tv_iload_n X dX9_feed_16 rfl 1 rfl ?_
    refine tv_iadd X dX9_feed_17 ?_
    refine tv_sipush X 2000 dX9_feed_18 (by decide) ?_
    refine tv_icmp_le X 27 dX9_feed_21 (by decide) h (fun h => ?_) (fun h => ?_)
    · refine tv_iconst X 0 dX9_feed_27 (by decide) ?_
      refine tv_istore X dX9_feed_28 (by decide) [(4, .int 0), (0, .ref (ad 0 0)), (1, .int a1), (2, .long a2)] rfl ?_
      refine V.pick [1, 2, 3, 0] rfl ?_
      exact l_X9_feed_30 X fl s1 a1 a2 0 h
    · refine tv_bipush X (-3) dX9_feed_24 (by decide) ?_
      exact tv_iret X dX9_feed_26 h
  · refine tv_iconst X (-1) dX9_feed_10 (by decide) ?_
    exact tv_iret X dX9_feed_11 h
set_option maxHeartbeats 4000000 in
set_option maxRecDepth 100000 in
theorem c_X9_isLetter (l : Launch) (Ω : Wd) (ad : Nat → Nat → Nat) (A : Nat → Prop) (σ : St) (a1 : Int32) {res : St × Int32} (h : f_X9_isLetter σ a1 = some res) : Met l yX9_isLetter (wsO yX9_isLetter cX9_isLetter 1 (some .boolean)) rm_X9_isLetter (PcZ Ω A (PicM Ω ad A σ) [.int a1]) (Qci (PicM Ω ad A) A res) 0 0 A := by
  refine Met.ofV (by decide) rfl (fun Γ hΓ X => ?_)
  have X : Fx Γ Ω A cX9_isLetter 1 "MappingTextsModel" rm_X9_isLetter (some .boolean) := X
  unfold f_X9_isLetter at h
  show V Γ (0, 0) _ A 1 _ 0 [(0, .int a1)] []
  refine tv_iload_n X dX9_isLetter_0 rfl 0 rfl ?_
  refine tv_bipush X 97 dX9_isLetter_1 (by decide) ?_
  refine tv_bipush X 122 dX9_isLetter_3 (by decide) ?_
  obtain ⟨s1, x2, hs1, h⟩ := cl_some h
  refine tv_callSi (st := []) X (c_X9_in Γ.2.1 Ω ad A σ a1 97 122 hs1) ⟨gw_5_187, gw_5_185, gw_1_10, q_X9_in, rfl, rfl, ⟨Nat.le_of_ble_eq_true rfl, Nat.le_of_ble_eq_true rfl⟩⟩ gw_5_186 rfl rfl (Nat.le_of_ble_eq_true rfl) dX9_isLetter_5 ?_
  obtain ⟨hq, h⟩ := cq_some h
  exact tv_zret X dX9_isLetter_8 (of_decide_eq_true hq) h
set_option maxHeartbeats 4000000 in
set_option maxRecDepth 100000 in
theorem c_X9_isDigit (l : Launch) (Ω : Wd) (ad : Nat → Nat → Nat) (A : Nat → Prop) (σ : St) (a1 : Int32) {res : St × Int32} (h : f_X9_isDigit σ a1 = some res) : Met l yX9_isDigit (wsO yX9_isDigit cX9_isDigit 1 (some .boolean)) rm_X9_isDigit (PcZ Ω A (PicM Ω ad A σ) [.int a1]) (Qci (PicM Ω ad A) A res) 0 0 A := by
  refine Met.ofV (by decide) rfl (fun Γ hΓ X => ?_)
  have X : Fx Γ Ω A cX9_isDigit 1 "MappingTextsModel" rm_X9_isDigit (some .boolean) := X
  unfold f_X9_isDigit at h
  show V Γ (0, 0) _ A 1 _ 0 [(0, .int a1)] []
  refine tv_iload_n X dX9_isDigit_0 rfl 0 rfl ?_
  refine tv_bipush X 48 dX9_isDigit_1 (by decide) ?_
  refine tv_bipush X 57 dX9_isDigit_3 (by decide) ?_
  obtain ⟨s1, x2, hs1, h⟩ := cl_some h
  refine tv_callSi (st := []) X (c_X9_in Γ.2.1 Ω ad A σ a1 48 57 hs1) ⟨gw_5_187, gw_5_185, gw_1_10, q_X9_in, rfl, rfl, ⟨Nat.le_of_ble_eq_true rfl, Nat.le_of_ble_eq_true rfl⟩⟩ gw_5_186 rfl rfl (Nat.le_of_ble_eq_true rfl) dX9_isDigit_5 ?_
  obtain ⟨hq, h⟩ := cq_some h
  exact tv_zret X dX9_isDigit_8 (of_decide_eq_true hq) h
set_option maxHeartbeats 4000000 in
set_option maxRecDepth 100000 in
theorem l_X9_isMark_60 {Γ : Cx} {Ω : Wd} {ad : Nat → Nat → Nat} {A : Nat → Prop} {res : St × Int32} (X : Fx Γ Ω A cX9_isMark 1 "MappingTextsModel" rm_X9_isMark (some .boolean)) (σ : St) (h : f_X9_isMark_60 σ = some res) : V Γ (0, 0) (Qe Γ (0, 0) A (Qci (PicM Ω ad A) A res)) A 1 (PicM Ω ad A σ) 60 [] [] := by
  unfold f_X9_isMark_60 at h
  refine tv_iconst X 1 dX9_isMark_60 (by decide) ?_
  refine tv_goto X 65 dX9_isMark_61 (by decide) ?_
  exact tv_zret X dX9_isMark_65 (Or.inr rfl) h
set_option maxHeartbeats 4000000 in
set_option maxRecDepth 100000 in
theorem c_X9_isMark (l : Launch) (Ω : Wd) (ad : Nat → Nat → Nat) (A : Nat → Prop) (σ : St) (a1 : Int32) {res : St × Int32} (h : f_X9_isMark σ a1 = some res) : Met l yX9_isMark (wsO yX9_isMark cX9_isMark 1 (some .boolean)) rm_X9_isMark (PcZ Ω A (PicM Ω ad A σ) [.int a1]) (Qci (PicM Ω ad A) A res) 0 0 A := by
  refine Met.ofV (by decide) rfl (fun Γ hΓ X => ?_)
  have X : Fx Γ Ω A cX9_isMark 1 "MappingTextsModel" rm_X9_isMark (some .boolean) := X
  unfold f_X9_isMark at h
  show V Γ (0, 0) _ A 1 _ 0 [(0, .int a1)] []
  refine tv_iload_n X dX9_isMark_0 rfl 0 rfl ?_
  refine tv_bipush X 123 dX9_isMark_1 (by decide) ?_
  refine tv_icmp_eq X 60 dX9_isMark_3 (by decide) h (fun h => ?_) (fun h => ?_)
  · refine V.pick [] rfl ?_
    exact l_X9_isMark_60 X σ h
  · refine tv_iload_n X dX9_isMark_6 rfl 0 rfl ?_
    refine tv_bipush X 125 dX9_isMark_7 (by decide) ?_
    refine tv_icmp_eq X 60 dX9_isMark_9 (by decide) h (fun h => ?_) (fun h => ?_)
    · refine V.pick [] rfl ?_
      exact l_X9_isMark_60 X σ h
    · refine tv_iload_n X dX9_isMark_12 rfl 0 rfl ?_
      refine tv_bipush X 40 dX9_isMark_13 (by decide) ?_
      refine tv_icmp_eq X 60 dX9_isMark_15 (by decide) h (fun h => ?_) (fun h => ?_)
      · refine V.pick [] rfl ?_
        exact l_X9_isMark_60 X σ h
      · refine tv_iload_n X dX9_isMark_18 rfl 0 rfl ?_
        refine tv_bipush X 41 dX9_isMark_19 (by decide) ?_
        refine tv_icmp_eq X 60 dX9_isMark_21 (by decide) h (fun h => ?_) (fun h => ?_)
        · refine V.pick [] rfl ?_
          exact l_X9_isMark_60 X σ h
        · refine tv_iload_n X dX9_isMark_24 rfl 0 rfl ?_
          refine tv_bipush X 58 dX9_isMark_25 (by decide) ?_
          refine tv_icmp_eq X 60 dX9_isMark_27 (by decide) h (fun h => ?_) (fun h => ?_)
          · refine V.pick [] rfl ?_
            exact l_X9_isMark_60 X σ h
          · refine tv_iload_n X dX9_isMark_30 rfl 0 rfl ?_
            refine tv_bipush X 59 dX9_isMark_31 (by decide) ?_
            refine tv_icmp_eq X 60 dX9_isMark_33 (by decide) h (fun h => ?_) (fun h => ?_)
            · refine V.pick [] rfl ?_
              exact l_X9_isMark_60 X σ h
            · refine tv_iload_n X dX9_isMark_36 rfl 0 rfl ?_
              refine tv_bipush X 44 dX9_isMark_37 (by decide) ?_
              refine tv_icmp_eq X 60 dX9_isMark_39 (by decide) h (fun h => ?_) (fun h => ?_)
              · refine V.pick [] rfl ?_
                exact l_X9_isMark_60 X σ h
              · refine tv_iload_n X dX9_isMark_42 rfl 0 rfl ?_
                refine tv_bipush X 61 dX9_isMark_43 (by decide) ?_
                refine tv_icmp_eq X 60 dX9_isMark_45 (by decide) h (fun h => ?_) (fun h => ?_)
                · refine V.pick [] rfl ?_
                  exact l_X9_isMark_60 X σ h
                · refine tv_iload_n X dX9_isMark_48 rfl 0 rfl ?_
                  refine tv_bipush X 42 dX9_isMark_49 (by decide) ?_
                  refine tv_icmp_eq X 60 dX9_isMark_51 (by decide) h (fun h => ?_) (fun h => ?_)
                  · refine V.pick [] rfl ?_
                    exact l_X9_isMark_60 X σ h
                  · refine tv_iload_n X dX9_isMark_54 rfl 0 rfl ?_
                    refine tv_bipush X 46 dX9_isMark_55 (by decide) ?_
                    refine tv_icmp_ne X 64 dX9_isMark_57 (by decide) h (fun h => ?_) (fun h => ?_)
                    · refine tv_iconst X 0 dX9_isMark_64 (by decide) ?_
                      exact tv_zret X dX9_isMark_65 (Or.inl rfl) h
                    · refine V.pick [] rfl ?_
                      exact l_X9_isMark_60 X σ h
set_option maxHeartbeats 4000000 in
set_option maxRecDepth 100000 in
theorem l_X9_cut_107 {Γ : Cx} {Ω : Wd} {ad : Nat → Nat → Nat} {A : Nat → Prop} {res : St × Int32} (X : Fx Γ Ω A cX9_cut 5 "MappingTextsModel" rm_X9_cut (some .int)) {k64 : St → Int32 → Int32 → Int32 → Option (St × Int32)} (hk64 : ∀ (σ : St) (v1 : Int32) (v2 : Int32) (v3 : Int32), k64 σ v1 v2 v3 = some res → V Γ (0, 0) (Qe Γ (0, 0) A (Qci (PicM Ω ad A) A res)) A 5 (PicM Ω ad A σ) 64 [(0, .ref (ad 0 0)), (1, .int v1), (2, .int v2), (3, .int v3)] []) (σ : St) (v1 : Int32) (v2 : Int32) (v3 : Int32) (h : f_X9_cut_107 k64 σ v1 v2 v3 = some res) : V Γ (0, 0) (Qe Γ (0, 0) A (Qci (PicM Ω ad A) A res)) A 5 (PicM Ω ad A σ) 107 [(0, .ref (ad 0 0)), (1, .int v1), (2, .int v2), (3, .int v3)] [] := by
  unfold f_X9_cut_107 at h
  refine tv_iinc X (v3 + 1) dX9_cut_107 3 rfl rfl (by decide) [(3, .int (v3 + 1)), (0, .ref (ad 0 0)), (1, .int v1), (2, .int v2)] rfl ?_
  refine tv_goto X 64 dX9_cut_110 (by decide) ?_
  refine V.pick [1, 2, 3, 0] rfl ?_
  exact hk64 σ v1 v2 (v3 + 1) h
set_option maxHeartbeats 4000000 in
set_option maxRecDepth 100000 in
theorem l_X9_cut_64 {Γ : Cx} {Ω : Wd} {ad : Nat → Nat → Nat} {A : Nat → Prop} {res : St × Int32} (X : Fx Γ Ω A cX9_cut 5 "MappingTextsModel" rm_X9_cut (some .int)) {k146 : St → Int32 → Int32 → Int32 → Option (St × Int32)} (hk146 : ∀ (σ : St) (v1 : Int32) (v2 : Int32) (v3 : Int32), k146 σ v1 v2 v3 = some res → V Γ (0, 0) (Qe Γ (0, 0) A (Qci (PicM Ω ad A) A res)) A 5 (PicM Ω ad A σ) 146 [(0, .ref (ad 0 0)), (1, .int v1), (2, .int v2), (3, .int v3)] []) : ∀ (n : Nat) (σ : St) (v1 : Int32) (v2 : Int32) (v3 : Int32), f_X9_cut_64 k146 n σ v1 v2 v3 = some res → V Γ (0, 0) (Qe Γ (0, 0) A (Qci (PicM Ω ad A) A res)) A 5 (PicM Ω ad A σ) 64 [(0, .ref (ad 0 0)), (1, .int v1), (2, .int v2), (3, .int v3)] [] := by
  intro n
  induction n with
  | zero =>
    intro σ v1 v2 v3 h
    cases (show none = some res from h)
  | succ n ih =>
    intro σ v1 v2 v3 h
    rw [f_X9_cut_64] at h
    refine tv_iload_n X dX9_cut_64 rfl 3 rfl ?_
    refine tv_aload_n X dX9_cut_65 rfl 0 rfl ?_
    refine gM8_4 X (by omega) gw_5_8 dX9_cut_66 ?_
    refine tv_icmp_ge X 146 dX9_cut_69 (by decide) h (fun h => ?_) (fun h => ?_)
    · exact hk146 σ v1 v2 v3 h
    · refine tv_aload_n X dX9_cut_72 rfl 0 rfl ?_
      refine gM8_2 X (by omega) gw_5_6 dX9_cut_73 ?_
      refine tv_iload_n X dX9_cut_76 rfl 3 rfl ?_
      refine baM (n := 2000) X (by omega) rfl dX9_cut_77 h (fun j15 hj15 h => ?_)
      obtain ⟨s16, x17, hs16, h⟩ := cl_some h
      refine tv_callSi (st := []) X (c_X9_isLetter Γ.2.1 Ω ad A σ (ga σ 2 0 j15) hs16) ⟨gw_5_198, gw_5_196, gw_1_10, q_X9_isLetter, rfl, rfl, ⟨Nat.le_of_ble_eq_true rfl, Nat.le_of_ble_eq_true rfl⟩⟩ gw_5_197 rfl rfl (Nat.le_of_ble_eq_true rfl) dX9_cut_78 ?_
      refine tv_if_ne X 107 dX9_cut_81 (by decide) h (fun h => ?_) (fun h => ?_)
      · exact l_X9_cut_107 X ih s16 v1 v2 v3 h
      · refine tv_aload_n X dX9_cut_84 rfl 0 rfl ?_
        refine gM8_2 X (by omega) gw_5_6 dX9_cut_85 ?_
        refine tv_iload_n X dX9_cut_88 rfl 3 rfl ?_
        refine baM (n := 2000) X (by omega) rfl dX9_cut_89 h (fun j18 hj18 h => ?_)
        obtain ⟨s19, x20, hs19, h⟩ := cl_some h
        refine tv_callSi (st := []) X (c_X9_isDigit Γ.2.1 Ω ad A s16 (ga s16 2 0 j18) hs19) ⟨gw_5_201, gw_5_199, gw_1_10, q_X9_isDigit, rfl, rfl, ⟨Nat.le_of_ble_eq_true rfl, Nat.le_of_ble_eq_true rfl⟩⟩ gw_5_200 rfl rfl (Nat.le_of_ble_eq_true rfl) dX9_cut_90 ?_
        refine tv_if_ne X 107 dX9_cut_93 (by decide) h (fun h => ?_) (fun h => ?_)
        · exact l_X9_cut_107 X ih s19 v1 v2 v3 h
        · refine tv_aload_n X dX9_cut_96 rfl 0 rfl ?_
          refine gM8_2 X (by omega) gw_5_6 dX9_cut_97 ?_
          refine tv_iload_n X dX9_cut_100 rfl 3 rfl ?_
          refine baM (n := 2000) X (by omega) rfl dX9_cut_101 h (fun j21 hj21 h => ?_)
          refine tv_bipush X 95 dX9_cut_102 (by decide) ?_
          refine tv_icmp_ne X 146 dX9_cut_104 (by decide) h (fun h => ?_) (fun h => ?_)
          · exact hk146 s19 v1 v2 v3 h
          · exact l_X9_cut_107 X ih s19 v1 v2 v3 h
set_option maxHeartbeats 4000000 in
set_option maxRecDepth 100000 in
theorem l_X9_cut_120 {Γ : Cx} {Ω : Wd} {ad : Nat → Nat → Nat} {A : Nat → Prop} {res : St × Int32} (X : Fx Γ Ω A cX9_cut 5 "MappingTextsModel" rm_X9_cut (some .int)) {k146 : St → Int32 → Int32 → Int32 → Option (St × Int32)} (hk146 : ∀ (σ : St) (v1 : Int32) (v2 : Int32) (v3 : Int32), k146 σ v1 v2 v3 = some res → V Γ (0, 0) (Qe Γ (0, 0) A (Qci (PicM Ω ad A) A res)) A 5 (PicM Ω ad A σ) 146 [(0, .ref (ad 0 0)), (1, .int v1), (2, .int v2), (3, .int v3)] []) : ∀ (n : Nat) (σ : St) (v1 : Int32) (v2 : Int32) (v3 : Int32), f_X9_cut_120 k146 n σ v1 v2 v3 = some res → V Γ (0, 0) (Qe Γ (0, 0) A (Qci (PicM Ω ad A) A res)) A 5 (PicM Ω ad A σ) 120 [(0, .ref (ad 0 0)), (1, .int v1), (2, .int v2), (3, .int v3)] [] := by
  intro n
  induction n with
  | zero =>
    intro σ v1 v2 v3 h
    cases (show none = some res from h)
  | succ n ih =>
    intro σ v1 v2 v3 h
    rw [f_X9_cut_120] at h
    refine tv_iload_n X dX9_cut_120 rfl 3 rfl ?_
    refine tv_aload_n X dX9_cut_121 rfl 0 rfl ?_
    refine gM8_4 X (by omega) gw_5_8 dX9_cut_122 ?_
    refine tv_icmp_ge X 146 dX9_cut_125 (by decide) h (fun h => ?_) (fun h => ?_)
    · exact hk146 σ v1 v2 v3 h
    · refine tv_aload_n X dX9_cut_128 rfl 0 rfl ?_
      refine gM8_2 X (by omega) gw_5_6 dX9_cut_129 ?_
      refine tv_iload_n X dX9_cut_132 rfl 3 rfl ?_
      refine baM (n := 2000) X (by omega) rfl dX9_cut_133 h (fun j22 hj22 h => ?_)
      obtain ⟨s23, x24, hs23, h⟩ := cl_some h
      refine tv_callSi (st := []) X (c_X9_isDigit Γ.2.1 Ω ad A σ (ga σ 2 0 j22) hs23) ⟨gw_5_201, gw_5_199, gw_1_10, q_X9_isDigit, rfl, rfl, ⟨Nat.le_of_ble_eq_true rfl, Nat.le_of_ble_eq_true rfl⟩⟩ gw_5_200 rfl rfl (Nat.le_of_ble_eq_true rfl) dX9_cut_134 ?_
      refine tv_if_eq X 146 dX9_cut_137 (by decide) h (fun h => ?_) (fun h => ?_)
      · exact hk146 s23 v1 v2 v3 h
      · refine tv_iinc X (v3 + 1) dX9_cut_140 3 rfl rfl (by decide) [(3, .int (v3 + 1)), (0, .ref (ad 0 0)), (1, .int v1), (2, .int v2)] rfl ?_
        refine tv_goto X 120 dX9_cut_143 (by decide) ?_
        refine V.pick [1, 2, 3, 0] rfl ?_
        exact ih s23 v1 v2 (v3 + 1) h
set_option maxHeartbeats 4000000 in
set_option maxRecDepth 100000 in
theorem l_X9_cut_176 {Γ : Cx} {Ω : Wd} {ad : Nat → Nat → Nat} {A : Nat → Prop} {res : St × Int32} (X : Fx Γ Ω A cX9_cut 5 "MappingTextsModel" rm_X9_cut (some .int)) {k183 : St → Int32 → Int32 → Int32 → Option (St × Int32)} (hk183 : ∀ (σ : St) (v1 : Int32) (v2 : Int32) (v3 : Int32), k183 σ v1 v2 v3 = some res → V Γ (0, 0) (Qe Γ (0, 0) A (Qci (PicM Ω ad A) A res)) A 5 (PicM Ω ad A σ) 183 [(0, .ref (ad 0 0)), (1, .int v1), (2, .int v2), (3, .int v3)] []) {k188 : St → Int32 → Int32 → Int32 → Int32 → Option (St × Int32)} (hk188 : ∀ (σ : St) (t0 : Int32) (v1 : Int32) (v2 : Int32) (v3 : Int32), k188 σ t0 v1 v2 v3 = some res → V Γ (0, 0) (Qe Γ (0, 0) A (Qci (PicM Ω ad A) A res)) A 5 (PicM Ω ad A σ) 188 [(0, .ref (ad 0 0)), (1, .int v1), (2, .int v2), (3, .int v3)] [.int t0]) (σ : St) (v1 : Int32) (v2 : Int32) (v3 : Int32) (h : f_X9_cut_176 k183 k188 σ v1 v2 v3 = some res) : V Γ (0, 0) (Qe Γ (0, 0) A (Qci (PicM Ω ad A) A res)) A 5 (PicM Ω ad A σ) 176 [(0, .ref (ad 0 0)), (1, .int v1), (2, .int v2), (3, .int v3)] [] := by
  unfold f_X9_cut_176 at h
  refine tv_iload_n X dX9_cut_176 rfl 2 rfl ?_
  obtain ⟨s29, x30, hs29, h⟩ := cl_some h
  refine tv_callSi (st := []) X (c_X9_isMark Γ.2.1 Ω ad A σ v2 hs29) ⟨gw_5_204, gw_5_202, gw_1_10, q_X9_isMark, rfl, rfl, ⟨Nat.le_of_ble_eq_true rfl, Nat.le_of_ble_eq_true rfl⟩⟩ gw_5_203 rfl rfl (Nat.le_of_ble_eq_true rfl) dX9_cut_177 ?_
  refine tv_if_eq X 187 dX9_cut_180 (by decide) h (fun h => ?_) (fun h => ?_)
  · refine tv_iconst X 0 dX9_cut_187 (by decide) ?_
    exact hk188 s29 0 v1 v2 v3 h
  · exact hk183 s29 v1 v2 v3 h
set_option maxHeartbeats 4000000 in
set_option maxRecDepth 100000 in
theorem l_X9_cut_161 {Γ : Cx} {Ω : Wd} {ad : Nat → Nat → Nat} {A : Nat → Prop} {res : St × Int32} (X : Fx Γ Ω A cX9_cut 5 "MappingTextsModel" rm_X9_cut (some .int)) {k183 : St → Int32 → Int32 → Int32 → Option (St × Int32)} (hk183 : ∀ (σ : St) (v1 : Int32) (v2 : Int32) (v3 : Int32), k183 σ v1 v2 v3 = some res → V Γ (0, 0) (Qe Γ (0, 0) A (Qci (PicM Ω ad A) A res)) A 5 (PicM Ω ad A σ) 183 [(0, .ref (ad 0 0)), (1, .int v1), (2, .int v2), (3, .int v3)] []) {k188 : St → Int32 → Int32 → Int32 → Int32 → Option (St × Int32)} (hk188 : ∀ (σ : St) (t0 : Int32) (v1 : Int32) (v2 : Int32) (v3 : Int32), k188 σ t0 v1 v2 v3 = some res → V Γ (0, 0) (Qe Γ (0, 0) A (Qci (PicM Ω ad A) A res)) A 5 (PicM Ω ad A σ) 188 [(0, .ref (ad 0 0)), (1, .int v1), (2, .int v2), (3, .int v3)] [.int t0]) (σ : St) (v1 : Int32) (v2 : Int32) (v3 : Int32) (h : f_X9_cut_161 k183 k188 σ v1 v2 v3 = some res) : V Γ (0, 0) (Qe Γ (0, 0) A (Qci (PicM Ω ad A) A res)) A 5 (PicM Ω ad A σ) 161 [(0, .ref (ad 0 0)), (1, .int v1), (2, .int v2), (3, .int v3)] [] := by
  unfold f_X9_cut_161 at h
  refine tv_iload_n X dX9_cut_161 rfl 2 rfl ?_
  obtain ⟨s27, x28, hs27, h⟩ := cl_some h
  refine tv_callSi (st := []) X (c_X9_isDigit Γ.2.1 Ω ad A σ v2 hs27) ⟨gw_5_201, gw_5_199, gw_1_10, q_X9_isDigit, rfl, rfl, ⟨Nat.le_of_ble_eq_true rfl, Nat.le_of_ble_eq_true rfl⟩⟩ gw_5_200 rfl rfl (Nat.le_of_ble_eq_true rfl) dX9_cut_162 ?_
  refine tv_if_eq X 176 dX9_cut_165 (by decide) h (fun h => ?_) (fun h => ?_)
  · exact l_X9_cut_176 X hk183 hk188 s27 v1 v2 v3 h
  · refine tv_iload_n X dX9_cut_168 rfl 3 rfl ?_
    refine tv_iload_n X dX9_cut_169 rfl 1 rfl ?_
    refine tv_isub X dX9_cut_170 ?_
    refine tv_bipush X 6 dX9_cut_171 (by decide) ?_
    refine tv_icmp_le X 183 dX9_cut_173 (by decide) h (fun h => ?_) (fun h => ?_)
    · exact hk183 s27 v1 v2 v3 h
    · exact l_X9_cut_176 X hk183 hk188 s27 v1 v2 v3 h
set_option maxHeartbeats 4000000 in
set_option maxRecDepth 100000 in
theorem l_X9_cut_183 {Γ : Cx} {Ω : Wd} {ad : Nat → Nat → Nat} {A : Nat → Prop} {res : St × Int32} (X : Fx Γ Ω A cX9_cut 5 "MappingTextsModel" rm_X9_cut (some .int)) {k188 : St → Int32 → Int32 → Int32 → Int32 → Option (St × Int32)} (hk188 : ∀ (σ : St) (t0 : Int32) (v1 : Int32) (v2 : Int32) (v3 : Int32), k188 σ t0 v1 v2 v3 = some res → V Γ (0, 0) (Qe Γ (0, 0) A (Qci (PicM Ω ad A) A res)) A 5 (PicM Ω ad A σ) 188 [(0, .ref (ad 0 0)), (1, .int v1), (2, .int v2), (3, .int v3)] [.int t0]) (σ : St) (v1 : Int32) (v2 : Int32) (v3 : Int32) (h : f_X9_cut_183 k188 σ v1 v2 v3 = some res) : V Γ (0, 0) (Qe Γ (0, 0) A (Qci (PicM Ω ad A) A res)) A 5 (PicM Ω ad A σ) 183 [(0, .ref (ad 0 0)), (1, .int v1), (2, .int v2), (3, .int v3)] [] := by
  unfold f_X9_cut_183 at h
  refine tv_iconst X 1 dX9_cut_183 (by decide) ?_
  refine tv_goto X 188 dX9_cut_184 (by decide) ?_
  exact hk188 σ 1 v1 v2 v3 h
set_option maxHeartbeats 4000000 in
set_option maxRecDepth 100000 in
theorem l_X9_cut_228 {Γ : Cx} {Ω : Wd} {ad : Nat → Nat → Nat} {A : Nat → Prop} {res : St × Int32} (X : Fx Γ Ω A cX9_cut 5 "MappingTextsModel" rm_X9_cut (some .int)) {k263 : St → Int32 → Option (St × Int32)} (hk263 : ∀ (σ : St) (v1 : Int32), k263 σ v1 = some res → V Γ (0, 0) (Qe Γ (0, 0) A (Qci (PicM Ω ad A) A res)) A 5 (PicM Ω ad A σ) 263 [(0, .ref (ad 0 0)), (1, .int v1)] []) (σ : St) (t0 : Nat) (t1 : Int32) (t2 : Int32) (v1 : Int32) (v3 : Int32) (bt0 : t0 < 29) (h : f_X9_cut_228 k263 σ t0 t1 t2 v1 v3 = some res) : V Γ (0, 0) (Qe Γ (0, 0) A (Qci (PicM Ω ad A) A res)) A 5 (PicM Ω ad A σ) 228 [(0, .ref (ad 0 0)), (1, .int v1), (3, .int v3)] [.int t2, .int t1, .ref (ad 1 t0)] := by
  unfold f_X9_cut_228 at h
  refine isM (n := (lenMi.getD t0 0)) X (by omega) rfl dX9_cut_228 h (fun j35 hj35 h => ?_)
  refine tv_ns h (fun s36 h => ?_)
  refine tv_aload_n X dX9_cut_229 rfl 0 rfl ?_
  refine gM8_32 X (by omega) gw_5_36 dX9_cut_230 ?_
  refine tv_aload_n X dX9_cut_233 rfl 0 rfl ?_
  refine gM8_30 X (by omega) gw_5_34 dX9_cut_234 ?_
  refine tv_iload_n X dX9_cut_237 rfl 1 rfl ?_
  refine isM (n := 2001) X (by omega) rfl dX9_cut_238 h (fun j37 hj37 h => ?_)
  refine tv_ns h (fun s38 h => ?_)
  refine tv_aload_n X dX9_cut_239 rfl 0 rfl ?_
  refine gM8_33 X (by omega) gw_5_37 dX9_cut_240 ?_
  refine tv_aload_n X dX9_cut_243 rfl 0 rfl ?_
  refine gM8_30 X (by omega) gw_5_34 dX9_cut_244 ?_
  refine tv_iload_n X dX9_cut_247 rfl 2 rfl ?_
  refine tv_iload_n X dX9_cut_248 rfl 1 rfl ?_
  refine tv_isub X dX9_cut_249 ?_
  refine isM (n := 2001) X (by omega) rfl dX9_cut_250 h (fun j39 hj39 h => ?_)
  refine tv_ns h (fun s40 h => ?_)
  refine tv_aload_n X dX9_cut_251 rfl 0 rfl ?_
  refine tv_dup X dX9_cut_252 rfl ?_
  refine gM8_30 X (by omega) gw_5_34 dX9_cut_253 ?_
  refine tv_iconst X 1 dX9_cut_256 (by decide) ?_
  refine tv_iadd X dX9_cut_257 ?_
  refine pM8_30 X (by omega) gw_5_34 dX9_cut_258 ?_
  refine tv_ns h (fun s41 h => ?_)
  refine tv_iload_n X dX9_cut_261 rfl 2 rfl ?_
  refine tv_istore_n X dX9_cut_262 rfl (by decide) [(1, .int v3), (0, .ref (ad 0 0)), (3, .int v3)] rfl ?_
  refine V.pick [1, 0] rfl ?_
  exact hk263 s41 v3 h
set_option maxHeartbeats 4000000 in
set_option maxRecDepth 100000 in
theorem l_X9_cut_188 {Γ : Cx} {Ω : Wd} {ad : Nat → Nat → Nat} {A : Nat → Prop} {res : St × Int32} (X : Fx Γ Ω A cX9_cut 5 "MappingTextsModel" rm_X9_cut (some .int)) {k263 : St → Int32 → Option (St × Int32)} (hk263 : ∀ (σ : St) (v1 : Int32), k263 σ v1 = some res → V Γ (0, 0) (Qe Γ (0, 0) A (Qci (PicM Ω ad A) A res)) A 5 (PicM Ω ad A σ) 263 [(0, .ref (ad 0 0)), (1, .int v1)] []) (σ : St) (t0 : Int32) (v1 : Int32) (v2 : Int32) (v3 : Int32) (h : f_X9_cut_188 k263 σ t0 v1 v2 v3 = some res) : V Γ (0, 0) (Qe Γ (0, 0) A (Qci (PicM Ω ad A) A res)) A 5 (PicM Ω ad A σ) 188 [(0, .ref (ad 0 0)), (1, .int v1), (2, .int v2), (3, .int v3)] [.int t0] := by
  unfold f_X9_cut_188 at h
  refine tv_istore X dX9_cut_188 (by decide) [(4, .int t0), (0, .ref (ad 0 0)), (1, .int v1), (2, .int v2), (3, .int v3)] rfl ?_
  refine tv_iload X dX9_cut_190 0 rfl ?_
  refine tv_if_ne X 197 dX9_cut_192 (by decide) h (fun h => ?_) (fun h => ?_)
  · refine tv_aload_n X dX9_cut_197 rfl 1 rfl ?_
    refine gM8_31 X (by omega) gw_5_35 dX9_cut_198 ?_
    refine tv_aload_n X dX9_cut_201 rfl 1 rfl ?_
    refine gM8_30 X (by omega) gw_5_34 dX9_cut_202 ?_
    refine tv_iload_n X dX9_cut_205 rfl 3 rfl ?_
    obtain ⟨s31, x32, hs31, h⟩ := cl_some h
    refine tv_callSi (st := [.int (gi σ 830 0), .ref (ad 1 14)]) X (c_X9_isLetter Γ.2.1 Ω ad A σ v2 hs31) ⟨gw_5_198, gw_5_196, gw_1_10, q_X9_isLetter, rfl, rfl, ⟨Nat.le_of_ble_eq_true rfl, Nat.le_of_ble_eq_true rfl⟩⟩ gw_5_197 rfl rfl (Nat.le_of_ble_eq_true rfl) dX9_cut_206 ?_
    refine tv_if_eq X 216 dX9_cut_209 (by decide) h (fun h => ?_) (fun h => ?_)
    · refine tv_iload_n X dX9_cut_216 rfl 3 rfl ?_
      obtain ⟨s33, x34, hs33, h⟩ := cl_some h
      refine tv_callSi (st := [.int (gi σ 830 0), .ref (ad 1 14)]) X (c_X9_isDigit Γ.2.1 Ω ad A s31 v2 hs33) ⟨gw_5_201, gw_5_199, gw_1_10, q_X9_isDigit, rfl, rfl, ⟨Nat.le_of_ble_eq_true rfl, Nat.le_of_ble_eq_true rfl⟩⟩ gw_5_200 rfl rfl (Nat.le_of_ble_eq_true rfl) dX9_cut_217 ?_
      refine tv_if_eq X 227 dX9_cut_220 (by decide) h (fun h => ?_) (fun h => ?_)
      · refine tv_iload_n X dX9_cut_227 rfl 3 rfl ?_
        refine V.pick [1, 2, 4] rfl ?_
        exact l_X9_cut_228 X hk263 s33 14 (gi σ 830 0) v2 v1 v3 (by omega) h
      · refine tv_iconst X 2 dX9_cut_223 (by decide) ?_
        refine tv_goto X 228 dX9_cut_224 (by decide) ?_
        refine V.pick [1, 2, 4] rfl ?_
        exact l_X9_cut_228 X hk263 s33 14 (gi σ 830 0) 2 v1 v3 (by omega) h
    · refine tv_iconst X 1 dX9_cut_212 (by decide) ?_
      refine tv_goto X 228 dX9_cut_213 (by decide) ?_
      refine V.pick [1, 2, 4] rfl ?_
      exact l_X9_cut_228 X hk263 s31 14 (gi σ 830 0) 1 v1 v3 (by omega) h
  · refine tv_iload_n X dX9_cut_195 rfl 2 rfl ?_
    exact tv_iret X dX9_cut_196 h
set_option maxHeartbeats 4000000 in
set_option maxRecDepth 100000 in
theorem l_X9_cut_146 {Γ : Cx} {Ω : Wd} {ad : Nat → Nat → Nat} {A : Nat → Prop} {res : St × Int32} (X : Fx Γ Ω A cX9_cut 5 "MappingTextsModel" rm_X9_cut (some .int)) {k263 : St → Int32 → Option (St × Int32)} (hk263 : ∀ (σ : St) (v1 : Int32), k263 σ v1 = some res → V Γ (0, 0) (Qe Γ (0, 0) A (Qci (PicM Ω ad A) A res)) A 5 (PicM Ω ad A σ) 263 [(0, .ref (ad 0 0)), (1, .int v1)] []) (σ : St) (v1 : Int32) (v2 : Int32) (v3 : Int32) (h : f_X9_cut_146 k263 σ v1 v2 v3 = some res) : V Γ (0, 0) (Qe Γ (0, 0) A (Qci (PicM Ω ad A) A res)) A 5 (PicM Ω ad A σ) 146 [(0, .ref (ad 0 0)), (1, .int v1), (2, .int v2), (3, .int v3)] [] := by
  unfold f_X9_cut_146 at h
  refine tv_iload_n X dX9_cut_146 rfl 2 rfl ?_
  obtain ⟨s25, x26, hs25, h⟩ := cl_some h
  refine tv_callSi (st := []) X (c_X9_isLetter Γ.2.1 Ω ad A σ v2 hs25) ⟨gw_5_198, gw_5_196, gw_1_10, q_X9_isLetter, rfl, rfl, ⟨Nat.le_of_ble_eq_true rfl, Nat.le_of_ble_eq_true rfl⟩⟩ gw_5_197 rfl rfl (Nat.le_of_ble_eq_true rfl) dX9_cut_147 ?_
  refine tv_if_eq X 161 dX9_cut_150 (by decide) h (fun h => ?_) (fun h => ?_)
  · exact l_X9_cut_161 X (l_X9_cut_183 X (l_X9_cut_188 X hk263)) (l_X9_cut_188 X hk263) s25 v1 v2 v3 h
  · refine tv_iload_n X dX9_cut_153 rfl 3 rfl ?_
    refine tv_iload_n X dX9_cut_154 rfl 1 rfl ?_
    refine tv_isub X dX9_cut_155 ?_
    refine tv_bipush X 12 dX9_cut_156 (by decide) ?_
    refine tv_icmp_le X 183 dX9_cut_158 (by decide) h (fun h => ?_) (fun h => ?_)
    · exact l_X9_cut_183 X (l_X9_cut_188 X hk263) s25 v1 v2 v3 h
    · exact l_X9_cut_161 X (l_X9_cut_183 X (l_X9_cut_188 X hk263)) (l_X9_cut_188 X hk263) s25 v1 v2 v3 h
set_option maxHeartbeats 4000000 in
set_option maxRecDepth 100000 in
theorem l_X9_cut_47 {Γ : Cx} {Ω : Wd} {ad : Nat → Nat → Nat} {A : Nat → Prop} {res : St × Int32} (X : Fx Γ Ω A cX9_cut 5 "MappingTextsModel" rm_X9_cut (some .int)) {k263 : St → Int32 → Option (St × Int32)} (hk263 : ∀ (σ : St) (v1 : Int32), k263 σ v1 = some res → V Γ (0, 0) (Qe Γ (0, 0) A (Qci (PicM Ω ad A) A res)) A 5 (PicM Ω ad A σ) 263 [(0, .ref (ad 0 0)), (1, .int v1)] []) (σ : St) (v1 : Int32) (h : f_X9_cut_47 k263 σ v1 = some res) : V Γ (0, 0) (Qe Γ (0, 0) A (Qci (PicM Ω ad A) A res)) A 5 (PicM Ω ad A σ) 47 [(0, .ref (ad 0 0)), (1, .int v1)] [] := by
  unfold f_X9_cut_47 at h
  refine tv_iinc X (v1 + 1) dX9_cut_47 1 rfl rfl (by decide) [(1, .int (v1 + 1)), (0, .ref (ad 0 0))] rfl ?_
  refine tv_goto X 263 dX9_cut_50 (by decide) ?_
  refine V.pick [1, 0] rfl ?_
  exact hk263 σ (v1 + 1) h
set_option maxHeartbeats 4000000 in
set_option maxRecDepth 100000 in
theorem l_X9_cut_263 {Γ : Cx} {Ω : Wd} {ad : Nat → Nat → Nat} {A : Nat → Prop} {res : St × Int32} (X : Fx Γ Ω A cX9_cut 5 "MappingTextsModel" rm_X9_cut (some .int)) {k20 : St → Int32 → Option (St × Int32)} (hk20 : ∀ (σ : St) (v1 : Int32), k20 σ v1 = some res → V Γ (0, 0) (Qe Γ (0, 0) A (Qci (PicM Ω ad A) A res)) A 5 (PicM Ω ad A σ) 20 [(0, .ref (ad 0 0)), (1, .int v1)] []) (σ : St) (v1 : Int32) (h : f_X9_cut_263 k20 σ v1 = some res) : V Γ (0, 0) (Qe Γ (0, 0) A (Qci (PicM Ω ad A) A res)) A 5 (PicM Ω ad A σ) 263 [(0, .ref (ad 0 0)), (1, .int v1)] [] := by
  unfold f_X9_cut_263 at h
  refine tv_goto X 20 dX9_cut_263 (by decide) ?_
  exact hk20 σ v1 h
set_option maxHeartbeats 4000000 in
set_option maxRecDepth 100000 in
theorem l_X9_cut_20 {Γ : Cx} {Ω : Wd} {ad : Nat → Nat → Nat} {A : Nat → Prop} {res : St × Int32} (X : Fx Γ Ω A cX9_cut 5 "MappingTextsModel" rm_X9_cut (some .int)) : ∀ (n : Nat) (σ : St) (v1 : Int32), f_X9_cut_20 n σ v1 = some res → V Γ (0, 0) (Qe Γ (0, 0) A (Qci (PicM Ω ad A) A res)) A 5 (PicM Ω ad A σ) 20 [(0, .ref (ad 0 0)), (1, .int v1)] [] := by
  intro n
  induction n with
  | zero =>
    intro σ v1 h
    cases (show none = some res from h)
  | succ n ih =>
    intro σ v1 h
    rw [f_X9_cut_20] at h
    refine tv_iload_n X dX9_cut_20 rfl 1 rfl ?_
    refine tv_aload_n X dX9_cut_21 rfl 0 rfl ?_
    refine gM8_4 X (by omega) gw_5_8 dX9_cut_22 ?_
    refine tv_icmp_ge X 266 dX9_cut_25 (by decide) h (fun h => ?_) (fun h => ?_)
    · refine tv_aload_n X dX9_cut_266 rfl 0 rfl ?_
      refine gM8_31 X (by omega) gw_5_35 dX9_cut_267 ?_
      refine tv_aload_n X dX9_cut_270 rfl 0 rfl ?_
      refine gM8_30 X (by omega) gw_5_34 dX9_cut_271 ?_
      refine tv_iconst X 0 dX9_cut_274 (by decide) ?_
      refine isM (n := 2001) X (by omega) rfl dX9_cut_275 h (fun j4 hj4 h => ?_)
      refine tv_ns h (fun s5 h => ?_)
      refine tv_aload_n X dX9_cut_276 rfl 0 rfl ?_
      refine gM8_32 X (by omega) gw_5_36 dX9_cut_277 ?_
      refine tv_aload_n X dX9_cut_280 rfl 0 rfl ?_
      refine gM8_30 X (by omega) gw_5_34 dX9_cut_281 ?_
      refine tv_aload_n X dX9_cut_284 rfl 0 rfl ?_
      refine gM8_4 X (by omega) gw_5_8 dX9_cut_285 ?_
      refine isM (n := 2001) X (by omega) rfl dX9_cut_288 h (fun j6 hj6 h => ?_)
      refine tv_ns h (fun s7 h => ?_)
      refine tv_aload_n X dX9_cut_289 rfl 0 rfl ?_
      refine gM8_33 X (by omega) gw_5_37 dX9_cut_290 ?_
      refine tv_aload_n X dX9_cut_293 rfl 0 rfl ?_
      refine gM8_30 X (by omega) gw_5_34 dX9_cut_294 ?_
      refine tv_iconst X 0 dX9_cut_297 (by decide) ?_
      refine isM (n := 2001) X (by omega) rfl dX9_cut_298 h (fun j8 hj8 h => ?_)
      refine tv_ns h (fun s9 h => ?_)
      refine tv_iconst X (-1) dX9_cut_299 (by decide) ?_
      exact tv_iret X dX9_cut_300 h
    · refine tv_aload_n X dX9_cut_28 rfl 0 rfl ?_
      refine gM8_2 X (by omega) gw_5_6 dX9_cut_29 ?_
      refine tv_iload_n X dX9_cut_32 rfl 1 rfl ?_
      refine baM (n := 2000) X (by omega) rfl dX9_cut_33 h (fun j10 hj10 h => ?_)
      refine tv_istore_n X dX9_cut_34 rfl (by decide) [(2, .int (ga σ 2 0 j10)), (0, .ref (ad 0 0)), (1, .int v1)] rfl ?_
      refine tv_iload_n X dX9_cut_35 rfl 0 rfl ?_
      refine tv_bipush X 10 dX9_cut_36 (by decide) ?_
      refine tv_icmp_eq X 47 dX9_cut_38 (by decide) h (fun h => ?_) (fun h => ?_)
      · refine V.pick [1, 2] rfl ?_
        exact l_X9_cut_47 X (l_X9_cut_263 X ih) σ v1 h
      · refine tv_iload_n X dX9_cut_41 rfl 0 rfl ?_
        refine tv_bipush X 32 dX9_cut_42 (by decide) ?_
        refine tv_icmp_ne X 53 dX9_cut_44 (by decide) h (fun h => ?_) (fun h => ?_)
        · refine tv_iload_n X dX9_cut_53 rfl 2 rfl ?_
          refine tv_iconst X 1 dX9_cut_54 (by decide) ?_
          refine tv_iadd X dX9_cut_55 ?_
          refine tv_istore_n X dX9_cut_56 rfl (by decide) [(3, .int (v1 + 1)), (2, .int (ga σ 2 0 j10)), (0, .ref (ad 0 0)), (1, .int v1)] rfl ?_
          refine tv_iload_n X dX9_cut_57 rfl 1 rfl ?_
          obtain ⟨s11, x12, hs11, h⟩ := cl_some h
          refine tv_callSi (st := []) X (c_X9_isLetter Γ.2.1 Ω ad A σ (ga σ 2 0 j10) hs11) ⟨gw_5_198, gw_5_196, gw_1_10, q_X9_isLetter, rfl, rfl, ⟨Nat.le_of_ble_eq_true rfl, Nat.le_of_ble_eq_true rfl⟩⟩ gw_5_197 rfl rfl (Nat.le_of_ble_eq_true rfl) dX9_cut_58 ?_
          refine tv_if_eq X 113 dX9_cut_61 (by decide) h (fun h => ?_) (fun h => ?_)
          · refine tv_iload_n X dX9_cut_113 rfl 1 rfl ?_
            obtain ⟨s13, x14, hs13, h⟩ := cl_some h
            refine tv_callSi (st := []) X (c_X9_isDigit Γ.2.1 Ω ad A s11 (ga σ 2 0 j10) hs13) ⟨gw_5_201, gw_5_199, gw_1_10, q_X9_isDigit, rfl, rfl, ⟨Nat.le_of_ble_eq_true rfl, Nat.le_of_ble_eq_true rfl⟩⟩ gw_5_200 rfl rfl (Nat.le_of_ble_eq_true rfl) dX9_cut_114 ?_
            refine tv_if_eq X 146 dX9_cut_117 (by decide) h (fun h => ?_) (fun h => ?_)
            · refine V.pick [2, 3, 1, 0] rfl ?_
              exact l_X9_cut_146 X (l_X9_cut_263 X ih) s13 v1 (ga σ 2 0 j10) (v1 + 1) h
            · refine V.pick [2, 3, 1, 0] rfl ?_
              exact l_X9_cut_120 X (l_X9_cut_146 X (l_X9_cut_263 X ih)) fl s13 v1 (ga σ 2 0 j10) (v1 + 1) h
          · refine V.pick [2, 3, 1, 0] rfl ?_
            exact l_X9_cut_64 X (l_X9_cut_146 X (l_X9_cut_263 X ih)) fl s11 v1 (ga σ 2 0 j10) (v1 + 1) h
        · refine V.pick [1, 2] rfl ?_
          exact l_X9_cut_47 X (l_X9_cut_263 X ih) σ v1 h
set_option maxHeartbeats 4000000 in
set_option maxRecDepth 100000 in
theorem c_X9_cut (l : Launch) (Ω : Wd) (ad : Nat → Nat → Nat) (A : Nat → Prop) (σ : St) {res : St × Int32} (h : f_X9_cut σ = some res) : Met l yX9_cut (wsO yX9_cut cX9_cut 5 (some .int)) rm_X9_cut (PcZ Ω A (PicM Ω ad A σ) [.ref (ad 0 0)]) (Qci (PicM Ω ad A) A res) 0 0 A := by
  refine Met.ofV (by decide) rfl (fun Γ hΓ X => ?_)
  have X : Fx Γ Ω A cX9_cut 5 "MappingTextsModel" rm_X9_cut (some .int) := X
  unfold f_X9_cut at h
  show V Γ (0, 0) _ A 5 _ 0 [(0, .ref (ad 0 0))] []
  refine tv_aload_n X dX9_cut_0 rfl 0 rfl ?_
  refine tv_aload_n X dX9_cut_1 rfl 0 rfl ?_
  refine gM8_3 X (by omega) gw_5_7 dX9_cut_2 ?_
  refine pM8_4 X (by omega) gw_5_8 dX9_cut_5 ?_
  refine tv_ns h (fun s1 h => ?_)
  refine tv_aload_n X dX9_cut_8 rfl 0 rfl ?_
  refine tv_iconst X 0 dX9_cut_9 (by decide) ?_
  refine pM8_3 X (by omega) gw_5_7 dX9_cut_10 ?_
  refine tv_ns h (fun s2 h => ?_)
  refine tv_aload_n X dX9_cut_13 rfl 0 rfl ?_
  refine tv_iconst X 0 dX9_cut_14 (by decide) ?_
  refine pM8_30 X (by omega) gw_5_34 dX9_cut_15 ?_
  refine tv_ns h (fun s3 h => ?_)
  refine tv_iconst X 0 dX9_cut_18 (by decide) ?_
  refine tv_istore_n X dX9_cut_19 rfl (by decide) [(1, .int 0), (0, .ref (ad 0 0))] rfl ?_
  refine V.pick [1, 0] rfl ?_
  exact l_X9_cut_20 X fl s3 0 h
set_option maxHeartbeats 4000000 in
set_option maxRecDepth 100000 in
theorem l_X9_word_28 {Γ : Cx} {Ω : Wd} {ad : Nat → Nat → Nat} {A : Nat → Prop} {res : St × Int64} (X : Fx Γ Ω A cX9_word 5 "MappingTextsModel" rm_X9_word (some .long)) : ∀ (n : Nat) (σ : St) (v1 : Int32) (v2 : Int64) (v4 : Int32), f_X9_word_28 n σ v1 v2 v4 = some res → V Γ (0, 0) (Qe Γ (0, 0) A (Qcl (PicM Ω ad A) A res)) A 5 (PicM Ω ad A σ) 28 [(0, .ref (ad 0 0)), (1, .int v1), (2, .long v2), (4, .int v4)] [] := by
  intro n
  induction n with
  | zero =>
    intro σ v1 v2 v4 h
    cases (show none = some res from h)
  | succ n ih =>
    intro σ v1 v2 v4 h
    rw [f_X9_word_28] at h
    refine tv_iload X dX9_word_28 3 rfl ?_
    refine tv_aload_n X dX9_word_30 rfl 0 rfl ?_
    refine gM8_33 X (by omega) gw_5_37 dX9_word_31 ?_
    refine tv_iload_n X dX9_word_34 rfl 1 rfl ?_
    refine iaM (n := 2001) X (by omega) rfl dX9_word_35 h (fun j3 hj3 h => ?_)
    refine tv_icmp_ge X 66 dX9_word_36 (by decide) h (fun h => ?_) (fun h => ?_)
    · refine tv_lload_n X dX9_word_66 rfl 2 rfl ?_
      exact tv_lret X dX9_word_67 h
    · refine tv_lload_n X dX9_word_39 rfl 2 rfl ?_
      refine tv_bipush X 8 dX9_word_40 (by decide) ?_
      refine tv_lshl X dX9_word_42 ?_
      refine tv_aload_n X dX9_word_43 rfl 0 rfl ?_
      refine gM8_2 X (by omega) gw_5_6 dX9_word_44 ?_
      refine tv_aload_n X dX9_word_47 rfl 0 rfl ?_
      refine gM8_32 X (by omega) gw_5_36 dX9_word_48 ?_
      refine tv_iload_n X dX9_word_51 rfl 1 rfl ?_
      refine iaM (n := 2001) X (by omega) rfl dX9_word_52 h (fun j4 hj4 h => ?_)
      refine tv_iload X dX9_word_53 3 rfl ?_
      refine tv_iadd X dX9_word_55 ?_
      refine baM (n := 2000) X (by omega) rfl dX9_word_56 h (fun j5 hj5 h => ?_)
      refine tv_i2l X dX9_word_57 ?_
      refine tv_lor X dX9_word_58 ?_
      refine tv_nl h (fun x6 h => ?_)
      refine tv_lstore_n X dX9_word_59 rfl (by decide) [(2, .long x6), (0, .ref (ad 0 0)), (1, .int v1), (4, .int v4)] rfl ?_
      refine tv_iinc X (v4 + 1) dX9_word_60 3 rfl rfl (by decide) [(4, .int (v4 + 1)), (2, .long x6), (0, .ref (ad 0 0)), (1, .int v1)] rfl ?_
      refine tv_goto X 28 dX9_word_63 (by decide) ?_
      refine V.pick [2, 3, 1, 0] rfl ?_
      exact ih σ v1 x6 (v4 + 1) h
set_option maxHeartbeats 4000000 in
set_option maxRecDepth 100000 in
theorem c_X9_word (l : Launch) (Ω : Wd) (ad : Nat → Nat → Nat) (A : Nat → Prop) (σ : St) (a1 : Int32) {res : St × Int64} (h : f_X9_word σ a1 = some res) : Met l yX9_word (wsO yX9_word cX9_word 5 (some .long)) rm_X9_word (PcZ Ω A (PicM Ω ad A σ) [.ref (ad 0 0), .int a1]) (Qcl (PicM Ω ad A) A res) 0 0 A := by
  refine Met.ofV (by decide) rfl (fun Γ hΓ X => ?_)
  have X : Fx Γ Ω A cX9_word 5 "MappingTextsModel" rm_X9_word (some .long) := X
  unfold f_X9_word at h
  show V Γ (0, 0) _ A 5 _ 0 [(0, .ref (ad 0 0)), (1, .int a1)] []
  refine tv_aload_n X dX9_word_0 rfl 0 rfl ?_
  refine gM8_31 X (by omega) gw_5_35 dX9_word_1 ?_
  refine tv_iload_n X dX9_word_4 rfl 1 rfl ?_
  refine iaM (n := 2001) X (by omega) rfl dX9_word_5 h (fun j1 hj1 h => ?_)
  refine tv_iconst X 1 dX9_word_6 (by decide) ?_
  refine tv_icmp_ne X 21 dX9_word_7 (by decide) h (fun h => ?_) (fun h => ?_)
  · refine tv_lconst X 0 dX9_word_21 (by decide) ?_
    exact tv_lret X dX9_word_22 h
  · refine tv_aload_n X dX9_word_10 rfl 0 rfl ?_
    refine gM8_33 X (by omega) gw_5_37 dX9_word_11 ?_
    refine tv_iload_n X dX9_word_14 rfl 1 rfl ?_
    refine iaM (n := 2001) X (by omega) rfl dX9_word_15 h (fun j2 hj2 h => ?_)
    refine tv_bipush X 7 dX9_word_16 (by decide) ?_
    refine tv_icmp_le X 23 dX9_word_18 (by decide) h (fun h => ?_) (fun h => ?_)
    · refine tv_lconst X 0 dX9_word_23 (by decide) ?_
      refine tv_lstore_n X dX9_word_24 rfl (by decide) [(2, .long (0 : Int64)), (0, .ref (ad 0 0)), (1, .int a1)] rfl ?_
      refine tv_iconst X 0 dX9_word_25 (by decide) ?_
      refine tv_istore X dX9_word_26 (by decide) [(4, .int 0), (2, .long (0 : Int64)), (0, .ref (ad 0 0)), (1, .int a1)] rfl ?_
      refine V.pick [2, 3, 1, 0] rfl ?_
      exact l_X9_word_28 X fl σ a1 (0 : Int64) 0 h
    · refine tv_lconst X 0 dX9_word_21 (by decide) ?_
      exact tv_lret X dX9_word_22 h
set_option maxHeartbeats 4000000 in
set_option maxRecDepth 100000 in
theorem l_X9_number_4 {Γ : Cx} {Ω : Wd} {ad : Nat → Nat → Nat} {A : Nat → Prop} {res : St × Int32} (X : Fx Γ Ω A cX9_number 4 "MappingTextsModel" rm_X9_number (some .int)) : ∀ (n : Nat) (σ : St) (v1 : Int32) (v2 : Int32) (v3 : Int32), f_X9_number_4 n σ v1 v2 v3 = some res → V Γ (0, 0) (Qe Γ (0, 0) A (Qci (PicM Ω ad A) A res)) A 4 (PicM Ω ad A σ) 4 [(0, .ref (ad 0 0)), (1, .int v1), (2, .int v2), (3, .int v3)] [] := by
  intro n
  induction n with
  | zero =>
    intro σ v1 v2 v3 h
    cases (show none = some res from h)
  | succ n ih =>
    intro σ v1 v2 v3 h
    rw [f_X9_number_4] at h
    refine tv_iload_n X dX9_number_4 rfl 3 rfl ?_
    refine tv_aload_n X dX9_number_5 rfl 0 rfl ?_
    refine gM8_33 X (by omega) gw_5_37 dX9_number_6 ?_
    refine tv_iload_n X dX9_number_9 rfl 1 rfl ?_
    refine iaM (n := 2001) X (by omega) rfl dX9_number_10 h (fun j1 hj1 h => ?_)
    refine tv_icmp_ge X 42 dX9_number_11 (by decide) h (fun h => ?_) (fun h => ?_)
    · refine tv_iload_n X dX9_number_42 rfl 2 rfl ?_
      exact tv_iret X dX9_number_43 h
    · refine tv_bipush X 10 dX9_number_14 (by decide) ?_
      refine tv_iload_n X dX9_number_16 rfl 2 rfl ?_
      refine tv_imul X dX9_number_17 ?_
      refine tv_aload_n X dX9_number_18 rfl 0 rfl ?_
      refine gM8_2 X (by omega) gw_5_6 dX9_number_19 ?_
      refine tv_aload_n X dX9_number_22 rfl 0 rfl ?_
      refine gM8_32 X (by omega) gw_5_36 dX9_number_23 ?_
      refine tv_iload_n X dX9_number_26 rfl 1 rfl ?_
      refine iaM (n := 2001) X (by omega) rfl dX9_number_27 h (fun j2 hj2 h => ?_)
      refine tv_iload_n X dX9_number_28 rfl 3 rfl ?_
      refine tv_iadd X dX9_number_29 ?_
      refine baM (n := 2000) X (by omega) rfl dX9_number_30 h (fun j3 hj3 h => ?_)
      refine tv_iadd X dX9_number_31 ?_
      refine tv_bipush X 48 dX9_number_32 (by decide) ?_
      refine tv_isub X dX9_number_34 ?_
      refine tv_nm h (fun x4 h => ?_)
      refine tv_istore_n X dX9_number_35 rfl (by decide) [(2, .int x4), (0, .ref (ad 0 0)), (1, .int v1), (3, .int v3)] rfl ?_
      refine tv_iinc X (v3 + 1) dX9_number_36 3 rfl rfl (by decide) [(3, .int (v3 + 1)), (2, .int x4), (0, .ref (ad 0 0)), (1, .int v1)] rfl ?_
      refine tv_goto X 4 dX9_number_39 (by decide) ?_
      refine V.pick [2, 3, 1, 0] rfl ?_
      exact ih σ v1 x4 (v3 + 1) h
set_option maxHeartbeats 4000000 in
set_option maxRecDepth 100000 in
theorem c_X9_number (l : Launch) (Ω : Wd) (ad : Nat → Nat → Nat) (A : Nat → Prop) (σ : St) (a1 : Int32) {res : St × Int32} (h : f_X9_number σ a1 = some res) : Met l yX9_number (wsO yX9_number cX9_number 4 (some .int)) rm_X9_number (PcZ Ω A (PicM Ω ad A σ) [.ref (ad 0 0), .int a1]) (Qci (PicM Ω ad A) A res) 0 0 A := by
  refine Met.ofV (by decide) rfl (fun Γ hΓ X => ?_)
  have X : Fx Γ Ω A cX9_number 4 "MappingTextsModel" rm_X9_number (some .int) := X
  unfold f_X9_number at h
  show V Γ (0, 0) _ A 4 _ 0 [(0, .ref (ad 0 0)), (1, .int a1)] []
  refine tv_iconst X 0 dX9_number_0 (by decide) ?_
  refine tv_istore_n X dX9_number_1 rfl (by decide) [(2, .int 0), (0, .ref (ad 0 0)), (1, .int a1)] rfl ?_
  refine tv_iconst X 0 dX9_number_2 (by decide) ?_
  refine tv_istore_n X dX9_number_3 rfl (by decide) [(3, .int 0), (2, .int 0), (0, .ref (ad 0 0)), (1, .int a1)] rfl ?_
  refine V.pick [2, 3, 1, 0] rfl ?_
  exact l_X9_number_4 X fl σ a1 0 0 h
set_option maxHeartbeats 4000000 in
set_option maxRecDepth 100000 in
theorem l_X9_among_2 {Γ : Cx} {Ω : Wd} {ad : Nat → Nat → Nat} {A : Nat → Prop} {res : St × Int32} (X : Fx Γ Ω A cX9_among 4 "MappingTextsModel" rm_X9_among (some .int)) : ∀ (n : Nat) (σ : St) (v0 : Nat) (v1 : Int64) (v3 : Int32) (_ : v0 < 2), f_X9_among_2 n σ v0 v1 v3 = some res → V Γ (0, 0) (Qe Γ (0, 0) A (Qci (PicM Ω ad A) A res)) A 4 (PicM Ω ad A σ) 2 [(0, .ref (ad 3 v0)), (1, .long v1), (3, .int v3)] [] := by
  intro n
  induction n with
  | zero =>
    intro σ v0 v1 v3 bv0 h
    cases (show none = some res from h)
  | succ n ih =>
    intro σ v0 v1 v3 bv0 h
    rw [f_X9_among_2] at h
    refine tv_iload_n X dX9_among_2 rfl 2 rfl ?_
    refine tv_aload_n X dX9_among_3 rfl 0 rfl ?_
    refine alM3 X (by omega) dX9_among_4 ?_
    refine tv_icmp_ge X 24 dX9_among_5 (by decide) h (fun h => ?_) (fun h => ?_)
    · refine tv_iconst X (-1) dX9_among_24 (by decide) ?_
      exact tv_iret X dX9_among_25 h
    · refine tv_aload_n X dX9_among_8 rfl 0 rfl ?_
      refine tv_iload_n X dX9_among_9 rfl 2 rfl ?_
      refine laM (n := (lenMl.getD v0 0)) X (by omega) rfl dX9_among_10 h (fun j1 hj1 h => ?_)
      refine tv_lload_n X dX9_among_11 rfl 1 rfl ?_
      refine tv_lcmp X dX9_among_12 ?_
      refine tv_if_ne X 18 dX9_among_13 (by decide) h (fun h => ?_) (fun h => ?_)
      · refine tv_iinc X (v3 + 1) dX9_among_18 2 rfl rfl (by decide) [(3, .int (v3 + 1)), (0, .ref (ad 3 v0)), (1, .long v1)] rfl ?_
        refine tv_goto X 2 dX9_among_21 (by decide) ?_
        refine V.pick [1, 2, 0] rfl ?_
        exact ih σ v0 v1 (v3 + 1) (by omega) h
      · refine tv_iload_n X dX9_among_16 rfl 2 rfl ?_
        exact tv_iret X dX9_among_17 h
set_option maxHeartbeats 4000000 in
set_option maxRecDepth 100000 in
theorem c_X9_among (l : Launch) (Ω : Wd) (ad : Nat → Nat → Nat) (A : Nat → Prop) (σ : St) (a1 : Nat) (a2 : Int64) (ba1 : a1 < 2) {res : St × Int32} (h : f_X9_among σ a1 a2 = some res) : Met l yX9_among (wsO yX9_among cX9_among 4 (some .int)) rm_X9_among (PcZ Ω A (PicM Ω ad A σ) [.ref (ad 3 a1), .long a2]) (Qci (PicM Ω ad A) A res) 0 0 A := by
  refine Met.ofV (by decide) rfl (fun Γ hΓ X => ?_)
  have X : Fx Γ Ω A cX9_among 4 "MappingTextsModel" rm_X9_among (some .int) := X
  unfold f_X9_among at h
  show V Γ (0, 0) _ A 4 _ 0 [(0, .ref (ad 3 a1)), (1, .long a2)] []
  refine tv_iconst X 0 dX9_among_0 (by decide) ?_
  refine tv_istore_n X dX9_among_1 rfl (by decide) [(3, .int 0), (0, .ref (ad 3 a1)), (1, .long a2)] rfl ?_
  refine V.pick [1, 2, 0] rfl ?_
  exact l_X9_among_2 X fl σ a1 a2 0 (by omega) h
set_option maxHeartbeats 4000000 in
set_option maxRecDepth 100000 in
theorem c_X9_fails (l : Launch) (Ω : Wd) (ad : Nat → Nat → Nat) (A : Nat → Prop) (σ : St) (a1 : Int32) (a2 : Int32) {res : St × Unit} (h : f_X9_fails σ a1 a2 = some res) : Met l yX9_fails (wsO yX9_fails cX9_fails 3 none) rm_X9_fails (PcZ Ω A (PicM Ω ad A σ) [.ref (ad 0 0), .int a1, .int a2]) (Qcv (PicM Ω ad A) A res) 0 0 A := by
  refine Met.ofV (by decide) rfl (fun Γ hΓ X => ?_)
  have X : Fx Γ Ω A cX9_fails 3 "MappingTextsModel" rm_X9_fails none := X
  unfold f_X9_fails at h
  show V Γ (0, 0) _ A 3 _ 0 [(0, .ref (ad 0 0)), (1, .int a1), (2, .int a2)] []
  refine tv_aload_n X dX9_fails_0 rfl 0 rfl ?_
  refine gM8_35 X (by omega) gw_5_39 dX9_fails_1 ?_
  refine tv_if_ne X 17 dX9_fails_4 (by decide) h (fun h => ?_) (fun h => ?_)
  · exact tv_vret X dX9_fails_17 h
  · refine tv_aload_n X dX9_fails_7 rfl 0 rfl ?_
    refine tv_iload_n X dX9_fails_8 rfl 1 rfl ?_
    refine pM8_35 X (by omega) gw_5_39 dX9_fails_9 ?_
    refine tv_ns h (fun s1 h => ?_)
    refine tv_aload_n X dX9_fails_12 rfl 0 rfl ?_
    refine tv_iload_n X dX9_fails_13 rfl 2 rfl ?_
    refine pM8_9 X (by omega) gw_5_13 dX9_fails_14 ?_
    refine tv_ns h (fun s2 h => ?_)
    exact tv_vret X dX9_fails_17 h
set_option maxHeartbeats 4000000 in
set_option maxRecDepth 100000 in
theorem l_X9_note_31 {Γ : Cx} {Ω : Wd} {ad : Nat → Nat → Nat} {A : Nat → Prop} {res : St × Unit} (X : Fx Γ Ω A cX9_note 3 "MappingTextsModel" rm_X9_note none) (σ : St) (v1 : Int32) (v2 : Int32) (h : f_X9_note_31 σ v1 v2 = some res) : V Γ (0, 0) (Qe Γ (0, 0) A (Qcv (PicM Ω ad A) A res)) A 3 (PicM Ω ad A σ) 31 [(0, .ref (ad 0 0)), (1, .int v1), (2, .int v2)] [] := by
  unfold f_X9_note_31 at h
  refine tv_aload_n X dX9_note_31 rfl 0 rfl ?_
  refine tv_iload_n X dX9_note_32 rfl 1 rfl ?_
  refine pM8_36 X (by omega) gw_5_40 dX9_note_33 ?_
  refine tv_ns h (fun s1 h => ?_)
  refine tv_aload_n X dX9_note_36 rfl 0 rfl ?_
  refine tv_iload_n X dX9_note_37 rfl 2 rfl ?_
  refine pM8_37 X (by omega) gw_5_41 dX9_note_38 ?_
  refine tv_ns h (fun s2 h => ?_)
  exact tv_vret X dX9_note_41 h
set_option maxHeartbeats 4000000 in
set_option maxRecDepth 100000 in
theorem c_X9_note (l : Launch) (Ω : Wd) (ad : Nat → Nat → Nat) (A : Nat → Prop) (σ : St) (a1 : Int32) (a2 : Int32) {res : St × Unit} (h : f_X9_note σ a1 a2 = some res) : Met l yX9_note (wsO yX9_note cX9_note 3 none) rm_X9_note (PcZ Ω A (PicM Ω ad A σ) [.ref (ad 0 0), .int a1, .int a2]) (Qcv (PicM Ω ad A) A res) 0 0 A := by
  refine Met.ofV (by decide) rfl (fun Γ hΓ X => ?_)
  have X : Fx Γ Ω A cX9_note 3 "MappingTextsModel" rm_X9_note none := X
  unfold f_X9_note at h
  show V Γ (0, 0) _ A 3 _ 0 [(0, .ref (ad 0 0)), (1, .int a1), (2, .int a2)] []
  refine tv_aload_n X dX9_note_0 rfl 0 rfl ?_
  refine gM8_36 X (by omega) gw_5_40 dX9_note_1 ?_
  refine tv_if_eq X 31 dX9_note_4 (by decide) h (fun h => ?_) (fun h => ?_)
  · exact l_X9_note_31 X σ a1 a2 h
  · refine tv_iload_n X dX9_note_7 rfl 2 rfl ?_
    refine tv_aload_n X dX9_note_8 rfl 0 rfl ?_
    refine gM8_37 X (by omega) gw_5_41 dX9_note_9 ?_
    refine tv_icmp_lt X 31 dX9_note_12 (by decide) h (fun h => ?_) (fun h => ?_)
    · exact l_X9_note_31 X σ a1 a2 h
    · refine tv_iload_n X dX9_note_15 rfl 2 rfl ?_
      refine tv_aload_n X dX9_note_16 rfl 0 rfl ?_
      refine gM8_37 X (by omega) gw_5_41 dX9_note_17 ?_
      refine tv_icmp_ne X 41 dX9_note_20 (by decide) h (fun h => ?_) (fun h => ?_)
      · exact tv_vret X dX9_note_41 h
      · refine tv_iload_n X dX9_note_23 rfl 1 rfl ?_
        refine tv_aload_n X dX9_note_24 rfl 0 rfl ?_
        refine gM8_36 X (by omega) gw_5_40 dX9_note_25 ?_
        refine tv_icmp_ge X 41 dX9_note_28 (by decide) h (fun h => ?_) (fun h => ?_)
        · exact tv_vret X dX9_note_41 h
        · exact l_X9_note_31 X σ a1 a2 h
set_option maxHeartbeats 4000000 in
set_option maxRecDepth 100000 in
theorem l_X9_want_34 {Γ : Cx} {Ω : Wd} {ad : Nat → Nat → Nat} {A : Nat → Prop} {res : St × Unit} (X : Fx Γ Ω A cX9_want 2 "MappingTextsModel" rm_X9_want none) (σ : St) (h : f_X9_want_34 σ = some res) : V Γ (0, 0) (Qe Γ (0, 0) A (Qcv (PicM Ω ad A) A res)) A 2 (PicM Ω ad A σ) 34 [(0, .ref (ad 0 0))] [] := by
  unfold f_X9_want_34 at h
  refine tv_aload_n X dX9_want_34 rfl 0 rfl ?_
  refine gM8_35 X (by omega) gw_5_39 dX9_want_35 ?_
  refine tv_if_ne X 51 dX9_want_38 (by decide) h (fun h => ?_) (fun h => ?_)
  · exact tv_vret X dX9_want_51 h
  · refine tv_aload_n X dX9_want_41 rfl 0 rfl ?_
    refine tv_dup X dX9_want_42 rfl ?_
    refine gM8_34 X (by omega) gw_5_38 dX9_want_43 ?_
    refine tv_iconst X 1 dX9_want_46 (by decide) ?_
    refine tv_iadd X dX9_want_47 ?_
    refine pM8_34 X (by omega) gw_5_38 dX9_want_48 ?_
    refine tv_ns h (fun s4 h => ?_)
    exact tv_vret X dX9_want_51 h
set_option maxHeartbeats 4000000 in
set_option maxRecDepth 100000 in
theorem c_X9_want (l : Launch) (Ω : Wd) (ad : Nat → Nat → Nat) (A : Nat → Prop) (σ : St) (a1 : Int32) {res : St × Unit} (h : f_X9_want σ a1 = some res) : Met l yX9_want (wsO yX9_want cX9_want 2 none) rm_X9_want (PcZ Ω A (PicM Ω ad A σ) [.ref (ad 0 0), .int a1]) (Qcv (PicM Ω ad A) A res) 0 0 A := by
  refine Met.ofV (by decide) rfl (fun Γ hΓ X => ?_)
  have X : Fx Γ Ω A cX9_want 2 "MappingTextsModel" rm_X9_want none := X
  unfold f_X9_want at h
  show V Γ (0, 0) _ A 2 _ 0 [(0, .ref (ad 0 0)), (1, .int a1)] []
  refine tv_aload_n X dX9_want_0 rfl 0 rfl ?_
  refine gM8_35 X (by omega) gw_5_39 dX9_want_1 ?_
  refine tv_if_ne X 34 dX9_want_4 (by decide) h (fun h => ?_) (fun h => ?_)
  · refine V.pick [0] rfl ?_
    exact l_X9_want_34 X σ h
  · refine tv_aload_n X dX9_want_7 rfl 0 rfl ?_
    refine gM8_31 X (by omega) gw_5_35 dX9_want_8 ?_
    refine tv_aload_n X dX9_want_11 rfl 0 rfl ?_
    refine gM8_34 X (by omega) gw_5_38 dX9_want_12 ?_
    refine iaM (n := 2001) X (by omega) rfl dX9_want_15 h (fun j1 hj1 h => ?_)
    refine tv_iload_n X dX9_want_16 rfl 1 rfl ?_
    refine tv_icmp_eq X 34 dX9_want_17 (by decide) h (fun h => ?_) (fun h => ?_)
    · refine V.pick [0] rfl ?_
      exact l_X9_want_34 X σ h
    · refine tv_aload_n X dX9_want_20 rfl 0 rfl ?_
      refine tv_iconst X 2 dX9_want_21 (by decide) ?_
      refine tv_aload_n X dX9_want_22 rfl 0 rfl ?_
      refine gM8_32 X (by omega) gw_5_36 dX9_want_23 ?_
      refine tv_aload_n X dX9_want_26 rfl 0 rfl ?_
      refine gM8_34 X (by omega) gw_5_38 dX9_want_27 ?_
      refine iaM (n := 2001) X (by omega) rfl dX9_want_30 h (fun j2 hj2 h => ?_)
      obtain ⟨s3, _u31, hs3, h⟩ := cl_some h
      refine tv_callVv (st := []) X (c_X9_fails Γ.2.1 Ω ad A σ 2 (ga σ 1 15 j2) hs3) ⟨gw_5_208, gw_5_205, gw_1_10, q_X9_fails, rfl, rfl, ⟨Nat.le_of_ble_eq_true rfl, Nat.le_of_ble_eq_true rfl⟩⟩ gw_5_207 gw_p_49 (fun H _ hz _ => PP.recv (f := 0) (i := 0) X.2.1 hz.1 (show 0 < 1 by omega) rfl rfl) rfl rfl (Nat.le_of_ble_eq_true rfl) dX9_want_31 ?_
      refine V.pick [0] rfl ?_
      exact l_X9_want_34 X s3 h
set_option maxHeartbeats 4000000 in
set_option maxRecDepth 100000 in
theorem l_X9_wantKind_52 {Γ : Cx} {Ω : Wd} {ad : Nat → Nat → Nat} {A : Nat → Prop} {res : St × Int32} (X : Fx Γ Ω A cX9_wantKind 2 "MappingTextsModel" rm_X9_wantKind (some .int)) (σ : St) (v1 : Int32) (h : f_X9_wantKind_52 σ v1 = some res) : V Γ (0, 0) (Qe Γ (0, 0) A (Qci (PicM Ω ad A) A res)) A 2 (PicM Ω ad A σ) 52 [(0, .ref (ad 0 0)), (1, .int v1)] [] := by
  unfold f_X9_wantKind_52 at h
  refine tv_aload_n X dX9_wantKind_52 rfl 0 rfl ?_
  refine gM8_35 X (by omega) gw_5_39 dX9_wantKind_53 ?_
  refine tv_if_ne X 69 dX9_wantKind_56 (by decide) h (fun h => ?_) (fun h => ?_)
  · refine tv_iload_n X dX9_wantKind_69 rfl 1 rfl ?_
    exact tv_iret X dX9_wantKind_70 h
  · refine tv_aload_n X dX9_wantKind_59 rfl 0 rfl ?_
    refine tv_dup X dX9_wantKind_60 rfl ?_
    refine gM8_34 X (by omega) gw_5_38 dX9_wantKind_61 ?_
    refine tv_iconst X 1 dX9_wantKind_64 (by decide) ?_
    refine tv_iadd X dX9_wantKind_65 ?_
    refine pM8_34 X (by omega) gw_5_38 dX9_wantKind_66 ?_
    refine tv_ns h (fun s7 h => ?_)
    refine tv_iload_n X dX9_wantKind_69 rfl 1 rfl ?_
    exact tv_iret X dX9_wantKind_70 h
set_option maxHeartbeats 4000000 in
set_option maxRecDepth 100000 in
theorem l_X9_wantKind_26 {Γ : Cx} {Ω : Wd} {ad : Nat → Nat → Nat} {A : Nat → Prop} {res : St × Int32} (X : Fx Γ Ω A cX9_wantKind 2 "MappingTextsModel" rm_X9_wantKind (some .int)) (σ : St) (t0 : Int32) (h : f_X9_wantKind_26 σ t0 = some res) : V Γ (0, 0) (Qe Γ (0, 0) A (Qci (PicM Ω ad A) A res)) A 2 (PicM Ω ad A σ) 26 [(0, .ref (ad 0 0))] [.int t0] := by
  unfold f_X9_wantKind_26 at h
  refine tv_istore_n X dX9_wantKind_26 rfl (by decide) [(1, .int t0), (0, .ref (ad 0 0))] rfl ?_
  refine tv_aload_n X dX9_wantKind_27 rfl 1 rfl ?_
  refine gM8_35 X (by omega) gw_5_39 dX9_wantKind_28 ?_
  refine tv_if_ne X 52 dX9_wantKind_31 (by decide) h (fun h => ?_) (fun h => ?_)
  · refine V.pick [1, 0] rfl ?_
    exact l_X9_wantKind_52 X σ t0 h
  · refine tv_iload_n X dX9_wantKind_34 rfl 0 rfl ?_
    refine tv_if_ge X 52 dX9_wantKind_35 (by decide) h (fun h => ?_) (fun h => ?_)
    · refine V.pick [1, 0] rfl ?_
      exact l_X9_wantKind_52 X σ t0 h
    · refine tv_aload_n X dX9_wantKind_38 rfl 1 rfl ?_
      refine tv_iconst X 2 dX9_wantKind_39 (by decide) ?_
      refine tv_aload_n X dX9_wantKind_40 rfl 1 rfl ?_
      refine gM8_32 X (by omega) gw_5_36 dX9_wantKind_41 ?_
      refine tv_aload_n X dX9_wantKind_44 rfl 1 rfl ?_
      refine gM8_34 X (by omega) gw_5_38 dX9_wantKind_45 ?_
      refine iaM (n := 2001) X (by omega) rfl dX9_wantKind_48 h (fun j5 hj5 h => ?_)
      obtain ⟨s6, _u49, hs6, h⟩ := cl_some h
      refine tv_callVv (st := []) X (c_X9_fails Γ.2.1 Ω ad A σ 2 (ga σ 1 15 j5) hs6) ⟨gw_5_208, gw_5_205, gw_1_10, q_X9_fails, rfl, rfl, ⟨Nat.le_of_ble_eq_true rfl, Nat.le_of_ble_eq_true rfl⟩⟩ gw_5_207 gw_p_49 (fun H _ hz _ => PP.recv (f := 0) (i := 0) X.2.1 hz.1 (show 0 < 1 by omega) rfl rfl) rfl rfl (Nat.le_of_ble_eq_true rfl) dX9_wantKind_49 ?_
      refine V.pick [1, 0] rfl ?_
      exact l_X9_wantKind_52 X s6 t0 h
set_option maxHeartbeats 4000000 in
set_option maxRecDepth 100000 in
theorem c_X9_wantKind (l : Launch) (Ω : Wd) (ad : Nat → Nat → Nat) (A : Nat → Prop) (σ : St) {res : St × Int32} (h : f_X9_wantKind σ = some res) : Met l yX9_wantKind (wsO yX9_wantKind cX9_wantKind 2 (some .int)) rm_X9_wantKind (PcZ Ω A (PicM Ω ad A σ) [.ref (ad 0 0)]) (Qci (PicM Ω ad A) A res) 0 0 A := by
  refine Met.ofV (by decide) rfl (fun Γ hΓ X => ?_)
  have X : Fx Γ Ω A cX9_wantKind 2 "MappingTextsModel" rm_X9_wantKind (some .int) := X
  unfold f_X9_wantKind at h
  show V Γ (0, 0) _ A 2 _ 0 [(0, .ref (ad 0 0))] []
  refine tv_aload_n X dX9_wantKind_0 rfl 0 rfl ?_
  refine gM8_35 X (by omega) gw_5_39 dX9_wantKind_1 ?_
  refine tv_if_ne X 25 dX9_wantKind_4 (by decide) h (fun h => ?_) (fun h => ?_)
  · refine tv_iconst X (-1) dX9_wantKind_25 (by decide) ?_
    exact l_X9_wantKind_26 X σ (-1) h
  · refine tv_aload_n X dX9_wantKind_7 rfl 0 rfl ?_
    refine gM8_0 X (by omega) gw_5_4 dX9_wantKind_8 ?_
    refine tv_aload_n X dX9_wantKind_11 rfl 0 rfl ?_
    refine tv_aload_n X dX9_wantKind_12 rfl 0 rfl ?_
    refine gM8_34 X (by omega) gw_5_38 dX9_wantKind_13 ?_
    obtain ⟨s1, x2, hs1, h⟩ := cl_some h
    refine tv_callVl (st := [.ref (ad 3 0)]) X (c_X9_word Γ.2.1 Ω ad A σ (gi σ 834 0) hs1) ⟨gw_5_216, gw_5_213, gw_1_10, q_X9_word, rfl, rfl, ⟨Nat.le_of_ble_eq_true rfl, Nat.le_of_ble_eq_true rfl⟩⟩ gw_5_215 gw_p_51 (fun H _ hz _ => PP.recv (f := 0) (i := 0) X.2.1 hz.1 (show 0 < 1 by omega) rfl rfl) rfl rfl (Nat.le_of_ble_eq_true rfl) dX9_wantKind_16 ?_
    obtain ⟨s3, x4, hs3, h⟩ := cl_some h
    refine tv_callSi (st := []) X (c_X9_among Γ.2.1 Ω ad A s1 0 x2 (by omega) hs3) ⟨gw_5_237, gw_5_235, gw_1_10, q_X9_among, rfl, rfl, ⟨Nat.le_of_ble_eq_true rfl, Nat.le_of_ble_eq_true rfl⟩⟩ gw_5_236 rfl rfl (Nat.le_of_ble_eq_true rfl) dX9_wantKind_19 ?_
    refine tv_goto X 26 dX9_wantKind_22 (by decide) ?_
    exact l_X9_wantKind_26 X s3 x4 h
set_option maxHeartbeats 4000000 in
set_option maxRecDepth 100000 in
theorem l_X9_copyName_3 {Γ : Cx} {Ω : Wd} {ad : Nat → Nat → Nat} {A : Nat → Prop} {res : St × Unit} (X : Fx Γ Ω A cX9_copyName 5 "MappingTextsModel" rm_X9_copyName none) : ∀ (n : Nat) (σ : St) (v1 : Int32) (v2 : Nat) (v3 : Int32) (v4 : Int32) (_ : v2 < 9), f_X9_copyName_3 n σ v1 v2 v3 v4 = some res → V Γ (0, 0) (Qe Γ (0, 0) A (Qcv (PicM Ω ad A) A res)) A 5 (PicM Ω ad A σ) 3 [(0, .ref (ad 0 0)), (1, .int v1), (2, .ref (ad 2 v2)), (3, .int v3), (4, .int v4)] [] := by
  intro n
  induction n with
  | zero =>
    intro σ v1 v2 v3 v4 bv2 h
    cases (show none = some res from h)
  | succ n ih =>
    intro σ v1 v2 v3 v4 bv2 h
    rw [f_X9_copyName_3] at h
    refine tv_iload X dX9_copyName_3 4 rfl ?_
    refine tv_aload_n X dX9_copyName_5 rfl 0 rfl ?_
    refine gM8_33 X (by omega) gw_5_37 dX9_copyName_6 ?_
    refine tv_iload_n X dX9_copyName_9 rfl 1 rfl ?_
    refine iaM (n := 2001) X (by omega) rfl dX9_copyName_10 h (fun j1 hj1 h => ?_)
    refine tv_icmp_ge X 40 dX9_copyName_11 (by decide) h (fun h => ?_) (fun h => ?_)
    · exact tv_vret X dX9_copyName_40 h
    · refine tv_aload_n X dX9_copyName_14 rfl 2 rfl ?_
      refine tv_iload_n X dX9_copyName_15 rfl 3 rfl ?_
      refine tv_iload X dX9_copyName_16 4 rfl ?_
      refine tv_iadd X dX9_copyName_18 ?_
      refine tv_aload_n X dX9_copyName_19 rfl 0 rfl ?_
      refine gM8_2 X (by omega) gw_5_6 dX9_copyName_20 ?_
      refine tv_aload_n X dX9_copyName_23 rfl 0 rfl ?_
      refine gM8_32 X (by omega) gw_5_36 dX9_copyName_24 ?_
      refine tv_iload_n X dX9_copyName_27 rfl 1 rfl ?_
      refine iaM (n := 2001) X (by omega) rfl dX9_copyName_28 h (fun j2 hj2 h => ?_)
      refine tv_iload X dX9_copyName_29 4 rfl ?_
      refine tv_iadd X dX9_copyName_31 ?_
      refine baM (n := 2000) X (by omega) rfl dX9_copyName_32 h (fun j3 hj3 h => ?_)
      refine bsM (n := (lenMb.getD v2 0)) X (by omega) rfl dX9_copyName_33 h (fun j4 hj4 h => ?_)
      refine tv_ns h (fun s5 h => ?_)
      refine tv_iinc X (v4 + 1) dX9_copyName_34 4 rfl rfl (by decide) [(4, .int (v4 + 1)), (0, .ref (ad 0 0)), (1, .int v1), (2, .ref (ad 2 v2)), (3, .int v3)] rfl ?_
      refine tv_goto X 3 dX9_copyName_37 (by decide) ?_
      refine V.pick [1, 2, 3, 4, 0] rfl ?_
      exact ih s5 v1 v2 v3 (v4 + 1) (by omega) h
set_option maxHeartbeats 4000000 in
set_option maxRecDepth 100000 in
theorem c_X9_copyName (l : Launch) (Ω : Wd) (ad : Nat → Nat → Nat) (A : Nat → Prop) (σ : St) (a1 : Int32) (a2 : Nat) (a3 : Int32) (ba2 : a2 < 9) {res : St × Unit} (h : f_X9_copyName σ a1 a2 a3 = some res) : Met l yX9_copyName (wsO yX9_copyName cX9_copyName 5 none) rm_X9_copyName (PcZ Ω A (PicM Ω ad A σ) [.ref (ad 0 0), .int a1, .ref (ad 2 a2), .int a3]) (Qcv (PicM Ω ad A) A res) 0 0 A := by
  refine Met.ofV (by decide) rfl (fun Γ hΓ X => ?_)
  have X : Fx Γ Ω A cX9_copyName 5 "MappingTextsModel" rm_X9_copyName none := X
  unfold f_X9_copyName at h
  show V Γ (0, 0) _ A 5 _ 0 [(0, .ref (ad 0 0)), (1, .int a1), (2, .ref (ad 2 a2)), (3, .int a3)] []
  refine tv_iconst X 0 dX9_copyName_0 (by decide) ?_
  refine tv_istore X dX9_copyName_1 (by decide) [(4, .int 0), (0, .ref (ad 0 0)), (1, .int a1), (2, .ref (ad 2 a2)), (3, .int a3)] rfl ?_
  refine V.pick [1, 2, 3, 4, 0] rfl ?_
  exact l_X9_copyName_3 X fl σ a1 a2 a3 0 (by omega) h
set_option maxHeartbeats 4000000 in
set_option maxRecDepth 100000 in
theorem l_X9_wantPath_48 {Γ : Cx} {Ω : Wd} {ad : Nat → Nat → Nat} {A : Nat → Prop} {res : St × Int32} (X : Fx Γ Ω A cX9_wantPath 3 "MappingTextsModel" rm_X9_wantPath (some .int)) {k49 : St → Int32 → Int32 → Option (St × Int32)} (hk49 : ∀ (σ : St) (t0 : Int32) (v1 : Int32), k49 σ t0 v1 = some res → V Γ (0, 0) (Qe Γ (0, 0) A (Qci (PicM Ω ad A) A res)) A 3 (PicM Ω ad A σ) 49 [(0, .ref (ad 0 0)), (1, .int v1)] [.int t0]) (σ : St) (v1 : Int32) (h : f_X9_wantPath_48 k49 σ v1 = some res) : V Γ (0, 0) (Qe Γ (0, 0) A (Qci (PicM Ω ad A) A res)) A 3 (PicM Ω ad A σ) 48 [(0, .ref (ad 0 0)), (1, .int v1)] [] := by
  unfold f_X9_wantPath_48 at h
  refine tv_iconst X 0 dX9_wantPath_48 (by decide) ?_
  exact hk49 σ 0 v1 h
set_option maxHeartbeats 4000000 in
set_option maxRecDepth 100000 in
theorem l_X9_wantPath_49 {Γ : Cx} {Ω : Wd} {ad : Nat → Nat → Nat} {A : Nat → Prop} {res : St × Int32} (X : Fx Γ Ω A cX9_wantPath 3 "MappingTextsModel" rm_X9_wantPath (some .int)) {k4 : St → Int32 → Int32 → Option (St × Int32)} (hk4 : ∀ (σ : St) (v1 : Int32) (v2 : Int32), k4 σ v1 v2 = some res → V Γ (0, 0) (Qe Γ (0, 0) A (Qci (PicM Ω ad A) A res)) A 3 (PicM Ω ad A σ) 4 [(0, .ref (ad 0 0)), (1, .int v1), (2, .int v2)] []) (σ : St) (t0 : Int32) (v1 : Int32) (h : f_X9_wantPath_49 k4 σ t0 v1 = some res) : V Γ (0, 0) (Qe Γ (0, 0) A (Qci (PicM Ω ad A) A res)) A 3 (PicM Ω ad A σ) 49 [(0, .ref (ad 0 0)), (1, .int v1)] [.int t0] := by
  unfold f_X9_wantPath_49 at h
  refine tv_istore_n X dX9_wantPath_49 rfl (by decide) [(2, .int t0), (0, .ref (ad 0 0)), (1, .int v1)] rfl ?_
  refine tv_iload_n X dX9_wantPath_50 rfl 0 rfl ?_
  refine tv_if_eq X 4 dX9_wantPath_51 (by decide) h (fun h => ?_) (fun h => ?_)
  · refine V.pick [1, 2, 0] rfl ?_
    exact hk4 σ v1 t0 h
  · refine tv_aload_n X dX9_wantPath_54 rfl 1 rfl ?_
    refine tv_dup X dX9_wantPath_55 rfl ?_
    refine gM8_34 X (by omega) gw_5_38 dX9_wantPath_56 ?_
    refine tv_iconst X 1 dX9_wantPath_59 (by decide) ?_
    refine tv_iadd X dX9_wantPath_60 ?_
    refine pM8_34 X (by omega) gw_5_38 dX9_wantPath_61 ?_
    refine tv_ns h (fun s3 h => ?_)
    refine tv_goto X 4 dX9_wantPath_64 (by decide) ?_
    refine V.pick [1, 2, 0] rfl ?_
    exact hk4 s3 v1 t0 h
set_option maxHeartbeats 4000000 in
set_option maxRecDepth 100000 in
theorem l_X9_wantPath_4 {Γ : Cx} {Ω : Wd} {ad : Nat → Nat → Nat} {A : Nat → Prop} {res : St × Int32} (X : Fx Γ Ω A cX9_wantPath 3 "MappingTextsModel" rm_X9_wantPath (some .int)) : ∀ (n : Nat) (σ : St) (v1 : Int32) (v2 : Int32), f_X9_wantPath_4 n σ v1 v2 = some res → V Γ (0, 0) (Qe Γ (0, 0) A (Qci (PicM Ω ad A) A res)) A 3 (PicM Ω ad A σ) 4 [(0, .ref (ad 0 0)), (1, .int v1), (2, .int v2)] [] := by
  intro n
  induction n with
  | zero =>
    intro σ v1 v2 h
    cases (show none = some res from h)
  | succ n ih =>
    intro σ v1 v2 h
    rw [f_X9_wantPath_4] at h
    refine tv_iload_n X dX9_wantPath_4 rfl 2 rfl ?_
    refine tv_if_eq X 67 dX9_wantPath_5 (by decide) h (fun h => ?_) (fun h => ?_)
    · refine tv_iload_n X dX9_wantPath_67 rfl 1 rfl ?_
      exact tv_iret X dX9_wantPath_68 h
    · refine tv_aload_n X dX9_wantPath_8 rfl 0 rfl ?_
      refine gM8_35 X (by omega) gw_5_39 dX9_wantPath_9 ?_
      refine tv_if_ne X 67 dX9_wantPath_12 (by decide) h (fun h => ?_) (fun h => ?_)
      · refine tv_iload_n X dX9_wantPath_67 rfl 1 rfl ?_
        exact tv_iret X dX9_wantPath_68 h
      · refine tv_aload_n X dX9_wantPath_15 rfl 0 rfl ?_
        refine tv_iconst X 1 dX9_wantPath_16 (by decide) ?_
        obtain ⟨s1, _u17, hs1, h⟩ := cl_some h
        refine tv_callVv (st := []) X (c_X9_want Γ.2.1 Ω ad A σ 1 hs1) ⟨gw_5_220, gw_5_217, gw_1_10, q_X9_want, rfl, rfl, ⟨Nat.le_of_ble_eq_true rfl, Nat.le_of_ble_eq_true rfl⟩⟩ gw_5_219 gw_p_52 (fun H _ hz _ => PP.recv (f := 0) (i := 0) X.2.1 hz.1 (show 0 < 1 by omega) rfl rfl) rfl rfl (Nat.le_of_ble_eq_true rfl) dX9_wantPath_17 ?_
        refine tv_iinc X (v1 + 1) dX9_wantPath_20 1 rfl rfl (by decide) [(1, .int (v1 + 1)), (0, .ref (ad 0 0)), (2, .int v2)] rfl ?_
        refine tv_aload_n X dX9_wantPath_23 rfl 1 rfl ?_
        refine gM8_35 X (by omega) gw_5_39 dX9_wantPath_24 ?_
        refine tv_if_ne X 48 dX9_wantPath_27 (by decide) h (fun h => ?_) (fun h => ?_)
        · refine V.pick [1, 0] rfl ?_
          exact l_X9_wantPath_48 X (l_X9_wantPath_49 X ih) s1 (v1 + 1) h
        · refine tv_aload_n X dX9_wantPath_30 rfl 1 rfl ?_
          refine gM8_31 X (by omega) gw_5_35 dX9_wantPath_31 ?_
          refine tv_aload_n X dX9_wantPath_34 rfl 1 rfl ?_
          refine gM8_34 X (by omega) gw_5_38 dX9_wantPath_35 ?_
          refine iaM (n := 2001) X (by omega) rfl dX9_wantPath_38 h (fun j2 hj2 h => ?_)
          refine tv_bipush X 46 dX9_wantPath_39 (by decide) ?_
          refine tv_icmp_ne X 48 dX9_wantPath_41 (by decide) h (fun h => ?_) (fun h => ?_)
          · refine V.pick [1, 0] rfl ?_
            exact l_X9_wantPath_48 X (l_X9_wantPath_49 X ih) s1 (v1 + 1) h
          · refine tv_iconst X 1 dX9_wantPath_44 (by decide) ?_
            refine tv_goto X 49 dX9_wantPath_45 (by decide) ?_
            refine V.pick [1, 0] rfl ?_
            exact l_X9_wantPath_49 X ih s1 1 (v1 + 1) h
set_option maxHeartbeats 4000000 in
set_option maxRecDepth 100000 in
theorem c_X9_wantPath (l : Launch) (Ω : Wd) (ad : Nat → Nat → Nat) (A : Nat → Prop) (σ : St) {res : St × Int32} (h : f_X9_wantPath σ = some res) : Met l yX9_wantPath (wsO yX9_wantPath cX9_wantPath 3 (some .int)) rm_X9_wantPath (PcZ Ω A (PicM Ω ad A σ) [.ref (ad 0 0)]) (Qci (PicM Ω ad A) A res) 0 0 A := by
  refine Met.ofV (by decide) rfl (fun Γ hΓ X => ?_)
  have X : Fx Γ Ω A cX9_wantPath 3 "MappingTextsModel" rm_X9_wantPath (some .int) := X
  unfold f_X9_wantPath at h
  show V Γ (0, 0) _ A 3 _ 0 [(0, .ref (ad 0 0))] []
  refine tv_iconst X 0 dX9_wantPath_0 (by decide) ?_
  refine tv_istore_n X dX9_wantPath_1 rfl (by decide) [(1, .int 0), (0, .ref (ad 0 0))] rfl ?_
  refine tv_iconst X 1 dX9_wantPath_2 (by decide) ?_
  refine tv_istore_n X dX9_wantPath_3 rfl (by decide) [(2, .int 1), (1, .int 0), (0, .ref (ad 0 0))] rfl ?_
  refine V.pick [2, 1, 0] rfl ?_
  exact l_X9_wantPath_4 X fl σ 0 1 h
set_option maxHeartbeats 4000000 in
set_option maxRecDepth 100000 in
theorem l_X9_mayHave_51 {Γ : Cx} {Ω : Wd} {ad : Nat → Nat → Nat} {A : Nat → Prop} {res : St × Int32} (X : Fx Γ Ω A cX9_mayHave 3 "MappingTextsModel" rm_X9_mayHave (some .boolean)) (σ : St) (v1 : Int32) (h : f_X9_mayHave_51 σ v1 = some res) : V Γ (0, 0) (Qe Γ (0, 0) A (Qci (PicM Ω ad A) A res)) A 3 (PicM Ω ad A σ) 51 [(1, .int v1)] [] := by
  unfold f_X9_mayHave_51 at h
  refine tv_iload_n X dX9_mayHave_51 rfl 0 rfl ?_
  refine tv_iconst X 1 dX9_mayHave_52 (by decide) ?_
  refine tv_icmp_ne X 60 dX9_mayHave_53 (by decide) h (fun h => ?_) (fun h => ?_)
  · refine tv_iconst X 0 dX9_mayHave_60 (by decide) ?_
    exact tv_zret X dX9_mayHave_61 (Or.inl rfl) h
  · refine tv_iconst X 1 dX9_mayHave_56 (by decide) ?_
    refine tv_goto X 61 dX9_mayHave_57 (by decide) ?_
    exact tv_zret X dX9_mayHave_61 (Or.inr rfl) h
set_option maxHeartbeats 4000000 in
set_option maxRecDepth 100000 in
theorem l_X9_mayHave_40 {Γ : Cx} {Ω : Wd} {ad : Nat → Nat → Nat} {A : Nat → Prop} {res : St × Int32} (X : Fx Γ Ω A cX9_mayHave 3 "MappingTextsModel" rm_X9_mayHave (some .boolean)) (σ : St) (v1 : Int32) (h : f_X9_mayHave_40 σ v1 = some res) : V Γ (0, 0) (Qe Γ (0, 0) A (Qci (PicM Ω ad A) A res)) A 3 (PicM Ω ad A σ) 40 [(1, .int v1)] [] := by
  unfold f_X9_mayHave_40 at h
  refine tv_iload_n X dX9_mayHave_40 rfl 0 rfl ?_
  refine tv_iconst X 4 dX9_mayHave_41 (by decide) ?_
  refine tv_icmp_gt X 49 dX9_mayHave_42 (by decide) h (fun h => ?_) (fun h => ?_)
  · refine tv_iconst X 0 dX9_mayHave_49 (by decide) ?_
    exact tv_zret X dX9_mayHave_50 (Or.inl rfl) h
  · refine tv_iconst X 1 dX9_mayHave_45 (by decide) ?_
    refine tv_goto X 50 dX9_mayHave_46 (by decide) ?_
    exact tv_zret X dX9_mayHave_50 (Or.inr rfl) h
set_option maxHeartbeats 4000000 in
set_option maxRecDepth 100000 in
theorem c_X9_mayHave (l : Launch) (Ω : Wd) (ad : Nat → Nat → Nat) (A : Nat → Prop) (σ : St) (a1 : Int32) (a2 : Int32) {res : St × Int32} (h : f_X9_mayHave σ a1 a2 = some res) : Met l yX9_mayHave (wsO yX9_mayHave cX9_mayHave 3 (some .boolean)) rm_X9_mayHave (PcZ Ω A (PicM Ω ad A σ) [.ref (ad 0 0), .int a1, .int a2]) (Qci (PicM Ω ad A) A res) 0 0 A := by
  refine Met.ofV (by decide) rfl (fun Γ hΓ X => ?_)
  have X : Fx Γ Ω A cX9_mayHave 3 "MappingTextsModel" rm_X9_mayHave (some .boolean) := X
  unfold f_X9_mayHave at h
  show V Γ (0, 0) _ A 3 _ 0 [(0, .ref (ad 0 0)), (1, .int a1), (2, .int a2)] []
  refine tv_iload_n X dX9_mayHave_0 rfl 2 rfl ?_
  refine tv_nm h (fun x1 h => ?_)
  by_cases c1_0 : x1 = 0
  · rw [if_pos c1_0] at h
    refine tv_tableIn 40 X dX9_mayHave_1 (by rw [c1_0]; decide) (by rw [c1_0]; decide) (by rw [c1_0]; rfl) (by decide) ?_
    refine V.pick [1] rfl ?_
    exact l_X9_mayHave_40 X σ a1 h
  rw [if_neg c1_0] at h
  by_cases c1_1 : x1 = 1
  · rw [if_pos c1_1] at h
    refine tv_tableIn 40 X dX9_mayHave_1 (by rw [c1_1]; decide) (by rw [c1_1]; decide) (by rw [c1_1]; rfl) (by decide) ?_
    refine V.pick [1] rfl ?_
    exact l_X9_mayHave_40 X σ a1 h
  rw [if_neg c1_1] at h
  by_cases c1_2 : x1 = 2
  · rw [if_pos c1_2] at h
    refine tv_tableIn 51 X dX9_mayHave_1 (by rw [c1_2]; decide) (by rw [c1_2]; decide) (by rw [c1_2]; rfl) (by decide) ?_
    refine V.pick [1] rfl ?_
    exact l_X9_mayHave_51 X σ a1 h
  rw [if_neg c1_2] at h
  by_cases c1_3 : x1 = 3
  · rw [if_pos c1_3] at h
    refine tv_tableIn 62 X dX9_mayHave_1 (by rw [c1_3]; decide) (by rw [c1_3]; decide) (by rw [c1_3]; rfl) (by decide) ?_
    refine tv_iload_n X dX9_mayHave_62 rfl 1 rfl ?_
    refine tv_iconst X 2 dX9_mayHave_63 (by decide) ?_
    refine tv_iconst X 4 dX9_mayHave_64 (by decide) ?_
    obtain ⟨s2, x3, hs2, h⟩ := cl_some h
    refine tv_callSi (st := []) X (c_X9_in Γ.2.1 Ω ad A σ a1 2 4 hs2) ⟨gw_5_187, gw_5_185, gw_1_10, q_X9_in, rfl, rfl, ⟨Nat.le_of_ble_eq_true rfl, Nat.le_of_ble_eq_true rfl⟩⟩ gw_5_186 rfl rfl (Nat.le_of_ble_eq_true rfl) dX9_mayHave_65 ?_
    obtain ⟨hq, h⟩ := cq_some h
    exact tv_zret X dX9_mayHave_68 (of_decide_eq_true hq) h
  rw [if_neg c1_3] at h
  by_cases c1_4 : x1 = 4
  · rw [if_pos c1_4] at h
    refine tv_tableIn 40 X dX9_mayHave_1 (by rw [c1_4]; decide) (by rw [c1_4]; decide) (by rw [c1_4]; rfl) (by decide) ?_
    refine V.pick [1] rfl ?_
    exact l_X9_mayHave_40 X σ a1 h
  rw [if_neg c1_4] at h
  by_cases c1_5 : x1 = 5
  · rw [if_pos c1_5] at h
    refine tv_tableIn 51 X dX9_mayHave_1 (by rw [c1_5]; decide) (by rw [c1_5]; decide) (by rw [c1_5]; rfl) (by decide) ?_
    refine V.pick [1] rfl ?_
    exact l_X9_mayHave_51 X σ a1 h
  rw [if_neg c1_5] at h
  have zc1_0 := ne_toInt 0 c1_0 (by decide)
  have zc1_1 := ne_toInt 1 c1_1 (by decide)
  have zc1_2 := ne_toInt 2 c1_2 (by decide)
  have zc1_3 := ne_toInt 3 c1_3 (by decide)
  have zc1_4 := ne_toInt 4 c1_4 (by decide)
  have zc1_5 := ne_toInt 5 c1_5 (by decide)
  refine tv_tableOut 69 X dX9_mayHave_1 (by omega) (by decide) ?_
  refine tv_iload_n X dX9_mayHave_69 rfl 1 rfl ?_
  refine tv_bipush X 7 dX9_mayHave_70 (by decide) ?_
  refine tv_icmp_ne X 79 dX9_mayHave_72 (by decide) h (fun h => ?_) (fun h => ?_)
  · refine tv_iconst X 0 dX9_mayHave_79 (by decide) ?_
    exact tv_zret X dX9_mayHave_80 (Or.inl rfl) h
  · refine tv_iconst X 1 dX9_mayHave_75 (by decide) ?_
    refine tv_goto X 80 dX9_mayHave_76 (by decide) ?_
    exact tv_zret X dX9_mayHave_80 (Or.inr rfl) h
set_option maxHeartbeats 4000000 in
set_option maxRecDepth 100000 in
theorem l_X9_option_81 {Γ : Cx} {Ω : Wd} {ad : Nat → Nat → Nat} {A : Nat → Prop} {res : St × Unit} (X : Fx Γ Ω A cX9_option 8 "MappingTextsModel" rm_X9_option none) {k93 : St → Int32 → Int32 → Int32 → Int32 → Option (St × Unit)} (hk93 : ∀ (σ : St) (v1 : Int32) (v2 : Int32) (v3 : Int32) (v4 : Int32), k93 σ v1 v2 v3 v4 = some res → V Γ (0, 0) (Qe Γ (0, 0) A (Qcv (PicM Ω ad A) A res)) A 8 (PicM Ω ad A σ) 93 [(0, .ref (ad 0 0)), (1, .int v1), (2, .int v2), (3, .int v3), (4, .int v4)] []) (σ : St) (v1 : Int32) (v2 : Int32) (v3 : Int32) (v4 : Int32) (h : f_X9_option_81 k93 σ v1 v2 v3 v4 = some res) : V Γ (0, 0) (Qe Γ (0, 0) A (Qcv (PicM Ω ad A) A res)) A 8 (PicM Ω ad A σ) 81 [(0, .ref (ad 0 0)), (1, .int v1), (2, .int v2), (3, .int v3), (4, .int v4)] [] := by
  unfold f_X9_option_81 at h
  refine tv_aload_n X dX9_option_81 rfl 0 rfl ?_
  refine tv_iconst X 5 dX9_option_82 (by decide) ?_
  refine tv_aload_n X dX9_option_83 rfl 0 rfl ?_
  refine gM8_32 X (by omega) gw_5_36 dX9_option_84 ?_
  refine tv_iload X dX9_option_87 4 rfl ?_
  refine iaM (n := 2001) X (by omega) rfl dX9_option_89 h (fun j11 hj11 h => ?_)
  obtain ⟨s12, _u90, hs12, h⟩ := cl_some h
  refine tv_callVv (st := []) X (c_X9_note Γ.2.1 Ω ad A σ 5 (ga σ 1 15 j11) hs12) ⟨gw_6_5, gw_6_2, gw_1_10, q_X9_note, rfl, rfl, ⟨Nat.le_of_ble_eq_true rfl, Nat.le_of_ble_eq_true rfl⟩⟩ gw_6_4 gw_p_57 (fun H _ hz _ => PP.recv (f := 0) (i := 0) X.2.1 hz.1 (show 0 < 1 by omega) rfl rfl) rfl rfl (Nat.le_of_ble_eq_true rfl) dX9_option_90 ?_
  exact hk93 s12 v1 v2 v3 v4 h
set_option maxHeartbeats 4000000 in
set_option maxRecDepth 100000 in
theorem l_X9_option_93 {Γ : Cx} {Ω : Wd} {ad : Nat → Nat → Nat} {A : Nat → Prop} {res : St × Unit} (X : Fx Γ Ω A cX9_option 8 "MappingTextsModel" rm_X9_option none) (σ : St) (v1 : Int32) (v2 : Int32) (v3 : Int32) (v4 : Int32) (h : f_X9_option_93 σ v1 v2 v3 v4 = some res) : V Γ (0, 0) (Qe Γ (0, 0) A (Qcv (PicM Ω ad A) A res)) A 8 (PicM Ω ad A σ) 93 [(0, .ref (ad 0 0)), (1, .int v1), (2, .int v2), (3, .int v3), (4, .int v4)] [] := by
  unfold f_X9_option_93 at h
  refine tv_aload_n X dX9_option_93 rfl 0 rfl ?_
  refine gM8_17 X (by omega) gw_5_21 dX9_option_94 ?_
  refine tv_iload_n X dX9_option_97 rfl 1 rfl ?_
  refine tv_aload_n X dX9_option_98 rfl 0 rfl ?_
  refine gM8_17 X (by omega) gw_5_21 dX9_option_99 ?_
  refine tv_iload_n X dX9_option_102 rfl 1 rfl ?_
  refine iaM (n := 320) X (by omega) rfl dX9_option_103 h (fun j13 hj13 h => ?_)
  refine tv_iconst X 1 dX9_option_104 (by decide) ?_
  refine tv_iload_n X dX9_option_105 rfl 3 rfl ?_
  refine tv_ishl X dX9_option_106 ?_
  refine tv_ior X dX9_option_107 ?_
  refine isM (n := 320) X (by omega) rfl dX9_option_108 h (fun j14 hj14 h => ?_)
  refine tv_ns h (fun s15 h => ?_)
  refine tv_aload_n X dX9_option_109 rfl 0 rfl ?_
  refine tv_dup X dX9_option_110 rfl ?_
  refine gM8_34 X (by omega) gw_5_38 dX9_option_111 ?_
  refine tv_iconst X 1 dX9_option_114 (by decide) ?_
  refine tv_iadd X dX9_option_115 ?_
  refine pM8_34 X (by omega) gw_5_38 dX9_option_116 ?_
  refine tv_ns h (fun s16 h => ?_)
  refine tv_iload_n X dX9_option_119 rfl 3 rfl ?_
  refine tv_iconst X 3 dX9_option_120 (by decide) ?_
  refine tv_icmp_ge X 125 dX9_option_121 (by decide) h (fun h => ?_) (fun h => ?_)
  · refine tv_aload_n X dX9_option_125 rfl 0 rfl ?_
    refine tv_bipush X 61 dX9_option_126 (by decide) ?_
    obtain ⟨s17, _u128, hs17, h⟩ := cl_some h
    refine tv_callVv (st := []) X (c_X9_want Γ.2.1 Ω ad A s16 61 hs17) ⟨gw_5_220, gw_5_217, gw_1_10, q_X9_want, rfl, rfl, ⟨Nat.le_of_ble_eq_true rfl, Nat.le_of_ble_eq_true rfl⟩⟩ gw_5_219 gw_p_52 (fun H _ hz _ => PP.recv (f := 0) (i := 0) X.2.1 hz.1 (show 0 < 1 by omega) rfl rfl) rfl rfl (Nat.le_of_ble_eq_true rfl) dX9_option_128 ?_
    refine tv_aload_n X dX9_option_131 rfl 0 rfl ?_
    refine gM8_34 X (by omega) gw_5_38 dX9_option_132 ?_
    refine tv_istore X dX9_option_135 (by decide) [(6, .int (gi s17 834 0)), (0, .ref (ad 0 0)), (1, .int v1), (2, .int v2), (3, .int v3), (4, .int v4)] rfl ?_
    refine tv_iload_n X dX9_option_137 rfl 4 rfl ?_
    refine tv_iconst X 3 dX9_option_138 (by decide) ?_
    refine tv_icmp_ne X 201 dX9_option_139 (by decide) h (fun h => ?_) (fun h => ?_)
    · refine tv_iload_n X dX9_option_201 rfl 4 rfl ?_
      refine tv_iconst X 5 dX9_option_202 (by decide) ?_
      refine tv_icmp_ne X 248 dX9_option_203 (by decide) h (fun h => ?_) (fun h => ?_)
      · refine tv_aload_n X dX9_option_248 rfl 1 rfl ?_
        obtain ⟨s18, x19, hs18, h⟩ := cl_some h
        refine tv_callVi (st := []) X (c_X9_wantPath Γ.2.1 Ω ad A s17 hs18) ⟨gw_6_33, gw_6_30, gw_1_10, q_X9_wantPath, rfl, rfl, ⟨Nat.le_of_ble_eq_true rfl, Nat.le_of_ble_eq_true rfl⟩⟩ gw_6_32 gw_p_64 (fun H _ hz _ => PP.recv (f := 0) (i := 0) X.2.1 hz.1 (show 0 < 1 by omega) rfl rfl) rfl rfl (Nat.le_of_ble_eq_true rfl) dX9_option_249 ?_
        refine tv_istore X dX9_option_252 (by decide) [(7, .int x19), (6, .int (gi s17 834 0)), (0, .ref (ad 0 0)), (1, .int v1), (2, .int v2), (3, .int v3), (4, .int v4)] rfl ?_
        refine tv_aload_n X dX9_option_254 rfl 2 rfl ?_
        refine gM8_35 X (by omega) gw_5_39 dX9_option_255 ?_
        refine tv_if_ne X 324 dX9_option_258 (by decide) h (fun h => ?_) (fun h => ?_)
        · exact tv_vret X dX9_option_324 h
        · refine tv_aload_n X dX9_option_261 rfl 2 rfl ?_
          refine gM8_39 X (by omega) gw_5_43 dX9_option_262 ?_
          refine tv_aload_n X dX9_option_265 rfl 2 rfl ?_
          refine gM8_38 X (by omega) gw_5_42 dX9_option_266 ?_
          refine tv_iload_n X dX9_option_269 rfl 4 rfl ?_
          refine isM (n := 700) X (by omega) rfl dX9_option_270 h (fun j20 hj20 h => ?_)
          refine tv_ns h (fun s21 h => ?_)
          refine tv_aload_n X dX9_option_271 rfl 2 rfl ?_
          refine gM8_40 X (by omega) gw_5_44 dX9_option_272 ?_
          refine tv_aload_n X dX9_option_275 rfl 2 rfl ?_
          refine gM8_38 X (by omega) gw_5_42 dX9_option_276 ?_
          refine tv_iload_n X dX9_option_279 rfl 5 rfl ?_
          refine isM (n := 700) X (by omega) rfl dX9_option_280 h (fun j22 hj22 h => ?_)
          refine tv_ns h (fun s23 h => ?_)
          refine tv_aload_n X dX9_option_281 rfl 2 rfl ?_
          refine gM8_41 X (by omega) gw_5_45 dX9_option_282 ?_
          refine tv_aload_n X dX9_option_285 rfl 2 rfl ?_
          refine gM8_38 X (by omega) gw_5_42 dX9_option_286 ?_
          refine tv_iload X dX9_option_289 1 rfl ?_
          refine isM (n := 700) X (by omega) rfl dX9_option_291 h (fun j24 hj24 h => ?_)
          refine tv_ns h (fun s25 h => ?_)
          refine tv_aload_n X dX9_option_292 rfl 2 rfl ?_
          refine gM8_42 X (by omega) gw_5_46 dX9_option_293 ?_
          refine tv_aload_n X dX9_option_296 rfl 2 rfl ?_
          refine gM8_38 X (by omega) gw_5_42 dX9_option_297 ?_
          refine tv_iload X dX9_option_300 0 rfl ?_
          refine isM (n := 700) X (by omega) rfl dX9_option_302 h (fun j26 hj26 h => ?_)
          refine tv_ns h (fun s27 h => ?_)
          refine tv_aload_n X dX9_option_303 rfl 2 rfl ?_
          refine gM8_43 X (by omega) gw_5_47 dX9_option_304 ?_
          refine tv_aload_n X dX9_option_307 rfl 2 rfl ?_
          refine gM8_38 X (by omega) gw_5_42 dX9_option_308 ?_
          refine tv_iload X dX9_option_311 6 rfl ?_
          refine isM (n := 700) X (by omega) rfl dX9_option_313 h (fun j28 hj28 h => ?_)
          refine tv_ns h (fun s29 h => ?_)
          refine tv_aload_n X dX9_option_314 rfl 2 rfl ?_
          refine tv_dup X dX9_option_315 rfl ?_
          refine gM8_38 X (by omega) gw_5_42 dX9_option_316 ?_
          refine tv_iconst X 1 dX9_option_319 (by decide) ?_
          refine tv_iadd X dX9_option_320 ?_
          refine pM8_38 X (by omega) gw_5_42 dX9_option_321 ?_
          refine tv_ns h (fun s30 h => ?_)
          exact tv_vret X dX9_option_324 h
      · refine tv_aload_n X dX9_option_206 rfl 1 rfl ?_
        refine tv_iconst X 1 dX9_option_207 (by decide) ?_
        obtain ⟨s31, _u208, hs31, h⟩ := cl_some h
        refine tv_callVv (st := []) X (c_X9_want Γ.2.1 Ω ad A s17 1 hs31) ⟨gw_5_220, gw_5_217, gw_1_10, q_X9_want, rfl, rfl, ⟨Nat.le_of_ble_eq_true rfl, Nat.le_of_ble_eq_true rfl⟩⟩ gw_5_219 gw_p_52 (fun H _ hz _ => PP.recv (f := 0) (i := 0) X.2.1 hz.1 (show 0 < 1 by omega) rfl rfl) rfl rfl (Nat.le_of_ble_eq_true rfl) dX9_option_208 ?_
        refine tv_aload_n X dX9_option_211 rfl 1 rfl ?_
        refine gM8_35 X (by omega) gw_5_39 dX9_option_212 ?_
        refine tv_if_ne X 324 dX9_option_215 (by decide) h (fun h => ?_) (fun h => ?_)
        · exact tv_vret X dX9_option_324 h
        · refine tv_aload_n X dX9_option_218 rfl 1 rfl ?_
          refine gM8_21 X (by omega) gw_5_25 dX9_option_219 ?_
          refine tv_iload_n X dX9_option_222 rfl 2 rfl ?_
          refine tv_aload_n X dX9_option_223 rfl 1 rfl ?_
          refine gM8_33 X (by omega) gw_5_37 dX9_option_224 ?_
          refine tv_iload X dX9_option_227 0 rfl ?_
          refine iaM (n := 2001) X (by omega) rfl dX9_option_229 h (fun j32 hj32 h => ?_)
          refine isM (n := 320) X (by omega) rfl dX9_option_230 h (fun j33 hj33 h => ?_)
          refine tv_ns h (fun s34 h => ?_)
          refine tv_aload_n X dX9_option_231 rfl 1 rfl ?_
          refine tv_iload X dX9_option_232 0 rfl ?_
          refine tv_aload_n X dX9_option_234 rfl 1 rfl ?_
          refine gM8_22 X (by omega) gw_5_26 dX9_option_235 ?_
          refine tv_bipush X 12 dX9_option_238 (by decide) ?_
          refine tv_iload_n X dX9_option_240 rfl 2 rfl ?_
          refine tv_imul X dX9_option_241 ?_
          obtain ⟨s35, _u242, hs35, h⟩ := cl_some h
          refine tv_callVv (st := []) X (c_X9_copyName Γ.2.1 Ω ad A s34 (gi s17 834 0) 4 (12 * v1) (by omega) hs35) ⟨gw_5_230, gw_5_227, gw_1_10, q_X9_copyName, rfl, rfl, ⟨Nat.le_of_ble_eq_true rfl, Nat.le_of_ble_eq_true rfl⟩⟩ gw_5_229 gw_p_54 (fun H _ hz _ => PP.recv (f := 0) (i := 0) X.2.1 hz.1 (show 0 < 1 by omega) rfl rfl) rfl rfl (Nat.le_of_ble_eq_true rfl) dX9_option_242 ?_
          refine tv_goto X 324 dX9_option_245 (by decide) ?_
          exact tv_vret X dX9_option_324 h
    · refine tv_aload_n X dX9_option_142 rfl 1 rfl ?_
      refine tv_iconst X 2 dX9_option_143 (by decide) ?_
      obtain ⟨s36, _u144, hs36, h⟩ := cl_some h
      refine tv_callVv (st := []) X (c_X9_want Γ.2.1 Ω ad A s17 2 hs36) ⟨gw_5_220, gw_5_217, gw_1_10, q_X9_want, rfl, rfl, ⟨Nat.le_of_ble_eq_true rfl, Nat.le_of_ble_eq_true rfl⟩⟩ gw_5_219 gw_p_52 (fun H _ hz _ => PP.recv (f := 0) (i := 0) X.2.1 hz.1 (show 0 < 1 by omega) rfl rfl) rfl rfl (Nat.le_of_ble_eq_true rfl) dX9_option_144 ?_
      refine tv_aload_n X dX9_option_147 rfl 1 rfl ?_
      refine gM8_35 X (by omega) gw_5_39 dX9_option_148 ?_
      refine tv_if_ne X 324 dX9_option_151 (by decide) h (fun h => ?_) (fun h => ?_)
      · exact tv_vret X dX9_option_324 h
      · refine tv_aload_n X dX9_option_154 rfl 1 rfl ?_
        refine gM8_18 X (by omega) gw_5_22 dX9_option_155 ?_
        refine tv_iload_n X dX9_option_158 rfl 2 rfl ?_
        refine tv_aload_n X dX9_option_159 rfl 1 rfl ?_
        refine tv_iload X dX9_option_160 0 rfl ?_
        obtain ⟨s37, x38, hs37, h⟩ := cl_some h
        refine tv_callVi (st := [.int v1, .ref (ad 1 6)]) X (c_X9_number Γ.2.1 Ω ad A s36 (gi s17 834 0) hs37) ⟨gw_6_29, gw_6_26, gw_1_10, q_X9_number, rfl, rfl, ⟨Nat.le_of_ble_eq_true rfl, Nat.le_of_ble_eq_true rfl⟩⟩ gw_6_28 gw_p_63 (fun H _ hz _ => PP.recv (f := 0) (i := 0) X.2.1 hz.1 (show 0 < 1 by omega) rfl rfl) rfl rfl (Nat.le_of_ble_eq_true rfl) dX9_option_162 ?_
        refine isM (n := 320) X (by omega) rfl dX9_option_165 h (fun j39 hj39 h => ?_)
        refine tv_ns h (fun s40 h => ?_)
        refine tv_aload_n X dX9_option_166 rfl 1 rfl ?_
        refine gM8_16 X (by omega) gw_5_20 dX9_option_167 ?_
        refine tv_iload_n X dX9_option_170 rfl 2 rfl ?_
        refine iaM (n := 320) X (by omega) rfl dX9_option_171 h (fun j41 hj41 h => ?_)
        refine tv_iconst X 4 dX9_option_172 (by decide) ?_
        refine tv_icmp_ne X 324 dX9_option_173 (by decide) h (fun h => ?_) (fun h => ?_)
        · exact tv_vret X dX9_option_324 h
        · refine tv_aload_n X dX9_option_176 rfl 1 rfl ?_
          refine gM8_18 X (by omega) gw_5_22 dX9_option_177 ?_
          refine tv_iload_n X dX9_option_180 rfl 2 rfl ?_
          refine iaM (n := 320) X (by omega) rfl dX9_option_181 h (fun j42 hj42 h => ?_)
          refine tv_iconst X 1 dX9_option_182 (by decide) ?_
          refine tv_icmp_le X 324 dX9_option_183 (by decide) h (fun h => ?_) (fun h => ?_)
          · exact tv_vret X dX9_option_324 h
          · refine tv_aload_n X dX9_option_186 rfl 1 rfl ?_
            refine tv_iconst X 5 dX9_option_187 (by decide) ?_
            refine tv_aload_n X dX9_option_188 rfl 1 rfl ?_
            refine gM8_32 X (by omega) gw_5_36 dX9_option_189 ?_
            refine tv_iload X dX9_option_192 0 rfl ?_
            refine iaM (n := 2001) X (by omega) rfl dX9_option_194 h (fun j43 hj43 h => ?_)
            obtain ⟨s44, _u195, hs44, h⟩ := cl_some h
            refine tv_callVv (st := []) X (c_X9_note Γ.2.1 Ω ad A s40 5 (ga s40 1 15 j43) hs44) ⟨gw_6_5, gw_6_2, gw_1_10, q_X9_note, rfl, rfl, ⟨Nat.le_of_ble_eq_true rfl, Nat.le_of_ble_eq_true rfl⟩⟩ gw_6_4 gw_p_57 (fun H _ hz _ => PP.recv (f := 0) (i := 0) X.2.1 hz.1 (show 0 < 1 by omega) rfl rfl) rfl rfl (Nat.le_of_ble_eq_true rfl) dX9_option_195 ?_
            refine tv_goto X 324 dX9_option_198 (by decide) ?_
            exact tv_vret X dX9_option_324 h
  · exact tv_vret X dX9_option_124 h
set_option maxHeartbeats 4000000 in
set_option maxRecDepth 100000 in
theorem l_X9_option_60 {Γ : Cx} {Ω : Wd} {ad : Nat → Nat → Nat} {A : Nat → Prop} {res : St × Unit} (X : Fx Γ Ω A cX9_option 8 "MappingTextsModel" rm_X9_option none) (σ : St) (t0 : Int32) (v1 : Int32) (v2 : Int32) (v3 : Int32) (v4 : Int32) (h : f_X9_option_60 σ t0 v1 v2 v3 v4 = some res) : V Γ (0, 0) (Qe Γ (0, 0) A (Qcv (PicM Ω ad A) A res)) A 8 (PicM Ω ad A σ) 60 [(0, .ref (ad 0 0)), (1, .int v1), (2, .int v2), (3, .int v3), (4, .int v4)] [.int t0] := by
  unfold f_X9_option_60 at h
  refine tv_istore X dX9_option_60 (by decide) [(5, .int t0), (0, .ref (ad 0 0)), (1, .int v1), (2, .int v2), (3, .int v3), (4, .int v4)] rfl ?_
  refine tv_iload X dX9_option_62 0 rfl ?_
  refine tv_if_ne X 81 dX9_option_64 (by decide) h (fun h => ?_) (fun h => ?_)
  · refine V.pick [1, 2, 3, 4, 5] rfl ?_
    exact l_X9_option_81 X (l_X9_option_93 X) σ v1 v2 v3 v4 h
  · refine tv_aload_n X dX9_option_67 rfl 1 rfl ?_
    refine tv_aload_n X dX9_option_68 rfl 1 rfl ?_
    refine gM8_16 X (by omega) gw_5_20 dX9_option_69 ?_
    refine tv_iload_n X dX9_option_72 rfl 2 rfl ?_
    refine iaM (n := 320) X (by omega) rfl dX9_option_73 h (fun j8 hj8 h => ?_)
    refine tv_iload_n X dX9_option_74 rfl 4 rfl ?_
    obtain ⟨s9, x10, hs9, h⟩ := cl_some h
    refine tv_callVi (st := []) X (c_X9_mayHave Γ.2.1 Ω ad A σ (ga σ 1 4 j8) v3 hs9) ⟨gw_6_25, gw_6_22, gw_1_10, q_X9_mayHave, rfl, rfl, ⟨Nat.le_of_ble_eq_true rfl, Nat.le_of_ble_eq_true rfl⟩⟩ gw_6_24 gw_p_62 (fun H _ hz _ => PP.recv (f := 0) (i := 0) X.2.1 hz.1 (show 0 < 1 by omega) rfl rfl) rfl rfl (Nat.le_of_ble_eq_true rfl) dX9_option_75 ?_
    refine tv_if_ne X 93 dX9_option_78 (by decide) h (fun h => ?_) (fun h => ?_)
    · refine V.pick [1, 2, 3, 4, 5] rfl ?_
      exact l_X9_option_93 X s9 v1 v2 v3 v4 h
    · refine V.pick [1, 2, 3, 4, 5] rfl ?_
      exact l_X9_option_81 X (l_X9_option_93 X) s9 v1 v2 v3 v4 h
set_option maxHeartbeats 4000000 in
set_option maxRecDepth 100000 in
theorem c_X9_option (l : Launch) (Ω : Wd) (ad : Nat → Nat → Nat) (A : Nat → Prop) (σ : St) (a1 : Int32) (a2 : Int32) {res : St × Unit} (h : f_X9_option σ a1 a2 = some res) : Met l yX9_option (wsO yX9_option cX9_option 8 none) rm_X9_option (PcZ Ω A (PicM Ω ad A σ) [.ref (ad 0 0), .int a1, .int a2]) (Qcv (PicM Ω ad A) A res) 0 0 A := by
  refine Met.ofV (by decide) rfl (fun Γ hΓ X => ?_)
  have X : Fx Γ Ω A cX9_option 8 "MappingTextsModel" rm_X9_option none := X
  unfold f_X9_option at h
  show V Γ (0, 0) _ A 8 _ 0 [(0, .ref (ad 0 0)), (1, .int a1), (2, .int a2)] []
  refine tv_aload_n X dX9_option_0 rfl 0 rfl ?_
  refine gM8_1 X (by omega) gw_5_5 dX9_option_1 ?_
  refine tv_aload_n X dX9_option_4 rfl 0 rfl ?_
  refine tv_aload_n X dX9_option_5 rfl 0 rfl ?_
  refine gM8_34 X (by omega) gw_5_38 dX9_option_6 ?_
  obtain ⟨s1, x2, hs1, h⟩ := cl_some h
  refine tv_callVl (st := [.ref (ad 3 1)]) X (c_X9_word Γ.2.1 Ω ad A σ (gi σ 834 0) hs1) ⟨gw_5_216, gw_5_213, gw_1_10, q_X9_word, rfl, rfl, ⟨Nat.le_of_ble_eq_true rfl, Nat.le_of_ble_eq_true rfl⟩⟩ gw_5_215 gw_p_51 (fun H _ hz _ => PP.recv (f := 0) (i := 0) X.2.1 hz.1 (show 0 < 1 by omega) rfl rfl) rfl rfl (Nat.le_of_ble_eq_true rfl) dX9_option_9 ?_
  obtain ⟨s3, x4, hs3, h⟩ := cl_some h
  refine tv_callSi (st := []) X (c_X9_among Γ.2.1 Ω ad A s1 1 x2 (by omega) hs3) ⟨gw_5_237, gw_5_235, gw_1_10, q_X9_among, rfl, rfl, ⟨Nat.le_of_ble_eq_true rfl, Nat.le_of_ble_eq_true rfl⟩⟩ gw_5_236 rfl rfl (Nat.le_of_ble_eq_true rfl) dX9_option_12 ?_
  refine tv_istore_n X dX9_option_15 rfl (by decide) [(3, .int x4), (0, .ref (ad 0 0)), (1, .int a1), (2, .int a2)] rfl ?_
  refine tv_iload_n X dX9_option_16 rfl 0 rfl ?_
  refine tv_if_ge X 35 dX9_option_17 (by decide) h (fun h => ?_) (fun h => ?_)
  · refine tv_aload_n X dX9_option_35 rfl 1 rfl ?_
    refine gM8_34 X (by omega) gw_5_38 dX9_option_36 ?_
    refine tv_istore X dX9_option_39 (by decide) [(4, .int (gi s3 834 0)), (3, .int x4), (0, .ref (ad 0 0)), (1, .int a1), (2, .int a2)] rfl ?_
    refine tv_aload_n X dX9_option_41 rfl 2 rfl ?_
    refine gM8_17 X (by omega) gw_5_21 dX9_option_42 ?_
    refine tv_iload_n X dX9_option_45 rfl 3 rfl ?_
    refine iaM (n := 320) X (by omega) rfl dX9_option_46 h (fun j5 hj5 h => ?_)
    refine tv_iload_n X dX9_option_47 rfl 1 rfl ?_
    refine tv_ishr X dX9_option_48 ?_
    refine tv_iconst X 1 dX9_option_49 (by decide) ?_
    refine tv_iand X dX9_option_50 ?_
    refine tv_iconst X 1 dX9_option_51 (by decide) ?_
    refine tv_icmp_ne X 59 dX9_option_52 (by decide) h (fun h => ?_) (fun h => ?_)
    · refine tv_iconst X 0 dX9_option_59 (by decide) ?_
      refine V.pick [2, 3, 4, 1, 0] rfl ?_
      exact l_X9_option_60 X s3 0 a1 a2 x4 (gi s3 834 0) h
    · refine tv_iconst X 1 dX9_option_55 (by decide) ?_
      refine tv_goto X 60 dX9_option_56 (by decide) ?_
      refine V.pick [2, 3, 4, 1, 0] rfl ?_
      exact l_X9_option_60 X s3 1 a1 a2 x4 (gi s3 834 0) h
  · refine tv_aload_n X dX9_option_20 rfl 1 rfl ?_
    refine tv_iconst X 2 dX9_option_21 (by decide) ?_
    refine tv_aload_n X dX9_option_22 rfl 1 rfl ?_
    refine gM8_32 X (by omega) gw_5_36 dX9_option_23 ?_
    refine tv_aload_n X dX9_option_26 rfl 1 rfl ?_
    refine gM8_34 X (by omega) gw_5_38 dX9_option_27 ?_
    refine iaM (n := 2001) X (by omega) rfl dX9_option_30 h (fun j6 hj6 h => ?_)
    obtain ⟨s7, _u31, hs7, h⟩ := cl_some h
    refine tv_callVv (st := []) X (c_X9_fails Γ.2.1 Ω ad A s3 2 (ga s3 1 15 j6) hs7) ⟨gw_5_208, gw_5_205, gw_1_10, q_X9_fails, rfl, rfl, ⟨Nat.le_of_ble_eq_true rfl, Nat.le_of_ble_eq_true rfl⟩⟩ gw_5_207 gw_p_49 (fun H _ hz _ => PP.recv (f := 0) (i := 0) X.2.1 hz.1 (show 0 < 1 by omega) rfl rfl) rfl rfl (Nat.le_of_ble_eq_true rfl) dX9_option_31 ?_
    exact tv_vret X dX9_option_34 h
set_option maxHeartbeats 4000000 in
set_option maxRecDepth 100000 in
theorem c_X9_begin (l : Launch) (Ω : Wd) (ad : Nat → Nat → Nat) (A : Nat → Prop) (σ : St) (a1 : Int32) {res : St × Unit} (h : f_X9_begin σ a1 = some res) : Met l yX9_begin (wsO yX9_begin cX9_begin 2 none) rm_X9_begin (PcZ Ω A (PicM Ω ad A σ) [.ref (ad 0 0), .int a1]) (Qcv (PicM Ω ad A) A res) 0 0 A := by
  refine Met.ofV (by decide) rfl (fun Γ hΓ X => ?_)
  have X : Fx Γ Ω A cX9_begin 2 "MappingTextsModel" rm_X9_begin none := X
  unfold f_X9_begin at h
  show V Γ (0, 0) _ A 2 _ 0 [(0, .ref (ad 0 0)), (1, .int a1)] []
  refine tv_aload_n X dX9_begin_0 rfl 0 rfl ?_
  refine gM8_17 X (by omega) gw_5_21 dX9_begin_1 ?_
  refine tv_iload_n X dX9_begin_4 rfl 1 rfl ?_
  refine tv_iconst X 0 dX9_begin_5 (by decide) ?_
  refine isM (n := 320) X (by omega) rfl dX9_begin_6 h (fun j1 hj1 h => ?_)
  refine tv_ns h (fun s2 h => ?_)
  refine tv_aload_n X dX9_begin_7 rfl 0 rfl ?_
  refine gM8_18 X (by omega) gw_5_22 dX9_begin_8 ?_
  refine tv_iload_n X dX9_begin_11 rfl 1 rfl ?_
  refine tv_bipush X (-2) dX9_begin_12 (by decide) ?_
  refine isM (n := 320) X (by omega) rfl dX9_begin_14 h (fun j3 hj3 h => ?_)
  refine tv_ns h (fun s4 h => ?_)
  refine tv_aload_n X dX9_begin_15 rfl 0 rfl ?_
  refine gM8_19 X (by omega) gw_5_23 dX9_begin_16 ?_
  refine tv_iload_n X dX9_begin_19 rfl 1 rfl ?_
  refine tv_bipush X (-2) dX9_begin_20 (by decide) ?_
  refine isM (n := 320) X (by omega) rfl dX9_begin_22 h (fun j5 hj5 h => ?_)
  refine tv_ns h (fun s6 h => ?_)
  refine tv_aload_n X dX9_begin_23 rfl 0 rfl ?_
  refine gM8_20 X (by omega) gw_5_24 dX9_begin_24 ?_
  refine tv_iload_n X dX9_begin_27 rfl 1 rfl ?_
  refine tv_bipush X (-2) dX9_begin_28 (by decide) ?_
  refine isM (n := 320) X (by omega) rfl dX9_begin_30 h (fun j7 hj7 h => ?_)
  refine tv_ns h (fun s8 h => ?_)
  refine tv_aload_n X dX9_begin_31 rfl 0 rfl ?_
  refine gM8_21 X (by omega) gw_5_25 dX9_begin_32 ?_
  refine tv_iload_n X dX9_begin_35 rfl 1 rfl ?_
  refine tv_iconst X 0 dX9_begin_36 (by decide) ?_
  refine isM (n := 320) X (by omega) rfl dX9_begin_37 h (fun j9 hj9 h => ?_)
  refine tv_ns h (fun s10 h => ?_)
  refine tv_aload_n X dX9_begin_38 rfl 0 rfl ?_
  refine gM8_14 X (by omega) gw_5_18 dX9_begin_39 ?_
  refine tv_iload_n X dX9_begin_42 rfl 1 rfl ?_
  refine tv_iconst X 0 dX9_begin_43 (by decide) ?_
  refine isM (n := 320) X (by omega) rfl dX9_begin_44 h (fun j11 hj11 h => ?_)
  refine tv_ns h (fun s12 h => ?_)
  exact tv_vret X dX9_begin_45 h
set_option maxHeartbeats 4000000 in
set_option maxRecDepth 100000 in
theorem l_X9_isSameName_71 {Γ : Cx} {Ω : Wd} {ad : Nat → Nat → Nat} {A : Nat → Prop} {res : St × Int32} (X : Fx Γ Ω A cX9_isSameName 5 "MappingTextsModel" rm_X9_isSameName (some .boolean)) {k24 : St → Int32 → Int32 → Int32 → Int32 → Option (St × Int32)} (hk24 : ∀ (σ : St) (v1 : Int32) (v2 : Int32) (v3 : Int32) (v4 : Int32), k24 σ v1 v2 v3 v4 = some res → V Γ (0, 0) (Qe Γ (0, 0) A (Qci (PicM Ω ad A) A res)) A 5 (PicM Ω ad A σ) 24 [(0, .ref (ad 0 0)), (1, .int v1), (2, .int v2), (3, .int v3), (4, .int v4)] []) (σ : St) (t0 : Int32) (v1 : Int32) (v2 : Int32) (v4 : Int32) (h : f_X9_isSameName_71 k24 σ t0 v1 v2 v4 = some res) : V Γ (0, 0) (Qe Γ (0, 0) A (Qci (PicM Ω ad A) A res)) A 5 (PicM Ω ad A σ) 71 [(0, .ref (ad 0 0)), (1, .int v1), (2, .int v2), (4, .int v4)] [.int t0] := by
  unfold f_X9_isSameName_71 at h
  refine tv_istore_n X dX9_isSameName_71 rfl (by decide) [(3, .int t0), (0, .ref (ad 0 0)), (1, .int v1), (2, .int v2), (4, .int v4)] rfl ?_
  refine tv_iinc X (v4 + 1) dX9_isSameName_72 4 rfl rfl (by decide) [(4, .int (v4 + 1)), (3, .int t0), (0, .ref (ad 0 0)), (1, .int v1), (2, .int v2)] rfl ?_
  refine tv_goto X 24 dX9_isSameName_75 (by decide) ?_
  refine V.pick [2, 3, 4, 1, 0] rfl ?_
  exact hk24 σ v1 v2 t0 (v4 + 1) h
set_option maxHeartbeats 4000000 in
set_option maxRecDepth 100000 in
theorem l_X9_isSameName_24 {Γ : Cx} {Ω : Wd} {ad : Nat → Nat → Nat} {A : Nat → Prop} {res : St × Int32} (X : Fx Γ Ω A cX9_isSameName 5 "MappingTextsModel" rm_X9_isSameName (some .boolean)) : ∀ (n : Nat) (σ : St) (v1 : Int32) (v2 : Int32) (v3 : Int32) (v4 : Int32), f_X9_isSameName_24 n σ v1 v2 v3 v4 = some res → V Γ (0, 0) (Qe Γ (0, 0) A (Qci (PicM Ω ad A) A res)) A 5 (PicM Ω ad A σ) 24 [(0, .ref (ad 0 0)), (1, .int v1), (2, .int v2), (3, .int v3), (4, .int v4)] [] := by
  intro n
  induction n with
  | zero =>
    intro σ v1 v2 v3 v4 h
    cases (show none = some res from h)
  | succ n ih =>
    intro σ v1 v2 v3 v4 h
    rw [f_X9_isSameName_24] at h
    refine tv_iload X dX9_isSameName_24 4 rfl ?_
    refine tv_aload_n X dX9_isSameName_26 rfl 0 rfl ?_
    refine gM8_14 X (by omega) gw_5_18 dX9_isSameName_27 ?_
    refine tv_iload_n X dX9_isSameName_30 rfl 1 rfl ?_
    refine iaM (n := 320) X (by omega) rfl dX9_isSameName_31 h (fun j3 hj3 h => ?_)
    refine tv_icmp_ge X 78 dX9_isSameName_32 (by decide) h (fun h => ?_) (fun h => ?_)
    · refine tv_iload_n X dX9_isSameName_78 rfl 3 rfl ?_
      obtain ⟨hq, h⟩ := cq_some h
      exact tv_zret X dX9_isSameName_79 (of_decide_eq_true hq) h
    · refine tv_iload_n X dX9_isSameName_35 rfl 3 rfl ?_
      refine tv_if_eq X 78 dX9_isSameName_36 (by decide) h (fun h => ?_) (fun h => ?_)
      · refine tv_iload_n X dX9_isSameName_78 rfl 3 rfl ?_
        obtain ⟨hq, h⟩ := cq_some h
        exact tv_zret X dX9_isSameName_79 (of_decide_eq_true hq) h
      · refine tv_aload_n X dX9_isSameName_39 rfl 0 rfl ?_
        refine gM8_15 X (by omega) gw_5_19 dX9_isSameName_40 ?_
        refine tv_bipush X 12 dX9_isSameName_43 (by decide) ?_
        refine tv_iload_n X dX9_isSameName_45 rfl 1 rfl ?_
        refine tv_imul X dX9_isSameName_46 ?_
        refine tv_iload X dX9_isSameName_47 4 rfl ?_
        refine tv_iadd X dX9_isSameName_49 ?_
        refine baM (n := 3840) X (by omega) rfl dX9_isSameName_50 h (fun j4 hj4 h => ?_)
        refine tv_aload_n X dX9_isSameName_51 rfl 0 rfl ?_
        refine gM8_15 X (by omega) gw_5_19 dX9_isSameName_52 ?_
        refine tv_bipush X 12 dX9_isSameName_55 (by decide) ?_
        refine tv_iload_n X dX9_isSameName_57 rfl 2 rfl ?_
        refine tv_imul X dX9_isSameName_58 ?_
        refine tv_iload X dX9_isSameName_59 4 rfl ?_
        refine tv_iadd X dX9_isSameName_61 ?_
        refine baM (n := 3840) X (by omega) rfl dX9_isSameName_62 h (fun j5 hj5 h => ?_)
        refine tv_icmp_ne X 70 dX9_isSameName_63 (by decide) h (fun h => ?_) (fun h => ?_)
        · refine tv_iconst X 0 dX9_isSameName_70 (by decide) ?_
          refine V.pick [0, 1, 2, 4] rfl ?_
          exact l_X9_isSameName_71 X ih σ 0 v1 v2 v4 h
        · refine tv_iconst X 1 dX9_isSameName_66 (by decide) ?_
          refine tv_goto X 71 dX9_isSameName_67 (by decide) ?_
          refine V.pick [0, 1, 2, 4] rfl ?_
          exact l_X9_isSameName_71 X ih σ 1 v1 v2 v4 h
set_option maxHeartbeats 4000000 in
set_option maxRecDepth 100000 in
theorem l_X9_isSameName_20 {Γ : Cx} {Ω : Wd} {ad : Nat → Nat → Nat} {A : Nat → Prop} {res : St × Int32} (X : Fx Γ Ω A cX9_isSameName 5 "MappingTextsModel" rm_X9_isSameName (some .boolean)) (σ : St) (t0 : Int32) (v1 : Int32) (v2 : Int32) (h : f_X9_isSameName_20 σ t0 v1 v2 = some res) : V Γ (0, 0) (Qe Γ (0, 0) A (Qci (PicM Ω ad A) A res)) A 5 (PicM Ω ad A σ) 20 [(0, .ref (ad 0 0)), (1, .int v1), (2, .int v2)] [.int t0] := by
  unfold f_X9_isSameName_20 at h
  refine tv_istore_n X dX9_isSameName_20 rfl (by decide) [(3, .int t0), (0, .ref (ad 0 0)), (1, .int v1), (2, .int v2)] rfl ?_
  refine tv_iconst X 0 dX9_isSameName_21 (by decide) ?_
  refine tv_istore X dX9_isSameName_22 (by decide) [(4, .int 0), (3, .int t0), (0, .ref (ad 0 0)), (1, .int v1), (2, .int v2)] rfl ?_
  refine V.pick [2, 3, 4, 1, 0] rfl ?_
  exact l_X9_isSameName_24 X fl σ v1 v2 t0 0 h
set_option maxHeartbeats 4000000 in
set_option maxRecDepth 100000 in
theorem c_X9_isSameName (l : Launch) (Ω : Wd) (ad : Nat → Nat → Nat) (A : Nat → Prop) (σ : St) (a1 : Int32) (a2 : Int32) {res : St × Int32} (h : f_X9_isSameName σ a1 a2 = some res) : Met l yX9_isSameName (wsO yX9_isSameName cX9_isSameName 5 (some .boolean)) rm_X9_isSameName (PcZ Ω A (PicM Ω ad A σ) [.ref (ad 0 0), .int a1, .int a2]) (Qci (PicM Ω ad A) A res) 0 0 A := by
  refine Met.ofV (by decide) rfl (fun Γ hΓ X => ?_)
  have X : Fx Γ Ω A cX9_isSameName 5 "MappingTextsModel" rm_X9_isSameName (some .boolean) := X
  unfold f_X9_isSameName at h
  show V Γ (0, 0) _ A 5 _ 0 [(0, .ref (ad 0 0)), (1, .int a1), (2, .int a2)] []
  refine tv_aload_n X dX9_isSameName_0 rfl 0 rfl ?_
  refine gM8_14 X (by omega) gw_5_18 dX9_isSameName_1 ?_
  refine tv_iload_n X dX9_isSameName_4 rfl 1 rfl ?_
  refine iaM (n := 320) X (by omega) rfl dX9_isSameName_5 h (fun j1 hj1 h => ?_)
  refine tv_aload_n X dX9_isSameName_6 rfl 0 rfl ?_
  refine gM8_14 X (by omega) gw_5_18 dX9_isSameName_7 ?_
  refine tv_iload_n X dX9_isSameName_10 rfl 2 rfl ?_
  refine iaM (n := 320) X (by omega) rfl dX9_isSameName_11 h (fun j2 hj2 h => ?_)
  refine tv_icmp_ne X 19 dX9_isSameName_12 (by decide) h (fun h => ?_) (fun h => ?_)
  · refine tv_iconst X 0 dX9_isSameName_19 (by decide) ?_
    exact l_X9_isSameName_20 X σ 0 a1 a2 h
  · refine tv_iconst X 1 dX9_isSameName_15 (by decide) ?_
    refine tv_goto X 20 dX9_isSameName_16 (by decide) ?_
    exact l_X9_isSameName_20 X σ 1 a1 a2 h
set_option maxHeartbeats 4000000 in
set_option maxRecDepth 100000 in
theorem l_X9_field_174 {Γ : Cx} {Ω : Wd} {ad : Nat → Nat → Nat} {A : Nat → Prop} {res : St × Unit} (X : Fx Γ Ω A cX9_field 5 "MappingTextsModel" rm_X9_field none) {k118 : St → Int32 → Int32 → Int32 → Int32 → Option (St × Unit)} (hk118 : ∀ (σ : St) (v1 : Int32) (v2 : Int32) (v3 : Int32) (v4 : Int32), k118 σ v1 v2 v3 v4 = some res → V Γ (0, 0) (Qe Γ (0, 0) A (Qcv (PicM Ω ad A) A res)) A 5 (PicM Ω ad A σ) 118 [(0, .ref (ad 0 0)), (1, .int v1), (2, .int v2), (3, .int v3), (4, .int v4)] []) (σ : St) (v1 : Int32) (v2 : Int32) (v3 : Int32) (v4 : Int32) (h : f_X9_field_174 k118 σ v1 v2 v3 v4 = some res) : V Γ (0, 0) (Qe Γ (0, 0) A (Qcv (PicM Ω ad A) A res)) A 5 (PicM Ω ad A σ) 174 [(0, .ref (ad 0 0)), (1, .int v1), (2, .int v2), (3, .int v3), (4, .int v4)] [] := by
  unfold f_X9_field_174 at h
  refine tv_iinc X (v4 + 1) dX9_field_174 4 rfl rfl (by decide) [(4, .int (v4 + 1)), (0, .ref (ad 0 0)), (1, .int v1), (2, .int v2), (3, .int v3)] rfl ?_
  refine tv_goto X 118 dX9_field_177 (by decide) ?_
  refine V.pick [1, 2, 3, 4, 0] rfl ?_
  exact hk118 σ v1 v2 v3 (v4 + 1) h
set_option maxHeartbeats 4000000 in
set_option maxRecDepth 100000 in
theorem l_X9_field_293 {Γ : Cx} {Ω : Wd} {ad : Nat → Nat → Nat} {A : Nat → Prop} {res : St × Unit} (X : Fx Γ Ω A cX9_field 5 "MappingTextsModel" rm_X9_field none) {k299 : St → Int32 → Int32 → Option (St × Unit)} (hk299 : ∀ (σ : St) (v2 : Int32) (v3 : Int32), k299 σ v2 v3 = some res → V Γ (0, 0) (Qe Γ (0, 0) A (Qcv (PicM Ω ad A) A res)) A 5 (PicM Ω ad A σ) 299 [(0, .ref (ad 0 0)), (2, .int v2), (3, .int v3)] []) (σ : St) (v2 : Int32) (v3 : Int32) (h : f_X9_field_293 k299 σ v2 v3 = some res) : V Γ (0, 0) (Qe Γ (0, 0) A (Qcv (PicM Ω ad A) A res)) A 5 (PicM Ω ad A σ) 293 [(0, .ref (ad 0 0)), (2, .int v2), (3, .int v3)] [] := by
  unfold f_X9_field_293 at h
  refine tv_aload_n X dX9_field_293 rfl 0 rfl ?_
  refine tv_bipush X 41 dX9_field_294 (by decide) ?_
  obtain ⟨s43, _u296, hs43, h⟩ := cl_some h
  refine tv_callVv (st := []) X (c_X9_want Γ.2.1 Ω ad A σ 41 hs43) ⟨gw_5_220, gw_5_217, gw_1_10, q_X9_want, rfl, rfl, ⟨Nat.le_of_ble_eq_true rfl, Nat.le_of_ble_eq_true rfl⟩⟩ gw_5_219 gw_p_52 (fun H _ hz _ => PP.recv (f := 0) (i := 0) X.2.1 hz.1 (show 0 < 1 by omega) rfl rfl) rfl rfl (Nat.le_of_ble_eq_true rfl) dX9_field_296 ?_
  exact hk299 s43 v2 v3 h
set_option maxHeartbeats 4000000 in
set_option maxRecDepth 100000 in
theorem l_X9_field_253 {Γ : Cx} {Ω : Wd} {ad : Nat → Nat → Nat} {A : Nat → Prop} {res : St × Unit} (X : Fx Γ Ω A cX9_field 5 "MappingTextsModel" rm_X9_field none) {k299 : St → Int32 → Int32 → Option (St × Unit)} (hk299 : ∀ (σ : St) (v2 : Int32) (v3 : Int32), k299 σ v2 v3 = some res → V Γ (0, 0) (Qe Γ (0, 0) A (Qcv (PicM Ω ad A) A res)) A 5 (PicM Ω ad A σ) 299 [(0, .ref (ad 0 0)), (2, .int v2), (3, .int v3)] []) : ∀ (n : Nat) (σ : St) (v2 : Int32) (v3 : Int32), f_X9_field_253 k299 n σ v2 v3 = some res → V Γ (0, 0) (Qe Γ (0, 0) A (Qcv (PicM Ω ad A) A res)) A 5 (PicM Ω ad A σ) 253 [(0, .ref (ad 0 0)), (2, .int v2), (3, .int v3)] [] := by
  intro n
  induction n with
  | zero =>
    intro σ v2 v3 h
    cases (show none = some res from h)
  | succ n ih =>
    intro σ v2 v3 h
    rw [f_X9_field_253] at h
    refine tv_aload_n X dX9_field_253 rfl 0 rfl ?_
    refine gM8_35 X (by omega) gw_5_39 dX9_field_254 ?_
    refine tv_if_ne X 293 dX9_field_257 (by decide) h (fun h => ?_) (fun h => ?_)
    · exact l_X9_field_293 X hk299 σ v2 v3 h
    · refine tv_aload_n X dX9_field_260 rfl 0 rfl ?_
      refine gM8_31 X (by omega) gw_5_35 dX9_field_261 ?_
      refine tv_aload_n X dX9_field_264 rfl 0 rfl ?_
      refine gM8_34 X (by omega) gw_5_38 dX9_field_265 ?_
      refine iaM (n := 2001) X (by omega) rfl dX9_field_268 h (fun j33 hj33 h => ?_)
      refine tv_bipush X 44 dX9_field_269 (by decide) ?_
      refine tv_icmp_ne X 293 dX9_field_271 (by decide) h (fun h => ?_) (fun h => ?_)
      · exact l_X9_field_293 X hk299 σ v2 v3 h
      · refine tv_aload_n X dX9_field_274 rfl 0 rfl ?_
        refine tv_dup X dX9_field_275 rfl ?_
        refine gM8_34 X (by omega) gw_5_38 dX9_field_276 ?_
        refine tv_iconst X 1 dX9_field_279 (by decide) ?_
        refine tv_iadd X dX9_field_280 ?_
        refine pM8_34 X (by omega) gw_5_38 dX9_field_281 ?_
        refine tv_ns h (fun s34 h => ?_)
        refine tv_aload_n X dX9_field_284 rfl 0 rfl ?_
        refine tv_iload_n X dX9_field_285 rfl 2 rfl ?_
        refine tv_iload_n X dX9_field_286 rfl 1 rfl ?_
        obtain ⟨s35, _u287, hs35, h⟩ := cl_some h
        refine tv_callVv (st := []) X (c_X9_option Γ.2.1 Ω ad A s34 v3 v2 hs35) ⟨gw_6_21, gw_6_18, gw_1_10, q_X9_option, rfl, rfl, ⟨Nat.le_of_ble_eq_true rfl, Nat.le_of_ble_eq_true rfl⟩⟩ gw_6_20 gw_p_61 (fun H _ hz _ => PP.recv (f := 0) (i := 0) X.2.1 hz.1 (show 0 < 1 by omega) rfl rfl) rfl rfl (Nat.le_of_ble_eq_true rfl) dX9_field_287 ?_
        refine tv_goto X 253 dX9_field_290 (by decide) ?_
        exact ih s35 v2 v3 h
set_option maxHeartbeats 4000000 in
set_option maxRecDepth 100000 in
theorem l_X9_field_379 {Γ : Cx} {Ω : Wd} {ad : Nat → Nat → Nat} {A : Nat → Prop} {res : St × Unit} (X : Fx Γ Ω A cX9_field 5 "MappingTextsModel" rm_X9_field none) {k418 : St → Int32 → Int32 → Option (St × Unit)} (hk418 : ∀ (σ : St) (v2 : Int32) (v3 : Int32), k418 σ v2 v3 = some res → V Γ (0, 0) (Qe Γ (0, 0) A (Qcv (PicM Ω ad A) A res)) A 5 (PicM Ω ad A σ) 418 [(0, .ref (ad 0 0)), (2, .int v2), (3, .int v3)] []) (σ : St) (v2 : Int32) (v3 : Int32) (h : f_X9_field_379 k418 σ v2 v3 = some res) : V Γ (0, 0) (Qe Γ (0, 0) A (Qcv (PicM Ω ad A) A res)) A 5 (PicM Ω ad A σ) 379 [(0, .ref (ad 0 0)), (2, .int v2), (3, .int v3)] [] := by
  unfold f_X9_field_379 at h
  refine tv_aload_n X dX9_field_379 rfl 0 rfl ?_
  refine gM8_48 X (by omega) gw_5_52 dX9_field_380 ?_
  refine tv_aload_n X dX9_field_383 rfl 0 rfl ?_
  refine gM8_47 X (by omega) gw_5_51 dX9_field_384 ?_
  refine tv_iload_n X dX9_field_387 rfl 1 rfl ?_
  refine isM (n := 5) X (by omega) rfl dX9_field_388 h (fun j44 hj44 h => ?_)
  refine tv_ns h (fun s45 h => ?_)
  refine tv_aload_n X dX9_field_389 rfl 0 rfl ?_
  refine tv_dup X dX9_field_390 rfl ?_
  refine gM8_47 X (by omega) gw_5_51 dX9_field_391 ?_
  refine tv_iconst X 1 dX9_field_394 (by decide) ?_
  refine tv_iadd X dX9_field_395 ?_
  refine pM8_47 X (by omega) gw_5_51 dX9_field_396 ?_
  refine tv_ns h (fun s46 h => ?_)
  refine tv_aload_n X dX9_field_399 rfl 0 rfl ?_
  refine tv_dup X dX9_field_400 rfl ?_
  refine gM8_34 X (by omega) gw_5_38 dX9_field_401 ?_
  refine tv_iconst X 1 dX9_field_404 (by decide) ?_
  refine tv_iadd X dX9_field_405 ?_
  refine pM8_34 X (by omega) gw_5_38 dX9_field_406 ?_
  refine tv_ns h (fun s47 h => ?_)
  refine tv_goto X 418 dX9_field_409 (by decide) ?_
  exact hk418 s47 v2 v3 h
set_option maxHeartbeats 4000000 in
set_option maxRecDepth 100000 in
theorem l_X9_field_412 {Γ : Cx} {Ω : Wd} {ad : Nat → Nat → Nat} {A : Nat → Prop} {res : St × Unit} (X : Fx Γ Ω A cX9_field 5 "MappingTextsModel" rm_X9_field none) {k418 : St → Int32 → Int32 → Option (St × Unit)} (hk418 : ∀ (σ : St) (v2 : Int32) (v3 : Int32), k418 σ v2 v3 = some res → V Γ (0, 0) (Qe Γ (0, 0) A (Qcv (PicM Ω ad A) A res)) A 5 (PicM Ω ad A σ) 418 [(0, .ref (ad 0 0)), (2, .int v2), (3, .int v3)] []) (σ : St) (v2 : Int32) (v3 : Int32) (h : f_X9_field_412 k418 σ v2 v3 = some res) : V Γ (0, 0) (Qe Γ (0, 0) A (Qcv (PicM Ω ad A) A res)) A 5 (PicM Ω ad A σ) 412 [(0, .ref (ad 0 0)), (2, .int v2), (3, .int v3)] [] := by
  unfold f_X9_field_412 at h
  refine tv_aload_n X dX9_field_412 rfl 0 rfl ?_
  refine tv_bipush X 59 dX9_field_413 (by decide) ?_
  obtain ⟨s48, _u415, hs48, h⟩ := cl_some h
  refine tv_callVv (st := []) X (c_X9_want Γ.2.1 Ω ad A σ 59 hs48) ⟨gw_5_220, gw_5_217, gw_1_10, q_X9_want, rfl, rfl, ⟨Nat.le_of_ble_eq_true rfl, Nat.le_of_ble_eq_true rfl⟩⟩ gw_5_219 gw_p_52 (fun H _ hz _ => PP.recv (f := 0) (i := 0) X.2.1 hz.1 (show 0 < 1 by omega) rfl rfl) rfl rfl (Nat.le_of_ble_eq_true rfl) dX9_field_415 ?_
  exact hk418 s48 v2 v3 h
set_option maxHeartbeats 4000000 in
set_option maxRecDepth 100000 in
theorem l_X9_field_418 {Γ : Cx} {Ω : Wd} {ad : Nat → Nat → Nat} {A : Nat → Prop} {res : St × Unit} (X : Fx Γ Ω A cX9_field 5 "MappingTextsModel" rm_X9_field none) (σ : St) (v2 : Int32) (v3 : Int32) (h : f_X9_field_418 σ v2 v3 = some res) : V Γ (0, 0) (Qe Γ (0, 0) A (Qcv (PicM Ω ad A) A res)) A 5 (PicM Ω ad A σ) 418 [(0, .ref (ad 0 0)), (2, .int v2), (3, .int v3)] [] := by
  unfold f_X9_field_418 at h
  refine tv_aload_n X dX9_field_418 rfl 0 rfl ?_
  refine gM8_35 X (by omega) gw_5_39 dX9_field_419 ?_
  refine tv_if_ne X 467 dX9_field_422 (by decide) h (fun h => ?_) (fun h => ?_)
  · exact tv_vret X dX9_field_467 h
  · refine tv_aload_n X dX9_field_425 rfl 0 rfl ?_
    refine gM8_16 X (by omega) gw_5_20 dX9_field_426 ?_
    refine tv_iload_n X dX9_field_429 rfl 2 rfl ?_
    refine iaM (n := 320) X (by omega) rfl dX9_field_430 h (fun j49 hj49 h => ?_)
    refine tv_bipush X 7 dX9_field_431 (by decide) ?_
    refine tv_icmp_ne X 467 dX9_field_433 (by decide) h (fun h => ?_) (fun h => ?_)
    · exact tv_vret X dX9_field_467 h
    · refine tv_aload_n X dX9_field_436 rfl 0 rfl ?_
      refine gM8_17 X (by omega) gw_5_21 dX9_field_437 ?_
      refine tv_iload_n X dX9_field_440 rfl 2 rfl ?_
      refine iaM (n := 320) X (by omega) rfl dX9_field_441 h (fun j50 hj50 h => ?_)
      refine tv_bipush X 6 dX9_field_442 (by decide) ?_
      refine tv_ishr X dX9_field_444 ?_
      refine tv_iconst X 1 dX9_field_445 (by decide) ?_
      refine tv_iand X dX9_field_446 ?_
      refine tv_if_ne X 467 dX9_field_447 (by decide) h (fun h => ?_) (fun h => ?_)
      · exact tv_vret X dX9_field_467 h
      · refine tv_aload_n X dX9_field_450 rfl 0 rfl ?_
        refine tv_bipush X 7 dX9_field_451 (by decide) ?_
        refine tv_aload_n X dX9_field_453 rfl 0 rfl ?_
        refine gM8_32 X (by omega) gw_5_36 dX9_field_454 ?_
        refine tv_aload_n X dX9_field_457 rfl 0 rfl ?_
        refine gM8_46 X (by omega) gw_5_50 dX9_field_458 ?_
        refine tv_iload_n X dX9_field_461 rfl 1 rfl ?_
        refine iaM (n := 40) X (by omega) rfl dX9_field_462 h (fun j51 hj51 h => ?_)
        refine iaM (n := 2001) X (by omega) rfl dX9_field_463 h (fun j52 hj52 h => ?_)
        obtain ⟨s53, _u464, hs53, h⟩ := cl_some h
        refine tv_callVv (st := []) X (c_X9_note Γ.2.1 Ω ad A σ 7 (ga σ 1 15 j52) hs53) ⟨gw_6_5, gw_6_2, gw_1_10, q_X9_note, rfl, rfl, ⟨Nat.le_of_ble_eq_true rfl, Nat.le_of_ble_eq_true rfl⟩⟩ gw_6_4 gw_p_57 (fun H _ hz _ => PP.recv (f := 0) (i := 0) X.2.1 hz.1 (show 0 < 1 by omega) rfl rfl) rfl rfl (Nat.le_of_ble_eq_true rfl) dX9_field_464 ?_
        exact tv_vret X dX9_field_467 h
set_option maxHeartbeats 4000000 in
set_option maxRecDepth 100000 in
theorem l_X9_field_299 {Γ : Cx} {Ω : Wd} {ad : Nat → Nat → Nat} {A : Nat → Prop} {res : St × Unit} (X : Fx Γ Ω A cX9_field 5 "MappingTextsModel" rm_X9_field none) (σ : St) (v2 : Int32) (v3 : Int32) (h : f_X9_field_299 σ v2 v3 = some res) : V Γ (0, 0) (Qe Γ (0, 0) A (Qcv (PicM Ω ad A) A res)) A 5 (PicM Ω ad A σ) 299 [(0, .ref (ad 0 0)), (2, .int v2), (3, .int v3)] [] := by
  unfold f_X9_field_299 at h
  refine tv_aload_n X dX9_field_299 rfl 0 rfl ?_
  refine gM8_35 X (by omega) gw_5_39 dX9_field_300 ?_
  refine tv_if_ne X 412 dX9_field_303 (by decide) h (fun h => ?_) (fun h => ?_)
  · exact l_X9_field_412 X (l_X9_field_418 X) σ v2 v3 h
  · refine tv_aload_n X dX9_field_306 rfl 0 rfl ?_
    refine gM8_31 X (by omega) gw_5_35 dX9_field_307 ?_
    refine tv_aload_n X dX9_field_310 rfl 0 rfl ?_
    refine gM8_34 X (by omega) gw_5_38 dX9_field_311 ?_
    refine iaM (n := 2001) X (by omega) rfl dX9_field_314 h (fun j36 hj36 h => ?_)
    refine tv_bipush X 123 dX9_field_315 (by decide) ?_
    refine tv_icmp_ne X 412 dX9_field_317 (by decide) h (fun h => ?_) (fun h => ?_)
    · exact l_X9_field_412 X (l_X9_field_418 X) σ v2 v3 h
    · refine tv_aload_n X dX9_field_320 rfl 0 rfl ?_
      refine gM8_47 X (by omega) gw_5_51 dX9_field_321 ?_
      refine tv_iconst X 4 dX9_field_324 (by decide) ?_
      refine tv_icmp_ne X 343 dX9_field_325 (by decide) h (fun h => ?_) (fun h => ?_)
      · refine tv_aload_n X dX9_field_343 rfl 0 rfl ?_
        refine gM8_16 X (by omega) gw_5_20 dX9_field_344 ?_
        refine tv_iload_n X dX9_field_347 rfl 2 rfl ?_
        refine iaM (n := 320) X (by omega) rfl dX9_field_348 h (fun j37 hj37 h => ?_)
        refine tv_iconst X 5 dX9_field_349 (by decide) ?_
        refine tv_icmp_eq X 379 dX9_field_350 (by decide) h (fun h => ?_) (fun h => ?_)
        · exact l_X9_field_379 X (l_X9_field_418 X) σ v2 v3 h
        · refine tv_aload_n X dX9_field_353 rfl 0 rfl ?_
          refine gM8_16 X (by omega) gw_5_20 dX9_field_354 ?_
          refine tv_iload_n X dX9_field_357 rfl 2 rfl ?_
          refine iaM (n := 320) X (by omega) rfl dX9_field_358 h (fun j38 hj38 h => ?_)
          refine tv_bipush X 6 dX9_field_359 (by decide) ?_
          refine tv_icmp_eq X 379 dX9_field_361 (by decide) h (fun h => ?_) (fun h => ?_)
          · exact l_X9_field_379 X (l_X9_field_418 X) σ v2 v3 h
          · refine tv_aload_n X dX9_field_364 rfl 0 rfl ?_
            refine tv_bipush X 6 dX9_field_365 (by decide) ?_
            refine tv_aload_n X dX9_field_367 rfl 0 rfl ?_
            refine gM8_32 X (by omega) gw_5_36 dX9_field_368 ?_
            refine tv_aload_n X dX9_field_371 rfl 0 rfl ?_
            refine gM8_34 X (by omega) gw_5_38 dX9_field_372 ?_
            refine iaM (n := 2001) X (by omega) rfl dX9_field_375 h (fun j39 hj39 h => ?_)
            obtain ⟨s40, _u376, hs40, h⟩ := cl_some h
            refine tv_callVv (st := []) X (c_X9_note Γ.2.1 Ω ad A σ 6 (ga σ 1 15 j39) hs40) ⟨gw_6_5, gw_6_2, gw_1_10, q_X9_note, rfl, rfl, ⟨Nat.le_of_ble_eq_true rfl, Nat.le_of_ble_eq_true rfl⟩⟩ gw_6_4 gw_p_57 (fun H _ hz _ => PP.recv (f := 0) (i := 0) X.2.1 hz.1 (show 0 < 1 by omega) rfl rfl) rfl rfl (Nat.le_of_ble_eq_true rfl) dX9_field_376 ?_
            exact l_X9_field_379 X (l_X9_field_418 X) s40 v2 v3 h
      · refine tv_aload_n X dX9_field_328 rfl 0 rfl ?_
        refine tv_iconst X 3 dX9_field_329 (by decide) ?_
        refine tv_aload_n X dX9_field_330 rfl 0 rfl ?_
        refine gM8_32 X (by omega) gw_5_36 dX9_field_331 ?_
        refine tv_aload_n X dX9_field_334 rfl 0 rfl ?_
        refine gM8_34 X (by omega) gw_5_38 dX9_field_335 ?_
        refine iaM (n := 2001) X (by omega) rfl dX9_field_338 h (fun j41 hj41 h => ?_)
        obtain ⟨s42, _u339, hs42, h⟩ := cl_some h
        refine tv_callVv (st := []) X (c_X9_fails Γ.2.1 Ω ad A σ 3 (ga σ 1 15 j41) hs42) ⟨gw_5_208, gw_5_205, gw_1_10, q_X9_fails, rfl, rfl, ⟨Nat.le_of_ble_eq_true rfl, Nat.le_of_ble_eq_true rfl⟩⟩ gw_5_207 gw_p_49 (fun H _ hz _ => PP.recv (f := 0) (i := 0) X.2.1 hz.1 (show 0 < 1 by omega) rfl rfl) rfl rfl (Nat.le_of_ble_eq_true rfl) dX9_field_339 ?_
        exact tv_vret X dX9_field_342 h
set_option maxHeartbeats 4000000 in
set_option maxRecDepth 100000 in
theorem l_X9_field_118 {Γ : Cx} {Ω : Wd} {ad : Nat → Nat → Nat} {A : Nat → Prop} {res : St × Unit} (X : Fx Γ Ω A cX9_field 5 "MappingTextsModel" rm_X9_field none) : ∀ (n : Nat) (σ : St) (v1 : Int32) (v2 : Int32) (v3 : Int32) (v4 : Int32), f_X9_field_118 n σ v1 v2 v3 v4 = some res → V Γ (0, 0) (Qe Γ (0, 0) A (Qcv (PicM Ω ad A) A res)) A 5 (PicM Ω ad A σ) 118 [(0, .ref (ad 0 0)), (1, .int v1), (2, .int v2), (3, .int v3), (4, .int v4)] [] := by
  intro n
  induction n with
  | zero =>
    intro σ v1 v2 v3 v4 h
    cases (show none = some res from h)
  | succ n ih =>
    intro σ v1 v2 v3 v4 h
    rw [f_X9_field_118] at h
    refine tv_iload X dX9_field_118 4 rfl ?_
    refine tv_iload_n X dX9_field_120 rfl 2 rfl ?_
    refine tv_icmp_ge X 180 dX9_field_121 (by decide) h (fun h => ?_) (fun h => ?_)
    · refine tv_aload_n X dX9_field_180 rfl 0 rfl ?_
      refine gM8_11 X (by omega) gw_5_15 dX9_field_181 ?_
      refine tv_iload_n X dX9_field_184 rfl 1 rfl ?_
      refine tv_dup2 X dX9_field_185 rfl rfl ?_
      refine iaM (n := 8) X (by omega) rfl dX9_field_186 h (fun j15 hj15 h => ?_)
      refine tv_iconst X 1 dX9_field_187 (by decide) ?_
      refine tv_iadd X dX9_field_188 ?_
      refine isM (n := 8) X (by omega) rfl dX9_field_189 h (fun j16 hj16 h => ?_)
      refine tv_ns h (fun s17 h => ?_)
      refine tv_aload_n X dX9_field_190 rfl 0 rfl ?_
      refine tv_dup X dX9_field_191 rfl ?_
      refine gM8_34 X (by omega) gw_5_38 dX9_field_192 ?_
      refine tv_iconst X 1 dX9_field_195 (by decide) ?_
      refine tv_iadd X dX9_field_196 ?_
      refine pM8_34 X (by omega) gw_5_38 dX9_field_197 ?_
      refine tv_ns h (fun s18 h => ?_)
      refine tv_aload_n X dX9_field_200 rfl 0 rfl ?_
      refine tv_bipush X 58 dX9_field_201 (by decide) ?_
      obtain ⟨s19, _u203, hs19, h⟩ := cl_some h
      refine tv_callVv (st := []) X (c_X9_want Γ.2.1 Ω ad A s18 58 hs19) ⟨gw_5_220, gw_5_217, gw_1_10, q_X9_want, rfl, rfl, ⟨Nat.le_of_ble_eq_true rfl, Nat.le_of_ble_eq_true rfl⟩⟩ gw_5_219 gw_p_52 (fun H _ hz _ => PP.recv (f := 0) (i := 0) X.2.1 hz.1 (show 0 < 1 by omega) rfl rfl) rfl rfl (Nat.le_of_ble_eq_true rfl) dX9_field_203 ?_
      refine tv_aload_n X dX9_field_206 rfl 0 rfl ?_
      refine gM8_16 X (by omega) gw_5_20 dX9_field_207 ?_
      refine tv_iload_n X dX9_field_210 rfl 3 rfl ?_
      refine tv_aload_n X dX9_field_211 rfl 0 rfl ?_
      obtain ⟨s20, x21, hs20, h⟩ := cl_some h
      refine tv_callVi (st := [.int v3, .ref (ad 1 4)]) X (c_X9_wantKind Γ.2.1 Ω ad A s19 hs20) ⟨gw_5_234, gw_5_231, gw_1_10, q_X9_wantKind, rfl, rfl, ⟨Nat.le_of_ble_eq_true rfl, Nat.le_of_ble_eq_true rfl⟩⟩ gw_5_233 gw_p_55 (fun H _ hz _ => PP.recv (f := 0) (i := 0) X.2.1 hz.1 (show 0 < 1 by omega) rfl rfl) rfl rfl (Nat.le_of_ble_eq_true rfl) dX9_field_212 ?_
      refine isM (n := 320) X (by omega) rfl dX9_field_215 h (fun j22 hj22 h => ?_)
      refine tv_ns h (fun s23 h => ?_)
      refine tv_aload_n X dX9_field_216 rfl 0 rfl ?_
      refine gM8_35 X (by omega) gw_5_39 dX9_field_217 ?_
      refine tv_if_ne X 299 dX9_field_220 (by decide) h (fun h => ?_) (fun h => ?_)
      · refine V.pick [0, 2, 3] rfl ?_
        exact l_X9_field_299 X s23 v2 v3 h
      · refine tv_aload_n X dX9_field_223 rfl 0 rfl ?_
        refine gM8_31 X (by omega) gw_5_35 dX9_field_224 ?_
        refine tv_aload_n X dX9_field_227 rfl 0 rfl ?_
        refine gM8_34 X (by omega) gw_5_38 dX9_field_228 ?_
        refine iaM (n := 2001) X (by omega) rfl dX9_field_231 h (fun j24 hj24 h => ?_)
        refine tv_bipush X 40 dX9_field_232 (by decide) ?_
        refine tv_icmp_ne X 299 dX9_field_234 (by decide) h (fun h => ?_) (fun h => ?_)
        · refine V.pick [0, 2, 3] rfl ?_
          exact l_X9_field_299 X s23 v2 v3 h
        · refine tv_aload_n X dX9_field_237 rfl 0 rfl ?_
          refine tv_dup X dX9_field_238 rfl ?_
          refine gM8_34 X (by omega) gw_5_38 dX9_field_239 ?_
          refine tv_iconst X 1 dX9_field_242 (by decide) ?_
          refine tv_iadd X dX9_field_243 ?_
          refine pM8_34 X (by omega) gw_5_38 dX9_field_244 ?_
          refine tv_ns h (fun s25 h => ?_)
          refine tv_aload_n X dX9_field_247 rfl 0 rfl ?_
          refine tv_iload_n X dX9_field_248 rfl 3 rfl ?_
          refine tv_iload_n X dX9_field_249 rfl 2 rfl ?_
          obtain ⟨s26, _u250, hs26, h⟩ := cl_some h
          refine tv_callVv (st := []) X (c_X9_option Γ.2.1 Ω ad A s25 v3 v2 hs26) ⟨gw_6_21, gw_6_18, gw_1_10, q_X9_option, rfl, rfl, ⟨Nat.le_of_ble_eq_true rfl, Nat.le_of_ble_eq_true rfl⟩⟩ gw_6_20 gw_p_61 (fun H _ hz _ => PP.recv (f := 0) (i := 0) X.2.1 hz.1 (show 0 < 1 by omega) rfl rfl) rfl rfl (Nat.le_of_ble_eq_true rfl) dX9_field_250 ?_
          refine V.pick [0, 2, 3] rfl ?_
          exact l_X9_field_253 X (l_X9_field_299 X) fl s26 v2 v3 h
    · refine tv_aload_n X dX9_field_124 rfl 0 rfl ?_
      refine gM8_23 X (by omega) gw_5_27 dX9_field_125 ?_
      refine tv_bipush X 40 dX9_field_128 (by decide) ?_
      refine tv_iload_n X dX9_field_130 rfl 1 rfl ?_
      refine tv_imul X dX9_field_131 ?_
      refine tv_iload X dX9_field_132 4 rfl ?_
      refine tv_iadd X dX9_field_134 ?_
      refine iaM (n := 320) X (by omega) rfl dX9_field_135 h (fun j27 hj27 h => ?_)
      refine tv_aload_n X dX9_field_136 rfl 0 rfl ?_
      refine gM8_23 X (by omega) gw_5_27 dX9_field_137 ?_
      refine tv_iload_n X dX9_field_140 rfl 3 rfl ?_
      refine iaM (n := 320) X (by omega) rfl dX9_field_141 h (fun j28 hj28 h => ?_)
      refine tv_icmp_ne X 174 dX9_field_142 (by decide) h (fun h => ?_) (fun h => ?_)
      · exact l_X9_field_174 X ih σ v1 v2 v3 v4 h
      · refine tv_aload_n X dX9_field_145 rfl 0 rfl ?_
        refine tv_bipush X 40 dX9_field_146 (by decide) ?_
        refine tv_iload_n X dX9_field_148 rfl 1 rfl ?_
        refine tv_imul X dX9_field_149 ?_
        refine tv_iload X dX9_field_150 4 rfl ?_
        refine tv_iadd X dX9_field_152 ?_
        refine tv_iload_n X dX9_field_153 rfl 3 rfl ?_
        obtain ⟨s29, x30, hs29, h⟩ := cl_some h
        refine tv_callVi (st := []) X (c_X9_isSameName Γ.2.1 Ω ad A σ ((40 * v1) + v4) v3 hs29) ⟨gw_6_17, gw_6_14, gw_1_10, q_X9_isSameName, rfl, rfl, ⟨Nat.le_of_ble_eq_true rfl, Nat.le_of_ble_eq_true rfl⟩⟩ gw_6_16 gw_p_60 (fun H _ hz _ => PP.recv (f := 0) (i := 0) X.2.1 hz.1 (show 0 < 1 by omega) rfl rfl) rfl rfl (Nat.le_of_ble_eq_true rfl) dX9_field_154 ?_
        refine tv_if_eq X 174 dX9_field_157 (by decide) h (fun h => ?_) (fun h => ?_)
        · exact l_X9_field_174 X ih s29 v1 v2 v3 v4 h
        · refine tv_aload_n X dX9_field_160 rfl 0 rfl ?_
          refine tv_iconst X 4 dX9_field_161 (by decide) ?_
          refine tv_aload_n X dX9_field_162 rfl 0 rfl ?_
          refine gM8_32 X (by omega) gw_5_36 dX9_field_163 ?_
          refine tv_aload_n X dX9_field_166 rfl 0 rfl ?_
          refine gM8_34 X (by omega) gw_5_38 dX9_field_167 ?_
          refine iaM (n := 2001) X (by omega) rfl dX9_field_170 h (fun j31 hj31 h => ?_)
          obtain ⟨s32, _u171, hs32, h⟩ := cl_some h
          refine tv_callVv (st := []) X (c_X9_note Γ.2.1 Ω ad A s29 4 (ga s29 1 15 j31) hs32) ⟨gw_6_5, gw_6_2, gw_1_10, q_X9_note, rfl, rfl, ⟨Nat.le_of_ble_eq_true rfl, Nat.le_of_ble_eq_true rfl⟩⟩ gw_6_4 gw_p_57 (fun H _ hz _ => PP.recv (f := 0) (i := 0) X.2.1 hz.1 (show 0 < 1 by omega) rfl rfl) rfl rfl (Nat.le_of_ble_eq_true rfl) dX9_field_171 ?_
          exact l_X9_field_174 X ih s32 v1 v2 v3 v4 h
set_option maxHeartbeats 4000000 in
set_option maxRecDepth 100000 in
theorem l_X9_field_114 {Γ : Cx} {Ω : Wd} {ad : Nat → Nat → Nat} {A : Nat → Prop} {res : St × Unit} (X : Fx Γ Ω A cX9_field 5 "MappingTextsModel" rm_X9_field none) (σ : St) (t0 : Nat) (t1 : Int32) (t2 : Int32) (v1 : Int32) (v2 : Int32) (v3 : Int32) (bt0 : t0 < 29) (h : f_X9_field_114 σ t0 t1 t2 v1 v2 v3 = some res) : V Γ (0, 0) (Qe Γ (0, 0) A (Qcv (PicM Ω ad A) A res)) A 5 (PicM Ω ad A σ) 114 [(0, .ref (ad 0 0)), (1, .int v1), (2, .int v2), (3, .int v3)] [.int t2, .int t1, .ref (ad 1 t0)] := by
  unfold f_X9_field_114 at h
  refine isM (n := (lenMi.getD t0 0)) X (by omega) rfl dX9_field_114 h (fun j13 hj13 h => ?_)
  refine tv_ns h (fun s14 h => ?_)
  refine tv_iconst X 0 dX9_field_115 (by decide) ?_
  refine tv_istore X dX9_field_116 (by decide) [(4, .int 0), (0, .ref (ad 0 0)), (1, .int v1), (2, .int v2), (3, .int v3)] rfl ?_
  refine V.pick [1, 2, 3, 4, 0] rfl ?_
  exact l_X9_field_118 X fl s14 v1 v2 v3 0 h
set_option maxHeartbeats 4000000 in
set_option maxRecDepth 100000 in
theorem c_X9_field (l : Launch) (Ω : Wd) (ad : Nat → Nat → Nat) (A : Nat → Prop) (σ : St) (a1 : Int32) {res : St × Unit} (h : f_X9_field σ a1 = some res) : Met l yX9_field (wsO yX9_field cX9_field 5 none) rm_X9_field (PcZ Ω A (PicM Ω ad A σ) [.ref (ad 0 0), .int a1]) (Qcv (PicM Ω ad A) A res) 0 0 A := by
  refine Met.ofV (by decide) rfl (fun Γ hΓ X => ?_)
  have X : Fx Γ Ω A cX9_field 5 "MappingTextsModel" rm_X9_field none := X
  unfold f_X9_field at h
  show V Γ (0, 0) _ A 5 _ 0 [(0, .ref (ad 0 0)), (1, .int a1)] []
  refine tv_aload_n X dX9_field_0 rfl 0 rfl ?_
  refine gM8_11 X (by omega) gw_5_15 dX9_field_1 ?_
  refine tv_iload_n X dX9_field_4 rfl 1 rfl ?_
  refine iaM (n := 8) X (by omega) rfl dX9_field_5 h (fun j1 hj1 h => ?_)
  refine tv_bipush X 40 dX9_field_6 (by decide) ?_
  refine tv_icmp_ne X 26 dX9_field_8 (by decide) h (fun h => ?_) (fun h => ?_)
  · refine tv_aload_n X dX9_field_26 rfl 0 rfl ?_
    refine gM8_11 X (by omega) gw_5_15 dX9_field_27 ?_
    refine tv_iload_n X dX9_field_30 rfl 1 rfl ?_
    refine iaM (n := 8) X (by omega) rfl dX9_field_31 h (fun j2 hj2 h => ?_)
    refine tv_istore_n X dX9_field_32 rfl (by decide) [(2, .int (ga σ 1 0 j2)), (0, .ref (ad 0 0)), (1, .int a1)] rfl ?_
    refine tv_bipush X 40 dX9_field_33 (by decide) ?_
    refine tv_iload_n X dX9_field_35 rfl 2 rfl ?_
    refine tv_imul X dX9_field_36 ?_
    refine tv_iload_n X dX9_field_37 rfl 0 rfl ?_
    refine tv_iadd X dX9_field_38 ?_
    refine tv_istore_n X dX9_field_39 rfl (by decide) [(3, .int ((40 * a1) + (ga σ 1 0 j2))), (2, .int (ga σ 1 0 j2)), (0, .ref (ad 0 0)), (1, .int a1)] rfl ?_
    refine tv_aload_n X dX9_field_40 rfl 2 rfl ?_
    refine tv_iload_n X dX9_field_41 rfl 0 rfl ?_
    obtain ⟨s3, _u42, hs3, h⟩ := cl_some h
    refine tv_callVv (st := []) X (c_X9_begin Γ.2.1 Ω ad A σ ((40 * a1) + (ga σ 1 0 j2)) hs3) ⟨gw_6_13, gw_6_10, gw_1_10, q_X9_begin, rfl, rfl, ⟨Nat.le_of_ble_eq_true rfl, Nat.le_of_ble_eq_true rfl⟩⟩ gw_6_12 gw_p_59 (fun H _ hz _ => PP.recv (f := 0) (i := 0) X.2.1 hz.1 (show 0 < 1 by omega) rfl rfl) rfl rfl (Nat.le_of_ble_eq_true rfl) dX9_field_42 ?_
    refine tv_aload_n X dX9_field_45 rfl 2 rfl ?_
    refine gM8_46 X (by omega) gw_5_50 dX9_field_46 ?_
    refine tv_iload_n X dX9_field_49 rfl 1 rfl ?_
    refine tv_aload_n X dX9_field_50 rfl 2 rfl ?_
    refine gM8_34 X (by omega) gw_5_38 dX9_field_51 ?_
    refine isM (n := 40) X (by omega) rfl dX9_field_54 h (fun j4 hj4 h => ?_)
    refine tv_ns h (fun s5 h => ?_)
    refine tv_aload_n X dX9_field_55 rfl 2 rfl ?_
    refine gM8_14 X (by omega) gw_5_18 dX9_field_56 ?_
    refine tv_iload_n X dX9_field_59 rfl 0 rfl ?_
    refine tv_aload_n X dX9_field_60 rfl 2 rfl ?_
    refine gM8_33 X (by omega) gw_5_37 dX9_field_61 ?_
    refine tv_aload_n X dX9_field_64 rfl 2 rfl ?_
    refine gM8_34 X (by omega) gw_5_38 dX9_field_65 ?_
    refine iaM (n := 2001) X (by omega) rfl dX9_field_68 h (fun j6 hj6 h => ?_)
    refine isM (n := 320) X (by omega) rfl dX9_field_69 h (fun j7 hj7 h => ?_)
    refine tv_ns h (fun s8 h => ?_)
    refine tv_aload_n X dX9_field_70 rfl 2 rfl ?_
    refine tv_aload_n X dX9_field_71 rfl 2 rfl ?_
    refine gM8_34 X (by omega) gw_5_38 dX9_field_72 ?_
    refine tv_aload_n X dX9_field_75 rfl 2 rfl ?_
    refine gM8_15 X (by omega) gw_5_19 dX9_field_76 ?_
    refine tv_bipush X 12 dX9_field_79 (by decide) ?_
    refine tv_iload_n X dX9_field_81 rfl 0 rfl ?_
    refine tv_imul X dX9_field_82 ?_
    obtain ⟨s9, _u83, hs9, h⟩ := cl_some h
    refine tv_callVv (st := []) X (c_X9_copyName Γ.2.1 Ω ad A s8 (gi s8 834 0) 3 (12 * ((40 * a1) + (ga σ 1 0 j2))) (by omega) hs9) ⟨gw_5_230, gw_5_227, gw_1_10, q_X9_copyName, rfl, rfl, ⟨Nat.le_of_ble_eq_true rfl, Nat.le_of_ble_eq_true rfl⟩⟩ gw_5_229 gw_p_54 (fun H _ hz _ => PP.recv (f := 0) (i := 0) X.2.1 hz.1 (show 0 < 1 by omega) rfl rfl) rfl rfl (Nat.le_of_ble_eq_true rfl) dX9_field_83 ?_
    refine tv_aload_n X dX9_field_86 rfl 2 rfl ?_
    refine gM8_23 X (by omega) gw_5_27 dX9_field_87 ?_
    refine tv_iload_n X dX9_field_90 rfl 0 rfl ?_
    refine tv_aload_n X dX9_field_91 rfl 2 rfl ?_
    refine gM8_47 X (by omega) gw_5_51 dX9_field_92 ?_
    refine tv_if_ne X 103 dX9_field_95 (by decide) h (fun h => ?_) (fun h => ?_)
    · refine tv_aload_n X dX9_field_103 rfl 2 rfl ?_
      refine gM8_48 X (by omega) gw_5_52 dX9_field_104 ?_
      refine tv_aload_n X dX9_field_107 rfl 2 rfl ?_
      refine gM8_47 X (by omega) gw_5_51 dX9_field_108 ?_
      refine tv_iconst X 1 dX9_field_111 (by decide) ?_
      refine tv_isub X dX9_field_112 ?_
      refine iaM (n := 5) X (by omega) rfl dX9_field_113 h (fun j10 hj10 h => ?_)
      refine V.pick [2, 3, 1, 0] rfl ?_
      exact l_X9_field_114 X s9 10 ((40 * a1) + (ga σ 1 0 j2)) (ga s9 1 24 j10) a1 (ga σ 1 0 j2) ((40 * a1) + (ga σ 1 0 j2)) (by omega) h
    · refine tv_bipush X (-2) dX9_field_98 (by decide) ?_
      refine tv_goto X 114 dX9_field_100 (by decide) ?_
      refine V.pick [2, 3, 1, 0] rfl ?_
      exact l_X9_field_114 X s9 10 ((40 * a1) + (ga σ 1 0 j2)) (-2) a1 (ga σ 1 0 j2) ((40 * a1) + (ga σ 1 0 j2)) (by omega) h
  · refine tv_aload_n X dX9_field_11 rfl 0 rfl ?_
    refine tv_iconst X 3 dX9_field_12 (by decide) ?_
    refine tv_aload_n X dX9_field_13 rfl 0 rfl ?_
    refine gM8_32 X (by omega) gw_5_36 dX9_field_14 ?_
    refine tv_aload_n X dX9_field_17 rfl 0 rfl ?_
    refine gM8_34 X (by omega) gw_5_38 dX9_field_18 ?_
    refine iaM (n := 2001) X (by omega) rfl dX9_field_21 h (fun j11 hj11 h => ?_)
    obtain ⟨s12, _u22, hs12, h⟩ := cl_some h
    refine tv_callVv (st := []) X (c_X9_fails Γ.2.1 Ω ad A σ 3 (ga σ 1 15 j11) hs12) ⟨gw_5_208, gw_5_205, gw_1_10, q_X9_fails, rfl, rfl, ⟨Nat.le_of_ble_eq_true rfl, Nat.le_of_ble_eq_true rfl⟩⟩ gw_5_207 gw_p_49 (fun H _ hz _ => PP.recv (f := 0) (i := 0) X.2.1 hz.1 (show 0 < 1 by omega) rfl rfl) rfl rfl (Nat.le_of_ble_eq_true rfl) dX9_field_22 ?_
    exact tv_vret X dX9_field_25 h
