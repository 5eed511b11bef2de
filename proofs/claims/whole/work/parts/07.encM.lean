/-! The reference's world. -/
def cntM : List Nat := [1, 29, 9, 2, 1]
def lenMi : List Nat := [8, 8, 8, 320, 320, 320, 320, 320, 320, 320, 320, 64, 64, 64, 2001, 2001, 2001, 700, 700, 700, 700, 700, 700, 40, 5, 6, 80, 80, 80]
def lenMb : List Nat := [2000, 4000, 20000, 3840, 3840, 768, 768, 128, 128]
def lenMz : List Nat := [64]
def lenMl : List Nat := [8, 7]
def wordM : List (List Int64) := [[2003792484, 1952807028, 1819242087, 1684108389, 1651470188, 122468482507636, 121382007760228, 418430673267], [126943923168612, 109317377451364, 474316172659, 1853189228, 1668247673, 25209, 28518]]
def wdM (i j : Nat) : Int64 := (wordM.getD i []).getD j 0
def encM (Ω : Wd) (ad : Nat → Nat → Nat) (σ : St) : Nat → Nat → va_E := fun f i => match f with
  | 0 => .inr (8, [.ref (ad 3 0), .ref (ad 3 1), .ref (ad 2 0), .int (gi σ 803 i), .int (gi σ 804 i), .ref (ad 2 1), .int (gi σ 806 i), .ref (ad 2 2), .int (gi σ 808 i), .int (gi σ 809 i), .int (gi σ 810 i), .ref (ad 1 0), .ref (ad 1 1), .ref (ad 1 2), .ref (ad 1 3), .ref (ad 2 3), .ref (ad 1 4), .ref (ad 1 5), .ref (ad 1 6), .ref (ad 1 7), .ref (ad 1 8), .ref (ad 1 9), .ref (ad 2 4), .ref (ad 1 10), .ref (ad 1 11), .ref (ad 2 5), .ref (ad 4 0), .ref (ad 1 12), .ref (ad 2 6), .ref (ad 1 13), .int (gi σ 830 i), .ref (ad 1 14), .ref (ad 1 15), .ref (ad 1 16), .int (gi σ 834 i), .int (gi σ 835 i), .int (gi σ 836 i), .int (gi σ 837 i), .int (gi σ 838 i), .ref (ad 1 17), .ref (ad 1 18), .ref (ad 1 19), .ref (ad 1 20), .ref (ad 1 21), .int (gi σ 844 i), .ref (ad 1 22), .ref (ad 1 23), .int (gi σ 847 i), .ref (ad 1 24), .ref (ad 2 7), .int (gi σ 850 i), .ref (ad 2 8), .int (gi σ 852 i), .ref (ad 1 25), .int (gi σ 854 i), .ref (ad 1 26), .ref (ad 1 27), .ref (ad 1 28)])
  | 1 => .inl (Ω.2.1 0, lenMi.getD i 0, .inl (ga σ 1 i))
  | 2 => .inl (Ω.2.1 1, lenMb.getD i 0, .inl (ga σ 2 i))
  | 3 => .inl (Ω.2.1 2, lenMl.getD i 0, .inr (.inl (wdM i)))
  | 4 => .inl (Ω.2.1 3, lenMz.getD i 0, .inl (ga σ 4 i))
  | _ => .inr (0, [])
def PicM (Ω : Wd) (ad : Nat → Nat → Nat) (A : Nat → Prop) (σ : St) (H : Heap) : Prop := PP Ω cntM ad A (encM Ω ad σ) H ∧ True
theorem inG9 : ∀ w ∈ u_ws RX9 TX9 58, w ∈ GW := by
  intro w hw
  obtain ⟨k, hk, rfl⟩ := List.mem_map.mp hw
  have hk := List.mem_range.mp hk
  match k, hk with
  | 0, _ => exact gw_5_62
  | 1, _ => exact gw_5_64
  | 2, _ => exact gw_5_66
  | 3, _ => exact gw_5_68
  | 4, _ => exact gw_5_70
  | 5, _ => exact gw_5_72
  | 6, _ => exact gw_5_74
  | 7, _ => exact gw_5_76
  | 8, _ => exact gw_5_78
  | 9, _ => exact gw_5_80
  | 10, _ => exact gw_5_82
  | 11, _ => exact gw_5_84
  | 12, _ => exact gw_5_86
  | 13, _ => exact gw_5_88
  | 14, _ => exact gw_5_90
  | 15, _ => exact gw_5_92
  | 16, _ => exact gw_5_94
  | 17, _ => exact gw_5_96
  | 18, _ => exact gw_5_98
  | 19, _ => exact gw_5_100
  | 20, _ => exact gw_5_102
  | 21, _ => exact gw_5_104
  | 22, _ => exact gw_5_106
  | 23, _ => exact gw_5_108
  | 24, _ => exact gw_5_110
  | 25, _ => exact gw_5_112
  | 26, _ => exact gw_5_114
  | 27, _ => exact gw_5_116
  | 28, _ => exact gw_5_118
  | 29, _ => exact gw_5_120
  | 30, _ => exact gw_5_122
  | 31, _ => exact gw_5_124
  | 32, _ => exact gw_5_126
  | 33, _ => exact gw_5_128
  | 34, _ => exact gw_5_130
  | 35, _ => exact gw_5_132
  | 36, _ => exact gw_5_134
  | 37, _ => exact gw_5_136
  | 38, _ => exact gw_5_138
  | 39, _ => exact gw_5_140
  | 40, _ => exact gw_5_142
  | 41, _ => exact gw_5_144
  | 42, _ => exact gw_5_146
  | 43, _ => exact gw_5_148
  | 44, _ => exact gw_5_150
  | 45, _ => exact gw_5_152
  | 46, _ => exact gw_5_154
  | 47, _ => exact gw_5_156
  | 48, _ => exact gw_5_158
  | 49, _ => exact gw_5_160
  | 50, _ => exact gw_5_162
  | 51, _ => exact gw_5_164
  | 52, _ => exact gw_5_166
  | 53, _ => exact gw_5_168
  | 54, _ => exact gw_5_170
  | 55, _ => exact gw_5_172
  | 56, _ => exact gw_5_174
  | 57, _ => exact gw_5_176
  | _ + 58, h => omega
section RowsM
variable {Γ : Cx} {cs : Nat × Nat} {Q : State → Prop} {A : Nat → Prop} {nL : Nat} {pc : Nat} {lv : List (Nat × Value)} {st : List Value} {Ω : Wd} {cc : ByteArray} {own : String} {rm : Room} {ret : Option FieldType} {ad : Nat → Nat → Nat} {σ : St} {ρ : Type} {r : ρ} {index i : Nat}
theorem gM8_0 (X : Fx Γ Ω A cc nL own rm ret) (hi : i < 1) (hlk : Cond.fieldLink own index "MappingTextsModel" "kindWord" "[J" ∈ GW) (hd : decode cc pc = .ok (.getfield index, 3)) (kk : V Γ cs Q A nL (PicM Ω ad A σ) (pc + 3) lv (.ref (ad 3 0) :: st)) : V Γ cs Q A nL (PicM Ω ad A σ) pc lv (.ref (ad 0 i) :: st) := tv_get X (fun H h => h.1) hi rfl rfl inG9 (k := 0) (by decide) hlk rfl hd kk
theorem gM8_1 (X : Fx Γ Ω A cc nL own rm ret) (hi : i < 1) (hlk : Cond.fieldLink own index "MappingTextsModel" "optionWord" "[J" ∈ GW) (hd : decode cc pc = .ok (.getfield index, 3)) (kk : V Γ cs Q A nL (PicM Ω ad A σ) (pc + 3) lv (.ref (ad 3 1) :: st)) : V Γ cs Q A nL (PicM Ω ad A σ) pc lv (.ref (ad 0 i) :: st) := tv_get X (fun H h => h.1) hi rfl rfl inG9 (k := 1) (by decide) hlk rfl hd kk
theorem gM8_2 (X : Fx Γ Ω A cc nL own rm ret) (hi : i < 1) (hlk : Cond.fieldLink own index "MappingTextsModel" "tape" "[B" ∈ GW) (hd : decode cc pc = .ok (.getfield index, 3)) (kk : V Γ cs Q A nL (PicM Ω ad A σ) (pc + 3) lv (.ref (ad 2 0) :: st)) : V Γ cs Q A nL (PicM Ω ad A σ) pc lv (.ref (ad 0 i) :: st) := tv_get X (fun H h => h.1) hi rfl rfl inG9 (k := 2) (by decide) hlk rfl hd kk
theorem gM8_3 (X : Fx Γ Ω A cc nL own rm ret) (hi : i < 1) (hlk : Cond.fieldLink own index "MappingTextsModel" "tapeN" "I" ∈ GW) (hd : decode cc pc = .ok (.getfield index, 3)) (kk : V Γ cs Q A nL (PicM Ω ad A σ) (pc + 3) lv (.int (gi σ 803 i) :: st)) : V Γ cs Q A nL (PicM Ω ad A σ) pc lv (.ref (ad 0 i) :: st) := tv_get X (fun H h => h.1) hi rfl rfl inG9 (k := 3) (by decide) hlk rfl hd kk
theorem eM8_3 {v : Int32} : up2 (encM Ω ad σ) 0 i (.inr (8, [.ref (ad 3 0), .ref (ad 3 1), .ref (ad 2 0), .int v, .int (gi σ 804 i), .ref (ad 2 1), .int (gi σ 806 i), .ref (ad 2 2), .int (gi σ 808 i), .int (gi σ 809 i), .int (gi σ 810 i), .ref (ad 1 0), .ref (ad 1 1), .ref (ad 1 2), .ref (ad 1 3), .ref (ad 2 3), .ref (ad 1 4), .ref (ad 1 5), .ref (ad 1 6), .ref (ad 1 7), .ref (ad 1 8), .ref (ad 1 9), .ref (ad 2 4), .ref (ad 1 10), .ref (ad 1 11), .ref (ad 2 5), .ref (ad 4 0), .ref (ad 1 12), .ref (ad 2 6), .ref (ad 1 13), .int (gi σ 830 i), .ref (ad 1 14), .ref (ad 1 15), .ref (ad 1 16), .int (gi σ 834 i), .int (gi σ 835 i), .int (gi σ 836 i), .int (gi σ 837 i), .int (gi σ 838 i), .ref (ad 1 17), .ref (ad 1 18), .ref (ad 1 19), .ref (ad 1 20), .ref (ad 1 21), .int (gi σ 844 i), .ref (ad 1 22), .ref (ad 1 23), .int (gi σ 847 i), .ref (ad 1 24), .ref (ad 2 7), .int (gi σ 850 i), .ref (ad 2 8), .int (gi σ 852 i), .ref (ad 1 25), .int (gi σ 854 i), .ref (ad 1 26), .ref (ad 1 27), .ref (ad 1 28)])) = encM Ω ad (si σ 803 i v) := by
  funext f j
  by_cases h : f = 0 ∧ j = i
  · obtain ⟨rfl, rfl⟩ := h
    simp [up2, encM, si, sr, sg, gi, gr, ga]
  · unfold up2
    rw [if_neg h]
    match f, h with
    | 0, h =>
      have hj : ¬ j = i := fun e => h ⟨rfl, e⟩
      simp [up2, hj, encM, si, sr, sg, gi, gr, ga]
    | 1, _ => first | rfl | simp [up2, va_up, encM, si, sr, sg, gi, gr, ga]
    | 2, _ => first | rfl | simp [up2, va_up, encM, si, sr, sg, gi, gr, ga]
    | 3, _ => first | rfl | simp [up2, va_up, encM, si, sr, sg, gi, gr, ga]
    | 4, _ => first | rfl | simp [up2, va_up, encM, si, sr, sg, gi, gr, ga]
    | _ + 5, _ => rfl
theorem pM8_3 (X : Fx Γ Ω A cc nL own rm ret) {v : Int32} (hi : i < 1) (hlk : Cond.fieldLink own index "MappingTextsModel" "tapeN" "I" ∈ GW) (hd : decode cc pc = .ok (.putfield index, 3)) (kk : V Γ cs Q A nL (PicM Ω ad A (si σ 803 i v)) (pc + 3) lv st) : V Γ cs Q A nL (PicM Ω ad A σ) pc lv (.int v :: .ref (ad 0 i) :: st) := tv_put X (fun H h => h.1) (fun H0 H h0 h => ⟨(congrArg (fun E => PP Ω cntM ad A E H) (eM8_3)).mp h, h0.2⟩) hi rfl rfl inG9 tyX9_ok nmX9 (k := 3) (by decide) hlk rfl rfl rfl rfl (Nat.le_of_ble_eq_true rfl) hd kk
theorem gM8_4 (X : Fx Γ Ω A cc nL own rm ret) (hi : i < 1) (hlk : Cond.fieldLink own index "MappingTextsModel" "textN" "I" ∈ GW) (hd : decode cc pc = .ok (.getfield index, 3)) (kk : V Γ cs Q A nL (PicM Ω ad A σ) (pc + 3) lv (.int (gi σ 804 i) :: st)) : V Γ cs Q A nL (PicM Ω ad A σ) pc lv (.ref (ad 0 i) :: st) := tv_get X (fun H h => h.1) hi rfl rfl inG9 (k := 4) (by decide) hlk rfl hd kk
theorem eM8_4 {v : Int32} : up2 (encM Ω ad σ) 0 i (.inr (8, [.ref (ad 3 0), .ref (ad 3 1), .ref (ad 2 0), .int (gi σ 803 i), .int v, .ref (ad 2 1), .int (gi σ 806 i), .ref (ad 2 2), .int (gi σ 808 i), .int (gi σ 809 i), .int (gi σ 810 i), .ref (ad 1 0), .ref (ad 1 1), .ref (ad 1 2), .ref (ad 1 3), .ref (ad 2 3), .ref (ad 1 4), .ref (ad 1 5), .ref (ad 1 6), .ref (ad 1 7), .ref (ad 1 8), .ref (ad 1 9), .ref (ad 2 4), .ref (ad 1 10), .ref (ad 1 11), .ref (ad 2 5), .ref (ad 4 0), .ref (ad 1 12), .ref (ad 2 6), .ref (ad 1 13), .int (gi σ 830 i), .ref (ad 1 14), .ref (ad 1 15), .ref (ad 1 16), .int (gi σ 834 i), .int (gi σ 835 i), .int (gi σ 836 i), .int (gi σ 837 i), .int (gi σ 838 i), .ref (ad 1 17), .ref (ad 1 18), .ref (ad 1 19), .ref (ad 1 20), .ref (ad 1 21), .int (gi σ 844 i), .ref (ad 1 22), .ref (ad 1 23), .int (gi σ 847 i), .ref (ad 1 24), .ref (ad 2 7), .int (gi σ 850 i), .ref (ad 2 8), .int (gi σ 852 i), .ref (ad 1 25), .int (gi σ 854 i), .ref (ad 1 26), .ref (ad 1 27), .ref (ad 1 28)])) = encM Ω ad (si σ 804 i v) := by
  funext f j
  by_cases h : f = 0 ∧ j = i
  · obtain ⟨rfl, rfl⟩ := h
    simp [up2, encM, si, sr, sg, gi, gr, ga]
  · unfold up2
    rw [if_neg h]
    match f, h with
    | 0, h =>
      have hj : ¬ j = i := fun e => h ⟨rfl, e⟩
      simp [up2, hj, encM, si, sr, sg, gi, gr, ga]
    | 1, _ => first | rfl | simp [up2, va_up, encM, si, sr, sg, gi, gr, ga]
    | 2, _ => first | rfl | simp [up2, va_up, encM, si, sr, sg, gi, gr, ga]
    | 3, _ => first | rfl | simp [up2, va_up, encM, si, sr, sg, gi, gr, ga]
    | 4, _ => first | rfl | simp [up2, va_up, encM, si, sr, sg, gi, gr, ga]
    | _ + 5, _ => rfl
theorem pM8_4 (X : Fx Γ Ω A cc nL own rm ret) {v : Int32} (hi : i < 1) (hlk : Cond.fieldLink own index "MappingTextsModel" "textN" "I" ∈ GW) (hd : decode cc pc = .ok (.putfield index, 3)) (kk : V Γ cs Q A nL (PicM Ω ad A (si σ 804 i v)) (pc + 3) lv st) : V Γ cs Q A nL (PicM Ω ad A σ) pc lv (.int v :: .ref (ad 0 i) :: st) := tv_put X (fun H h => h.1) (fun H0 H h0 h => ⟨(congrArg (fun E => PP Ω cntM ad A E H) (eM8_4)).mp h, h0.2⟩) hi rfl rfl inG9 tyX9_ok nmX9 (k := 4) (by decide) hlk rfl rfl rfl rfl (Nat.le_of_ble_eq_true rfl) hd kk
theorem gM8_5 (X : Fx Γ Ω A cc nL own rm ret) (hi : i < 1) (hlk : Cond.fieldLink own index "MappingTextsModel" "out" "[B" ∈ GW) (hd : decode cc pc = .ok (.getfield index, 3)) (kk : V Γ cs Q A nL (PicM Ω ad A σ) (pc + 3) lv (.ref (ad 2 1) :: st)) : V Γ cs Q A nL (PicM Ω ad A σ) pc lv (.ref (ad 0 i) :: st) := tv_get X (fun H h => h.1) hi rfl rfl inG9 (k := 5) (by decide) hlk rfl hd kk
theorem gM8_6 (X : Fx Γ Ω A cc nL own rm ret) (hi : i < 1) (hlk : Cond.fieldLink own index "MappingTextsModel" "outN" "I" ∈ GW) (hd : decode cc pc = .ok (.getfield index, 3)) (kk : V Γ cs Q A nL (PicM Ω ad A σ) (pc + 3) lv (.int (gi σ 806 i) :: st)) : V Γ cs Q A nL (PicM Ω ad A σ) pc lv (.ref (ad 0 i) :: st) := tv_get X (fun H h => h.1) hi rfl rfl inG9 (k := 6) (by decide) hlk rfl hd kk
theorem eM8_6 {v : Int32} : up2 (encM Ω ad σ) 0 i (.inr (8, [.ref (ad 3 0), .ref (ad 3 1), .ref (ad 2 0), .int (gi σ 803 i), .int (gi σ 804 i), .ref (ad 2 1), .int v, .ref (ad 2 2), .int (gi σ 808 i), .int (gi σ 809 i), .int (gi σ 810 i), .ref (ad 1 0), .ref (ad 1 1), .ref (ad 1 2), .ref (ad 1 3), .ref (ad 2 3), .ref (ad 1 4), .ref (ad 1 5), .ref (ad 1 6), .ref (ad 1 7), .ref (ad 1 8), .ref (ad 1 9), .ref (ad 2 4), .ref (ad 1 10), .ref (ad 1 11), .ref (ad 2 5), .ref (ad 4 0), .ref (ad 1 12), .ref (ad 2 6), .ref (ad 1 13), .int (gi σ 830 i), .ref (ad 1 14), .ref (ad 1 15), .ref (ad 1 16), .int (gi σ 834 i), .int (gi σ 835 i), .int (gi σ 836 i), .int (gi σ 837 i), .int (gi σ 838 i), .ref (ad 1 17), .ref (ad 1 18), .ref (ad 1 19), .ref (ad 1 20), .ref (ad 1 21), .int (gi σ 844 i), .ref (ad 1 22), .ref (ad 1 23), .int (gi σ 847 i), .ref (ad 1 24), .ref (ad 2 7), .int (gi σ 850 i), .ref (ad 2 8), .int (gi σ 852 i), .ref (ad 1 25), .int (gi σ 854 i), .ref (ad 1 26), .ref (ad 1 27), .ref (ad 1 28)])) = encM Ω ad (si σ 806 i v) := by
  funext f j
  by_cases h : f = 0 ∧ j = i
  · obtain ⟨rfl, rfl⟩ := h
    simp [up2, encM, si, sr, sg, gi, gr, ga]
  · unfold up2
    rw [if_neg h]
    match f, h with
    | 0, h =>
      have hj : ¬ j = i := fun e => h ⟨rfl, e⟩
      simp [up2, hj, encM, si, sr, sg, gi, gr, ga]
    | 1, _ => first | rfl | simp [up2, va_up, encM, si, sr, sg, gi, gr, ga]
    | 2, _ => first | rfl | simp [up2, va_up, encM, si, sr, sg, gi, gr, ga]
    | 3, _ => first | rfl | simp [up2, va_up, encM, si, sr, sg, gi, gr, ga]
    | 4, _ => first | rfl | simp [up2, va_up, encM, si, sr, sg, gi, gr, ga]
    | _ + 5, _ => rfl
theorem pM8_6 (X : Fx Γ Ω A cc nL own rm ret) {v : Int32} (hi : i < 1) (hlk : Cond.fieldLink own index "MappingTextsModel" "outN" "I" ∈ GW) (hd : decode cc pc = .ok (.putfield index, 3)) (kk : V Γ cs Q A nL (PicM Ω ad A (si σ 806 i v)) (pc + 3) lv st) : V Γ cs Q A nL (PicM Ω ad A σ) pc lv (.int v :: .ref (ad 0 i) :: st) := tv_put X (fun H h => h.1) (fun H0 H h0 h => ⟨(congrArg (fun E => PP Ω cntM ad A E H) (eM8_6)).mp h, h0.2⟩) hi rfl rfl inG9 tyX9_ok nmX9 (k := 6) (by decide) hlk rfl rfl rfl rfl (Nat.le_of_ble_eq_true rfl) hd kk
theorem gM8_7 (X : Fx Γ Ω A cc nL own rm ret) (hi : i < 1) (hlk : Cond.fieldLink own index "MappingTextsModel" "print" "[B" ∈ GW) (hd : decode cc pc = .ok (.getfield index, 3)) (kk : V Γ cs Q A nL (PicM Ω ad A σ) (pc + 3) lv (.ref (ad 2 2) :: st)) : V Γ cs Q A nL (PicM Ω ad A σ) pc lv (.ref (ad 0 i) :: st) := tv_get X (fun H h => h.1) hi rfl rfl inG9 (k := 7) (by decide) hlk rfl hd kk
theorem gM8_8 (X : Fx Γ Ω A cc nL own rm ret) (hi : i < 1) (hlk : Cond.fieldLink own index "MappingTextsModel" "printN" "I" ∈ GW) (hd : decode cc pc = .ok (.getfield index, 3)) (kk : V Γ cs Q A nL (PicM Ω ad A σ) (pc + 3) lv (.int (gi σ 808 i) :: st)) : V Γ cs Q A nL (PicM Ω ad A σ) pc lv (.ref (ad 0 i) :: st) := tv_get X (fun H h => h.1) hi rfl rfl inG9 (k := 8) (by decide) hlk rfl hd kk
theorem eM8_8 {v : Int32} : up2 (encM Ω ad σ) 0 i (.inr (8, [.ref (ad 3 0), .ref (ad 3 1), .ref (ad 2 0), .int (gi σ 803 i), .int (gi σ 804 i), .ref (ad 2 1), .int (gi σ 806 i), .ref (ad 2 2), .int v, .int (gi σ 809 i), .int (gi σ 810 i), .ref (ad 1 0), .ref (ad 1 1), .ref (ad 1 2), .ref (ad 1 3), .ref (ad 2 3), .ref (ad 1 4), .ref (ad 1 5), .ref (ad 1 6), .ref (ad 1 7), .ref (ad 1 8), .ref (ad 1 9), .ref (ad 2 4), .ref (ad 1 10), .ref (ad 1 11), .ref (ad 2 5), .ref (ad 4 0), .ref (ad 1 12), .ref (ad 2 6), .ref (ad 1 13), .int (gi σ 830 i), .ref (ad 1 14), .ref (ad 1 15), .ref (ad 1 16), .int (gi σ 834 i), .int (gi σ 835 i), .int (gi σ 836 i), .int (gi σ 837 i), .int (gi σ 838 i), .ref (ad 1 17), .ref (ad 1 18), .ref (ad 1 19), .ref (ad 1 20), .ref (ad 1 21), .int (gi σ 844 i), .ref (ad 1 22), .ref (ad 1 23), .int (gi σ 847 i), .ref (ad 1 24), .ref (ad 2 7), .int (gi σ 850 i), .ref (ad 2 8), .int (gi σ 852 i), .ref (ad 1 25), .int (gi σ 854 i), .ref (ad 1 26), .ref (ad 1 27), .ref (ad 1 28)])) = encM Ω ad (si σ 808 i v) := by
  funext f j
  by_cases h : f = 0 ∧ j = i
  · obtain ⟨rfl, rfl⟩ := h
    simp [up2, encM, si, sr, sg, gi, gr, ga]
  · unfold up2
    rw [if_neg h]
    match f, h with
    | 0, h =>
      have hj : ¬ j = i := fun e => h ⟨rfl, e⟩
      simp [up2, hj, encM, si, sr, sg, gi, gr, ga]
    | 1, _ => first | rfl | simp [up2, va_up, encM, si, sr, sg, gi, gr, ga]
    | 2, _ => first | rfl | simp [up2, va_up, encM, si, sr, sg, gi, gr, ga]
    | 3, _ => first | rfl | simp [up2, va_up, encM, si, sr, sg, gi, gr, ga]
    | 4, _ => first | rfl | simp [up2, va_up, encM, si, sr, sg, gi, gr, ga]
    | _ + 5, _ => rfl
theorem pM8_8 (X : Fx Γ Ω A cc nL own rm ret) {v : Int32} (hi : i < 1) (hlk : Cond.fieldLink own index "MappingTextsModel" "printN" "I" ∈ GW) (hd : decode cc pc = .ok (.putfield index, 3)) (kk : V Γ cs Q A nL (PicM Ω ad A (si σ 808 i v)) (pc + 3) lv st) : V Γ cs Q A nL (PicM Ω ad A σ) pc lv (.int v :: .ref (ad 0 i) :: st) := tv_put X (fun H h => h.1) (fun H0 H h0 h => ⟨(congrArg (fun E => PP Ω cntM ad A E H) (eM8_8)).mp h, h0.2⟩) hi rfl rfl inG9 tyX9_ok nmX9 (k := 8) (by decide) hlk rfl rfl rfl rfl (Nat.le_of_ble_eq_true rfl) hd kk
theorem gM8_9 (X : Fx Γ Ω A cc nL own rm ret) (hi : i < 1) (hlk : Cond.fieldLink own index "MappingTextsModel" "faultPlace" "I" ∈ GW) (hd : decode cc pc = .ok (.getfield index, 3)) (kk : V Γ cs Q A nL (PicM Ω ad A σ) (pc + 3) lv (.int (gi σ 809 i) :: st)) : V Γ cs Q A nL (PicM Ω ad A σ) pc lv (.ref (ad 0 i) :: st) := tv_get X (fun H h => h.1) hi rfl rfl inG9 (k := 9) (by decide) hlk rfl hd kk
theorem eM8_9 {v : Int32} : up2 (encM Ω ad σ) 0 i (.inr (8, [.ref (ad 3 0), .ref (ad 3 1), .ref (ad 2 0), .int (gi σ 803 i), .int (gi σ 804 i), .ref (ad 2 1), .int (gi σ 806 i), .ref (ad 2 2), .int (gi σ 808 i), .int v, .int (gi σ 810 i), .ref (ad 1 0), .ref (ad 1 1), .ref (ad 1 2), .ref (ad 1 3), .ref (ad 2 3), .ref (ad 1 4), .ref (ad 1 5), .ref (ad 1 6), .ref (ad 1 7), .ref (ad 1 8), .ref (ad 1 9), .ref (ad 2 4), .ref (ad 1 10), .ref (ad 1 11), .ref (ad 2 5), .ref (ad 4 0), .ref (ad 1 12), .ref (ad 2 6), .ref (ad 1 13), .int (gi σ 830 i), .ref (ad 1 14), .ref (ad 1 15), .ref (ad 1 16), .int (gi σ 834 i), .int (gi σ 835 i), .int (gi σ 836 i), .int (gi σ 837 i), .int (gi σ 838 i), .ref (ad 1 17), .ref (ad 1 18), .ref (ad 1 19), .ref (ad 1 20), .ref (ad 1 21), .int (gi σ 844 i), .ref (ad 1 22), .ref (ad 1 23), .int (gi σ 847 i), .ref (ad 1 24), .ref (ad 2 7), .int (gi σ 850 i), .ref (ad 2 8), .int (gi σ 852 i), .ref (ad 1 25), .int (gi σ 854 i), .ref (ad 1 26), .ref (ad 1 27), .ref (ad 1 28)])) = encM Ω ad (si σ 809 i v) := by
  funext f j
  by_cases h : f = 0 ∧ j = i
  · obtain ⟨rfl, rfl⟩ := h
    simp [up2, encM, si, sr, sg, gi, gr, ga]
  · unfold up2
    rw [if_neg h]
    match f, h with
    | 0, h =>
      have hj : ¬ j = i := fun e => h ⟨rfl, e⟩
      simp [up2, hj, encM, si, sr, sg, gi, gr, ga]
    | 1, _ => first | rfl | simp [up2, va_up, encM, si, sr, sg, gi, gr, ga]
    | 2, _ => first | rfl | simp [up2, va_up, encM, si, sr, sg, gi, gr, ga]
    | 3, _ => first | rfl | simp [up2, va_up, encM, si, sr, sg, gi, gr, ga]
    | 4, _ => first | rfl | simp [up2, va_up, encM, si, sr, sg, gi, gr, ga]
    | _ + 5, _ => rfl
theorem pM8_9 (X : Fx Γ Ω A cc nL own rm ret) {v : Int32} (hi : i < 1) (hlk : Cond.fieldLink own index "MappingTextsModel" "faultPlace" "I" ∈ GW) (hd : decode cc pc = .ok (.putfield index, 3)) (kk : V Γ cs Q A nL (PicM Ω ad A (si σ 809 i v)) (pc + 3) lv st) : V Γ cs Q A nL (PicM Ω ad A σ) pc lv (.int v :: .ref (ad 0 i) :: st) := tv_put X (fun H h => h.1) (fun H0 H h0 h => ⟨(congrArg (fun E => PP Ω cntM ad A E H) (eM8_9)).mp h, h0.2⟩) hi rfl rfl inG9 tyX9_ok nmX9 (k := 9) (by decide) hlk rfl rfl rfl rfl (Nat.le_of_ble_eq_true rfl) hd kk
theorem gM8_10 (X : Fx Γ Ω A cc nL own rm ret) (hi : i < 1) (hlk : Cond.fieldLink own index "MappingTextsModel" "versions" "I" ∈ GW) (hd : decode cc pc = .ok (.getfield index, 3)) (kk : V Γ cs Q A nL (PicM Ω ad A σ) (pc + 3) lv (.int (gi σ 810 i) :: st)) : V Γ cs Q A nL (PicM Ω ad A σ) pc lv (.ref (ad 0 i) :: st) := tv_get X (fun H h => h.1) hi rfl rfl inG9 (k := 10) (by decide) hlk rfl hd kk
theorem eM8_10 {v : Int32} : up2 (encM Ω ad σ) 0 i (.inr (8, [.ref (ad 3 0), .ref (ad 3 1), .ref (ad 2 0), .int (gi σ 803 i), .int (gi σ 804 i), .ref (ad 2 1), .int (gi σ 806 i), .ref (ad 2 2), .int (gi σ 808 i), .int (gi σ 809 i), .int v, .ref (ad 1 0), .ref (ad 1 1), .ref (ad 1 2), .ref (ad 1 3), .ref (ad 2 3), .ref (ad 1 4), .ref (ad 1 5), .ref (ad 1 6), .ref (ad 1 7), .ref (ad 1 8), .ref (ad 1 9), .ref (ad 2 4), .ref (ad 1 10), .ref (ad 1 11), .ref (ad 2 5), .ref (ad 4 0), .ref (ad 1 12), .ref (ad 2 6), .ref (ad 1 13), .int (gi σ 830 i), .ref (ad 1 14), .ref (ad 1 15), .ref (ad 1 16), .int (gi σ 834 i), .int (gi σ 835 i), .int (gi σ 836 i), .int (gi σ 837 i), .int (gi σ 838 i), .ref (ad 1 17), .ref (ad 1 18), .ref (ad 1 19), .ref (ad 1 20), .ref (ad 1 21), .int (gi σ 844 i), .ref (ad 1 22), .ref (ad 1 23), .int (gi σ 847 i), .ref (ad 1 24), .ref (ad 2 7), .int (gi σ 850 i), .ref (ad 2 8), .int (gi σ 852 i), .ref (ad 1 25), .int (gi σ 854 i), .ref (ad 1 26), .ref (ad 1 27), .ref (ad 1 28)])) = encM Ω ad (si σ 810 i v) := by
  funext f j
  by_cases h : f = 0 ∧ j = i
  · obtain ⟨rfl, rfl⟩ := h
    simp [up2, encM, si, sr, sg, gi, gr, ga]
  · unfold up2
    rw [if_neg h]
    match f, h with
    | 0, h =>
      have hj : ¬ j = i := fun e => h ⟨rfl, e⟩
      simp [up2, hj, encM, si, sr, sg, gi, gr, ga]
    | 1, _ => first | rfl | simp [up2, va_up, encM, si, sr, sg, gi, gr, ga]
    | 2, _ => first | rfl | simp [up2, va_up, encM, si, sr, sg, gi, gr, ga]
    | 3, _ => first | rfl | simp [up2, va_up, encM, si, sr, sg, gi, gr, ga]
    | 4, _ => first | rfl | simp [up2, va_up, encM, si, sr, sg, gi, gr, ga]
    | _ + 5, _ => rfl
theorem pM8_10 (X : Fx Γ Ω A cc nL own rm ret) {v : Int32} (hi : i < 1) (hlk : Cond.fieldLink own index "MappingTextsModel" "versions" "I" ∈ GW) (hd : decode cc pc = .ok (.putfield index, 3)) (kk : V Γ cs Q A nL (PicM Ω ad A (si σ 810 i v)) (pc + 3) lv st) : V Γ cs Q A nL (PicM Ω ad A σ) pc lv (.int v :: .ref (ad 0 i) :: st) := tv_put X (fun H h => h.1) (fun H0 H h0 h => ⟨(congrArg (fun E => PP Ω cntM ad A E H) (eM8_10)).mp h, h0.2⟩) hi rfl rfl inG9 tyX9_ok nmX9 (k := 10) (by decide) hlk rfl rfl rfl rfl (Nat.le_of_ble_eq_true rfl) hd kk
theorem gM8_11 (X : Fx Γ Ω A cc nL own rm ret) (hi : i < 1) (hlk : Cond.fieldLink own index "MappingTextsModel" "many" "[I" ∈ GW) (hd : decode cc pc = .ok (.getfield index, 3)) (kk : V Γ cs Q A nL (PicM Ω ad A σ) (pc + 3) lv (.ref (ad 1 0) :: st)) : V Γ cs Q A nL (PicM Ω ad A σ) pc lv (.ref (ad 0 i) :: st) := tv_get X (fun H h => h.1) hi rfl rfl inG9 (k := 11) (by decide) hlk rfl hd kk
theorem gM8_12 (X : Fx Γ Ω A cc nL own rm ret) (hi : i < 1) (hlk : Cond.fieldLink own index "MappingTextsModel" "rules" "[I" ∈ GW) (hd : decode cc pc = .ok (.getfield index, 3)) (kk : V Γ cs Q A nL (PicM Ω ad A σ) (pc + 3) lv (.ref (ad 1 1) :: st)) : V Γ cs Q A nL (PicM Ω ad A σ) pc lv (.ref (ad 0 i) :: st) := tv_get X (fun H h => h.1) hi rfl rfl inG9 (k := 12) (by decide) hlk rfl hd kk
theorem gM8_13 (X : Fx Γ Ω A cc nL own rm ret) (hi : i < 1) (hlk : Cond.fieldLink own index "MappingTextsModel" "limit" "[I" ∈ GW) (hd : decode cc pc = .ok (.getfield index, 3)) (kk : V Γ cs Q A nL (PicM Ω ad A σ) (pc + 3) lv (.ref (ad 1 2) :: st)) : V Γ cs Q A nL (PicM Ω ad A σ) pc lv (.ref (ad 0 i) :: st) := tv_get X (fun H h => h.1) hi rfl rfl inG9 (k := 13) (by decide) hlk rfl hd kk
theorem gM8_14 (X : Fx Γ Ω A cc nL own rm ret) (hi : i < 1) (hlk : Cond.fieldLink own index "MappingTextsModel" "nameLength" "[I" ∈ GW) (hd : decode cc pc = .ok (.getfield index, 3)) (kk : V Γ cs Q A nL (PicM Ω ad A σ) (pc + 3) lv (.ref (ad 1 3) :: st)) : V Γ cs Q A nL (PicM Ω ad A σ) pc lv (.ref (ad 0 i) :: st) := tv_get X (fun H h => h.1) hi rfl rfl inG9 (k := 14) (by decide) hlk rfl hd kk
theorem gM8_15 (X : Fx Γ Ω A cc nL own rm ret) (hi : i < 1) (hlk : Cond.fieldLink own index "MappingTextsModel" "name" "[B" ∈ GW) (hd : decode cc pc = .ok (.getfield index, 3)) (kk : V Γ cs Q A nL (PicM Ω ad A σ) (pc + 3) lv (.ref (ad 2 3) :: st)) : V Γ cs Q A nL (PicM Ω ad A σ) pc lv (.ref (ad 0 i) :: st) := tv_get X (fun H h => h.1) hi rfl rfl inG9 (k := 15) (by decide) hlk rfl hd kk
theorem gM8_16 (X : Fx Γ Ω A cc nL own rm ret) (hi : i < 1) (hlk : Cond.fieldLink own index "MappingTextsModel" "kind" "[I" ∈ GW) (hd : decode cc pc = .ok (.getfield index, 3)) (kk : V Γ cs Q A nL (PicM Ω ad A σ) (pc + 3) lv (.ref (ad 1 4) :: st)) : V Γ cs Q A nL (PicM Ω ad A σ) pc lv (.ref (ad 0 i) :: st) := tv_get X (fun H h => h.1) hi rfl rfl inG9 (k := 16) (by decide) hlk rfl hd kk
theorem gM8_17 (X : Fx Γ Ω A cc nL own rm ret) (hi : i < 1) (hlk : Cond.fieldLink own index "MappingTextsModel" "options" "[I" ∈ GW) (hd : decode cc pc = .ok (.getfield index, 3)) (kk : V Γ cs Q A nL (PicM Ω ad A σ) (pc + 3) lv (.ref (ad 1 5) :: st)) : V Γ cs Q A nL (PicM Ω ad A σ) pc lv (.ref (ad 0 i) :: st) := tv_get X (fun H h => h.1) hi rfl rfl inG9 (k := 17) (by decide) hlk rfl hd kk
theorem gM8_18 (X : Fx Γ Ω A cc nL own rm ret) (hi : i < 1) (hlk : Cond.fieldLink own index "MappingTextsModel" "zero" "[I" ∈ GW) (hd : decode cc pc = .ok (.getfield index, 3)) (kk : V Γ cs Q A nL (PicM Ω ad A σ) (pc + 3) lv (.ref (ad 1 6) :: st)) : V Γ cs Q A nL (PicM Ω ad A σ) pc lv (.ref (ad 0 i) :: st) := tv_get X (fun H h => h.1) hi rfl rfl inG9 (k := 18) (by decide) hlk rfl hd kk
theorem gM8_19 (X : Fx Γ Ω A cc nL own rm ret) (hi : i < 1) (hlk : Cond.fieldLink own index "MappingTextsModel" "copy" "[I" ∈ GW) (hd : decode cc pc = .ok (.getfield index, 3)) (kk : V Γ cs Q A nL (PicM Ω ad A σ) (pc + 3) lv (.ref (ad 1 7) :: st)) : V Γ cs Q A nL (PicM Ω ad A σ) pc lv (.ref (ad 0 i) :: st) := tv_get X (fun H h => h.1) hi rfl rfl inG9 (k := 19) (by decide) hlk rfl hd kk
theorem gM8_20 (X : Fx Γ Ω A cc nL own rm ret) (hi : i < 1) (hlk : Cond.fieldLink own index "MappingTextsModel" "of" "[I" ∈ GW) (hd : decode cc pc = .ok (.getfield index, 3)) (kk : V Γ cs Q A nL (PicM Ω ad A σ) (pc + 3) lv (.ref (ad 1 8) :: st)) : V Γ cs Q A nL (PicM Ω ad A σ) pc lv (.ref (ad 0 i) :: st) := tv_get X (fun H h => h.1) hi rfl rfl inG9 (k := 20) (by decide) hlk rfl hd kk
theorem gM8_21 (X : Fx Γ Ω A cc nL own rm ret) (hi : i < 1) (hlk : Cond.fieldLink own index "MappingTextsModel" "byLength" "[I" ∈ GW) (hd : decode cc pc = .ok (.getfield index, 3)) (kk : V Γ cs Q A nL (PicM Ω ad A σ) (pc + 3) lv (.ref (ad 1 9) :: st)) : V Γ cs Q A nL (PicM Ω ad A σ) pc lv (.ref (ad 0 i) :: st) := tv_get X (fun H h => h.1) hi rfl rfl inG9 (k := 21) (by decide) hlk rfl hd kk
theorem gM8_22 (X : Fx Γ Ω A cc nL own rm ret) (hi : i < 1) (hlk : Cond.fieldLink own index "MappingTextsModel" "by" "[B" ∈ GW) (hd : decode cc pc = .ok (.getfield index, 3)) (kk : V Γ cs Q A nL (PicM Ω ad A σ) (pc + 3) lv (.ref (ad 2 4) :: st)) : V Γ cs Q A nL (PicM Ω ad A σ) pc lv (.ref (ad 0 i) :: st) := tv_get X (fun H h => h.1) hi rfl rfl inG9 (k := 22) (by decide) hlk rfl hd kk
theorem gM8_23 (X : Fx Γ Ω A cc nL own rm ret) (hi : i < 1) (hlk : Cond.fieldLink own index "MappingTextsModel" "holder" "[I" ∈ GW) (hd : decode cc pc = .ok (.getfield index, 3)) (kk : V Γ cs Q A nL (PicM Ω ad A σ) (pc + 3) lv (.ref (ad 1 10) :: st)) : V Γ cs Q A nL (PicM Ω ad A σ) pc lv (.ref (ad 0 i) :: st) := tv_get X (fun H h => h.1) hi rfl rfl inG9 (k := 23) (by decide) hlk rfl hd kk
theorem gM8_24 (X : Fx Γ Ω A cc nL own rm ret) (hi : i < 1) (hlk : Cond.fieldLink own index "MappingTextsModel" "frontLength" "[I" ∈ GW) (hd : decode cc pc = .ok (.getfield index, 3)) (kk : V Γ cs Q A nL (PicM Ω ad A σ) (pc + 3) lv (.ref (ad 1 11) :: st)) : V Γ cs Q A nL (PicM Ω ad A σ) pc lv (.ref (ad 0 i) :: st) := tv_get X (fun H h => h.1) hi rfl rfl inG9 (k := 24) (by decide) hlk rfl hd kk
theorem gM8_25 (X : Fx Γ Ω A cc nL own rm ret) (hi : i < 1) (hlk : Cond.fieldLink own index "MappingTextsModel" "front" "[B" ∈ GW) (hd : decode cc pc = .ok (.getfield index, 3)) (kk : V Γ cs Q A nL (PicM Ω ad A σ) (pc + 3) lv (.ref (ad 2 5) :: st)) : V Γ cs Q A nL (PicM Ω ad A σ) pc lv (.ref (ad 0 i) :: st) := tv_get X (fun H h => h.1) hi rfl rfl inG9 (k := 25) (by decide) hlk rfl hd kk
theorem gM8_26 (X : Fx Γ Ω A cc nL own rm ret) (hi : i < 1) (hlk : Cond.fieldLink own index "MappingTextsModel" "hasStar" "[Z" ∈ GW) (hd : decode cc pc = .ok (.getfield index, 3)) (kk : V Γ cs Q A nL (PicM Ω ad A σ) (pc + 3) lv (.ref (ad 4 0) :: st)) : V Γ cs Q A nL (PicM Ω ad A σ) pc lv (.ref (ad 0 i) :: st) := tv_get X (fun H h => h.1) hi rfl rfl inG9 (k := 26) (by decide) hlk rfl hd kk
theorem gM8_27 (X : Fx Γ Ω A cc nL own rm ret) (hi : i < 1) (hlk : Cond.fieldLink own index "MappingTextsModel" "tailLength" "[I" ∈ GW) (hd : decode cc pc = .ok (.getfield index, 3)) (kk : V Γ cs Q A nL (PicM Ω ad A σ) (pc + 3) lv (.ref (ad 1 12) :: st)) : V Γ cs Q A nL (PicM Ω ad A σ) pc lv (.ref (ad 0 i) :: st) := tv_get X (fun H h => h.1) hi rfl rfl inG9 (k := 27) (by decide) hlk rfl hd kk
theorem gM8_28 (X : Fx Γ Ω A cc nL own rm ret) (hi : i < 1) (hlk : Cond.fieldLink own index "MappingTextsModel" "tail" "[B" ∈ GW) (hd : decode cc pc = .ok (.getfield index, 3)) (kk : V Γ cs Q A nL (PicM Ω ad A σ) (pc + 3) lv (.ref (ad 2 6) :: st)) : V Γ cs Q A nL (PicM Ω ad A σ) pc lv (.ref (ad 0 i) :: st) := tv_get X (fun H h => h.1) hi rfl rfl inG9 (k := 28) (by decide) hlk rfl hd kk
theorem gM8_29 (X : Fx Γ Ω A cc nL own rm ret) (hi : i < 1) (hlk : Cond.fieldLink own index "MappingTextsModel" "ruleKind" "[I" ∈ GW) (hd : decode cc pc = .ok (.getfield index, 3)) (kk : V Γ cs Q A nL (PicM Ω ad A σ) (pc + 3) lv (.ref (ad 1 13) :: st)) : V Γ cs Q A nL (PicM Ω ad A σ) pc lv (.ref (ad 0 i) :: st) := tv_get X (fun H h => h.1) hi rfl rfl inG9 (k := 29) (by decide) hlk rfl hd kk
theorem gM8_30 (X : Fx Γ Ω A cc nL own rm ret) (hi : i < 1) (hlk : Cond.fieldLink own index "MappingTextsModel" "tokens" "I" ∈ GW) (hd : decode cc pc = .ok (.getfield index, 3)) (kk : V Γ cs Q A nL (PicM Ω ad A σ) (pc + 3) lv (.int (gi σ 830 i) :: st)) : V Γ cs Q A nL (PicM Ω ad A σ) pc lv (.ref (ad 0 i) :: st) := tv_get X (fun H h => h.1) hi rfl rfl inG9 (k := 30) (by decide) hlk rfl hd kk
theorem eM8_30 {v : Int32} : up2 (encM Ω ad σ) 0 i (.inr (8, [.ref (ad 3 0), .ref (ad 3 1), .ref (ad 2 0), .int (gi σ 803 i), .int (gi σ 804 i), .ref (ad 2 1), .int (gi σ 806 i), .ref (ad 2 2), .int (gi σ 808 i), .int (gi σ 809 i), .int (gi σ 810 i), .ref (ad 1 0), .ref (ad 1 1), .ref (ad 1 2), .ref (ad 1 3), .ref (ad 2 3), .ref (ad 1 4), .ref (ad 1 5), .ref (ad 1 6), .ref (ad 1 7), .ref (ad 1 8), .ref (ad 1 9), .ref (ad 2 4), .ref (ad 1 10), .ref (ad 1 11), .ref (ad 2 5), .ref (ad 4 0), .ref (ad 1 12), .ref (ad 2 6), .ref (ad 1 13), .int v, .ref (ad 1 14), .ref (ad 1 15), .ref (ad 1 16), .int (gi σ 834 i), .int (gi σ 835 i), .int (gi σ 836 i), .int (gi σ 837 i), .int (gi σ 838 i), .ref (ad 1 17), .ref (ad 1 18), .ref (ad 1 19), .ref (ad 1 20), .ref (ad 1 21), .int (gi σ 844 i), .ref (ad 1 22), .ref (ad 1 23), .int (gi σ 847 i), .ref (ad 1 24), .ref (ad 2 7), .int (gi σ 850 i), .ref (ad 2 8), .int (gi σ 852 i), .ref (ad 1 25), .int (gi σ 854 i), .ref (ad 1 26), .ref (ad 1 27), .ref (ad 1 28)])) = encM Ω ad (si σ 830 i v) := by
  funext f j
  by_cases h : f = 0 ∧ j = i
  · obtain ⟨rfl, rfl⟩ := h
    simp [up2, encM, si, sr, sg, gi, gr, ga]
  · unfold up2
    rw [if_neg h]
    match f, h with
    | 0, h =>
      have hj : ¬ j = i := fun e => h ⟨rfl, e⟩
      simp [up2, hj, encM, si, sr, sg, gi, gr, ga]
    | 1, _ => first | rfl | simp [up2, va_up, encM, si, sr, sg, gi, gr, ga]
    | 2, _ => first | rfl | simp [up2, va_up, encM, si, sr, sg, gi, gr, ga]
    | 3, _ => first | rfl | simp [up2, va_up, encM, si, sr, sg, gi, gr, ga]
    | 4, _ => first | rfl | simp [up2, va_up, encM, si, sr, sg, gi, gr, ga]
    | _ + 5, _ => rfl
theorem pM8_30 (X : Fx Γ Ω A cc nL own rm ret) {v : Int32} (hi : i < 1) (hlk : Cond.fieldLink own index "MappingTextsModel" "tokens" "I" ∈ GW) (hd : decode cc pc = .ok (.putfield index, 3)) (kk : V Γ cs Q A nL (PicM Ω ad A (si σ 830 i v)) (pc + 3) lv st) : V Γ cs Q A nL (PicM Ω ad A σ) pc lv (.int v :: .ref (ad 0 i) :: st) := tv_put X (fun H h => h.1) (fun H0 H h0 h => ⟨(congrArg (fun E => PP Ω cntM ad A E H) (eM8_30)).mp h, h0.2⟩) hi rfl rfl inG9 tyX9_ok nmX9 (k := 30) (by decide) hlk rfl rfl rfl rfl (Nat.le_of_ble_eq_true rfl) hd kk
theorem gM8_31 (X : Fx Γ Ω A cc nL own rm ret) (hi : i < 1) (hlk : Cond.fieldLink own index "MappingTextsModel" "sort" "[I" ∈ GW) (hd : decode cc pc = .ok (.getfield index, 3)) (kk : V Γ cs Q A nL (PicM Ω ad A σ) (pc + 3) lv (.ref (ad 1 14) :: st)) : V Γ cs Q A nL (PicM Ω ad A σ) pc lv (.ref (ad 0 i) :: st) := tv_get X (fun H h => h.1) hi rfl rfl inG9 (k := 31) (by decide) hlk rfl hd kk
theorem gM8_32 (X : Fx Γ Ω A cc nL own rm ret) (hi : i < 1) (hlk : Cond.fieldLink own index "MappingTextsModel" "at" "[I" ∈ GW) (hd : decode cc pc = .ok (.getfield index, 3)) (kk : V Γ cs Q A nL (PicM Ω ad A σ) (pc + 3) lv (.ref (ad 1 15) :: st)) : V Γ cs Q A nL (PicM Ω ad A σ) pc lv (.ref (ad 0 i) :: st) := tv_get X (fun H h => h.1) hi rfl rfl inG9 (k := 32) (by decide) hlk rfl hd kk
theorem gM8_33 (X : Fx Γ Ω A cc nL own rm ret) (hi : i < 1) (hlk : Cond.fieldLink own index "MappingTextsModel" "long0" "[I" ∈ GW) (hd : decode cc pc = .ok (.getfield index, 3)) (kk : V Γ cs Q A nL (PicM Ω ad A σ) (pc + 3) lv (.ref (ad 1 16) :: st)) : V Γ cs Q A nL (PicM Ω ad A σ) pc lv (.ref (ad 0 i) :: st) := tv_get X (fun H h => h.1) hi rfl rfl inG9 (k := 33) (by decide) hlk rfl hd kk
theorem gM8_34 (X : Fx Γ Ω A cc nL own rm ret) (hi : i < 1) (hlk : Cond.fieldLink own index "MappingTextsModel" "tok" "I" ∈ GW) (hd : decode cc pc = .ok (.getfield index, 3)) (kk : V Γ cs Q A nL (PicM Ω ad A σ) (pc + 3) lv (.int (gi σ 834 i) :: st)) : V Γ cs Q A nL (PicM Ω ad A σ) pc lv (.ref (ad 0 i) :: st) := tv_get X (fun H h => h.1) hi rfl rfl inG9 (k := 34) (by decide) hlk rfl hd kk
theorem eM8_34 {v : Int32} : up2 (encM Ω ad σ) 0 i (.inr (8, [.ref (ad 3 0), .ref (ad 3 1), .ref (ad 2 0), .int (gi σ 803 i), .int (gi σ 804 i), .ref (ad 2 1), .int (gi σ 806 i), .ref (ad 2 2), .int (gi σ 808 i), .int (gi σ 809 i), .int (gi σ 810 i), .ref (ad 1 0), .ref (ad 1 1), .ref (ad 1 2), .ref (ad 1 3), .ref (ad 2 3), .ref (ad 1 4), .ref (ad 1 5), .ref (ad 1 6), .ref (ad 1 7), .ref (ad 1 8), .ref (ad 1 9), .ref (ad 2 4), .ref (ad 1 10), .ref (ad 1 11), .ref (ad 2 5), .ref (ad 4 0), .ref (ad 1 12), .ref (ad 2 6), .ref (ad 1 13), .int (gi σ 830 i), .ref (ad 1 14), .ref (ad 1 15), .ref (ad 1 16), .int v, .int (gi σ 835 i), .int (gi σ 836 i), .int (gi σ 837 i), .int (gi σ 838 i), .ref (ad 1 17), .ref (ad 1 18), .ref (ad 1 19), .ref (ad 1 20), .ref (ad 1 21), .int (gi σ 844 i), .ref (ad 1 22), .ref (ad 1 23), .int (gi σ 847 i), .ref (ad 1 24), .ref (ad 2 7), .int (gi σ 850 i), .ref (ad 2 8), .int (gi σ 852 i), .ref (ad 1 25), .int (gi σ 854 i), .ref (ad 1 26), .ref (ad 1 27), .ref (ad 1 28)])) = encM Ω ad (si σ 834 i v) := by
  funext f j
  by_cases h : f = 0 ∧ j = i
  · obtain ⟨rfl, rfl⟩ := h
    simp [up2, encM, si, sr, sg, gi, gr, ga]
  · unfold up2
    rw [if_neg h]
    match f, h with
    | 0, h =>
      have hj : ¬ j = i := fun e => h ⟨rfl, e⟩
      simp [up2, hj, encM, si, sr, sg, gi, gr, ga]
    | 1, _ => first | rfl | simp [up2, va_up, encM, si, sr, sg, gi, gr, ga]
    | 2, _ => first | rfl | simp [up2, va_up, encM, si, sr, sg, gi, gr, ga]
    | 3, _ => first | rfl | simp [up2, va_up, encM, si, sr, sg, gi, gr, ga]
    | 4, _ => first | rfl | simp [up2, va_up, encM, si, sr, sg, gi, gr, ga]
    | _ + 5, _ => rfl
theorem pM8_34 (X : Fx Γ Ω A cc nL own rm ret) {v : Int32} (hi : i < 1) (hlk : Cond.fieldLink own index "MappingTextsModel" "tok" "I" ∈ GW) (hd : decode cc pc = .ok (.putfield index, 3)) (kk : V Γ cs Q A nL (PicM Ω ad A (si σ 834 i v)) (pc + 3) lv st) : V Γ cs Q A nL (PicM Ω ad A σ) pc lv (.int v :: .ref (ad 0 i) :: st) := tv_put X (fun H h => h.1) (fun H0 H h0 h => ⟨(congrArg (fun E => PP Ω cntM ad A E H) (eM8_34)).mp h, h0.2⟩) hi rfl rfl inG9 tyX9_ok nmX9 (k := 34) (by decide) hlk rfl rfl rfl rfl (Nat.le_of_ble_eq_true rfl) hd kk
theorem gM8_35 (X : Fx Γ Ω A cc nL own rm ret) (hi : i < 1) (hlk : Cond.fieldLink own index "MappingTextsModel" "fault" "I" ∈ GW) (hd : decode cc pc = .ok (.getfield index, 3)) (kk : V Γ cs Q A nL (PicM Ω ad A σ) (pc + 3) lv (.int (gi σ 835 i) :: st)) : V Γ cs Q A nL (PicM Ω ad A σ) pc lv (.ref (ad 0 i) :: st) := tv_get X (fun H h => h.1) hi rfl rfl inG9 (k := 35) (by decide) hlk rfl hd kk
theorem eM8_35 {v : Int32} : up2 (encM Ω ad σ) 0 i (.inr (8, [.ref (ad 3 0), .ref (ad 3 1), .ref (ad 2 0), .int (gi σ 803 i), .int (gi σ 804 i), .ref (ad 2 1), .int (gi σ 806 i), .ref (ad 2 2), .int (gi σ 808 i), .int (gi σ 809 i), .int (gi σ 810 i), .ref (ad 1 0), .ref (ad 1 1), .ref (ad 1 2), .ref (ad 1 3), .ref (ad 2 3), .ref (ad 1 4), .ref (ad 1 5), .ref (ad 1 6), .ref (ad 1 7), .ref (ad 1 8), .ref (ad 1 9), .ref (ad 2 4), .ref (ad 1 10), .ref (ad 1 11), .ref (ad 2 5), .ref (ad 4 0), .ref (ad 1 12), .ref (ad 2 6), .ref (ad 1 13), .int (gi σ 830 i), .ref (ad 1 14), .ref (ad 1 15), .ref (ad 1 16), .int (gi σ 834 i), .int v, .int (gi σ 836 i), .int (gi σ 837 i), .int (gi σ 838 i), .ref (ad 1 17), .ref (ad 1 18), .ref (ad 1 19), .ref (ad 1 20), .ref (ad 1 21), .int (gi σ 844 i), .ref (ad 1 22), .ref (ad 1 23), .int (gi σ 847 i), .ref (ad 1 24), .ref (ad 2 7), .int (gi σ 850 i), .ref (ad 2 8), .int (gi σ 852 i), .ref (ad 1 25), .int (gi σ 854 i), .ref (ad 1 26), .ref (ad 1 27), .ref (ad 1 28)])) = encM Ω ad (si σ 835 i v) := by
  funext f j
  by_cases h : f = 0 ∧ j = i
  · obtain ⟨rfl, rfl⟩ := h
    simp [up2, encM, si, sr, sg, gi, gr, ga]
  · unfold up2
    rw [if_neg h]
    match f, h with
    | 0, h =>
      have hj : ¬ j = i := fun e => h ⟨rfl, e⟩
      simp [up2, hj, encM, si, sr, sg, gi, gr, ga]
    | 1, _ => first | rfl | simp [up2, va_up, encM, si, sr, sg, gi, gr, ga]
    | 2, _ => first | rfl | simp [up2, va_up, encM, si, sr, sg, gi, gr, ga]
    | 3, _ => first | rfl | simp [up2, va_up, encM, si, sr, sg, gi, gr, ga]
    | 4, _ => first | rfl | simp [up2, va_up, encM, si, sr, sg, gi, gr, ga]
    | _ + 5, _ => rfl
theorem pM8_35 (X : Fx Γ Ω A cc nL own rm ret) {v : Int32} (hi : i < 1) (hlk : Cond.fieldLink own index "MappingTextsModel" "fault" "I" ∈ GW) (hd : decode cc pc = .ok (.putfield index, 3)) (kk : V Γ cs Q A nL (PicM Ω ad A (si σ 835 i v)) (pc + 3) lv st) : V Γ cs Q A nL (PicM Ω ad A σ) pc lv (.int v :: .ref (ad 0 i) :: st) := tv_put X (fun H h => h.1) (fun H0 H h0 h => ⟨(congrArg (fun E => PP Ω cntM ad A E H) (eM8_35)).mp h, h0.2⟩) hi rfl rfl inG9 tyX9_ok nmX9 (k := 35) (by decide) hlk rfl rfl rfl rfl (Nat.le_of_ble_eq_true rfl) hd kk
theorem gM8_36 (X : Fx Γ Ω A cc nL own rm ret) (hi : i < 1) (hlk : Cond.fieldLink own index "MappingTextsModel" "wrong" "I" ∈ GW) (hd : decode cc pc = .ok (.getfield index, 3)) (kk : V Γ cs Q A nL (PicM Ω ad A σ) (pc + 3) lv (.int (gi σ 836 i) :: st)) : V Γ cs Q A nL (PicM Ω ad A σ) pc lv (.ref (ad 0 i) :: st) := tv_get X (fun H h => h.1) hi rfl rfl inG9 (k := 36) (by decide) hlk rfl hd kk
theorem eM8_36 {v : Int32} : up2 (encM Ω ad σ) 0 i (.inr (8, [.ref (ad 3 0), .ref (ad 3 1), .ref (ad 2 0), .int (gi σ 803 i), .int (gi σ 804 i), .ref (ad 2 1), .int (gi σ 806 i), .ref (ad 2 2), .int (gi σ 808 i), .int (gi σ 809 i), .int (gi σ 810 i), .ref (ad 1 0), .ref (ad 1 1), .ref (ad 1 2), .ref (ad 1 3), .ref (ad 2 3), .ref (ad 1 4), .ref (ad 1 5), .ref (ad 1 6), .ref (ad 1 7), .ref (ad 1 8), .ref (ad 1 9), .ref (ad 2 4), .ref (ad 1 10), .ref (ad 1 11), .ref (ad 2 5), .ref (ad 4 0), .ref (ad 1 12), .ref (ad 2 6), .ref (ad 1 13), .int (gi σ 830 i), .ref (ad 1 14), .ref (ad 1 15), .ref (ad 1 16), .int (gi σ 834 i), .int (gi σ 835 i), .int v, .int (gi σ 837 i), .int (gi σ 838 i), .ref (ad 1 17), .ref (ad 1 18), .ref (ad 1 19), .ref (ad 1 20), .ref (ad 1 21), .int (gi σ 844 i), .ref (ad 1 22), .ref (ad 1 23), .int (gi σ 847 i), .ref (ad 1 24), .ref (ad 2 7), .int (gi σ 850 i), .ref (ad 2 8), .int (gi σ 852 i), .ref (ad 1 25), .int (gi σ 854 i), .ref (ad 1 26), .ref (ad 1 27), .ref (ad 1 28)])) = encM Ω ad (si σ 836 i v) := by
  funext f j
  by_cases h : f = 0 ∧ j = i
  · obtain ⟨rfl, rfl⟩ := h
    simp [up2, encM, si, sr, sg, gi, gr, ga]
  · unfold up2
    rw [if_neg h]
    match f, h with
    | 0, h =>
      have hj : ¬ j = i := fun e => h ⟨rfl, e⟩
      simp [up2, hj, encM, si, sr, sg, gi, gr, ga]
    | 1, _ => first | rfl | simp [up2, va_up, encM, si, sr, sg, gi, gr, ga]
    | 2, _ => first | rfl | simp [up2, va_up, encM, si, sr, sg, gi, gr, ga]
    | 3, _ => first | rfl | simp [up2, va_up, encM, si, sr, sg, gi, gr, ga]
    | 4, _ => first | rfl | simp [up2, va_up, encM, si, sr, sg, gi, gr, ga]
    | _ + 5, _ => rfl
theorem pM8_36 (X : Fx Γ Ω A cc nL own rm ret) {v : Int32} (hi : i < 1) (hlk : Cond.fieldLink own index "MappingTextsModel" "wrong" "I" ∈ GW) (hd : decode cc pc = .ok (.putfield index, 3)) (kk : V Γ cs Q A nL (PicM Ω ad A (si σ 836 i v)) (pc + 3) lv st) : V Γ cs Q A nL (PicM Ω ad A σ) pc lv (.int v :: .ref (ad 0 i) :: st) := tv_put X (fun H h => h.1) (fun H0 H h0 h => ⟨(congrArg (fun E => PP Ω cntM ad A E H) (eM8_36)).mp h, h0.2⟩) hi rfl rfl inG9 tyX9_ok nmX9 (k := 36) (by decide) hlk rfl rfl rfl rfl (Nat.le_of_ble_eq_true rfl) hd kk
theorem gM8_37 (X : Fx Γ Ω A cc nL own rm ret) (hi : i < 1) (hlk : Cond.fieldLink own index "MappingTextsModel" "wrongAt" "I" ∈ GW) (hd : decode cc pc = .ok (.getfield index, 3)) (kk : V Γ cs Q A nL (PicM Ω ad A σ) (pc + 3) lv (.int (gi σ 837 i) :: st)) : V Γ cs Q A nL (PicM Ω ad A σ) pc lv (.ref (ad 0 i) :: st) := tv_get X (fun H h => h.1) hi rfl rfl inG9 (k := 37) (by decide) hlk rfl hd kk
theorem eM8_37 {v : Int32} : up2 (encM Ω ad σ) 0 i (.inr (8, [.ref (ad 3 0), .ref (ad 3 1), .ref (ad 2 0), .int (gi σ 803 i), .int (gi σ 804 i), .ref (ad 2 1), .int (gi σ 806 i), .ref (ad 2 2), .int (gi σ 808 i), .int (gi σ 809 i), .int (gi σ 810 i), .ref (ad 1 0), .ref (ad 1 1), .ref (ad 1 2), .ref (ad 1 3), .ref (ad 2 3), .ref (ad 1 4), .ref (ad 1 5), .ref (ad 1 6), .ref (ad 1 7), .ref (ad 1 8), .ref (ad 1 9), .ref (ad 2 4), .ref (ad 1 10), .ref (ad 1 11), .ref (ad 2 5), .ref (ad 4 0), .ref (ad 1 12), .ref (ad 2 6), .ref (ad 1 13), .int (gi σ 830 i), .ref (ad 1 14), .ref (ad 1 15), .ref (ad 1 16), .int (gi σ 834 i), .int (gi σ 835 i), .int (gi σ 836 i), .int v, .int (gi σ 838 i), .ref (ad 1 17), .ref (ad 1 18), .ref (ad 1 19), .ref (ad 1 20), .ref (ad 1 21), .int (gi σ 844 i), .ref (ad 1 22), .ref (ad 1 23), .int (gi σ 847 i), .ref (ad 1 24), .ref (ad 2 7), .int (gi σ 850 i), .ref (ad 2 8), .int (gi σ 852 i), .ref (ad 1 25), .int (gi σ 854 i), .ref (ad 1 26), .ref (ad 1 27), .ref (ad 1 28)])) = encM Ω ad (si σ 837 i v) := by
  funext f j
  by_cases h : f = 0 ∧ j = i
  · obtain ⟨rfl, rfl⟩ := h
    simp [up2, encM, si, sr, sg, gi, gr, ga]
  · unfold up2
    rw [if_neg h]
    match f, h with
    | 0, h =>
      have hj : ¬ j = i := fun e => h ⟨rfl, e⟩
      simp [up2, hj, encM, si, sr, sg, gi, gr, ga]
    | 1, _ => first | rfl | simp [up2, va_up, encM, si, sr, sg, gi, gr, ga]
    | 2, _ => first | rfl | simp [up2, va_up, encM, si, sr, sg, gi, gr, ga]
    | 3, _ => first | rfl | simp [up2, va_up, encM, si, sr, sg, gi, gr, ga]
    | 4, _ => first | rfl | simp [up2, va_up, encM, si, sr, sg, gi, gr, ga]
    | _ + 5, _ => rfl
theorem pM8_37 (X : Fx Γ Ω A cc nL own rm ret) {v : Int32} (hi : i < 1) (hlk : Cond.fieldLink own index "MappingTextsModel" "wrongAt" "I" ∈ GW) (hd : decode cc pc = .ok (.putfield index, 3)) (kk : V Γ cs Q A nL (PicM Ω ad A (si σ 837 i v)) (pc + 3) lv st) : V Γ cs Q A nL (PicM Ω ad A σ) pc lv (.int v :: .ref (ad 0 i) :: st) := tv_put X (fun H h => h.1) (fun H0 H h0 h => ⟨(congrArg (fun E => PP Ω cntM ad A E H) (eM8_37)).mp h, h0.2⟩) hi rfl rfl inG9 tyX9_ok nmX9 (k := 37) (by decide) hlk rfl rfl rfl rfl (Nat.le_of_ble_eq_true rfl) hd kk
theorem gM8_38 (X : Fx Γ Ω A cc nL own rm ret) (hi : i < 1) (hlk : Cond.fieldLink own index "MappingTextsModel" "paths" "I" ∈ GW) (hd : decode cc pc = .ok (.getfield index, 3)) (kk : V Γ cs Q A nL (PicM Ω ad A σ) (pc + 3) lv (.int (gi σ 838 i) :: st)) : V Γ cs Q A nL (PicM Ω ad A σ) pc lv (.ref (ad 0 i) :: st) := tv_get X (fun H h => h.1) hi rfl rfl inG9 (k := 38) (by decide) hlk rfl hd kk
theorem eM8_38 {v : Int32} : up2 (encM Ω ad σ) 0 i (.inr (8, [.ref (ad 3 0), .ref (ad 3 1), .ref (ad 2 0), .int (gi σ 803 i), .int (gi σ 804 i), .ref (ad 2 1), .int (gi σ 806 i), .ref (ad 2 2), .int (gi σ 808 i), .int (gi σ 809 i), .int (gi σ 810 i), .ref (ad 1 0), .ref (ad 1 1), .ref (ad 1 2), .ref (ad 1 3), .ref (ad 2 3), .ref (ad 1 4), .ref (ad 1 5), .ref (ad 1 6), .ref (ad 1 7), .ref (ad 1 8), .ref (ad 1 9), .ref (ad 2 4), .ref (ad 1 10), .ref (ad 1 11), .ref (ad 2 5), .ref (ad 4 0), .ref (ad 1 12), .ref (ad 2 6), .ref (ad 1 13), .int (gi σ 830 i), .ref (ad 1 14), .ref (ad 1 15), .ref (ad 1 16), .int (gi σ 834 i), .int (gi σ 835 i), .int (gi σ 836 i), .int (gi σ 837 i), .int v, .ref (ad 1 17), .ref (ad 1 18), .ref (ad 1 19), .ref (ad 1 20), .ref (ad 1 21), .int (gi σ 844 i), .ref (ad 1 22), .ref (ad 1 23), .int (gi σ 847 i), .ref (ad 1 24), .ref (ad 2 7), .int (gi σ 850 i), .ref (ad 2 8), .int (gi σ 852 i), .ref (ad 1 25), .int (gi σ 854 i), .ref (ad 1 26), .ref (ad 1 27), .ref (ad 1 28)])) = encM Ω ad (si σ 838 i v) := by
  funext f j
  by_cases h : f = 0 ∧ j = i
  · obtain ⟨rfl, rfl⟩ := h
    simp [up2, encM, si, sr, sg, gi, gr, ga]
  · unfold up2
    rw [if_neg h]
    match f, h with
    | 0, h =>
      have hj : ¬ j = i := fun e => h ⟨rfl, e⟩
      simp [up2, hj, encM, si, sr, sg, gi, gr, ga]
    | 1, _ => first | rfl | simp [up2, va_up, encM, si, sr, sg, gi, gr, ga]
    | 2, _ => first | rfl | simp [up2, va_up, encM, si, sr, sg, gi, gr, ga]
    | 3, _ => first | rfl | simp [up2, va_up, encM, si, sr, sg, gi, gr, ga]
    | 4, _ => first | rfl | simp [up2, va_up, encM, si, sr, sg, gi, gr, ga]
    | _ + 5, _ => rfl
theorem pM8_38 (X : Fx Γ Ω A cc nL own rm ret) {v : Int32} (hi : i < 1) (hlk : Cond.fieldLink own index "MappingTextsModel" "paths" "I" ∈ GW) (hd : decode cc pc = .ok (.putfield index, 3)) (kk : V Γ cs Q A nL (PicM Ω ad A (si σ 838 i v)) (pc + 3) lv st) : V Γ cs Q A nL (PicM Ω ad A σ) pc lv (.int v :: .ref (ad 0 i) :: st) := tv_put X (fun H h => h.1) (fun H0 H h0 h => ⟨(congrArg (fun E => PP Ω cntM ad A E H) (eM8_38)).mp h, h0.2⟩) hi rfl rfl inG9 tyX9_ok nmX9 (k := 38) (by decide) hlk rfl rfl rfl rfl (Nat.le_of_ble_eq_true rfl) hd kk
theorem gM8_39 (X : Fx Γ Ω A cc nL own rm ret) (hi : i < 1) (hlk : Cond.fieldLink own index "MappingTextsModel" "pathField" "[I" ∈ GW) (hd : decode cc pc = .ok (.getfield index, 3)) (kk : V Γ cs Q A nL (PicM Ω ad A σ) (pc + 3) lv (.ref (ad 1 17) :: st)) : V Γ cs Q A nL (PicM Ω ad A σ) pc lv (.ref (ad 0 i) :: st) := tv_get X (fun H h => h.1) hi rfl rfl inG9 (k := 39) (by decide) hlk rfl hd kk
theorem gM8_40 (X : Fx Γ Ω A cc nL own rm ret) (hi : i < 1) (hlk : Cond.fieldLink own index "MappingTextsModel" "pathSort" "[I" ∈ GW) (hd : decode cc pc = .ok (.getfield index, 3)) (kk : V Γ cs Q A nL (PicM Ω ad A σ) (pc + 3) lv (.ref (ad 1 18) :: st)) : V Γ cs Q A nL (PicM Ω ad A σ) pc lv (.ref (ad 0 i) :: st) := tv_get X (fun H h => h.1) hi rfl rfl inG9 (k := 40) (by decide) hlk rfl hd kk
theorem gM8_41 (X : Fx Γ Ω A cc nL own rm ret) (hi : i < 1) (hlk : Cond.fieldLink own index "MappingTextsModel" "pathTok" "[I" ∈ GW) (hd : decode cc pc = .ok (.getfield index, 3)) (kk : V Γ cs Q A nL (PicM Ω ad A σ) (pc + 3) lv (.ref (ad 1 19) :: st)) : V Γ cs Q A nL (PicM Ω ad A σ) pc lv (.ref (ad 0 i) :: st) := tv_get X (fun H h => h.1) hi rfl rfl inG9 (k := 41) (by decide) hlk rfl hd kk
theorem gM8_42 (X : Fx Γ Ω A cc nL own rm ret) (hi : i < 1) (hlk : Cond.fieldLink own index "MappingTextsModel" "pathNames" "[I" ∈ GW) (hd : decode cc pc = .ok (.getfield index, 3)) (kk : V Γ cs Q A nL (PicM Ω ad A σ) (pc + 3) lv (.ref (ad 1 20) :: st)) : V Γ cs Q A nL (PicM Ω ad A σ) pc lv (.ref (ad 0 i) :: st) := tv_get X (fun H h => h.1) hi rfl rfl inG9 (k := 42) (by decide) hlk rfl hd kk
theorem gM8_43 (X : Fx Γ Ω A cc nL own rm ret) (hi : i < 1) (hlk : Cond.fieldLink own index "MappingTextsModel" "pathOption" "[I" ∈ GW) (hd : decode cc pc = .ok (.getfield index, 3)) (kk : V Γ cs Q A nL (PicM Ω ad A σ) (pc + 3) lv (.ref (ad 1 21) :: st)) : V Γ cs Q A nL (PicM Ω ad A σ) pc lv (.ref (ad 0 i) :: st) := tv_get X (fun H h => h.1) hi rfl rfl inG9 (k := 43) (by decide) hlk rfl hd kk
theorem gM8_44 (X : Fx Γ Ω A cc nL own rm ret) (hi : i < 1) (hlk : Cond.fieldLink own index "MappingTextsModel" "limits" "I" ∈ GW) (hd : decode cc pc = .ok (.getfield index, 3)) (kk : V Γ cs Q A nL (PicM Ω ad A σ) (pc + 3) lv (.int (gi σ 844 i) :: st)) : V Γ cs Q A nL (PicM Ω ad A σ) pc lv (.ref (ad 0 i) :: st) := tv_get X (fun H h => h.1) hi rfl rfl inG9 (k := 44) (by decide) hlk rfl hd kk
theorem eM8_44 {v : Int32} : up2 (encM Ω ad σ) 0 i (.inr (8, [.ref (ad 3 0), .ref (ad 3 1), .ref (ad 2 0), .int (gi σ 803 i), .int (gi σ 804 i), .ref (ad 2 1), .int (gi σ 806 i), .ref (ad 2 2), .int (gi σ 808 i), .int (gi σ 809 i), .int (gi σ 810 i), .ref (ad 1 0), .ref (ad 1 1), .ref (ad 1 2), .ref (ad 1 3), .ref (ad 2 3), .ref (ad 1 4), .ref (ad 1 5), .ref (ad 1 6), .ref (ad 1 7), .ref (ad 1 8), .ref (ad 1 9), .ref (ad 2 4), .ref (ad 1 10), .ref (ad 1 11), .ref (ad 2 5), .ref (ad 4 0), .ref (ad 1 12), .ref (ad 2 6), .ref (ad 1 13), .int (gi σ 830 i), .ref (ad 1 14), .ref (ad 1 15), .ref (ad 1 16), .int (gi σ 834 i), .int (gi σ 835 i), .int (gi σ 836 i), .int (gi σ 837 i), .int (gi σ 838 i), .ref (ad 1 17), .ref (ad 1 18), .ref (ad 1 19), .ref (ad 1 20), .ref (ad 1 21), .int v, .ref (ad 1 22), .ref (ad 1 23), .int (gi σ 847 i), .ref (ad 1 24), .ref (ad 2 7), .int (gi σ 850 i), .ref (ad 2 8), .int (gi σ 852 i), .ref (ad 1 25), .int (gi σ 854 i), .ref (ad 1 26), .ref (ad 1 27), .ref (ad 1 28)])) = encM Ω ad (si σ 844 i v) := by
  funext f j
  by_cases h : f = 0 ∧ j = i
  · obtain ⟨rfl, rfl⟩ := h
    simp [up2, encM, si, sr, sg, gi, gr, ga]
  · unfold up2
    rw [if_neg h]
    match f, h with
    | 0, h =>
      have hj : ¬ j = i := fun e => h ⟨rfl, e⟩
      simp [up2, hj, encM, si, sr, sg, gi, gr, ga]
    | 1, _ => first | rfl | simp [up2, va_up, encM, si, sr, sg, gi, gr, ga]
    | 2, _ => first | rfl | simp [up2, va_up, encM, si, sr, sg, gi, gr, ga]
    | 3, _ => first | rfl | simp [up2, va_up, encM, si, sr, sg, gi, gr, ga]
    | 4, _ => first | rfl | simp [up2, va_up, encM, si, sr, sg, gi, gr, ga]
    | _ + 5, _ => rfl
theorem pM8_44 (X : Fx Γ Ω A cc nL own rm ret) {v : Int32} (hi : i < 1) (hlk : Cond.fieldLink own index "MappingTextsModel" "limits" "I" ∈ GW) (hd : decode cc pc = .ok (.putfield index, 3)) (kk : V Γ cs Q A nL (PicM Ω ad A (si σ 844 i v)) (pc + 3) lv st) : V Γ cs Q A nL (PicM Ω ad A σ) pc lv (.int v :: .ref (ad 0 i) :: st) := tv_put X (fun H h => h.1) (fun H0 H h0 h => ⟨(congrArg (fun E => PP Ω cntM ad A E H) (eM8_44)).mp h, h0.2⟩) hi rfl rfl inG9 tyX9_ok nmX9 (k := 44) (by decide) hlk rfl rfl rfl rfl (Nat.le_of_ble_eq_true rfl) hd kk
theorem gM8_45 (X : Fx Γ Ω A cc nL own rm ret) (hi : i < 1) (hlk : Cond.fieldLink own index "MappingTextsModel" "limitTok" "[I" ∈ GW) (hd : decode cc pc = .ok (.getfield index, 3)) (kk : V Γ cs Q A nL (PicM Ω ad A σ) (pc + 3) lv (.ref (ad 1 22) :: st)) : V Γ cs Q A nL (PicM Ω ad A σ) pc lv (.ref (ad 0 i) :: st) := tv_get X (fun H h => h.1) hi rfl rfl inG9 (k := 45) (by decide) hlk rfl hd kk
theorem gM8_46 (X : Fx Γ Ω A cc nL own rm ret) (hi : i < 1) (hlk : Cond.fieldLink own index "MappingTextsModel" "nameTok" "[I" ∈ GW) (hd : decode cc pc = .ok (.getfield index, 3)) (kk : V Γ cs Q A nL (PicM Ω ad A σ) (pc + 3) lv (.ref (ad 1 23) :: st)) : V Γ cs Q A nL (PicM Ω ad A σ) pc lv (.ref (ad 0 i) :: st) := tv_get X (fun H h => h.1) hi rfl rfl inG9 (k := 46) (by decide) hlk rfl hd kk
theorem gM8_47 (X : Fx Γ Ω A cc nL own rm ret) (hi : i < 1) (hlk : Cond.fieldLink own index "MappingTextsModel" "depth" "I" ∈ GW) (hd : decode cc pc = .ok (.getfield index, 3)) (kk : V Γ cs Q A nL (PicM Ω ad A σ) (pc + 3) lv (.int (gi σ 847 i) :: st)) : V Γ cs Q A nL (PicM Ω ad A σ) pc lv (.ref (ad 0 i) :: st) := tv_get X (fun H h => h.1) hi rfl rfl inG9 (k := 47) (by decide) hlk rfl hd kk
theorem eM8_47 {v : Int32} : up2 (encM Ω ad σ) 0 i (.inr (8, [.ref (ad 3 0), .ref (ad 3 1), .ref (ad 2 0), .int (gi σ 803 i), .int (gi σ 804 i), .ref (ad 2 1), .int (gi σ 806 i), .ref (ad 2 2), .int (gi σ 808 i), .int (gi σ 809 i), .int (gi σ 810 i), .ref (ad 1 0), .ref (ad 1 1), .ref (ad 1 2), .ref (ad 1 3), .ref (ad 2 3), .ref (ad 1 4), .ref (ad 1 5), .ref (ad 1 6), .ref (ad 1 7), .ref (ad 1 8), .ref (ad 1 9), .ref (ad 2 4), .ref (ad 1 10), .ref (ad 1 11), .ref (ad 2 5), .ref (ad 4 0), .ref (ad 1 12), .ref (ad 2 6), .ref (ad 1 13), .int (gi σ 830 i), .ref (ad 1 14), .ref (ad 1 15), .ref (ad 1 16), .int (gi σ 834 i), .int (gi σ 835 i), .int (gi σ 836 i), .int (gi σ 837 i), .int (gi σ 838 i), .ref (ad 1 17), .ref (ad 1 18), .ref (ad 1 19), .ref (ad 1 20), .ref (ad 1 21), .int (gi σ 844 i), .ref (ad 1 22), .ref (ad 1 23), .int v, .ref (ad 1 24), .ref (ad 2 7), .int (gi σ 850 i), .ref (ad 2 8), .int (gi σ 852 i), .ref (ad 1 25), .int (gi σ 854 i), .ref (ad 1 26), .ref (ad 1 27), .ref (ad 1 28)])) = encM Ω ad (si σ 847 i v) := by
  funext f j
  by_cases h : f = 0 ∧ j = i
  · obtain ⟨rfl, rfl⟩ := h
    simp [up2, encM, si, sr, sg, gi, gr, ga]
  · unfold up2
    rw [if_neg h]
    match f, h with
    | 0, h =>
      have hj : ¬ j = i := fun e => h ⟨rfl, e⟩
      simp [up2, hj, encM, si, sr, sg, gi, gr, ga]
    | 1, _ => first | rfl | simp [up2, va_up, encM, si, sr, sg, gi, gr, ga]
    | 2, _ => first | rfl | simp [up2, va_up, encM, si, sr, sg, gi, gr, ga]
    | 3, _ => first | rfl | simp [up2, va_up, encM, si, sr, sg, gi, gr, ga]
    | 4, _ => first | rfl | simp [up2, va_up, encM, si, sr, sg, gi, gr, ga]
    | _ + 5, _ => rfl
theorem pM8_47 (X : Fx Γ Ω A cc nL own rm ret) {v : Int32} (hi : i < 1) (hlk : Cond.fieldLink own index "MappingTextsModel" "depth" "I" ∈ GW) (hd : decode cc pc = .ok (.putfield index, 3)) (kk : V Γ cs Q A nL (PicM Ω ad A (si σ 847 i v)) (pc + 3) lv st) : V Γ cs Q A nL (PicM Ω ad A σ) pc lv (.int v :: .ref (ad 0 i) :: st) := tv_put X (fun H h => h.1) (fun H0 H h0 h => ⟨(congrArg (fun E => PP Ω cntM ad A E H) (eM8_47)).mp h, h0.2⟩) hi rfl rfl inG9 tyX9_ok nmX9 (k := 47) (by decide) hlk rfl rfl rfl rfl (Nat.le_of_ble_eq_true rfl) hd kk
theorem gM8_48 (X : Fx Γ Ω A cc nL own rm ret) (hi : i < 1) (hlk : Cond.fieldLink own index "MappingTextsModel" "pile" "[I" ∈ GW) (hd : decode cc pc = .ok (.getfield index, 3)) (kk : V Γ cs Q A nL (PicM Ω ad A σ) (pc + 3) lv (.ref (ad 1 24) :: st)) : V Γ cs Q A nL (PicM Ω ad A σ) pc lv (.ref (ad 0 i) :: st) := tv_get X (fun H h => h.1) hi rfl rfl inG9 (k := 48) (by decide) hlk rfl hd kk
theorem gM8_49 (X : Fx Γ Ω A cc nL own rm ret) (hi : i < 1) (hlk : Cond.fieldLink own index "MappingTextsModel" "path" "[B" ∈ GW) (hd : decode cc pc = .ok (.getfield index, 3)) (kk : V Γ cs Q A nL (PicM Ω ad A σ) (pc + 3) lv (.ref (ad 2 7) :: st)) : V Γ cs Q A nL (PicM Ω ad A σ) pc lv (.ref (ad 0 i) :: st) := tv_get X (fun H h => h.1) hi rfl rfl inG9 (k := 49) (by decide) hlk rfl hd kk
theorem gM8_50 (X : Fx Γ Ω A cc nL own rm ret) (hi : i < 1) (hlk : Cond.fieldLink own index "MappingTextsModel" "pathN" "I" ∈ GW) (hd : decode cc pc = .ok (.getfield index, 3)) (kk : V Γ cs Q A nL (PicM Ω ad A σ) (pc + 3) lv (.int (gi σ 850 i) :: st)) : V Γ cs Q A nL (PicM Ω ad A σ) pc lv (.ref (ad 0 i) :: st) := tv_get X (fun H h => h.1) hi rfl rfl inG9 (k := 50) (by decide) hlk rfl hd kk
theorem eM8_50 {v : Int32} : up2 (encM Ω ad σ) 0 i (.inr (8, [.ref (ad 3 0), .ref (ad 3 1), .ref (ad 2 0), .int (gi σ 803 i), .int (gi σ 804 i), .ref (ad 2 1), .int (gi σ 806 i), .ref (ad 2 2), .int (gi σ 808 i), .int (gi σ 809 i), .int (gi σ 810 i), .ref (ad 1 0), .ref (ad 1 1), .ref (ad 1 2), .ref (ad 1 3), .ref (ad 2 3), .ref (ad 1 4), .ref (ad 1 5), .ref (ad 1 6), .ref (ad 1 7), .ref (ad 1 8), .ref (ad 1 9), .ref (ad 2 4), .ref (ad 1 10), .ref (ad 1 11), .ref (ad 2 5), .ref (ad 4 0), .ref (ad 1 12), .ref (ad 2 6), .ref (ad 1 13), .int (gi σ 830 i), .ref (ad 1 14), .ref (ad 1 15), .ref (ad 1 16), .int (gi σ 834 i), .int (gi σ 835 i), .int (gi σ 836 i), .int (gi σ 837 i), .int (gi σ 838 i), .ref (ad 1 17), .ref (ad 1 18), .ref (ad 1 19), .ref (ad 1 20), .ref (ad 1 21), .int (gi σ 844 i), .ref (ad 1 22), .ref (ad 1 23), .int (gi σ 847 i), .ref (ad 1 24), .ref (ad 2 7), .int v, .ref (ad 2 8), .int (gi σ 852 i), .ref (ad 1 25), .int (gi σ 854 i), .ref (ad 1 26), .ref (ad 1 27), .ref (ad 1 28)])) = encM Ω ad (si σ 850 i v) := by
  funext f j
  by_cases h : f = 0 ∧ j = i
  · obtain ⟨rfl, rfl⟩ := h
    simp [up2, encM, si, sr, sg, gi, gr, ga]
  · unfold up2
    rw [if_neg h]
    match f, h with
    | 0, h =>
      have hj : ¬ j = i := fun e => h ⟨rfl, e⟩
      simp [up2, hj, encM, si, sr, sg, gi, gr, ga]
    | 1, _ => first | rfl | simp [up2, va_up, encM, si, sr, sg, gi, gr, ga]
    | 2, _ => first | rfl | simp [up2, va_up, encM, si, sr, sg, gi, gr, ga]
    | 3, _ => first | rfl | simp [up2, va_up, encM, si, sr, sg, gi, gr, ga]
    | 4, _ => first | rfl | simp [up2, va_up, encM, si, sr, sg, gi, gr, ga]
    | _ + 5, _ => rfl
theorem pM8_50 (X : Fx Γ Ω A cc nL own rm ret) {v : Int32} (hi : i < 1) (hlk : Cond.fieldLink own index "MappingTextsModel" "pathN" "I" ∈ GW) (hd : decode cc pc = .ok (.putfield index, 3)) (kk : V Γ cs Q A nL (PicM Ω ad A (si σ 850 i v)) (pc + 3) lv st) : V Γ cs Q A nL (PicM Ω ad A σ) pc lv (.int v :: .ref (ad 0 i) :: st) := tv_put X (fun H h => h.1) (fun H0 H h0 h => ⟨(congrArg (fun E => PP Ω cntM ad A E H) (eM8_50)).mp h, h0.2⟩) hi rfl rfl inG9 tyX9_ok nmX9 (k := 50) (by decide) hlk rfl rfl rfl rfl (Nat.le_of_ble_eq_true rfl) hd kk
theorem gM8_51 (X : Fx Γ Ω A cc nL own rm ret) (hi : i < 1) (hlk : Cond.fieldLink own index "MappingTextsModel" "path2" "[B" ∈ GW) (hd : decode cc pc = .ok (.getfield index, 3)) (kk : V Γ cs Q A nL (PicM Ω ad A σ) (pc + 3) lv (.ref (ad 2 8) :: st)) : V Γ cs Q A nL (PicM Ω ad A σ) pc lv (.ref (ad 0 i) :: st) := tv_get X (fun H h => h.1) hi rfl rfl inG9 (k := 51) (by decide) hlk rfl hd kk
theorem gM8_52 (X : Fx Γ Ω A cc nL own rm ret) (hi : i < 1) (hlk : Cond.fieldLink own index "MappingTextsModel" "path2N" "I" ∈ GW) (hd : decode cc pc = .ok (.getfield index, 3)) (kk : V Γ cs Q A nL (PicM Ω ad A σ) (pc + 3) lv (.int (gi σ 852 i) :: st)) : V Γ cs Q A nL (PicM Ω ad A σ) pc lv (.ref (ad 0 i) :: st) := tv_get X (fun H h => h.1) hi rfl rfl inG9 (k := 52) (by decide) hlk rfl hd kk
theorem eM8_52 {v : Int32} : up2 (encM Ω ad σ) 0 i (.inr (8, [.ref (ad 3 0), .ref (ad 3 1), .ref (ad 2 0), .int (gi σ 803 i), .int (gi σ 804 i), .ref (ad 2 1), .int (gi σ 806 i), .ref (ad 2 2), .int (gi σ 808 i), .int (gi σ 809 i), .int (gi σ 810 i), .ref (ad 1 0), .ref (ad 1 1), .ref (ad 1 2), .ref (ad 1 3), .ref (ad 2 3), .ref (ad 1 4), .ref (ad 1 5), .ref (ad 1 6), .ref (ad 1 7), .ref (ad 1 8), .ref (ad 1 9), .ref (ad 2 4), .ref (ad 1 10), .ref (ad 1 11), .ref (ad 2 5), .ref (ad 4 0), .ref (ad 1 12), .ref (ad 2 6), .ref (ad 1 13), .int (gi σ 830 i), .ref (ad 1 14), .ref (ad 1 15), .ref (ad 1 16), .int (gi σ 834 i), .int (gi σ 835 i), .int (gi σ 836 i), .int (gi σ 837 i), .int (gi σ 838 i), .ref (ad 1 17), .ref (ad 1 18), .ref (ad 1 19), .ref (ad 1 20), .ref (ad 1 21), .int (gi σ 844 i), .ref (ad 1 22), .ref (ad 1 23), .int (gi σ 847 i), .ref (ad 1 24), .ref (ad 2 7), .int (gi σ 850 i), .ref (ad 2 8), .int v, .ref (ad 1 25), .int (gi σ 854 i), .ref (ad 1 26), .ref (ad 1 27), .ref (ad 1 28)])) = encM Ω ad (si σ 852 i v) := by
  funext f j
  by_cases h : f = 0 ∧ j = i
  · obtain ⟨rfl, rfl⟩ := h
    simp [up2, encM, si, sr, sg, gi, gr, ga]
  · unfold up2
    rw [if_neg h]
    match f, h with
    | 0, h =>
      have hj : ¬ j = i := fun e => h ⟨rfl, e⟩
      simp [up2, hj, encM, si, sr, sg, gi, gr, ga]
    | 1, _ => first | rfl | simp [up2, va_up, encM, si, sr, sg, gi, gr, ga]
    | 2, _ => first | rfl | simp [up2, va_up, encM, si, sr, sg, gi, gr, ga]
    | 3, _ => first | rfl | simp [up2, va_up, encM, si, sr, sg, gi, gr, ga]
    | 4, _ => first | rfl | simp [up2, va_up, encM, si, sr, sg, gi, gr, ga]
    | _ + 5, _ => rfl
theorem pM8_52 (X : Fx Γ Ω A cc nL own rm ret) {v : Int32} (hi : i < 1) (hlk : Cond.fieldLink own index "MappingTextsModel" "path2N" "I" ∈ GW) (hd : decode cc pc = .ok (.putfield index, 3)) (kk : V Γ cs Q A nL (PicM Ω ad A (si σ 852 i v)) (pc + 3) lv st) : V Γ cs Q A nL (PicM Ω ad A σ) pc lv (.int v :: .ref (ad 0 i) :: st) := tv_put X (fun H h => h.1) (fun H0 H h0 h => ⟨(congrArg (fun E => PP Ω cntM ad A E H) (eM8_52)).mp h, h0.2⟩) hi rfl rfl inG9 tyX9_ok nmX9 (k := 52) (by decide) hlk rfl rfl rfl rfl (Nat.le_of_ble_eq_true rfl) hd kk
theorem gM8_53 (X : Fx Γ Ω A cc nL own rm ret) (hi : i < 1) (hlk : Cond.fieldLink own index "MappingTextsModel" "up" "[I" ∈ GW) (hd : decode cc pc = .ok (.getfield index, 3)) (kk : V Γ cs Q A nL (PicM Ω ad A σ) (pc + 3) lv (.ref (ad 1 25) :: st)) : V Γ cs Q A nL (PicM Ω ad A σ) pc lv (.ref (ad 0 i) :: st) := tv_get X (fun H h => h.1) hi rfl rfl inG9 (k := 53) (by decide) hlk rfl hd kk
theorem gM8_54 (X : Fx Γ Ω A cc nL own rm ret) (hi : i < 1) (hlk : Cond.fieldLink own index "MappingTextsModel" "differences" "I" ∈ GW) (hd : decode cc pc = .ok (.getfield index, 3)) (kk : V Γ cs Q A nL (PicM Ω ad A σ) (pc + 3) lv (.int (gi σ 854 i) :: st)) : V Γ cs Q A nL (PicM Ω ad A σ) pc lv (.ref (ad 0 i) :: st) := tv_get X (fun H h => h.1) hi rfl rfl inG9 (k := 54) (by decide) hlk rfl hd kk
theorem eM8_54 {v : Int32} : up2 (encM Ω ad σ) 0 i (.inr (8, [.ref (ad 3 0), .ref (ad 3 1), .ref (ad 2 0), .int (gi σ 803 i), .int (gi σ 804 i), .ref (ad 2 1), .int (gi σ 806 i), .ref (ad 2 2), .int (gi σ 808 i), .int (gi σ 809 i), .int (gi σ 810 i), .ref (ad 1 0), .ref (ad 1 1), .ref (ad 1 2), .ref (ad 1 3), .ref (ad 2 3), .ref (ad 1 4), .ref (ad 1 5), .ref (ad 1 6), .ref (ad 1 7), .ref (ad 1 8), .ref (ad 1 9), .ref (ad 2 4), .ref (ad 1 10), .ref (ad 1 11), .ref (ad 2 5), .ref (ad 4 0), .ref (ad 1 12), .ref (ad 2 6), .ref (ad 1 13), .int (gi σ 830 i), .ref (ad 1 14), .ref (ad 1 15), .ref (ad 1 16), .int (gi σ 834 i), .int (gi σ 835 i), .int (gi σ 836 i), .int (gi σ 837 i), .int (gi σ 838 i), .ref (ad 1 17), .ref (ad 1 18), .ref (ad 1 19), .ref (ad 1 20), .ref (ad 1 21), .int (gi σ 844 i), .ref (ad 1 22), .ref (ad 1 23), .int (gi σ 847 i), .ref (ad 1 24), .ref (ad 2 7), .int (gi σ 850 i), .ref (ad 2 8), .int (gi σ 852 i), .ref (ad 1 25), .int v, .ref (ad 1 26), .ref (ad 1 27), .ref (ad 1 28)])) = encM Ω ad (si σ 854 i v) := by
  funext f j
  by_cases h : f = 0 ∧ j = i
  · obtain ⟨rfl, rfl⟩ := h
    simp [up2, encM, si, sr, sg, gi, gr, ga]
  · unfold up2
    rw [if_neg h]
    match f, h with
    | 0, h =>
      have hj : ¬ j = i := fun e => h ⟨rfl, e⟩
      simp [up2, hj, encM, si, sr, sg, gi, gr, ga]
    | 1, _ => first | rfl | simp [up2, va_up, encM, si, sr, sg, gi, gr, ga]
    | 2, _ => first | rfl | simp [up2, va_up, encM, si, sr, sg, gi, gr, ga]
    | 3, _ => first | rfl | simp [up2, va_up, encM, si, sr, sg, gi, gr, ga]
    | 4, _ => first | rfl | simp [up2, va_up, encM, si, sr, sg, gi, gr, ga]
    | _ + 5, _ => rfl
theorem pM8_54 (X : Fx Γ Ω A cc nL own rm ret) {v : Int32} (hi : i < 1) (hlk : Cond.fieldLink own index "MappingTextsModel" "differences" "I" ∈ GW) (hd : decode cc pc = .ok (.putfield index, 3)) (kk : V Γ cs Q A nL (PicM Ω ad A (si σ 854 i v)) (pc + 3) lv st) : V Γ cs Q A nL (PicM Ω ad A σ) pc lv (.int v :: .ref (ad 0 i) :: st) := tv_put X (fun H h => h.1) (fun H0 H h0 h => ⟨(congrArg (fun E => PP Ω cntM ad A E H) (eM8_54)).mp h, h0.2⟩) hi rfl rfl inG9 tyX9_ok nmX9 (k := 54) (by decide) hlk rfl rfl rfl rfl (Nat.le_of_ble_eq_true rfl) hd kk
theorem gM8_55 (X : Fx Γ Ω A cc nL own rm ret) (hi : i < 1) (hlk : Cond.fieldLink own index "MappingTextsModel" "codes" "[I" ∈ GW) (hd : decode cc pc = .ok (.getfield index, 3)) (kk : V Γ cs Q A nL (PicM Ω ad A σ) (pc + 3) lv (.ref (ad 1 26) :: st)) : V Γ cs Q A nL (PicM Ω ad A σ) pc lv (.ref (ad 0 i) :: st) := tv_get X (fun H h => h.1) hi rfl rfl inG9 (k := 55) (by decide) hlk rfl hd kk
theorem gM8_56 (X : Fx Γ Ω A cc nL own rm ret) (hi : i < 1) (hlk : Cond.fieldLink own index "MappingTextsModel" "ofA" "[I" ∈ GW) (hd : decode cc pc = .ok (.getfield index, 3)) (kk : V Γ cs Q A nL (PicM Ω ad A σ) (pc + 3) lv (.ref (ad 1 27) :: st)) : V Γ cs Q A nL (PicM Ω ad A σ) pc lv (.ref (ad 0 i) :: st) := tv_get X (fun H h => h.1) hi rfl rfl inG9 (k := 56) (by decide) hlk rfl hd kk
theorem gM8_57 (X : Fx Γ Ω A cc nL own rm ret) (hi : i < 1) (hlk : Cond.fieldLink own index "MappingTextsModel" "ofB" "[I" ∈ GW) (hd : decode cc pc = .ok (.getfield index, 3)) (kk : V Γ cs Q A nL (PicM Ω ad A σ) (pc + 3) lv (.ref (ad 1 28) :: st)) : V Γ cs Q A nL (PicM Ω ad A σ) pc lv (.ref (ad 0 i) :: st) := tv_get X (fun H h => h.1) hi rfl rfl inG9 (k := 57) (by decide) hlk rfl hd kk
theorem eM_sg1 {g : Nat → Int32} : up2 (encM Ω ad σ) 1 i (.inl (Ω.2.1 0, lenMi.getD i 0, .inl g)) = encM Ω ad (sg σ 1 i g) := by
  funext f j
  by_cases h : f = 1 ∧ j = i
  · obtain ⟨rfl, rfl⟩ := h
    simp [up2, encM, si, sr, sg, gi, gr, ga]
  · unfold up2
    rw [if_neg h]
    match f, h with
    | 0, _ => first | rfl | simp [up2, va_up, encM, si, sr, sg, gi, gr, ga]
    | 1, h =>
      have hj : ¬ j = i := fun e => h ⟨rfl, e⟩
      simp [up2, hj, encM, si, sr, sg, gi, gr, ga]
    | 2, _ => first | rfl | simp [up2, va_up, encM, si, sr, sg, gi, gr, ga]
    | 3, _ => first | rfl | simp [up2, va_up, encM, si, sr, sg, gi, gr, ga]
    | 4, _ => first | rfl | simp [up2, va_up, encM, si, sr, sg, gi, gr, ga]
    | _ + 5, _ => rfl
theorem eM_sg2 {g : Nat → Int32} : up2 (encM Ω ad σ) 2 i (.inl (Ω.2.1 1, lenMb.getD i 0, .inl g)) = encM Ω ad (sg σ 2 i g) := by
  funext f j
  by_cases h : f = 2 ∧ j = i
  · obtain ⟨rfl, rfl⟩ := h
    simp [up2, encM, si, sr, sg, gi, gr, ga]
  · unfold up2
    rw [if_neg h]
    match f, h with
    | 0, _ => first | rfl | simp [up2, va_up, encM, si, sr, sg, gi, gr, ga]
    | 1, _ => first | rfl | simp [up2, va_up, encM, si, sr, sg, gi, gr, ga]
    | 2, h =>
      have hj : ¬ j = i := fun e => h ⟨rfl, e⟩
      simp [up2, hj, encM, si, sr, sg, gi, gr, ga]
    | 3, _ => first | rfl | simp [up2, va_up, encM, si, sr, sg, gi, gr, ga]
    | 4, _ => first | rfl | simp [up2, va_up, encM, si, sr, sg, gi, gr, ga]
    | _ + 5, _ => rfl
theorem eM_sg4 {g : Nat → Int32} : up2 (encM Ω ad σ) 4 i (.inl (Ω.2.1 3, lenMz.getD i 0, .inl g)) = encM Ω ad (sg σ 4 i g) := by
  funext f j
  by_cases h : f = 4 ∧ j = i
  · obtain ⟨rfl, rfl⟩ := h
    simp [up2, encM, si, sr, sg, gi, gr, ga]
  · unfold up2
    rw [if_neg h]
    match f, h with
    | 0, _ => first | rfl | simp [up2, va_up, encM, si, sr, sg, gi, gr, ga]
    | 1, _ => first | rfl | simp [up2, va_up, encM, si, sr, sg, gi, gr, ga]
    | 2, _ => first | rfl | simp [up2, va_up, encM, si, sr, sg, gi, gr, ga]
    | 3, _ => first | rfl | simp [up2, va_up, encM, si, sr, sg, gi, gr, ga]
    | 4, h =>
      have hj : ¬ j = i := fun e => h ⟨rfl, e⟩
      simp [up2, hj, encM, si, sr, sg, gi, gr, ga]
    | _ + 5, _ => rfl
theorem iaM (X : Fx Γ Ω A cc nL own rm ret) {x : Int32} {K : Nat → Option ρ} {n : Nat} (hi : i < 29) (hn : lenMi.getD i 0 = n) (hd : decode cc pc = .ok (.iaload, 1)) (h : ck x n K = some r) (kk : ∀ j, j < n → K j = some r → V Γ cs Q A nL (PicM Ω ad A σ) (pc + 1) lv (.int (ga σ 1 i j) :: st)) : V Γ cs Q A nL (PicM Ω ad A σ) pc lv (.int x :: .ref (ad 1 i) :: st) := by
  subst hn
  exact tv_iald X (fun H h => h.1) hi rfl hd h kk
theorem baM (X : Fx Γ Ω A cc nL own rm ret) {x : Int32} {K : Nat → Option ρ} {n : Nat} (hi : i < 9) (hn : lenMb.getD i 0 = n) (hd : decode cc pc = .ok (.baload, 1)) (h : ck x n K = some r) (kk : ∀ j, j < n → K j = some r → V Γ cs Q A nL (PicM Ω ad A σ) (pc + 1) lv (.int (ga σ 2 i j) :: st)) : V Γ cs Q A nL (PicM Ω ad A σ) pc lv (.int x :: .ref (ad 2 i) :: st) := by
  subst hn
  exact tv_bald X (fun H h => h.1) hi rfl hd h kk
theorem zaM (X : Fx Γ Ω A cc nL own rm ret) {x : Int32} {K : Nat → Option ρ} {n : Nat} (hi : i < 1) (hn : lenMz.getD i 0 = n) (hd : decode cc pc = .ok (.baload, 1)) (h : ck x n K = some r) (kk : ∀ j, j < n → K j = some r → V Γ cs Q A nL (PicM Ω ad A σ) (pc + 1) lv (.int (ga σ 4 i j) :: st)) : V Γ cs Q A nL (PicM Ω ad A σ) pc lv (.int x :: .ref (ad 4 i) :: st) := by
  subst hn
  exact tv_zald X (fun H h => h.1) hi rfl hd h kk
theorem laM (X : Fx Γ Ω A cc nL own rm ret) {x : Int32} {K : Nat → Option ρ} {n : Nat} (hi : i < 2) (hn : lenMl.getD i 0 = n) (hd : decode cc pc = .ok (.laload, 1)) (h : ck x n K = some r) (kk : ∀ j, j < n → K j = some r → V Γ cs Q A nL (PicM Ω ad A σ) (pc + 1) lv (.long (wdM i j) :: st)) : V Γ cs Q A nL (PicM Ω ad A σ) pc lv (.int x :: .ref (ad 3 i) :: st) := by
  subst hn
  exact tv_lald X (fun H h => h.1) hi rfl hd h kk
theorem isM (X : Fx Γ Ω A cc nL own rm ret) {x v : Int32} {K : Nat → Option ρ} {n : Nat} (hi : i < 29) (hn : lenMi.getD i 0 = n) (hd : decode cc pc = .ok (.iastore, 1)) (h : ck x n K = some r) (kk : ∀ j, j < n → K j = some r → V Γ cs Q A nL (PicM Ω ad A (sa σ 1 i j v)) (pc + 1) lv st) : V Γ cs Q A nL (PicM Ω ad A σ) pc lv (.int v :: .int x :: .ref (ad 1 i) :: st) := by
  subst hn
  exact tv_iast X (Z' := fun j => PicM Ω ad A (sa σ 1 i j v)) (fun H h => h.1) hi rfl (fun H0 H j h0 h => ⟨(congrArg (fun E => PP Ω cntM ad A E H) eM_sg1).mp h, trivial⟩) hd h kk
theorem bsM (X : Fx Γ Ω A cc nL own rm ret) {x v : Int32} {K : Nat → Option ρ} {n : Nat} (hi : i < 9) (hn : lenMb.getD i 0 = n) (hd : decode cc pc = .ok (.bastore, 1)) (h : ck x n K = some r) (kk : ∀ j, j < n → K j = some r → V Γ cs Q A nL (PicM Ω ad A (sa σ 2 i j (vp_nar .byte v))) (pc + 1) lv st) : V Γ cs Q A nL (PicM Ω ad A σ) pc lv (.int v :: .int x :: .ref (ad 2 i) :: st) := by
  subst hn
  exact tv_bast X (Z' := fun j => PicM Ω ad A (sa σ 2 i j (vp_nar .byte v))) (fun H h => h.1) hi rfl (fun H0 H j h0 h => ⟨(congrArg (fun E => PP Ω cntM ad A E H) eM_sg2).mp h, trivial⟩) hd h kk
theorem zsM (X : Fx Γ Ω A cc nL own rm ret) {x v : Int32} {K : Nat → Option ρ} {n : Nat} (hi : i < 1) (hn : lenMz.getD i 0 = n) (hd : decode cc pc = .ok (.bastore, 1)) (h : ck x n K = some r) (kk : ∀ j, j < n → K j = some r → V Γ cs Q A nL (PicM Ω ad A (sa σ 4 i j (vp_nar .boolean v))) (pc + 1) lv st) : V Γ cs Q A nL (PicM Ω ad A σ) pc lv (.int v :: .int x :: .ref (ad 4 i) :: st) := by
  subst hn
  exact tv_zast X (Z' := fun j => PicM Ω ad A (sa σ 4 i j (vp_nar .boolean v))) (fun H h => h.1) hi rfl (fun H0 H j h0 h => ⟨(congrArg (fun E => PP Ω cntM ad A E H) eM_sg4).mp h, trivial⟩) hd h kk
theorem alM3 (X : Fx Γ Ω A cc nL own rm ret) (hi : i < 2) (hd : decode cc pc = .ok (.arraylength, 1)) (kk : V Γ cs Q A nL (PicM Ω ad A σ) (pc + 1) lv (.int (nI (lenMl.getD i 0)) :: st)) : V Γ cs Q A nL (PicM Ω ad A σ) pc lv (.ref (ad 3 i) :: st) := tv_alen X 2 _ (fun H h => h.1) hi rfl rfl rfl hd kk
end RowsM
