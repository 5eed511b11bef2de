/-! The class's world: which cells there are, what they hold. -/
def cntX : List Nat := [1, 773, 773, 8, 320, 64, 8, 8, 18, 1, 1, 1, 1]
/-- how many bytes a row of letters takes at most -/
def capX (i : Nat) : Nat := if i = 0 then 2000 else if i = 2 ∨ i = 3 then 4000 else if i = 1 ∨ i = 4 then 64 else if i < 645 ∧ i % 2 = 1 then 64 else 12
def lenX (i : Nat) : Nat := if i < 8 then 40 else if i < 11 then 2000 else if i = 11 then 4 else if i < 15 then 40 else 80
def encX (Ω : Wd) (ad : Nat → Nat → Nat) (σ : St) : Nat → Nat → va_E := fun f i => match f with
  | 0 => .inr (7, [.ref (ad 1 0), .ref (ad 1 1), .ref (ad 9 0), .ref (ad 12 0), .ref (ad 10 0), .ref (ad 11 0), .ref (ad 1 (gr σ 0 i)), .ref (ad 1 (gr σ 1 i)), .int (gi σ 708 i), .int (gi σ 709 i)])
  | 1 => .inr (2, [.ref (ad 2 i), .int (gi σ 201 i), .int (gi σ 202 i)])
  | 2 => .inl (Ω.2.1 1, capX i, .inl (ga σ 2 i))
  | 3 => .inr (6, [.ref (ad 6 i), .ref (ad 7 i), .ref (ad 8 i), .int (gi σ 603 i), .int (gi σ 604 i), .int (gi σ 605 i)])
  | 4 => .inr (1, [.ref (ad 1 (5 + 2 * i)), .ref (ad 1 (6 + 2 * i)), .int (gi σ 102 i), .int (gi σ 103 i), .int (gi σ 104 i), .int (gi σ 105 i), .int (gi σ 106 i), .int (gi σ 107 i), .int (gi σ 108 i)])
  | 5 => .inr (3, [.ref (ad 1 (645 + 2 * i)), .ref (ad 1 (646 + 2 * i)), .int (gi σ 302 i), .int (gi σ 303 i)])
  | 6 => .inl (Ω.2.1 4, 40, .inr (.inr (.inr (.inr (fun j => some (ad 4 (40 * i + j)))))))
  | 7 => .inl (Ω.2.1 5, 8, .inr (.inr (.inr (.inr (fun j => some (ad 5 (8 * i + j)))))))
  | 8 => .inl (Ω.2.1 0, lenX i, .inl (ga σ 8 i))
  | 9 => .inr (5, [.ref (ad 1 0), .ref (ad 8 8), .ref (ad 8 9), .ref (ad 8 10), .int (gi σ 504 i)])
  | 10 => .inr (4, [.ref (ad 9 0), .ref (ad 1 4), .ref (ad 8 11), .ref (ad 8 12), .ref (ad 8 13), .ref (ad 8 14), .ref (ad 3 (gr σ 2 i)), .ref (ad 4 (gr σ 3 i)), .ref (ad 5 (gr σ 4 i)), .int (gi σ 409 i), .int (gi σ 410 i), .int (gi σ 411 i), .int (gi σ 412 i), .int (gi σ 413 i), .int (gi σ 414 i), .int (gi σ 415 i), .int (gi σ 416 i)])
  | 11 => .inr (0, [.ref (ad 8 15), .ref (ad 8 16), .ref (ad 8 17), .int (gi σ 3 i)])
  | 12 => .inl (Ω.2.1 6, 8, .inr (.inr (.inr (.inr (fun j => some (ad 3 j))))))
  | _ => .inr (0, [])
def VdX (σ : St) : Prop := (∀ i, gr σ 0 i < 773) ∧ (∀ i, gr σ 1 i < 773) ∧ (∀ i, gr σ 2 i < 8) ∧ (∀ i, gr σ 3 i < 320) ∧ (∀ i, gr σ 4 i < 64) ∧ ∀ i j, fits .byte (.int (ga σ 2 i j)) = true
def PicX (Ω : Wd) (ad : Nat → Nat → Nat) (A : Nat → Prop) (σ : St) (H : Heap) : Prop := PP Ω cntX ad A (encX Ω ad σ) H ∧ VdX σ
theorem gr_sr {σ : St} {f i y n : Nat} (h : y < n) (hv : ∀ i, gr σ f i < n) : ∀ j, gr (sr σ f i y) f j < n := by
  intro j
  have hj := hv j
  unfold gr at hj
  unfold gr sr up2
  by_cases e : j = i
  · simp [e, h]
  · simp [e, hj]
theorem vd_sr0 {σ : St} {i y : Nat} (h : y < 773) (hv : VdX σ) : VdX (sr σ 0 i y) := ⟨gr_sr h hv.1, hv.2⟩
theorem vd_sr1 {σ : St} {i y : Nat} (h : y < 773) (hv : VdX σ) : VdX (sr σ 1 i y) := ⟨hv.1, gr_sr h hv.2.1, hv.2.2⟩
theorem vd_sr2 {σ : St} {i y : Nat} (h : y < 8) (hv : VdX σ) : VdX (sr σ 2 i y) := ⟨hv.1, hv.2.1, gr_sr h hv.2.2.1, hv.2.2.2⟩
theorem vd_sr3 {σ : St} {i y : Nat} (h : y < 320) (hv : VdX σ) : VdX (sr σ 3 i y) := ⟨hv.1, hv.2.1, hv.2.2.1, gr_sr h hv.2.2.2.1, hv.2.2.2.2⟩
theorem vd_sr4 {σ : St} {i y : Nat} (h : y < 64) (hv : VdX σ) : VdX (sr σ 4 i y) := ⟨hv.1, hv.2.1, hv.2.2.1, hv.2.2.2.1, gr_sr h hv.2.2.2.2.1, hv.2.2.2.2.2⟩
theorem vd_sg8 {σ : St} {i : Nat} {g : Nat → Int32} (hv : VdX σ) : VdX (sg σ 8 i g) := ⟨hv.1, hv.2.1, hv.2.2.1, hv.2.2.2.1, hv.2.2.2.2.1, fun a b => by
  have h := hv.2.2.2.2.2 a b
  simpa [ga, sg, up2] using h⟩
theorem vd_sg2 {σ : St} {i : Nat} {g : Nat → Int32} (hg : ∀ j, fits .byte (.int (g j)) = true) (hv : VdX σ) : VdX (sg σ 2 i g) := ⟨hv.1, hv.2.1, hv.2.2.1, hv.2.2.2.1, hv.2.2.2.2.1, fun a b => by
  by_cases e : a = i
  · subst e
    simpa [ga, sg, up2] using hg b
  · have h := hv.2.2.2.2.2 a b
    simpa [ga, sg, up2, e] using h⟩
theorem fits_upd {g : Nat → Int32} {j : Nat} {v : Int32} (hg : ∀ j, fits .byte (.int (g j)) = true) : ∀ k, fits .byte (.int (upd g j (vp_nar .byte v) k)) = true := by
  intro k
  by_cases e : k = j
  · subst e
    rw [pk_us, vp_nar_byte]
    exact pk_fb v
  · rw [pk_un e]
    exact hg k
theorem inG8 : ∀ w ∈ u_ws RX8 TX8 10, w ∈ GW := by
  intro w hw
  obtain ⟨k, hk, rfl⟩ := List.mem_map.mp hw
  have hk := List.mem_range.mp hk
  match k, hk with
  | 0, _ => exact gw_2_54
  | 1, _ => exact gw_2_56
  | 2, _ => exact gw_2_58
  | 3, _ => exact gw_2_60
  | 4, _ => exact gw_2_62
  | 5, _ => exact gw_2_64
  | 6, _ => exact gw_2_66
  | 7, _ => exact gw_2_68
  | 8, _ => exact gw_2_70
  | 9, _ => exact gw_2_72
  | _ + 10, h => omega
theorem inG7 : ∀ w ∈ u_ws RX7 TX7 6, w ∈ GW := by
  intro w hw
  obtain ⟨k, hk, rfl⟩ := List.mem_map.mp hw
  have hk := List.mem_range.mp hk
  match k, hk with
  | 0, _ => exact gw_1_211
  | 1, _ => exact gw_1_213
  | 2, _ => exact gw_1_215
  | 3, _ => exact gw_1_217
  | 4, _ => exact gw_1_219
  | 5, _ => exact gw_1_221
  | _ + 6, h => omega
theorem inG6 : ∀ w ∈ u_ws RX6 TX6 5, w ∈ GW := by
  intro w hw
  obtain ⟨k, hk, rfl⟩ := List.mem_map.mp hw
  have hk := List.mem_range.mp hk
  match k, hk with
  | 0, _ => exact gw_1_56
  | 1, _ => exact gw_1_58
  | 2, _ => exact gw_1_60
  | 3, _ => exact gw_1_62
  | 4, _ => exact gw_1_64
  | _ + 5, h => omega
theorem inG5 : ∀ w ∈ u_ws RX5 TX5 17, w ∈ GW := by
  intro w hw
  obtain ⟨k, hk, rfl⟩ := List.mem_map.mp hw
  have hk := List.mem_range.mp hk
  match k, hk with
  | 0, _ => exact gw_2_9
  | 1, _ => exact gw_2_11
  | 2, _ => exact gw_2_13
  | 3, _ => exact gw_2_15
  | 4, _ => exact gw_2_17
  | 5, _ => exact gw_2_19
  | 6, _ => exact gw_2_21
  | 7, _ => exact gw_2_23
  | 8, _ => exact gw_2_25
  | 9, _ => exact gw_2_27
  | 10, _ => exact gw_2_29
  | 11, _ => exact gw_2_31
  | 12, _ => exact gw_2_33
  | 13, _ => exact gw_2_35
  | 14, _ => exact gw_2_37
  | 15, _ => exact gw_2_39
  | 16, _ => exact gw_2_41
  | _ + 17, h => omega
theorem inG4 : ∀ w ∈ u_ws RX4 TX4 4, w ∈ GW := by
  intro w hw
  obtain ⟨k, hk, rfl⟩ := List.mem_map.mp hw
  have hk := List.mem_range.mp hk
  match k, hk with
  | 0, _ => exact gw_1_184
  | 1, _ => exact gw_1_186
  | 2, _ => exact gw_1_188
  | 3, _ => exact gw_1_190
  | _ + 4, h => omega
theorem inG3 : ∀ w ∈ u_ws RX3 TX3 3, w ∈ GW := by
  intro w hw
  obtain ⟨k, hk, rfl⟩ := List.mem_map.mp hw
  have hk := List.mem_range.mp hk
  match k, hk with
  | 0, _ => exact gw_1_37
  | 1, _ => exact gw_1_39
  | 2, _ => exact gw_1_41
  | _ + 3, h => omega
theorem inG1 : ∀ w ∈ u_ws RX1 TX1 9, w ∈ GW := by
  intro w hw
  obtain ⟨k, hk, rfl⟩ := List.mem_map.mp hw
  have hk := List.mem_range.mp hk
  match k, hk with
  | 0, _ => exact gw_1_149
  | 1, _ => exact gw_1_151
  | 2, _ => exact gw_1_153
  | 3, _ => exact gw_1_155
  | 4, _ => exact gw_1_157
  | 5, _ => exact gw_1_159
  | 6, _ => exact gw_1_161
  | 7, _ => exact gw_1_163
  | 8, _ => exact gw_1_165
  | _ + 9, h => omega
theorem inG0 : ∀ w ∈ u_ws RX0 TX0 4, w ∈ GW := by
  intro w hw
  obtain ⟨k, hk, rfl⟩ := List.mem_map.mp hw
  have hk := List.mem_range.mp hk
  match k, hk with
  | 0, _ => exact gw_1_84
  | 1, _ => exact gw_1_86
  | 2, _ => exact gw_1_88
  | 3, _ => exact gw_1_90
  | _ + 4, h => omega
section RowsX
variable {Γ : Cx} {cs : Nat × Nat} {Q : State → Prop} {A : Nat → Prop} {nL : Nat} {pc : Nat} {lv : List (Nat × Value)} {st : List Value} {Ω : Wd} {cc : ByteArray} {own : String} {rm : Room} {ret : Option FieldType} {ad : Nat → Nat → Nat} {σ : St} {ρ : Type} {r : ρ} {index i : Nat}
theorem gX0_0 (X : Fx Γ Ω A cc nL own rm ret) (hi : i < 1) (hlk : Cond.fieldLink own index "MappingTexts$Comparison" "codes" "[I" ∈ GW) (hd : decode cc pc = .ok (.getfield index, 3)) (kk : V Γ cs Q A nL (PicX Ω ad A σ) (pc + 3) lv (.ref (ad 8 15) :: st)) : V Γ cs Q A nL (PicX Ω ad A σ) pc lv (.ref (ad 11 i) :: st) := tv_get X (fun H h => h.1) hi rfl rfl inG0 (k := 0) (by decide) hlk rfl hd kk
theorem gX0_1 (X : Fx Γ Ω A cc nL own rm ret) (hi : i < 1) (hlk : Cond.fieldLink own index "MappingTexts$Comparison" "fieldsOfA" "[I" ∈ GW) (hd : decode cc pc = .ok (.getfield index, 3)) (kk : V Γ cs Q A nL (PicX Ω ad A σ) (pc + 3) lv (.ref (ad 8 16) :: st)) : V Γ cs Q A nL (PicX Ω ad A σ) pc lv (.ref (ad 11 i) :: st) := tv_get X (fun H h => h.1) hi rfl rfl inG0 (k := 1) (by decide) hlk rfl hd kk
theorem gX0_2 (X : Fx Γ Ω A cc nL own rm ret) (hi : i < 1) (hlk : Cond.fieldLink own index "MappingTexts$Comparison" "fieldsOfB" "[I" ∈ GW) (hd : decode cc pc = .ok (.getfield index, 3)) (kk : V Γ cs Q A nL (PicX Ω ad A σ) (pc + 3) lv (.ref (ad 8 17) :: st)) : V Γ cs Q A nL (PicX Ω ad A σ) pc lv (.ref (ad 11 i) :: st) := tv_get X (fun H h => h.1) hi rfl rfl inG0 (k := 2) (by decide) hlk rfl hd kk
theorem gX0_3 (X : Fx Γ Ω A cc nL own rm ret) (hi : i < 1) (hlk : Cond.fieldLink own index "MappingTexts$Comparison" "count" "I" ∈ GW) (hd : decode cc pc = .ok (.getfield index, 3)) (kk : V Γ cs Q A nL (PicX Ω ad A σ) (pc + 3) lv (.int (gi σ 3 i) :: st)) : V Γ cs Q A nL (PicX Ω ad A σ) pc lv (.ref (ad 11 i) :: st) := tv_get X (fun H h => h.1) hi rfl rfl inG0 (k := 3) (by decide) hlk rfl hd kk
theorem eX0_3 {v : Int32} : up2 (encX Ω ad σ) 11 i (.inr (0, [.ref (ad 8 15), .ref (ad 8 16), .ref (ad 8 17), .int v])) = encX Ω ad (si σ 3 i v) := by
  funext f j
  by_cases h : f = 11 ∧ j = i
  · obtain ⟨rfl, rfl⟩ := h
    simp [up2, encX, si, sr, sg, gi, gr, ga]
  · unfold up2
    rw [if_neg h]
    match f, h with
    | 0, _ => first | rfl | simp [up2, va_up, encX, si, sr, sg, gi, gr, ga]
    | 1, _ => first | rfl | simp [up2, va_up, encX, si, sr, sg, gi, gr, ga]
    | 2, _ => first | rfl | simp [up2, va_up, encX, si, sr, sg, gi, gr, ga]
    | 3, _ => first | rfl | simp [up2, va_up, encX, si, sr, sg, gi, gr, ga]
    | 4, _ => first | rfl | simp [up2, va_up, encX, si, sr, sg, gi, gr, ga]
    | 5, _ => first | rfl | simp [up2, va_up, encX, si, sr, sg, gi, gr, ga]
    | 6, _ => first | rfl | simp [up2, va_up, encX, si, sr, sg, gi, gr, ga]
    | 7, _ => first | rfl | simp [up2, va_up, encX, si, sr, sg, gi, gr, ga]
    | 8, _ => first | rfl | simp [up2, va_up, encX, si, sr, sg, gi, gr, ga]
    | 9, _ => first | rfl | simp [up2, va_up, encX, si, sr, sg, gi, gr, ga]
    | 10, _ => first | rfl | simp [up2, va_up, encX, si, sr, sg, gi, gr, ga]
    | 11, h =>
      have hj : ¬ j = i := fun e => h ⟨rfl, e⟩
      simp [up2, hj, encX, si, sr, sg, gi, gr, ga]
    | 12, _ => first | rfl | simp [up2, va_up, encX, si, sr, sg, gi, gr, ga]
    | _ + 13, _ => rfl
theorem pX0_3 (X : Fx Γ Ω A cc nL own rm ret) {v : Int32} (hi : i < 1) (hlk : Cond.fieldLink own index "MappingTexts$Comparison" "count" "I" ∈ GW) (hd : decode cc pc = .ok (.putfield index, 3)) (kk : V Γ cs Q A nL (PicX Ω ad A (si σ 3 i v)) (pc + 3) lv st) : V Γ cs Q A nL (PicX Ω ad A σ) pc lv (.int v :: .ref (ad 11 i) :: st) := tv_put X (fun H h => h.1) (fun H0 H h0 h => ⟨(congrArg (fun E => PP Ω cntX ad A E H) (eX0_3)).mp h, h0.2⟩) hi rfl rfl inG0 tyX0_ok nmX0 (k := 3) (by decide) hlk rfl rfl rfl rfl (Nat.le_of_ble_eq_true rfl) hd kk
theorem gX1_0 (X : Fx Γ Ω A cc nL own rm ret) (hi : i < 320) (hlk : Cond.fieldLink own index "MappingTexts$Field" "path" "LMappingTexts$Letters;" ∈ GW) (hd : decode cc pc = .ok (.getfield index, 3)) (kk : V Γ cs Q A nL (PicX Ω ad A σ) (pc + 3) lv (.ref (ad 1 (5 + 2 * i)) :: st)) : V Γ cs Q A nL (PicX Ω ad A σ) pc lv (.ref (ad 4 i) :: st) := tv_get X (fun H h => h.1) hi rfl rfl inG1 (k := 0) (by decide) hlk rfl hd kk
theorem gX1_1 (X : Fx Γ Ω A cc nL own rm ret) (hi : i < 320) (hlk : Cond.fieldLink own index "MappingTexts$Field" "by" "LMappingTexts$Letters;" ∈ GW) (hd : decode cc pc = .ok (.getfield index, 3)) (kk : V Γ cs Q A nL (PicX Ω ad A σ) (pc + 3) lv (.ref (ad 1 (6 + 2 * i)) :: st)) : V Γ cs Q A nL (PicX Ω ad A σ) pc lv (.ref (ad 4 i) :: st) := tv_get X (fun H h => h.1) hi rfl rfl inG1 (k := 1) (by decide) hlk rfl hd kk
theorem gX1_2 (X : Fx Γ Ω A cc nL own rm ret) (hi : i < 320) (hlk : Cond.fieldLink own index "MappingTexts$Field" "kind" "I" ∈ GW) (hd : decode cc pc = .ok (.getfield index, 3)) (kk : V Γ cs Q A nL (PicX Ω ad A σ) (pc + 3) lv (.int (gi σ 102 i) :: st)) : V Γ cs Q A nL (PicX Ω ad A σ) pc lv (.ref (ad 4 i) :: st) := tv_get X (fun H h => h.1) hi rfl rfl inG1 (k := 2) (by decide) hlk rfl hd kk
theorem eX1_2 {v : Int32} : up2 (encX Ω ad σ) 4 i (.inr (1, [.ref (ad 1 (5 + 2 * i)), .ref (ad 1 (6 + 2 * i)), .int v, .int (gi σ 103 i), .int (gi σ 104 i), .int (gi σ 105 i), .int (gi σ 106 i), .int (gi σ 107 i), .int (gi σ 108 i)])) = encX Ω ad (si σ 102 i v) := by
  funext f j
  by_cases h : f = 4 ∧ j = i
  · obtain ⟨rfl, rfl⟩ := h
    simp [up2, encX, si, sr, sg, gi, gr, ga]
  · unfold up2
    rw [if_neg h]
    match f, h with
    | 0, _ => first | rfl | simp [up2, va_up, encX, si, sr, sg, gi, gr, ga]
    | 1, _ => first | rfl | simp [up2, va_up, encX, si, sr, sg, gi, gr, ga]
    | 2, _ => first | rfl | simp [up2, va_up, encX, si, sr, sg, gi, gr, ga]
    | 3, _ => first | rfl | simp [up2, va_up, encX, si, sr, sg, gi, gr, ga]
    | 4, h =>
      have hj : ¬ j = i := fun e => h ⟨rfl, e⟩
      simp [up2, hj, encX, si, sr, sg, gi, gr, ga]
    | 5, _ => first | rfl | simp [up2, va_up, encX, si, sr, sg, gi, gr, ga]
    | 6, _ => first | rfl | simp [up2, va_up, encX, si, sr, sg, gi, gr, ga]
    | 7, _ => first | rfl | simp [up2, va_up, encX, si, sr, sg, gi, gr, ga]
    | 8, _ => first | rfl | simp [up2, va_up, encX, si, sr, sg, gi, gr, ga]
    | 9, _ => first | rfl | simp [up2, va_up, encX, si, sr, sg, gi, gr, ga]
    | 10, _ => first | rfl | simp [up2, va_up, encX, si, sr, sg, gi, gr, ga]
    | 11, _ => first | rfl | simp [up2, va_up, encX, si, sr, sg, gi, gr, ga]
    | 12, _ => first | rfl | simp [up2, va_up, encX, si, sr, sg, gi, gr, ga]
    | _ + 13, _ => rfl
theorem pX1_2 (X : Fx Γ Ω A cc nL own rm ret) {v : Int32} (hi : i < 320) (hlk : Cond.fieldLink own index "MappingTexts$Field" "kind" "I" ∈ GW) (hd : decode cc pc = .ok (.putfield index, 3)) (kk : V Γ cs Q A nL (PicX Ω ad A (si σ 102 i v)) (pc + 3) lv st) : V Γ cs Q A nL (PicX Ω ad A σ) pc lv (.int v :: .ref (ad 4 i) :: st) := tv_put X (fun H h => h.1) (fun H0 H h0 h => ⟨(congrArg (fun E => PP Ω cntX ad A E H) (eX1_2)).mp h, h0.2⟩) hi rfl rfl inG1 tyX1_ok nmX1 (k := 2) (by decide) hlk rfl rfl rfl rfl (Nat.le_of_ble_eq_true rfl) hd kk
theorem gX1_3 (X : Fx Γ Ω A cc nL own rm ret) (hi : i < 320) (hlk : Cond.fieldLink own index "MappingTexts$Field" "options" "I" ∈ GW) (hd : decode cc pc = .ok (.getfield index, 3)) (kk : V Γ cs Q A nL (PicX Ω ad A σ) (pc + 3) lv (.int (gi σ 103 i) :: st)) : V Γ cs Q A nL (PicX Ω ad A σ) pc lv (.ref (ad 4 i) :: st) := tv_get X (fun H h => h.1) hi rfl rfl inG1 (k := 3) (by decide) hlk rfl hd kk
theorem eX1_3 {v : Int32} : up2 (encX Ω ad σ) 4 i (.inr (1, [.ref (ad 1 (5 + 2 * i)), .ref (ad 1 (6 + 2 * i)), .int (gi σ 102 i), .int v, .int (gi σ 104 i), .int (gi σ 105 i), .int (gi σ 106 i), .int (gi σ 107 i), .int (gi σ 108 i)])) = encX Ω ad (si σ 103 i v) := by
  funext f j
  by_cases h : f = 4 ∧ j = i
  · obtain ⟨rfl, rfl⟩ := h
    simp [up2, encX, si, sr, sg, gi, gr, ga]
  · unfold up2
    rw [if_neg h]
    match f, h with
    | 0, _ => first | rfl | simp [up2, va_up, encX, si, sr, sg, gi, gr, ga]
    | 1, _ => first | rfl | simp [up2, va_up, encX, si, sr, sg, gi, gr, ga]
    | 2, _ => first | rfl | simp [up2, va_up, encX, si, sr, sg, gi, gr, ga]
    | 3, _ => first | rfl | simp [up2, va_up, encX, si, sr, sg, gi, gr, ga]
    | 4, h =>
      have hj : ¬ j = i := fun e => h ⟨rfl, e⟩
      simp [up2, hj, encX, si, sr, sg, gi, gr, ga]
    | 5, _ => first | rfl | simp [up2, va_up, encX, si, sr, sg, gi, gr, ga]
    | 6, _ => first | rfl | simp [up2, va_up, encX, si, sr, sg, gi, gr, ga]
    | 7, _ => first | rfl | simp [up2, va_up, encX, si, sr, sg, gi, gr, ga]
    | 8, _ => first | rfl | simp [up2, va_up, encX, si, sr, sg, gi, gr, ga]
    | 9, _ => first | rfl | simp [up2, va_up, encX, si, sr, sg, gi, gr, ga]
    | 10, _ => first | rfl | simp [up2, va_up, encX, si, sr, sg, gi, gr, ga]
    | 11, _ => first | rfl | simp [up2, va_up, encX, si, sr, sg, gi, gr, ga]
    | 12, _ => first | rfl | simp [up2, va_up, encX, si, sr, sg, gi, gr, ga]
    | _ + 13, _ => rfl
theorem pX1_3 (X : Fx Γ Ω A cc nL own rm ret) {v : Int32} (hi : i < 320) (hlk : Cond.fieldLink own index "MappingTexts$Field" "options" "I" ∈ GW) (hd : decode cc pc = .ok (.putfield index, 3)) (kk : V Γ cs Q A nL (PicX Ω ad A (si σ 103 i v)) (pc + 3) lv st) : V Γ cs Q A nL (PicX Ω ad A σ) pc lv (.int v :: .ref (ad 4 i) :: st) := tv_put X (fun H h => h.1) (fun H0 H h0 h => ⟨(congrArg (fun E => PP Ω cntX ad A E H) (eX1_3)).mp h, h0.2⟩) hi rfl rfl inG1 tyX1_ok nmX1 (k := 3) (by decide) hlk rfl rfl rfl rfl (Nat.le_of_ble_eq_true rfl) hd kk
theorem gX1_4 (X : Fx Γ Ω A cc nL own rm ret) (hi : i < 320) (hlk : Cond.fieldLink own index "MappingTexts$Field" "nullNumber" "I" ∈ GW) (hd : decode cc pc = .ok (.getfield index, 3)) (kk : V Γ cs Q A nL (PicX Ω ad A σ) (pc + 3) lv (.int (gi σ 104 i) :: st)) : V Γ cs Q A nL (PicX Ω ad A σ) pc lv (.ref (ad 4 i) :: st) := tv_get X (fun H h => h.1) hi rfl rfl inG1 (k := 4) (by decide) hlk rfl hd kk
theorem eX1_4 {v : Int32} : up2 (encX Ω ad σ) 4 i (.inr (1, [.ref (ad 1 (5 + 2 * i)), .ref (ad 1 (6 + 2 * i)), .int (gi σ 102 i), .int (gi σ 103 i), .int v, .int (gi σ 105 i), .int (gi σ 106 i), .int (gi σ 107 i), .int (gi σ 108 i)])) = encX Ω ad (si σ 104 i v) := by
  funext f j
  by_cases h : f = 4 ∧ j = i
  · obtain ⟨rfl, rfl⟩ := h
    simp [up2, encX, si, sr, sg, gi, gr, ga]
  · unfold up2
    rw [if_neg h]
    match f, h with
    | 0, _ => first | rfl | simp [up2, va_up, encX, si, sr, sg, gi, gr, ga]
    | 1, _ => first | rfl | simp [up2, va_up, encX, si, sr, sg, gi, gr, ga]
    | 2, _ => first | rfl | simp [up2, va_up, encX, si, sr, sg, gi, gr, ga]
    | 3, _ => first | rfl | simp [up2, va_up, encX, si, sr, sg, gi, gr, ga]
    | 4, h =>
      have hj : ¬ j = i := fun e => h ⟨rfl, e⟩
      simp [up2, hj, encX, si, sr, sg, gi, gr, ga]
    | 5, _ => first | rfl | simp [up2, va_up, encX, si, sr, sg, gi, gr, ga]
    | 6, _ => first | rfl | simp [up2, va_up, encX, si, sr, sg, gi, gr, ga]
    | 7, _ => first | rfl | simp [up2, va_up, encX, si, sr, sg, gi, gr, ga]
    | 8, _ => first | rfl | simp [up2, va_up, encX, si, sr, sg, gi, gr, ga]
    | 9, _ => first | rfl | simp [up2, va_up, encX, si, sr, sg, gi, gr, ga]
    | 10, _ => first | rfl | simp [up2, va_up, encX, si, sr, sg, gi, gr, ga]
    | 11, _ => first | rfl | simp [up2, va_up, encX, si, sr, sg, gi, gr, ga]
    | 12, _ => first | rfl | simp [up2, va_up, encX, si, sr, sg, gi, gr, ga]
    | _ + 13, _ => rfl
theorem pX1_4 (X : Fx Γ Ω A cc nL own rm ret) {v : Int32} (hi : i < 320) (hlk : Cond.fieldLink own index "MappingTexts$Field" "nullNumber" "I" ∈ GW) (hd : decode cc pc = .ok (.putfield index, 3)) (kk : V Γ cs Q A nL (PicX Ω ad A (si σ 104 i v)) (pc + 3) lv st) : V Γ cs Q A nL (PicX Ω ad A σ) pc lv (.int v :: .ref (ad 4 i) :: st) := tv_put X (fun H h => h.1) (fun H0 H h0 h => ⟨(congrArg (fun E => PP Ω cntX ad A E H) (eX1_4)).mp h, h0.2⟩) hi rfl rfl inG1 tyX1_ok nmX1 (k := 4) (by decide) hlk rfl rfl rfl rfl (Nat.le_of_ble_eq_true rfl) hd kk
theorem gX1_5 (X : Fx Γ Ω A cc nL own rm ret) (hi : i < 320) (hlk : Cond.fieldLink own index "MappingTexts$Field" "copy" "I" ∈ GW) (hd : decode cc pc = .ok (.getfield index, 3)) (kk : V Γ cs Q A nL (PicX Ω ad A σ) (pc + 3) lv (.int (gi σ 105 i) :: st)) : V Γ cs Q A nL (PicX Ω ad A σ) pc lv (.ref (ad 4 i) :: st) := tv_get X (fun H h => h.1) hi rfl rfl inG1 (k := 5) (by decide) hlk rfl hd kk
theorem eX1_5 {v : Int32} : up2 (encX Ω ad σ) 4 i (.inr (1, [.ref (ad 1 (5 + 2 * i)), .ref (ad 1 (6 + 2 * i)), .int (gi σ 102 i), .int (gi σ 103 i), .int (gi σ 104 i), .int v, .int (gi σ 106 i), .int (gi σ 107 i), .int (gi σ 108 i)])) = encX Ω ad (si σ 105 i v) := by
  funext f j
  by_cases h : f = 4 ∧ j = i
  · obtain ⟨rfl, rfl⟩ := h
    simp [up2, encX, si, sr, sg, gi, gr, ga]
  · unfold up2
    rw [if_neg h]
    match f, h with
    | 0, _ => first | rfl | simp [up2, va_up, encX, si, sr, sg, gi, gr, ga]
    | 1, _ => first | rfl | simp [up2, va_up, encX, si, sr, sg, gi, gr, ga]
    | 2, _ => first | rfl | simp [up2, va_up, encX, si, sr, sg, gi, gr, ga]
    | 3, _ => first | rfl | simp [up2, va_up, encX, si, sr, sg, gi, gr, ga]
    | 4, h =>
      have hj : ¬ j = i := fun e => h ⟨rfl, e⟩
      simp [up2, hj, encX, si, sr, sg, gi, gr, ga]
    | 5, _ => first | rfl | simp [up2, va_up, encX, si, sr, sg, gi, gr, ga]
    | 6, _ => first | rfl | simp [up2, va_up, encX, si, sr, sg, gi, gr, ga]
    | 7, _ => first | rfl | simp [up2, va_up, encX, si, sr, sg, gi, gr, ga]
    | 8, _ => first | rfl | simp [up2, va_up, encX, si, sr, sg, gi, gr, ga]
    | 9, _ => first | rfl | simp [up2, va_up, encX, si, sr, sg, gi, gr, ga]
    | 10, _ => first | rfl | simp [up2, va_up, encX, si, sr, sg, gi, gr, ga]
    | 11, _ => first | rfl | simp [up2, va_up, encX, si, sr, sg, gi, gr, ga]
    | 12, _ => first | rfl | simp [up2, va_up, encX, si, sr, sg, gi, gr, ga]
    | _ + 13, _ => rfl
theorem pX1_5 (X : Fx Γ Ω A cc nL own rm ret) {v : Int32} (hi : i < 320) (hlk : Cond.fieldLink own index "MappingTexts$Field" "copy" "I" ∈ GW) (hd : decode cc pc = .ok (.putfield index, 3)) (kk : V Γ cs Q A nL (PicX Ω ad A (si σ 105 i v)) (pc + 3) lv st) : V Γ cs Q A nL (PicX Ω ad A σ) pc lv (.int v :: .ref (ad 4 i) :: st) := tv_put X (fun H h => h.1) (fun H0 H h0 h => ⟨(congrArg (fun E => PP Ω cntX ad A E H) (eX1_5)).mp h, h0.2⟩) hi rfl rfl inG1 tyX1_ok nmX1 (k := 5) (by decide) hlk rfl rfl rfl rfl (Nat.le_of_ble_eq_true rfl) hd kk
theorem gX1_6 (X : Fx Γ Ω A cc nL own rm ret) (hi : i < 320) (hlk : Cond.fieldLink own index "MappingTexts$Field" "of" "I" ∈ GW) (hd : decode cc pc = .ok (.getfield index, 3)) (kk : V Γ cs Q A nL (PicX Ω ad A σ) (pc + 3) lv (.int (gi σ 106 i) :: st)) : V Γ cs Q A nL (PicX Ω ad A σ) pc lv (.ref (ad 4 i) :: st) := tv_get X (fun H h => h.1) hi rfl rfl inG1 (k := 6) (by decide) hlk rfl hd kk
theorem eX1_6 {v : Int32} : up2 (encX Ω ad σ) 4 i (.inr (1, [.ref (ad 1 (5 + 2 * i)), .ref (ad 1 (6 + 2 * i)), .int (gi σ 102 i), .int (gi σ 103 i), .int (gi σ 104 i), .int (gi σ 105 i), .int v, .int (gi σ 107 i), .int (gi σ 108 i)])) = encX Ω ad (si σ 106 i v) := by
  funext f j
  by_cases h : f = 4 ∧ j = i
  · obtain ⟨rfl, rfl⟩ := h
    simp [up2, encX, si, sr, sg, gi, gr, ga]
  · unfold up2
    rw [if_neg h]
    match f, h with
    | 0, _ => first | rfl | simp [up2, va_up, encX, si, sr, sg, gi, gr, ga]
    | 1, _ => first | rfl | simp [up2, va_up, encX, si, sr, sg, gi, gr, ga]
    | 2, _ => first | rfl | simp [up2, va_up, encX, si, sr, sg, gi, gr, ga]
    | 3, _ => first | rfl | simp [up2, va_up, encX, si, sr, sg, gi, gr, ga]
    | 4, h =>
      have hj : ¬ j = i := fun e => h ⟨rfl, e⟩
      simp [up2, hj, encX, si, sr, sg, gi, gr, ga]
    | 5, _ => first | rfl | simp [up2, va_up, encX, si, sr, sg, gi, gr, ga]
    | 6, _ => first | rfl | simp [up2, va_up, encX, si, sr, sg, gi, gr, ga]
    | 7, _ => first | rfl | simp [up2, va_up, encX, si, sr, sg, gi, gr, ga]
    | 8, _ => first | rfl | simp [up2, va_up, encX, si, sr, sg, gi, gr, ga]
    | 9, _ => first | rfl | simp [up2, va_up, encX, si, sr, sg, gi, gr, ga]
    | 10, _ => first | rfl | simp [up2, va_up, encX, si, sr, sg, gi, gr, ga]
    | 11, _ => first | rfl | simp [up2, va_up, encX, si, sr, sg, gi, gr, ga]
    | 12, _ => first | rfl | simp [up2, va_up, encX, si, sr, sg, gi, gr, ga]
    | _ + 13, _ => rfl
theorem pX1_6 (X : Fx Γ Ω A cc nL own rm ret) {v : Int32} (hi : i < 320) (hlk : Cond.fieldLink own index "MappingTexts$Field" "of" "I" ∈ GW) (hd : decode cc pc = .ok (.putfield index, 3)) (kk : V Γ cs Q A nL (PicX Ω ad A (si σ 106 i v)) (pc + 3) lv st) : V Γ cs Q A nL (PicX Ω ad A σ) pc lv (.int v :: .ref (ad 4 i) :: st) := tv_put X (fun H h => h.1) (fun H0 H h0 h => ⟨(congrArg (fun E => PP Ω cntX ad A E H) (eX1_6)).mp h, h0.2⟩) hi rfl rfl inG1 tyX1_ok nmX1 (k := 6) (by decide) hlk rfl rfl rfl rfl (Nat.le_of_ble_eq_true rfl) hd kk
theorem gX1_7 (X : Fx Γ Ω A cc nL own rm ret) (hi : i < 320) (hlk : Cond.fieldLink own index "MappingTexts$Field" "holder" "I" ∈ GW) (hd : decode cc pc = .ok (.getfield index, 3)) (kk : V Γ cs Q A nL (PicX Ω ad A σ) (pc + 3) lv (.int (gi σ 107 i) :: st)) : V Γ cs Q A nL (PicX Ω ad A σ) pc lv (.ref (ad 4 i) :: st) := tv_get X (fun H h => h.1) hi rfl rfl inG1 (k := 7) (by decide) hlk rfl hd kk
theorem eX1_7 {v : Int32} : up2 (encX Ω ad σ) 4 i (.inr (1, [.ref (ad 1 (5 + 2 * i)), .ref (ad 1 (6 + 2 * i)), .int (gi σ 102 i), .int (gi σ 103 i), .int (gi σ 104 i), .int (gi σ 105 i), .int (gi σ 106 i), .int v, .int (gi σ 108 i)])) = encX Ω ad (si σ 107 i v) := by
  funext f j
  by_cases h : f = 4 ∧ j = i
  · obtain ⟨rfl, rfl⟩ := h
    simp [up2, encX, si, sr, sg, gi, gr, ga]
  · unfold up2
    rw [if_neg h]
    match f, h with
    | 0, _ => first | rfl | simp [up2, va_up, encX, si, sr, sg, gi, gr, ga]
    | 1, _ => first | rfl | simp [up2, va_up, encX, si, sr, sg, gi, gr, ga]
    | 2, _ => first | rfl | simp [up2, va_up, encX, si, sr, sg, gi, gr, ga]
    | 3, _ => first | rfl | simp [up2, va_up, encX, si, sr, sg, gi, gr, ga]
    | 4, h =>
      have hj : ¬ j = i := fun e => h ⟨rfl, e⟩
      simp [up2, hj, encX, si, sr, sg, gi, gr, ga]
    | 5, _ => first | rfl | simp [up2, va_up, encX, si, sr, sg, gi, gr, ga]
    | 6, _ => first | rfl | simp [up2, va_up, encX, si, sr, sg, gi, gr, ga]
    | 7, _ => first | rfl | simp [up2, va_up, encX, si, sr, sg, gi, gr, ga]
    | 8, _ => first | rfl | simp [up2, va_up, encX, si, sr, sg, gi, gr, ga]
    | 9, _ => first | rfl | simp [up2, va_up, encX, si, sr, sg, gi, gr, ga]
    | 10, _ => first | rfl | simp [up2, va_up, encX, si, sr, sg, gi, gr, ga]
    | 11, _ => first | rfl | simp [up2, va_up, encX, si, sr, sg, gi, gr, ga]
    | 12, _ => first | rfl | simp [up2, va_up, encX, si, sr, sg, gi, gr, ga]
    | _ + 13, _ => rfl
theorem pX1_7 (X : Fx Γ Ω A cc nL own rm ret) {v : Int32} (hi : i < 320) (hlk : Cond.fieldLink own index "MappingTexts$Field" "holder" "I" ∈ GW) (hd : decode cc pc = .ok (.putfield index, 3)) (kk : V Γ cs Q A nL (PicX Ω ad A (si σ 107 i v)) (pc + 3) lv st) : V Γ cs Q A nL (PicX Ω ad A σ) pc lv (.int v :: .ref (ad 4 i) :: st) := tv_put X (fun H h => h.1) (fun H0 H h0 h => ⟨(congrArg (fun E => PP Ω cntX ad A E H) (eX1_7)).mp h, h0.2⟩) hi rfl rfl inG1 tyX1_ok nmX1 (k := 7) (by decide) hlk rfl rfl rfl rfl (Nat.le_of_ble_eq_true rfl) hd kk
theorem gX1_8 (X : Fx Γ Ω A cc nL own rm ret) (hi : i < 320) (hlk : Cond.fieldLink own index "MappingTexts$Field" "depth" "I" ∈ GW) (hd : decode cc pc = .ok (.getfield index, 3)) (kk : V Γ cs Q A nL (PicX Ω ad A σ) (pc + 3) lv (.int (gi σ 108 i) :: st)) : V Γ cs Q A nL (PicX Ω ad A σ) pc lv (.ref (ad 4 i) :: st) := tv_get X (fun H h => h.1) hi rfl rfl inG1 (k := 8) (by decide) hlk rfl hd kk
theorem eX1_8 {v : Int32} : up2 (encX Ω ad σ) 4 i (.inr (1, [.ref (ad 1 (5 + 2 * i)), .ref (ad 1 (6 + 2 * i)), .int (gi σ 102 i), .int (gi σ 103 i), .int (gi σ 104 i), .int (gi σ 105 i), .int (gi σ 106 i), .int (gi σ 107 i), .int v])) = encX Ω ad (si σ 108 i v) := by
  funext f j
  by_cases h : f = 4 ∧ j = i
  · obtain ⟨rfl, rfl⟩ := h
    simp [up2, encX, si, sr, sg, gi, gr, ga]
  · unfold up2
    rw [if_neg h]
    match f, h with
    | 0, _ => first | rfl | simp [up2, va_up, encX, si, sr, sg, gi, gr, ga]
    | 1, _ => first | rfl | simp [up2, va_up, encX, si, sr, sg, gi, gr, ga]
    | 2, _ => first | rfl | simp [up2, va_up, encX, si, sr, sg, gi, gr, ga]
    | 3, _ => first | rfl | simp [up2, va_up, encX, si, sr, sg, gi, gr, ga]
    | 4, h =>
      have hj : ¬ j = i := fun e => h ⟨rfl, e⟩
      simp [up2, hj, encX, si, sr, sg, gi, gr, ga]
    | 5, _ => first | rfl | simp [up2, va_up, encX, si, sr, sg, gi, gr, ga]
    | 6, _ => first | rfl | simp [up2, va_up, encX, si, sr, sg, gi, gr, ga]
    | 7, _ => first | rfl | simp [up2, va_up, encX, si, sr, sg, gi, gr, ga]
    | 8, _ => first | rfl | simp [up2, va_up, encX, si, sr, sg, gi, gr, ga]
    | 9, _ => first | rfl | simp [up2, va_up, encX, si, sr, sg, gi, gr, ga]
    | 10, _ => first | rfl | simp [up2, va_up, encX, si, sr, sg, gi, gr, ga]
    | 11, _ => first | rfl | simp [up2, va_up, encX, si, sr, sg, gi, gr, ga]
    | 12, _ => first | rfl | simp [up2, va_up, encX, si, sr, sg, gi, gr, ga]
    | _ + 13, _ => rfl
theorem pX1_8 (X : Fx Γ Ω A cc nL own rm ret) {v : Int32} (hi : i < 320) (hlk : Cond.fieldLink own index "MappingTexts$Field" "depth" "I" ∈ GW) (hd : decode cc pc = .ok (.putfield index, 3)) (kk : V Γ cs Q A nL (PicX Ω ad A (si σ 108 i v)) (pc + 3) lv st) : V Γ cs Q A nL (PicX Ω ad A σ) pc lv (.int v :: .ref (ad 4 i) :: st) := tv_put X (fun H h => h.1) (fun H0 H h0 h => ⟨(congrArg (fun E => PP Ω cntX ad A E H) (eX1_8)).mp h, h0.2⟩) hi rfl rfl inG1 tyX1_ok nmX1 (k := 8) (by decide) hlk rfl rfl rfl rfl (Nat.le_of_ble_eq_true rfl) hd kk
theorem gX2_0 (X : Fx Γ Ω A cc nL own rm ret) (hi : i < 773) (hlk : Cond.fieldLink own index "MappingTexts$Letters" "bytes" "[B" ∈ GW) (hd : decode cc pc = .ok (.getfield index, 3)) (kk : V Γ cs Q A nL (PicX Ω ad A σ) (pc + 3) lv (.ref (ad 2 i) :: st)) : V Γ cs Q A nL (PicX Ω ad A σ) pc lv (.ref (ad 1 i) :: st) := tv_get X (fun H h => h.1) hi rfl rfl inG3 (k := 0) (by decide) hlk rfl hd kk
theorem gX2_1 (X : Fx Γ Ω A cc nL own rm ret) (hi : i < 773) (hlk : Cond.fieldLink own index "MappingTexts$Letters" "length" "I" ∈ GW) (hd : decode cc pc = .ok (.getfield index, 3)) (kk : V Γ cs Q A nL (PicX Ω ad A σ) (pc + 3) lv (.int (gi σ 201 i) :: st)) : V Γ cs Q A nL (PicX Ω ad A σ) pc lv (.ref (ad 1 i) :: st) := tv_get X (fun H h => h.1) hi rfl rfl inG3 (k := 1) (by decide) hlk rfl hd kk
theorem eX2_1 {v : Int32} : up2 (encX Ω ad σ) 1 i (.inr (2, [.ref (ad 2 i), .int v, .int (gi σ 202 i)])) = encX Ω ad (si σ 201 i v) := by
  funext f j
  by_cases h : f = 1 ∧ j = i
  · obtain ⟨rfl, rfl⟩ := h
    simp [up2, encX, si, sr, sg, gi, gr, ga]
  · unfold up2
    rw [if_neg h]
    match f, h with
    | 0, _ => first | rfl | simp [up2, va_up, encX, si, sr, sg, gi, gr, ga]
    | 1, h =>
      have hj : ¬ j = i := fun e => h ⟨rfl, e⟩
      simp [up2, hj, encX, si, sr, sg, gi, gr, ga]
    | 2, _ => first | rfl | simp [up2, va_up, encX, si, sr, sg, gi, gr, ga]
    | 3, _ => first | rfl | simp [up2, va_up, encX, si, sr, sg, gi, gr, ga]
    | 4, _ => first | rfl | simp [up2, va_up, encX, si, sr, sg, gi, gr, ga]
    | 5, _ => first | rfl | simp [up2, va_up, encX, si, sr, sg, gi, gr, ga]
    | 6, _ => first | rfl | simp [up2, va_up, encX, si, sr, sg, gi, gr, ga]
    | 7, _ => first | rfl | simp [up2, va_up, encX, si, sr, sg, gi, gr, ga]
    | 8, _ => first | rfl | simp [up2, va_up, encX, si, sr, sg, gi, gr, ga]
    | 9, _ => first | rfl | simp [up2, va_up, encX, si, sr, sg, gi, gr, ga]
    | 10, _ => first | rfl | simp [up2, va_up, encX, si, sr, sg, gi, gr, ga]
    | 11, _ => first | rfl | simp [up2, va_up, encX, si, sr, sg, gi, gr, ga]
    | 12, _ => first | rfl | simp [up2, va_up, encX, si, sr, sg, gi, gr, ga]
    | _ + 13, _ => rfl
theorem pX2_1 (X : Fx Γ Ω A cc nL own rm ret) {v : Int32} (hi : i < 773) (hlk : Cond.fieldLink own index "MappingTexts$Letters" "length" "I" ∈ GW) (hd : decode cc pc = .ok (.putfield index, 3)) (kk : V Γ cs Q A nL (PicX Ω ad A (si σ 201 i v)) (pc + 3) lv st) : V Γ cs Q A nL (PicX Ω ad A σ) pc lv (.int v :: .ref (ad 1 i) :: st) := tv_put X (fun H h => h.1) (fun H0 H h0 h => ⟨(congrArg (fun E => PP Ω cntX ad A E H) (eX2_1)).mp h, h0.2⟩) hi rfl rfl inG3 tyX3_ok nmX3 (k := 1) (by decide) hlk rfl rfl rfl rfl (Nat.le_of_ble_eq_true rfl) hd kk
theorem gX2_2 (X : Fx Γ Ω A cc nL own rm ret) (hi : i < 773) (hlk : Cond.fieldLink own index "MappingTexts$Letters" "over" "Z" ∈ GW) (hd : decode cc pc = .ok (.getfield index, 3)) (kk : V Γ cs Q A nL (PicX Ω ad A σ) (pc + 3) lv (.int (gi σ 202 i) :: st)) : V Γ cs Q A nL (PicX Ω ad A σ) pc lv (.ref (ad 1 i) :: st) := tv_get X (fun H h => h.1) hi rfl rfl inG3 (k := 2) (by decide) hlk rfl hd kk
theorem eX2_2 {v : Int32} : up2 (encX Ω ad σ) 1 i (.inr (2, [.ref (ad 2 i), .int (gi σ 201 i), .int v])) = encX Ω ad (si σ 202 i v) := by
  funext f j
  by_cases h : f = 1 ∧ j = i
  · obtain ⟨rfl, rfl⟩ := h
    simp [up2, encX, si, sr, sg, gi, gr, ga]
  · unfold up2
    rw [if_neg h]
    match f, h with
    | 0, _ => first | rfl | simp [up2, va_up, encX, si, sr, sg, gi, gr, ga]
    | 1, h =>
      have hj : ¬ j = i := fun e => h ⟨rfl, e⟩
      simp [up2, hj, encX, si, sr, sg, gi, gr, ga]
    | 2, _ => first | rfl | simp [up2, va_up, encX, si, sr, sg, gi, gr, ga]
    | 3, _ => first | rfl | simp [up2, va_up, encX, si, sr, sg, gi, gr, ga]
    | 4, _ => first | rfl | simp [up2, va_up, encX, si, sr, sg, gi, gr, ga]
    | 5, _ => first | rfl | simp [up2, va_up, encX, si, sr, sg, gi, gr, ga]
    | 6, _ => first | rfl | simp [up2, va_up, encX, si, sr, sg, gi, gr, ga]
    | 7, _ => first | rfl | simp [up2, va_up, encX, si, sr, sg, gi, gr, ga]
    | 8, _ => first | rfl | simp [up2, va_up, encX, si, sr, sg, gi, gr, ga]
    | 9, _ => first | rfl | simp [up2, va_up, encX, si, sr, sg, gi, gr, ga]
    | 10, _ => first | rfl | simp [up2, va_up, encX, si, sr, sg, gi, gr, ga]
    | 11, _ => first | rfl | simp [up2, va_up, encX, si, sr, sg, gi, gr, ga]
    | 12, _ => first | rfl | simp [up2, va_up, encX, si, sr, sg, gi, gr, ga]
    | _ + 13, _ => rfl
theorem pX2_2 (X : Fx Γ Ω A cc nL own rm ret) {v : Int32} (hv : v = 0 ∨ v = 1) (hi : i < 773) (hlk : Cond.fieldLink own index "MappingTexts$Letters" "over" "Z" ∈ GW) (hd : decode cc pc = .ok (.putfield index, 3)) (kk : V Γ cs Q A nL (PicX Ω ad A (si σ 202 i v)) (pc + 3) lv st) : V Γ cs Q A nL (PicX Ω ad A σ) pc lv (.int v :: .ref (ad 1 i) :: st) := tv_put X (fun H h => h.1) (fun H0 H h0 h => ⟨(congrArg (fun E => PP Ω cntX ad A E H) (eX2_2)).mp h, h0.2⟩) hi rfl rfl inG3 tyX3_ok nmX3 (k := 2) (by decide) hlk rfl rfl (by rcases hv with rfl | rfl <;> rfl) (by rcases hv with rfl | rfl <;> rfl) (Nat.le_of_ble_eq_true rfl) hd kk
theorem gX3_0 (X : Fx Γ Ω A cc nL own rm ret) (hi : i < 64) (hlk : Cond.fieldLink own index "MappingTexts$Rule" "head" "LMappingTexts$Letters;" ∈ GW) (hd : decode cc pc = .ok (.getfield index, 3)) (kk : V Γ cs Q A nL (PicX Ω ad A σ) (pc + 3) lv (.ref (ad 1 (645 + 2 * i)) :: st)) : V Γ cs Q A nL (PicX Ω ad A σ) pc lv (.ref (ad 5 i) :: st) := tv_get X (fun H h => h.1) hi rfl rfl inG4 (k := 0) (by decide) hlk rfl hd kk
theorem gX3_1 (X : Fx Γ Ω A cc nL own rm ret) (hi : i < 64) (hlk : Cond.fieldLink own index "MappingTexts$Rule" "tail" "LMappingTexts$Letters;" ∈ GW) (hd : decode cc pc = .ok (.getfield index, 3)) (kk : V Γ cs Q A nL (PicX Ω ad A σ) (pc + 3) lv (.ref (ad 1 (646 + 2 * i)) :: st)) : V Γ cs Q A nL (PicX Ω ad A σ) pc lv (.ref (ad 5 i) :: st) := tv_get X (fun H h => h.1) hi rfl rfl inG4 (k := 1) (by decide) hlk rfl hd kk
theorem gX3_2 (X : Fx Γ Ω A cc nL own rm ret) (hi : i < 64) (hlk : Cond.fieldLink own index "MappingTexts$Rule" "star" "Z" ∈ GW) (hd : decode cc pc = .ok (.getfield index, 3)) (kk : V Γ cs Q A nL (PicX Ω ad A σ) (pc + 3) lv (.int (gi σ 302 i) :: st)) : V Γ cs Q A nL (PicX Ω ad A σ) pc lv (.ref (ad 5 i) :: st) := tv_get X (fun H h => h.1) hi rfl rfl inG4 (k := 2) (by decide) hlk rfl hd kk
theorem eX3_2 {v : Int32} : up2 (encX Ω ad σ) 5 i (.inr (3, [.ref (ad 1 (645 + 2 * i)), .ref (ad 1 (646 + 2 * i)), .int v, .int (gi σ 303 i)])) = encX Ω ad (si σ 302 i v) := by
  funext f j
  by_cases h : f = 5 ∧ j = i
  · obtain ⟨rfl, rfl⟩ := h
    simp [up2, encX, si, sr, sg, gi, gr, ga]
  · unfold up2
    rw [if_neg h]
    match f, h with
    | 0, _ => first | rfl | simp [up2, va_up, encX, si, sr, sg, gi, gr, ga]
    | 1, _ => first | rfl | simp [up2, va_up, encX, si, sr, sg, gi, gr, ga]
    | 2, _ => first | rfl | simp [up2, va_up, encX, si, sr, sg, gi, gr, ga]
    | 3, _ => first | rfl | simp [up2, va_up, encX, si, sr, sg, gi, gr, ga]
    | 4, _ => first | rfl | simp [up2, va_up, encX, si, sr, sg, gi, gr, ga]
    | 5, h =>
      have hj : ¬ j = i := fun e => h ⟨rfl, e⟩
      simp [up2, hj, encX, si, sr, sg, gi, gr, ga]
    | 6, _ => first | rfl | simp [up2, va_up, encX, si, sr, sg, gi, gr, ga]
    | 7, _ => first | rfl | simp [up2, va_up, encX, si, sr, sg, gi, gr, ga]
    | 8, _ => first | rfl | simp [up2, va_up, encX, si, sr, sg, gi, gr, ga]
    | 9, _ => first | rfl | simp [up2, va_up, encX, si, sr, sg, gi, gr, ga]
    | 10, _ => first | rfl | simp [up2, va_up, encX, si, sr, sg, gi, gr, ga]
    | 11, _ => first | rfl | simp [up2, va_up, encX, si, sr, sg, gi, gr, ga]
    | 12, _ => first | rfl | simp [up2, va_up, encX, si, sr, sg, gi, gr, ga]
    | _ + 13, _ => rfl
theorem pX3_2 (X : Fx Γ Ω A cc nL own rm ret) {v : Int32} (hv : v = 0 ∨ v = 1) (hi : i < 64) (hlk : Cond.fieldLink own index "MappingTexts$Rule" "star" "Z" ∈ GW) (hd : decode cc pc = .ok (.putfield index, 3)) (kk : V Γ cs Q A nL (PicX Ω ad A (si σ 302 i v)) (pc + 3) lv st) : V Γ cs Q A nL (PicX Ω ad A σ) pc lv (.int v :: .ref (ad 5 i) :: st) := tv_put X (fun H h => h.1) (fun H0 H h0 h => ⟨(congrArg (fun E => PP Ω cntX ad A E H) (eX3_2)).mp h, h0.2⟩) hi rfl rfl inG4 tyX4_ok nmX4 (k := 2) (by decide) hlk rfl rfl (by rcases hv with rfl | rfl <;> rfl) (by rcases hv with rfl | rfl <;> rfl) (Nat.le_of_ble_eq_true rfl) hd kk
theorem gX3_3 (X : Fx Γ Ω A cc nL own rm ret) (hi : i < 64) (hlk : Cond.fieldLink own index "MappingTexts$Rule" "kind" "I" ∈ GW) (hd : decode cc pc = .ok (.getfield index, 3)) (kk : V Γ cs Q A nL (PicX Ω ad A σ) (pc + 3) lv (.int (gi σ 303 i) :: st)) : V Γ cs Q A nL (PicX Ω ad A σ) pc lv (.ref (ad 5 i) :: st) := tv_get X (fun H h => h.1) hi rfl rfl inG4 (k := 3) (by decide) hlk rfl hd kk
theorem eX3_3 {v : Int32} : up2 (encX Ω ad σ) 5 i (.inr (3, [.ref (ad 1 (645 + 2 * i)), .ref (ad 1 (646 + 2 * i)), .int (gi σ 302 i), .int v])) = encX Ω ad (si σ 303 i v) := by
  funext f j
  by_cases h : f = 5 ∧ j = i
  · obtain ⟨rfl, rfl⟩ := h
    simp [up2, encX, si, sr, sg, gi, gr, ga]
  · unfold up2
    rw [if_neg h]
    match f, h with
    | 0, _ => first | rfl | simp [up2, va_up, encX, si, sr, sg, gi, gr, ga]
    | 1, _ => first | rfl | simp [up2, va_up, encX, si, sr, sg, gi, gr, ga]
    | 2, _ => first | rfl | simp [up2, va_up, encX, si, sr, sg, gi, gr, ga]
    | 3, _ => first | rfl | simp [up2, va_up, encX, si, sr, sg, gi, gr, ga]
    | 4, _ => first | rfl | simp [up2, va_up, encX, si, sr, sg, gi, gr, ga]
    | 5, h =>
      have hj : ¬ j = i := fun e => h ⟨rfl, e⟩
      simp [up2, hj, encX, si, sr, sg, gi, gr, ga]
    | 6, _ => first | rfl | simp [up2, va_up, encX, si, sr, sg, gi, gr, ga]
    | 7, _ => first | rfl | simp [up2, va_up, encX, si, sr, sg, gi, gr, ga]
    | 8, _ => first | rfl | simp [up2, va_up, encX, si, sr, sg, gi, gr, ga]
    | 9, _ => first | rfl | simp [up2, va_up, encX, si, sr, sg, gi, gr, ga]
    | 10, _ => first | rfl | simp [up2, va_up, encX, si, sr, sg, gi, gr, ga]
    | 11, _ => first | rfl | simp [up2, va_up, encX, si, sr, sg, gi, gr, ga]
    | 12, _ => first | rfl | simp [up2, va_up, encX, si, sr, sg, gi, gr, ga]
    | _ + 13, _ => rfl
theorem pX3_3 (X : Fx Γ Ω A cc nL own rm ret) {v : Int32} (hi : i < 64) (hlk : Cond.fieldLink own index "MappingTexts$Rule" "kind" "I" ∈ GW) (hd : decode cc pc = .ok (.putfield index, 3)) (kk : V Γ cs Q A nL (PicX Ω ad A (si σ 303 i v)) (pc + 3) lv st) : V Γ cs Q A nL (PicX Ω ad A σ) pc lv (.int v :: .ref (ad 5 i) :: st) := tv_put X (fun H h => h.1) (fun H0 H h0 h => ⟨(congrArg (fun E => PP Ω cntX ad A E H) (eX3_3)).mp h, h0.2⟩) hi rfl rfl inG4 tyX4_ok nmX4 (k := 3) (by decide) hlk rfl rfl rfl rfl (Nat.le_of_ble_eq_true rfl) hd kk
theorem gX4_0 (X : Fx Γ Ω A cc nL own rm ret) (hi : i < 1) (hlk : Cond.fieldLink own index "MappingTexts$TextReader" "tokens" "LMappingTexts$Tokens;" ∈ GW) (hd : decode cc pc = .ok (.getfield index, 3)) (kk : V Γ cs Q A nL (PicX Ω ad A σ) (pc + 3) lv (.ref (ad 9 0) :: st)) : V Γ cs Q A nL (PicX Ω ad A σ) pc lv (.ref (ad 10 i) :: st) := tv_get X (fun H h => h.1) hi rfl rfl inG5 (k := 0) (by decide) hlk rfl hd kk
theorem gX4_1 (X : Fx Γ Ω A cc nL own rm ret) (hi : i < 1) (hlk : Cond.fieldLink own index "MappingTexts$TextReader" "path" "LMappingTexts$Letters;" ∈ GW) (hd : decode cc pc = .ok (.getfield index, 3)) (kk : V Γ cs Q A nL (PicX Ω ad A σ) (pc + 3) lv (.ref (ad 1 4) :: st)) : V Γ cs Q A nL (PicX Ω ad A σ) pc lv (.ref (ad 10 i) :: st) := tv_get X (fun H h => h.1) hi rfl rfl inG5 (k := 1) (by decide) hlk rfl hd kk
theorem gX4_2 (X : Fx Γ Ω A cc nL own rm ret) (hi : i < 1) (hlk : Cond.fieldLink own index "MappingTexts$TextReader" "open" "[I" ∈ GW) (hd : decode cc pc = .ok (.getfield index, 3)) (kk : V Γ cs Q A nL (PicX Ω ad A σ) (pc + 3) lv (.ref (ad 8 11) :: st)) : V Γ cs Q A nL (PicX Ω ad A σ) pc lv (.ref (ad 10 i) :: st) := tv_get X (fun H h => h.1) hi rfl rfl inG5 (k := 2) (by decide) hlk rfl hd kk
theorem gX4_3 (X : Fx Γ Ω A cc nL own rm ret) (hi : i < 1) (hlk : Cond.fieldLink own index "MappingTexts$TextReader" "copyTokens" "[I" ∈ GW) (hd : decode cc pc = .ok (.getfield index, 3)) (kk : V Γ cs Q A nL (PicX Ω ad A σ) (pc + 3) lv (.ref (ad 8 12) :: st)) : V Γ cs Q A nL (PicX Ω ad A σ) pc lv (.ref (ad 10 i) :: st) := tv_get X (fun H h => h.1) hi rfl rfl inG5 (k := 3) (by decide) hlk rfl hd kk
theorem gX4_4 (X : Fx Γ Ω A cc nL own rm ret) (hi : i < 1) (hlk : Cond.fieldLink own index "MappingTexts$TextReader" "copyPathTokens" "[I" ∈ GW) (hd : decode cc pc = .ok (.getfield index, 3)) (kk : V Γ cs Q A nL (PicX Ω ad A σ) (pc + 3) lv (.ref (ad 8 13) :: st)) : V Γ cs Q A nL (PicX Ω ad A σ) pc lv (.ref (ad 10 i) :: st) := tv_get X (fun H h => h.1) hi rfl rfl inG5 (k := 4) (by decide) hlk rfl hd kk
theorem gX4_5 (X : Fx Γ Ω A cc nL own rm ret) (hi : i < 1) (hlk : Cond.fieldLink own index "MappingTexts$TextReader" "ofPathTokens" "[I" ∈ GW) (hd : decode cc pc = .ok (.getfield index, 3)) (kk : V Γ cs Q A nL (PicX Ω ad A σ) (pc + 3) lv (.ref (ad 8 14) :: st)) : V Γ cs Q A nL (PicX Ω ad A σ) pc lv (.ref (ad 10 i) :: st) := tv_get X (fun H h => h.1) hi rfl rfl inG5 (k := 5) (by decide) hlk rfl hd kk
theorem gX4_6 (X : Fx Γ Ω A cc nL own rm ret) (hi : i < 1) (hlk : Cond.fieldLink own index "MappingTexts$TextReader" "version" "LMappingTexts$Version;" ∈ GW) (hd : decode cc pc = .ok (.getfield index, 3)) (kk : gr σ 2 i < 8 → V Γ cs Q A nL (PicX Ω ad A σ) (pc + 3) lv (.ref (ad 3 (gr σ 2 i)) :: st)) : V Γ cs Q A nL (PicX Ω ad A σ) pc lv (.ref (ad 10 i) :: st) := fun H locs ls hZ => tv_get X (fun H h => h.1) hi rfl rfl inG5 (k := 6) (by decide) hlk rfl hd (kk (hZ.2.2.2.1 i)) H locs ls hZ
theorem eX4_6 {y : Nat} : up2 (encX Ω ad σ) 10 i (.inr (4, [.ref (ad 9 0), .ref (ad 1 4), .ref (ad 8 11), .ref (ad 8 12), .ref (ad 8 13), .ref (ad 8 14), .ref (ad 3 y), .ref (ad 4 (gr σ 3 i)), .ref (ad 5 (gr σ 4 i)), .int (gi σ 409 i), .int (gi σ 410 i), .int (gi σ 411 i), .int (gi σ 412 i), .int (gi σ 413 i), .int (gi σ 414 i), .int (gi σ 415 i), .int (gi σ 416 i)])) = encX Ω ad (sr σ 2 i y) := by
  funext f j
  by_cases h : f = 10 ∧ j = i
  · obtain ⟨rfl, rfl⟩ := h
    simp [up2, encX, si, sr, sg, gi, gr, ga]
  · unfold up2
    rw [if_neg h]
    match f, h with
    | 0, _ => first | rfl | simp [up2, va_up, encX, si, sr, sg, gi, gr, ga]
    | 1, _ => first | rfl | simp [up2, va_up, encX, si, sr, sg, gi, gr, ga]
    | 2, _ => first | rfl | simp [up2, va_up, encX, si, sr, sg, gi, gr, ga]
    | 3, _ => first | rfl | simp [up2, va_up, encX, si, sr, sg, gi, gr, ga]
    | 4, _ => first | rfl | simp [up2, va_up, encX, si, sr, sg, gi, gr, ga]
    | 5, _ => first | rfl | simp [up2, va_up, encX, si, sr, sg, gi, gr, ga]
    | 6, _ => first | rfl | simp [up2, va_up, encX, si, sr, sg, gi, gr, ga]
    | 7, _ => first | rfl | simp [up2, va_up, encX, si, sr, sg, gi, gr, ga]
    | 8, _ => first | rfl | simp [up2, va_up, encX, si, sr, sg, gi, gr, ga]
    | 9, _ => first | rfl | simp [up2, va_up, encX, si, sr, sg, gi, gr, ga]
    | 10, h =>
      have hj : ¬ j = i := fun e => h ⟨rfl, e⟩
      simp [up2, hj, encX, si, sr, sg, gi, gr, ga]
    | 11, _ => first | rfl | simp [up2, va_up, encX, si, sr, sg, gi, gr, ga]
    | 12, _ => first | rfl | simp [up2, va_up, encX, si, sr, sg, gi, gr, ga]
    | _ + 13, _ => rfl
theorem pX4_6 (X : Fx Γ Ω A cc nL own rm ret) {y : Nat} (hy : y < 8) (hi : i < 1) (hlk : Cond.fieldLink own index "MappingTexts$TextReader" "version" "LMappingTexts$Version;" ∈ GW) (hd : decode cc pc = .ok (.putfield index, 3)) (kk : V Γ cs Q A nL (PicX Ω ad A (sr σ 2 i y)) (pc + 3) lv st) : V Γ cs Q A nL (PicX Ω ad A σ) pc lv (.ref (ad 3 y) :: .ref (ad 10 i) :: st) := tv_put X (fun H h => h.1) (fun H0 H h0 h => ⟨(congrArg (fun E => PP Ω cntX ad A E H) (eX4_6)).mp h, vd_sr2 hy h0.2⟩) hi rfl rfl inG5 tyX5_ok nmX5 (k := 6) (by decide) hlk rfl rfl rfl rfl (Nat.le_of_ble_eq_true rfl) hd kk
theorem gX4_7 (X : Fx Γ Ω A cc nL own rm ret) (hi : i < 1) (hlk : Cond.fieldLink own index "MappingTexts$TextReader" "field" "LMappingTexts$Field;" ∈ GW) (hd : decode cc pc = .ok (.getfield index, 3)) (kk : gr σ 3 i < 320 → V Γ cs Q A nL (PicX Ω ad A σ) (pc + 3) lv (.ref (ad 4 (gr σ 3 i)) :: st)) : V Γ cs Q A nL (PicX Ω ad A σ) pc lv (.ref (ad 10 i) :: st) := fun H locs ls hZ => tv_get X (fun H h => h.1) hi rfl rfl inG5 (k := 7) (by decide) hlk rfl hd (kk (hZ.2.2.2.2.1 i)) H locs ls hZ
theorem eX4_7 {y : Nat} : up2 (encX Ω ad σ) 10 i (.inr (4, [.ref (ad 9 0), .ref (ad 1 4), .ref (ad 8 11), .ref (ad 8 12), .ref (ad 8 13), .ref (ad 8 14), .ref (ad 3 (gr σ 2 i)), .ref (ad 4 y), .ref (ad 5 (gr σ 4 i)), .int (gi σ 409 i), .int (gi σ 410 i), .int (gi σ 411 i), .int (gi σ 412 i), .int (gi σ 413 i), .int (gi σ 414 i), .int (gi σ 415 i), .int (gi σ 416 i)])) = encX Ω ad (sr σ 3 i y) := by
  funext f j
  by_cases h : f = 10 ∧ j = i
  · obtain ⟨rfl, rfl⟩ := h
    simp [up2, encX, si, sr, sg, gi, gr, ga]
  · unfold up2
    rw [if_neg h]
    match f, h with
    | 0, _ => first | rfl | simp [up2, va_up, encX, si, sr, sg, gi, gr, ga]
    | 1, _ => first | rfl | simp [up2, va_up, encX, si, sr, sg, gi, gr, ga]
    | 2, _ => first | rfl | simp [up2, va_up, encX, si, sr, sg, gi, gr, ga]
    | 3, _ => first | rfl | simp [up2, va_up, encX, si, sr, sg, gi, gr, ga]
    | 4, _ => first | rfl | simp [up2, va_up, encX, si, sr, sg, gi, gr, ga]
    | 5, _ => first | rfl | simp [up2, va_up, encX, si, sr, sg, gi, gr, ga]
    | 6, _ => first | rfl | simp [up2, va_up, encX, si, sr, sg, gi, gr, ga]
    | 7, _ => first | rfl | simp [up2, va_up, encX, si, sr, sg, gi, gr, ga]
    | 8, _ => first | rfl | simp [up2, va_up, encX, si, sr, sg, gi, gr, ga]
    | 9, _ => first | rfl | simp [up2, va_up, encX, si, sr, sg, gi, gr, ga]
    | 10, h =>
      have hj : ¬ j = i := fun e => h ⟨rfl, e⟩
      simp [up2, hj, encX, si, sr, sg, gi, gr, ga]
    | 11, _ => first | rfl | simp [up2, va_up, encX, si, sr, sg, gi, gr, ga]
    | 12, _ => first | rfl | simp [up2, va_up, encX, si, sr, sg, gi, gr, ga]
    | _ + 13, _ => rfl
theorem pX4_7 (X : Fx Γ Ω A cc nL own rm ret) {y : Nat} (hy : y < 320) (hi : i < 1) (hlk : Cond.fieldLink own index "MappingTexts$TextReader" "field" "LMappingTexts$Field;" ∈ GW) (hd : decode cc pc = .ok (.putfield index, 3)) (kk : V Γ cs Q A nL (PicX Ω ad A (sr σ 3 i y)) (pc + 3) lv st) : V Γ cs Q A nL (PicX Ω ad A σ) pc lv (.ref (ad 4 y) :: .ref (ad 10 i) :: st) := tv_put X (fun H h => h.1) (fun H0 H h0 h => ⟨(congrArg (fun E => PP Ω cntX ad A E H) (eX4_7)).mp h, vd_sr3 hy h0.2⟩) hi rfl rfl inG5 tyX5_ok nmX5 (k := 7) (by decide) hlk rfl rfl rfl rfl (Nat.le_of_ble_eq_true rfl) hd kk
theorem gX4_8 (X : Fx Γ Ω A cc nL own rm ret) (hi : i < 1) (hlk : Cond.fieldLink own index "MappingTexts$TextReader" "rule" "LMappingTexts$Rule;" ∈ GW) (hd : decode cc pc = .ok (.getfield index, 3)) (kk : gr σ 4 i < 64 → V Γ cs Q A nL (PicX Ω ad A σ) (pc + 3) lv (.ref (ad 5 (gr σ 4 i)) :: st)) : V Γ cs Q A nL (PicX Ω ad A σ) pc lv (.ref (ad 10 i) :: st) := fun H locs ls hZ => tv_get X (fun H h => h.1) hi rfl rfl inG5 (k := 8) (by decide) hlk rfl hd (kk (hZ.2.2.2.2.2.1 i)) H locs ls hZ
theorem eX4_8 {y : Nat} : up2 (encX Ω ad σ) 10 i (.inr (4, [.ref (ad 9 0), .ref (ad 1 4), .ref (ad 8 11), .ref (ad 8 12), .ref (ad 8 13), .ref (ad 8 14), .ref (ad 3 (gr σ 2 i)), .ref (ad 4 (gr σ 3 i)), .ref (ad 5 y), .int (gi σ 409 i), .int (gi σ 410 i), .int (gi σ 411 i), .int (gi σ 412 i), .int (gi σ 413 i), .int (gi σ 414 i), .int (gi σ 415 i), .int (gi σ 416 i)])) = encX Ω ad (sr σ 4 i y) := by
  funext f j
  by_cases h : f = 10 ∧ j = i
  · obtain ⟨rfl, rfl⟩ := h
    simp [up2, encX, si, sr, sg, gi, gr, ga]
  · unfold up2
    rw [if_neg h]
    match f, h with
    | 0, _ => first | rfl | simp [up2, va_up, encX, si, sr, sg, gi, gr, ga]
    | 1, _ => first | rfl | simp [up2, va_up, encX, si, sr, sg, gi, gr, ga]
    | 2, _ => first | rfl | simp [up2, va_up, encX, si, sr, sg, gi, gr, ga]
    | 3, _ => first | rfl | simp [up2, va_up, encX, si, sr, sg, gi, gr, ga]
    | 4, _ => first | rfl | simp [up2, va_up, encX, si, sr, sg, gi, gr, ga]
    | 5, _ => first | rfl | simp [up2, va_up, encX, si, sr, sg, gi, gr, ga]
    | 6, _ => first | rfl | simp [up2, va_up, encX, si, sr, sg, gi, gr, ga]
    | 7, _ => first | rfl | simp [up2, va_up, encX, si, sr, sg, gi, gr, ga]
    | 8, _ => first | rfl | simp [up2, va_up, encX, si, sr, sg, gi, gr, ga]
    | 9, _ => first | rfl | simp [up2, va_up, encX, si, sr, sg, gi, gr, ga]
    | 10, h =>
      have hj : ¬ j = i := fun e => h ⟨rfl, e⟩
      simp [up2, hj, encX, si, sr, sg, gi, gr, ga]
    | 11, _ => first | rfl | simp [up2, va_up, encX, si, sr, sg, gi, gr, ga]
    | 12, _ => first | rfl | simp [up2, va_up, encX, si, sr, sg, gi, gr, ga]
    | _ + 13, _ => rfl
theorem pX4_8 (X : Fx Γ Ω A cc nL own rm ret) {y : Nat} (hy : y < 64) (hi : i < 1) (hlk : Cond.fieldLink own index "MappingTexts$TextReader" "rule" "LMappingTexts$Rule;" ∈ GW) (hd : decode cc pc = .ok (.putfield index, 3)) (kk : V Γ cs Q A nL (PicX Ω ad A (sr σ 4 i y)) (pc + 3) lv st) : V Γ cs Q A nL (PicX Ω ad A σ) pc lv (.ref (ad 5 y) :: .ref (ad 10 i) :: st) := tv_put X (fun H h => h.1) (fun H0 H h0 h => ⟨(congrArg (fun E => PP Ω cntX ad A E H) (eX4_8)).mp h, vd_sr4 hy h0.2⟩) hi rfl rfl inG5 tyX5_ok nmX5 (k := 8) (by decide) hlk rfl rfl rfl rfl (Nat.le_of_ble_eq_true rfl) hd kk
theorem gX4_9 (X : Fx Γ Ω A cc nL own rm ret) (hi : i < 1) (hlk : Cond.fieldLink own index "MappingTexts$TextReader" "state" "I" ∈ GW) (hd : decode cc pc = .ok (.getfield index, 3)) (kk : V Γ cs Q A nL (PicX Ω ad A σ) (pc + 3) lv (.int (gi σ 409 i) :: st)) : V Γ cs Q A nL (PicX Ω ad A σ) pc lv (.ref (ad 10 i) :: st) := tv_get X (fun H h => h.1) hi rfl rfl inG5 (k := 9) (by decide) hlk rfl hd kk
theorem eX4_9 {v : Int32} : up2 (encX Ω ad σ) 10 i (.inr (4, [.ref (ad 9 0), .ref (ad 1 4), .ref (ad 8 11), .ref (ad 8 12), .ref (ad 8 13), .ref (ad 8 14), .ref (ad 3 (gr σ 2 i)), .ref (ad 4 (gr σ 3 i)), .ref (ad 5 (gr σ 4 i)), .int v, .int (gi σ 410 i), .int (gi σ 411 i), .int (gi σ 412 i), .int (gi σ 413 i), .int (gi σ 414 i), .int (gi σ 415 i), .int (gi σ 416 i)])) = encX Ω ad (si σ 409 i v) := by
  funext f j
  by_cases h : f = 10 ∧ j = i
  · obtain ⟨rfl, rfl⟩ := h
    simp [up2, encX, si, sr, sg, gi, gr, ga]
  · unfold up2
    rw [if_neg h]
    match f, h with
    | 0, _ => first | rfl | simp [up2, va_up, encX, si, sr, sg, gi, gr, ga]
    | 1, _ => first | rfl | simp [up2, va_up, encX, si, sr, sg, gi, gr, ga]
    | 2, _ => first | rfl | simp [up2, va_up, encX, si, sr, sg, gi, gr, ga]
    | 3, _ => first | rfl | simp [up2, va_up, encX, si, sr, sg, gi, gr, ga]
    | 4, _ => first | rfl | simp [up2, va_up, encX, si, sr, sg, gi, gr, ga]
    | 5, _ => first | rfl | simp [up2, va_up, encX, si, sr, sg, gi, gr, ga]
    | 6, _ => first | rfl | simp [up2, va_up, encX, si, sr, sg, gi, gr, ga]
    | 7, _ => first | rfl | simp [up2, va_up, encX, si, sr, sg, gi, gr, ga]
    | 8, _ => first | rfl | simp [up2, va_up, encX, si, sr, sg, gi, gr, ga]
    | 9, _ => first | rfl | simp [up2, va_up, encX, si, sr, sg, gi, gr, ga]
    | 10, h =>
      have hj : ¬ j = i := fun e => h ⟨rfl, e⟩
      simp [up2, hj, encX, si, sr, sg, gi, gr, ga]
    | 11, _ => first | rfl | simp [up2, va_up, encX, si, sr, sg, gi, gr, ga]
    | 12, _ => first | rfl | simp [up2, va_up, encX, si, sr, sg, gi, gr, ga]
    | _ + 13, _ => rfl
theorem pX4_9 (X : Fx Γ Ω A cc nL own rm ret) {v : Int32} (hi : i < 1) (hlk : Cond.fieldLink own index "MappingTexts$TextReader" "state" "I" ∈ GW) (hd : decode cc pc = .ok (.putfield index, 3)) (kk : V Γ cs Q A nL (PicX Ω ad A (si σ 409 i v)) (pc + 3) lv st) : V Γ cs Q A nL (PicX Ω ad A σ) pc lv (.int v :: .ref (ad 10 i) :: st) := tv_put X (fun H h => h.1) (fun H0 H h0 h => ⟨(congrArg (fun E => PP Ω cntX ad A E H) (eX4_9)).mp h, h0.2⟩) hi rfl rfl inG5 tyX5_ok nmX5 (k := 9) (by decide) hlk rfl rfl rfl rfl (Nat.le_of_ble_eq_true rfl) hd kk
theorem gX4_10 (X : Fx Γ Ω A cc nL own rm ret) (hi : i < 1) (hlk : Cond.fieldLink own index "MappingTexts$TextReader" "depth" "I" ∈ GW) (hd : decode cc pc = .ok (.getfield index, 3)) (kk : V Γ cs Q A nL (PicX Ω ad A σ) (pc + 3) lv (.int (gi σ 410 i) :: st)) : V Γ cs Q A nL (PicX Ω ad A σ) pc lv (.ref (ad 10 i) :: st) := tv_get X (fun H h => h.1) hi rfl rfl inG5 (k := 10) (by decide) hlk rfl hd kk
theorem eX4_10 {v : Int32} : up2 (encX Ω ad σ) 10 i (.inr (4, [.ref (ad 9 0), .ref (ad 1 4), .ref (ad 8 11), .ref (ad 8 12), .ref (ad 8 13), .ref (ad 8 14), .ref (ad 3 (gr σ 2 i)), .ref (ad 4 (gr σ 3 i)), .ref (ad 5 (gr σ 4 i)), .int (gi σ 409 i), .int v, .int (gi σ 411 i), .int (gi σ 412 i), .int (gi σ 413 i), .int (gi σ 414 i), .int (gi σ 415 i), .int (gi σ 416 i)])) = encX Ω ad (si σ 410 i v) := by
  funext f j
  by_cases h : f = 10 ∧ j = i
  · obtain ⟨rfl, rfl⟩ := h
    simp [up2, encX, si, sr, sg, gi, gr, ga]
  · unfold up2
    rw [if_neg h]
    match f, h with
    | 0, _ => first | rfl | simp [up2, va_up, encX, si, sr, sg, gi, gr, ga]
    | 1, _ => first | rfl | simp [up2, va_up, encX, si, sr, sg, gi, gr, ga]
    | 2, _ => first | rfl | simp [up2, va_up, encX, si, sr, sg, gi, gr, ga]
    | 3, _ => first | rfl | simp [up2, va_up, encX, si, sr, sg, gi, gr, ga]
    | 4, _ => first | rfl | simp [up2, va_up, encX, si, sr, sg, gi, gr, ga]
    | 5, _ => first | rfl | simp [up2, va_up, encX, si, sr, sg, gi, gr, ga]
    | 6, _ => first | rfl | simp [up2, va_up, encX, si, sr, sg, gi, gr, ga]
    | 7, _ => first | rfl | simp [up2, va_up, encX, si, sr, sg, gi, gr, ga]
    | 8, _ => first | rfl | simp [up2, va_up, encX, si, sr, sg, gi, gr, ga]
    | 9, _ => first | rfl | simp [up2, va_up, encX, si, sr, sg, gi, gr, ga]
    | 10, h =>
      have hj : ¬ j = i := fun e => h ⟨rfl, e⟩
      simp [up2, hj, encX, si, sr, sg, gi, gr, ga]
    | 11, _ => first | rfl | simp [up2, va_up, encX, si, sr, sg, gi, gr, ga]
    | 12, _ => first | rfl | simp [up2, va_up, encX, si, sr, sg, gi, gr, ga]
    | _ + 13, _ => rfl
theorem pX4_10 (X : Fx Γ Ω A cc nL own rm ret) {v : Int32} (hi : i < 1) (hlk : Cond.fieldLink own index "MappingTexts$TextReader" "depth" "I" ∈ GW) (hd : decode cc pc = .ok (.putfield index, 3)) (kk : V Γ cs Q A nL (PicX Ω ad A (si σ 410 i v)) (pc + 3) lv st) : V Γ cs Q A nL (PicX Ω ad A σ) pc lv (.int v :: .ref (ad 10 i) :: st) := tv_put X (fun H h => h.1) (fun H0 H h0 h => ⟨(congrArg (fun E => PP Ω cntX ad A E H) (eX4_10)).mp h, h0.2⟩) hi rfl rfl inG5 tyX5_ok nmX5 (k := 10) (by decide) hlk rfl rfl rfl rfl (Nat.le_of_ble_eq_true rfl) hd kk
theorem gX4_11 (X : Fx Γ Ω A cc nL own rm ret) (hi : i < 1) (hlk : Cond.fieldLink own index "MappingTexts$TextReader" "fieldToken" "I" ∈ GW) (hd : decode cc pc = .ok (.getfield index, 3)) (kk : V Γ cs Q A nL (PicX Ω ad A σ) (pc + 3) lv (.int (gi σ 411 i) :: st)) : V Γ cs Q A nL (PicX Ω ad A σ) pc lv (.ref (ad 10 i) :: st) := tv_get X (fun H h => h.1) hi rfl rfl inG5 (k := 11) (by decide) hlk rfl hd kk
theorem eX4_11 {v : Int32} : up2 (encX Ω ad σ) 10 i (.inr (4, [.ref (ad 9 0), .ref (ad 1 4), .ref (ad 8 11), .ref (ad 8 12), .ref (ad 8 13), .ref (ad 8 14), .ref (ad 3 (gr σ 2 i)), .ref (ad 4 (gr σ 3 i)), .ref (ad 5 (gr σ 4 i)), .int (gi σ 409 i), .int (gi σ 410 i), .int v, .int (gi σ 412 i), .int (gi σ 413 i), .int (gi σ 414 i), .int (gi σ 415 i), .int (gi σ 416 i)])) = encX Ω ad (si σ 411 i v) := by
  funext f j
  by_cases h : f = 10 ∧ j = i
  · obtain ⟨rfl, rfl⟩ := h
    simp [up2, encX, si, sr, sg, gi, gr, ga]
  · unfold up2
    rw [if_neg h]
    match f, h with
    | 0, _ => first | rfl | simp [up2, va_up, encX, si, sr, sg, gi, gr, ga]
    | 1, _ => first | rfl | simp [up2, va_up, encX, si, sr, sg, gi, gr, ga]
    | 2, _ => first | rfl | simp [up2, va_up, encX, si, sr, sg, gi, gr, ga]
    | 3, _ => first | rfl | simp [up2, va_up, encX, si, sr, sg, gi, gr, ga]
    | 4, _ => first | rfl | simp [up2, va_up, encX, si, sr, sg, gi, gr, ga]
    | 5, _ => first | rfl | simp [up2, va_up, encX, si, sr, sg, gi, gr, ga]
    | 6, _ => first | rfl | simp [up2, va_up, encX, si, sr, sg, gi, gr, ga]
    | 7, _ => first | rfl | simp [up2, va_up, encX, si, sr, sg, gi, gr, ga]
    | 8, _ => first | rfl | simp [up2, va_up, encX, si, sr, sg, gi, gr, ga]
    | 9, _ => first | rfl | simp [up2, va_up, encX, si, sr, sg, gi, gr, ga]
    | 10, h =>
      have hj : ¬ j = i := fun e => h ⟨rfl, e⟩
      simp [up2, hj, encX, si, sr, sg, gi, gr, ga]
    | 11, _ => first | rfl | simp [up2, va_up, encX, si, sr, sg, gi, gr, ga]
    | 12, _ => first | rfl | simp [up2, va_up, encX, si, sr, sg, gi, gr, ga]
    | _ + 13, _ => rfl
theorem pX4_11 (X : Fx Γ Ω A cc nL own rm ret) {v : Int32} (hi : i < 1) (hlk : Cond.fieldLink own index "MappingTexts$TextReader" "fieldToken" "I" ∈ GW) (hd : decode cc pc = .ok (.putfield index, 3)) (kk : V Γ cs Q A nL (PicX Ω ad A (si σ 411 i v)) (pc + 3) lv st) : V Γ cs Q A nL (PicX Ω ad A σ) pc lv (.int v :: .ref (ad 10 i) :: st) := tv_put X (fun H h => h.1) (fun H0 H h0 h => ⟨(congrArg (fun E => PP Ω cntX ad A E H) (eX4_11)).mp h, h0.2⟩) hi rfl rfl inG5 tyX5_ok nmX5 (k := 11) (by decide) hlk rfl rfl rfl rfl (Nat.le_of_ble_eq_true rfl) hd kk
theorem gX4_12 (X : Fx Γ Ω A cc nL own rm ret) (hi : i < 1) (hlk : Cond.fieldLink own index "MappingTexts$TextReader" "option" "I" ∈ GW) (hd : decode cc pc = .ok (.getfield index, 3)) (kk : V Γ cs Q A nL (PicX Ω ad A σ) (pc + 3) lv (.int (gi σ 412 i) :: st)) : V Γ cs Q A nL (PicX Ω ad A σ) pc lv (.ref (ad 10 i) :: st) := tv_get X (fun H h => h.1) hi rfl rfl inG5 (k := 12) (by decide) hlk rfl hd kk
theorem eX4_12 {v : Int32} : up2 (encX Ω ad σ) 10 i (.inr (4, [.ref (ad 9 0), .ref (ad 1 4), .ref (ad 8 11), .ref (ad 8 12), .ref (ad 8 13), .ref (ad 8 14), .ref (ad 3 (gr σ 2 i)), .ref (ad 4 (gr σ 3 i)), .ref (ad 5 (gr σ 4 i)), .int (gi σ 409 i), .int (gi σ 410 i), .int (gi σ 411 i), .int v, .int (gi σ 413 i), .int (gi σ 414 i), .int (gi σ 415 i), .int (gi σ 416 i)])) = encX Ω ad (si σ 412 i v) := by
  funext f j
  by_cases h : f = 10 ∧ j = i
  · obtain ⟨rfl, rfl⟩ := h
    simp [up2, encX, si, sr, sg, gi, gr, ga]
  · unfold up2
    rw [if_neg h]
    match f, h with
    | 0, _ => first | rfl | simp [up2, va_up, encX, si, sr, sg, gi, gr, ga]
    | 1, _ => first | rfl | simp [up2, va_up, encX, si, sr, sg, gi, gr, ga]
    | 2, _ => first | rfl | simp [up2, va_up, encX, si, sr, sg, gi, gr, ga]
    | 3, _ => first | rfl | simp [up2, va_up, encX, si, sr, sg, gi, gr, ga]
    | 4, _ => first | rfl | simp [up2, va_up, encX, si, sr, sg, gi, gr, ga]
    | 5, _ => first | rfl | simp [up2, va_up, encX, si, sr, sg, gi, gr, ga]
    | 6, _ => first | rfl | simp [up2, va_up, encX, si, sr, sg, gi, gr, ga]
    | 7, _ => first | rfl | simp [up2, va_up, encX, si, sr, sg, gi, gr, ga]
    | 8, _ => first | rfl | simp [up2, va_up, encX, si, sr, sg, gi, gr, ga]
    | 9, _ => first | rfl | simp [up2, va_up, encX, si, sr, sg, gi, gr, ga]
    | 10, h =>
      have hj : ¬ j = i := fun e => h ⟨rfl, e⟩
      simp [up2, hj, encX, si, sr, sg, gi, gr, ga]
    | 11, _ => first | rfl | simp [up2, va_up, encX, si, sr, sg, gi, gr, ga]
    | 12, _ => first | rfl | simp [up2, va_up, encX, si, sr, sg, gi, gr, ga]
    | _ + 13, _ => rfl
theorem pX4_12 (X : Fx Γ Ω A cc nL own rm ret) {v : Int32} (hi : i < 1) (hlk : Cond.fieldLink own index "MappingTexts$TextReader" "option" "I" ∈ GW) (hd : decode cc pc = .ok (.putfield index, 3)) (kk : V Γ cs Q A nL (PicX Ω ad A (si σ 412 i v)) (pc + 3) lv st) : V Γ cs Q A nL (PicX Ω ad A σ) pc lv (.int v :: .ref (ad 10 i) :: st) := tv_put X (fun H h => h.1) (fun H0 H h0 h => ⟨(congrArg (fun E => PP Ω cntX ad A E H) (eX4_12)).mp h, h0.2⟩) hi rfl rfl inG5 tyX5_ok nmX5 (k := 12) (by decide) hlk rfl rfl rfl rfl (Nat.le_of_ble_eq_true rfl) hd kk
theorem gX4_13 (X : Fx Γ Ω A cc nL own rm ret) (hi : i < 1) (hlk : Cond.fieldLink own index "MappingTexts$TextReader" "again" "Z" ∈ GW) (hd : decode cc pc = .ok (.getfield index, 3)) (kk : V Γ cs Q A nL (PicX Ω ad A σ) (pc + 3) lv (.int (gi σ 413 i) :: st)) : V Γ cs Q A nL (PicX Ω ad A σ) pc lv (.ref (ad 10 i) :: st) := tv_get X (fun H h => h.1) hi rfl rfl inG5 (k := 13) (by decide) hlk rfl hd kk
theorem eX4_13 {v : Int32} : up2 (encX Ω ad σ) 10 i (.inr (4, [.ref (ad 9 0), .ref (ad 1 4), .ref (ad 8 11), .ref (ad 8 12), .ref (ad 8 13), .ref (ad 8 14), .ref (ad 3 (gr σ 2 i)), .ref (ad 4 (gr σ 3 i)), .ref (ad 5 (gr σ 4 i)), .int (gi σ 409 i), .int (gi σ 410 i), .int (gi σ 411 i), .int (gi σ 412 i), .int v, .int (gi σ 414 i), .int (gi σ 415 i), .int (gi σ 416 i)])) = encX Ω ad (si σ 413 i v) := by
  funext f j
  by_cases h : f = 10 ∧ j = i
  · obtain ⟨rfl, rfl⟩ := h
    simp [up2, encX, si, sr, sg, gi, gr, ga]
  · unfold up2
    rw [if_neg h]
    match f, h with
    | 0, _ => first | rfl | simp [up2, va_up, encX, si, sr, sg, gi, gr, ga]
    | 1, _ => first | rfl | simp [up2, va_up, encX, si, sr, sg, gi, gr, ga]
    | 2, _ => first | rfl | simp [up2, va_up, encX, si, sr, sg, gi, gr, ga]
    | 3, _ => first | rfl | simp [up2, va_up, encX, si, sr, sg, gi, gr, ga]
    | 4, _ => first | rfl | simp [up2, va_up, encX, si, sr, sg, gi, gr, ga]
    | 5, _ => first | rfl | simp [up2, va_up, encX, si, sr, sg, gi, gr, ga]
    | 6, _ => first | rfl | simp [up2, va_up, encX, si, sr, sg, gi, gr, ga]
    | 7, _ => first | rfl | simp [up2, va_up, encX, si, sr, sg, gi, gr, ga]
    | 8, _ => first | rfl | simp [up2, va_up, encX, si, sr, sg, gi, gr, ga]
    | 9, _ => first | rfl | simp [up2, va_up, encX, si, sr, sg, gi, gr, ga]
    | 10, h =>
      have hj : ¬ j = i := fun e => h ⟨rfl, e⟩
      simp [up2, hj, encX, si, sr, sg, gi, gr, ga]
    | 11, _ => first | rfl | simp [up2, va_up, encX, si, sr, sg, gi, gr, ga]
    | 12, _ => first | rfl | simp [up2, va_up, encX, si, sr, sg, gi, gr, ga]
    | _ + 13, _ => rfl
theorem pX4_13 (X : Fx Γ Ω A cc nL own rm ret) {v : Int32} (hv : v = 0 ∨ v = 1) (hi : i < 1) (hlk : Cond.fieldLink own index "MappingTexts$TextReader" "again" "Z" ∈ GW) (hd : decode cc pc = .ok (.putfield index, 3)) (kk : V Γ cs Q A nL (PicX Ω ad A (si σ 413 i v)) (pc + 3) lv st) : V Γ cs Q A nL (PicX Ω ad A σ) pc lv (.int v :: .ref (ad 10 i) :: st) := tv_put X (fun H h => h.1) (fun H0 H h0 h => ⟨(congrArg (fun E => PP Ω cntX ad A E H) (eX4_13)).mp h, h0.2⟩) hi rfl rfl inG5 tyX5_ok nmX5 (k := 13) (by decide) hlk rfl rfl (by rcases hv with rfl | rfl <;> rfl) (by rcases hv with rfl | rfl <;> rfl) (Nat.le_of_ble_eq_true rfl) hd kk
theorem gX4_14 (X : Fx Γ Ω A cc nL own rm ret) (hi : i < 1) (hlk : Cond.fieldLink own index "MappingTexts$TextReader" "limitToken" "I" ∈ GW) (hd : decode cc pc = .ok (.getfield index, 3)) (kk : V Γ cs Q A nL (PicX Ω ad A σ) (pc + 3) lv (.int (gi σ 414 i) :: st)) : V Γ cs Q A nL (PicX Ω ad A σ) pc lv (.ref (ad 10 i) :: st) := tv_get X (fun H h => h.1) hi rfl rfl inG5 (k := 14) (by decide) hlk rfl hd kk
theorem eX4_14 {v : Int32} : up2 (encX Ω ad σ) 10 i (.inr (4, [.ref (ad 9 0), .ref (ad 1 4), .ref (ad 8 11), .ref (ad 8 12), .ref (ad 8 13), .ref (ad 8 14), .ref (ad 3 (gr σ 2 i)), .ref (ad 4 (gr σ 3 i)), .ref (ad 5 (gr σ 4 i)), .int (gi σ 409 i), .int (gi σ 410 i), .int (gi σ 411 i), .int (gi σ 412 i), .int (gi σ 413 i), .int v, .int (gi σ 415 i), .int (gi σ 416 i)])) = encX Ω ad (si σ 414 i v) := by
  funext f j
  by_cases h : f = 10 ∧ j = i
  · obtain ⟨rfl, rfl⟩ := h
    simp [up2, encX, si, sr, sg, gi, gr, ga]
  · unfold up2
    rw [if_neg h]
    match f, h with
    | 0, _ => first | rfl | simp [up2, va_up, encX, si, sr, sg, gi, gr, ga]
    | 1, _ => first | rfl | simp [up2, va_up, encX, si, sr, sg, gi, gr, ga]
    | 2, _ => first | rfl | simp [up2, va_up, encX, si, sr, sg, gi, gr, ga]
    | 3, _ => first | rfl | simp [up2, va_up, encX, si, sr, sg, gi, gr, ga]
    | 4, _ => first | rfl | simp [up2, va_up, encX, si, sr, sg, gi, gr, ga]
    | 5, _ => first | rfl | simp [up2, va_up, encX, si, sr, sg, gi, gr, ga]
    | 6, _ => first | rfl | simp [up2, va_up, encX, si, sr, sg, gi, gr, ga]
    | 7, _ => first | rfl | simp [up2, va_up, encX, si, sr, sg, gi, gr, ga]
    | 8, _ => first | rfl | simp [up2, va_up, encX, si, sr, sg, gi, gr, ga]
    | 9, _ => first | rfl | simp [up2, va_up, encX, si, sr, sg, gi, gr, ga]
    | 10, h =>
      have hj : ¬ j = i := fun e => h ⟨rfl, e⟩
      simp [up2, hj, encX, si, sr, sg, gi, gr, ga]
    | 11, _ => first | rfl | simp [up2, va_up, encX, si, sr, sg, gi, gr, ga]
    | 12, _ => first | rfl | simp [up2, va_up, encX, si, sr, sg, gi, gr, ga]
    | _ + 13, _ => rfl
theorem pX4_14 (X : Fx Γ Ω A cc nL own rm ret) {v : Int32} (hi : i < 1) (hlk : Cond.fieldLink own index "MappingTexts$TextReader" "limitToken" "I" ∈ GW) (hd : decode cc pc = .ok (.putfield index, 3)) (kk : V Γ cs Q A nL (PicX Ω ad A (si σ 414 i v)) (pc + 3) lv st) : V Γ cs Q A nL (PicX Ω ad A σ) pc lv (.int v :: .ref (ad 10 i) :: st) := tv_put X (fun H h => h.1) (fun H0 H h0 h => ⟨(congrArg (fun E => PP Ω cntX ad A E H) (eX4_14)).mp h, h0.2⟩) hi rfl rfl inG5 tyX5_ok nmX5 (k := 14) (by decide) hlk rfl rfl rfl rfl (Nat.le_of_ble_eq_true rfl) hd kk
theorem gX4_15 (X : Fx Γ Ω A cc nL own rm ret) (hi : i < 1) (hlk : Cond.fieldLink own index "MappingTexts$TextReader" "fault" "I" ∈ GW) (hd : decode cc pc = .ok (.getfield index, 3)) (kk : V Γ cs Q A nL (PicX Ω ad A σ) (pc + 3) lv (.int (gi σ 415 i) :: st)) : V Γ cs Q A nL (PicX Ω ad A σ) pc lv (.ref (ad 10 i) :: st) := tv_get X (fun H h => h.1) hi rfl rfl inG5 (k := 15) (by decide) hlk rfl hd kk
theorem eX4_15 {v : Int32} : up2 (encX Ω ad σ) 10 i (.inr (4, [.ref (ad 9 0), .ref (ad 1 4), .ref (ad 8 11), .ref (ad 8 12), .ref (ad 8 13), .ref (ad 8 14), .ref (ad 3 (gr σ 2 i)), .ref (ad 4 (gr σ 3 i)), .ref (ad 5 (gr σ 4 i)), .int (gi σ 409 i), .int (gi σ 410 i), .int (gi σ 411 i), .int (gi σ 412 i), .int (gi σ 413 i), .int (gi σ 414 i), .int v, .int (gi σ 416 i)])) = encX Ω ad (si σ 415 i v) := by
  funext f j
  by_cases h : f = 10 ∧ j = i
  · obtain ⟨rfl, rfl⟩ := h
    simp [up2, encX, si, sr, sg, gi, gr, ga]
  · unfold up2
    rw [if_neg h]
    match f, h with
    | 0, _ => first | rfl | simp [up2, va_up, encX, si, sr, sg, gi, gr, ga]
    | 1, _ => first | rfl | simp [up2, va_up, encX, si, sr, sg, gi, gr, ga]
    | 2, _ => first | rfl | simp [up2, va_up, encX, si, sr, sg, gi, gr, ga]
    | 3, _ => first | rfl | simp [up2, va_up, encX, si, sr, sg, gi, gr, ga]
    | 4, _ => first | rfl | simp [up2, va_up, encX, si, sr, sg, gi, gr, ga]
    | 5, _ => first | rfl | simp [up2, va_up, encX, si, sr, sg, gi, gr, ga]
    | 6, _ => first | rfl | simp [up2, va_up, encX, si, sr, sg, gi, gr, ga]
    | 7, _ => first | rfl | simp [up2, va_up, encX, si, sr, sg, gi, gr, ga]
    | 8, _ => first | rfl | simp [up2, va_up, encX, si, sr, sg, gi, gr, ga]
    | 9, _ => first | rfl | simp [up2, va_up, encX, si, sr, sg, gi, gr, ga]
    | 10, h =>
      have hj : ¬ j = i := fun e => h ⟨rfl, e⟩
      simp [up2, hj, encX, si, sr, sg, gi, gr, ga]
    | 11, _ => first | rfl | simp [up2, va_up, encX, si, sr, sg, gi, gr, ga]
    | 12, _ => first | rfl | simp [up2, va_up, encX, si, sr, sg, gi, gr, ga]
    | _ + 13, _ => rfl
theorem pX4_15 (X : Fx Γ Ω A cc nL own rm ret) {v : Int32} (hi : i < 1) (hlk : Cond.fieldLink own index "MappingTexts$TextReader" "fault" "I" ∈ GW) (hd : decode cc pc = .ok (.putfield index, 3)) (kk : V Γ cs Q A nL (PicX Ω ad A (si σ 415 i v)) (pc + 3) lv st) : V Γ cs Q A nL (PicX Ω ad A σ) pc lv (.int v :: .ref (ad 10 i) :: st) := tv_put X (fun H h => h.1) (fun H0 H h0 h => ⟨(congrArg (fun E => PP Ω cntX ad A E H) (eX4_15)).mp h, h0.2⟩) hi rfl rfl inG5 tyX5_ok nmX5 (k := 15) (by decide) hlk rfl rfl rfl rfl (Nat.le_of_ble_eq_true rfl) hd kk
theorem gX4_16 (X : Fx Γ Ω A cc nL own rm ret) (hi : i < 1) (hlk : Cond.fieldLink own index "MappingTexts$TextReader" "place" "I" ∈ GW) (hd : decode cc pc = .ok (.getfield index, 3)) (kk : V Γ cs Q A nL (PicX Ω ad A σ) (pc + 3) lv (.int (gi σ 416 i) :: st)) : V Γ cs Q A nL (PicX Ω ad A σ) pc lv (.ref (ad 10 i) :: st) := tv_get X (fun H h => h.1) hi rfl rfl inG5 (k := 16) (by decide) hlk rfl hd kk
theorem eX4_16 {v : Int32} : up2 (encX Ω ad σ) 10 i (.inr (4, [.ref (ad 9 0), .ref (ad 1 4), .ref (ad 8 11), .ref (ad 8 12), .ref (ad 8 13), .ref (ad 8 14), .ref (ad 3 (gr σ 2 i)), .ref (ad 4 (gr σ 3 i)), .ref (ad 5 (gr σ 4 i)), .int (gi σ 409 i), .int (gi σ 410 i), .int (gi σ 411 i), .int (gi σ 412 i), .int (gi σ 413 i), .int (gi σ 414 i), .int (gi σ 415 i), .int v])) = encX Ω ad (si σ 416 i v) := by
  funext f j
  by_cases h : f = 10 ∧ j = i
  · obtain ⟨rfl, rfl⟩ := h
    simp [up2, encX, si, sr, sg, gi, gr, ga]
  · unfold up2
    rw [if_neg h]
    match f, h with
    | 0, _ => first | rfl | simp [up2, va_up, encX, si, sr, sg, gi, gr, ga]
    | 1, _ => first | rfl | simp [up2, va_up, encX, si, sr, sg, gi, gr, ga]
    | 2, _ => first | rfl | simp [up2, va_up, encX, si, sr, sg, gi, gr, ga]
    | 3, _ => first | rfl | simp [up2, va_up, encX, si, sr, sg, gi, gr, ga]
    | 4, _ => first | rfl | simp [up2, va_up, encX, si, sr, sg, gi, gr, ga]
    | 5, _ => first | rfl | simp [up2, va_up, encX, si, sr, sg, gi, gr, ga]
    | 6, _ => first | rfl | simp [up2, va_up, encX, si, sr, sg, gi, gr, ga]
    | 7, _ => first | rfl | simp [up2, va_up, encX, si, sr, sg, gi, gr, ga]
    | 8, _ => first | rfl | simp [up2, va_up, encX, si, sr, sg, gi, gr, ga]
    | 9, _ => first | rfl | simp [up2, va_up, encX, si, sr, sg, gi, gr, ga]
    | 10, h =>
      have hj : ¬ j = i := fun e => h ⟨rfl, e⟩
      simp [up2, hj, encX, si, sr, sg, gi, gr, ga]
    | 11, _ => first | rfl | simp [up2, va_up, encX, si, sr, sg, gi, gr, ga]
    | 12, _ => first | rfl | simp [up2, va_up, encX, si, sr, sg, gi, gr, ga]
    | _ + 13, _ => rfl
theorem pX4_16 (X : Fx Γ Ω A cc nL own rm ret) {v : Int32} (hi : i < 1) (hlk : Cond.fieldLink own index "MappingTexts$TextReader" "place" "I" ∈ GW) (hd : decode cc pc = .ok (.putfield index, 3)) (kk : V Γ cs Q A nL (PicX Ω ad A (si σ 416 i v)) (pc + 3) lv st) : V Γ cs Q A nL (PicX Ω ad A σ) pc lv (.int v :: .ref (ad 10 i) :: st) := tv_put X (fun H h => h.1) (fun H0 H h0 h => ⟨(congrArg (fun E => PP Ω cntX ad A E H) (eX4_16)).mp h, h0.2⟩) hi rfl rfl inG5 tyX5_ok nmX5 (k := 16) (by decide) hlk rfl rfl rfl rfl (Nat.le_of_ble_eq_true rfl) hd kk
theorem gX5_0 (X : Fx Γ Ω A cc nL own rm ret) (hi : i < 1) (hlk : Cond.fieldLink own index "MappingTexts$Tokens" "text" "LMappingTexts$Letters;" ∈ GW) (hd : decode cc pc = .ok (.getfield index, 3)) (kk : V Γ cs Q A nL (PicX Ω ad A σ) (pc + 3) lv (.ref (ad 1 0) :: st)) : V Γ cs Q A nL (PicX Ω ad A σ) pc lv (.ref (ad 9 i) :: st) := tv_get X (fun H h => h.1) hi rfl rfl inG6 (k := 0) (by decide) hlk rfl hd kk
theorem gX5_1 (X : Fx Γ Ω A cc nL own rm ret) (hi : i < 1) (hlk : Cond.fieldLink own index "MappingTexts$Tokens" "kinds" "[I" ∈ GW) (hd : decode cc pc = .ok (.getfield index, 3)) (kk : V Γ cs Q A nL (PicX Ω ad A σ) (pc + 3) lv (.ref (ad 8 8) :: st)) : V Γ cs Q A nL (PicX Ω ad A σ) pc lv (.ref (ad 9 i) :: st) := tv_get X (fun H h => h.1) hi rfl rfl inG6 (k := 1) (by decide) hlk rfl hd kk
theorem gX5_2 (X : Fx Γ Ω A cc nL own rm ret) (hi : i < 1) (hlk : Cond.fieldLink own index "MappingTexts$Tokens" "places" "[I" ∈ GW) (hd : decode cc pc = .ok (.getfield index, 3)) (kk : V Γ cs Q A nL (PicX Ω ad A σ) (pc + 3) lv (.ref (ad 8 9) :: st)) : V Γ cs Q A nL (PicX Ω ad A σ) pc lv (.ref (ad 9 i) :: st) := tv_get X (fun H h => h.1) hi rfl rfl inG6 (k := 2) (by decide) hlk rfl hd kk
theorem gX5_3 (X : Fx Γ Ω A cc nL own rm ret) (hi : i < 1) (hlk : Cond.fieldLink own index "MappingTexts$Tokens" "lengths" "[I" ∈ GW) (hd : decode cc pc = .ok (.getfield index, 3)) (kk : V Γ cs Q A nL (PicX Ω ad A σ) (pc + 3) lv (.ref (ad 8 10) :: st)) : V Γ cs Q A nL (PicX Ω ad A σ) pc lv (.ref (ad 9 i) :: st) := tv_get X (fun H h => h.1) hi rfl rfl inG6 (k := 3) (by decide) hlk rfl hd kk
theorem gX5_4 (X : Fx Γ Ω A cc nL own rm ret) (hi : i < 1) (hlk : Cond.fieldLink own index "MappingTexts$Tokens" "count" "I" ∈ GW) (hd : decode cc pc = .ok (.getfield index, 3)) (kk : V Γ cs Q A nL (PicX Ω ad A σ) (pc + 3) lv (.int (gi σ 504 i) :: st)) : V Γ cs Q A nL (PicX Ω ad A σ) pc lv (.ref (ad 9 i) :: st) := tv_get X (fun H h => h.1) hi rfl rfl inG6 (k := 4) (by decide) hlk rfl hd kk
theorem eX5_4 {v : Int32} : up2 (encX Ω ad σ) 9 i (.inr (5, [.ref (ad 1 0), .ref (ad 8 8), .ref (ad 8 9), .ref (ad 8 10), .int v])) = encX Ω ad (si σ 504 i v) := by
  funext f j
  by_cases h : f = 9 ∧ j = i
  · obtain ⟨rfl, rfl⟩ := h
    simp [up2, encX, si, sr, sg, gi, gr, ga]
  · unfold up2
    rw [if_neg h]
    match f, h with
    | 0, _ => first | rfl | simp [up2, va_up, encX, si, sr, sg, gi, gr, ga]
    | 1, _ => first | rfl | simp [up2, va_up, encX, si, sr, sg, gi, gr, ga]
    | 2, _ => first | rfl | simp [up2, va_up, encX, si, sr, sg, gi, gr, ga]
    | 3, _ => first | rfl | simp [up2, va_up, encX, si, sr, sg, gi, gr, ga]
    | 4, _ => first | rfl | simp [up2, va_up, encX, si, sr, sg, gi, gr, ga]
    | 5, _ => first | rfl | simp [up2, va_up, encX, si, sr, sg, gi, gr, ga]
    | 6, _ => first | rfl | simp [up2, va_up, encX, si, sr, sg, gi, gr, ga]
    | 7, _ => first | rfl | simp [up2, va_up, encX, si, sr, sg, gi, gr, ga]
    | 8, _ => first | rfl | simp [up2, va_up, encX, si, sr, sg, gi, gr, ga]
    | 9, h =>
      have hj : ¬ j = i := fun e => h ⟨rfl, e⟩
      simp [up2, hj, encX, si, sr, sg, gi, gr, ga]
    | 10, _ => first | rfl | simp [up2, va_up, encX, si, sr, sg, gi, gr, ga]
    | 11, _ => first | rfl | simp [up2, va_up, encX, si, sr, sg, gi, gr, ga]
    | 12, _ => first | rfl | simp [up2, va_up, encX, si, sr, sg, gi, gr, ga]
    | _ + 13, _ => rfl
theorem pX5_4 (X : Fx Γ Ω A cc nL own rm ret) {v : Int32} (hi : i < 1) (hlk : Cond.fieldLink own index "MappingTexts$Tokens" "count" "I" ∈ GW) (hd : decode cc pc = .ok (.putfield index, 3)) (kk : V Γ cs Q A nL (PicX Ω ad A (si σ 504 i v)) (pc + 3) lv st) : V Γ cs Q A nL (PicX Ω ad A σ) pc lv (.int v :: .ref (ad 9 i) :: st) := tv_put X (fun H h => h.1) (fun H0 H h0 h => ⟨(congrArg (fun E => PP Ω cntX ad A E H) (eX5_4)).mp h, h0.2⟩) hi rfl rfl inG6 tyX6_ok nmX6 (k := 4) (by decide) hlk rfl rfl rfl rfl (Nat.le_of_ble_eq_true rfl) hd kk
theorem gX6_0 (X : Fx Γ Ω A cc nL own rm ret) (hi : i < 8) (hlk : Cond.fieldLink own index "MappingTexts$Version" "fields" "[LMappingTexts$Field;" ∈ GW) (hd : decode cc pc = .ok (.getfield index, 3)) (kk : V Γ cs Q A nL (PicX Ω ad A σ) (pc + 3) lv (.ref (ad 6 i) :: st)) : V Γ cs Q A nL (PicX Ω ad A σ) pc lv (.ref (ad 3 i) :: st) := tv_get X (fun H h => h.1) hi rfl rfl inG7 (k := 0) (by decide) hlk rfl hd kk
theorem gX6_1 (X : Fx Γ Ω A cc nL own rm ret) (hi : i < 8) (hlk : Cond.fieldLink own index "MappingTexts$Version" "rules" "[LMappingTexts$Rule;" ∈ GW) (hd : decode cc pc = .ok (.getfield index, 3)) (kk : V Γ cs Q A nL (PicX Ω ad A σ) (pc + 3) lv (.ref (ad 7 i) :: st)) : V Γ cs Q A nL (PicX Ω ad A σ) pc lv (.ref (ad 3 i) :: st) := tv_get X (fun H h => h.1) hi rfl rfl inG7 (k := 1) (by decide) hlk rfl hd kk
theorem gX6_2 (X : Fx Γ Ω A cc nL own rm ret) (hi : i < 8) (hlk : Cond.fieldLink own index "MappingTexts$Version" "order" "[I" ∈ GW) (hd : decode cc pc = .ok (.getfield index, 3)) (kk : V Γ cs Q A nL (PicX Ω ad A σ) (pc + 3) lv (.ref (ad 8 i) :: st)) : V Γ cs Q A nL (PicX Ω ad A σ) pc lv (.ref (ad 3 i) :: st) := tv_get X (fun H h => h.1) hi rfl rfl inG7 (k := 2) (by decide) hlk rfl hd kk
theorem gX6_3 (X : Fx Γ Ω A cc nL own rm ret) (hi : i < 8) (hlk : Cond.fieldLink own index "MappingTexts$Version" "fieldCount" "I" ∈ GW) (hd : decode cc pc = .ok (.getfield index, 3)) (kk : V Γ cs Q A nL (PicX Ω ad A σ) (pc + 3) lv (.int (gi σ 603 i) :: st)) : V Γ cs Q A nL (PicX Ω ad A σ) pc lv (.ref (ad 3 i) :: st) := tv_get X (fun H h => h.1) hi rfl rfl inG7 (k := 3) (by decide) hlk rfl hd kk
theorem eX6_3 {v : Int32} : up2 (encX Ω ad σ) 3 i (.inr (6, [.ref (ad 6 i), .ref (ad 7 i), .ref (ad 8 i), .int v, .int (gi σ 604 i), .int (gi σ 605 i)])) = encX Ω ad (si σ 603 i v) := by
  funext f j
  by_cases h : f = 3 ∧ j = i
  · obtain ⟨rfl, rfl⟩ := h
    simp [up2, encX, si, sr, sg, gi, gr, ga]
  · unfold up2
    rw [if_neg h]
    match f, h with
    | 0, _ => first | rfl | simp [up2, va_up, encX, si, sr, sg, gi, gr, ga]
    | 1, _ => first | rfl | simp [up2, va_up, encX, si, sr, sg, gi, gr, ga]
    | 2, _ => first | rfl | simp [up2, va_up, encX, si, sr, sg, gi, gr, ga]
    | 3, h =>
      have hj : ¬ j = i := fun e => h ⟨rfl, e⟩
      simp [up2, hj, encX, si, sr, sg, gi, gr, ga]
    | 4, _ => first | rfl | simp [up2, va_up, encX, si, sr, sg, gi, gr, ga]
    | 5, _ => first | rfl | simp [up2, va_up, encX, si, sr, sg, gi, gr, ga]
    | 6, _ => first | rfl | simp [up2, va_up, encX, si, sr, sg, gi, gr, ga]
    | 7, _ => first | rfl | simp [up2, va_up, encX, si, sr, sg, gi, gr, ga]
    | 8, _ => first | rfl | simp [up2, va_up, encX, si, sr, sg, gi, gr, ga]
    | 9, _ => first | rfl | simp [up2, va_up, encX, si, sr, sg, gi, gr, ga]
    | 10, _ => first | rfl | simp [up2, va_up, encX, si, sr, sg, gi, gr, ga]
    | 11, _ => first | rfl | simp [up2, va_up, encX, si, sr, sg, gi, gr, ga]
    | 12, _ => first | rfl | simp [up2, va_up, encX, si, sr, sg, gi, gr, ga]
    | _ + 13, _ => rfl
theorem pX6_3 (X : Fx Γ Ω A cc nL own rm ret) {v : Int32} (hi : i < 8) (hlk : Cond.fieldLink own index "MappingTexts$Version" "fieldCount" "I" ∈ GW) (hd : decode cc pc = .ok (.putfield index, 3)) (kk : V Γ cs Q A nL (PicX Ω ad A (si σ 603 i v)) (pc + 3) lv st) : V Γ cs Q A nL (PicX Ω ad A σ) pc lv (.int v :: .ref (ad 3 i) :: st) := tv_put X (fun H h => h.1) (fun H0 H h0 h => ⟨(congrArg (fun E => PP Ω cntX ad A E H) (eX6_3)).mp h, h0.2⟩) hi rfl rfl inG7 tyX7_ok nmX7 (k := 3) (by decide) hlk rfl rfl rfl rfl (Nat.le_of_ble_eq_true rfl) hd kk
theorem gX6_4 (X : Fx Γ Ω A cc nL own rm ret) (hi : i < 8) (hlk : Cond.fieldLink own index "MappingTexts$Version" "ruleCount" "I" ∈ GW) (hd : decode cc pc = .ok (.getfield index, 3)) (kk : V Γ cs Q A nL (PicX Ω ad A σ) (pc + 3) lv (.int (gi σ 604 i) :: st)) : V Γ cs Q A nL (PicX Ω ad A σ) pc lv (.ref (ad 3 i) :: st) := tv_get X (fun H h => h.1) hi rfl rfl inG7 (k := 4) (by decide) hlk rfl hd kk
theorem eX6_4 {v : Int32} : up2 (encX Ω ad σ) 3 i (.inr (6, [.ref (ad 6 i), .ref (ad 7 i), .ref (ad 8 i), .int (gi σ 603 i), .int v, .int (gi σ 605 i)])) = encX Ω ad (si σ 604 i v) := by
  funext f j
  by_cases h : f = 3 ∧ j = i
  · obtain ⟨rfl, rfl⟩ := h
    simp [up2, encX, si, sr, sg, gi, gr, ga]
  · unfold up2
    rw [if_neg h]
    match f, h with
    | 0, _ => first | rfl | simp [up2, va_up, encX, si, sr, sg, gi, gr, ga]
    | 1, _ => first | rfl | simp [up2, va_up, encX, si, sr, sg, gi, gr, ga]
    | 2, _ => first | rfl | simp [up2, va_up, encX, si, sr, sg, gi, gr, ga]
    | 3, h =>
      have hj : ¬ j = i := fun e => h ⟨rfl, e⟩
      simp [up2, hj, encX, si, sr, sg, gi, gr, ga]
    | 4, _ => first | rfl | simp [up2, va_up, encX, si, sr, sg, gi, gr, ga]
    | 5, _ => first | rfl | simp [up2, va_up, encX, si, sr, sg, gi, gr, ga]
    | 6, _ => first | rfl | simp [up2, va_up, encX, si, sr, sg, gi, gr, ga]
    | 7, _ => first | rfl | simp [up2, va_up, encX, si, sr, sg, gi, gr, ga]
    | 8, _ => first | rfl | simp [up2, va_up, encX, si, sr, sg, gi, gr, ga]
    | 9, _ => first | rfl | simp [up2, va_up, encX, si, sr, sg, gi, gr, ga]
    | 10, _ => first | rfl | simp [up2, va_up, encX, si, sr, sg, gi, gr, ga]
    | 11, _ => first | rfl | simp [up2, va_up, encX, si, sr, sg, gi, gr, ga]
    | 12, _ => first | rfl | simp [up2, va_up, encX, si, sr, sg, gi, gr, ga]
    | _ + 13, _ => rfl
theorem pX6_4 (X : Fx Γ Ω A cc nL own rm ret) {v : Int32} (hi : i < 8) (hlk : Cond.fieldLink own index "MappingTexts$Version" "ruleCount" "I" ∈ GW) (hd : decode cc pc = .ok (.putfield index, 3)) (kk : V Γ cs Q A nL (PicX Ω ad A (si σ 604 i v)) (pc + 3) lv st) : V Γ cs Q A nL (PicX Ω ad A σ) pc lv (.int v :: .ref (ad 3 i) :: st) := tv_put X (fun H h => h.1) (fun H0 H h0 h => ⟨(congrArg (fun E => PP Ω cntX ad A E H) (eX6_4)).mp h, h0.2⟩) hi rfl rfl inG7 tyX7_ok nmX7 (k := 4) (by decide) hlk rfl rfl rfl rfl (Nat.le_of_ble_eq_true rfl) hd kk
theorem gX6_5 (X : Fx Γ Ω A cc nL own rm ret) (hi : i < 8) (hlk : Cond.fieldLink own index "MappingTexts$Version" "limit" "I" ∈ GW) (hd : decode cc pc = .ok (.getfield index, 3)) (kk : V Γ cs Q A nL (PicX Ω ad A σ) (pc + 3) lv (.int (gi σ 605 i) :: st)) : V Γ cs Q A nL (PicX Ω ad A σ) pc lv (.ref (ad 3 i) :: st) := tv_get X (fun H h => h.1) hi rfl rfl inG7 (k := 5) (by decide) hlk rfl hd kk
theorem eX6_5 {v : Int32} : up2 (encX Ω ad σ) 3 i (.inr (6, [.ref (ad 6 i), .ref (ad 7 i), .ref (ad 8 i), .int (gi σ 603 i), .int (gi σ 604 i), .int v])) = encX Ω ad (si σ 605 i v) := by
  funext f j
  by_cases h : f = 3 ∧ j = i
  · obtain ⟨rfl, rfl⟩ := h
    simp [up2, encX, si, sr, sg, gi, gr, ga]
  · unfold up2
    rw [if_neg h]
    match f, h with
    | 0, _ => first | rfl | simp [up2, va_up, encX, si, sr, sg, gi, gr, ga]
    | 1, _ => first | rfl | simp [up2, va_up, encX, si, sr, sg, gi, gr, ga]
    | 2, _ => first | rfl | simp [up2, va_up, encX, si, sr, sg, gi, gr, ga]
    | 3, h =>
      have hj : ¬ j = i := fun e => h ⟨rfl, e⟩
      simp [up2, hj, encX, si, sr, sg, gi, gr, ga]
    | 4, _ => first | rfl | simp [up2, va_up, encX, si, sr, sg, gi, gr, ga]
    | 5, _ => first | rfl | simp [up2, va_up, encX, si, sr, sg, gi, gr, ga]
    | 6, _ => first | rfl | simp [up2, va_up, encX, si, sr, sg, gi, gr, ga]
    | 7, _ => first | rfl | simp [up2, va_up, encX, si, sr, sg, gi, gr, ga]
    | 8, _ => first | rfl | simp [up2, va_up, encX, si, sr, sg, gi, gr, ga]
    | 9, _ => first | rfl | simp [up2, va_up, encX, si, sr, sg, gi, gr, ga]
    | 10, _ => first | rfl | simp [up2, va_up, encX, si, sr, sg, gi, gr, ga]
    | 11, _ => first | rfl | simp [up2, va_up, encX, si, sr, sg, gi, gr, ga]
    | 12, _ => first | rfl | simp [up2, va_up, encX, si, sr, sg, gi, gr, ga]
    | _ + 13, _ => rfl
theorem pX6_5 (X : Fx Γ Ω A cc nL own rm ret) {v : Int32} (hi : i < 8) (hlk : Cond.fieldLink own index "MappingTexts$Version" "limit" "I" ∈ GW) (hd : decode cc pc = .ok (.putfield index, 3)) (kk : V Γ cs Q A nL (PicX Ω ad A (si σ 605 i v)) (pc + 3) lv st) : V Γ cs Q A nL (PicX Ω ad A σ) pc lv (.int v :: .ref (ad 3 i) :: st) := tv_put X (fun H h => h.1) (fun H0 H h0 h => ⟨(congrArg (fun E => PP Ω cntX ad A E H) (eX6_5)).mp h, h0.2⟩) hi rfl rfl inG7 tyX7_ok nmX7 (k := 5) (by decide) hlk rfl rfl rfl rfl (Nat.le_of_ble_eq_true rfl) hd kk
theorem gX7_0 (X : Fx Γ Ω A cc nL own rm ret) (hi : i < 1) (hlk : Cond.fieldLink own index "MappingTexts" "tape" "LMappingTexts$Letters;" ∈ GW) (hd : decode cc pc = .ok (.getfield index, 3)) (kk : V Γ cs Q A nL (PicX Ω ad A σ) (pc + 3) lv (.ref (ad 1 0) :: st)) : V Γ cs Q A nL (PicX Ω ad A σ) pc lv (.ref (ad 0 i) :: st) := tv_get X (fun H h => h.1) hi rfl rfl inG8 (k := 0) (by decide) hlk rfl hd kk
theorem gX7_1 (X : Fx Γ Ω A cc nL own rm ret) (hi : i < 1) (hlk : Cond.fieldLink own index "MappingTexts" "path" "LMappingTexts$Letters;" ∈ GW) (hd : decode cc pc = .ok (.getfield index, 3)) (kk : V Γ cs Q A nL (PicX Ω ad A σ) (pc + 3) lv (.ref (ad 1 1) :: st)) : V Γ cs Q A nL (PicX Ω ad A σ) pc lv (.ref (ad 0 i) :: st) := tv_get X (fun H h => h.1) hi rfl rfl inG8 (k := 1) (by decide) hlk rfl hd kk
theorem gX7_2 (X : Fx Γ Ω A cc nL own rm ret) (hi : i < 1) (hlk : Cond.fieldLink own index "MappingTexts" "tokens" "LMappingTexts$Tokens;" ∈ GW) (hd : decode cc pc = .ok (.getfield index, 3)) (kk : V Γ cs Q A nL (PicX Ω ad A σ) (pc + 3) lv (.ref (ad 9 0) :: st)) : V Γ cs Q A nL (PicX Ω ad A σ) pc lv (.ref (ad 0 i) :: st) := tv_get X (fun H h => h.1) hi rfl rfl inG8 (k := 2) (by decide) hlk rfl hd kk
theorem gX7_3 (X : Fx Γ Ω A cc nL own rm ret) (hi : i < 1) (hlk : Cond.fieldLink own index "MappingTexts" "versions" "[LMappingTexts$Version;" ∈ GW) (hd : decode cc pc = .ok (.getfield index, 3)) (kk : V Γ cs Q A nL (PicX Ω ad A σ) (pc + 3) lv (.ref (ad 12 0) :: st)) : V Γ cs Q A nL (PicX Ω ad A σ) pc lv (.ref (ad 0 i) :: st) := tv_get X (fun H h => h.1) hi rfl rfl inG8 (k := 3) (by decide) hlk rfl hd kk
theorem gX7_4 (X : Fx Γ Ω A cc nL own rm ret) (hi : i < 1) (hlk : Cond.fieldLink own index "MappingTexts" "reader" "LMappingTexts$TextReader;" ∈ GW) (hd : decode cc pc = .ok (.getfield index, 3)) (kk : V Γ cs Q A nL (PicX Ω ad A σ) (pc + 3) lv (.ref (ad 10 0) :: st)) : V Γ cs Q A nL (PicX Ω ad A σ) pc lv (.ref (ad 0 i) :: st) := tv_get X (fun H h => h.1) hi rfl rfl inG8 (k := 4) (by decide) hlk rfl hd kk
theorem gX7_5 (X : Fx Γ Ω A cc nL own rm ret) (hi : i < 1) (hlk : Cond.fieldLink own index "MappingTexts" "comparison" "LMappingTexts$Comparison;" ∈ GW) (hd : decode cc pc = .ok (.getfield index, 3)) (kk : V Γ cs Q A nL (PicX Ω ad A σ) (pc + 3) lv (.ref (ad 11 0) :: st)) : V Γ cs Q A nL (PicX Ω ad A σ) pc lv (.ref (ad 0 i) :: st) := tv_get X (fun H h => h.1) hi rfl rfl inG8 (k := 5) (by decide) hlk rfl hd kk
theorem gX7_6 (X : Fx Γ Ω A cc nL own rm ret) (hi : i < 1) (hlk : Cond.fieldLink own index "MappingTexts" "printed" "LMappingTexts$Letters;" ∈ GW) (hd : decode cc pc = .ok (.getfield index, 3)) (kk : gr σ 0 i < 773 → V Γ cs Q A nL (PicX Ω ad A σ) (pc + 3) lv (.ref (ad 1 (gr σ 0 i)) :: st)) : V Γ cs Q A nL (PicX Ω ad A σ) pc lv (.ref (ad 0 i) :: st) := fun H locs ls hZ => tv_get X (fun H h => h.1) hi rfl rfl inG8 (k := 6) (by decide) hlk rfl hd (kk (hZ.2.1 i)) H locs ls hZ
theorem eX7_6 {y : Nat} : up2 (encX Ω ad σ) 0 i (.inr (7, [.ref (ad 1 0), .ref (ad 1 1), .ref (ad 9 0), .ref (ad 12 0), .ref (ad 10 0), .ref (ad 11 0), .ref (ad 1 y), .ref (ad 1 (gr σ 1 i)), .int (gi σ 708 i), .int (gi σ 709 i)])) = encX Ω ad (sr σ 0 i y) := by
  funext f j
  by_cases h : f = 0 ∧ j = i
  · obtain ⟨rfl, rfl⟩ := h
    simp [up2, encX, si, sr, sg, gi, gr, ga]
  · unfold up2
    rw [if_neg h]
    match f, h with
    | 0, h =>
      have hj : ¬ j = i := fun e => h ⟨rfl, e⟩
      simp [up2, hj, encX, si, sr, sg, gi, gr, ga]
    | 1, _ => first | rfl | simp [up2, va_up, encX, si, sr, sg, gi, gr, ga]
    | 2, _ => first | rfl | simp [up2, va_up, encX, si, sr, sg, gi, gr, ga]
    | 3, _ => first | rfl | simp [up2, va_up, encX, si, sr, sg, gi, gr, ga]
    | 4, _ => first | rfl | simp [up2, va_up, encX, si, sr, sg, gi, gr, ga]
    | 5, _ => first | rfl | simp [up2, va_up, encX, si, sr, sg, gi, gr, ga]
    | 6, _ => first | rfl | simp [up2, va_up, encX, si, sr, sg, gi, gr, ga]
    | 7, _ => first | rfl | simp [up2, va_up, encX, si, sr, sg, gi, gr, ga]
    | 8, _ => first | rfl | simp [up2, va_up, encX, si, sr, sg, gi, gr, ga]
    | 9, _ => first | rfl | simp [up2, va_up, encX, si, sr, sg, gi, gr, ga]
    | 10, _ => first | rfl | simp [up2, va_up, encX, si, sr, sg, gi, gr, ga]
    | 11, _ => first | rfl | simp [up2, va_up, encX, si, sr, sg, gi, gr, ga]
    | 12, _ => first | rfl | simp [up2, va_up, encX, si, sr, sg, gi, gr, ga]
    | _ + 13, _ => rfl
theorem pX7_6 (X : Fx Γ Ω A cc nL own rm ret) {y : Nat} (hy : y < 773) (hi : i < 1) (hlk : Cond.fieldLink own index "MappingTexts" "printed" "LMappingTexts$Letters;" ∈ GW) (hd : decode cc pc = .ok (.putfield index, 3)) (kk : V Γ cs Q A nL (PicX Ω ad A (sr σ 0 i y)) (pc + 3) lv st) : V Γ cs Q A nL (PicX Ω ad A σ) pc lv (.ref (ad 1 y) :: .ref (ad 0 i) :: st) := tv_put X (fun H h => h.1) (fun H0 H h0 h => ⟨(congrArg (fun E => PP Ω cntX ad A E H) (eX7_6)).mp h, vd_sr0 hy h0.2⟩) hi rfl rfl inG8 tyX8_ok nmX8 (k := 6) (by decide) hlk rfl rfl rfl rfl (Nat.le_of_ble_eq_true rfl) hd kk
theorem gX7_7 (X : Fx Γ Ω A cc nL own rm ret) (hi : i < 1) (hlk : Cond.fieldLink own index "MappingTexts" "spare" "LMappingTexts$Letters;" ∈ GW) (hd : decode cc pc = .ok (.getfield index, 3)) (kk : gr σ 1 i < 773 → V Γ cs Q A nL (PicX Ω ad A σ) (pc + 3) lv (.ref (ad 1 (gr σ 1 i)) :: st)) : V Γ cs Q A nL (PicX Ω ad A σ) pc lv (.ref (ad 0 i) :: st) := fun H locs ls hZ => tv_get X (fun H h => h.1) hi rfl rfl inG8 (k := 7) (by decide) hlk rfl hd (kk (hZ.2.2.1 i)) H locs ls hZ
theorem eX7_7 {y : Nat} : up2 (encX Ω ad σ) 0 i (.inr (7, [.ref (ad 1 0), .ref (ad 1 1), .ref (ad 9 0), .ref (ad 12 0), .ref (ad 10 0), .ref (ad 11 0), .ref (ad 1 (gr σ 0 i)), .ref (ad 1 y), .int (gi σ 708 i), .int (gi σ 709 i)])) = encX Ω ad (sr σ 1 i y) := by
  funext f j
  by_cases h : f = 0 ∧ j = i
  · obtain ⟨rfl, rfl⟩ := h
    simp [up2, encX, si, sr, sg, gi, gr, ga]
  · unfold up2
    rw [if_neg h]
    match f, h with
    | 0, h =>
      have hj : ¬ j = i := fun e => h ⟨rfl, e⟩
      simp [up2, hj, encX, si, sr, sg, gi, gr, ga]
    | 1, _ => first | rfl | simp [up2, va_up, encX, si, sr, sg, gi, gr, ga]
    | 2, _ => first | rfl | simp [up2, va_up, encX, si, sr, sg, gi, gr, ga]
    | 3, _ => first | rfl | simp [up2, va_up, encX, si, sr, sg, gi, gr, ga]
    | 4, _ => first | rfl | simp [up2, va_up, encX, si, sr, sg, gi, gr, ga]
    | 5, _ => first | rfl | simp [up2, va_up, encX, si, sr, sg, gi, gr, ga]
    | 6, _ => first | rfl | simp [up2, va_up, encX, si, sr, sg, gi, gr, ga]
    | 7, _ => first | rfl | simp [up2, va_up, encX, si, sr, sg, gi, gr, ga]
    | 8, _ => first | rfl | simp [up2, va_up, encX, si, sr, sg, gi, gr, ga]
    | 9, _ => first | rfl | simp [up2, va_up, encX, si, sr, sg, gi, gr, ga]
    | 10, _ => first | rfl | simp [up2, va_up, encX, si, sr, sg, gi, gr, ga]
    | 11, _ => first | rfl | simp [up2, va_up, encX, si, sr, sg, gi, gr, ga]
    | 12, _ => first | rfl | simp [up2, va_up, encX, si, sr, sg, gi, gr, ga]
    | _ + 13, _ => rfl
theorem pX7_7 (X : Fx Γ Ω A cc nL own rm ret) {y : Nat} (hy : y < 773) (hi : i < 1) (hlk : Cond.fieldLink own index "MappingTexts" "spare" "LMappingTexts$Letters;" ∈ GW) (hd : decode cc pc = .ok (.putfield index, 3)) (kk : V Γ cs Q A nL (PicX Ω ad A (sr σ 1 i y)) (pc + 3) lv st) : V Γ cs Q A nL (PicX Ω ad A σ) pc lv (.ref (ad 1 y) :: .ref (ad 0 i) :: st) := tv_put X (fun H h => h.1) (fun H0 H h0 h => ⟨(congrArg (fun E => PP Ω cntX ad A E H) (eX7_7)).mp h, vd_sr1 hy h0.2⟩) hi rfl rfl inG8 tyX8_ok nmX8 (k := 7) (by decide) hlk rfl rfl rfl rfl (Nat.le_of_ble_eq_true rfl) hd kk
theorem gX7_8 (X : Fx Γ Ω A cc nL own rm ret) (hi : i < 1) (hlk : Cond.fieldLink own index "MappingTexts" "versionCount" "I" ∈ GW) (hd : decode cc pc = .ok (.getfield index, 3)) (kk : V Γ cs Q A nL (PicX Ω ad A σ) (pc + 3) lv (.int (gi σ 708 i) :: st)) : V Γ cs Q A nL (PicX Ω ad A σ) pc lv (.ref (ad 0 i) :: st) := tv_get X (fun H h => h.1) hi rfl rfl inG8 (k := 8) (by decide) hlk rfl hd kk
theorem eX7_8 {v : Int32} : up2 (encX Ω ad σ) 0 i (.inr (7, [.ref (ad 1 0), .ref (ad 1 1), .ref (ad 9 0), .ref (ad 12 0), .ref (ad 10 0), .ref (ad 11 0), .ref (ad 1 (gr σ 0 i)), .ref (ad 1 (gr σ 1 i)), .int v, .int (gi σ 709 i)])) = encX Ω ad (si σ 708 i v) := by
  funext f j
  by_cases h : f = 0 ∧ j = i
  · obtain ⟨rfl, rfl⟩ := h
    simp [up2, encX, si, sr, sg, gi, gr, ga]
  · unfold up2
    rw [if_neg h]
    match f, h with
    | 0, h =>
      have hj : ¬ j = i := fun e => h ⟨rfl, e⟩
      simp [up2, hj, encX, si, sr, sg, gi, gr, ga]
    | 1, _ => first | rfl | simp [up2, va_up, encX, si, sr, sg, gi, gr, ga]
    | 2, _ => first | rfl | simp [up2, va_up, encX, si, sr, sg, gi, gr, ga]
    | 3, _ => first | rfl | simp [up2, va_up, encX, si, sr, sg, gi, gr, ga]
    | 4, _ => first | rfl | simp [up2, va_up, encX, si, sr, sg, gi, gr, ga]
    | 5, _ => first | rfl | simp [up2, va_up, encX, si, sr, sg, gi, gr, ga]
    | 6, _ => first | rfl | simp [up2, va_up, encX, si, sr, sg, gi, gr, ga]
    | 7, _ => first | rfl | simp [up2, va_up, encX, si, sr, sg, gi, gr, ga]
    | 8, _ => first | rfl | simp [up2, va_up, encX, si, sr, sg, gi, gr, ga]
    | 9, _ => first | rfl | simp [up2, va_up, encX, si, sr, sg, gi, gr, ga]
    | 10, _ => first | rfl | simp [up2, va_up, encX, si, sr, sg, gi, gr, ga]
    | 11, _ => first | rfl | simp [up2, va_up, encX, si, sr, sg, gi, gr, ga]
    | 12, _ => first | rfl | simp [up2, va_up, encX, si, sr, sg, gi, gr, ga]
    | _ + 13, _ => rfl
theorem pX7_8 (X : Fx Γ Ω A cc nL own rm ret) {v : Int32} (hi : i < 1) (hlk : Cond.fieldLink own index "MappingTexts" "versionCount" "I" ∈ GW) (hd : decode cc pc = .ok (.putfield index, 3)) (kk : V Γ cs Q A nL (PicX Ω ad A (si σ 708 i v)) (pc + 3) lv st) : V Γ cs Q A nL (PicX Ω ad A σ) pc lv (.int v :: .ref (ad 0 i) :: st) := tv_put X (fun H h => h.1) (fun H0 H h0 h => ⟨(congrArg (fun E => PP Ω cntX ad A E H) (eX7_8)).mp h, h0.2⟩) hi rfl rfl inG8 tyX8_ok nmX8 (k := 8) (by decide) hlk rfl rfl rfl rfl (Nat.le_of_ble_eq_true rfl) hd kk
theorem gX7_9 (X : Fx Γ Ω A cc nL own rm ret) (hi : i < 1) (hlk : Cond.fieldLink own index "MappingTexts" "faultPlace" "I" ∈ GW) (hd : decode cc pc = .ok (.getfield index, 3)) (kk : V Γ cs Q A nL (PicX Ω ad A σ) (pc + 3) lv (.int (gi σ 709 i) :: st)) : V Γ cs Q A nL (PicX Ω ad A σ) pc lv (.ref (ad 0 i) :: st) := tv_get X (fun H h => h.1) hi rfl rfl inG8 (k := 9) (by decide) hlk rfl hd kk
theorem eX7_9 {v : Int32} : up2 (encX Ω ad σ) 0 i (.inr (7, [.ref (ad 1 0), .ref (ad 1 1), .ref (ad 9 0), .ref (ad 12 0), .ref (ad 10 0), .ref (ad 11 0), .ref (ad 1 (gr σ 0 i)), .ref (ad 1 (gr σ 1 i)), .int (gi σ 708 i), .int v])) = encX Ω ad (si σ 709 i v) := by
  funext f j
  by_cases h : f = 0 ∧ j = i
  · obtain ⟨rfl, rfl⟩ := h
    simp [up2, encX, si, sr, sg, gi, gr, ga]
  · unfold up2
    rw [if_neg h]
    match f, h with
    | 0, h =>
      have hj : ¬ j = i := fun e => h ⟨rfl, e⟩
      simp [up2, hj, encX, si, sr, sg, gi, gr, ga]
    | 1, _ => first | rfl | simp [up2, va_up, encX, si, sr, sg, gi, gr, ga]
    | 2, _ => first | rfl | simp [up2, va_up, encX, si, sr, sg, gi, gr, ga]
    | 3, _ => first | rfl | simp [up2, va_up, encX, si, sr, sg, gi, gr, ga]
    | 4, _ => first | rfl | simp [up2, va_up, encX, si, sr, sg, gi, gr, ga]
    | 5, _ => first | rfl | simp [up2, va_up, encX, si, sr, sg, gi, gr, ga]
    | 6, _ => first | rfl | simp [up2, va_up, encX, si, sr, sg, gi, gr, ga]
    | 7, _ => first | rfl | simp [up2, va_up, encX, si, sr, sg, gi, gr, ga]
    | 8, _ => first | rfl | simp [up2, va_up, encX, si, sr, sg, gi, gr, ga]
    | 9, _ => first | rfl | simp [up2, va_up, encX, si, sr, sg, gi, gr, ga]
    | 10, _ => first | rfl | simp [up2, va_up, encX, si, sr, sg, gi, gr, ga]
    | 11, _ => first | rfl | simp [up2, va_up, encX, si, sr, sg, gi, gr, ga]
    | 12, _ => first | rfl | simp [up2, va_up, encX, si, sr, sg, gi, gr, ga]
    | _ + 13, _ => rfl
theorem pX7_9 (X : Fx Γ Ω A cc nL own rm ret) {v : Int32} (hi : i < 1) (hlk : Cond.fieldLink own index "MappingTexts" "faultPlace" "I" ∈ GW) (hd : decode cc pc = .ok (.putfield index, 3)) (kk : V Γ cs Q A nL (PicX Ω ad A (si σ 709 i v)) (pc + 3) lv st) : V Γ cs Q A nL (PicX Ω ad A σ) pc lv (.int v :: .ref (ad 0 i) :: st) := tv_put X (fun H h => h.1) (fun H0 H h0 h => ⟨(congrArg (fun E => PP Ω cntX ad A E H) (eX7_9)).mp h, h0.2⟩) hi rfl rfl inG8 tyX8_ok nmX8 (k := 9) (by decide) hlk rfl rfl rfl rfl (Nat.le_of_ble_eq_true rfl) hd kk
theorem eX_sg2 {g : Nat → Int32} : up2 (encX Ω ad σ) 2 i (.inl (Ω.2.1 1, capX i, .inl g)) = encX Ω ad (sg σ 2 i g) := by
  funext f j
  by_cases h : f = 2 ∧ j = i
  · obtain ⟨rfl, rfl⟩ := h
    simp [up2, encX, si, sr, sg, gi, gr, ga]
  · unfold up2
    rw [if_neg h]
    match f, h with
    | 0, _ => first | rfl | simp [up2, va_up, encX, si, sr, sg, gi, gr, ga]
    | 1, _ => first | rfl | simp [up2, va_up, encX, si, sr, sg, gi, gr, ga]
    | 2, h =>
      have hj : ¬ j = i := fun e => h ⟨rfl, e⟩
      simp [up2, hj, encX, si, sr, sg, gi, gr, ga]
    | 3, _ => first | rfl | simp [up2, va_up, encX, si, sr, sg, gi, gr, ga]
    | 4, _ => first | rfl | simp [up2, va_up, encX, si, sr, sg, gi, gr, ga]
    | 5, _ => first | rfl | simp [up2, va_up, encX, si, sr, sg, gi, gr, ga]
    | 6, _ => first | rfl | simp [up2, va_up, encX, si, sr, sg, gi, gr, ga]
    | 7, _ => first | rfl | simp [up2, va_up, encX, si, sr, sg, gi, gr, ga]
    | 8, _ => first | rfl | simp [up2, va_up, encX, si, sr, sg, gi, gr, ga]
    | 9, _ => first | rfl | simp [up2, va_up, encX, si, sr, sg, gi, gr, ga]
    | 10, _ => first | rfl | simp [up2, va_up, encX, si, sr, sg, gi, gr, ga]
    | 11, _ => first | rfl | simp [up2, va_up, encX, si, sr, sg, gi, gr, ga]
    | 12, _ => first | rfl | simp [up2, va_up, encX, si, sr, sg, gi, gr, ga]
    | _ + 13, _ => rfl
theorem eX_sg8 {g : Nat → Int32} : up2 (encX Ω ad σ) 8 i (.inl (Ω.2.1 0, lenX i, .inl g)) = encX Ω ad (sg σ 8 i g) := by
  funext f j
  by_cases h : f = 8 ∧ j = i
  · obtain ⟨rfl, rfl⟩ := h
    simp [up2, encX, si, sr, sg, gi, gr, ga]
  · unfold up2
    rw [if_neg h]
    match f, h with
    | 0, _ => first | rfl | simp [up2, va_up, encX, si, sr, sg, gi, gr, ga]
    | 1, _ => first | rfl | simp [up2, va_up, encX, si, sr, sg, gi, gr, ga]
    | 2, _ => first | rfl | simp [up2, va_up, encX, si, sr, sg, gi, gr, ga]
    | 3, _ => first | rfl | simp [up2, va_up, encX, si, sr, sg, gi, gr, ga]
    | 4, _ => first | rfl | simp [up2, va_up, encX, si, sr, sg, gi, gr, ga]
    | 5, _ => first | rfl | simp [up2, va_up, encX, si, sr, sg, gi, gr, ga]
    | 6, _ => first | rfl | simp [up2, va_up, encX, si, sr, sg, gi, gr, ga]
    | 7, _ => first | rfl | simp [up2, va_up, encX, si, sr, sg, gi, gr, ga]
    | 8, h =>
      have hj : ¬ j = i := fun e => h ⟨rfl, e⟩
      simp [up2, hj, encX, si, sr, sg, gi, gr, ga]
    | 9, _ => first | rfl | simp [up2, va_up, encX, si, sr, sg, gi, gr, ga]
    | 10, _ => first | rfl | simp [up2, va_up, encX, si, sr, sg, gi, gr, ga]
    | 11, _ => first | rfl | simp [up2, va_up, encX, si, sr, sg, gi, gr, ga]
    | 12, _ => first | rfl | simp [up2, va_up, encX, si, sr, sg, gi, gr, ga]
    | _ + 13, _ => rfl
theorem baX (X : Fx Γ Ω A cc nL own rm ret) {x : Int32} {K : Nat → Option ρ} (hi : i < 773) (hd : decode cc pc = .ok (.baload, 1)) (h : ck x (capX i) K = some r) (kk : ∀ j, j < capX i → K j = some r → V Γ cs Q A nL (PicX Ω ad A σ) (pc + 1) lv (.int (ga σ 2 i j) :: st)) : V Γ cs Q A nL (PicX Ω ad A σ) pc lv (.int x :: .ref (ad 2 i) :: st) := tv_bald X (fun H h => h.1) hi rfl hd h kk
theorem iaX (X : Fx Γ Ω A cc nL own rm ret) {x : Int32} {K : Nat → Option ρ} (hi : i < 18) (hd : decode cc pc = .ok (.iaload, 1)) (h : ck x (lenX i) K = some r) (kk : ∀ j, j < lenX i → K j = some r → V Γ cs Q A nL (PicX Ω ad A σ) (pc + 1) lv (.int (ga σ 8 i j) :: st)) : V Γ cs Q A nL (PicX Ω ad A σ) pc lv (.int x :: .ref (ad 8 i) :: st) := tv_iald X (fun H h => h.1) hi rfl hd h kk
theorem bsX (X : Fx Γ Ω A cc nL own rm ret) {x v : Int32} {K : Nat → Option ρ} (hi : i < 773) (hd : decode cc pc = .ok (.bastore, 1)) (h : ck x (capX i) K = some r) (kk : ∀ j, j < capX i → K j = some r → V Γ cs Q A nL (PicX Ω ad A (sa σ 2 i j (vp_nar .byte v))) (pc + 1) lv st) : V Γ cs Q A nL (PicX Ω ad A σ) pc lv (.int v :: .int x :: .ref (ad 2 i) :: st) := tv_bast X (Z' := fun j => PicX Ω ad A (sa σ 2 i j (vp_nar .byte v))) (fun H h => h.1) hi rfl (fun H0 H j h0 h => ⟨(congrArg (fun E => PP Ω cntX ad A E H) eX_sg2).mp h, vd_sg2 (fits_upd (h0.2.2.2.2.2.2 i)) h0.2⟩) hd h kk
theorem isX (X : Fx Γ Ω A cc nL own rm ret) {x v : Int32} {K : Nat → Option ρ} (hi : i < 18) (hd : decode cc pc = .ok (.iastore, 1)) (h : ck x (lenX i) K = some r) (kk : ∀ j, j < lenX i → K j = some r → V Γ cs Q A nL (PicX Ω ad A (sa σ 8 i j v)) (pc + 1) lv st) : V Γ cs Q A nL (PicX Ω ad A σ) pc lv (.int v :: .int x :: .ref (ad 8 i) :: st) := tv_iast X (Z' := fun j => PicX Ω ad A (sa σ 8 i j v)) (fun H h => h.1) hi rfl (fun H0 H j h0 h => ⟨(congrArg (fun E => PP Ω cntX ad A E H) eX_sg8).mp h, vd_sg8 h0.2⟩) hd h kk
theorem aaX6 (X : Fx Γ Ω A cc nL own rm ret) {x : Int32} {K : Nat → Option ρ} (hi : i < 8) (hd : decode cc pc = .ok (.aaload, 1)) (h : ck x 40 K = some r) (kk : ∀ j, j < 40 → K j = some r → V Γ cs Q A nL (PicX Ω ad A σ) (pc + 1) lv (.ref (ad 4 (40 * i + j)) :: st)) : V Γ cs Q A nL (PicX Ω ad A σ) pc lv (.int x :: .ref (ad 6 i) :: st) := tv_aald X 4 (fun H h => h.1) hi rfl rfl hd h kk
theorem aaX7 (X : Fx Γ Ω A cc nL own rm ret) {x : Int32} {K : Nat → Option ρ} (hi : i < 8) (hd : decode cc pc = .ok (.aaload, 1)) (h : ck x 8 K = some r) (kk : ∀ j, j < 8 → K j = some r → V Γ cs Q A nL (PicX Ω ad A σ) (pc + 1) lv (.ref (ad 5 (8 * i + j)) :: st)) : V Γ cs Q A nL (PicX Ω ad A σ) pc lv (.int x :: .ref (ad 7 i) :: st) := tv_aald X 5 (fun H h => h.1) hi rfl rfl hd h kk
theorem aaX12 (X : Fx Γ Ω A cc nL own rm ret) {x : Int32} {K : Nat → Option ρ} (hi : i < 1) (hd : decode cc pc = .ok (.aaload, 1)) (h : ck x 8 K = some r) (kk : ∀ j, j < 8 → K j = some r → V Γ cs Q A nL (PicX Ω ad A σ) (pc + 1) lv (.ref (ad 3 j) :: st)) : V Γ cs Q A nL (PicX Ω ad A σ) pc lv (.int x :: .ref (ad 12 i) :: st) := tv_aald X 6 (fun H h => h.1) hi rfl rfl hd h kk
theorem alX2 (X : Fx Γ Ω A cc nL own rm ret) (hi : i < 773) (hd : decode cc pc = .ok (.arraylength, 1)) (kk : V Γ cs Q A nL (PicX Ω ad A σ) (pc + 1) lv (.int (nI (capX i)) :: st)) : V Γ cs Q A nL (PicX Ω ad A σ) pc lv (.ref (ad 2 i) :: st) := tv_alen X 1 _ (fun H h => h.1) hi rfl rfl rfl hd kk
theorem alX8 (X : Fx Γ Ω A cc nL own rm ret) (hi : i < 18) (hd : decode cc pc = .ok (.arraylength, 1)) (kk : V Γ cs Q A nL (PicX Ω ad A σ) (pc + 1) lv (.int (nI (lenX i)) :: st)) : V Γ cs Q A nL (PicX Ω ad A σ) pc lv (.ref (ad 8 i) :: st) := tv_alen X 0 _ (fun H h => h.1) hi rfl rfl rfl hd kk
/-- System.arraycopy between the bytes of two rows of letters -/
theorem cpX (X : Fx Γ Ω A cc nL own rm ret) {j : Nat} {sp dp n : Int32} {K : Option ρ} (hi : i < 773) (hj : j < 773) (hlk : Cond.methodLink own index arraycopyName ∈ GW) (hfr : 1 ≤ rm.frames) (hlo : (st.map fun v => v.category).sum + (nativeFrameWords "java/lang/System" "arraycopy" 5 + 11) ≤ rm.locals) (hd : decode cc pc = .ok (.invokestatic index, 3)) (hw1 : Cond.native arraycopyName ∈ GW) (hw2 : Cond.static arraycopyName ∈ GW) (hw3 : Cond.initialized "java/lang/System" ∈ GW)
    (h : cq (decide (0 ≤ sp ∧ 0 ≤ dp ∧ 0 ≤ n ∧ sp.toInt.toNat + n.toInt.toNat ≤ capX j ∧ dp.toInt.toNat + n.toInt.toNat ≤ capX i)) K = some r)
    (kk : K = some r → V Γ cs Q A nL (PicX Ω ad A (sg σ 2 i (va_cpy (ga σ 2 j) (ga σ 2 i) sp.toInt.toNat dp.toInt.toNat n.toInt.toNat))) (pc + 3) lv st) : V Γ cs Q A nL (PicX Ω ad A σ) pc lv (.int n :: .int dp :: .ref (ad 2 i) :: .int sp :: .ref (ad 2 j) :: st) := by
  obtain ⟨hc, hk⟩ := cq_some h
  obtain ⟨c1, c2, c3, c4, c5⟩ := of_decide_eq_true hc
  intro H locs ls hz hS hl
  obtain ⟨q, hq⟩ := enumL_at (cnt := cntX) (f := 2) (i := i) hi
  obtain ⟨q', hq'⟩ := enumL_at (cnt := cntX) (f := 2) (i := j) hj
  refine va_copyi X.1.1 X.1.2.1 (by rw [X.1.2.2.1, hl.1]) X.1.2.2.2.1 (X.1.2.2.2.2 _ hlk) (X.1.2.2.2.2 _ hw1) (X.1.2.2.2.2 _ hw2) (X.1.2.2.2.2 _ hw3) X.2.1.1 hz.1.1 hz.1.2 hS q' q 1 1 (wsE_at hq') (wsE_at hq) rfl rfl rfl (Int32.not_lt.mpr c1) (Int32.not_lt.mpr c2) (Int32.not_lt.mpr c3) c4 c5 (fun k _ => hz.2.2.2.2.2.2 j _) (by rw [X.2.2.2.1]; exact hfr) (by rw [X.2.2.2.1]; exact hlo) hd (fun H1 locs1 g1 g2 g3 => ?_)
  rw [wsE_set hz.1.2 hq] at g1 g2
  refine kk hk H1 locs1 ls ⟨(congrArg (fun E => PP Ω cntX ad A E H1) eX_sg2).mp ⟨g1, g2⟩, vd_sg2 (fun k => ?_) hz.2⟩ g3 hl
  unfold va_cpy
  split
  · exact hz.2.2.2.2.2.2 j _
  · exact hz.2.2.2.2.2.2 i _
end RowsX
