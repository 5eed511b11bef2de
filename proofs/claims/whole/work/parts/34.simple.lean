/-! Calls that show or change little: place, drop, out, feed, take. -/
theorem pr_lt {x y : Int32} : x < y ↔ x.toInt < y.toInt := Int32.lt_iff_toInt_lt
theorem pr_le {x y : Int32} : x ≤ y ↔ x.toInt ≤ y.toInt := Int32.le_iff_toInt_le
theorem nI_m1_toInt {n : Nat} (h : n < 1073741824) : (nI n - 1).toInt = (n : Int) - 1 := pk_sub_toInt (b := 1) h (by decide)
theorem m_in_no {τ : St} {x : Int32} {n : Nat} (hn : n < 1073741824) (h : x < 0 ∨ nI n ≤ x) : f_X9_in τ x 0 (nI n - 1) = some (τ, 0) := by
  unfold f_X9_in
  by_cases h0 : x < 0
  · rw [if_pos h0]
  · rw [if_neg h0, if_pos]
    have h1 := pr_le.mp (h.resolve_left h0)
    rw [ln_toInt (by omega)] at h1
    rw [pr_lt, nI_m1_toInt hn]
    omega
theorem m_in_yes {τ : St} {j n : Nat} (hn : n < 1073741824) (h : j < n) : f_X9_in τ (nI j) 0 (nI n - 1) = some (τ, 1) := by
  unfold f_X9_in
  rw [if_neg (nI_pos (by omega)), if_neg]
  rw [pr_lt, nI_m1_toInt hn, ln_toInt (by omega)]
  omega
section Sv
variable {σ τ : St} {nv : Nat} {W : Nat → Vd}
theorem isV (h : RV σ τ nv W) (x : Int32) : (∃ v, v < nv ∧ x = nI v ∧ f_X8_isVersion σ x = some (σ, 1) ∧ f_X9_isVersion τ x = some (τ, 1)) ∨ (f_X8_isVersion σ x = some (σ, 0) ∧ f_X9_isVersion τ x = some (τ, 0)) := by
  have hn := h.1
  unfold f_X8_isVersion f_X9_isVersion
  rw [h.2.1, h.2.2.1]
  rcases pk_ix x (n := nv) (by omega) with h0 | h0 | ⟨j, hj, rfl⟩
  · right
    rw [if_pos h0, m_in_no (by omega) (Or.inl h0)]
    exact ⟨rfl, rfl⟩
  · right
    rw [m_in_no (by omega) (Or.inr h0), if_pos h0]
    refine ⟨?_, rfl⟩
    split <;> rfl
  · left
    refine ⟨j, hj, rfl, ?_, ?_⟩
    · rw [if_neg (nI_pos (by omega)), if_neg (nI_ge hj (by omega))]
    · rw [m_in_yes (by omega) hj]
      rfl
theorem isF (h : RV σ τ nv W) (x y : Int32) : (∃ v j, v < nv ∧ j < vn (W v) ∧ x = nI v ∧ y = nI j ∧ f_X8_isField σ x y = some (σ, 1) ∧ f_X9_isField τ x y = some (τ, 1)) ∨ (f_X8_isField σ x y = some (σ, 0) ∧ f_X9_isField τ x y = some (τ, 0)) := by
  have hn := h.1
  unfold f_X8_isField f_X9_isField
  rcases isV h x with ⟨v, hv, rfl, e1, e2⟩ | ⟨e1, e2⟩
  · rw [e1, e2, cl_mk, cl_mk, if_neg i10, if_neg i10, ck_nI (by omega) (by omega), ck_nI (by omega) (by omega)]
    obtain ⟨a, b, c⟩ := h.2.2.2 v hv
    have h40 : vn (W v) ≤ 40 := Nat.le_trans c.1.1 c.1.2.1
    rw [a.1, b.1]
    rcases pk_ix y (n := vn (W v)) (by omega) with h0 | h0 | ⟨j, hj, rfl⟩
    · right
      rw [if_pos h0, m_in_no (by omega) (Or.inl h0)]
      exact ⟨rfl, rfl⟩
    · right
      rw [m_in_no (by omega) (Or.inr h0), if_pos h0]
      refine ⟨?_, rfl⟩
      split <;> rfl
    · left
      refine ⟨v, j, hv, hj, rfl, rfl, ?_, ?_⟩
      · rw [if_neg (nI_pos (by omega)), if_neg (nI_ge hj (by omega))]
      · rw [m_in_yes (by omega) hj]
        rfl
  · right
    rw [e1, e2, cl_mk, cl_mk, if_pos rfl, if_pos rfl]
    exact ⟨rfl, rfl⟩
end Sv
/-- what a call owes -/
def OK (a b : Option (St × Int32)) : Prop := ∃ (σ' τ' : St) (r : Int32), a = some (σ', r) ∧ b = some (τ', r) ∧ RR σ' τ'
theorem op_place {σ τ : St} (h : RR σ τ) : OK (f_X8_place σ) (f_X9_place τ) := by
  refine ⟨σ, τ, gi σ 709 0, rfl, ?_, h⟩
  obtain ⟨_, _, _, _, _, _, hp, _⟩ := h
  show some (τ, gi τ 809 0) = _
  rw [hp]
theorem op_drop {σ τ : St} (h : RR σ τ) : OK (f_X8_drop σ) (f_X9_drop τ) := by
  obtain ⟨tx, ou, nv, W, h1, h2, h3, h4⟩ := h
  have hn := h4.1
  unfold f_X8_drop f_X9_drop
  rw [h4.2.1, h4.2.2.1]
  by_cases e : nv = 0
  · subst e
    exact ⟨σ, τ, -2, by rw [if_pos n00], by rw [if_pos n00], tx, ou, 0, W, h1, h2, h3, h4⟩
  · rw [if_neg (fun he => e ((ln_eq0 (by omega)).mp he)), if_neg (fun he => e ((ln_eq0 (by omega)).mp he)), ln_pred (by omega)]
    refine ⟨si σ 708 0 (nI (nv - 1)), si τ 810 0 (nI (nv - 1)), nI (nv - 1), rfl, rfl, tx, ou, nv - 1, W, h1, h2, h3, by omega, rfl, rfl, fun v hv => h4.2.2.2 v (by omega)⟩
theorem op_out {σ τ : St} (h : RR σ τ) (x : Int32) : OK (f_X8_out σ x) (f_X9_out τ x) := by
  have hR := h
  obtain ⟨tx, ou, nv, W, h1, h2, h3, h4⟩ := h
  obtain ⟨l1, l2, l3, l4, l5⟩ := h2
  have hb := l1.b
  unfold f_X8_out f_X9_out
  rw [l2]
  rcases pk_ix x (n := ou.length) (by omega) with h0 | h0 | ⟨j, hj, rfl⟩
  · rw [m_in_no (by omega) (Or.inl h0), lx_at_out l1 (Or.inl h0)]
    exact ⟨σ, τ, -1, rfl, rfl, hR⟩
  · rw [m_in_no (by omega) (Or.inr h0), lx_at_out l1 (Or.inr h0)]
    exact ⟨σ, τ, -1, rfl, rfl, hR⟩
  · rw [m_in_yes (by omega) hj, lx_at l1 hj, cl_mk, cl_mk, if_neg i10, ck_nI (by omega) (by omega)]
    refine ⟨σ, τ, nI (el ou j), rfl, ?_, hR⟩
    have := l3 j hj
    rw [Nat.zero_add] at this
    have h128 : el ou j < 128 := by
      rw [el_t hj]
      exact l4 _ (List.getElem_mem hj)
    rw [this, sB_asc h128]
theorem feed_byte (x : Int64) (i : Nat) (hi : i < 8) : Int32.toInt8 (Int64.toInt32 (x >>> (Int32.toInt64 (8 * nI i) &&& 63))) = Int32.toInt8 (Int64.toInt32 (UInt64.toInt64 (Int64.toUInt64 x >>> (Int64.toUInt64 (Int32.toInt64 (8 * nI i)) &&& Int64.toUInt64 63)))) := by
  have e1 : Int32.toInt64 (8 * nI i) &&& 63 = Int64.ofNat (8 * i) := by
    revert i
    decide +kernel
  have e2 : Int64.toUInt64 (Int32.toInt64 (8 * nI i)) &&& Int64.toUInt64 63 = UInt64.ofNat (8 * i) := by
    revert i
    decide +kernel
  rw [e1, e2]
  apply Int8.toBitVec_inj.mp
  apply BitVec.eq_of_getLsbD_eq
  intro j hj
  have s1 : ((8#64 * BitVec.ofNat 64 i).smod 64#64).toNat = 8 * i := by
    clear e1 e2 x
    revert i
    decide +kernel
  have s2 : (UInt64.ofNat (8 * i)).toBitVec.toNat % 64 = 8 * i := by
    clear e1 e2 x s1
    revert i
    decide +kernel
  simp only [Int32.toBitVec_toInt8, Int64.toBitVec_toInt32, Int64.toBitVec_shiftRight, UInt64.toBitVec_toInt64, UInt64.toBitVec_shiftRight, Int64.toBitVec_toUInt64]
  rw [BitVec.signExtend_eq_setWidth_of_le _ (by omega), BitVec.signExtend_eq_setWidth_of_le _ (by omega), BitVec.signExtend_eq_setWidth_of_le _ (by omega), BitVec.signExtend_eq_setWidth_of_le _ (by omega)]
  simp [BitVec.getLsbD_sshiftRight, s1]
  rw [if_pos (by omega), Nat.mod_eq_of_lt (by omega)]
  have : ¬ 64 ≤ j := by omega
  simp [this]
theorem byte_c (y : Int32) : ∃ c, c < 256 ∧ y &&& 255 = nI c ∧ y.toInt8.toInt32 = sB c := by
  have e := pk_and y (m := 255) 8 (by decide)
  refine ⟨y.toBitVec.toNat % 2 ^ 8, Nat.mod_lt _ (by decide), e, ?_⟩
  unfold sB
  congr 1
  apply Int8.toBitVec_inj.mp
  simp only [Int32.toBitVec_toInt8]
  rw [BitVec.signExtend_eq_setWidth_of_le _ (by omega), BitVec.signExtend_eq_setWidth_of_le _ (by omega)]
  apply BitVec.eq_of_toNat_eq
  rw [BitVec.toNat_setWidth, BitVec.toNat_setWidth, pk_tn (by omega)]
  omega
theorem feed_c (x : Int64) {i : Nat} (hi : i < 8) : ∃ c, c < 256 ∧ (Int64.toInt32 (UInt64.toInt64 (Int64.toUInt64 x >>> (Int64.toUInt64 (Int32.toInt64 (nI (8 * i))) &&& Int64.toUInt64 63)))) &&& 255 = nI c ∧ vp_nar .byte (Int8.toInt32 (Int32.toInt8 (Int64.toInt32 (x >>> (Int32.toInt64 (nI (8 * i)) &&& 63))))) = sB c := by
  rw [← ln_8]
  obtain ⟨c, hc, e1, e2⟩ := byte_c (Int64.toInt32 (UInt64.toInt64 (Int64.toUInt64 x >>> (Int64.toUInt64 (Int32.toInt64 (8 * nI i)) &&& Int64.toUInt64 63))))
  refine ⟨c, hc, e1, ?_⟩
  rw [feed_byte x i hi, e2, sB_nar]
/-- the class's persistent rows stay when only the letters below 5 change -/
theorem KX_UL {k v : Nat} {σ σ' : St} (h : UL k σ σ') (hk : k < 5) : KX v σ σ' :=
  ⟨fun f hf => h.2.1 f v (by omega), fun f g h1 h2 h3 h4 => h.2.1 f g (by omega), fun f q h1 h2 h3 => h.2.1 f q (by omega), fun m hm => ⟨h.2.1 201 m (by omega), h.2.2 2 m (by omega)⟩, h.2.2 8 v (by omega)⟩
/-- what the reference's versions rest on -/
def UM (τ τ' : St) : Prop := (gi τ' 806 0 = gi τ 806 0 ∧ gi τ' 809 0 = gi τ 809 0 ∧ gi τ' 810 0 = gi τ 810 0) ∧ ga τ' 4 0 = ga τ 4 0 ∧ (∀ i, i < 14 → ga τ' 1 i = ga τ 1 i) ∧ (∀ i, i = 1 ∨ (3 ≤ i ∧ i ≤ 6) → ga τ' 2 i = ga τ 2 i)
theorem UM.refl' (τ : St) : UM τ τ := ⟨⟨rfl, rfl, rfl⟩, rfl, fun _ _ => rfl, fun _ _ => rfl⟩
theorem UM.trans {τ τ1 τ2 : St} (h : UM τ τ1) (g : UM τ1 τ2) : UM τ τ2 := ⟨⟨g.1.1.trans h.1.1, g.1.2.1.trans h.1.2.1, g.1.2.2.trans h.1.2.2⟩, g.2.1.trans h.2.1, fun i hi => (g.2.2.1 i hi).trans (h.2.2.1 i hi), fun i hi => (g.2.2.2 i hi).trans (h.2.2.2 i hi)⟩
theorem KM_UM {v : Nat} {τ τ' : St} (h : UM τ τ') : KM v τ τ' :=
  ⟨fun f hf => by rw [h.2.2.1 f (by omega)], fun f g h1 h2 h3 h4 => by rw [h.2.2.1 f (by omega)], fun f g h1 h2 h3 => by rw [h.2.2.2 f (by omega)], fun f g h1 h2 h3 => by rw [h.2.2.1 f (by omega)], fun q h1 h2 => by rw [h.2.1], fun f g h1 h2 h3 => by rw [h.2.2.2 f (by omega)]⟩
theorem RO.of {σ τ σ' τ' : St} {ou : List Nat} (h : RO σ τ ou) (hr : σ'.2.1 = σ.2.1) (hX : ∀ k, k = 2 ∨ k = 3 → gi σ' 201 k = gi σ 201 k ∧ ga σ' 2 k = ga σ 2 k) (h1 : gi τ' 806 0 = gi τ 806 0) (h2 : ga τ' 2 1 = ga τ 2 1) : RO σ' τ' ou := by
  obtain ⟨a, b, c, d, e⟩ := h
  have e0 : gr σ' 0 0 = gr σ 0 0 := by show σ'.2.1 0 0 = σ.2.1 0 0; rw [hr]
  have e1 : gr σ' 1 0 = gr σ 1 0 := by show σ'.2.1 1 0 = σ.2.1 1 0; rw [hr]
  refine ⟨?_, by rw [h1, b], by rw [h2]; exact c, d, by rw [e0, e1]; exact e⟩
  rw [e0]
  have := hX (gr σ 0 0) (by omega)
  exact LX_of a this.1 this.2
theorem feed_loop (x : Int64) {n : Nat} (hn : n ≤ 8) : ∀ (d i : Nat), i + d = n → ∀ (σ τ : St) (tx : List Nat), RT σ τ tx → tx.length + d ≤ 2000 → ∀ m, d < m → ∃ σ' τ' tx', f_X8_feed_30 m σ (nI n) x (nI i) = some (σ', nI tx'.length) ∧ f_X9_feed_30 m τ (nI n) x (nI i) = some (τ', nI tx'.length) ∧ RT σ' τ' tx' ∧ UL 0 σ σ' ∧ UM τ τ' := by
  intro d
  induction d with
  | zero =>
    intro i hi σ τ tx h hl m hm
    obtain ⟨m, rfl⟩ : ∃ m', m = m' + 1 := ⟨m - 1, by omega⟩
    refine ⟨σ, τ, tx, ?_, ?_, h, UL.rfl', UM.refl' τ⟩
    · simp (disch := omega) only [f_X8_feed_30, f_X3_length, cl_mk, h.1.1, ln_le, ln_lt, ln_eq, ln_neg, ln_0le, ln_le0, ln_0lt, ln_eq0, nI_1, nI_add, ln_40, ln_12, ln_8, ck_nI, ck_0]
      rw [if_pos (by omega)]
    · simp (disch := omega) only [f_X9_feed_30, h.2.1, ln_le, ln_lt, ln_eq, ln_neg, ln_0le, ln_le0, ln_0lt, ln_eq0, nI_1, nI_add, ln_40, ln_12, ln_8, ck_nI, ck_0]
      rw [if_pos (by omega)]
  | succ d ih =>
    intro i hi σ τ tx h hl m hm
    obtain ⟨m, rfl⟩ : ∃ m', m = m' + 1 := ⟨m - 1, by omega⟩
    obtain ⟨c, hc, ec, em⟩ := feed_c x (i := i) (by omega)
    obtain ⟨s1, e1, u1, l1, _⟩ := lx_add h.1 hc (show tx.length < capX 0 by show tx.length < 2000; omega)
    have hT : RT s1 (si (sa τ 2 0 tx.length (sB c)) 803 0 (nI (tx.length + 1))) (tx ++ [c]) := by
      refine ⟨l1, ?_, Bs_app ?_ ?_⟩
      · simp [gi_si, gi_sr, gi_sg, gi_sa, gr_si, rr_sr, gr_sg, gr_sa, ga_si, ga_sr, ga_sg, ga_sa, true_and, and_true, false_and, and_false, Nat.reduceEqDiff, ↓reduceIte]
      · intro k hk
        have := h.2.2 k hk
        simp only [gi_si, gi_sr, gi_sg, gi_sa, gr_si, rr_sr, gr_sg, gr_sa, ga_si, ga_sr, ga_sg, ga_sa, true_and, and_true, false_and, and_false, Nat.reduceEqDiff, ↓reduceIte]
        unfold upd
        rw [if_neg (by omega)]
        exact this
      · intro k hk
        have : k = 0 := by simpa using hk
        subst this
        simp only [gi_si, gi_sr, gi_sg, gi_sa, gr_si, rr_sr, gr_sg, gr_sa, ga_si, ga_sr, ga_sg, ga_sa, true_and, and_true, false_and, and_false, Nat.reduceEqDiff, ↓reduceIte]
        unfold upd
        rw [if_pos (by omega)]
        rfl
    obtain ⟨σ', τ', tx', g1, g2, g3, g4, g5⟩ := ih (i + 1) (by omega) s1 _ (tx ++ [c]) hT (by simp; omega) m (by omega)
    refine ⟨σ', τ', tx', ?_, ?_, g3, u1.trans g4, UM.trans ?_ g5⟩
    · simp (disch := omega) only [f_X8_feed_30, ec, e1, cl_mk, ln_le, ln_lt, ln_eq, ln_neg, ln_0le, ln_le0, ln_0lt, ln_eq0, nI_1, nI_add, ln_40, ln_12, ln_8, ck_nI, ck_0]
      rw [if_neg (by omega), g1]
    · simp (disch := omega) only [f_X9_feed_30, em, h.2.1, bnd, gi_sa, ln_le, ln_lt, ln_eq, ln_neg, ln_0le, ln_le0, ln_0lt, ln_eq0, nI_1, nI_add, ln_40, ln_12, ln_8, ck_nI, ck_0]
      rw [if_neg (by omega), g2]
    · refine ⟨⟨rfl, rfl, rfl⟩, rfl, fun k hk => rfl, fun k hk => ?_⟩
      simp only [gi_si, gi_sr, gi_sg, gi_sa, gr_si, rr_sr, gr_sg, gr_sa, ga_si, ga_sr, ga_sg, ga_sa, true_and, and_true, false_and, and_false, Nat.reduceEqDiff, ↓reduceIte]
      rw [if_neg (by omega)]
theorem op_feed {σ τ : St} (h : RR σ τ) (x : Int32) (y : Int64) : OK (f_X8_feed σ x y) (f_X9_feed τ x y) := by
  have hR := h
  obtain ⟨tx, ou, nv, W, h1, h2, h3, h4⟩ := h
  have hb : tx.length ≤ 2000 := h1.1.2.1
  unfold f_X8_feed f_X9_feed f_X9_in
  by_cases c1 : x < 1
  · rw [if_pos c1, if_pos c1]
    exact ⟨σ, τ, -1, rfl, rfl, hR⟩
  rw [if_neg c1, if_neg c1]
  by_cases c2 : x ≤ 8
  · rw [if_pos c2, if_neg (fun hh => by rw [pr_lt] at hh; rw [pr_le] at c2; omega), cl_mk, if_neg i10]
    obtain ⟨n, hn, rfl⟩ : ∃ n, n ≤ 8 ∧ x = nI n := nI_of2 (M := 8) (n := 8) (by decide) (fun hh => c1 (by rw [pr_lt] at hh ⊢; have e0 : (0 : Int32).toInt = 0 := (by decide); have e1 : (1 : Int32).toInt = 1 := (by decide); omega)) c2
    unfold f_X3_hasRoomFor
    rw [h1.1.1, h1.2.1, show capX 0 = 2000 from rfl, ln_sub hb, nI_add, show (2000 : Int32) = nI 2000 from rfl]
    simp (disch := omega) only [ln_lt, ln_le]
    by_cases c3 : tx.length + n ≤ 2000
    · rw [if_neg (by omega), if_pos c3, cl_mk, if_neg i10]
      obtain ⟨σ', τ', tx', g1, g2, g3, g4, g5⟩ := feed_loop y hn n 0 (by omega) σ τ tx h1 (by omega) fl (by have := fl_big; omega)
      refine ⟨σ', τ', nI tx'.length, g1, g2, tx', ou, nv, W, g3, h2.of g4.1 (fun k hk => ⟨g4.2.1 201 k (by omega), g4.2.2 2 k (by omega)⟩) g5.1.1 (g5.2.2.2 1 (by omega)), ?_, h4.of (g4.2.1 708 0 (by omega)) g5.1.2.2 (fun v _ => KX_UL g4 (by omega)) (fun v _ => KM_UM g5)⟩
      rw [g4.2.1 709 0 (by omega), g5.1.2.1, h3]
    · rw [if_pos (by omega), if_neg c3]
      exact ⟨σ, τ, -3, rfl, rfl, hR⟩
  · rw [if_neg c2, if_pos (by rw [pr_lt]; rw [pr_le] at c2; omega)]
    exact ⟨σ, τ, -1, rfl, rfl, hR⟩
theorem take_loop {ou : List Nat} : ∀ (d i : Nat), i + d = ou.length → ∀ (τ : St), ou.length ≤ 2000 → gi τ 806 0 = nI ou.length → Bs (ga τ 2 1) 0 ou → (∀ k, k < i → ga τ 2 0 k = sB (el ou k)) → ∀ m, d < m → ∃ τ', f_X9_take_23 m τ (nI i) = some (τ', nI ou.length) ∧ Bs (ga τ' 2 0) 0 ou ∧ UM τ τ' ∧ gi τ' 803 0 = gi τ 803 0 := by
  intro d
  induction d with
  | zero =>
    intro i hi τ hl h6 hb hd m hm
    obtain ⟨m, rfl⟩ : ∃ m', m = m' + 1 := ⟨m - 1, by omega⟩
    refine ⟨τ, ?_, fun k hk => ?_, UM.refl' τ, rfl⟩
    · simp (disch := omega) only [f_X9_take_23, h6, ln_le, ln_lt, ln_eq, ln_neg, ln_0le, ln_le0, ln_0lt, ln_eq0, nI_1, nI_add, ln_40, ln_12, ln_8, ck_nI, ck_0]
      rw [if_pos (by omega)]
    · rw [Nat.zero_add]
      exact hd k (by omega)
  | succ d ih =>
    intro i hi τ hl h6 hb hd m hm
    obtain ⟨m, rfl⟩ : ∃ m', m = m' + 1 := ⟨m - 1, by omega⟩
    have hi1 := hb i (by omega)
    rw [Nat.zero_add] at hi1
    obtain ⟨τ', g1, g2, g3, g4⟩ := ih (i + 1) (by omega) (sa τ 2 0 i (sB (el ou i))) hl h6 (by simp only [gi_si, gi_sr, gi_sg, gi_sa, gr_si, rr_sr, gr_sg, gr_sa, ga_si, ga_sr, ga_sg, ga_sa, true_and, and_true, false_and, and_false, Nat.reduceEqDiff, ↓reduceIte]; exact hb) (fun k hk => by
      simp only [gi_si, gi_sr, gi_sg, gi_sa, gr_si, rr_sr, gr_sg, gr_sa, ga_si, ga_sr, ga_sg, ga_sa, true_and, and_true, false_and, and_false, Nat.reduceEqDiff, ↓reduceIte]
      unfold upd
      split
      · rename_i e
        rw [e]
      · exact hd k (by omega)) m (by omega)
    have h0 : UM τ (sa τ 2 0 i (sB (el ou i))) := by
      refine ⟨⟨rfl, rfl, rfl⟩, rfl, fun k hk => rfl, fun k hk => ?_⟩
      simp only [gi_si, gi_sr, gi_sg, gi_sa, gr_si, rr_sr, gr_sg, gr_sa, ga_si, ga_sr, ga_sg, ga_sa, true_and, and_true, false_and, and_false, Nat.reduceEqDiff, ↓reduceIte]
      rw [if_neg (by omega)]
    refine ⟨τ', ?_, g2, h0.trans g3, g4⟩
    · simp (disch := omega) only [f_X9_take_23, h6, hi1, sB_nar, bnd, ln_le, ln_lt, ln_eq, ln_neg, ln_0le, ln_le0, ln_0lt, ln_eq0, nI_1, nI_add, ln_40, ln_12, ln_8, ck_nI, ck_0]
      rw [if_neg (by omega), g1]
theorem op_take {σ τ : St} (h : RR σ τ) : OK (f_X8_take σ) (f_X9_take τ) := by
  have hR := h
  obtain ⟨tx, ou, nv, W, h1, h2, h3, h4⟩ := h
  have hb := h2.1.b
  unfold f_X8_take f_X9_take f_X3_length
  rw [cl_mk, h2.1.1, h2.2.1, show (2000 : Int32) = nI 2000 from rfl]
  simp (disch := omega) only [ln_le]
  by_cases c : ou.length ≤ 2000
  · rw [if_pos c, if_pos c]
    simp only [bnd]
    obtain ⟨s1, e1, u1, l1, _⟩ := lx_copy (k := 0) h2.1 (by have := h2.2.2.2.2; omega) (show ou.length ≤ capX 0 by exact c)
    obtain ⟨τ', g1, g2, g3, g4⟩ := take_loop ou.length 0 (by omega) (si τ 803 0 (nI ou.length)) c h2.2.1 h2.2.2.1 (fun k hk => by omega) fl (by have := fl_big; omega)
    have g3 : UM τ τ' := UM.trans ⟨⟨rfl, rfl, rfl⟩, rfl, fun k hk => rfl, fun k hk => rfl⟩ g3
    refine ⟨s1, τ', nI ou.length, ?_, g1, ou, ou, nv, W, ⟨l1, g4, g2⟩, h2.of u1.1 (fun k hk => ⟨u1.2.1 201 k (by omega), u1.2.2 2 k (by omega)⟩) g3.1.1 (g3.2.2.2 1 (by omega)), ?_, h4.of (u1.2.1 708 0 (by omega)) g3.1.2.2 (fun v _ => KX_UL u1 (by omega)) (fun v _ => KM_UM g3)⟩
    · rw [e1, cl_mk, cl_mk, l1.1]
    · rw [u1.2.1 709 0 (by omega), g3.1.2.1, h3]
  · rw [if_neg c, if_neg c]
    exact ⟨σ, τ, -3, rfl, rfl, hR⟩
