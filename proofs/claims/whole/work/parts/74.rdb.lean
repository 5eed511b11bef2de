/-! Reading: options with a number or a name. -/
section Rc
variable {σ τ σ' τ' : St} {v t : Nat} {d : Vd} {q q' : Nat → Nat → Nat} {tx : List Nat} {c : Nat} {ks ps ls : Nat → Nat}
/-- the word and the sign behind it -/
theorem opt_eq (hv : v < 8) (w : TKW tx c ks ps ls) (p : PI v tx c ks ps ls σ τ t d q) (cu : CU v c σ τ d q) (h9 : gi σ 409 0 = 4) (ht : t < c) {o : Nat} (ho : oOf tx ks ps ls t = some o) (h3 : 3 ≤ o) : OPT v tx c ks ps ls σ τ t d ∨ ∃ s2 t2, t + 1 < c ∧ Rn σ t = Rn s2 (t + 2) ∧ f_X9_option τ (nI (40 * v + (vn d - 1))) (nI (vn d - 1)) = mO17 t2 (nI (40 * v + (vn d - 1))) (nI (vn d - 1)) (nI o) (nI t) ∧ ZF v (40 * v + (vn d - 1)) σ s2 ∧ gi s2 409 0 = 6 ∧ gi s2 412 0 = nI o ∧ gi s2 413 0 = bI (decide (bt (vo d (vn d - 1)) o = 1)) ∧ gr s2 3 0 = gr σ 3 0 ∧ (∀ f i, f = 603 ∨ f = 410 ∨ f = 411 ∨ f = 414 → gi s2 f i = gi σ f i) ∧ (∀ i, i ≠ 12 → ga s2 8 i = ga σ 8 i) ∧ ga s2 8 12 = (if o = 4 ∧ bt (vo d (vn d - 1)) o ≠ 1 then upd (ga σ 8 12) (vn d - 1) (nI t) else ga σ 8 12) ∧ KXn s2 (ok5 d q (vn d - 1) o (ps t)) ∧ FXc s2 (40 * v + (vn d - 1)) (vk d (vn d - 1)) (vo d (vn d - 1) ||| 2 ^ o) (oZ d (vn d - 1)) (oH d (vn d - 1)) (vd d (vn d - 1)) (nP d (vn d - 1)) (nB d (vn d - 1)) (oC d (vn d - 1)) (oO d (vn d - 1)) ∧ ZFm v (40 * v + (vn d - 1)) τ t2 ∧ gi t2 834 0 = nI (t + 2) ∧ (∀ f i, ¬ (f = 834 ∨ f = 836 ∨ f = 837) → gi t2 f i = gi τ f i) ∧ (∀ i, i ≠ 5 → ga t2 1 i = ga τ 1 i) ∧ KMn t2 (ok5 d q (vn d - 1) o (ps t)) ∧ FMc t2 (40 * v + (vn d - 1)) (vk d (vn d - 1)) (vo d (vn d - 1) ||| 2 ^ o) (oZ d (vn d - 1)) (oH d (vn d - 1)) (nN d (vn d - 1)) (nB d (vn d - 1)) (oC d (vn d - 1)) (oO d (vn d - 1)) ∧ TKX s2 tx c ks ps ls ∧ TKM t2 tx c ks ps ls := by
  obtain ⟨px, pm, cw, hX, hT, h4, _⟩ := p
  obtain ⟨c0, c1, c2, tk, c3, c4, c5⟩ := cu
  have d40 := cw.1.1
  obtain ⟨s1, x1, x2, x3, x4, x5, x6, x7, x8, x9, x10, x11⟩ := x_opt1 hv w px cw hX ht (j := vn d - 1) (by omega) c2 ho
  obtain ⟨t1, y1, y2, y3, y4, y5, y6, y7⟩ := m_opt1 hv w pm cw hT h4 ht (j := vn d - 1) (by omega) ho
  have ho7 := (oOf_ok ho).1
  rw [mO93_eq, if_pos (show (3 : Int32) ≤ nI o from nI_le (a := 3) h3 (by omega))] at y1
  rw [if_pos h3] at x3
  have r1 : Rn σ t = Rn s1 (t + 1) := rn_ok hX w ht (by rw [xst_4 h9, x1])
  have X1 := (QX.zf (by omega) x2).tkx hv hX
  have T1 := (QM.zf (by omega) y2).tkm hT
  have o1 : gi t1 835 0 = 0 := by rw [y4 _ _ (by omega)]; exact pm.2.2.2.2.2.2.2.2.2
  by_cases c6 : ks (t + 1) = 61
  · right
    have ht1 : t + 1 < c := w.lt (by omega) (by omega)
    have wo : f_X9_want t1 61 = _ := m_want_ok (k := 61) T1 w (show t + 1 ≤ c by omega) o1 y3 c6
    rw [wo, cl_mk] at y1
    have sx : SX s1 (si s1 409 0 6) := SX.si (by omega) _ _
    have sm : SM t1 (si t1 834 0 (nI (t + 1 + 1))) := SM.si (by omega) _ _
    refine ⟨si s1 409 0 6, si t1 834 0 (nI (t + 1 + 1)), ht1, ?_, y1, x2.trans (ZF.sx sx), by simp only [gi_si, gi_sr, gi_sg, gi_sa, gr_si, rr_sr, gr_sg, gr_sa, ga_si, ga_sr, ga_sg, ga_sa, true_and, and_true, false_and, and_false, Nat.reduceEqDiff, ↓reduceIte], by simp only [gi_si, gi_sr, gi_sg, gi_sa, gr_si, rr_sr, gr_sg, gr_sa, ga_si, ga_sr, ga_sg, ga_sa, true_and, and_true, false_and, and_false, Nat.reduceEqDiff, ↓reduceIte]; exact x4, by simp only [gi_si, gi_sr, gi_sg, gi_sa, gr_si, rr_sr, gr_sg, gr_sa, ga_si, ga_sr, ga_sg, ga_sa, true_and, and_true, false_and, and_false, Nat.reduceEqDiff, ↓reduceIte]; exact x5, x6, fun f i hh => ?_, x8, x9, ?_, x11.sx sx, y2.trans (ZFm.sm sm), by simp only [gi_si, gi_sr, gi_sg, gi_sa, gr_si, rr_sr, gr_sg, gr_sa, ga_si, ga_sr, ga_sg, ga_sa, true_and, and_true, false_and, and_false, Nat.reduceEqDiff, ↓reduceIte], fun f i hh => ?_, y5, ?_, y7, (QX.sx (v := v) sx).tkx hv X1, (QM.sm (v := v) sm).tkm T1⟩
    · rw [r1]
      exact rn_ok X1 w ht1 (by rw [xst_5 x3]; exact x_exp_ok (k := 61) X1 w (by omega) c6 6)
    · simp only [gi_si, gi_sr, gi_sg, gi_sa, gr_si, rr_sr, gr_sg, gr_sa, ga_si, ga_sr, ga_sg, ga_sa, true_and, and_true, false_and, and_false, Nat.reduceEqDiff, ↓reduceIte]
      rw [if_neg (by omega), x7 f i hh]
    · unfold KXn
      simp only [gi_si, gi_sr, gi_sg, gi_sa, gr_si, rr_sr, gr_sg, gr_sa, ga_si, ga_sr, ga_sg, ga_sa, true_and, and_true, false_and, and_false, Nat.reduceEqDiff, ↓reduceIte]
      exact x10
    · simp only [gi_si, gi_sr, gi_sg, gi_sa, gr_si, rr_sr, gr_sg, gr_sa, ga_si, ga_sr, ga_sg, ga_sa, true_and, and_true, false_and, and_false, Nat.reduceEqDiff, ↓reduceIte]
      rw [if_neg (by omega), y4 f i hh]
    · unfold KMn
      simp only [gi_si, gi_sr, gi_sg, gi_sa, gr_si, rr_sr, gr_sg, gr_sa, ga_si, ga_sr, ga_sg, ga_sa, true_and, and_true, false_and, and_false, Nat.reduceEqDiff, ↓reduceIte]
      exact y6
  · left
    left
    obtain ⟨s17, f1, f2, f3⟩ := m_want_bad (v := v) (k := 61) T1 w (show t + 1 ≤ c by omega) o1 y3 c6 (by omega)
    have f1 : f_X9_want _ 61 = _ := f1
    refine ⟨2, ps (t + 1), s17, ?_, by rw [y1, f1, cl_mk, mO17_no f2], f2, (QM.zf (by omega) y2).trans f3⟩
    rw [r1]
    refine XF.pre ?_ (QX.zf (by omega) x2)
    refine rn_want hv X1 w (by omega) (Or.inl (n409 x3 (by decide))) (fun hlt => ⟨s1, ?_, QX.refl' v s1⟩)
    rw [xst_5 x3]
    exact x_exp_no (k := 61) X1 w (by omega) c6 (by omega) 6
theorem opt_null (hv : v < 8) (w : TKW tx c ks ps ls) (p : PI v tx c ks ps ls σ τ t d q) (cu : CU v c σ τ d q) (h9 : gi σ 409 0 = 4) (ht : t < c) (ho : oOf tx ks ps ls t = some 3) : OPT v tx c ks ps ls σ τ t d := by
  rcases opt_eq hv w p cu h9 ht ho (by omega) with h | ⟨s2, t2, ht1, r2, e2, x2, x3, x4, x5, x6, x7, x8, x9, x10, x11, y2, y3, y4, y5, y6, y7, X2, T2⟩
  · exact h
  have p' := p
  have cu' := cu
  obtain ⟨px, pm, cw, hX, hT, h4, _⟩ := p
  obtain ⟨c0, c1, c2, tk, c3, c4, c5⟩ := cu
  have d40 := cw.1.1
  have hc := w.cc
  have hg : 40 * v + (vn d - 1) < 320 := by omega
  have f1 := (cw.2.2.2.2.2.1 (vn d - 1) (by omega)).1
  rw [if_neg (by omega)] at x9
  have o2 : gi t2 835 0 = 0 := by rw [y4 _ _ (by omega)]; exact pm.2.2.2.2.2.2.2.2.2
  have e17 : mO17 t2 (nI (40 * v + (vn d - 1))) (nI (vn d - 1)) (nI 3) (nI t) = cl (f_X9_want t2 2) fun s36 _ => if gi s36 835 0 = 0 then cl (f_X9_number s36 (nI (t + 2))) fun s37 x38 => ck (nI (40 * v + (vn d - 1))) 320 fun j39 => bnd (sa s37 1 6 j39 x38) fun s40 => ck (nI (40 * v + (vn d - 1))) 320 fun j41 => if ga s40 1 4 j41 = 4 then ck (nI (40 * v + (vn d - 1))) 320 fun j42 => if ga s40 1 6 j42 ≤ 1 then some (s40, ()) else ck (nI (t + 2)) 2001 fun j43 => cl (f_X9_note s40 5 (ga s40 1 15 j43)) fun s44 _ => some (s44, ()) else some (s40, ()) else some (s36, ()) := by
    unfold mO17
    rw [if_pos (show nI 3 = (3 : Int32) from rfl), y3]
  rw [e17] at e2
  have st : ∀ {x : Int32}, f_X5_step s2 x = f_X5_stepValue s2 x := xst_6 x3 _
  have sv : f_X5_stepValue s2 (nI (t + 2)) = f_X5_stepValue_21 s2 (nI (ks (t + 2))) 2 (nI (t + 2)) := by
    unfold f_X5_stepValue
    rw [x_kind X2 w (by omega), cl_mk, x4, if_pos (show nI 3 = (3 : Int32) from rfl)]
  have hkk := w.kk (t := t + 2) (by omega)
  by_cases cn : ks (t + 2) = 2
  rotate_left
  · left
    obtain ⟨s17, f1, f2, f3⟩ := m_want_bad (v := v) (k := 2) T2 w (show t + 2 ≤ c by omega) o2 y3 cn (by omega)
    have f1 : f_X9_want _ 2 = _ := f1
    refine ⟨2, ps (t + 2), s17, ?_, by rw [e2, f1, cl_mk, if_neg f2.no], f2, (QM.zf (by omega) y2).trans f3⟩
    rw [r2]
    refine XF.pre ?_ (QX.zf (by omega) x2)
    refine rn_want hv X2 w (by omega) (Or.inl (n409 x3 (by decide))) (fun hlt => ⟨s2, ?_, QX.refl' v s2⟩)
    rw [st, sv]
    unfold f_X5_stepValue_21
    rw [if_neg (show ¬ nI (ks (t + 2)) = (2 : Int32) from fun e => cn ((ln_eq (b := 2) (by omega) (by omega)).mp e))]
  have ht2 : t + 2 < c := w.lt (by omega) (by omega)
  have wo : f_X9_want t2 2 = _ := m_want_ok (k := 2) T2 w (show t + 2 ≤ c by omega) o2 y3 cn
  have nl := num_lt w ht2 cn
  have hps := w.pp (t := t + 2) (by omega)
  have hx := w.2.2.2.2
  obtain ⟨n, hn⟩ : ∃ n, n = nvl (wrd tx (ps (t + 2)) (ls (t + 2))) := ⟨_, rfl⟩
  rw [← hn] at nl
  -- the class
  have sx7 : SX s2 (si s2 409 0 7) := SX.si (by omega) _ _
  have X7 := (QX.sx (v := v) sx7).tkx hv X2
  have f7 := x11.sx sx7
  have u7 : UF (40 * v + (vn d - 1)) (si s2 409 0 7) (si (si s2 409 0 7) 104 (40 * v + (vn d - 1)) (nI n)) := UF.si (by omega) rfl _
  have z7 : ZF v (40 * v + (vn d - 1)) s2 (si (si s2 409 0 7) 104 (40 * v + (vn d - 1)) (nI n)) := (ZF.sx sx7).trans (ZF.uf u7)
  have X8 := (QX.zf (by omega) z7).tkx hv X2
  have f8 : FXc (si (si s2 409 0 7) 104 (40 * v + (vn d - 1)) (nI n)) (40 * v + (vn d - 1)) (vk d (vn d - 1)) (vo d (vn d - 1) ||| 2 ^ 3) (some n) (oH d (vn d - 1)) (vd d (vn d - 1)) (nP d (vn d - 1)) (nB d (vn d - 1)) (oC d (vn d - 1)) (oO d (vn d - 1)) := by
    obtain ⟨⟨b1, b2, b3, b4, b5, b6, b7⟩, b8, b9⟩ := f7
    refine ⟨⟨?_, ?_, ?_, ?_, ?_, LX_of b6 ?_ rfl, LX_of b7 ?_ rfl⟩, ?_, ?_⟩
    all_goals simp only [gi_si, gi_sr, gi_sg, gi_sa, gr_si, rr_sr, gr_sg, gr_sa, ga_si, ga_sr, ga_sg, ga_sa, true_and, and_true, false_and, and_false, Nat.reduceEqDiff, ↓reduceIte]
    · exact b1
    · exact b2
    · rfl
    · exact b4
    · exact b5
    · exact b8
    · exact b9
  have k8 : KXn (si (si s2 409 0 7) 104 (40 * v + (vn d - 1)) (nI n)) (ok5 d q (vn d - 1) 3 (ps t)) := by
    unfold KXn
    simp only [gi_si, gi_sr, gi_sg, gi_sa, gr_si, rr_sr, gr_sg, gr_sa, ga_si, ga_sr, ga_sg, ga_sa, true_and, and_true, false_and, and_false, Nat.reduceEqDiff, ↓reduceIte]
    exact x10
  have sval : f_X5_stepValue s2 (nI (t + 2)) = if vk d (vn d - 1) = 4 ∧ 1 < n then (cl (cl (f_X5_blame (si (si s2 409 0 7) 104 (40 * v + (vn d - 1)) (nI n)) 5 (nI (ps (t + 2)))) fun s6 _ => some (s6, ())) fun s6 _ => some (s6, 0)) else some (si (si s2 409 0 7) 104 (40 * v + (vn d - 1)) (nI n), 0) := by
    rw [sv, cn]
    unfold f_X5_stepValue_21
    rw [if_pos (show nI 2 = (2 : Int32) from rfl)]
    simp only [bnd]
    rw [show gi (si s2 409 0 7) 412 0 = nI 3 by simp only [gi_si, gi_sr, gi_sg, gi_sa, gr_si, rr_sr, gr_sg, gr_sa, ga_si, ga_sr, ga_sg, ga_sa, true_and, and_true, false_and, and_false, Nat.reduceEqDiff, ↓reduceIte]; exact x4, if_pos (show nI 3 = (3 : Int32) from rfl)]
    unfold f_X5_takeNull
    rw [x_num X7 w ht2 cn, cl_mk, ← hn, show gr (si s2 409 0 7) 3 0 = 40 * v + (vn d - 1) by simp only [gi_si, gi_sr, gi_sg, gi_sa, gr_si, rr_sr, gr_sg, gr_sa, ga_si, ga_sr, ga_sg, ga_sa, true_and, and_true, false_and, and_false, Nat.reduceEqDiff, ↓reduceIte]; rw [x6, c2]]
    simp only [bnd]
    rw [show gr (si (si s2 409 0 7) 104 (40 * v + (vn d - 1)) (nI n)) 3 0 = 40 * v + (vn d - 1) by simp only [gi_si, gi_sr, gi_sg, gi_sa, gr_si, rr_sr, gr_sg, gr_sa, ga_si, ga_sr, ga_sg, ga_sa, true_and, and_true, false_and, and_false, Nat.reduceEqDiff, ↓reduceIte]; rw [x6, c2], f8.1.1, show gi (si (si s2 409 0 7) 104 (40 * v + (vn d - 1)) (nI n)) 104 (40 * v + (vn d - 1)) = nI n by simp only [gi_si, gi_sr, gi_sg, gi_sa, gr_si, rr_sr, gr_sg, gr_sa, ga_si, ga_sr, ga_sg, ga_sa, true_and, and_true, false_and, and_false, Nat.reduceEqDiff, ↓reduceIte]]
    by_cases ck : vk d (vn d - 1) = 4
    · rw [if_pos (show nI (vk d (vn d - 1)) = (4 : Int32) by rw [ck]; rfl)]
      by_cases c1 : 1 < n
      · rw [if_neg (show ¬ nI n ≤ (1 : Int32) from nI_ge (a := 1) c1 (by omega)), if_pos ⟨ck, c1⟩, x_place X8 w (by omega), cl_mk]
      · rw [if_pos (show nI n ≤ (1 : Int32) from nI_le (b := 1) (by omega) (by omega)), if_neg (fun h => c1 h.2), cl_mk]
    · rw [if_neg (show ¬ nI (vk d (vn d - 1)) = (4 : Int32) from fun e => ck ((ln_eq (b := 4) (by omega) (by omega)).mp e)), if_neg (fun h => ck h.1), cl_mk]
  -- the reference
  have sm3 : SM t2 (si t2 834 0 (nI (t + 2 + 1))) := SM.si (by omega) _ _
  have T3 := (QM.sm (v := v) sm3).tkm T2
  have u9 : UG (40 * v + (vn d - 1)) (si t2 834 0 (nI (t + 2 + 1))) (sa (si t2 834 0 (nI (t + 2 + 1))) 1 6 (40 * v + (vn d - 1)) (nI n)) := UG.s1 (by omega) rfl _ _
  have z9 : ZFm v (40 * v + (vn d - 1)) t2 (sa (si t2 834 0 (nI (t + 2 + 1))) 1 6 (40 * v + (vn d - 1)) (nI n)) := (ZFm.sm sm3).trans (ZFm.ug u9)
  have T9 := (QM.zf (by omega) z9).tkm T2
  have ga' : ∀ r x, r ≠ 6 → ga (sa (si t2 834 0 (nI (t + 2 + 1))) 1 6 (40 * v + (vn d - 1)) (nI n)) 1 r x = ga t2 1 r x := by
    intro r x hr
    rw [a1_oth (Or.inl hr)]
    rfl
  have f9 : FMc (sa (si t2 834 0 (nI (t + 2 + 1))) 1 6 (40 * v + (vn d - 1)) (nI n)) (40 * v + (vn d - 1)) (vk d (vn d - 1)) (vo d (vn d - 1) ||| 2 ^ 3) (some n) (oH d (vn d - 1)) (nN d (vn d - 1)) (nB d (vn d - 1)) (oC d (vn d - 1)) (oO d (vn d - 1)) := by
    obtain ⟨⟨b1, b2, b3, b4, b5, b6, b7, b8⟩, b9, b10⟩ := y7
    refine ⟨⟨?_, ?_, a1_get, ?_, ?_, Bs_of b6 (fun i hi => by simp only [gi_si, gi_sr, gi_sg, gi_sa, gr_si, rr_sr, gr_sg, gr_sa, ga_si, ga_sr, ga_sg, ga_sa, true_and, and_true, false_and, and_false, Nat.reduceEqDiff, ↓reduceIte]), ?_, Bs_of b8 (fun i hi => by simp only [gi_si, gi_sr, gi_sg, gi_sa, gr_si, rr_sr, gr_sg, gr_sa, ga_si, ga_sr, ga_sg, ga_sa, true_and, and_true, false_and, and_false, Nat.reduceEqDiff, ↓reduceIte])⟩, ?_, ?_⟩
    · rw [ga' _ _ (by omega), b1]
    · rw [ga' _ _ (by omega), b2]
    · rw [ga' _ _ (by omega), b4]
    · rw [ga' _ _ (by omega), b5]
    · rw [ga' _ _ (by omega), b7]
    · rw [ga' _ _ (by omega), b9]
    · rw [ga' _ _ (by omega), b10]
  have k9 : KMn (sa (si t2 834 0 (nI (t + 2 + 1))) 1 6 (40 * v + (vn d - 1)) (nI n)) (ok5 d q (vn d - 1) 3 (ps t)) := by
    unfold KMn
    simp only [gi_si, gi_sr, gi_sg, gi_sa, gr_si, rr_sr, gr_sg, gr_sa, ga_si, ga_sr, ga_sg, ga_sa, true_and, and_true, false_and, and_false, Nat.reduceEqDiff, ↓reduceIte]
    exact y6
  have mval : f_X9_option τ (nI (40 * v + (vn d - 1))) (nI (vn d - 1)) = if vk d (vn d - 1) = 4 ∧ 1 < n then (cl (f_X9_note (sa (si t2 834 0 (nI (t + 2 + 1))) 1 6 (40 * v + (vn d - 1)) (nI n)) 5 (nI (ps (t + 2)))) fun s44 _ => some (s44, ())) else some (sa (si t2 834 0 (nI (t + 2 + 1))) 1 6 (40 * v + (vn d - 1)) (nI n), ()) := by
    rw [e2, wo, cl_mk, if_pos (show gi (si t2 834 0 (nI (t + 2 + 1))) 835 0 = 0 from o2), m_num T3 w ht2 cn, cl_mk, ← hn, ck_nI hg (by omega)]
    simp only [bnd]
    rw [ck_nI hg (by omega), f9.1.1]
    by_cases ck : vk d (vn d - 1) = 4
    · rw [if_pos (show nI (vk d (vn d - 1)) = (4 : Int32) by rw [ck]; rfl), ck_nI hg (by omega), a1_get]
      by_cases c1 : 1 < n
      · rw [if_neg (show ¬ nI n ≤ (1 : Int32) from nI_ge (a := 1) c1 (by omega)), if_pos ⟨ck, c1⟩, ck_nI (by omega) (by omega), (T9.2.2 (t + 2) (by omega)).2.1]
      · rw [if_pos (show nI n ≤ (1 : Int32) from nI_le (b := 1) (by omega) (by omega)), if_neg (fun h => c1 h.2)]
    · rw [if_neg (show ¬ nI (vk d (vn d - 1)) = (4 : Int32) from fun e => ck ((ln_eq (b := 4) (by omega) (by omega)).mp e)), if_neg (fun h => ck h.1)]
  have gg : ∀ f i, f = 603 ∨ f = 410 ∨ f = 411 ∨ f = 414 → gi (si (si s2 409 0 7) 104 (40 * v + (vn d - 1)) (nI n)) f i = gi σ f i := by
    intro f i hh
    simp only [gi_si, gi_sr, gi_sg, gi_sa, gr_si, rr_sr, gr_sg, gr_sa, ga_si, ga_sr, ga_sg, ga_sa, true_and, and_true, false_and, and_false, Nat.reduceEqDiff, ↓reduceIte]
    rw [if_neg (by omega), if_neg (by omega), x7 f i hh]
  have gm : ∀ f i, ¬ (f = 834 ∨ f = 836 ∨ f = 837) → gi (sa (si t2 834 0 (nI (t + 2 + 1))) 1 6 (40 * v + (vn d - 1)) (nI n)) f i = gi τ f i := by
    intro f i hh
    simp only [gi_si, gi_sr, gi_sg, gi_sa, gr_si, rr_sr, gr_sg, gr_sa, ga_si, ga_sr, ga_sg, ga_sa, true_and, and_true, false_and, and_false, Nat.reduceEqDiff, ↓reduceIte]
    rw [if_neg (by omega), y4 f i hh]
  have g8 : ∀ i, ga s2 8 i = ga σ 8 i := by
    intro i
    by_cases e : i = 12
    · rw [e, x9]
    · exact x8 i e
  have am : ∀ i, i = 0 ∨ 17 ≤ i → ga (sa (si t2 834 0 (nI (t + 2 + 1))) 1 6 (40 * v + (vn d - 1)) (nI n)) 1 i = ga τ 1 i := by
    intro i hi
    funext x
    rw [ga' _ _ (by omega), y5 i (by omega)]
  by_cases cb : vk d (vn d - 1) = 4 ∧ 1 < n
  · rw [if_pos cb] at sval mval
    obtain ⟨s6, b1, b2, b3, b4, b5⟩ := x_blame (e := 5) (p := ps (t + 2)) k8 (ok5_kz cw.2.2.2.2.2.2.2.1) (by omega) (by omega) (by omega)
    have b1 : f_X5_blame _ 5 (nI (ps (t + 2))) = _ := b1
    obtain ⟨s44, n1, n2, n3, n4⟩ := m_note (e := 5) (p := ps (t + 2)) k9 (ok5_kz cw.2.2.2.2.2.2.2.1) (by omega) (by omega) (by omega)
    have n1 : f_X9_note _ 5 (nI (ps (t + 2))) = _ := n1
    rw [b1, cl_mk, cl_mk] at sval
    rw [n1, cl_mk] at mval
    have sxb := SX.bl b3 b4 b5
    have smb := SM.nt n3 n4
    exact opt_fin hv w p' cu' (by omega) (by omega) (show t < t + 3 by omega) (by omega) (x2.trans (z7.trans (ZF.sx sxb))) (y2.trans (z9.trans (ZFm.sm smb))) (by rw [b4 _ _ (by omega)]; simp only [gi_si, gi_sr, gi_sg, gi_sa, gr_si, rr_sr, gr_sg, gr_sa, ga_si, ga_sr, ga_sg, ga_sa, true_and, and_true, false_and, and_false, Nat.reduceEqDiff, ↓reduceIte]) (by show s6.2.1 3 0 = _; rw [b3]; exact x6) (fun f i hh => by rw [b4 _ _ (by omega), gg f i hh]) (fun i _ _ => by rw [b5]; exact g8 i) b2 (f8.sx sxb) (by rw [n3 _ _ (by omega)]; simp only [gi_si, gi_sr, gi_sg, gi_sa, gr_si, rr_sr, gr_sg, gr_sa, ga_si, ga_sr, ga_sg, ga_sa, true_and, and_true, false_and, and_false, Nat.reduceEqDiff, ↓reduceIte]) (fun f i hh => by rw [n3 _ _ (by omega), gm _ _ (by omega)]) (fun i hh => by rw [n4, am i hh]) n2 (f9.of' (fun i _ _ => by rw [n4]) (fun i x _ _ _ => by rw [n4]) (cw.lw.1 _ (by omega)).1 (cw.lw.1 _ (by omega)).2) (Or.inl ⟨rfl, n, rfl, nl⟩) (Or.inr ⟨by omega, rfl⟩) (by omega) (kz_min (ok5_kz cw.2.2.2.2.2.2.2.1) (by omega) (by omega)) (by rw [r2]; exact rn_ok X2 w ht2 (by rw [st, sval])) mval
  · rw [if_neg cb] at sval mval
    exact opt_fin hv w p' cu' (by omega) (by omega) (show t < t + 3 by omega) (by omega) (x2.trans z7) (y2.trans z9) (by simp only [gi_si, gi_sr, gi_sg, gi_sa, gr_si, rr_sr, gr_sg, gr_sa, ga_si, ga_sr, ga_sg, ga_sa, true_and, and_true, false_and, and_false, Nat.reduceEqDiff, ↓reduceIte]) x6 gg (fun i _ _ => g8 i) k8 f8 (by simp only [gi_si, gi_sr, gi_sg, gi_sa, gr_si, rr_sr, gr_sg, gr_sa, ga_si, ga_sr, ga_sg, ga_sa, true_and, and_true, false_and, and_false, Nat.reduceEqDiff, ↓reduceIte]) (fun f i hh => gm f i (by omega)) am k9 f9 (Or.inl ⟨rfl, n, rfl, nl⟩) (Or.inr ⟨by omega, rfl⟩) (by omega) (ok5_kz cw.2.2.2.2.2.2.2.1) (by rw [r2]; exact rn_ok X2 w ht2 (by rw [st, sval])) mval
theorem opt_by (hv : v < 8) (w : TKW tx c ks ps ls) (p : PI v tx c ks ps ls σ τ t d q) (cu : CU v c σ τ d q) (h9 : gi σ 409 0 = 4) (ht : t < c) (ho : oOf tx ks ps ls t = some 5) : OPT v tx c ks ps ls σ τ t d := by
  rcases opt_eq hv w p cu h9 ht ho (by omega) with h | ⟨s2, t2, ht1, r2, e2, x2, x3, x4, x5, x6, x7, x8, x9, x10, x11, y2, y3, y4, y5, y6, y7, X2, T2⟩
  · exact h
  have p' := p
  have cu' := cu
  obtain ⟨px, pm, cw, hX, hT, h4, _⟩ := p
  obtain ⟨c0, c1, c2, tk, c3, c4, c5⟩ := cu
  have d40 := cw.1.1
  have hc := w.cc
  have hg : 40 * v + (vn d - 1) < 320 := by omega
  rw [if_neg (by omega)] at x9
  have o2 : gi t2 835 0 = 0 := by rw [y4 _ _ (by omega)]; exact pm.2.2.2.2.2.2.2.2.2
  have e17 : mO17 t2 (nI (40 * v + (vn d - 1))) (nI (vn d - 1)) (nI 5) (nI t) = cl (f_X9_want t2 1) fun s31 _ => if (gi s31 835 0) = 0 then (ck (nI (t + 2)) 2001 fun j32 => ck (nI (40 * v + (vn d - 1))) 320 fun j33 => bnd (sa s31 1 9 j33 (ga s31 1 16 j32)) fun s34 => cl (f_X9_copyName s34 (nI (t + 2)) 4 (12 * nI (40 * v + (vn d - 1)))) fun s35 _ => some (s35, ())) else some (s31, ()) := by
    unfold mO17
    rw [if_neg (show ¬ nI 5 = (3 : Int32) by decide), if_pos (show nI 5 = (5 : Int32) from rfl), y3]
  rw [e17] at e2
  have st : ∀ {x : Int32}, f_X5_step s2 x = f_X5_stepValue s2 x := xst_6 x3 _
  have sv : f_X5_stepValue s2 (nI (t + 2)) = f_X5_stepValue_21 s2 (nI (ks (t + 2))) 1 (nI (t + 2)) := by
    unfold f_X5_stepValue
    rw [x_kind X2 w (by omega), cl_mk, x4, if_neg (show ¬ nI 5 = (3 : Int32) by decide)]
  have hkk := w.kk (t := t + 2) (by omega)
  by_cases cn : ks (t + 2) = 1
  rotate_left
  · left
    obtain ⟨s17, f1, f2, f3⟩ := m_want_bad (v := v) (k := 1) T2 w (show t + 2 ≤ c by omega) o2 y3 cn (by omega)
    have f1 : f_X9_want _ 1 = _ := f1
    refine ⟨2, ps (t + 2), s17, ?_, by rw [e2, f1, cl_mk, if_neg f2.no], f2, (QM.zf (by omega) y2).trans f3⟩
    rw [r2]
    refine XF.pre ?_ (QX.zf (by omega) x2)
    refine rn_want hv X2 w (by omega) (Or.inl (n409 x3 (by decide))) (fun hlt => ⟨s2, ?_, QX.refl' v s2⟩)
    rw [st, sv]
    unfold f_X5_stepValue_21
    rw [if_neg (show ¬ nI (ks (t + 2)) = (1 : Int32) from fun e => cn ((ln_eq (b := 1) (by omega) (by omega)).mp e))]
  have ht2 : t + 2 < c := w.lt (by omega) (by omega)
  have wo : f_X9_want t2 1 = _ := m_want_ok (k := 1) T2 w (show t + 2 ≤ c by omega) o2 y3 cn
  have hnm := w.nm (t := t + 2) (by omega) cn
  have hl := w.len (t := t + 2) (by omega)
  have h12 := hnm.2.1
  -- the class
  have sx7 : SX s2 (si s2 409 0 7) := SX.si (by omega) _ _
  have X7 := (QX.sx (v := v) sx7).tkx hv X2
  have f7 := x11.sx sx7
  obtain ⟨s4, e4, u4, w4⟩ := ow_clear (6 + 2 * (40 * v + (vn d - 1))) (si s2 409 0 7)
  have z4 : ZF v (40 * v + (vn d - 1)) (si s2 409 0 7) s4 := ZF.uf (UF.ul (Or.inr rfl) u4)
  have X4 := (QX.zf (by omega) z4).tkx hv X7
  obtain ⟨s5, e5, u5, w5⟩ := ow_tok w4 X4 w ht2
  rw [List.nil_append] at w5
  have l5 := w5.lx (by rw [cap6]; exact h12)
  have u45 := u4.trans u5
  have z5 : ZF v (40 * v + (vn d - 1)) s2 s5 := (ZF.sx sx7).trans (ZF.uf (UF.ul (Or.inr rfl) u45))
  have g3 : gr s2 3 0 = 40 * v + (vn d - 1) := by rw [x6, c2]
  have sval : f_X5_stepValue s2 (nI (t + 2)) = some (s5, 0) := by
    rw [sv, cn]
    unfold f_X5_stepValue_21
    rw [if_pos (show nI 1 = (1 : Int32) from rfl)]
    simp only [bnd]
    rw [show gi (si s2 409 0 7) 412 0 = nI 5 by simp only [gi_si, gi_sr, gi_sg, gi_sa, gr_si, rr_sr, gr_sg, gr_sa, ga_si, ga_sr, ga_sg, ga_sa, true_and, and_true, false_and, and_false, Nat.reduceEqDiff, ↓reduceIte]; exact x4, if_neg (show ¬ nI 5 = (3 : Int32) by decide), if_pos (show nI 5 = (5 : Int32) from rfl), show gr (si s2 409 0 7) 3 0 = 40 * v + (vn d - 1) from g3, e4, cl_mk, u4.gr, show gr (si s2 409 0 7) 3 0 = 40 * v + (vn d - 1) from g3, e5, cl_mk]
  have f5 : FXc s5 (40 * v + (vn d - 1)) (vk d (vn d - 1)) (vo d (vn d - 1) ||| 2 ^ 5) (oZ d (vn d - 1)) (oH d (vn d - 1)) (vd d (vn d - 1)) (nP d (vn d - 1)) (wrd tx (ps (t + 2)) (ls (t + 2))) (oC d (vn d - 1)) (oO d (vn d - 1)) := by
    obtain ⟨⟨b1, b2, b3, b4, b5, b6, b7⟩, b8, b9⟩ := f7
    refine ⟨⟨?_, ?_, ?_, ?_, ?_, u45.lx (by omega) b6, l5⟩, ?_, ?_⟩
    · rw [u45.2.1 _ _ (by omega), b1]
    · rw [u45.2.1 _ _ (by omega), b2]
    · rw [u45.2.1 _ _ (by omega), b3]
    · rw [u45.2.1 _ _ (by omega), b4]
    · rw [u45.2.1 _ _ (by omega), b5]
    · rw [u45.2.1 _ _ (by omega), b8]
    · rw [u45.2.1 _ _ (by omega), b9]
  have k5 : KXn s5 (ok5 d q (vn d - 1) 5 (ps t)) := by
    unfold KXn
    rw [u45.2.1 _ _ (by omega), u45.2.1 _ _ (by omega)]
    simp only [gi_si, gi_sr, gi_sg, gi_sa, gr_si, rr_sr, gr_sg, gr_sa, ga_si, ga_sr, ga_sg, ga_sa, true_and, and_true, false_and, and_false, Nat.reduceEqDiff, ↓reduceIte]
    exact x10
  -- the reference
  have sm3 : SM t2 (si t2 834 0 (nI (t + 2 + 1))) := SM.si (by omega) _ _
  have T3 := (QM.sm (v := v) sm3).tkm T2
  have u9 : UG (40 * v + (vn d - 1)) (si t2 834 0 (nI (t + 2 + 1))) (sa (si t2 834 0 (nI (t + 2 + 1))) 1 9 (40 * v + (vn d - 1)) (nI (ls (t + 2)))) := UG.s1 (by omega) rfl _ _
  have T4 := (QM.zf (by omega) (ZFm.ug (v := v) u9)).tkm T3
  obtain ⟨s35, e35, u35, b35⟩ := m_name w T4 (arr := 4) (o := 12 * (40 * v + (vn d - 1))) (t := t + 2) (by omega) (by omega) (by omega) (show _ ≤ 3840 by omega) (by decide)
  have z9 : ZFm v (40 * v + (vn d - 1)) t2 s35 := (ZFm.sm sm3).trans (ZFm.ug (u9.trans (UG.ub (Or.inr rfl) u35)))
  have ga' : ∀ r x, r ≠ 9 → ga s35 1 r x = ga t2 1 r x := by
    intro r x hr
    rw [u35.2 1 r x (by omega), a1_oth (Or.inl hr)]
    rfl
  have f9 : FMc s35 (40 * v + (vn d - 1)) (vk d (vn d - 1)) (vo d (vn d - 1) ||| 2 ^ 5) (oZ d (vn d - 1)) (oH d (vn d - 1)) (nN d (vn d - 1)) (wrd tx (ps (t + 2)) (ls (t + 2))) (oC d (vn d - 1)) (oO d (vn d - 1)) := by
    obtain ⟨⟨b1, b2, b3, b4, b5, b6, b7, b8⟩, b9, b10⟩ := y7
    refine ⟨⟨?_, ?_, ?_, ?_, ?_, Bs_of b6 (fun i hi => ?_), ?_, b35⟩, ?_, ?_⟩
    · rw [ga' _ _ (by omega), b1]
    · rw [ga' _ _ (by omega), b2]
    · rw [ga' _ _ (by omega), b3]
    · rw [ga' _ _ (by omega), b4]
    · rw [ga' _ _ (by omega), b5]
    · rw [u35.2 2 3 _ (by omega)]
      simp only [gi_si, gi_sr, gi_sg, gi_sa, gr_si, rr_sr, gr_sg, gr_sa, ga_si, ga_sr, ga_sg, ga_sa, true_and, and_true, false_and, and_false, Nat.reduceEqDiff, ↓reduceIte]
    · rw [u35.2 1 9 _ (by omega), a1_get, hl]
    · rw [ga' _ _ (by omega), b9]
    · rw [ga' _ _ (by omega), b10]
  have gm : ∀ f i, ¬ (f = 834 ∨ f = 836 ∨ f = 837) → gi s35 f i = gi τ f i := by
    intro f i hh
    rw [u35.1]
    simp only [gi_si, gi_sr, gi_sg, gi_sa, gr_si, rr_sr, gr_sg, gr_sa, ga_si, ga_sr, ga_sg, ga_sa, true_and, and_true, false_and, and_false, Nat.reduceEqDiff, ↓reduceIte]
    rw [if_neg (by omega), y4 f i hh]
  have mval : f_X9_option τ (nI (40 * v + (vn d - 1))) (nI (vn d - 1)) = some (s35, ()) := by
    rw [e2, wo, cl_mk, if_pos (show gi (si t2 834 0 (nI (t + 2 + 1))) 835 0 = 0 from o2), ck_nI (by omega) (by omega), ck_nI hg (by omega), (T3.2.2 (t + 2) (by omega)).2.2]
    simp only [bnd]
    rw [ln_12, e35, cl_mk]
  have g8 : ∀ i, ga s2 8 i = ga σ 8 i := by
    intro i
    by_cases e : i = 12
    · rw [e, x9]
    · exact x8 i e
  exact opt_fin hv w p' cu' (by omega) (by omega) (show t < t + 3 by omega) (by omega) (x2.trans z5) (y2.trans z9) (by rw [u45.2.1 _ _ (by omega)]; simp only [gi_si, gi_sr, gi_sg, gi_sa, gr_si, rr_sr, gr_sg, gr_sa, ga_si, ga_sr, ga_sg, ga_sa, true_and, and_true, false_and, and_false, Nat.reduceEqDiff, ↓reduceIte]) (by rw [u45.gr]; exact x6) (fun f i hh => by rw [u45.2.1 _ _ (by omega)]; simp only [gi_si, gi_sr, gi_sg, gi_sa, gr_si, rr_sr, gr_sg, gr_sa, ga_si, ga_sr, ga_sg, ga_sa, true_and, and_true, false_and, and_false, Nat.reduceEqDiff, ↓reduceIte]; rw [if_neg (by omega), x7 f i hh]) (fun i _ _ => by rw [u45.2.2 _ _ (by omega)]; exact g8 i) k5 f5 (by rw [u35.1]; simp only [gi_si, gi_sr, gi_sg, gi_sa, gr_si, rr_sr, gr_sg, gr_sa, ga_si, ga_sr, ga_sg, ga_sa, true_and, and_true, false_and, and_false, Nat.reduceEqDiff, ↓reduceIte]) (fun f i hh => gm f i (by omega)) (fun i hh => by funext x; rw [ga' _ _ (by omega), y5 i (by omega)]) (by unfold KMn; rw [u35.1, u35.1]; simp only [gi_si, gi_sr, gi_sg, gi_sa, gr_si, rr_sr, gr_sg, gr_sa, ga_si, ga_sr, ga_sg, ga_sa, true_and, and_true, false_and, and_false, Nat.reduceEqDiff, ↓reduceIte]; exact y6) f9 (Or.inr ⟨by omega, rfl⟩) (Or.inl ⟨rfl, hnm⟩) (Nat.le_refl _) (ok5_kz cw.2.2.2.2.2.2.2.1) (by rw [r2]; exact rn_ok X2 w ht2 (by rw [st, sval])) mval
end Rc
