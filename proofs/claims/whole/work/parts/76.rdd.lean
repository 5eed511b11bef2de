/-! Reading: options with a path, the end. -/
section Rq
variable {σ τ σ' τ' : St} {v t : Nat} {d : Vd} {q q' : Nat → Nat → Nat} {tx : List Nat} {c : Nat} {ks ps ls : Nat → Nat}
theorem x_nt (hv : v < 8) {s : St} {j a x : Nat} {b : Int32} {ag : Bool} (h2 : gr s 2 0 = v) (h3 : gi s 603 v = nI (j + 1)) (hj : j < 40) (ha : a = 13 ∨ a = 14) (h13 : gi s 413 0 = bI ag) (hb : b = 0 ∨ b = 1) : f_X5_noteToken s b a (nI x) = some ((if b = 1 ∧ ag = false then sa s 8 a j (nI x) else s), ()) := by
  have hl : lenX a = 40 := by rcases ha with rfl | rfl <;> rfl
  unfold f_X5_noteToken
  rcases hb with rfl | rfl
  · rw [if_pos rfl, if_neg (fun h => absurd h.1 (by decide))]
  · rw [if_neg i10, h13, h2, h3, ln_pred (by omega), Nat.add_sub_cancel, hl]
    cases ag with
    | true => rw [if_neg (show ¬ bI true = 0 from i10), if_neg (fun h => by cases h.2)]
    | false =>
      rw [if_pos (show bI false = 0 from rfl), if_neg (nI_pos (by omega)), if_neg (nI_ge (by omega) (by omega)), ck_nI (by omega) (by omega), if_pos ⟨rfl, rfl⟩]
      rfl
theorem opt_path (hv : v < 8) (w : TKW tx c ks ps ls) (p : PI v tx c ks ps ls σ τ t d q) (cu : CU v c σ τ d q) (h9 : gi σ 409 0 = 4) (ht : t < c) (h4t : 4 * q 7 2 + 1 ≤ t) {o : Nat} (ho : oOf tx ks ps ls t = some o) (ho46 : o = 4 ∨ o = 6) : OPT v tx c ks ps ls σ τ t d := by
  rcases opt_eq hv w p cu h9 ht ho (by omega) with h | ⟨s2, t2, ht1, r2, e2, x2, x3, x4, x5, x6, x7, x8, x9, x10, x11, y2, y3, y4, y5, y6, y7, X2, T2⟩
  · exact h
  obtain ⟨px, pm, cw, hX, hT, h4, _⟩ := p
  obtain ⟨c0, c1, c2, tk, c3, c4, c5⟩ := cu
  have ho7 := (oOf_ok ho).1
  have d40 := cw.1.1
  have hc := w.cc
  have hg : 40 * v + (vn d - 1) < 320 := by omega
  have hj : vn d - 1 < vn d := by omega
  have o2 : gi t2 835 0 = 0 := by rw [y4 _ _ (by omega)]; exact pm.2.2.2.2.2.2.2.2.2
  have n3 : ¬ nI o = (3 : Int32) := fun e => by have := (ln_eq (b := 3) (by omega) (by omega)).mp e; omega
  have n5 : ¬ nI o = (5 : Int32) := fun e => by have := (ln_eq (b := 5) (by omega) (by omega)).mp e; omega
  have e17 : mO17 t2 (nI (40 * v + (vn d - 1))) (nI (vn d - 1)) (nI o) (nI t) = cl (f_X9_wantPath t2) fun s18 x19 => if (gi s18 835 0) = 0 then (ck (gi s18 838 0) 700 fun j20 => bnd (sa s18 1 17 j20 (nI (vn d - 1))) fun s21 => ck (gi s21 838 0) 700 fun j22 => bnd (sa s21 1 18 j22 (nI o)) fun s23 => ck (gi s23 838 0) 700 fun j24 => bnd (sa s23 1 19 j24 (nI (t + 2))) fun s25 => ck (gi s25 838 0) 700 fun j26 => bnd (sa s25 1 20 j26 x19) fun s27 => ck (gi s27 838 0) 700 fun j28 => bnd (sa s27 1 21 j28 (nI t)) fun s29 => bnd (si s29 838 0 ((gi s29 838 0) + 1)) fun s30 => some (s30, ())) else some (s18, ()) := by
    unfold mO17
    rw [if_neg n3, if_neg n5, y3]
  rw [e17] at e2
  have wp : f_X9_wantPath t2 = cl (f_X9_want t2 1) fun s1 _ => if (gi s1 835 0) = 0 then (ck (gi s1 834 0) 2001 fun j2 => if (ga s1 1 14 j2) = 46 then f_X9_wantPath_49 (f_X9_wantPath_4 20099) s1 1 (0 + 1) else f_X9_wantPath_48 (f_X9_wantPath_49 (f_X9_wantPath_4 20099)) s1 (0 + 1)) else f_X9_wantPath_48 (f_X9_wantPath_49 (f_X9_wantPath_4 20099)) s1 (0 + 1) := by
    unfold f_X9_wantPath
    rw [show fl = 20099 + 1 from rfl, f_X9_wantPath_4.eq_2, if_neg i10, if_pos o2]
  have st : ∀ {x : Int32}, f_X5_step s2 x = f_X5_stepValue s2 x := xst_6 x3 _
  have sv : f_X5_stepValue s2 (nI (t + 2)) = f_X5_stepValue_21 s2 (nI (ks (t + 2))) 1 (nI (t + 2)) := by
    unfold f_X5_stepValue
    rw [x_kind X2 w (by omega), cl_mk, x4, if_neg n3]
  have hkk := w.kk (t := t + 2) (by omega)
  by_cases cn : ks (t + 2) = 1
  rotate_left
  · left
    obtain ⟨s17, f1, f2, f3⟩ := m_want_bad (v := v) (k := 1) T2 w (show t + 2 ≤ c by omega) o2 y3 cn (by omega)
    have f1 : f_X9_want _ 1 = _ := f1
    refine ⟨2, ps (t + 2), s17, ?_, ?_, f2, (QM.zf (by omega) y2).trans f3⟩
    · rw [r2]
      refine XF.pre ?_ (QX.zf (by omega) x2)
      refine rn_want hv X2 w (by omega) (Or.inl (n409 x3 (by decide))) (fun hlt => ⟨s2, ?_, QX.refl' v s2⟩)
      rw [st, sv]
      unfold f_X5_stepValue_21
      rw [if_neg (show ¬ nI (ks (t + 2)) = (1 : Int32) from fun e => cn ((ln_eq (b := 1) (by omega) (by omega)).mp e))]
    · rw [e2, wp, f1, cl_mk, if_neg f2.no]
      rw [f_X9_wantPath_48, f_X9_wantPath_49, if_pos rfl, f_X9_wantPath_4.eq_2, if_pos rfl, cl_mk, if_neg f2.no]
  have ht2 : t + 2 < c := w.lt (by omega) (by omega)
  have wo : f_X9_want t2 1 = _ := m_want_ok (k := 1) T2 w (show t + 2 ≤ c by omega) o2 y3 cn
  have sm3 : SM t2 (si t2 834 0 (nI (t + 2 + 1))) := SM.si (by omega) _ _
  have T3 := (QM.sm (v := v) sm3).tkm T2
  have p3 : gi (si t2 834 0 (nI (t + 2 + 1))) 834 0 = nI (t + 3) := by simp only [gi_si, gi_sr, gi_sg, gi_sa, gr_si, rr_sr, gr_sg, gr_sa, ga_si, ga_sr, ga_sg, ga_sa, true_and, and_true, false_and, and_false, Nat.reduceEqDiff, ↓reduceIte]
  have o3 : gi (si t2 834 0 (nI (t + 2 + 1))) 835 0 = 0 := o2
  have ep : f_X9_wantPath t2 = mPE 20099 (si t2 834 0 (nI (t + 2 + 1))) (t + 3) 1 := by
    rw [wp, wo, cl_mk, if_pos o3, p3, ck_nI (by omega) (by omega)]
    rfl
  -- the class notes the tokens
  obtain ⟨ag, hag⟩ : ∃ ag : Bool, ag = decide (bt (vo d (vn d - 1)) o = 1) := ⟨_, rfl⟩
  have g2 : gr s2 2 0 = v := by rw [x2.1 2 0 (by omega)]; exact px.1
  have n603 : gi s2 603 v = nI (vn d - 1 + 1) := by
    rw [x7 _ _ (by omega), px.2.1.1]
    congr 1
    omega
  obtain ⟨b4, hb4⟩ : ∃ b4 : Int32, b4 = if o = 4 then 1 else 0 := ⟨_, rfl⟩
  obtain ⟨b6, hb6⟩ : ∃ b6 : Int32, b6 = if o = 6 then 1 else 0 := ⟨_, rfl⟩
  obtain ⟨s7, hs7⟩ : ∃ s7, s7 = (if b4 = 1 ∧ ag = false then sa (si s2 409 0 7) 8 13 (vn d - 1) (nI (t + 2)) else si s2 409 0 7) := ⟨_, rfl⟩
  obtain ⟨s8, hs8⟩ : ∃ s8, s8 = (if b6 = 1 ∧ ag = false then sa s7 8 14 (vn d - 1) (nI (t + 2)) else s7) := ⟨_, rfl⟩
  have g7 : s7.2.1 = s2.2.1 ∧ (∀ f i, gi s7 f i = gi (si s2 409 0 7) f i) ∧ (∀ f i, ¬ (f = 8 ∧ i = 13) → ga s7 f i = ga s2 f i) := by
    rw [hs7]
    split
    · refine ⟨rfl, fun _ _ => rfl, fun f i hh => ?_⟩
      simp only [gi_si, gi_sr, gi_sg, gi_sa, gr_si, rr_sr, gr_sg, gr_sa, ga_si, ga_sr, ga_sg, ga_sa, true_and, and_true, false_and, and_false, Nat.reduceEqDiff, ↓reduceIte]
      rw [if_neg hh]
    · exact ⟨rfl, fun _ _ => rfl, fun _ _ _ => rfl⟩
  have g8 : s8.2.1 = s2.2.1 ∧ (∀ f i, gi s8 f i = gi (si s2 409 0 7) f i) ∧ (∀ f i, ¬ (f = 8 ∧ (i = 13 ∨ i = 14)) → ga s8 f i = ga s2 f i) := by
    rw [hs8]
    split
    · refine ⟨g7.1, fun f i => g7.2.1 f i, fun f i hh => ?_⟩
      simp only [gi_si, gi_sr, gi_sg, gi_sa, gr_si, rr_sr, gr_sg, gr_sa, ga_si, ga_sr, ga_sg, ga_sa, true_and, and_true, false_and, and_false, Nat.reduceEqDiff, ↓reduceIte]
      rw [if_neg (by omega), g7.2.2 _ _ (by omega)]
    · exact ⟨g7.1, g7.2.1, fun f i hh => g7.2.2 f i (by omega)⟩
  have sval : f_X5_stepValue s2 (nI (t + 2)) = some (si s8 409 0 9, 0) := by
    have q7 : ∀ f i, f ≠ 409 → gi s7 f i = gi s2 f i := by
      intro f i hf
      rw [g7.2.1]
      simp only [gi_si, gi_sr, gi_sg, gi_sa, gr_si, rr_sr, gr_sg, gr_sa, ga_si, ga_sr, ga_sg, ga_sa, true_and, and_true, false_and, and_false, Nat.reduceEqDiff, ↓reduceIte]
      rw [if_neg (by omega)]
    have n1 := x_nt (s := si s2 409 0 7) (a := 13) (x := t + 2) (b := b4) (ag := ag) hv g2 (by simp only [gi_si, gi_sr, gi_sg, gi_sa, gr_si, rr_sr, gr_sg, gr_sa, ga_si, ga_sr, ga_sg, ga_sa, true_and, and_true, false_and, and_false, Nat.reduceEqDiff, ↓reduceIte]; exact n603) (by omega) (Or.inl rfl) (by simp only [gi_si, gi_sr, gi_sg, gi_sa, gr_si, rr_sr, gr_sg, gr_sa, ga_si, ga_sr, ga_sg, ga_sa, true_and, and_true, false_and, and_false, Nat.reduceEqDiff, ↓reduceIte]; rw [x5, hag]) (by rw [hb4]; split; exact Or.inr rfl; exact Or.inl rfl)
    rw [← hs7] at n1
    have n2 := x_nt (s := s7) (a := 14) (x := t + 2) (b := b6) (ag := ag) hv (by show s7.2.1 2 0 = v; rw [g7.1]; exact g2) (by rw [q7 _ _ (by omega)]; exact n603) (by omega) (Or.inr rfl) (by rw [q7 _ _ (by omega), x5, hag]) (by rw [hb6]; split; exact Or.inr rfl; exact Or.inl rfl)
    rw [← hs8] at n2
    rw [sv, cn]
    unfold f_X5_stepValue_21
    rw [if_pos (show nI 1 = (1 : Int32) from rfl)]
    simp only [bnd]
    rw [show gi (si s2 409 0 7) 412 0 = nI o by simp only [gi_si, gi_sr, gi_sg, gi_sa, gr_si, rr_sr, gr_sg, gr_sa, ga_si, ga_sr, ga_sg, ga_sa, true_and, and_true, false_and, and_false, Nat.reduceEqDiff, ↓reduceIte]; exact x4, if_neg n3, if_neg n5]
    have e98 : (if nI o = (4 : Int32) then f_X5_stepValue_98 (si s2 409 0 7) 1 (nI (t + 2)) else f_X5_stepValue_98 (si s2 409 0 7) 0 (nI (t + 2))) = f_X5_stepValue_98 (si s2 409 0 7) b4 (nI (t + 2)) := by
      rw [hb4]
      rcases ho46 with rfl | rfl
      · rfl
      · rfl
    rw [e98]
    unfold f_X5_stepValue_98
    rw [n1, cl_mk, q7 _ _ (by omega), x4]
    have e121 : (if nI o = (6 : Int32) then f_X5_stepValue_121 s7 1 (nI (t + 2)) else f_X5_stepValue_121 s7 0 (nI (t + 2))) = f_X5_stepValue_121 s7 b6 (nI (t + 2)) := by
      rw [hb6]
      rcases ho46 with rfl | rfl
      · rfl
      · rfl
    rw [e121]
    unfold f_X5_stepValue_121
    rw [n2, cl_mk]
    rfl
  have r3 : Rn s2 (t + 2) = Rn (si s8 409 0 9) (t + 3) := rn_ok X2 w ht2 (by rw [st, sval])
  have gi9 : ∀ f i, f ≠ 409 → gi (si s8 409 0 9) f i = gi s2 f i := by
    intro f i hf
    simp only [gi_si, gi_sr, gi_sg, gi_sa, gr_si, rr_sr, gr_sg, gr_sa, ga_si, ga_sr, ga_sg, ga_sa, true_and, and_true, false_and, and_false, Nat.reduceEqDiff, ↓reduceIte]
    rw [if_neg (by omega), g8.2.1]
    simp only [gi_si, gi_sr, gi_sg, gi_sa, gr_si, rr_sr, gr_sg, gr_sa, ga_si, ga_sr, ga_sg, ga_sa, true_and, and_true, false_and, and_false, Nat.reduceEqDiff, ↓reduceIte]
    rw [if_neg (by omega)]
  have sx9 : SX s2 (si s8 409 0 9) := ⟨fun i k _ => by show s8.2.1 i k = s2.2.1 i k; rw [g8.1], fun f i hh => gi9 f i (by omega), fun f i hh => g8.2.2 f i (by omega)⟩
  have X9 := (QX.sx (v := v) sx9).tkx hv X2
  rcases path_loop hv w (c - (t + 3)) (t + 3) (by omega) (si s8 409 0 9) (si t2 834 0 (nI (t + 2 + 1))) 1 X9 T3 (by simp only [gi_si, gi_sr, gi_sg, gi_sa, gr_si, rr_sr, gr_sg, gr_sa, ga_si, ga_sr, ga_sg, ga_sa, true_and, and_true, false_and, and_false, Nat.reduceEqDiff, ↓reduceIte]) p3 o3 20099 (by omega) with ⟨e, qq, τ', x, k1, k2, k3, k4⟩ | ⟨k, s9, t9, k1, k2, k3, k4, k5, k6, k7, k8, k9⟩
  · left
    refine ⟨e, qq, τ', ?_, ?_, k3, (QM.zf (by omega) y2).trans ((QM.sm sm3).trans k4)⟩
    · rw [r2, r3]
      exact k1.pre ((QX.zf (by omega) x2).trans (QX.sx sx9))
    · rw [e2, ep, k2, cl_mk, if_neg k3.no]
  · right
    have o9 : gi t9 835 0 = 0 := by rw [k9.1 _ _ (by omega)]; exact o3
    have sm9 : SM t2 t9 := sm3.trans k9.sm
    have gt9 : ∀ f i, ¬ (f = 834 ∨ f = 836 ∨ f = 837) → gi t9 f i = gi τ f i := by
      intro f i hh
      rw [k9.1 _ _ (by omega)]
      simp only [gi_si, gi_sr, gi_sg, gi_sa, gr_si, rr_sr, gr_sg, gr_sa, ga_si, ga_sr, ga_sg, ga_sa, true_and, and_true, false_and, and_false, Nat.reduceEqDiff, ↓reduceIte]
      rw [if_neg (by omega), y4 f i hh]
    have ga9 : ∀ f i, ga t9 f i = ga t2 f i := fun f i => k9.2 f i
    have h838 : gi t9 838 0 = nI (q 7 2) := by rw [gt9 _ _ (by omega)]; exact pm.2.2.2.2.2.2.1
    have hK : q 7 2 < 700 := by omega
    obtain ⟨tt, htt⟩ : ∃ tt, tt = si (sa (sa (sa (sa (sa t9 1 17 (q 7 2) (nI (vn d - 1))) 1 18 (q 7 2) (nI o)) 1 19 (q 7 2) (nI (t + 2))) 1 20 (q 7 2) (nI (1 + k))) 1 21 (q 7 2) (nI t)) 838 0 (nI (q 7 2 + 1)) := ⟨_, rfl⟩
    have emv : f_X9_option τ (nI (40 * v + (vn d - 1))) (nI (vn d - 1)) = some (tt, ()) := by
      rw [e2, ep, k7, cl_mk, if_pos o9, h838, ck_nI hK (by omega)]
      simp only [bnd]
      rw [show gi (sa t9 1 17 (q 7 2) (nI (vn d - 1))) 838 0 = nI (q 7 2) from h838, ck_nI hK (by omega), show gi (sa (sa t9 1 17 (q 7 2) (nI (vn d - 1))) 1 18 (q 7 2) (nI o)) 838 0 = nI (q 7 2) from h838, ck_nI hK (by omega), show gi (sa (sa (sa t9 1 17 (q 7 2) (nI (vn d - 1))) 1 18 (q 7 2) (nI o)) 1 19 (q 7 2) (nI (t + 2))) 838 0 = nI (q 7 2) from h838, ck_nI hK (by omega), show gi (sa (sa (sa (sa t9 1 17 (q 7 2) (nI (vn d - 1))) 1 18 (q 7 2) (nI o)) 1 19 (q 7 2) (nI (t + 2))) 1 20 (q 7 2) (nI (1 + k))) 838 0 = nI (q 7 2) from h838, ck_nI hK (by omega), show gi (sa (sa (sa (sa (sa t9 1 17 (q 7 2) (nI (vn d - 1))) 1 18 (q 7 2) (nI o)) 1 19 (q 7 2) (nI (t + 2))) 1 20 (q 7 2) (nI (1 + k))) 1 21 (q 7 2) (nI t)) 838 0 + 1 = nI (q 7 2 + 1) by rw [show gi (sa (sa (sa (sa (sa t9 1 17 (q 7 2) (nI (vn d - 1))) 1 18 (q 7 2) (nI o)) 1 19 (q 7 2) (nI (t + 2))) 1 20 (q 7 2) (nI (1 + k))) 1 21 (q 7 2) (nI t)) 838 0 = nI (q 7 2) from h838, nI_1], htt]
    have smt : SM t9 tt := by
      rw [htt]
      exact ((((((SM.sa (by omega) _ _).trans (SM.sa (by omega) _ _)).trans (SM.sa (by omega) _ _)).trans (SM.sa (by omega) _ _)).trans (SM.sa (by omega) _ _))).trans (SM.si (by omega) _ _)
    have git : ∀ f i, f ≠ 838 → gi tt f i = gi t9 f i := by
      intro f i hh
      rw [htt]
      simp only [gi_si, gi_sr, gi_sg, gi_sa, gr_si, rr_sr, gr_sg, gr_sa, ga_si, ga_sr, ga_sg, ga_sa, true_and, and_true, false_and, and_false, Nat.reduceEqDiff, ↓reduceIte]
      rw [if_neg (by omega)]
    have gat : ∀ r, ¬ (17 ≤ r ∧ r ≤ 21) → ga tt 1 r = ga t9 1 r := by
      intro r hr
      rw [htt]
      simp only [gi_si, gi_sr, gi_sg, gi_sa, gr_si, rr_sr, gr_sg, gr_sa, ga_si, ga_sr, ga_sg, ga_sa, true_and, and_true, false_and, and_false, Nat.reduceEqDiff, ↓reduceIte]
      rw [if_neg (by omega), if_neg (by omega), if_neg (by omega), if_neg (by omega), if_neg (by omega)]
    have zm : ZFm v (40 * v + (vn d - 1)) τ tt := y2.trans (ZFm.sm (sm9.trans smt))
    have zx : ZF v (40 * v + (vn d - 1)) σ s9 := x2.trans (ZF.sx (sx9.trans k6.sx))
    have kle : ok5 d q (vn d - 1) o (ps t) ≤ q 7 3 := ok5_le
    have hps := w.pp (t := t) (by omega)
    have hx := w.2.2.2.2
    have hps2 := w.mono (t := t) (t + 2) (by omega) (by omega)
    have gi9' : ∀ f i, f ≠ 409 → gi s9 f i = gi s2 f i := fun f i hf => by rw [k6.2.1 f i hf, gi9 f i hf]
    have ga9' : ∀ f i, ¬ (f = 8 ∧ (i = 13 ∨ i = 14)) → ga s9 f i = ga s2 f i := fun f i hf => by
      rw [k6.2.2]
      exact g8.2.2 f i hf
    have a13 : ga s9 8 13 = if o = 4 ∧ ag = false then upd (ga σ 8 13) (vn d - 1) (nI (t + 2)) else ga σ 8 13 := by
      rw [k6.2.2]
      show ga s8 8 13 = _
      have e8 : ga s8 8 13 = ga s7 8 13 := by
        rw [hs8]
        split
        · simp only [gi_si, gi_sr, gi_sg, gi_sa, gr_si, rr_sr, gr_sg, gr_sa, ga_si, ga_sr, ga_sg, ga_sa, true_and, and_true, false_and, and_false, Nat.reduceEqDiff, ↓reduceIte]
        · rfl
      rw [e8, hs7]
      rcases ho46 with e | e
      · rw [e] at hb4
        rw [show b4 = 1 from hb4, e]
        cases ag
        · rw [if_pos ⟨rfl, rfl⟩, if_pos ⟨rfl, rfl⟩]
          simp only [gi_si, gi_sr, gi_sg, gi_sa, gr_si, rr_sr, gr_sg, gr_sa, ga_si, ga_sr, ga_sg, ga_sa, true_and, and_true, false_and, and_false, Nat.reduceEqDiff, ↓reduceIte]
          rw [x8 13 (by omega)]
        · rw [if_neg (fun h => by cases h.2), if_neg (fun h => by cases h.2)]
          exact x8 13 (by omega)
      · rw [e] at hb4
        rw [show b4 = 0 from hb4, if_neg (fun h => absurd h.1 (by decide)), if_neg (fun h => by omega)]
        exact x8 13 (by omega)
    have a14 : ga s9 8 14 = if o = 6 ∧ ag = false then upd (ga σ 8 14) (vn d - 1) (nI (t + 2)) else ga σ 8 14 := by
      rw [k6.2.2]
      show ga s8 8 14 = _
      have e7 : ga s7 8 14 = ga σ 8 14 := by
        rw [g7.2.2 _ _ (by omega), x8 14 (by omega)]
      rw [hs8]
      rcases ho46 with e | e
      · rw [e] at hb6
        rw [show b6 = 0 from hb6, if_neg (fun h => absurd h.1 (by decide)), if_neg (fun h => by omega), e7]
      · rw [e] at hb6
        rw [show b6 = 1 from hb6, e]
        cases ag
        · rw [if_pos ⟨rfl, rfl⟩, if_pos ⟨rfl, rfl⟩]
          simp only [gi_si, gi_sr, gi_sg, gi_sa, gr_si, rr_sr, gr_sg, gr_sa, ga_si, ga_sr, ga_sg, ga_sa, true_and, and_true, false_and, and_false, Nat.reduceEqDiff, ↓reduceIte]
          rw [e7]
        · rw [if_neg (fun h => by cases h.2), if_neg (fun h => by cases h.2), e7]
    have a12 : ga s9 8 12 = if o = 4 ∧ ag = false then upd (ga σ 8 12) (vn d - 1) (nI t) else ga σ 8 12 := by
      rw [ga9' _ _ (by omega), x9, hag]
      by_cases e : bt (vo d (vn d - 1)) o = 1
      · rw [if_neg (fun h => h.2 e), if_neg (fun h => by have := h.2; rw [decide_eq_true e] at this; cases this)]
      · by_cases e' : o = 4
        · rw [if_pos ⟨e', e⟩, if_pos ⟨e', decide_eq_false e⟩]
        · rw [if_neg (fun h => e' h.1), if_neg (fun h => e' h.1)]
    -- whether it is the first such option
    have fresh : ag = false ↔ ∀ i, i < q 7 2 → ¬ (q 0 i = vn d - 1 ∧ q 1 i = o) := by
      obtain ⟨_, _, _, _, _, _, _, _, b9, b10⟩ := cw.2.2.2.2.2.1 (vn d - 1) hj
      rw [hag]
      constructor
      · intro h i hi ⟨e1, e2⟩
        have h' := of_decide_eq_false h
        rcases ho46 with rfl | rfl
        · exact h' (b9.mpr ⟨i, hi, e1, e2⟩)
        · exact h' (b10.mpr ⟨i, hi, e1, e2⟩)
      · intro h
        refine decide_eq_false (fun e => ?_)
        rcases ho46 with rfl | rfl
        · obtain ⟨i, hi, e1, e2⟩ := b9.mp e
          exact h i hi ⟨e1, e2⟩
        · obtain ⟨i, hi, e1, e2⟩ := b10.mp e
          exact h i hi ⟨e1, e2⟩
    obtain ⟨Q, hQ⟩ : ∃ Q, Q = qs q 7 3 (ok5 d q (vn d - 1) o (ps t)) := ⟨_, rfl⟩
    have Qo : ∀ r i, ¬ (r = 7 ∧ i = 3) → Q r i = q r i := fun r i h => by rw [hQ]; exact qs_o h
    have Q73 : Q 7 3 = ok5 d q (vn d - 1) o (ps t) := by rw [hQ]; exact qs_s
    have Qf : ∀ i, fstE Q i ↔ fstE q i := fun i => by
      unfold fstE
      constructor
      · intro h i' hi'
        have := h i' hi'
        rwa [Qo _ _ (by omega), Qo _ _ (by omega), Qo _ _ (by omega), Qo _ _ (by omega)] at this
      · intro h i' hi'
        rw [Qo _ _ (by omega), Qo _ _ (by omega), Qo _ _ (by omega), Qo _ _ (by omega)]
        exact h i' hi'
    have Q72 : Q 7 2 = q 7 2 := Qo _ _ (by omega)
    have hq : ∀ r i, r = 5 ∨ r = 6 ∨ (r = 7 ∧ i ≤ 1) → qe Q (vn d - 1) o (t + 2) (1 + k) t r i = q r i := fun r i h => by
      rw [qe_oth (by omega) (by omega), Qo _ _ (by omega)]
    have q73 : qe Q (vn d - 1) o (t + 2) (1 + k) t 7 3 = ok5 d q (vn d - 1) o (ps t) := by rw [qe_oth (by omega) (by omega), Q73]
    have ag5 : ag = true → ok5 d q (vn d - 1) o (ps t) ≤ 16 * ps t + 15 := by
      intro h
      rw [hag] at h
      unfold ok5
      rw [if_pos (Or.inl (of_decide_eq_true h))]
      omega
    have isp : isP c ks (1 + k) (t + 2) := by
      refine ⟨fun i hi => ?_, fun i hi => ?_⟩
      · by_cases e : i = 0
        · subst e
          exact ⟨by omega, cn⟩
        · obtain ⟨z1, z2, z3⟩ := k3 (i - 1) (by omega)
          rw [show t + 2 + 2 * i = t + 3 + 2 * (i - 1) + 1 by omega]
          exact ⟨z3, z2⟩
      · obtain ⟨z1, z2, z3⟩ := k3 i (by omega)
        rw [show t + 2 + 2 * i + 1 = t + 3 + 2 * i by omega]
        exact z1
    have fx9 : FXc s9 (40 * v + (vn d - 1)) (vk d (vn d - 1)) (vo d (vn d - 1) ||| 2 ^ o) (oZ d (vn d - 1)) (oH d (vn d - 1)) (vd d (vn d - 1)) (nP d (vn d - 1)) (nB d (vn d - 1)) (oC d (vn d - 1)) (oO d (vn d - 1)) := (x11.sx sx9).sx k6.sx
    refine ⟨s9, tt, t + 3 + 2 * k, sF d (vn d - 1) (vk d (vn d - 1)) (vo d (vn d - 1) ||| 2 ^ o) (oZ d (vn d - 1)) (nB d (vn d - 1)), qe Q (vn d - 1) o (t + 2) (1 + k) t, by omega, rfl, ⟨?_, ?_, ?_, (QX.zf (by omega) zx).tkx hv hX, (QM.zf (by omega) zm).tkm hT, ?_, by omega⟩, ⟨c0, ?_, ?_, tk, c3, ?_, ?_⟩, Or.inr ⟨k5, k2⟩, by rw [r2, r3, k4], QX.zf (by omega) zx, QM.zf (by omega) zm, emv⟩
    · -- the class
      refine CX_sF hv d40 hj px zx (fun f i hh => by rw [gi9' _ _ (by omega), x7 f i (by omega)]) (by rw [ga9' _ _ (by omega), x8 11 (by omega)]) fx9 hq ?_ ?_
      · rw [q73]
        unfold KXn
        rw [gi9' _ _ (by omega), gi9' _ _ (by omega)]
        exact x10
      · intro i hi hfi
        rw [qe_72, Q72] at hi
        by_cases e : i = q 7 2
        · subst e
          rw [← Q72] at hfi ⊢
          have hfr := fresh.mpr (fun i hi => by
            have := (qe_fn.mp hfi) i (by rw [Q72]; exact hi)
            rwa [Qo _ _ (by omega), Qo _ _ (by omega)] at this)
          rw [qe_new (by omega), qe_new (by omega), qe_new (by omega), qe_new (by omega)]
          simp only [if_true, if_false, Nat.reduceEqDiff]
          rw [a13, a12, a14]
          refine ⟨fun h4 => ?_, fun h6 => ?_⟩
          · rw [if_pos ⟨h4, hfr⟩, if_pos ⟨h4, hfr⟩]
            unfold upd
            rw [if_pos rfl, if_pos rfl]
            exact ⟨rfl, rfl⟩
          · rw [if_pos ⟨h6, hfr⟩]
            unfold upd
            rw [if_pos rfl]
        · have hi' : i < Q 7 2 := by omega
          have hf' := (Qf i).mp ((qe_f hi').mp hfi)
          obtain ⟨m1, m2⟩ := px.2.2.2.2.2.2 i (by omega) hf'
          rw [qe_old hi' (by omega), qe_old hi' (by omega), qe_old hi' (by omega), qe_old hi' (by omega), Qo _ _ (by omega), Qo _ _ (by omega), Qo _ _ (by omega), Qo _ _ (by omega), a13, a12, a14]
          refine ⟨fun h4 => ?_, fun h6 => ?_⟩
          · by_cases e1 : o = 4 ∧ ag = false
            · rw [if_pos e1, if_pos e1]
              have hne : q 0 i ≠ vn d - 1 := fun hh => fresh.mp e1.2 i (by omega) ⟨hh, by omega⟩
              unfold upd
              rw [if_neg hne, if_neg hne]
              exact m1 h4
            · rw [if_neg e1, if_neg e1]
              exact m1 h4
          · by_cases e1 : o = 6 ∧ ag = false
            · rw [if_pos e1]
              have hne : q 0 i ≠ vn d - 1 := fun hh => fresh.mp e1.2 i (by omega) ⟨hh, by omega⟩
              unfold upd
              rw [if_neg hne]
              exact m2 h6
            · rw [if_neg e1]
              exact m2 h6
    · -- the reference
      have git' : ∀ f i, ¬ (f = 834 ∨ f = 836 ∨ f = 837 ∨ f = 838) → gi tt f i = gi τ f i := fun f i hh => by rw [git _ _ (by omega), gt9 _ _ (by omega)]
      refine CM_sF d40 hj cw.lw pm zm (fun f i hh => git' f i (by omega)) (fun i hh => by rw [gat i (by omega), ga9, y5 i (by omega)]) (y7.of' (fun i h1 h2 => by rw [gat i (by omega), ga9]) (fun i x h1 h2 h3 => by rw [smt.2 _ _ _ (by omega), ga9]) (cw.lw.1 _ hj).1 (cw.lw.1 _ hj).2) hq ?_ ?_ ?_
      · rw [q73]
        unfold KMn
        rw [git _ _ (by omega), git _ _ (by omega), k9.1 _ _ (by omega), k9.1 _ _ (by omega)]
        simp only [gi_si, gi_sr, gi_sg, gi_sa, gr_si, rr_sr, gr_sg, gr_sa, ga_si, ga_sr, ga_sg, ga_sa, true_and, and_true, false_and, and_false, Nat.reduceEqDiff, ↓reduceIte]
        exact y6
      · rw [qe_72, Q72, htt]
        simp only [gi_si, gi_sr, gi_sg, gi_sa, gr_si, rr_sr, gr_sg, gr_sa, ga_si, ga_sr, ga_sg, ga_sa, true_and, and_true, false_and, and_false, Nat.reduceEqDiff, ↓reduceIte]
      · intro i hi r hr
        rw [qe_72, Q72] at hi
        have e0 : ga t9 1 (17 + r) i = ga τ 1 (17 + r) i := by rw [ga9, y5 _ (by omega)]
        by_cases e : i = q 7 2
        · subst e
          rw [show q 7 2 = Q 7 2 from Q72.symm, qe_new hr, Q72, htt]
          have h5 : r = 0 ∨ r = 1 ∨ r = 2 ∨ r = 3 ∨ r = 4 := by omega
          rcases h5 with rfl | rfl | rfl | rfl | rfl
          · show ga (sa (sa (sa (sa (sa t9 1 17 _ _) 1 18 _ _) 1 19 _ _) 1 20 _ _) 1 21 _ _) 1 17 _ = _
            rw [a1_oth (by omega), a1_oth (by omega), a1_oth (by omega), a1_oth (by omega), a1_get]
            rfl
          · show ga (sa (sa (sa (sa (sa t9 1 17 _ _) 1 18 _ _) 1 19 _ _) 1 20 _ _) 1 21 _ _) 1 18 _ = _
            rw [a1_oth (by omega), a1_oth (by omega), a1_oth (by omega), a1_get]
            rfl
          · show ga (sa (sa (sa (sa (sa t9 1 17 _ _) 1 18 _ _) 1 19 _ _) 1 20 _ _) 1 21 _ _) 1 19 _ = _
            rw [a1_oth (by omega), a1_oth (by omega), a1_get]
            rfl
          · show ga (sa (sa (sa (sa (sa t9 1 17 _ _) 1 18 _ _) 1 19 _ _) 1 20 _ _) 1 21 _ _) 1 20 _ = _
            rw [a1_oth (by omega), a1_get]
            rfl
          · show ga (sa (sa (sa (sa (sa t9 1 17 _ _) 1 18 _ _) 1 19 _ _) 1 20 _ _) 1 21 _ _) 1 21 _ = _
            rw [a1_get]
            rfl
        · rw [qe_old (by omega) hr, Qo _ _ (by omega), htt]
          show ga (sa (sa (sa (sa (sa t9 1 17 _ _) 1 18 _ _) 1 19 _ _) 1 20 _ _) 1 21 _ _) 1 (17 + r) i = _
          rw [a1_oth (by omega), a1_oth (by omega), a1_oth (by omega), a1_oth (by omega), a1_oth (by omega), e0]
          exact pm.2.2.2.2.2.2.2.1 i (by omega) r hr
    · -- what they mean
      refine CW_sF cw (by omega) hj hq (by rw [q73]; exact kle) (by rw [q73]; exact ok5_kz cw.2.2.2.2.2.2.2.1) (by rw [qe_72, Q72]; omega) ?_ ?_ ?_ ?_
      · refine FW_sF (q := q) (cw.2.2.2.2.2.1 _ hj) ho7 (Or.inr ⟨by omega, rfl⟩) (Or.inr ⟨by omega, rfl⟩) ?_ ?_
        · rw [qe_ex]
          simp only [true_and]
          rw [Q72]
          simp (disch := omega) only [Qo]
        · rw [qe_ex]
          simp only [true_and]
          rw [Q72]
          simp (disch := omega) only [Qo]
      · intro j' b hh
        rw [qe_ex, Q72]
        simp (disch := omega) only [Qo]
        constructor
        · rintro (⟨e, _⟩ | e)
          · omega
          · exact e
        · exact fun e => Or.inr e
      · intro i hi
        rw [qe_72, Q72] at hi
        rw [q73]
        by_cases e : i = q 7 2
        · subst e
          rw [show q 7 2 = Q 7 2 from Q72.symm, qe_new (by omega), qe_new (by omega), qe_new (by omega), qe_new (by omega), qe_new (by omega), Q72]
          simp only [if_true, if_false, Nat.reduceEqDiff]
          refine ⟨hj, ho46, by omega, isp, ?_, by omega, ht2, fun hh => ?_⟩
          · rw [show t + 2 + 2 * (1 + k) - 1 = t + 3 + 2 * k by omega]
            exact k2
          · cases eag : ag with
            | true => exact ag5 eag
            | false =>
              exfalso
              apply hh
              rw [← Q72]
              refine qe_fn.mpr (fun i hi => ?_)
              rw [Qo _ _ (by omega), Qo _ _ (by omega)]
              exact fresh.mp eag i (by omega)
        · have hi' : i < Q 7 2 := by omega
          obtain ⟨z1, z2, z3, z4, z5, z6, z7, z8⟩ := cw.2.2.2.2.2.2.2.2.2.1 i (by omega)
          rw [qe_old hi' (by omega), qe_old hi' (by omega), qe_old hi' (by omega), qe_old hi' (by omega), qe_old hi' (by omega), Qo _ _ (by omega), Qo _ _ (by omega), Qo _ _ (by omega), Qo _ _ (by omega), Qo _ _ (by omega)]
          refine ⟨z1, z2, z3, z4, z5, z6, z7, fun hh => ?_⟩
          have := z8 (fun hf => hh ((qe_f hi').mpr ((Qf i).mpr hf)))
          omega
      · rw [q73]
        exact ok5_6 cw hj ho7 (by omega) (Nat.le_refl _)
    · rw [git _ _ (by omega), k8]
    · rw [hq _ _ (by omega)]
      exact c1
    · show s9.2.1 3 0 = _
      rw [k6.1]
      show s8.2.1 3 0 = _
      rw [g8.1]
      show gr s2 3 0 = _
      rw [x6, c2]
      rfl
    · rw [gi9' _ _ (by omega), x7 _ _ (by omega), c4]
    · show ga tt 1 23 (vn d - 1) = _
      rw [gat 23 (by omega), ga9, y5 23 (by omega)]
      exact c5
end Rq
