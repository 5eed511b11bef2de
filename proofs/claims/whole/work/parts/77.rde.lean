/-! Reading: the options of a field, its end. -/
section Rr
variable {σ τ σ' τ' : St} {v t : Nat} {d : Vd} {q q' : Nat → Nat → Nat} {tx : List Nat} {c : Nat} {ks ps ls : Nat → Nat}
theorem f_opt (hv : v < 8) (w : TKW tx c ks ps ls) (p : PI v tx c ks ps ls σ τ t d q) (cu : CU v c σ τ d q) (h9 : gi σ 409 0 = 4) (h4t : 4 * q 7 2 + 1 ≤ t) : OPT v tx c ks ps ls σ τ t d := by
  cases ho : oOf tx ks ps ls t with
  | none =>
    obtain ⟨px, pm, cw, hX, hT, h4, htc⟩ := p
    have hc := w.cc
    obtain ⟨τ', f1, f2, f3⟩ := m_fails (v := v) (e := 2) (q := ps t) pm.2.2.2.2.2.2.2.2.2 (by omega) (by omega)
    have f1 : f_X9_fails τ 2 (nI (ps t)) = _ := f1
    refine Or.inl ⟨2, ps t, τ', ?_, ?_, f2, f3⟩
    · refine rn_want hv hX w htc (Or.inl (n409 h9 (by decide))) (fun hlt => ⟨si σ 412 0 (-2), ?_, QX.s4 (by omega) _ _⟩)
      rw [xst_4 h9]
      unfold f_X5_stepOption
      rw [x_oof hX w htc, cl_mk, ho]
      simp only [bnd]
      rw [show gi (si σ 412 0 (oI none)) 412 0 = -2 by simp only [gi_si, gi_sr, gi_sg, gi_sa, gr_si, rr_sr, gr_sg, gr_sa, ga_si, ga_sr, ga_sg, ga_sa, true_and, and_true, false_and, and_false, Nat.reduceEqDiff, ↓reduceIte]; rfl, if_neg (by decide)]
      rfl
    · unfold f_X9_option
      rw [h4, m_word hT w htc, cl_mk, m_oof w htc, cl_mk, ho, if_neg (show ¬ (0 : Int32) ≤ mI none by decide), h4, ck_nI (by omega) (by omega), (hT.2.2 t htc).2.1, f1, cl_mk]
  | some o =>
    have htc := p.2.2.2.2.2.2
    obtain ⟨ho7, hk1⟩ := oOf_ok ho
    have ht : t < c := w.lt htc (by omega)
    by_cases c3 : o < 3
    · exact opt_lt3 hv w p cu h9 ht ho c3
    · have h5 : o = 3 ∨ o = 5 ∨ (o = 4 ∨ o = 6) := by omega
      rcases h5 with rfl | rfl | h5
      · exact opt_null hv w p cu h9 ht ho
      · exact opt_by hv w p cu h9 ht ho
      · exact opt_path hv w p cu h9 ht h4t ho h5
theorem m253_no {e qq : Nat} (h : MF τ e qq) (x y : Int32) {m : Nat} (hm : 0 < m) : f_X9_field_253 f_X9_field_299 m τ x y = some (τ, ()) := by
  obtain ⟨m, rfl⟩ : ∃ m', m = m' + 1 := ⟨m - 1, by omega⟩
  rw [f_X9_field_253.eq_2, if_neg h.no]
  unfold f_X9_field_293
  rw [m_want_no h, cl_mk, m299_no h]
theorem PI.s (p : PI v tx c ks ps ls σ τ t d q) (hv : v < 8) {x : Int32} {t' : Nat} (htt : t ≤ t') (htc : t' ≤ c) : PI v tx c ks ps ls (si σ 409 0 x) (si τ 834 0 (nI t')) t' d q := by
  obtain ⟨px, pm, cw, hX, hT, h4, _⟩ := p
  exact ⟨px.s9 (by omega) x, pm.s4 _, cw.mono htt, (QX.sx (v := v) (SX.si (by omega) _ _)).tkx hv hX, (QM.sm (v := v) (SM.si (by omega) _ _)).tkm hT, by simp only [gi_si, gi_sr, gi_sg, gi_sa, gr_si, rr_sr, gr_sg, gr_sa, ga_si, ga_sr, ga_sg, ga_sa, true_and, and_true, false_and, and_false, Nat.reduceEqDiff, ↓reduceIte], htc⟩
theorem CU.s (h : CU v c σ τ d q) {x y : Int32} : CU v c (si σ 409 0 x) (si τ 834 0 y) d q := by
  obtain ⟨c0, c1, c2, tk, c3, c4, c5⟩ := h
  exact ⟨c0, c1, c2, tk, c3, by simp only [gi_si, gi_sr, gi_sg, gi_sa, gr_si, rr_sr, gr_sg, gr_sa, ga_si, ga_sr, ga_sg, ga_sa, true_and, and_true, false_and, and_false, Nat.reduceEqDiff, ↓reduceIte]; exact c4, c5⟩
theorem f_253 (hv : v < 8) (w : TKW tx c ks ps ls) : ∀ (r t : Nat), t + r = c → ∀ (σ τ : St) (d : Vd) (q : Nat → Nat → Nat), PI v tx c ks ps ls σ τ t d q → CU v c σ τ d q → (gi σ 409 0 = 7 ∨ (gi σ 409 0 = 9 ∧ ks t ≠ 46)) → ∀ m, r + 1 < m → BD v σ τ (Rn σ t) (f_X9_field_253 f_X9_field_299 m τ (nI (vn d - 1)) (nI (40 * v + (vn d - 1)))) ∨ ∃ σ' τ' t' d' q', t < t' ∧ vn d' = vn d ∧ PI v tx c ks ps ls σ' τ' t' d' q' ∧ CU v c σ' τ' d' q' ∧ gi σ' 409 0 = 10 ∧ Rn σ t = Rn σ' t' ∧ QX v σ σ' ∧ QM v τ τ' ∧ f_X9_field_253 f_X9_field_299 m τ (nI (vn d - 1)) (nI (40 * v + (vn d - 1))) = f_X9_field_299 τ' (nI (vn d - 1)) (nI (40 * v + (vn d - 1))) := by
  have hc := w.cc
  intro r
  induction r using Nat.strongRecOn with
  | _ r ih =>
    intro t hr σ τ d q p cu h79 m hm
    obtain ⟨m, rfl⟩ : ∃ m', m = m' + 1 := ⟨m - 1, by omega⟩
    have p' := p
    obtain ⟨px, pm, cw, hX, hT, h4, htc⟩ := p
    have hk := w.kk htc
    have h0 : gi τ 835 0 = 0 := pm.2.2.2.2.2.2.2.2.2
    have hst : f_X5_step σ (nI t) = f_X5_stepBehindValue σ (nI t) := by
      rcases h79 with h | ⟨h, hk46⟩
      · rw [xst_7 h]
      · rw [xst_9 h]
        unfold f_X5_stepInPath
        rw [x_kind hX w htc, cl_mk, if_neg (show ¬ nI (ks t) = (46 : Int32) from fun e => hk46 ((ln_eq (b := 46) (by omega) (by omega)).mp e)), cl_id]
    have hn9 : ¬ gi σ 409 0 = 0 := by
      rcases h79 with h | ⟨h, _⟩
      · exact n409 h (by decide)
      · exact n409 h (by decide)
    rw [f_X9_field_253.eq_2, if_pos h0, h4, ck_nI (by omega) (by omega), (hT.2.2 t htc).1]
    by_cases c1 : ks t = 44
    · have ht : t < c := w.lt htc (by omega)
      have r1 : Rn σ t = Rn (si σ 409 0 4) (t + 1) := rn_ok hX w ht (by
        rw [hst]
        unfold f_X5_stepBehindValue
        rw [x_kind hX w htc, cl_mk, c1, if_pos (show nI 44 = (44 : Int32) from rfl)]
        rfl)
      rw [c1, if_pos (show nI 44 = (44 : Int32) from rfl), nI_1]
      simp only [bnd]
      have p1 := p'.s hv (x := 4) (t' := t + 1) (by omega) (by omega)
      have cu1 := cu.s (x := 4) (y := nI (t + 1))
      have qx1 : QX v σ (si σ 409 0 4) := QX.s4 (by omega) _ _
      have qm1 : QM v τ (si τ 834 0 (nI (t + 1))) := QM.si (by omega) _ _
      have cnt := cw.2.2.2.2.2.2.2.2.1
      rcases f_opt hv w p1 cu1 (by simp only [gi_si, gi_sr, gi_sg, gi_sa, gr_si, rr_sr, gr_sg, gr_sa, ga_si, ga_sr, ga_sg, ga_sa, true_and, and_true, false_and, and_false, Nat.reduceEqDiff, ↓reduceIte]) (by omega) with ⟨e, qq, τ', g1, g2, g3, g4⟩ | ⟨s2, t2, u, d2, q2, g1, g2, g3, g4, g5, g6, g7, g8, g9⟩
      · left
        rw [g2, cl_mk, m253_no g3 _ _ (by omega), r1]
        exact ⟨e, qq, τ', g1.pre qx1, rfl, g3, qm1.trans g4⟩
      · rw [g9, cl_mk, r1, g6]
        have := g3.2.2.2.2.2.2
        rcases ih (c - u) (by omega) u (by omega) s2 t2 d2 q2 g3 g4 g5 m (by omega) with hb | ⟨s3, t3, u3, d3, q3, k1, k2, k3, k4, k5, k6, k7, k8, k9⟩
        · left
          rw [g2] at hb
          exact hb.pre (qx1.trans g7) (qm1.trans g8)
        · right
          rw [g2] at k9
          exact ⟨s3, t3, u3, d3, q3, by omega, k2.trans g2, k3, k4, k5, k6, (qx1.trans g7).trans k7, (qm1.trans g8).trans k8, k9⟩
    · rw [if_neg (show ¬ nI (ks t) = (44 : Int32) from fun e => c1 ((ln_eq (b := 44) (by omega) (by omega)).mp e))]
      unfold f_X9_field_293
      have hst' : f_X5_step σ (nI t) = f_X5_expect σ (nI t) 41 10 := by
        rw [hst]
        unfold f_X5_stepBehindValue
        rw [x_kind hX w htc, cl_mk, if_neg (show ¬ nI (ks t) = (44 : Int32) from fun e => c1 ((ln_eq (b := 44) (by omega) (by omega)).mp e)), cl_id]
      by_cases c2 : ks t = 41
      · have ht : t < c := w.lt htc (by omega)
        right
        have wo : f_X9_want τ 41 = _ := m_want_ok (k := 41) hT w htc h0 h4 c2
        rw [wo, cl_mk]
        refine ⟨si σ 409 0 10, si τ 834 0 (nI (t + 1)), t + 1, d, q, by omega, rfl, p'.s hv (by omega) (by omega), cu.s, by simp only [gi_si, gi_sr, gi_sg, gi_sa, gr_si, rr_sr, gr_sg, gr_sa, ga_si, ga_sr, ga_sg, ga_sa, true_and, and_true, false_and, and_false, Nat.reduceEqDiff, ↓reduceIte], rn_ok hX w ht ?_, QX.s4 (by omega) _ _, QM.si (by omega) _ _, rfl⟩
        rw [hst']
        exact x_exp_ok (k := 41) hX w htc c2 10
      · left
        obtain ⟨s17, f1, f2, f3⟩ := m_want_bad (v := v) (k := 41) hT w htc h0 h4 c2 (by omega)
        have f1 : f_X9_want _ 41 = _ := f1
        rw [f1, cl_mk, m299_no f2]
        refine ⟨2, ps t, s17, ?_, rfl, f2, f3⟩
        refine rn_want hv hX w htc (Or.inl hn9) (fun hlt => ⟨σ, ?_, QX.refl' v σ⟩)
        rw [hst']
        exact x_exp_no (k := 41) hX w htc c2 (by omega) 10
/-! a field's end -/
def k7 (d : Vd) (k j p : Nat) : Nat := if vk d j = 7 ∧ bt (vo d j) 6 ≠ 1 then min k (16 * p + 7) else k
def k6 (d : Vd) (k j p : Nat) : Nat := if vk d j = 5 ∨ vk d j = 6 then k else min k (16 * p + 6)
theorem k76 {k j p p' : Nat} : k7 d (k6 d k j p') j p = k6 d (k7 d k j p) j p' := by
  unfold k7 k6
  split <;> split <;> omega
theorem k7_le {k j p : Nat} : k7 d k j p ≤ k := by
  unfold k7
  split <;> omega
theorem k6_le {k j p : Nat} : k6 d k j p ≤ k := by
  unfold k6
  split <;> omega
theorem k7_kz {k j p : Nat} (h : kz k) : kz (k7 d k j p) := by
  unfold k7
  split
  · exact kz_min h (by omega) (by omega)
  · exact h
theorem k6_kz {k j p : Nat} (h : kz k) : kz (k6 d k j p) := by
  unfold k6
  split
  · exact h
  · exact kz_min h (by omega) (by omega)
/-- changes of the notes alone -/
def NX (σ σ' : St) : Prop := σ'.2.1 = σ.2.1 ∧ (∀ f i, ¬ (f = 415 ∨ f = 416) → gi σ' f i = gi σ f i) ∧ (∀ f i, ga σ' f i = ga σ f i)
def NM (τ τ' : St) : Prop := (∀ f i, ¬ (f = 836 ∨ f = 837) → gi τ' f i = gi τ f i) ∧ (∀ f i, ga τ' f i = ga τ f i)
theorem NX.refl' (σ : St) : NX σ σ := ⟨rfl, fun _ _ _ => rfl, fun _ _ => rfl⟩
theorem NM.refl' (τ : St) : NM τ τ := ⟨fun _ _ _ => rfl, fun _ _ => rfl⟩
theorem NX.trans {σ σ1 σ2 : St} (h : NX σ σ1) (k : NX σ1 σ2) : NX σ σ2 := ⟨k.1.trans h.1, fun f i a => (k.2.1 f i a).trans (h.2.1 f i a), fun f i => (k.2.2 f i).trans (h.2.2 f i)⟩
theorem NM.trans {σ σ1 σ2 : St} (h : NM σ σ1) (k : NM σ1 σ2) : NM σ σ2 := ⟨fun f i a => (k.1 f i a).trans (h.1 f i a), fun f i => (k.2 f i).trans (h.2 f i)⟩
theorem CW_open {j : Nat} (h : CW c ks ps t d q) (hD : q 7 0 < 4) (hj : j + 1 = vn d) (hd : vd d j = q 7 0) : CW c ks ps t d (qs (qs q 6 (q 7 0) j) 7 0 (q 7 0 + 1)) := by
  obtain ⟨a1, a2, a3, a4, a5, a6, a7, a8, a9, a10, a11⟩ := h
  unfold CW CWu CWe CWl FW fstE
  simp (disch := omega) only [qs_o, qs_s]
  unfold CWu CWe CWl FW fstE at *
  refine ⟨by omega, a2, a3, a4, fun k hk => ?_, a6, a7, a8, a9, a10, a11⟩
  rw [qs_s] at hk
  rw [qs_o (by omega)]
  by_cases e : k = q 7 0
  · subst e
    rw [qs_s]
    exact ⟨by omega, hd, fun i h1 h2 => by omega⟩
  · rw [qs_o (by omega)]
    exact a5 k (by omega)
theorem f_end (hv : v < 8) (w : TKW tx c ks ps ls) (p : PI v tx c ks ps ls σ τ t d q) (cu : CU v c σ τ d q) (h9 : ¬ gi σ 409 0 = 0) (hst : f_X5_step σ (nI t) = f_X5_stepHeadEnd σ (nI t)) : BD v σ τ (Rn σ t) (f_X9_field_299 τ (nI (vn d - 1)) (nI (40 * v + (vn d - 1)))) ∨ ∃ σ' τ' t' d' q', t < t' ∧ PI v tx c ks ps ls σ' τ' t' d' q' ∧ gi σ' 409 0 = 0 ∧ Rn σ t = Rn σ' t' ∧ QX v σ σ' ∧ QM v τ τ' ∧ f_X9_field_299 τ (nI (vn d - 1)) (nI (40 * v + (vn d - 1))) = some (τ', ()) := by
  obtain ⟨px, pm, cw, hX, hT, h4, htc⟩ := p
  obtain ⟨c0, c1, c2, tk, c3, c4, c5⟩ := cu
  have hc := w.cc
  have d40 := cw.1.1
  have dD := cw.1.2.2.2
  have hj : vn d - 1 < vn d := by omega
  have hg : 40 * v + (vn d - 1) < 320 := by omega
  have hk := w.kk htc
  have h0 : gi τ 835 0 = 0 := pm.2.2.2.2.2.2.2.2.2
  have hz := cw.2.2.2.2.2.2.2.1
  have f1 := (cw.2.2.2.2.2.1 (vn d - 1) hj).1
  have f2 := (cw.2.2.2.2.2.1 (vn d - 1) hj).2.1
  have fx := px.2.1.2.2.2.1 (vn d - 1) hj
  have fm' := pm.1.2.2.1 (vn d - 1) hj
  have hps := w.pp htc
  have hpk := w.pp c3
  have hx := w.2.2.2.2
  by_cases cm : ks t = 123 ∨ ks t = 59
  rotate_left
  · -- neither
    left
    obtain ⟨s17, g1, g2, g3⟩ := m_want_bad (v := v) (k := 59) hT w htc h0 h4 (fun e => cm (Or.inr e)) (by omega)
    have g1 : f_X9_want _ 59 = _ := g1
    refine ⟨2, ps t, s17, ?_, ?_, g2, g3⟩
    · refine rn_want hv hX w htc (Or.inl h9) (fun hlt => ⟨σ, ?_, QX.refl' v σ⟩)
      rw [hst]
      unfold f_X5_stepHeadEnd
      rw [x_kind hX w htc, cl_mk, if_neg (show ¬ nI (ks t) = (123 : Int32) from fun e => cm (Or.inl ((ln_eq (b := 123) (by omega) (by omega)).mp e))), if_neg (show ¬ nI (ks t) = (59 : Int32) from fun e => cm (Or.inr ((ln_eq (b := 59) (by omega) (by omega)).mp e)))]
    · unfold f_X9_field_299 f_X9_field_412
      rw [if_pos h0, h4, ck_nI (by omega) (by omega), (hT.2.2 t htc).1, if_neg (show ¬ nI (ks t) = (123 : Int32) from fun e => cm (Or.inl ((ln_eq (b := 123) (by omega) (by omega)).mp e))), g1, cl_mk]
      unfold f_X9_field_418
      rw [if_neg g2.no]
  have ht : t < c := w.lt htc (by omega)
  -- an alias must say of what
  have xe39 : ∃ s1, f_X5_stepHeadEnd_39 σ (nI t) (nI (ks t)) = f_X5_stepHeadEnd_80 s1 (nI t) (nI (ks t)) ∧ KXn s1 (k7 d (q 7 3) (vn d - 1) (ps tk)) ∧ NX σ s1 := by
    unfold f_X5_stepHeadEnd_39
    rw [c2, fx.1.1]
    by_cases e7 : vk d (vn d - 1) = 7
    · rw [e7, if_pos (show nI 7 = (7 : Int32) from rfl)]
      have hs : f_X1_has σ (40 * v + (vn d - 1)) 6 = _ := x_has (o := 6) fx.1.2.1 f2 (by omega)
      rw [hs, cl_mk]
      by_cases e6 : bt (vo d (vn d - 1)) 6 = 1
      · rw [bI_yes e6, if_neg i10]
        refine ⟨σ, rfl, ?_, NX.refl' σ⟩
        unfold k7
        rw [if_neg (fun h => h.2 e6)]
        exact px.2.2.2.2.2.1
      · rw [bI_no e6, if_pos rfl, c4, x_place hX w c3, cl_mk]
        obtain ⟨s1, b1, b2, b3, b4, b5⟩ := x_blame (e := 7) (p := ps tk) px.2.2.2.2.2.1 hz (by omega) (by omega) (by omega)
        have b1 : f_X5_blame _ 7 (nI (ps tk)) = _ := b1
        rw [b1, cl_mk]
        refine ⟨s1, rfl, ?_, b3, b4, b5⟩
        unfold k7
        rw [if_pos ⟨e7, e6⟩]
        exact b2
    · rw [if_neg (show ¬ nI (vk d (vn d - 1)) = (7 : Int32) from fun e => e7 ((ln_eq (b := 7) (by omega) (by omega)).mp e))]
      refine ⟨σ, rfl, ?_, NX.refl' σ⟩
      unfold k7
      rw [if_neg (fun h => e7 h.1)]
      exact px.2.2.2.2.2.1
  have me418 : ∀ (s : St) (k : Nat), TKM s tx c ks ps ls → gi s 835 0 = 0 → KMn s k → kz k → (∀ i, i = 4 ∨ i = 5 → ga s 1 i = ga τ 1 i) → ga s 1 23 (vn d - 1) = nI tk → ∃ s1, f_X9_field_418 s (nI (vn d - 1)) (nI (40 * v + (vn d - 1))) = some (s1, ()) ∧ KMn s1 (k7 d k (vn d - 1) (ps tk)) ∧ NM s s1 := by
    intro s k hTs hs0 hks hkz hga h23
    obtain ⟨bt1, bt2⟩ := bitT _ f2 6 (by omega)
    unfold f_X9_field_418
    rw [if_pos hs0, ck_nI hg (by omega), hga 4 (by omega), fm'.1.1]
    by_cases e7 : vk d (vn d - 1) = 7
    · rw [e7, if_pos (show nI 7 = (7 : Int32) from rfl), ck_nI hg (by omega), hga 5 (by omega), fm'.1.2.1, show ((nI (vo d (vn d - 1)) >>> ((6 : Int32) &&& 31)) &&& 1) = nI (bt (vo d (vn d - 1)) 6) from bt1]
      by_cases e6 : bt (vo d (vn d - 1)) 6 = 1
      · rw [e6, if_neg (show ¬ nI 1 = (0 : Int32) by decide)]
        refine ⟨s, rfl, ?_, NM.refl' s⟩
        unfold k7
        rw [if_neg (fun h => h.2 e6)]
        exact hks
      · rw [if_pos (show nI (bt (vo d (vn d - 1)) 6) = (0 : Int32) by rw [show bt (vo d (vn d - 1)) 6 = 0 by omega]; rfl), ck_nI (by omega) (by omega), h23, ck_nI (by omega) (by omega), (hTs.2.2 tk c3).2.1]
        obtain ⟨s1, b1, b2, b4, b5⟩ := m_note (e := 7) (p := ps tk) hks hkz (by omega) (by omega) (by omega)
        have b1 : f_X9_note _ 7 (nI (ps tk)) = _ := b1
        rw [b1, cl_mk]
        refine ⟨s1, rfl, ?_, b4, b5⟩
        unfold k7
        rw [if_pos ⟨e7, e6⟩]
        exact b2
    · rw [if_neg (show ¬ nI (vk d (vn d - 1)) = (7 : Int32) from fun e => e7 ((ln_eq (b := 7) (by omega) (by omega)).mp e))]
      refine ⟨s, rfl, ?_, NM.refl' s⟩
      unfold k7
      rw [if_neg (fun h => e7 h.1)]
      exact hks
  by_cases cb : ks t = 123
  · -- a brace
    by_cases c4' : q 7 0 = 4
    · left
      obtain ⟨τ', g1, g2, g3⟩ := m_fails (v := v) (e := 3) (q := ps t) h0 (by omega) (by omega)
      have g1 : f_X9_fails τ 3 (nI (ps t)) = _ := g1
      refine ⟨3, ps t, τ', rn_bad (e := 3) (σ' := σ) hv hX w ht (by omega) (by omega) ?_ (QX.refl' v σ), ?_, g2, g3⟩
      · rw [hst]
        unfold f_X5_stepHeadEnd f_X5_stepHeadEnd_23
        rw [x_kind hX w htc, cl_mk, cb, if_pos (show nI 123 = (123 : Int32) from rfl), if_pos (show nI 123 = (123 : Int32) from rfl), px.2.2.1, c4', if_neg (by decide)]
        rfl
      · unfold f_X9_field_299
        rw [if_pos h0, h4, ck_nI (by omega) (by omega), (hT.2.2 t htc).1, cb, if_pos (show nI 123 = (123 : Int32) from rfl), pm.2.1, c4', if_pos (by decide), ck_nI (by omega) (by omega), (hT.2.2 t htc).2.1, g1, cl_mk]
    · right
      have hD : q 7 0 < 4 := by omega
      obtain ⟨s1, b1, b2, b3⟩ := xe39
      -- the class: is it a holder
      have X1 := (QX.sx (v := v) (SX.bl b3.1 b3.2.1 b3.2.2)).tkx hv hX
      have xo : ∃ s2, f_X5_openHolder s1 (nI t) = f_X5_openHolder_27 s2 ∧ KXn s2 (k6 d (k7 d (q 7 3) (vn d - 1) (ps tk)) (vn d - 1) (ps t)) ∧ NX s1 s2 := by
        unfold f_X5_openHolder
        rw [show gr s1 3 0 = 40 * v + (vn d - 1) by show s1.2.1 3 0 = _; rw [b3.1]; exact c2, b3.2.1 _ _ (by omega), fx.1.1, x_hold f1, cl_mk]
        by_cases eh : vk d (vn d - 1) = 5 ∨ vk d (vn d - 1) = 6
        · rw [bI_yes eh, if_neg i10]
          refine ⟨s1, rfl, ?_, NX.refl' s1⟩
          unfold k6
          rw [if_pos eh]
          exact b2
        · rw [bI_no eh, if_pos rfl, x_place X1 w htc, cl_mk]
          obtain ⟨s2, e1, e2, e3, e4, e5⟩ := x_blame (e := 6) (p := ps t) b2 (k7_kz hz) (by omega) (by omega) (by omega)
          have e1 : f_X5_blame _ 6 (nI (ps t)) = _ := e1
          rw [e1, cl_mk]
          refine ⟨s2, rfl, ?_, e3, e4, e5⟩
          unfold k6
          rw [if_neg eh]
          exact e2
      obtain ⟨s2, e1, e2, e3⟩ := xo
      have n12 := b3.trans e3
      obtain ⟨sf, hsf⟩ : ∃ sf, sf = si (si (sa s2 8 11 (q 7 0) (nI (vn d - 1))) 410 0 (nI (q 7 0 + 1))) 409 0 0 := ⟨_, rfl⟩
      have xstep : f_X5_step σ (nI t) = some (sf, 0) := by
        rw [hst]
        unfold f_X5_stepHeadEnd f_X5_stepHeadEnd_23
        rw [x_kind hX w htc, cl_mk, cb, if_pos (show nI 123 = (123 : Int32) from rfl), if_pos (show nI 123 = (123 : Int32) from rfl), px.2.2.1, if_pos (show nI (q 7 0) < (4 : Int32) from (ln_lt (b := 4) (by omega) (by omega)).mpr hD)]
        rw [cb] at b1
        rw [b1]
        unfold f_X5_stepHeadEnd_80
        rw [if_pos (show nI 123 = (123 : Int32) from rfl), e1]
        unfold f_X5_openHolder_27
        rw [n12.2.1 _ _ (by omega), px.2.2.1, if_neg (show ¬ (4 : Int32) ≤ nI (q 7 0) from nI_ge (b := 4) (by omega) (by omega)), show lenX 11 = 4 from rfl, ck_nI hD (by omega), show gr s2 2 0 = v by show s2.2.1 2 0 = _; rw [n12.1]; exact px.1, n12.2.1 _ _ (by omega), px.2.1.1, ln_pred c0]
        simp only [bnd]
        rw [show gi (sa s2 8 11 (q 7 0) (nI (vn d - 1))) 410 0 + 1 = nI (q 7 0 + 1) by simp only [gi_si, gi_sr, gi_sg, gi_sa, gr_si, rr_sr, gr_sg, gr_sa, ga_si, ga_sr, ga_sg, ga_sa, true_and, and_true, false_and, and_false, Nat.reduceEqDiff, ↓reduceIte]; rw [n12.2.1 _ _ (by omega), px.2.2.1, nI_1], cl_mk]
        unfold f_X5_stepHeadEnd_91
        simp only [bnd]
        rw [hsf]
      -- the reference
      have mo : ∃ t2, f_X9_field_299 τ (nI (vn d - 1)) (nI (40 * v + (vn d - 1))) = f_X9_field_379 f_X9_field_418 t2 (nI (vn d - 1)) (nI (40 * v + (vn d - 1))) ∧ KMn t2 (k6 d (q 7 3) (vn d - 1) (ps t)) ∧ NM τ t2 := by
        unfold f_X9_field_299
        rw [if_pos h0, h4, ck_nI (by omega) (by omega), (hT.2.2 t htc).1, cb, if_pos (show nI 123 = (123 : Int32) from rfl), pm.2.1, if_neg (show ¬ nI (q 7 0) = (4 : Int32) from fun e => c4' ((ln_eq (b := 4) (by omega) (by omega)).mp e)), ck_nI hg (by omega), fm'.1.1]
        by_cases e5 : vk d (vn d - 1) = 5
        · rw [if_pos (show nI (vk d (vn d - 1)) = (5 : Int32) by rw [e5]; rfl)]
          refine ⟨τ, rfl, ?_, NM.refl' τ⟩
          unfold k6
          rw [if_pos (Or.inl e5)]
          exact pm.2.2.2.2.2.1
        · rw [if_neg (show ¬ nI (vk d (vn d - 1)) = (5 : Int32) from fun e => e5 ((ln_eq (b := 5) (by omega) (by omega)).mp e)), ck_nI hg (by omega), fm'.1.1]
          by_cases e6 : vk d (vn d - 1) = 6
          · rw [if_pos (show nI (vk d (vn d - 1)) = (6 : Int32) by rw [e6]; rfl)]
            refine ⟨τ, rfl, ?_, NM.refl' τ⟩
            unfold k6
            rw [if_pos (Or.inr e6)]
            exact pm.2.2.2.2.2.1
          · rw [if_neg (show ¬ nI (vk d (vn d - 1)) = (6 : Int32) from fun e => e6 ((ln_eq (b := 6) (by omega) (by omega)).mp e)), ck_nI (by omega) (by omega), (hT.2.2 t htc).2.1]
            obtain ⟨s2, g1, g2, g4, g5⟩ := m_note (e := 6) (p := ps t) pm.2.2.2.2.2.1 hz (by omega) (by omega) (by omega)
            have g1 : f_X9_note _ 6 (nI (ps t)) = _ := g1
            rw [g1, cl_mk]
            refine ⟨s2, rfl, ?_, g4, g5⟩
            unfold k6
            rw [if_neg (fun h => h.elim e5 e6)]
            exact g2
      obtain ⟨t2, m1, m2, m3⟩ := mo
      obtain ⟨t3, ht3⟩ : ∃ t3, t3 = si (si (sa t2 1 24 (q 7 0) (nI (vn d - 1))) 847 0 (nI (q 7 0 + 1))) 834 0 (nI (t + 1)) := ⟨_, rfl⟩
      have sm3 : SM τ t3 := by
        rw [ht3]
        exact (SM.nt m3.1 m3.2).trans (((SM.sa (by omega) _ _).trans (SM.si (by omega) _ _)).trans (SM.si (by omega) _ _))
      have m379 : f_X9_field_379 f_X9_field_418 t2 (nI (vn d - 1)) (nI (40 * v + (vn d - 1))) = f_X9_field_418 t3 (nI (vn d - 1)) (nI (40 * v + (vn d - 1))) := by
        unfold f_X9_field_379
        rw [m3.1 _ _ (by omega), pm.2.1, ck_nI (by omega) (by omega)]
        simp only [bnd]
        rw [show gi (sa t2 1 24 (q 7 0) (nI (vn d - 1))) 847 0 + 1 = nI (q 7 0 + 1) by simp only [gi_si, gi_sr, gi_sg, gi_sa, gr_si, rr_sr, gr_sg, gr_sa, ga_si, ga_sr, ga_sg, ga_sa, true_and, and_true, false_and, and_false, Nat.reduceEqDiff, ↓reduceIte]; rw [m3.1 _ _ (by omega), pm.2.1, nI_1], show gi (si (sa t2 1 24 (q 7 0) (nI (vn d - 1))) 847 0 (nI (q 7 0 + 1))) 834 0 + 1 = nI (t + 1) by simp only [gi_si, gi_sr, gi_sg, gi_sa, gr_si, rr_sr, gr_sg, gr_sa, ga_si, ga_sr, ga_sg, ga_sa, true_and, and_true, false_and, and_false, Nat.reduceEqDiff, ↓reduceIte]; rw [m3.1 _ _ (by omega), h4, nI_1], ht3]
      have ga3 : ∀ i, i ≠ 24 → ga t3 1 i = ga τ 1 i := by
        intro i hi
        rw [ht3]
        simp only [gi_si, gi_sr, gi_sg, gi_sa, gr_si, rr_sr, gr_sg, gr_sa, ga_si, ga_sr, ga_sg, ga_sa, true_and, and_true, false_and, and_false, Nat.reduceEqDiff, ↓reduceIte]
        rw [if_neg (by omega), m3.2]
      have gi3 : ∀ f i, ¬ (f = 834 ∨ f = 836 ∨ f = 837 ∨ f = 847) → gi t3 f i = gi τ f i := by
        intro f i hh
        rw [ht3]
        simp only [gi_si, gi_sr, gi_sg, gi_sa, gr_si, rr_sr, gr_sg, gr_sa, ga_si, ga_sr, ga_sg, ga_sa, true_and, and_true, false_and, and_false, Nat.reduceEqDiff, ↓reduceIte]
        rw [if_neg (by omega), if_neg (by omega), m3.1 _ _ (by omega)]
      obtain ⟨t4, n1, n2, n3⟩ := me418 t3 (k6 d (q 7 3) (vn d - 1) (ps t)) ((QM.sm (v := v) sm3).tkm hT) (by rw [gi3 _ _ (by omega)]; exact h0) (by rw [ht3]; unfold KMn; simp only [gi_si, gi_sr, gi_sg, gi_sa, gr_si, rr_sr, gr_sg, gr_sa, ga_si, ga_sr, ga_sg, ga_sa, true_and, and_true, false_and, and_false, Nat.reduceEqDiff, ↓reduceIte]; exact m2) (k6_kz hz) (fun i hi => ga3 i (by omega)) (by rw [ga3 23 (by omega)]; exact c5)
      rw [k76] at n2
      obtain ⟨K, hK⟩ : ∃ K, K = k6 d (k7 d (q 7 3) (vn d - 1) (ps tk)) (vn d - 1) (ps t) := ⟨_, rfl⟩
      rw [← hK] at e2 n2
      have cwk := CW_k cw (k := K) (by rw [hK]; exact Nat.le_trans k6_le k7_le) (by rw [hK]; exact k6_kz (k7_kz hz))
      have cwo := CW_open (j := vn d - 1) cwk (by rw [qs_o (by decide)]; exact hD) (by omega) (by rw [qs_o (by decide)]; exact c1)
      rw [qs_o (show ¬ (7 = 7 ∧ 0 = 3) by omega)] at cwo
      have sxf : SX σ sf := by
        rw [hsf]
        exact (SX.bl n12.1 n12.2.1 n12.2.2).trans (((SX.sa (by omega) _ _).trans (SX.si (by omega) _ _)).trans (SX.si (by omega) _ _))
      have smf := sm3.trans (SM.nt n3.1 n3.2)
      refine ⟨sf, t4, t + 1, d, _, by omega, ⟨?_, ?_, cwo.mono (by omega), (QX.sx (v := v) sxf).tkx hv hX, (QM.sm (v := v) smf).tkm hT, ?_, by omega⟩, by rw [hsf]; simp only [gi_si, gi_sr, gi_sg, gi_sa, gr_si, rr_sr, gr_sg, gr_sa, ga_si, ga_sr, ga_sg, ga_sa, true_and, and_true, false_and, and_false, Nat.reduceEqDiff, ↓reduceIte], rn_ok hX w ht xstep, QX.sx sxf, QM.sm smf, by rw [m1, m379, n1]⟩
      · obtain ⟨a1, a2, a3, a4, a5, a6, a7⟩ := px
        have gif : ∀ f i, ¬ (f = 409 ∨ f = 410 ∨ f = 415 ∨ f = 416) → gi sf f i = gi σ f i := by
          intro f i hh
          rw [hsf]
          simp only [gi_si, gi_sr, gi_sg, gi_sa, gr_si, rr_sr, gr_sg, gr_sa, ga_si, ga_sr, ga_sg, ga_sa, true_and, and_true, false_and, and_false, Nat.reduceEqDiff, ↓reduceIte]
          rw [if_neg (by omega), if_neg (by omega), n12.2.1 _ _ (by omega)]
        have gaf : ∀ i, i ≠ 11 → ga sf 8 i = ga σ 8 i := by
          intro i hi
          rw [hsf]
          simp only [gi_si, gi_sr, gi_sg, gi_sa, gr_si, rr_sr, gr_sg, gr_sa, ga_si, ga_sr, ga_sg, ga_sa, true_and, and_true, false_and, and_false, Nat.reduceEqDiff, ↓reduceIte]
          rw [if_neg (by omega), n12.2.2]
        unfold CX EX lmq fstE
        simp (disch := omega) only [qs_o, qs_s]
        unfold EX fstE at a7
        unfold lmq at a5
        refine ⟨by rw [sxf.1 2 0 (by omega), a1], a2.sx sxf, ?_, fun i hi => ?_, ?_, ?_, ?_⟩
        · rw [hsf]
          simp only [gi_si, gi_sr, gi_sg, gi_sa, gr_si, rr_sr, gr_sg, gr_sa, ga_si, ga_sr, ga_sg, ga_sa, true_and, and_true, false_and, and_false, Nat.reduceEqDiff, ↓reduceIte]
        · rw [hsf]
          simp only [gi_si, gi_sr, gi_sg, gi_sa, gr_si, rr_sr, gr_sg, gr_sa, ga_si, ga_sr, ga_sg, ga_sa, true_and, and_true, false_and, and_false, Nat.reduceEqDiff, ↓reduceIte]
          unfold upd
          by_cases e : i = q 7 0
          · subst e
            rw [if_pos rfl, qs_s]
          · rw [if_neg e, qs_o (by omega), qs_o (by omega), n12.2.2, a4 i (by omega)]
        · rw [gif _ _ (by omega), a5]
        · rw [hsf]
          unfold KXn
          simp only [gi_si, gi_sr, gi_sg, gi_sa, gr_si, rr_sr, gr_sg, gr_sa, ga_si, ga_sr, ga_sg, ga_sa, true_and, and_true, false_and, and_false, Nat.reduceEqDiff, ↓reduceIte]
          exact e2
        · rw [gaf 12 (by omega), gaf 13 (by omega), gaf 14 (by omega)]
          exact a7
      · obtain ⟨a1, a2, a3, a4, a5, a6, a7, a8, a9, a10⟩ := pm
        have gif : ∀ f i, ¬ (f = 834 ∨ f = 836 ∨ f = 837 ∨ f = 847) → gi t4 f i = gi τ f i := by
          intro f i hh
          rw [n3.1 _ _ (by omega), gi3 _ _ hh]
        unfold CM
        simp (disch := omega) only [qs_o, qs_s]
        refine ⟨a1.sm smf cw.lw, ?_, fun i hi => ?_, ?_, fun i hi => ?_, n2, ?_, fun i hi r hr => ?_, ?_, ?_⟩
        · rw [n3.1 _ _ (by omega), ht3]
          simp only [gi_si, gi_sr, gi_sg, gi_sa, gr_si, rr_sr, gr_sg, gr_sa, ga_si, ga_sr, ga_sg, ga_sa, true_and, and_true, false_and, and_false, Nat.reduceEqDiff, ↓reduceIte]
        · rw [n3.2, ht3]
          simp only [gi_si, gi_sr, gi_sg, gi_sa, gr_si, rr_sr, gr_sg, gr_sa, ga_si, ga_sr, ga_sg, ga_sa, true_and, and_true, false_and, and_false, Nat.reduceEqDiff, ↓reduceIte]
          unfold upd
          by_cases e : i = q 7 0
          · subst e
            rw [if_pos rfl, qs_s]
          · rw [if_neg e, qs_o (by omega), qs_o (by omega), m3.2, a3 i (by omega)]
        · rw [gif _ _ (by omega), a4]
        · rw [n3.2, ga3 22 (by omega), a5 i hi]
        · rw [gif _ _ (by omega), a7]
        · rw [n3.2, ga3 _ (by omega), qs_o (by omega), qs_o (by omega), qs_o (by omega), a8 i hi r hr]
        · rw [gif _ _ (by omega), a9]
        · rw [gif _ _ (by omega), a10]
      · rw [n3.1 _ _ (by omega), ht3]
        simp only [gi_si, gi_sr, gi_sg, gi_sa, gr_si, rr_sr, gr_sg, gr_sa, ga_si, ga_sr, ga_sg, ga_sa, true_and, and_true, false_and, and_false, Nat.reduceEqDiff, ↓reduceIte]
  · -- a semicolon
    have c59 : ks t = 59 := cm.resolve_left cb
    right
    obtain ⟨s1, b1, b2, b3⟩ := xe39
    have wo : f_X9_want τ 59 = _ := m_want_ok (k := 59) hT w htc h0 h4 c59
    have sm3 : SM τ (si τ 834 0 (nI (t + 1))) := SM.si (by omega) _ _
    obtain ⟨t4, n1, n2, n3⟩ := me418 (si τ 834 0 (nI (t + 1))) (q 7 3) ((QM.sm (v := v) sm3).tkm hT) h0 pm.2.2.2.2.2.1 hz (fun i hi => rfl) c5
    have sxf : SX σ (si s1 409 0 0) := (SX.bl b3.1 b3.2.1 b3.2.2).trans (SX.si (by omega) _ _)
    have smf := sm3.trans (SM.nt n3.1 n3.2)
    have xstep : f_X5_step σ (nI t) = some (si s1 409 0 0, 0) := by
      rw [hst]
      unfold f_X5_stepHeadEnd f_X5_stepHeadEnd_23
      rw [x_kind hX w htc, cl_mk, c59, if_neg (show ¬ nI 59 = (123 : Int32) by decide), if_pos (show nI 59 = (59 : Int32) from rfl), if_neg (show ¬ nI 59 = (123 : Int32) by decide)]
      rw [c59] at b1
      rw [b1]
      unfold f_X5_stepHeadEnd_80
      rw [if_neg (show ¬ nI 59 = (123 : Int32) by decide)]
      rfl
    have cwk := CW_k cw (k := k7 d (q 7 3) (vn d - 1) (ps tk)) k7_le (k7_kz hz)
    refine ⟨si s1 409 0 0, t4, t + 1, d, _, by omega, ⟨(CX_k px b2 b3.1 b3.2.1 b3.2.2).s9 (by omega) 0, CM_k (τ := si τ 834 0 (nI (t + 1))) cw.lw (pm.s4 _) n2 n3.1 n3.2, cwk.mono (by omega), (QX.sx (v := v) sxf).tkx hv hX, (QM.sm (v := v) smf).tkm hT, ?_, by omega⟩, by simp only [gi_si, gi_sr, gi_sg, gi_sa, gr_si, rr_sr, gr_sg, gr_sa, ga_si, ga_sr, ga_sg, ga_sa, true_and, and_true, false_and, and_false, Nat.reduceEqDiff, ↓reduceIte], rn_ok hX w ht xstep, QX.sx sxf, QM.sm smf, ?_⟩
    · rw [n3.1 _ _ (by omega)]
      simp only [gi_si, gi_sr, gi_sg, gi_sa, gr_si, rr_sr, gr_sg, gr_sa, ga_si, ga_sr, ga_sg, ga_sa, true_and, and_true, false_and, and_false, Nat.reduceEqDiff, ↓reduceIte]
    · unfold f_X9_field_299 f_X9_field_412
      rw [if_pos h0, h4, ck_nI (by omega) (by omega), (hT.2.2 t htc).1, c59, if_neg (show ¬ nI 59 = (123 : Int32) by decide), wo, cl_mk, n1]
end Rr
