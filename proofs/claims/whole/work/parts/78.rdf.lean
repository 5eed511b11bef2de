/-! Reading: fields whole, rules. -/
/-- an item's outcome -/
def ITM (v : Nat) (tx : List Nat) (c : Nat) (ks ps ls : Nat → Nat) (σ τ : St) (t : Nat) (b : Option (St × Unit)) : Prop := BD v σ τ (Rn σ t) b ∨ ∃ σ' τ' t' d' q', t < t' ∧ PI v tx c ks ps ls σ' τ' t' d' q' ∧ gi σ' 409 0 = 0 ∧ Rn σ t = Rn σ' t' ∧ QX v σ σ' ∧ QM v τ τ' ∧ b = some (τ', ())
section Rs
variable {σ τ σ' τ' : St} {v t : Nat} {d : Vd} {q q' : Nat → Nat → Nat} {tx : List Nat} {c : Nat} {ks ps ls : Nat → Nat}
theorem f_field (hv : v < 8) (w : TKW tx c ks ps ls) (p : PI v tx c ks ps ls σ τ t d q) (ht : t < c) (h0 : gi σ 409 0 = 0) (hf : isFN tx ks ps ls t) : ITM v tx c ks ps ls σ τ t (f_X9_field τ (nI v)) := by
  have hc := w.cc
  rcases f_head hv w p ht h0 hf with hb | ⟨s1, t1, d1, q1, p1, cu1, h9, r1, qx1, qm1, e1⟩
  · exact Or.inl hb
  have ht3 := p1.2.2.2.2.2.2
  have hk3 := w.kk ht3
  have X1 := p1.2.2.2.1
  rw [e1]
  unfold mNext
  -- what the end gives
  have ende : ∀ (s t' : St) (u : Nat) (d' : Vd) (q' : Nat → Nat → Nat), t < u → vn d' = vn d1 → PI v tx c ks ps ls s t' u d' q' → CU v c s t' d' q' → ¬ gi s 409 0 = 0 → f_X5_step s (nI u) = f_X5_stepHeadEnd s (nI u) → Rn σ t = Rn s u → QX v σ s → QM v τ t' → ITM v tx c ks ps ls σ τ t (f_X9_field_299 t' (nI (vn d1 - 1)) (nI (40 * v + (vn d1 - 1)))) := by
    intro s t' u d' q' hu hn pp cc hh hst hr hqx hqm
    rcases f_end hv w pp cc hh hst with hb | ⟨s2, t2, u2, d2, q2, k1, k2, k3, k4, k5, k6, k7⟩
    · rw [hn] at hb
      left
      rw [hr]
      exact hb.pre hqx hqm
    · rw [hn] at k7
      exact Or.inr ⟨s2, t2, u2, d2, q2, by omega, k2, k3, hr.trans k4, hqx.trans k5, hqm.trans k6, k7⟩
  by_cases c4 : ks (t + 3) = 40
  · rw [if_pos c4]
    have ht3' : t + 3 < c := w.lt ht3 (by omega)
    have r2 : Rn s1 (t + 3) = Rn (si s1 409 0 4) (t + 4) := rn_ok X1 w ht3' (by
      rw [xst_3 h9]
      unfold f_X5_stepBehindKind
      rw [x_kind X1 w ht3, cl_mk, c4, if_pos (show nI 40 = (40 : Int32) from rfl)]
      rfl)
    have p2 := p1.s hv (x := 4) (t' := t + 4) (by omega) (by omega)
    have cu2 := cu1.s (x := 4) (y := nI (t + 4))
    have cnt := p1.2.2.1.2.2.2.2.2.2.2.2.1
    have qx2 := qx1.trans (QX.s4 (v := v) (f := 409) (by omega) s1 4)
    have qm2 := qm1.trans (QM.si (v := v) (f := 834) (by omega) t1 (nI (t + 4)))
    rcases f_opt hv w p2 cu2 (by simp only [gi_si, gi_sr, gi_sg, gi_sa, gr_si, rr_sr, gr_sg, gr_sa, ga_si, ga_sr, ga_sg, ga_sa, true_and, and_true, false_and, and_false, Nat.reduceEqDiff, ↓reduceIte]) (by omega) with ⟨e, qq, τ', g1, g2, g3, g4⟩ | ⟨s2, t2, u, d2, q2, g1, g2, g3, g4, g5, g6, g7, g8, g9⟩
    · left
      rw [g2, cl_mk, m253_no g3 _ _ (by have := fl_big; omega), r1, r2]
      exact ⟨e, qq, τ', g1.pre qx2, rfl, g3, qm2.trans g4⟩
    · rw [g9, cl_mk]
      have hu := g3.2.2.2.2.2.2
      rcases f_253 hv w (c - u) u (by omega) s2 t2 d2 q2 g3 g4 g5 fl (by have := fl_big; omega) with hb | ⟨s3, t3, u3, d3, q3, k1, k2, k3, k4, k5, k6, k7, k8, k9⟩
      · left
        rw [g2] at hb
        rw [r1, r2, g6]
        exact hb.pre (qx2.trans g7) (qm2.trans g8)
      · rw [g2] at k9
        rw [k9]
        exact ende s3 t3 u3 d3 q3 (by omega) (k2.trans g2) k3 k4 (n409 k5 (by decide)) (xst_10 k5 _) (by rw [r1, r2, g6, k6]) ((qx2.trans g7).trans k7) ((qm2.trans g8).trans k8)
  · rw [if_neg c4]
    refine ende s1 t1 (t + 3) d1 q1 (by omega) rfl p1 cu1 (n409 h9 (by decide)) ?_ r1 qx1 qm1
    rw [xst_3 h9]
    unfold f_X5_stepBehindKind
    rw [x_kind X1 w ht3, cl_mk, if_neg (show ¬ nI (ks (t + 3)) = (40 : Int32) from fun e => c4 ((ln_eq (b := 40) (by omega) (by omega)).mp e)), cl_id]
/-! rules -/
/-- a rule that is being read -/
def RPr (v : Nat) (d : Vd) (σ0 τ0 σ τ : St) (t s : Nat) (F T : List Nat) : Prop := ZR v (8 * v + vr d) σ0 σ ∧ ZRm v (8 * v + vr d) τ0 τ ∧ gr σ 4 0 = 8 * v + vr d ∧ gi σ 604 v = nI (vr d + 1) ∧ OW σ (645 + 2 * (8 * v + vr d)) F ∧ OW σ (646 + 2 * (8 * v + vr d)) T ∧ gi σ 302 (8 * v + vr d) = nI s ∧ ga τ 1 11 (8 * v + vr d) = nI F.length ∧ Bs (ga τ 2 5) (12 * (8 * v + vr d)) F ∧ ga τ 1 12 (8 * v + vr d) = nI T.length ∧ Bs (ga τ 2 6) (12 * (8 * v + vr d)) T ∧ ga τ 4 0 (8 * v + vr d) = nI s ∧ gi τ 834 0 = nI t ∧ ga τ 1 1 v = nI (vr d) ∧ (∀ f i, f ≠ 834 → gi τ f i = gi τ0 f i)
theorem CW_aR {k s : Nat} {F T : List Nat} (h : CW c ks ps t d q) (hr : vr d < 8) (hk : k < 8) (hs : s ≤ 1) (hF : F = [] ∨ Nm F) (hT : T = [] ∨ Nm T) (h0 : s = 0 → T = []) : CW c ks ps t (aR d k s F T) q := by
  obtain ⟨a1, a2, a3, a4, a5, a6, a7, a8, a9, a10, a11⟩ := h
  have dn : vr (aR d k s F T) = vr d + 1 := rfl
  refine ⟨⟨a1.1, by rw [dn]; omega, a1.2.2⟩, a2, a3, fun r hr' => ?_, a5, a6, a7, a8, a9, a10, a11⟩
  rw [dn] at hr'
  show (if r = vr d then k else rk d r) < 8 ∧ (if r = vr d then s else rs d r) ≤ 1 ∧ ((if r = vr d then F else rF d r) = [] ∨ Nm (if r = vr d then F else rF d r)) ∧ ((if r = vr d then T else rT d r) = [] ∨ Nm (if r = vr d then T else rT d r)) ∧ ((if r = vr d then s else rs d r) = 0 → (if r = vr d then T else rT d r) = [])
  by_cases e : r = vr d
  · simp only [if_pos e]
    exact ⟨hk, hs, hF, hT, h0⟩
  · simp only [if_neg e]
    exact a4 r (by omega)
theorem rule_tail (hv : v < 8) (w : TKW tx c ks ps ls) {σ0 τ0 : St} {t0 : Nat} (p : PI v tx c ks ps ls σ0 τ0 t0 d q) (hr8 : vr d < 8) {s : Nat} {F T : List Nat} (hs : s ≤ 1) (hF : F = [] ∨ Nm F) (hT' : T = [] ∨ Nm T) (hsT : s = 0 → T = []) (h : RPr v d σ0 τ0 σ τ t s F T) (htt : t0 < t) (htc : t ≤ c) (h9 : ¬ gi σ 409 0 = 0) (hst : f_X5_step σ (nI t) = f_X5_expect σ (nI t) 58 15) (hr : Rn σ0 t0 = Rn σ t) : ITM v tx c ks ps ls σ0 τ0 t0 (f_X9_rule_240 τ (nI v) (nI (8 * v + vr d))) := by
  obtain ⟨px, pm, cw, hX0, hT0, h40, _⟩ := p
  obtain ⟨b1, b2, b3, b4, b5, b6, b7, b8, b9, b10, b11, b12, b13, b14, b15⟩ := h
  have hc := w.cc
  have hg : 8 * v + vr d < 64 := by omega
  have hX := (QX.zr hr8 b1).tkx hv hX0
  have hT := (QM.zr hr8 b2).tkm hT0
  have h0 : gi τ 835 0 = 0 := by rw [b15 _ _ (by omega)]; exact pm.2.2.2.2.2.2.2.2.2
  -- a failed one stays failed
  have stuck2 : ∀ (x : St) (e qq : Nat), MF x e qq → QM v τ0 x → ∃ τ', (cl (f_X9_want x 59) fun s36 _ => ck (nI v) 8 fun j37 => ck (nI v) 8 fun j38 => bnd (sa s36 1 1 j38 ((ga s36 1 1 j37) + 1)) fun s39 => some (s39, ())) = some (τ', ()) ∧ MF τ' e qq ∧ QM v τ0 τ' := by
    intro x e qq hm hq
    rw [m_want_no hm, cl_mk, ck_nI hv (by omega), ck_nI hv (by omega)]
    exact ⟨_, rfl, hm, hq.trans (QM.zr hr8 (ZRm.s1 x _))⟩
  have stuck1 : ∀ (x : St) (e qq : Nat) (y : Int32), MF x e qq → QM v τ0 x → ∃ τ', (ck (nI (8 * v + vr d)) 64 fun j34 => bnd (sa x 1 13 j34 y) fun s35 => cl (f_X9_want s35 59) fun s36 _ => ck (nI v) 8 fun j37 => ck (nI v) 8 fun j38 => bnd (sa s36 1 1 j38 ((ga s36 1 1 j37) + 1)) fun s39 => some (s39, ())) = some (τ', ()) ∧ MF τ' e qq ∧ QM v τ0 τ' := by
    intro x e qq y hm hq
    rw [ck_nI hg (by omega)]
    simp only [bnd]
    exact stuck2 (sa x 1 13 (8 * v + vr d) y) e qq hm (hq.trans (QM.zr hr8 (ZRm.ur (UR.s1 (by omega) rfl _ _))))
  unfold f_X9_rule_240
  by_cases c1 : ks t = 58
  rotate_left
  · left
    obtain ⟨s17, f1, f2, f3⟩ := m_want_bad (v := v) (k := 58) hT w htc h0 b13 c1 (by omega)
    have f1 : f_X9_want _ 58 = _ := f1
    rw [f1, cl_mk, m_kind_no f2, cl_mk]
    obtain ⟨τ', g1, g2, g3⟩ := stuck1 s17 _ _ (-1) f2 ((QM.zr hr8 b2).trans f3)
    refine ⟨2, ps t, τ', ?_, g1, g2, g3⟩
    rw [hr]
    refine XF.pre ?_ (QX.zr hr8 b1)
    refine rn_want hv hX w htc (Or.inl h9) (fun hlt => ⟨σ, ?_, QX.refl' v σ⟩)
    rw [hst]
    exact x_exp_no (k := 58) hX w htc c1 (by omega) 15
  have ht : t < c := w.lt htc (by omega)
  have wo : f_X9_want τ 58 = _ := m_want_ok (k := 58) hT w htc h0 b13 c1
  rw [wo, cl_mk]
  have r1 : Rn σ t = Rn (si σ 409 0 15) (t + 1) := rn_ok hX w ht (by rw [hst]; exact x_exp_ok (k := 58) hX w htc c1 15)
  have X1 := (QX.s4 (v := v) (f := 409) (by omega) σ 15).tkx hv hX
  have T1 := (QM.si (v := v) (f := 834) (by omega) τ (nI (t + 1))).tkm hT
  have q1 : gi (si σ 409 0 15) 409 0 = 15 := by simp only [gi_si, gi_sr, gi_sg, gi_sa, gr_si, rr_sr, gr_sg, gr_sa, ga_si, ga_sr, ga_sg, ga_sa, true_and, and_true, false_and, and_false, Nat.reduceEqDiff, ↓reduceIte]
  have p1 : gi (si τ 834 0 (nI (t + 1))) 834 0 = nI (t + 1) := by simp only [gi_si, gi_sr, gi_sg, gi_sa, gr_si, rr_sr, gr_sg, gr_sa, ga_si, ga_sr, ga_sg, ga_sa, true_and, and_true, false_and, and_false, Nat.reduceEqDiff, ↓reduceIte]
  have o1 : gi (si τ 834 0 (nI (t + 1))) 835 0 = 0 := h0
  have zx1 : ZR v (8 * v + vr d) σ0 (si σ 409 0 15) := b1.trans (ZR.s9 _ _)
  have zm1 : ZRm v (8 * v + vr d) τ0 (si τ 834 0 (nI (t + 1))) := b2.trans (ZRm.s3 _ _)
  cases ek : kOf tx ks ps ls (t + 1) with
  | none =>
    left
    obtain ⟨s20, f1, f2, f3⟩ := m_kind_bad (v := v) T1 w (show t + 1 ≤ c by omega) o1 p1 ek
    rw [f1, cl_mk]
    obtain ⟨τ', g1, g2, g3⟩ := stuck1 s20 _ _ (-1) f2 ((QM.zr hr8 zm1).trans f3)
    refine ⟨2, ps (t + 1), τ', ?_, g1, g2, g3⟩
    rw [hr, r1]
    refine XF.pre ?_ (QX.zr hr8 zx1)
    refine rn_want hv X1 w (by omega) (Or.inl (n409 q1 (by decide))) (fun hlt => ⟨_, ?_, QX.refl' v _⟩)
    rw [xst_15 q1]
    unfold f_X5_stepRuleKind
    rw [x_kof X1 w (by omega), cl_mk, ek, if_neg (show ¬ (0 : Int32) ≤ oI none by decide)]
  | some k =>
    have hk8 := (kOf_ok ek).1
    have ht1 : t + 1 < c := w.lt (by omega) (by rw [(kOf_ok ek).2]; omega)
    rw [m_kind_ok T1 w (by omega) o1 p1 ek, cl_mk, ck_nI hg (by omega)]
    simp only [bnd]
    have r2 : Rn (si σ 409 0 15) (t + 1) = Rn (si (si (si σ 409 0 15) 303 (8 * v + vr d) (nI k)) 409 0 17) (t + 2) := rn_ok X1 w ht1 (by
      rw [xst_15 q1]
      unfold f_X5_stepRuleKind
      rw [x_kof X1 w (by omega), cl_mk, ek, if_pos (show (0 : Int32) ≤ oI (some k) from nI_pos' (by omega)), show gr (si σ 409 0 15) 4 0 = 8 * v + vr d from b3]
      rfl)
    obtain ⟨s2, hs2⟩ : ∃ s2, s2 = si (si (si σ 409 0 15) 303 (8 * v + vr d) (nI k)) 409 0 17 := ⟨_, rfl⟩
    obtain ⟨t2, ht2⟩ : ∃ t2, t2 = sa (si (si τ 834 0 (nI (t + 1))) 834 0 (nI (t + 1 + 1))) 1 13 (8 * v + vr d) (nI k) := ⟨_, rfl⟩
    have zx2 : ZR v (8 * v + vr d) σ0 s2 := by
      rw [hs2]
      exact zx1.trans ((ZR.si (by omega) _ _).trans (ZR.s9 _ _))
    have zm2 : ZRm v (8 * v + vr d) τ0 t2 := by
      rw [ht2]
      exact zm1.trans ((ZRm.s3 _ _).trans (ZRm.ur (UR.s1 (by omega) rfl _ _)))
    have X2 := (QX.zr hr8 zx2).tkx hv hX0
    have T2 := (QM.zr hr8 zm2).tkm hT0
    have q2 : gi s2 409 0 = 17 := by rw [hs2]; simp only [gi_si, gi_sr, gi_sg, gi_sa, gr_si, rr_sr, gr_sg, gr_sa, ga_si, ga_sr, ga_sg, ga_sa, true_and, and_true, false_and, and_false, Nat.reduceEqDiff, ↓reduceIte]
    have p2 : gi t2 834 0 = nI (t + 2) := by rw [ht2]; simp only [gi_si, gi_sr, gi_sg, gi_sa, gr_si, rr_sr, gr_sg, gr_sa, ga_si, ga_sr, ga_sg, ga_sa, true_and, and_true, false_and, and_false, Nat.reduceEqDiff, ↓reduceIte]
    have o2 : gi t2 835 0 = 0 := by rw [ht2]; exact h0
    rw [← ht2]
    rw [← hs2] at r2
    by_cases c3 : ks (t + 2) = 59
    rotate_left
    · left
      obtain ⟨s17, f1, f2, f3⟩ := m_want_bad (v := v) (k := 59) T2 w (show t + 2 ≤ c by omega) o2 p2 c3 (by omega)
      have f1 : f_X9_want _ 59 = _ := f1
      rw [f1, cl_mk, ck_nI hv (by omega), ck_nI hv (by omega)]
      refine ⟨2, ps (t + 2), sa s17 1 1 v (ga s17 1 1 v + 1), ?_, rfl, f2, ((QM.zr hr8 zm2).trans f3).trans (QM.zr hr8 (ZRm.s1 _ _))⟩
      rw [hr, r1, r2]
      refine XF.pre ?_ (QX.zr hr8 zx2)
      refine rn_want hv X2 w (by omega) (Or.inl (n409 q2 (by decide))) (fun hlt => ⟨s2, ?_, QX.refl' v s2⟩)
      rw [xst_17 q2]
      exact x_exp_no (k := 59) X2 w (by omega) c3 (by omega) 0
    · have ht2' : t + 2 < c := w.lt (by omega) (by omega)
      have wo2 : f_X9_want t2 59 = _ := m_want_ok (k := 59) T2 w (show t + 2 ≤ c by omega) o2 p2 c3
      have r3 : Rn s2 (t + 2) = Rn (si s2 409 0 0) (t + 3) := rn_ok X2 w ht2' (by rw [xst_17 q2]; exact x_exp_ok (k := 59) X2 w (by omega) c3 0)
      rw [wo2, cl_mk, ck_nI hv (by omega), ck_nI hv (by omega)]
      have n11 : ga (si t2 834 0 (nI (t + 2 + 1))) 1 1 v + 1 = nI (vr d + 1) := by
        rw [ht2]
        simp only [gi_si, gi_sr, gi_sg, gi_sa, gr_si, rr_sr, gr_sg, gr_sa, ga_si, ga_sr, ga_sg, ga_sa, true_and, and_true, false_and, and_false, Nat.reduceEqDiff, ↓reduceIte]
        rw [b14, nI_1]
      rw [n11]
      obtain ⟨t3, ht3⟩ : ∃ t3, t3 = sa (si t2 834 0 (nI (t + 2 + 1))) 1 1 v (nI (vr d + 1)) := ⟨_, rfl⟩
      have zx3 : ZR v (8 * v + vr d) σ0 (si s2 409 0 0) := zx2.trans (ZR.s9 _ _)
      have zm3 : ZRm v (8 * v + vr d) τ0 t3 := by
        rw [ht3]
        exact zm2.trans ((ZRm.s3 _ _).trans (ZRm.s1 _ _))
      have lF : F.length ≤ 12 := Nm.le hF
      have lT : T.length ≤ 12 := Nm.le hT'
      have g3 : ∀ f i, f ≠ 834 → gi t3 f i = gi τ0 f i := by
        intro f i hf
        rw [ht3, ht2]
        simp only [gi_si, gi_sr, gi_sg, gi_sa, gr_si, rr_sr, gr_sg, gr_sa, ga_si, ga_sr, ga_sg, ga_sa, true_and, and_true, false_and, and_false, Nat.reduceEqDiff, ↓reduceIte]
        rw [if_neg (by omega), if_neg (by omega), if_neg (by omega), b15 f i hf]
      refine Or.inr ⟨si s2 409 0 0, t3, t + 3, aR d k s F T, q, by omega, ⟨?_, ?_, (CW_aR cw hr8 hk8 hs hF hT' hsT).mono (by omega), (QX.zr hr8 zx3).tkx hv hX0, (QM.zr hr8 zm3).tkm hT0, ?_, by omega⟩, by simp only [gi_si, gi_sr, gi_sg, gi_sa, gr_si, rr_sr, gr_sg, gr_sa, ga_si, ga_sr, ga_sg, ga_sa, true_and, and_true, false_and, and_false, Nat.reduceEqDiff, ↓reduceIte], by rw [hr, r1, r2, r3], QX.zr hr8 zx3, QM.zr hr8 zm3, ?_⟩
      · obtain ⟨a1, a2, a3, a4, a5, a6, a7⟩ := px
        refine ⟨by rw [zx3.1 2 0 (by omega), a1], VX0_aR hv cw.1.1 a2 zx3 ?_ ?_, ?_, ?_, ?_, ?_, ?_⟩
        · rw [hs2]
          simp only [gi_si, gi_sr, gi_sg, gi_sa, gr_si, rr_sr, gr_sg, gr_sa, ga_si, ga_sr, ga_sg, ga_sa, true_and, and_true, false_and, and_false, Nat.reduceEqDiff, ↓reduceIte]
          exact b4
        · rw [hs2]
          have l1 := b5.lx (by rw [cap45]; exact lF)
          have l2 := b6.lx (by rw [cap46]; exact lT)
          refine ⟨?_, ?_, LX_of l1 ?_ rfl, LX_of l2 ?_ rfl⟩
          all_goals simp only [gi_si, gi_sr, gi_sg, gi_sa, gr_si, rr_sr, gr_sg, gr_sa, ga_si, ga_sr, ga_sg, ga_sa, true_and, and_true, false_and, and_false, Nat.reduceEqDiff, ↓reduceIte]
          exact b7
        · rw [zx3.2.1 _ _ (by omega), a3]
        · rw [zx3.2.2 _ _ (by omega)]
          exact a4
        · rw [zx3.2.1 _ _ (by omega), a5]
        · unfold KXn
          rw [zx3.2.1 _ _ (by omega), zx3.2.1 _ _ (by omega)]
          exact a6
        · unfold EX
          rw [zx3.2.2 _ _ (by omega), zx3.2.2 _ _ (by omega), zx3.2.2 _ _ (by omega)]
          exact a7
      · obtain ⟨a1, a2, a3, a4, a5, a6, a7, a8, a9, a10⟩ := pm
        refine ⟨VM0_aR cw.lw a1 zm3 ?_ ?_, ?_, ?_, ?_, ?_, ?_, ?_, ?_, ?_, ?_⟩
        · rw [ht3, a1_get]
        · have ga3 : ∀ r x, r ≠ 1 → r ≠ 13 → ga t3 1 r x = ga τ 1 r x := by
            intro r x h1 h2
            rw [ht3, a1_oth (Or.inl h1), ht2]
            show ga (sa _ 1 13 _ _) 1 r x = _
            rw [a1_oth (Or.inl h2)]
            rfl
          have gb3 : ∀ f i, f ≠ 1 → ga t3 f i = ga τ f i := by
            intro f i hf
            rw [ht3, ht2]
            simp only [gi_si, gi_sr, gi_sg, gi_sa, gr_si, rr_sr, gr_sg, gr_sa, ga_si, ga_sr, ga_sg, ga_sa, true_and, and_true, false_and, and_false, Nat.reduceEqDiff, ↓reduceIte]
            rw [if_neg (by omega), if_neg (by omega)]
          refine ⟨?_, ?_, ?_, ?_, ?_, ?_⟩
          · rw [ht3, a1_oth (by omega), ht2]
            show ga (sa _ 1 13 _ _) 1 13 _ = _
            rw [a1_get]
          · rw [gb3 4 0 (by omega), b12]
          · rw [ga3 _ _ (by omega) (by omega), b8]
          · rw [gb3 2 5 (by omega)]
            exact b9
          · rw [ga3 _ _ (by omega) (by omega), b10]
          · rw [gb3 2 6 (by omega)]
            exact b11
        · rw [g3 _ _ (by omega), a2]
        · intro i hi
          rw [zm3.2 _ _ _ (by omega), a3 i hi]
        · rw [g3 _ _ (by omega), a4]
        · intro i hi
          rw [zm3.2 _ _ _ (by omega), a5 i hi]
        · unfold KMn
          rw [g3 _ _ (by omega), g3 _ _ (by omega)]
          exact a6
        · rw [g3 _ _ (by omega), a7]
        · intro i hi r hr
          rw [zm3.2 _ _ _ (by omega), a8 i hi r hr]
        · rw [g3 _ _ (by omega), a9]
        · rw [g3 _ _ (by omega), a10]
      · rw [ht3]
        simp only [gi_si, gi_sr, gi_sg, gi_sa, gr_si, rr_sr, gr_sg, gr_sa, ga_si, ga_sr, ga_sg, ga_sa, true_and, and_true, false_and, and_false, Nat.reduceEqDiff, ↓reduceIte]
      · rw [ht3]
end Rs
