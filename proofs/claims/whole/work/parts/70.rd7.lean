/-! Reading: a field's head, both. -/
def BD (v : Nat) (σ τ : St) (a : Option (St × Int32)) (b : Option (St × Unit)) : Prop := ∃ e qq τ', XF v σ a e qq ∧ b = some (τ', ()) ∧ MF τ' e qq ∧ QM v τ τ'
theorem BD.pre {v : Nat} {σ τ σ1 τ1 : St} {a : Option (St × Int32)} {b : Option (St × Unit)} (h : BD v σ1 τ1 a b) (u : QX v σ σ1) (u' : QM v τ τ1) : BD v σ τ a b := by
  obtain ⟨e, qq, τ', h1, h2, h3, h4⟩ := h
  exact ⟨e, qq, τ', h1.pre u, h2, h3, u'.trans h4⟩
def PI (v : Nat) (tx : List Nat) (c : Nat) (ks ps ls : Nat → Nat) (σ τ : St) (t : Nat) (d : Vd) (q : Nat → Nat → Nat) : Prop := CX σ v d q ∧ CM τ v d q ∧ CW c ks ps t d q ∧ TKX σ tx c ks ps ls ∧ TKM τ tx c ks ps ls ∧ gi τ 834 0 = nI t ∧ t ≤ c
/-- the field that is being read -/
def CU (v c : Nat) (σ τ : St) (d : Vd) (q : Nat → Nat → Nat) : Prop := 0 < vn d ∧ vd d (vn d - 1) = q 7 0 ∧ gr σ 3 0 = 40 * v + (vn d - 1) ∧ ∃ tk, tk ≤ c ∧ gi σ 411 0 = nI tk ∧ ga τ 1 23 (vn d - 1) = nI tk
section R8
variable {σ τ σ' τ' : St} {v t : Nat} {d : Vd} {q : Nat → Nat → Nat} {tx : List Nat} {c : Nat} {ks ps ls : Nat → Nat}
theorem CW_aF {k : Nat} {N P : List Nat} {H : Option Nat} (h : CW c ks ps t d q) (hn : vn d < 40) (hk : k < 8) (hN : Nm N) (hp : HP d q N P H) (hu : 100000 ≤ q 7 3 → ∀ i, i < vn d → ¬ (oH d i = H ∧ nN d i = N)) : CW c ks ps t (aF d k N P H (q 7 0)) q := by
  obtain ⟨⟨_, a1b, a1c, a1d⟩, a2, a3, a4, a5, a6, a7, a8, a9, a10, a11⟩ := h
  have dH : ∀ j, oH (aF d k N P H (q 7 0)) j = if j = vn d then H else oH d j := fun j => rfl
  have dD : ∀ j, vd (aF d k N P H (q 7 0)) j = if j = vn d then q 7 0 else vd d j := fun j => rfl
  have dP : ∀ j, nP (aF d k N P H (q 7 0)) j = if j = vn d then P else nP d j := fun j => rfl
  have dN : ∀ j, nN (aF d k N P H (q 7 0)) j = if j = vn d then N else nN d j := fun j => rfl
  have dK : ∀ j, vk (aF d k N P H (q 7 0)) j = if j = vn d then k else vk d j := fun j => rfl
  have dO : ∀ j, vo (aF d k N P H (q 7 0)) j = if j = vn d then 0 else vo d j := fun j => rfl
  have dn : vn (aF d k N P H (q 7 0)) = vn d + 1 := rfl
  refine ⟨⟨by omega, a1b, a1c, a1d⟩, fun j hj => ?_, fun j hj h hh i h1 h2 => ?_, a4, fun k' hk' => ?_, fun j hj => ?_, fun hb => ⟨fun i j hij hj => ?_, fun j hj => ?_⟩, a8, a9, fun i hi => ?_, a11⟩
  · rw [dn] at hj
    unfold WTj
    rw [dN, dD, dH, dP]
    by_cases e : j = vn d
    · rw [if_pos e, if_pos e, if_pos e, if_pos e]
      refine ⟨hN, a1d, ?_⟩
      rcases hp with ⟨p1, p2, p3⟩ | ⟨h, p1, p2, p3, p4, p5, p6⟩
      · exact Or.inl ⟨p1, p2, p3⟩
      · refine Or.inr ⟨h, by omega, p1, ?_, ?_⟩
        · rw [dD, if_neg (by omega), p6]
        · rw [dP, if_neg (by omega), p5]
    · rw [if_neg e, if_neg e, if_neg e, if_neg e]
      obtain ⟨b1, b2, b3⟩ := a2 j (by omega)
      refine ⟨b1, b2, ?_⟩
      rcases b3 with b3 | ⟨h, p1, p2, p3, p4⟩
      · exact Or.inl b3
      · refine Or.inr ⟨h, p1, p2, ?_, ?_⟩
        · rw [dD, if_neg (by omega), p3]
        · rw [dP, if_neg (by omega), p4]
  · rw [dn] at hj
    rw [dH] at hh
    rw [dD, dD]
    by_cases e : j = vn d
    · rw [if_pos e] at hh
      rcases hp with ⟨p1, _⟩ | ⟨h', p1, p2, p3, p4, p5, p6⟩
      · rw [p1] at hh
        cases hh
      · rw [p1] at hh
        cases hh
        rw [if_neg (by omega), if_neg (by omega)]
        obtain ⟨b1, b2, b3⟩ := a5 (q 7 0 - 1) (by omega)
        have := b3 i (by omega) (by omega)
        omega
    · rw [if_neg e] at hh
      have : h < j := by
        rcases (a2 j (by omega)).2.2 with ⟨b, _⟩ | ⟨h', p1, p2, _⟩
        · rw [b] at hh
          cases hh
        · rw [p2] at hh
          cases hh
          exact p1
      rw [if_neg (by omega), if_neg (by omega)]
      exact a3 j (by omega) h hh i h1 h2
  · obtain ⟨b1, b2, b3⟩ := a5 k' hk'
    rw [dn, dD, if_neg (by omega)]
    refine ⟨by omega, b2, fun i h1 h2 => ?_⟩
    rw [dD]
    by_cases e : i = vn d
    · rw [if_pos e]
      exact hk'
    · rw [if_neg e]
      exact b3 i h1 (by omega)
  · rw [dn] at hj
    have d1 : nB (aF d k N P H (q 7 0)) j = if j = vn d then [] else nB d j := rfl
    have d2 : oC (aF d k N P H (q 7 0)) j = if j = vn d then none else oC d j := rfl
    have d3 : oO (aF d k N P H (q 7 0)) j = if j = vn d then none else oO d j := rfl
    have d4 : oZ (aF d k N P H (q 7 0)) j = if j = vn d then none else oZ d j := rfl
    unfold FW
    rw [dK, dO, d1, d2, d3, d4]
    by_cases e : j = vn d
    · simp only [if_pos e]
      refine ⟨hk, by omega, Or.inl trivial, trivial, trivial, fun z hz => (by cases hz), ?_, ?_, ?_, ?_⟩
      · simp [bt]
      · simp [bt]
      · constructor
        · intro hh
          simp [bt] at hh
        · rintro ⟨i, p1, p2, _⟩
          have := (a10 i p1).1
          omega
      · constructor
        · intro hh
          simp [bt] at hh
        · rintro ⟨i, p1, p2, _⟩
          have := (a10 i p1).1
          omega
    · simp only [if_neg e]
      exact a6 j (by omega)
  · rw [dn] at hj
    rw [dH, dH, dN, dN, if_neg (show ¬ i = vn d by omega), if_neg (show ¬ i = vn d by omega)]
    by_cases e : j = vn d
    · rw [if_pos e, if_pos e]
      exact fun h1 h2 => hu hb i (by omega) ⟨h1, h2⟩
    · rw [if_neg e, if_neg e]
      exact (a7 hb).1 i j hij (by omega)
  · rw [dn] at hj
    rw [dK, dO]
    by_cases e : j = vn d
    · rw [if_pos e]
      intro hh
      simp [bt] at hh
    · rw [if_neg e, if_neg e]
      exact (a7 hb).2 j (by omega)
  · obtain ⟨b1, b2⟩ := a10 i hi
    exact ⟨by rw [dn]; omega, b2⟩
theorem m_kind_ok {k : Nat} (hT : TKM τ tx c ks ps ls) (w : TKW tx c ks ps ls) (ht : t ≤ c) (h0 : gi τ 835 0 = 0) (h4 : gi τ 834 0 = nI t) (hk : kOf tx ks ps ls t = some k) : f_X9_wantKind τ = some (si τ 834 0 (nI (t + 1)), nI k) := by
  have h8 := (kOf_ok hk).1
  unfold f_X9_wantKind f_X9_wantKind_26 f_X9_wantKind_52
  rw [if_pos h0, h4, m_word hT w ht, cl_mk, m_kof w ht, cl_mk, hk, if_pos h0, if_pos (show (0 : Int32) ≤ mI (some k) from nI_pos' (by omega)), if_pos h0, h4, nI_1]
  rfl
theorem m_kind_bad (hT : TKM τ tx c ks ps ls) (w : TKW tx c ks ps ls) (ht : t ≤ c) (h0 : gi τ 835 0 = 0) (h4 : gi τ 834 0 = nI t) (hk : kOf tx ks ps ls t = none) : ∃ τ', f_X9_wantKind τ = some (τ', -1) ∧ MF τ' 2 (ps t) ∧ QM v τ τ' := by
  have := w.cc
  obtain ⟨τ', h1, h2, h3⟩ := m_fails (v := v) (e := 2) (q := ps t) h0 (by omega) (by omega)
  have h1 : f_X9_fails τ 2 (nI (ps t)) = _ := h1
  refine ⟨τ', ?_, h2, h3⟩
  unfold f_X9_wantKind f_X9_wantKind_26 f_X9_wantKind_52
  rw [if_pos h0, h4, m_word hT w ht, cl_mk, m_kof w ht, cl_mk, hk, if_pos h0, if_neg (show ¬ (0 : Int32) ≤ mI none by decide), h4, ck_nI (by omega) (by omega), (hT.2.2 t ht).2.1, h1, cl_mk, if_neg h2.no]
  rfl
theorem m299_no {e qq : Nat} (h : MF τ e qq) (x y : Int32) : f_X9_field_299 τ x y = some (τ, ()) := by
  unfold f_X9_field_299 f_X9_field_412
  rw [if_neg h.no, m_want_no h, cl_mk]
  unfold f_X9_field_418
  rw [if_neg h.no]
theorem x_kind_ok {k : Nat} (hX : TKX σ tx c ks ps ls) (w : TKW tx c ks ps ls) (ht : t ≤ c) (hk : kOf tx ks ps ls t = some k) : f_X5_stepKind σ (nI t) = some (si (si σ 102 (gr σ 3 0) (nI k)) 409 0 3, 0) := by
  have h8 := (kOf_ok hk).1
  unfold f_X5_stepKind
  rw [x_kof hX w ht, cl_mk, hk, if_pos (show (0 : Int32) ≤ oI (some k) from nI_pos' (by omega))]
  rfl
theorem x_kind_no (hX : TKX σ tx c ks ps ls) (w : TKW tx c ks ps ls) (ht : t ≤ c) (hk : kOf tx ks ps ls t = none) : f_X5_stepKind σ (nI t) = some (σ, 2) := by
  unfold f_X5_stepKind
  rw [x_kof hX w ht, cl_mk, hk, if_neg (show ¬ (0 : Int32) ≤ oI none by decide)]
/-- what comes behind a field's kind -/
def mNext (τ : St) (v t n : Nat) (ks : Nat → Nat) : Option (St × Unit) := if ks t = 40 then cl (f_X9_option (si τ 834 0 (nI (t + 1))) (nI (40 * v + n)) (nI n)) (fun s _ => f_X9_field_253 f_X9_field_299 fl s (nI n) (nI (40 * v + n))) else f_X9_field_299 τ (nI n) (nI (40 * v + n))
theorem f_head (hv : v < 8) (w : TKW tx c ks ps ls) (p : PI v tx c ks ps ls σ τ t d q) (ht : t < c) (h0 : gi σ 409 0 = 0) (hf : isFN tx ks ps ls t) : BD v σ τ (Rn σ t) (f_X9_field τ (nI v)) ∨ ∃ σ' τ' d' q', PI v tx c ks ps ls σ' τ' (t + 3) d' q' ∧ CU v c σ' τ' d' q' ∧ gi σ' 409 0 = 3 ∧ Rn σ t = Rn σ' (t + 3) ∧ QX v σ σ' ∧ QM v τ τ' ∧ f_X9_field τ (nI v) = mNext τ' v (t + 3) (vn d' - 1) ks := by
  obtain ⟨px, pm, cw, hX, hT, h4, _⟩ := p
  have hc := w.cc
  have hk1 := hf.1
  have hnm := w.nm (t := t) (by omega) hk1
  by_cases hn : vn d = 40
  · -- one too many
    left
    obtain ⟨τ', f1, f2, f3⟩ := m_fails (v := v) (e := 3) (q := ps t) pm.2.2.2.2.2.2.2.2.2 (by omega) (by omega)
    have f1 : f_X9_fails τ 3 (nI (ps t)) = _ := f1
    refine ⟨3, ps t, τ', rn_bad (e := 3) (σ' := σ) hv hX w ht (by omega) (by omega) ?_ (QX.refl' v σ), ?_, f2, f3⟩
    · rw [(xst_0 h0 hX w (by omega)).1 hf]
      unfold f_X5_stepFieldName
      rw [px.1, px.2.1.1, hn, if_neg (by decide)]
      rfl
    · unfold f_X9_field
      rw [ck_nI hv (by omega), pm.1.1, hn, if_pos (by decide), h4, ck_nI (by omega) (by omega), (hT.2.2 t (by omega)).2.1, f1, cl_mk]
  have hn : vn d < 40 := by have := cw.1.1; omega
  obtain ⟨P, H, hp⟩ := HP.ex cw (wrd tx (ps t) (ls t))
  obtain ⟨s1, x1, x2, x3, x4, x5, x6, x7, x8, x9, x10, x11⟩ := x_fname hv px cw hX w ht hk1 hn hp
  obtain ⟨t1, y1, y2, y3, y4, y5, y6, y7, y8, y9, y10, y11, y12, y13, y14, y15⟩ := m_fname hv pm cw hT w h4 ht hk1 hn hp
  have X1 := (QX.zf hn x2).tkx hv hX
  have T1 := (QM.zf hn y2).tkm hT
  have r1 : Rn σ t = Rn s1 (t + 1) := rn_ok hX w ht (by rw [(xst_0 h0 hX w (by omega)).1 hf, x1])
  have hg : 40 * v + vn d < 320 := by omega
  -- the reference counts the field
  have e2 : f_X9_field τ (nI v) = (cl (f_X9_want (si (sa t1 1 0 v (nI (vn d + 1))) 834 0 (nI (t + 1))) 58) fun s19 _ => cl (f_X9_wantKind s19) fun s20 x21 => ck (nI (40 * v + vn d)) 320 fun j22 => bnd (sa s20 1 4 j22 x21) fun s23 => if (gi s23 835 0) = 0 then (ck (gi s23 834 0) 2001 fun j24 => if (ga s23 1 14 j24) = 40 then (bnd (si s23 834 0 ((gi s23 834 0) + 1)) fun s25 => cl (f_X9_option s25 (nI (40 * v + vn d)) (nI (vn d))) fun s26 _ => f_X9_field_253 (f_X9_field_299) fl s26 (nI (vn d)) (nI (40 * v + vn d))) else f_X9_field_299 s23 (nI (vn d)) (nI (40 * v + vn d))) else f_X9_field_299 s23 (nI (vn d)) (nI (40 * v + vn d))) := by
    rw [y1]
    unfold mTail
    rw [ck_nI hv (by omega), ck_nI hv (by omega), y15, pm.1.1, nI_1]
    simp only [bnd]
    rw [show gi (sa t1 1 0 v (nI (vn d + 1))) 834 0 + 1 = nI (t + 1) by simp only [gi_si, gi_sr, gi_sg, gi_sa, gr_si, rr_sr, gr_sg, gr_sa, ga_si, ga_sr, ga_sg, ga_sa, true_and, and_true, false_and, and_false, Nat.reduceEqDiff, ↓reduceIte]; rw [y6 _ _ (by omega), h4, nI_1]]
  have z2 : ZFm v (40 * v + vn d) t1 (si (sa t1 1 0 v (nI (vn d + 1))) 834 0 (nI (t + 1))) := (ZFm.s0 _ _).trans (ZFm.sm (SM.si (by omega) _ _))
  have y2' := y2.trans z2
  have T2 := (QM.zf hn z2).tkm T1
  have o2 : gi (si (sa t1 1 0 v (nI (vn d + 1))) 834 0 (nI (t + 1))) 835 0 = 0 := by
    simp only [gi_si, gi_sr, gi_sg, gi_sa, gr_si, rr_sr, gr_sg, gr_sa, ga_si, ga_sr, ga_sg, ga_sa, true_and, and_true, false_and, and_false, Nat.reduceEqDiff, ↓reduceIte]
    rw [y6 _ _ (by omega)]
    exact pm.2.2.2.2.2.2.2.2.2
  have p2 : gi (si (sa t1 1 0 v (nI (vn d + 1))) 834 0 (nI (t + 1))) 834 0 = nI (t + 1) := by simp only [gi_si, gi_sr, gi_sg, gi_sa, gr_si, rr_sr, gr_sg, gr_sa, ga_si, ga_sr, ga_sg, ga_sa, true_and, and_true, false_and, and_false, Nat.reduceEqDiff, ↓reduceIte]
  rw [r1, e2]
  -- a failed one stays failed
  have stuck : ∀ (s19 : St) (e qq : Nat), MF s19 e qq → QM v τ s19 → ∃ τ', (cl (f_X9_wantKind s19) fun s20 x21 => ck (nI (40 * v + vn d)) 320 fun j22 => bnd (sa s20 1 4 j22 x21) fun s23 => if (gi s23 835 0) = 0 then (ck (gi s23 834 0) 2001 fun j24 => if (ga s23 1 14 j24) = 40 then (bnd (si s23 834 0 ((gi s23 834 0) + 1)) fun s25 => cl (f_X9_option s25 (nI (40 * v + vn d)) (nI (vn d))) fun s26 _ => f_X9_field_253 (f_X9_field_299) fl s26 (nI (vn d)) (nI (40 * v + vn d))) else f_X9_field_299 s23 (nI (vn d)) (nI (40 * v + vn d))) else f_X9_field_299 s23 (nI (vn d)) (nI (40 * v + vn d))) = some (τ', ()) ∧ MF τ' e qq ∧ QM v τ τ' := by
    intro s19 e qq hm hq
    have hm' : MF (sa s19 1 4 (40 * v + vn d) (-1)) e qq := hm
    refine ⟨sa s19 1 4 (40 * v + vn d) (-1), ?_, hm', hq.trans (QM.zf hn (ZFm.ug (UG.s1 (by omega) rfl _ _)))⟩
    rw [m_kind_no hm, cl_mk, ck_nI hg (by omega)]
    simp only [bnd]
    rw [if_neg hm'.no, m299_no hm']
  by_cases c1 : ks (t + 1) = 58
  rotate_left
  · left
    obtain ⟨s19, f1, f2, f3⟩ := m_want_bad (v := v) (k := 58) T2 w (show t + 1 ≤ c by omega) o2 p2 c1 (by omega)
    have f1 : f_X9_want _ 58 = _ := f1
    obtain ⟨τ', g1, g2, g3⟩ := stuck s19 _ _ f2 ((QM.zf hn y2').trans f3)
    refine ⟨2, ps (t + 1), τ', ?_, by rw [f1, cl_mk, g1], g2, g3⟩
    refine XF.pre ?_ (QX.zf hn x2)
    refine rn_want hv X1 w (by omega) (Or.inl (n409 x3 (by decide))) (fun hlt => ⟨s1, ?_, QX.refl' v s1⟩)
    rw [xst_1 x3]
    exact x_exp_no (k := 58) X1 w (by omega) c1 (by omega) 2
  have ht1 : t + 1 < c := w.lt (by omega) (by omega)
  have wo : f_X9_want (si (sa t1 1 0 v (nI (vn d + 1))) 834 0 (nI (t + 1))) 58 = _ := m_want_ok (k := 58) T2 w (show t + 1 ≤ c by omega) o2 p2 c1
  rw [wo, cl_mk]
  have r2 : Rn s1 (t + 1) = Rn (si s1 409 0 2) (t + 2) := rn_ok X1 w ht1 (by
    rw [xst_1 x3]
    exact x_exp_ok (k := 58) X1 w (by omega) c1 2)
  rw [r2]
  have X2 := (QX.sx (v := v) (SX.si (f := 409) (by omega) s1 2)).tkx hv X1
  have z3 : ZFm v (40 * v + vn d) (si (sa t1 1 0 v (nI (vn d + 1))) 834 0 (nI (t + 1))) (si (si (sa t1 1 0 v (nI (vn d + 1))) 834 0 (nI (t + 1))) 834 0 (nI (t + 2))) := ZFm.sm (SM.si (by omega) _ _)
  have y3' := y2'.trans z3
  have T3 := (QM.zf hn z3).tkm T2
  have o3 : gi (si (si (sa t1 1 0 v (nI (vn d + 1))) 834 0 (nI (t + 1))) 834 0 (nI (t + 2))) 835 0 = 0 := o2
  have p3 : gi (si (si (sa t1 1 0 v (nI (vn d + 1))) 834 0 (nI (t + 1))) 834 0 (nI (t + 2))) 834 0 = nI (t + 2) := by simp only [gi_si, gi_sr, gi_sg, gi_sa, gr_si, rr_sr, gr_sg, gr_sa, ga_si, ga_sr, ga_sg, ga_sa, true_and, and_true, false_and, and_false, Nat.reduceEqDiff, ↓reduceIte]
  have q2 : gi (si s1 409 0 2) 409 0 = 2 := by simp only [gi_si, gi_sr, gi_sg, gi_sa, gr_si, rr_sr, gr_sg, gr_sa, ga_si, ga_sr, ga_sg, ga_sa, true_and, and_true, false_and, and_false, Nat.reduceEqDiff, ↓reduceIte]
  have zx2 : ZF v (40 * v + vn d) σ (si s1 409 0 2) := x2.trans (ZF.sx (SX.si (by omega) _ _))
  cases ek : kOf tx ks ps ls (t + 2) with
  | none =>
    left
    obtain ⟨s20, f1, f2, f3⟩ := m_kind_bad (v := v) T3 w (show t + 2 ≤ c by omega) o3 p3 ek
    have hm' : MF (sa s20 1 4 (40 * v + vn d) (-1)) 2 (ps (t + 2)) := f2
    refine ⟨2, ps (t + 2), sa s20 1 4 (40 * v + vn d) (-1), ?_, ?_, hm', ((QM.zf hn y3').trans f3).trans (QM.zf hn (ZFm.ug (UG.s1 (by omega) rfl _ _)))⟩
    · refine XF.pre ?_ (QX.zf hn zx2)
      refine rn_want hv X2 w (by omega) (Or.inl (n409 q2 (by decide))) (fun hlt => ⟨_, ?_, QX.refl' v _⟩)
      rw [xst_2 q2, x_kind_no X2 w (by omega) ek]
    · rw [f1, cl_mk, ck_nI hg (by omega)]
      simp only [bnd]
      rw [if_neg hm'.no, m299_no hm']
  | some k =>
    right
    have hk8 := (kOf_ok ek).1
    have ht2 : t + 2 < c := w.lt (by omega) (by rw [(kOf_ok ek).2]; omega)
    rw [m_kind_ok T3 w (by omega) o3 p3 ek, cl_mk, ck_nI hg (by omega)]
    have r3 : Rn (si s1 409 0 2) (t + 2) = Rn (si (si (si s1 409 0 2) 102 (40 * v + vn d) (nI k)) 409 0 3) (t + 3) := rn_ok X2 w ht2 (by
      rw [xst_2 q2, x_kind_ok X2 w (by omega) ek]
      rw [show gr (si s1 409 0 2) 3 0 = 40 * v + vn d from x4])
    rw [r3]
    have zx3 : ZF v (40 * v + vn d) σ (si (si (si s1 409 0 2) 102 (40 * v + vn d) (nI k)) 409 0 3) := zx2.trans ((ZF.uf (UF.si (by omega) rfl _)).trans (ZF.sx (SX.si (by omega) _ _)))
    have z4 : ZFm v (40 * v + vn d) τ (sa (si (si (si (sa t1 1 0 v (nI (vn d + 1))) 834 0 (nI (t + 1))) 834 0 (nI (t + 2))) 834 0 (nI (t + 2 + 1))) 1 4 (40 * v + vn d) (nI k)) := y3'.trans ((ZFm.sm (SM.si (by omega) _ _)).trans (ZFm.ug (UG.s1 (by omega) rfl _ _)))
    have k' : tkk d q H (wrd tx (ps t) (ls t)) (ps t) ≤ q 7 3 := by
      unfold tkk
      split <;> omega
    have hps := w.pp (t := t) (by omega)
    have hx2 := w.2.2.2.2
    have hz : kz (tkk d q H (wrd tx (ps t) (ls t)) (ps t)) := by
      unfold tkk
      split
      · exact kz_min cw.2.2.2.2.2.2.2.1 (by omega) (by omega)
      · exact cw.2.2.2.2.2.2.2.1
    have cwk := CW_k cw k' hz
    have hpk : HP d (qs q 7 3 (tkk d q H (wrd tx (ps t) (ls t)) (ps t))) (wrd tx (ps t) (ls t)) P H := by
      unfold HP
      simp (disch := omega) only [qs_o]
      exact hp
    have cwf := CW_aF (k := k) cwk hn hk8 hnm hpk (by
      rw [qs_s]
      intro hb i hi ⟨g1, g2⟩
      have : (fm (twp d H (wrd tx (ps t) (ls t))) (vn d) 0).isSome = true := by
        cases ef : fm (twp d H (wrd tx (ps t) (ls t))) (vn d) 0 with
        | some _ => rfl
        | none =>
          have := fm_none _ _ ef i (by omega) (by omega)
          rw [show twp d H (wrd tx (ps t) (ls t)) i = true from decide_eq_true ⟨g1, g2⟩] at this
          cases this
      unfold tkk at hb
      rw [if_pos this] at hb
      omega)
    rw [qs_o (by omega)] at cwf
    refine ⟨_, sa (si (si (si (sa t1 1 0 v (nI (vn d + 1))) 834 0 (nI (t + 1))) 834 0 (nI (t + 2))) 834 0 (nI (t + 2 + 1))) 1 4 (40 * v + vn d) (nI k), _, _, ⟨?_, ?_, cwf.mono (by omega), (QX.zf hn zx3).tkx hv hX, (QM.zf hn z4).tkm hT, by simp only [gi_si, gi_sr, gi_sg, gi_sa, gr_si, rr_sr, gr_sg, gr_sa, ga_si, ga_sr, ga_sg, ga_sa, true_and, and_true, false_and, and_false, Nat.reduceEqDiff, ↓reduceIte], by omega⟩, ⟨Nat.succ_pos _, ?_, ?_, t, by omega, ?_, ?_⟩, by simp only [gi_si, gi_sr, gi_sg, gi_sa, gr_si, rr_sr, gr_sg, gr_sa, ga_si, ga_sr, ga_sg, ga_sa, true_and, and_true, false_and, and_false, Nat.reduceEqDiff, ↓reduceIte], rfl, QX.zf hn zx3, QM.zf hn z4, ?_⟩
    · -- the class
      obtain ⟨a1, a2, a3, a4, a5, a6, a7⟩ := px
      refine ⟨?_, VX0_aF hv hn a2 zx3 ?_ ?_, ?_, ?_, ?_, ?_, ?_⟩
      · rw [zx3.1 2 0 (by omega), a1]
      · simp only [gi_si, gi_sr, gi_sg, gi_sa, gr_si, rr_sr, gr_sg, gr_sa, ga_si, ga_sr, ga_sg, ga_sa, true_and, and_true, false_and, and_false, Nat.reduceEqDiff, ↓reduceIte]
        exact x6
      · obtain ⟨⟨b1, b2, b3, b4, b5, b6, b7⟩, b8, b9⟩ := x7
        refine ⟨⟨?_, ?_, ?_, ?_, ?_, LX_of b6 ?_ rfl, LX_of b7 ?_ rfl⟩, ?_, ?_⟩
        all_goals simp only [gi_si, gi_sr, gi_sg, gi_sa, gr_si, rr_sr, gr_sg, gr_sa, ga_si, ga_sr, ga_sg, ga_sa, true_and, and_true, false_and, and_false, Nat.reduceEqDiff, ↓reduceIte]
        · exact b2
        · exact b3
        · exact b4
        · exact b5
        · exact b8
        · exact b9
      · rw [qs_o (by omega)]
        simp only [gi_si, gi_sr, gi_sg, gi_sa, gr_si, rr_sr, gr_sg, gr_sa, ga_si, ga_sr, ga_sg, ga_sa, true_and, and_true, false_and, and_false, Nat.reduceEqDiff, ↓reduceIte]
        rw [x9, a3]
      · simp (disch := omega) only [qs_o, gi_si, gi_sr, gi_sg, gi_sa, gr_si, rr_sr, gr_sg, gr_sa, ga_si, ga_sr, ga_sg, ga_sa, true_and, and_true, false_and, and_false, Nat.reduceEqDiff, ↓reduceIte]
        rw [x11]
        exact a4
      · unfold lmq
        simp (disch := omega) only [qs_o, gi_si, gi_sr, gi_sg, gi_sa, gr_si, rr_sr, gr_sg, gr_sa, ga_si, ga_sr, ga_sg, ga_sa, true_and, and_true, false_and, and_false, Nat.reduceEqDiff, ↓reduceIte]
        rw [x10, a5]
        rfl
      · rw [qs_s]
        unfold KXn
        simp only [gi_si, gi_sr, gi_sg, gi_sa, gr_si, rr_sr, gr_sg, gr_sa, ga_si, ga_sr, ga_sg, ga_sa, true_and, and_true, false_and, and_false, Nat.reduceEqDiff, ↓reduceIte]
        exact x8
      · unfold EX fstE
        simp (disch := omega) only [qs_o, gi_si, gi_sr, gi_sg, gi_sa, gr_si, rr_sr, gr_sg, gr_sa, ga_si, ga_sr, ga_sg, ga_sa, true_and, and_true, false_and, and_false, Nat.reduceEqDiff, ↓reduceIte]
        rw [x11, x11, x11]
        exact a7
    · -- the reference
      have lw := cw.lw
      obtain ⟨a1, a2, a3, a4, a5, a6, a7, a8, a9, a10⟩ := pm
      have gi' : ∀ f i, ¬ (f = 834 ∨ f = 836 ∨ f = 837) → gi (sa (si (si (si (sa t1 1 0 v (nI (vn d + 1))) 834 0 (nI (t + 1))) 834 0 (nI (t + 2))) 834 0 (nI (t + 2 + 1))) 1 4 (40 * v + vn d) (nI k)) f i = gi τ f i := by
        intro f i hh
        simp only [gi_si, gi_sr, gi_sg, gi_sa, gr_si, rr_sr, gr_sg, gr_sa, ga_si, ga_sr, ga_sg, ga_sa, true_and, and_true, false_and, and_false, Nat.reduceEqDiff, ↓reduceIte]
        rw [if_neg (by omega), if_neg (by omega), if_neg (by omega), y6 _ _ (by omega)]
      have ga' : ∀ r x, r ≠ 0 → r ≠ 4 → ga (sa (si (si (si (sa t1 1 0 v (nI (vn d + 1))) 834 0 (nI (t + 1))) 834 0 (nI (t + 2))) 834 0 (nI (t + 2 + 1))) 1 4 (40 * v + vn d) (nI k)) 1 r x = ga t1 1 r x := by
        intro r x h1 h2
        rw [a1_oth (Or.inl h2)]
        show ga (sa t1 1 0 v (nI (vn d + 1))) 1 r x = _
        rw [a1_oth (Or.inl h1)]
      refine ⟨VM0_aF hn lw a1 z4 ?_ ?_, ?_, ?_, ?_, ?_, ?_, ?_, ?_, ?_, ?_⟩
      · rw [a1_oth (by omega)]
        show ga (sa t1 1 0 v (nI (vn d + 1))) 1 0 v = _
        rw [a1_get]
      · refine ⟨⟨a1_get, ?_, ?_, ?_, ?_, ?_, ?_, fun i hi => absurd hi (Nat.not_lt_zero _)⟩, ?_, ?_⟩
        · rw [ga' _ _ (by omega) (by omega), y7]
        · rw [ga' _ _ (by omega) (by omega), y8]
        · rw [ga' _ _ (by omega) (by omega), y14]
        · rw [ga' _ _ (by omega) (by omega), y12]
        · exact Bs_of y13 (fun i hi => by simp only [gi_si, gi_sr, gi_sg, gi_sa, gr_si, rr_sr, gr_sg, gr_sa, ga_si, ga_sr, ga_sg, ga_sa, true_and, and_true, false_and, and_false, Nat.reduceEqDiff, ↓reduceIte])
        · rw [ga' _ _ (by omega) (by omega), y11]
          rfl
        · rw [ga' _ _ (by omega) (by omega), y9]
        · rw [ga' _ _ (by omega) (by omega), y10]
      · rw [qs_o (by omega), gi' _ _ (by omega), a2]
      · simp (disch := omega) only [qs_o]
        intro i hi
        rw [ga' _ _ (by omega) (by omega), y5 24 (by omega) (by omega), a3 i hi]
      · rw [qs_o (by omega), gi' _ _ (by omega), a4]
      · simp (disch := omega) only [qs_o]
        intro i hi
        rw [ga' _ _ (by omega) (by omega), y5 22 (by omega) (by omega), a5 i hi]
      · rw [qs_s]
        unfold KMn
        simp only [gi_si, gi_sr, gi_sg, gi_sa, gr_si, rr_sr, gr_sg, gr_sa, ga_si, ga_sr, ga_sg, ga_sa, true_and, and_true, false_and, and_false, Nat.reduceEqDiff, ↓reduceIte]
        exact y3
      · rw [qs_o (by omega), gi' _ _ (by omega), a7]
      · rw [qs_o (by omega)]
        intro i hi r hr
        rw [qs_o (by omega), ga' _ _ (by omega) (by omega), y5 (17 + r) (by omega) (by omega), a8 i hi r hr]
      · rw [gi' _ _ (by omega), a9]
      · rw [gi' _ _ (by omega), a10]
    · rw [qs_o (by omega)]
      show (if vn d + 1 - 1 = vn d then q 7 0 else _) = _
      rw [if_pos (by omega)]
    · show gr s1 3 0 = 40 * v + (vn d + 1 - 1)
      rw [x4]
      omega
    · simp only [gi_si, gi_sr, gi_sg, gi_sa, gr_si, rr_sr, gr_sg, gr_sa, ga_si, ga_sr, ga_sg, ga_sa, true_and, and_true, false_and, and_false, Nat.reduceEqDiff, ↓reduceIte]
      exact x5
    · show ga _ 1 23 (vn d + 1 - 1) = _
      rw [a1_oth (by omega)]
      show ga (sa t1 1 0 v (nI (vn d + 1))) 1 23 (vn d + 1 - 1) = _
      rw [a1_oth (by omega), Nat.add_sub_cancel]
      exact y4
    · show _ = mNext _ v (t + 3) (vn d + 1 - 1) ks
      rw [Nat.add_sub_cancel]
      unfold mNext
      simp only [bnd]
      have hk3 : ga (sa (si (si (si (sa t1 1 0 v (nI (vn d + 1))) 834 0 (nI (t + 1))) 834 0 (nI (t + 2))) 834 0 (nI (t + 2 + 1))) 1 4 (40 * v + vn d) (nI k)) 1 14 (t + 3) = nI (ks (t + 3)) := (((QM.zf hn z4).tkm hT).2.2 (t + 3) (by omega)).1
      have hk3b := w.kk (t := t + 3) (by omega)
      have o4 : gi (sa (si (si (si (sa t1 1 0 v (nI (vn d + 1))) 834 0 (nI (t + 1))) 834 0 (nI (t + 2))) 834 0 (nI (t + 2 + 1))) 1 4 (40 * v + vn d) (nI k)) 835 0 = 0 := o3
      have p4 : gi (sa (si (si (si (sa t1 1 0 v (nI (vn d + 1))) 834 0 (nI (t + 1))) 834 0 (nI (t + 2))) 834 0 (nI (t + 2 + 1))) 1 4 (40 * v + vn d) (nI k)) 834 0 = nI (t + 3) := by simp only [gi_si, gi_sr, gi_sg, gi_sa, gr_si, rr_sr, gr_sg, gr_sa, ga_si, ga_sr, ga_sg, ga_sa, true_and, and_true, false_and, and_false, Nat.reduceEqDiff, ↓reduceIte]
      rw [if_pos o4, p4, ck_nI (by omega) (by omega), hk3, nI_1]
      by_cases c4 : ks (t + 3) = 40
      · rw [c4, if_pos (show nI 40 = (40 : Int32) from rfl), if_pos rfl]
      · rw [if_neg (show ¬ nI (ks (t + 3)) = (40 : Int32) from fun e => c4 ((ln_eq (b := 40) (by omega) (by omega)).mp e)), if_neg c4]
end R8
