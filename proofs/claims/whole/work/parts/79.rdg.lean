/-! Reading: rules whole. -/
section Rt
variable {σ τ σ' τ' : St} {v t : Nat} {d : Vd} {q q' : Nat → Nat → Nat} {tx : List Nat} {c : Nat} {ks ps ls : Nat → Nat}
theorem UR.ub {g arr : Nat} (ha : arr = 5 ∨ arr = 6) {τ τ' : St} (h : UB arr (12 * g) τ τ') : UR g τ τ' := ⟨h.1, fun f i x a => h.2 f i x (by omega)⟩
theorem OW.of' {k : Nat} {l : List Nat} (h : OW σ k l) (h1 : gi σ' 201 k = gi σ 201 k) (h2 : gi σ' 202 k = gi σ 202 k) (h3 : ga σ' 2 k = ga σ 2 k) : OW σ' k l := by
  unfold OW
  rw [h1, h2]
  rcases h with ⟨a, b⟩ | h
  · exact Or.inl ⟨a, LX_of b h1 h3⟩
  · exact Or.inr h
/-- a name is added to the rule that is being read -/
theorem r_tail (hv : v < 8) (w : TKW tx c ks ps ls) {σ0 τ0 : St} {u : Nat} (hX : TKX σ tx c ks ps ls) (hT : TKM τ tx c ks ps ls) (hr8 : vr d < 8) {F : List Nat} (h : RPr v d σ0 τ0 σ τ u 1 F []) (hu : u < c) (hk : ks u = 1) : ∃ s2 t2, f_X6_addTo σ (646 + 2 * (8 * v + vr d)) (nI u) = some (s2, ()) ∧ (∃ t1, f_X9_copyName (sa τ 1 12 (8 * v + vr d) (nI (ls u))) (nI u) 6 (nI (12 * (8 * v + vr d))) = some (t1, ()) ∧ t2 = si t1 834 0 (nI (u + 1)) ∧ gi t1 834 0 = nI u) ∧ RPr v d σ0 τ0 (si s2 409 0 14) t2 (u + 1) 1 F (wrd tx (ps u) (ls u)) := by
  obtain ⟨b1, b2, b3, b4, b5, b6, b7, b8, b9, b10, b11, b12, b13, b14, b15⟩ := h
  have hg : 8 * v + vr d < 64 := by omega
  have hl := w.len (t := u) (by omega)
  have h12 := (w.nm (t := u) (by omega) hk).2.1
  obtain ⟨s2, e2, u2, w2⟩ := ow_tok b6 hX w hu
  rw [List.nil_append] at w2
  have zx : ZR v (8 * v + vr d) σ (si s2 409 0 14) := (ZR.uq (UQ.ul (Or.inr rfl) u2)).trans (ZR.s9 _ _)
  have u1 : UR (8 * v + vr d) τ (sa τ 1 12 (8 * v + vr d) (nI (ls u))) := UR.s1 (by omega) rfl _ _
  have T1 := (QM.zr hr8 (ZRm.ur (v := v) u1)).tkm hT
  obtain ⟨t1, e1, u3, n3⟩ := m_name w T1 (arr := 6) (o := 12 * (8 * v + vr d)) (t := u) (by omega) (by omega) (by omega) (show _ ≤ 768 by omega) (by decide)
  have zm : ZRm v (8 * v + vr d) τ (si t1 834 0 (nI (u + 1))) := (ZRm.ur (u1.trans (UR.ub (Or.inr rfl) u3))).trans (ZRm.s3 _ _)
  have ga1 : ∀ r x, r ≠ 12 → ga t1 1 r x = ga τ 1 r x := by
    intro r x hr
    rw [u3.2 1 r x (by omega), a1_oth (Or.inl hr)]
  have g834 : gi t1 834 0 = nI u := by
    rw [u3.1]
    exact b13
  refine ⟨s2, _, e2, ⟨t1, e1, rfl, g834⟩, b1.trans zx, b2.trans zm, ?_, ?_, ?_, ?_, ?_, ?_, ?_, ?_, ?_, ?_, by simp only [gi_si, gi_sr, gi_sg, gi_sa, gr_si, rr_sr, gr_sg, gr_sa, ga_si, ga_sr, ga_sg, ga_sa, true_and, and_true, false_and, and_false, Nat.reduceEqDiff, ↓reduceIte], ?_, fun f i hf => ?_⟩
  · show gr s2 4 0 = _
    rw [u2.gr, b3]
  · rw [zx.2.1 604 v |> fun _ => show gi (si s2 409 0 14) 604 v = gi s2 604 v by simp only [gi_si, gi_sr, gi_sg, gi_sa, gr_si, rr_sr, gr_sg, gr_sa, ga_si, ga_sr, ga_sg, ga_sa, true_and, and_true, false_and, and_false, Nat.reduceEqDiff, ↓reduceIte], u2.2.1 _ _ (by omega), b4]
  · exact b5.of' (by simp only [gi_si, gi_sr, gi_sg, gi_sa, gr_si, rr_sr, gr_sg, gr_sa, ga_si, ga_sr, ga_sg, ga_sa, true_and, and_true, false_and, and_false, Nat.reduceEqDiff, ↓reduceIte]; rw [u2.2.1 _ _ (by omega)]) (by simp only [gi_si, gi_sr, gi_sg, gi_sa, gr_si, rr_sr, gr_sg, gr_sa, ga_si, ga_sr, ga_sg, ga_sa, true_and, and_true, false_and, and_false, Nat.reduceEqDiff, ↓reduceIte]; rw [u2.2.1 _ _ (by omega)]) (by simp only [gi_si, gi_sr, gi_sg, gi_sa, gr_si, rr_sr, gr_sg, gr_sa, ga_si, ga_sr, ga_sg, ga_sa, true_and, and_true, false_and, and_false, Nat.reduceEqDiff, ↓reduceIte]; rw [u2.2.2 _ _ (by omega)])
  · exact w2.of' (by simp only [gi_si, gi_sr, gi_sg, gi_sa, gr_si, rr_sr, gr_sg, gr_sa, ga_si, ga_sr, ga_sg, ga_sa, true_and, and_true, false_and, and_false, Nat.reduceEqDiff, ↓reduceIte]) (by simp only [gi_si, gi_sr, gi_sg, gi_sa, gr_si, rr_sr, gr_sg, gr_sa, ga_si, ga_sr, ga_sg, ga_sa, true_and, and_true, false_and, and_false, Nat.reduceEqDiff, ↓reduceIte]) rfl
  · simp only [gi_si, gi_sr, gi_sg, gi_sa, gr_si, rr_sr, gr_sg, gr_sa, ga_si, ga_sr, ga_sg, ga_sa, true_and, and_true, false_and, and_false, Nat.reduceEqDiff, ↓reduceIte]
    rw [u2.2.1 _ _ (by omega), b7]
  · show ga t1 1 11 _ = _
    rw [ga1 _ _ (by omega), b8]
  · refine Bs_of b9 (fun i hi => ?_)
    show ga t1 2 5 _ = _
    rw [u3.2 2 5 _ (by omega)]
    simp only [gi_si, gi_sr, gi_sg, gi_sa, gr_si, rr_sr, gr_sg, gr_sa, ga_si, ga_sr, ga_sg, ga_sa, true_and, and_true, false_and, and_false, Nat.reduceEqDiff, ↓reduceIte]
  · show ga t1 1 12 _ = _
    rw [u3.2 1 12 _ (by omega), a1_get, hl]
  · exact n3
  · show ga t1 4 0 _ = _
    rw [u3.2 4 0 _ (by omega)]
    simp only [gi_si, gi_sr, gi_sg, gi_sa, gr_si, rr_sr, gr_sg, gr_sa, ga_si, ga_sr, ga_sg, ga_sa, true_and, and_true, false_and, and_false, Nat.reduceEqDiff, ↓reduceIte]
    exact b12
  · show ga t1 1 1 v = _
    rw [ga1 _ _ (by omega), b14]
  · simp only [gi_si, gi_sr, gi_sg, gi_sa, gr_si, rr_sr, gr_sg, gr_sa, ga_si, ga_sr, ga_sg, ga_sa, true_and, and_true, false_and, and_false, Nat.reduceEqDiff, ↓reduceIte]
    rw [if_neg (by omega), u3.1]
    simp only [gi_si, gi_sr, gi_sg, gi_sa, gr_si, rr_sr, gr_sg, gr_sa, ga_si, ga_sr, ga_sg, ga_sa, true_and, and_true, false_and, and_false, Nat.reduceEqDiff, ↓reduceIte]
    exact b15 f i hf
theorem r_head (hv : v < 8) (w : TKW tx c ks ps ls) {σ0 τ0 : St} {u : Nat} (hX : TKX σ tx c ks ps ls) (hT : TKM τ tx c ks ps ls) (hr8 : vr d < 8) (h : RPr v d σ0 τ0 σ τ u 0 [] []) (hu : u < c) (hk : ks u = 1) : ∃ s2 t2, f_X6_addTo σ (645 + 2 * (8 * v + vr d)) (nI u) = some (s2, ()) ∧ (∃ t1, f_X9_copyName (sa τ 1 11 (8 * v + vr d) (nI (ls u))) (nI u) 5 (nI (12 * (8 * v + vr d))) = some (t1, ()) ∧ t2 = si t1 834 0 (nI (u + 1)) ∧ gi t1 834 0 = nI u) ∧ RPr v d σ0 τ0 (si s2 409 0 12) t2 (u + 1) 0 (wrd tx (ps u) (ls u)) [] := by
  obtain ⟨b1, b2, b3, b4, b5, b6, b7, b8, b9, b10, b11, b12, b13, b14, b15⟩ := h
  have hg : 8 * v + vr d < 64 := by omega
  have hl := w.len (t := u) (by omega)
  have h12 := (w.nm (t := u) (by omega) hk).2.1
  obtain ⟨s2, e2, u2, w2⟩ := ow_tok b5 hX w hu
  rw [List.nil_append] at w2
  have zx : ZR v (8 * v + vr d) σ (si s2 409 0 12) := (ZR.uq (UQ.ul (Or.inl rfl) u2)).trans (ZR.s9 _ _)
  have u1 : UR (8 * v + vr d) τ (sa τ 1 11 (8 * v + vr d) (nI (ls u))) := UR.s1 (by omega) rfl _ _
  have T1 := (QM.zr hr8 (ZRm.ur (v := v) u1)).tkm hT
  obtain ⟨t1, e1, u3, n3⟩ := m_name w T1 (arr := 5) (o := 12 * (8 * v + vr d)) (t := u) (by omega) (by omega) (by omega) (show _ ≤ 768 by omega) (by decide)
  have zm : ZRm v (8 * v + vr d) τ (si t1 834 0 (nI (u + 1))) := (ZRm.ur (u1.trans (UR.ub (Or.inl rfl) u3))).trans (ZRm.s3 _ _)
  have ga1 : ∀ r x, r ≠ 11 → ga t1 1 r x = ga τ 1 r x := by
    intro r x hr
    rw [u3.2 1 r x (by omega), a1_oth (Or.inl hr)]
  have g834 : gi t1 834 0 = nI u := by
    rw [u3.1]
    exact b13
  refine ⟨s2, _, e2, ⟨t1, e1, rfl, g834⟩, b1.trans zx, b2.trans zm, ?_, ?_, ?_, ?_, ?_, ?_, ?_, ?_, ?_, ?_, by simp only [gi_si, gi_sr, gi_sg, gi_sa, gr_si, rr_sr, gr_sg, gr_sa, ga_si, ga_sr, ga_sg, ga_sa, true_and, and_true, false_and, and_false, Nat.reduceEqDiff, ↓reduceIte], ?_, fun f i hf => ?_⟩
  · show gr s2 4 0 = _
    rw [u2.gr, b3]
  · rw [show gi (si s2 409 0 12) 604 v = gi s2 604 v by simp only [gi_si, gi_sr, gi_sg, gi_sa, gr_si, rr_sr, gr_sg, gr_sa, ga_si, ga_sr, ga_sg, ga_sa, true_and, and_true, false_and, and_false, Nat.reduceEqDiff, ↓reduceIte], u2.2.1 _ _ (by omega), b4]
  · exact w2.of' (by simp only [gi_si, gi_sr, gi_sg, gi_sa, gr_si, rr_sr, gr_sg, gr_sa, ga_si, ga_sr, ga_sg, ga_sa, true_and, and_true, false_and, and_false, Nat.reduceEqDiff, ↓reduceIte]) (by simp only [gi_si, gi_sr, gi_sg, gi_sa, gr_si, rr_sr, gr_sg, gr_sa, ga_si, ga_sr, ga_sg, ga_sa, true_and, and_true, false_and, and_false, Nat.reduceEqDiff, ↓reduceIte]) rfl
  · exact b6.of' (by simp only [gi_si, gi_sr, gi_sg, gi_sa, gr_si, rr_sr, gr_sg, gr_sa, ga_si, ga_sr, ga_sg, ga_sa, true_and, and_true, false_and, and_false, Nat.reduceEqDiff, ↓reduceIte]; rw [u2.2.1 _ _ (by omega)]) (by simp only [gi_si, gi_sr, gi_sg, gi_sa, gr_si, rr_sr, gr_sg, gr_sa, ga_si, ga_sr, ga_sg, ga_sa, true_and, and_true, false_and, and_false, Nat.reduceEqDiff, ↓reduceIte]; rw [u2.2.1 _ _ (by omega)]) (by simp only [gi_si, gi_sr, gi_sg, gi_sa, gr_si, rr_sr, gr_sg, gr_sa, ga_si, ga_sr, ga_sg, ga_sa, true_and, and_true, false_and, and_false, Nat.reduceEqDiff, ↓reduceIte]; rw [u2.2.2 _ _ (by omega)])
  · simp only [gi_si, gi_sr, gi_sg, gi_sa, gr_si, rr_sr, gr_sg, gr_sa, ga_si, ga_sr, ga_sg, ga_sa, true_and, and_true, false_and, and_false, Nat.reduceEqDiff, ↓reduceIte]
    rw [u2.2.1 _ _ (by omega), b7]
  · show ga t1 1 11 _ = _
    rw [u3.2 1 11 _ (by omega), a1_get, hl]
  · exact n3
  · show ga t1 1 12 _ = _
    rw [ga1 _ _ (by omega), b10]
  · exact fun i hi => absurd hi (Nat.not_lt_zero _)
  · show ga t1 4 0 _ = _
    rw [u3.2 4 0 _ (by omega)]
    simp only [gi_si, gi_sr, gi_sg, gi_sa, gr_si, rr_sr, gr_sg, gr_sa, ga_si, ga_sr, ga_sg, ga_sa, true_and, and_true, false_and, and_false, Nat.reduceEqDiff, ↓reduceIte]
    exact b12
  · show ga t1 1 1 v = _
    rw [ga1 _ _ (by omega), b14]
  · simp only [gi_si, gi_sr, gi_sg, gi_sa, gr_si, rr_sr, gr_sg, gr_sa, ga_si, ga_sr, ga_sg, ga_sa, true_and, and_true, false_and, and_false, Nat.reduceEqDiff, ↓reduceIte]
    rw [if_neg (by omega), u3.1]
    simp only [gi_si, gi_sr, gi_sg, gi_sa, gr_si, rr_sr, gr_sg, gr_sa, ga_si, ga_sr, ga_sg, ga_sa, true_and, and_true, false_and, and_false, Nat.reduceEqDiff, ↓reduceIte]
    exact b15 f i hf
theorem r_155 (hv : v < 8) (w : TKW tx c ks ps ls) {σ0 τ0 : St} {t0 u : Nat} (p : PI v tx c ks ps ls σ0 τ0 t0 d q) (hr8 : vr d < 8) {F : List Nat} (hF : F = [] ∨ Nm F) (h : RPr v d σ0 τ0 σ τ u 0 F []) (htt : t0 < u) (huc : u ≤ c) (h9 : ¬ gi σ 409 0 = 0) (hs1 : ks u = 42 → f_X5_step σ (nI u) = f_X5_stepStar σ (nI u)) (hs2 : ks u ≠ 42 → f_X5_step σ (nI u) = f_X5_expect σ (nI u) 58 15) (hr : Rn σ0 t0 = Rn σ u) : ITM v tx c ks ps ls σ0 τ0 t0 (f_X9_rule_155 τ (nI v) (nI (8 * v + vr d))) := by
  have h' := h
  obtain ⟨b1, b2, b3, b4, b5, b6, b7, b8, b9, b10, b11, b12, b13, b14, b15⟩ := h
  have hc := w.cc
  have hg : 8 * v + vr d < 64 := by omega
  have hX := (QX.zr hr8 b1).tkx hv p.2.2.2.1
  have hT := (QM.zr hr8 b2).tkm p.2.2.2.2.1
  have hk := w.kk huc
  unfold f_X9_rule_155
  rw [b13, ck_nI (by omega) (by omega), (hT.2.2 u huc).1]
  by_cases c1 : ks u = 42
  · have hu : u < c := w.lt huc (by omega)
    rw [c1, if_pos (show nI 42 = (42 : Int32) from rfl), ck_nI hg (by omega)]
    have step : f_X5_step σ (nI u) = some (si (si σ 409 0 13) 302 (8 * v + vr d) 1, 0) := by
      rw [hs1 c1]
      unfold f_X5_stepStar
      have : f_X5_expect σ (nI u) 42 13 = _ := x_exp_ok (k := 42) hX w huc c1 13
      rw [this, cl_mk, if_pos rfl, show gr (si σ 409 0 13) 4 0 = 8 * v + vr d from b3]
      rfl
    have r1 : Rn σ u = Rn (si (si σ 409 0 13) 302 (8 * v + vr d) 1) (u + 1) := rn_ok hX w hu step
    have zx : ZR v (8 * v + vr d) σ (si (si σ 409 0 13) 302 (8 * v + vr d) 1) := (ZR.s9 _ _).trans (ZR.si (by omega) _ _)
    have zm : ZRm v (8 * v + vr d) τ (si (sa τ 4 0 (8 * v + vr d) (vp_nar .boolean 1)) 834 0 (nI (u + 1))) := (ZRm.ur (UR.s4 rfl _ _)).trans (ZRm.s3 _ _)
    have X1 := (QX.zr hr8 zx).tkx hv hX
    have T1 := (QM.zr hr8 zm).tkm hT
    have rp : RPr v d σ0 τ0 (si (si σ 409 0 13) 302 (8 * v + vr d) 1) (si (sa τ 4 0 (8 * v + vr d) (vp_nar .boolean 1)) 834 0 (nI (u + 1))) (u + 1) 1 F [] := by
      refine ⟨b1.trans zx, b2.trans zm, b3, ?_, ?_, ?_, ?_, ?_, ?_, ?_, ?_, ?_, by simp only [gi_si, gi_sr, gi_sg, gi_sa, gr_si, rr_sr, gr_sg, gr_sa, ga_si, ga_sr, ga_sg, ga_sa, true_and, and_true, false_and, and_false, Nat.reduceEqDiff, ↓reduceIte], ?_, fun f i hf => ?_⟩
      · simp only [gi_si, gi_sr, gi_sg, gi_sa, gr_si, rr_sr, gr_sg, gr_sa, ga_si, ga_sr, ga_sg, ga_sa, true_and, and_true, false_and, and_false, Nat.reduceEqDiff, ↓reduceIte]
        exact b4
      · exact b5.of' (by simp only [gi_si, gi_sr, gi_sg, gi_sa, gr_si, rr_sr, gr_sg, gr_sa, ga_si, ga_sr, ga_sg, ga_sa, true_and, and_true, false_and, and_false, Nat.reduceEqDiff, ↓reduceIte]) (by simp only [gi_si, gi_sr, gi_sg, gi_sa, gr_si, rr_sr, gr_sg, gr_sa, ga_si, ga_sr, ga_sg, ga_sa, true_and, and_true, false_and, and_false, Nat.reduceEqDiff, ↓reduceIte]) rfl
      · exact b6.of' (by simp only [gi_si, gi_sr, gi_sg, gi_sa, gr_si, rr_sr, gr_sg, gr_sa, ga_si, ga_sr, ga_sg, ga_sa, true_and, and_true, false_and, and_false, Nat.reduceEqDiff, ↓reduceIte]) (by simp only [gi_si, gi_sr, gi_sg, gi_sa, gr_si, rr_sr, gr_sg, gr_sa, ga_si, ga_sr, ga_sg, ga_sa, true_and, and_true, false_and, and_false, Nat.reduceEqDiff, ↓reduceIte]) rfl
      · simp only [gi_si, gi_sr, gi_sg, gi_sa, gr_si, rr_sr, gr_sg, gr_sa, ga_si, ga_sr, ga_sg, ga_sa, true_and, and_true, false_and, and_false, Nat.reduceEqDiff, ↓reduceIte]
        rfl
      · simp only [gi_si, gi_sr, gi_sg, gi_sa, gr_si, rr_sr, gr_sg, gr_sa, ga_si, ga_sr, ga_sg, ga_sa, true_and, and_true, false_and, and_false, Nat.reduceEqDiff, ↓reduceIte]
        exact b8
      · simp only [gi_si, gi_sr, gi_sg, gi_sa, gr_si, rr_sr, gr_sg, gr_sa, ga_si, ga_sr, ga_sg, ga_sa, true_and, and_true, false_and, and_false, Nat.reduceEqDiff, ↓reduceIte]
        exact b9
      · simp only [gi_si, gi_sr, gi_sg, gi_sa, gr_si, rr_sr, gr_sg, gr_sa, ga_si, ga_sr, ga_sg, ga_sa, true_and, and_true, false_and, and_false, Nat.reduceEqDiff, ↓reduceIte]
        exact b10
      · exact fun i hi => absurd hi (Nat.not_lt_zero _)
      · simp only [gi_si, gi_sr, gi_sg, gi_sa, gr_si, rr_sr, gr_sg, gr_sa, ga_si, ga_sr, ga_sg, ga_sa, true_and, and_true, false_and, and_false, Nat.reduceEqDiff, ↓reduceIte]
        unfold upd
        rw [if_pos rfl]
        rfl
      · simp only [gi_si, gi_sr, gi_sg, gi_sa, gr_si, rr_sr, gr_sg, gr_sa, ga_si, ga_sr, ga_sg, ga_sa, true_and, and_true, false_and, and_false, Nat.reduceEqDiff, ↓reduceIte]
        exact b14
      · simp only [gi_si, gi_sr, gi_sg, gi_sa, gr_si, rr_sr, gr_sg, gr_sa, ga_si, ga_sr, ga_sg, ga_sa, true_and, and_true, false_and, and_false, Nat.reduceEqDiff, ↓reduceIte]
        rw [if_neg (by omega), b15 f i hf]
    have q1 : gi (si (si σ 409 0 13) 302 (8 * v + vr d) 1) 409 0 = 13 := by simp only [gi_si, gi_sr, gi_sg, gi_sa, gr_si, rr_sr, gr_sg, gr_sa, ga_si, ga_sr, ga_sg, ga_sa, true_and, and_true, false_and, and_false, Nat.reduceEqDiff, ↓reduceIte]
    have huc1 : u + 1 ≤ c := by omega
    have hk1 := w.kk huc1
    simp only [bnd]
    rw [show gi (sa τ 4 0 (8 * v + vr d) (vp_nar .boolean 1)) 834 0 + 1 = nI (u + 1) by simp only [gi_si, gi_sr, gi_sg, gi_sa, gr_si, rr_sr, gr_sg, gr_sa, ga_si, ga_sr, ga_sg, ga_sa, true_and, and_true, false_and, and_false, Nat.reduceEqDiff, ↓reduceIte]; rw [b13, nI_1], show gi (si (sa τ 4 0 (8 * v + vr d) (vp_nar .boolean 1)) 834 0 (nI (u + 1))) 834 0 = nI (u + 1) by simp only [gi_si, gi_sr, gi_sg, gi_sa, gr_si, rr_sr, gr_sg, gr_sa, ga_si, ga_sr, ga_sg, ga_sa, true_and, and_true, false_and, and_false, Nat.reduceEqDiff, ↓reduceIte], ck_nI (by omega) (by omega), (T1.2.2 (u + 1) huc1).1]
    by_cases c2 : ks (u + 1) = 1
    · have hu1 : u + 1 < c := w.lt huc1 (by omega)
      obtain ⟨s2, t2, e1, ⟨t1, e2, e3, e4⟩, rp2⟩ := r_tail hv w X1 T1 hr8 rp hu1 c2
      rw [c2, if_pos (show nI 1 = (1 : Int32) from rfl), ck_nI (by omega) (by omega), ck_nI hg (by omega), (T1.2.2 (u + 1) huc1).2.2]
      rw [show gi (sa (si (sa τ 4 0 (8 * v + vr d) (vp_nar .boolean 1)) 834 0 (nI (u + 1))) 1 12 (8 * v + vr d) (nI (ls (u + 1)))) 834 0 = nI (u + 1) by simp only [gi_si, gi_sr, gi_sg, gi_sa, gr_si, rr_sr, gr_sg, gr_sa, ga_si, ga_sr, ga_sg, ga_sa, true_and, and_true, false_and, and_false, Nat.reduceEqDiff, ↓reduceIte], ln_12, e2, cl_mk, e4, nI_1, ← e3]
      have q2 : gi (si s2 409 0 14) 409 0 = 14 := by simp only [gi_si, gi_sr, gi_sg, gi_sa, gr_si, rr_sr, gr_sg, gr_sa, ga_si, ga_sr, ga_sg, ga_sa, true_and, and_true, false_and, and_false, Nat.reduceEqDiff, ↓reduceIte]
      have step2 : f_X5_step (si (si σ 409 0 13) 302 (8 * v + vr d) 1) (nI (u + 1)) = some (si s2 409 0 14, 0) := by
        rw [xst_13 q1]
        unfold f_X5_stepBehindStar
        rw [x_kind X1 w huc1, cl_mk, c2, if_pos (show nI 1 = (1 : Int32) from rfl), show gr (si (si σ 409 0 13) 302 (8 * v + vr d) 1) 4 0 = 8 * v + vr d from b3, e1, cl_mk]
        rfl
      exact rule_tail hv w p hr8 (Nat.le_refl _) hF (Or.inr (w.nm huc1 c2)) (fun h => by omega) rp2 (by omega) (by omega) (n409 q2 (by decide)) (xst_14 q2 _) (by rw [hr, r1]; exact rn_ok X1 w hu1 step2)
    · rw [if_neg (show ¬ nI (ks (u + 1)) = (1 : Int32) from fun e => c2 ((ln_eq (b := 1) (by omega) (by omega)).mp e))]
      refine rule_tail hv w p hr8 (Nat.le_refl _) hF (Or.inl rfl) (fun _ => rfl) rp (by omega) huc1 (n409 q1 (by decide)) ?_ (by rw [hr, r1])
      rw [xst_13 q1]
      unfold f_X5_stepBehindStar
      rw [x_kind X1 w huc1, cl_mk, if_neg (show ¬ nI (ks (u + 1)) = (1 : Int32) from fun e => c2 ((ln_eq (b := 1) (by omega) (by omega)).mp e)), cl_id]
  · rw [if_neg (show ¬ nI (ks u) = (42 : Int32) from fun e => c1 ((ln_eq (b := 42) (by omega) (by omega)).mp e))]
    exact rule_tail hv w p hr8 (Nat.zero_le _) hF (Or.inl rfl) (fun _ => rfl) h' htt huc h9 (hs2 c1) hr
theorem x_item0 (h : CX σ v d q) (hX : TKX σ tx c ks ps ls) (w : TKW tx c ks ps ls) (htc : t ≤ c) (h0 : q 7 0 = 0) (hk : ks t = 1) : f_X5_stepItem σ (nI t) = if sw 0 = wrd tx (ps t) (ls t) then f_X5_stepRuleWord σ else f_X5_stepLimitWord σ (nI t) := by
  unfold f_X5_stepItem
  rw [h.2.2.1, h0, if_pos (by decide), x_kind hX w htc, cl_mk, hk, if_pos (show nI 1 = (1 : Int32) from rfl), x_word hX w htc (by decide), cl_mk, cl_id, cl_id]
  by_cases e : sw 0 = wrd tx (ps t) (ls t)
  · rw [bI_yes ⟨hk, e⟩, if_neg i10, if_pos e]
  · rw [bI_no (fun h => e h.2), if_pos rfl, if_neg e]
theorem f_rule (hv : v < 8) (w : TKW tx c ks ps ls) (p : PI v tx c ks ps ls σ τ t d q) (ht : t < c) (h9 : gi σ 409 0 = 0) (hD : q 7 0 = 0) (hk : ks t = 1) (hw : sw 0 = wrd tx (ps t) (ls t)) : ITM v tx c ks ps ls σ τ t (f_X9_rule τ (nI v)) := by
  have p' := p
  obtain ⟨px, pm, cw, hX, hT, h4, htc⟩ := p
  have hc := w.cc
  have h0 : gi τ 835 0 = 0 := pm.2.2.2.2.2.2.2.2.2
  have hst : f_X5_step σ (nI t) = f_X5_stepRuleWord σ := by
    rw [(xst_0 h9 hX w htc).2 (fun h => h.2.1 hw), x_item0 px hX w htc hD hk, if_pos hw]
  unfold f_X9_rule
  rw [ck_nI hv (by omega), pm.1.2.1]
  by_cases c8 : vr d = 8
  · left
    obtain ⟨τ', f1, f2, f3⟩ := m_fails (v := v) (e := 3) (q := ps t) h0 (by omega) (by omega)
    have f1 : f_X9_fails τ 3 (nI (ps t)) = _ := f1
    refine ⟨3, ps t, τ', rn_bad (e := 3) (σ' := σ) hv hX w ht (by omega) (by omega) ?_ (QX.refl' v σ), ?_, f2, f3⟩
    · rw [hst]
      unfold f_X5_stepRuleWord
      rw [px.1, px.2.1.2.1, c8, if_neg (by decide)]
      rfl
    · rw [c8, if_pos (by decide), h4, ck_nI (by omega) (by omega), (hT.2.2 t htc).2.1, f1, cl_mk]
  have hr8 : vr d < 8 := by have := cw.1.2.1; omega
  have hg : 8 * v + vr d < 64 := by omega
  -- the class begins the rule
  obtain ⟨s1, e1, u1, w1⟩ := ow_clear (645 + 2 * (8 * v + vr d)) (sr σ 4 0 (8 * v + vr d))
  obtain ⟨s2, e2, u2, w2⟩ := ow_clear (646 + 2 * (8 * v + vr d)) s1
  have w1' := w1.ul u2 (by omega)
  obtain ⟨sb, hsb⟩ : ∃ sb, sb = si (si (si (si s2 302 (8 * v + vr d) 0) 303 (8 * v + vr d) 0) 604 v (nI (vr d + 1))) 409 0 11 := ⟨_, rfl⟩
  have step : f_X5_step σ (nI t) = some (sb, 0) := by
    rw [hst]
    unfold f_X5_stepRuleWord
    rw [px.1, px.2.1.2.1, if_pos (show nI (vr d) < (8 : Int32) from (ln_lt (b := 8) (by omega) (by omega)).mpr hr8), ck_nI hr8 (by omega)]
    simp only [bnd]
    rw [show gr (sr σ 4 0 (8 * v + vr d)) 4 0 = 8 * v + vr d by simp only [gi_si, gi_sr, gi_sg, gi_sa, gr_si, rr_sr, gr_sg, gr_sa, ga_si, ga_sr, ga_sg, ga_sa, true_and, and_true, false_and, and_false, Nat.reduceEqDiff, ↓reduceIte]]
    unfold f_X4_begin
    rw [e1, cl_mk, e2, cl_mk]
    simp only [bnd]
    rw [cl_mk]
    have g2 : gr (si (si s2 302 (8 * v + vr d) 0) 303 (8 * v + vr d) 0) 2 0 = v := by
      simp only [gi_si, gi_sr, gi_sg, gi_sa, gr_si, rr_sr, gr_sg, gr_sa, ga_si, ga_sr, ga_sg, ga_sa, true_and, and_true, false_and, and_false, Nat.reduceEqDiff, ↓reduceIte]
      rw [u2.gr, u1.gr]
      simp only [gi_si, gi_sr, gi_sg, gi_sa, gr_si, rr_sr, gr_sg, gr_sa, ga_si, ga_sr, ga_sg, ga_sa, true_and, and_true, false_and, and_false, Nat.reduceEqDiff, ↓reduceIte]
      exact px.1
    rw [g2, show gi (si (si s2 302 (8 * v + vr d) 0) 303 (8 * v + vr d) 0) 604 v + 1 = nI (vr d + 1) by simp only [gi_si, gi_sr, gi_sg, gi_sa, gr_si, rr_sr, gr_sg, gr_sa, ga_si, ga_sr, ga_sg, ga_sa, true_and, and_true, false_and, and_false, Nat.reduceEqDiff, ↓reduceIte]; rw [u2.2.1 _ _ (by omega), u1.2.1 _ _ (by omega)]; simp only [gi_si, gi_sr, gi_sg, gi_sa, gr_si, rr_sr, gr_sg, gr_sa, ga_si, ga_sr, ga_sg, ga_sa, true_and, and_true, false_and, and_false, Nat.reduceEqDiff, ↓reduceIte]; rw [px.2.1.2.1, nI_1], hsb]
  have zx : ZR v (8 * v + vr d) σ sb := by
    rw [hsb]
    exact (((ZR.sr _).trans (ZR.uq (UQ.ul (Or.inl rfl) u1))).trans (ZR.uq (UQ.ul (Or.inr rfl) u2))).trans ((((ZR.si (by omega) _ _).trans (ZR.si (by omega) _ _)).trans (ZR.s4 _ _)).trans (ZR.s9 _ _))
  have r1 : Rn σ t = Rn sb (t + 1) := rn_ok hX w ht step
  -- the reference begins the rule
  rw [if_neg (show ¬ nI (vr d) = (8 : Int32) from fun e => c8 ((ln_eq (b := 8) (by omega) (by omega)).mp e)), ck_nI hv (by omega), pm.1.2.1, h4, nI_1, ln_8, nI_add]
  simp only [bnd]
  rw [ck_nI hg (by omega), ck_nI hg (by omega), ck_nI hg (by omega)]
  obtain ⟨tb, htb⟩ : ∃ tb, tb = sa (sa (sa (si τ 834 0 (nI (t + 1))) 1 11 (8 * v + vr d) 0) 1 12 (8 * v + vr d) 0) 4 0 (8 * v + vr d) (vp_nar .boolean 0) := ⟨_, rfl⟩
  rw [← htb]
  have zm : ZRm v (8 * v + vr d) τ tb := by
    rw [htb]
    exact (((ZRm.s3 _ _).trans (ZRm.ur (UR.s1 (by omega) rfl _ _))).trans (ZRm.ur (UR.s1 (by omega) rfl _ _))).trans (ZRm.ur (UR.s4 rfl _ _))
  have Xb := (QX.zr hr8 zx).tkx hv hX
  have Tb := (QM.zr hr8 zm).tkm hT
  have q9 : gi sb 409 0 = 11 := by rw [hsb]; simp only [gi_si, gi_sr, gi_sg, gi_sa, gr_si, rr_sr, gr_sg, gr_sa, ga_si, ga_sr, ga_sg, ga_sa, true_and, and_true, false_and, and_false, Nat.reduceEqDiff, ↓reduceIte]
  have t834 : gi tb 834 0 = nI (t + 1) := by rw [htb]; simp only [gi_si, gi_sr, gi_sg, gi_sa, gr_si, rr_sr, gr_sg, gr_sa, ga_si, ga_sr, ga_sg, ga_sa, true_and, and_true, false_and, and_false, Nat.reduceEqDiff, ↓reduceIte]
  have g4 : gr sb 4 0 = 8 * v + vr d := by
    rw [hsb]
    simp only [gi_si, gi_sr, gi_sg, gi_sa, gr_si, rr_sr, gr_sg, gr_sa, ga_si, ga_sr, ga_sg, ga_sa, true_and, and_true, false_and, and_false, Nat.reduceEqDiff, ↓reduceIte]
    rw [u2.gr, u1.gr]
    simp only [gi_si, gi_sr, gi_sg, gi_sa, gr_si, rr_sr, gr_sg, gr_sa, ga_si, ga_sr, ga_sg, ga_sa, true_and, and_true, false_and, and_false, Nat.reduceEqDiff, ↓reduceIte]
  have rp : RPr v d σ τ sb tb (t + 1) 0 [] [] := by
    refine ⟨zx, zm, g4, ?_, ?_, ?_, ?_, ?_, fun i hi => absurd hi (Nat.not_lt_zero _), ?_, fun i hi => absurd hi (Nat.not_lt_zero _), ?_, t834, ?_, fun f i hf => ?_⟩
    · rw [hsb]
      simp only [gi_si, gi_sr, gi_sg, gi_sa, gr_si, rr_sr, gr_sg, gr_sa, ga_si, ga_sr, ga_sg, ga_sa, true_and, and_true, false_and, and_false, Nat.reduceEqDiff, ↓reduceIte]
    · rw [hsb]
      exact w1'.of' (by simp only [gi_si, gi_sr, gi_sg, gi_sa, gr_si, rr_sr, gr_sg, gr_sa, ga_si, ga_sr, ga_sg, ga_sa, true_and, and_true, false_and, and_false, Nat.reduceEqDiff, ↓reduceIte]) (by simp only [gi_si, gi_sr, gi_sg, gi_sa, gr_si, rr_sr, gr_sg, gr_sa, ga_si, ga_sr, ga_sg, ga_sa, true_and, and_true, false_and, and_false, Nat.reduceEqDiff, ↓reduceIte]) rfl
    · rw [hsb]
      exact w2.of' (by simp only [gi_si, gi_sr, gi_sg, gi_sa, gr_si, rr_sr, gr_sg, gr_sa, ga_si, ga_sr, ga_sg, ga_sa, true_and, and_true, false_and, and_false, Nat.reduceEqDiff, ↓reduceIte]) (by simp only [gi_si, gi_sr, gi_sg, gi_sa, gr_si, rr_sr, gr_sg, gr_sa, ga_si, ga_sr, ga_sg, ga_sa, true_and, and_true, false_and, and_false, Nat.reduceEqDiff, ↓reduceIte]) rfl
    · rw [hsb]
      simp only [gi_si, gi_sr, gi_sg, gi_sa, gr_si, rr_sr, gr_sg, gr_sa, ga_si, ga_sr, ga_sg, ga_sa, true_and, and_true, false_and, and_false, Nat.reduceEqDiff, ↓reduceIte]
      rfl
    · rw [htb]
      show ga (sa (sa _ 1 11 _ _) 1 12 (8 * v + vr d) 0) 1 11 _ = _
      rw [a1_oth (by omega), a1_get]
      rfl
    · rw [htb]
      show ga (sa (sa (si τ 834 0 (nI (t + 1))) 1 11 (8 * v + vr d) 0) 1 12 (8 * v + vr d) 0) 1 12 _ = _
      rw [a1_get]
      rfl
    · rw [htb]
      simp only [gi_si, gi_sr, gi_sg, gi_sa, gr_si, rr_sr, gr_sg, gr_sa, ga_si, ga_sr, ga_sg, ga_sa, true_and, and_true, false_and, and_false, Nat.reduceEqDiff, ↓reduceIte]
      unfold upd
      rw [if_pos rfl]
      rfl
    · rw [zm.2 |> fun _ => show ga tb 1 1 v = ga τ 1 1 v by rw [htb]; simp only [gi_si, gi_sr, gi_sg, gi_sa, gr_si, rr_sr, gr_sg, gr_sa, ga_si, ga_sr, ga_sg, ga_sa, true_and, and_true, false_and, and_false, Nat.reduceEqDiff, ↓reduceIte]]
      exact pm.1.2.1
    · rw [htb]
      simp only [gi_si, gi_sr, gi_sg, gi_sa, gr_si, rr_sr, gr_sg, gr_sa, ga_si, ga_sr, ga_sg, ga_sa, true_and, and_true, false_and, and_false, Nat.reduceEqDiff, ↓reduceIte]
      rw [if_neg (by omega)]
  have htc1 : t + 1 ≤ c := by omega
  have hk1 := w.kk htc1
  rw [t834, ck_nI (by omega) (by omega), (Tb.2.2 (t + 1) htc1).1]
  have hpat : ks (t + 1) ≠ 1 → f_X5_step sb (nI (t + 1)) = f_X5_stepStar sb (nI (t + 1)) := by
    intro hne
    rw [xst_11 q9]
    unfold f_X5_stepPattern
    rw [x_kind Xb w htc1, cl_mk, if_neg (show ¬ nI (ks (t + 1)) = (1 : Int32) from fun e => hne ((ln_eq (b := 1) (by omega) (by omega)).mp e)), cl_id]
  by_cases c1 : ks (t + 1) = 1
  · have ht1 : t + 1 < c := w.lt htc1 (by omega)
    obtain ⟨s3, t3, g1, ⟨t2, g2, g3, g5⟩, rp2⟩ := r_head hv w Xb Tb hr8 rp ht1 c1
    rw [c1, if_pos (show nI 1 = (1 : Int32) from rfl), ck_nI (by omega) (by omega), ck_nI hg (by omega), (Tb.2.2 (t + 1) htc1).2.2]
    rw [show gi (sa tb 1 11 (8 * v + vr d) (nI (ls (t + 1)))) 834 0 = nI (t + 1) from t834, ln_12, g2, cl_mk, g5, nI_1, ← g3]
    have q3 : gi (si s3 409 0 12) 409 0 = 12 := by simp only [gi_si, gi_sr, gi_sg, gi_sa, gr_si, rr_sr, gr_sg, gr_sa, ga_si, ga_sr, ga_sg, ga_sa, true_and, and_true, false_and, and_false, Nat.reduceEqDiff, ↓reduceIte]
    have step2 : f_X5_step sb (nI (t + 1)) = some (si s3 409 0 12, 0) := by
      rw [xst_11 q9]
      unfold f_X5_stepPattern
      rw [x_kind Xb w htc1, cl_mk, c1, if_pos (show nI 1 = (1 : Int32) from rfl), g4, g1, cl_mk]
      rfl
    have X3 := (QX.zr hr8 rp2.1).tkx hv hX
    have htc2 : t + 1 + 1 ≤ c := by omega
    have hk2 := w.kk htc2
    have hbh : ∀ b, (ks (t + 1 + 1) = 42) = b → f_X5_step (si s3 409 0 12) (nI (t + 1 + 1)) = if ks (t + 1 + 1) = 42 then f_X5_stepStar (si s3 409 0 12) (nI (t + 1 + 1)) else f_X5_expect (si s3 409 0 12) (nI (t + 1 + 1)) 58 15 := by
      intro b _
      rw [xst_12 q3]
      unfold f_X5_stepBehindHead
      rw [x_kind X3 w htc2, cl_mk, cl_id, cl_id]
      by_cases e : ks (t + 1 + 1) = 42
      · rw [if_pos e, if_pos (show nI (ks (t + 1 + 1)) = (42 : Int32) by rw [e]; rfl)]
      · rw [if_neg e, if_neg (show ¬ nI (ks (t + 1 + 1)) = (42 : Int32) from fun e' => e ((ln_eq (b := 42) (by omega) (by omega)).mp e'))]
    exact r_155 hv w p' hr8 (Or.inr (w.nm htc1 c1)) rp2 (by omega) htc2 (n409 q3 (by decide)) (fun e => by rw [hbh _ rfl, if_pos e]) (fun e => by rw [hbh _ rfl, if_neg e]) (by rw [r1]; exact rn_ok Xb w ht1 step2)
  · rw [if_neg (show ¬ nI (ks (t + 1)) = (1 : Int32) from fun e => c1 ((ln_eq (b := 1) (by omega) (by omega)).mp e)), ck_nI (by omega) (by omega), (Tb.2.2 (t + 1) htc1).1]
    by_cases c2 : ks (t + 1) = 42
    · rw [if_pos (show nI (ks (t + 1)) = (42 : Int32) by rw [c2]; rfl)]
      exact r_155 hv w p' hr8 (Or.inl rfl) rp (by omega) htc1 (n409 q9 (by decide)) (fun _ => hpat c1) (fun e => absurd c2 e) r1
    · rw [if_neg (show ¬ nI (ks (t + 1)) = (42 : Int32) from fun e => c2 ((ln_eq (b := 42) (by omega) (by omega)).mp e)), ck_nI (by omega) (by omega), (Tb.2.2 (t + 1) htc1).2.1]
      left
      obtain ⟨τ', f1, f2, f3⟩ := m_fails (τ := tb) (v := v) (e := 2) (q := ps (t + 1)) (by rw [rp.2.2.2.2.2.2.2.2.2.2.2.2.2.2 _ _ (by omega)]; exact h0) (by omega) (by omega)
      have f1 : f_X9_fails tb 2 (nI (ps (t + 1))) = _ := f1
      rw [f1, cl_mk]
      refine ⟨2, ps (t + 1), τ', ?_, rfl, f2, (QM.zr hr8 zm).trans f3⟩
      rw [r1]
      refine XF.pre ?_ (QX.zr hr8 zx)
      refine rn_want hv Xb w htc1 (Or.inl (n409 q9 (by decide))) (fun hlt => ⟨si sb 302 (8 * v + vr d) 0, ?_, QX.zr hr8 (ZR.si (by omega) _ _)⟩)
      rw [hpat c1]
      unfold f_X5_stepStar
      have : f_X5_expect sb (nI (t + 1)) 42 13 = some (sb, 2) := x_exp_no (k := 42) Xb w htc1 c2 (by omega) 13
      rw [this, cl_mk, if_neg (by decide), g4]
      rfl
end Rt
