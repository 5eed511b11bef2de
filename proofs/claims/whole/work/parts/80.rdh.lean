/-! Reading: limits, ends of holders, the text. -/
section Ru
variable {σ τ σ' τ' : St} {v t : Nat} {d : Vd} {q q' : Nat → Nat → Nat} {tx : List Nat} {c : Nat} {ks ps ls : Nat → Nat}
def k10 (q : Nat → Nat → Nat) (p : Nat) : Nat := if q 7 1 = 0 then q 7 3 else min (q 7 3) (16 * p + 10)
theorem CW_lim {k l t' : Nat} (h : CW c ks ps t d q) (hk : k ≤ q 7 3) (hz : kz k) (hl : l < c) (hkl : ks l = 2) (h3 : 3 * (q 7 1 + 1) ≤ t') (htt : t ≤ t') (hd : 1 ≤ q 7 1 → k < 16 * ps l) : CW c ks ps t' d (qs (qs (qs q 7 3 k) 5 (q 7 1) l) 7 1 (q 7 1 + 1)) := by
  have h' := CW_k h hk hz
  obtain ⟨a1, a2, a3, a4, a5, a6, a7, a8, a9, a10, a11⟩ := h'
  unfold CWs at a5
  unfold FW at a6
  unfold CWu at a7
  unfold CWe fstE at a10
  simp (disch := omega) only [qs_o, qs_s] at a1 a5 a6 a7 a8 a9 a10
  unfold CW CWs CWu CWe FW fstE
  simp (disch := omega) only [qs_o, qs_s]
  refine ⟨a1, a2, a3, a4, a5, a6, a7, a8, by omega, a10, fun i hi => ?_⟩
  rw [qs_s] at hi
  have e73 : qs (qs (qs q 7 3 k) 5 (q 7 1) l) 7 1 (q 7 1 + 1) 7 3 = k := by rw [qs_o (by omega), qs_o (by omega), qs_s]
  have e5 : qs (qs (qs q 7 3 k) 5 (q 7 1) l) 7 1 (q 7 1 + 1) 5 i = qs (qs q 7 3 k) 5 (q 7 1) l 5 i := qs_o (by omega)
  rw [e73, e5]
  by_cases e : i = q 7 1
  · subst e
    rw [qs_s]
    exact ⟨hl, hkl, hd⟩
  · rw [qs_o (by omega), qs_o (by omega)]
    obtain ⟨b1, b2, b3⟩ := h.2.2.2.2.2.2.2.2.2.2 i (by omega)
    exact ⟨b1, b2, fun hh => by have := b3 hh; omega⟩
theorem f_limit (hv : v < 8) (w : TKW tx c ks ps ls) (p : PI v tx c ks ps ls σ τ t d q) (ht : t < c) (h9 : gi σ 409 0 = 0) (hD : q 7 0 = 0) (hk : ks t = 1) (hw0 : sw 0 ≠ wrd tx (ps t) (ls t)) (hw : sw 1 = wrd tx (ps t) (ls t)) : ITM v tx c ks ps ls σ τ t (f_X9_limitItem τ) := by
  obtain ⟨px, pm, cw, hX, hT, h4, htc⟩ := p
  have hc := w.cc
  have h0 : gi τ 835 0 = 0 := pm.2.2.2.2.2.2.2.2.2
  have hz := cw.2.2.2.2.2.2.2.1
  have cnt := cw.2.2.2.2.2.2.2.2.1
  have hps := w.pp htc
  have hx := w.2.2.2.2
  have hst : f_X5_step σ (nI t) = f_X5_stepLimitWord σ (nI t) := by
    rw [(xst_0 h9 hX w htc).2 (fun h => h.2.2 hw), x_item0 px hX w htc hD hk, if_neg hw0]
  have lm414 : gi σ 414 0 = oI (lmq q) := px.2.2.2.2.1
  have l5 : q 7 1 ≠ 0 → q 5 0 < c := fun h => (cw.2.2.2.2.2.2.2.2.2.2 0 (by omega)).1
  -- the word
  have xw : ∃ s1, f_X5_stepLimitWord σ (nI t) = f_X5_stepLimitWord_21 s1 ∧ KXn s1 (k10 q (ps t)) ∧ NX σ s1 := by
    unfold f_X5_stepLimitWord
    rw [lm414]
    unfold lmq k10
    by_cases e : q 7 1 = 0
    · rw [if_pos e, if_pos (show oI none < 0 from m2_neg), if_pos e]
      exact ⟨σ, rfl, px.2.2.2.2.2.1, NX.refl' σ⟩
    · rw [if_neg e, if_neg (show ¬ oI (some (q 5 0)) < 0 from nI_pos (by have := l5 e; omega)), if_neg e, x_place hX w htc, cl_mk]
      obtain ⟨s1, b1, b2, b3, b4, b5⟩ := x_blame (e := 10) (p := ps t) px.2.2.2.2.2.1 hz (by omega) (by omega) (by omega)
      have b1 : f_X5_blame _ 10 (nI (ps t)) = _ := b1
      rw [b1, cl_mk]
      exact ⟨s1, rfl, b2, b3, b4, b5⟩
  obtain ⟨s1, x1, x2, x3⟩ := xw
  have mw' : ∃ t1, f_X9_limitItem τ = f_X9_limitItem_22 t1 ∧ KMn t1 (k10 q (ps t)) ∧ NM τ t1 := by
    unfold f_X9_limitItem
    rw [pm.2.2.2.1]
    unfold k10
    by_cases e : q 7 1 = 0
    · rw [e, if_pos (by decide), if_pos rfl]
      exact ⟨τ, rfl, pm.2.2.2.2.2.1, NM.refl' τ⟩
    · rw [if_neg (fun h => e ((ln_le0 (by omega)).mp h)), if_neg e, h4, ck_nI (by omega) (by omega), (hT.2.2 t htc).2.1]
      obtain ⟨t1, b1, b2, b4, b5⟩ := m_note (e := 10) (p := ps t) pm.2.2.2.2.2.1 hz (by omega) (by omega) (by omega)
      have b1 : f_X9_note _ 10 (nI (ps t)) = _ := b1
      rw [b1, cl_mk]
      exact ⟨t1, rfl, b2, b4, b5⟩
  obtain ⟨t1, y1, y2, y3⟩ := mw'
  have r1 : Rn σ t = Rn (si s1 409 0 16) (t + 1) := rn_ok hX w ht (by rw [hst, x1]; rfl)
  have sx1 : SX σ (si s1 409 0 16) := (SX.bl x3.1 x3.2.1 x3.2.2).trans (SX.si (by omega) _ _)
  have sm1 : SM τ (si t1 834 0 (nI (t + 1))) := (SM.nt y3.1 y3.2).trans (SM.si (by omega) _ _)
  have X1 := (QX.sx (v := v) sx1).tkx hv hX
  have T1 := (QM.sm (v := v) sm1).tkm hT
  have q1 : gi (si s1 409 0 16) 409 0 = 16 := by simp only [gi_si, gi_sr, gi_sg, gi_sa, gr_si, rr_sr, gr_sg, gr_sa, ga_si, ga_sr, ga_sg, ga_sa, true_and, and_true, false_and, and_false, Nat.reduceEqDiff, ↓reduceIte]
  have p1 : gi (si t1 834 0 (nI (t + 1))) 834 0 = nI (t + 1) := by simp only [gi_si, gi_sr, gi_sg, gi_sa, gr_si, rr_sr, gr_sg, gr_sa, ga_si, ga_sr, ga_sg, ga_sa, true_and, and_true, false_and, and_false, Nat.reduceEqDiff, ↓reduceIte]
  have o1 : gi (si t1 834 0 (nI (t + 1))) 835 0 = 0 := by
    simp only [gi_si, gi_sr, gi_sg, gi_sa, gr_si, rr_sr, gr_sg, gr_sa, ga_si, ga_sr, ga_sg, ga_sa, true_and, and_true, false_and, and_false, Nat.reduceEqDiff, ↓reduceIte]
    rw [y3.1 _ _ (by omega)]
    exact h0
  have g414 : gi (si s1 409 0 16) 414 0 = oI (lmq q) := by
    simp only [gi_si, gi_sr, gi_sg, gi_sa, gr_si, rr_sr, gr_sg, gr_sa, ga_si, ga_sr, ga_sg, ga_sa, true_and, and_true, false_and, and_false, Nat.reduceEqDiff, ↓reduceIte]
    rw [x3.2.1 _ _ (by omega), lm414]
  -- the class notes the first number's token
  obtain ⟨s2, hs2⟩ : ∃ s2, s2 = (if q 7 1 = 0 then si (si s1 409 0 16) 414 0 (nI (t + 1)) else si s1 409 0 16) := ⟨_, rfl⟩
  have st2 : f_X5_step (si s1 409 0 16) (nI (t + 1)) = f_X5_expect s2 (nI (t + 1)) 2 17 := by
    rw [xst_16 q1]
    unfold f_X5_stepLimitNumber f_X5_stepLimitNumber_12
    rw [g414, hs2]
    unfold lmq
    by_cases e : q 7 1 = 0
    · rw [if_pos e, if_neg (show ¬ (0 : Int32) ≤ oI none by decide), if_pos e]
      simp only [bnd]
      rw [cl_id]
    · rw [if_neg e, if_pos (show (0 : Int32) ≤ oI (some (q 5 0)) from nI_pos' (by have := l5 e; omega)), if_neg e, cl_id]
  have sx2 : SX (si s1 409 0 16) s2 := by
    rw [hs2]
    split
    · exact SX.si (by omega) _ _
    · exact SX.refl' _
  have X2 := (QX.sx (v := v) sx2).tkx hv X1
  rw [y1]
  unfold f_X9_limitItem_22
  rw [y3.1 _ _ (by omega), h4, nI_1]
  simp only [bnd]
  by_cases c2 : ks (t + 1) = 2
  rotate_left
  · left
    obtain ⟨s17, f1, f2, f3⟩ := m_want_bad (v := v) (k := 2) T1 w (show t + 1 ≤ c by omega) o1 p1 c2 (by omega)
    have f1 : f_X9_want _ 2 = _ := f1
    rw [f1, cl_mk, if_neg f2.no]
    unfold f_X9_limitItem_69
    rw [m_want_no f2, cl_mk]
    refine ⟨2, ps (t + 1), s17, ?_, rfl, f2, (QM.sm sm1).trans f3⟩
    rw [r1]
    refine XF.pre ?_ (QX.sx sx1)
    refine rn_want hv X1 w (by omega) (Or.inl (n409 q1 (by decide))) (fun hlt => ⟨s2, ?_, QX.sx sx2⟩)
    rw [st2]
    exact x_exp_no (k := 2) X2 w (by omega) c2 (by omega) 17
  have ht1 : t + 1 < c := w.lt (by omega) (by omega)
  have wo : f_X9_want (si t1 834 0 (nI (t + 1))) 2 = _ := m_want_ok (k := 2) T1 w (show t + 1 ≤ c by omega) o1 p1 c2
  have r2 : Rn (si s1 409 0 16) (t + 1) = Rn (si s2 409 0 17) (t + 2) := rn_ok X1 w ht1 (by rw [st2]; exact x_exp_ok (k := 2) X2 w (by omega) c2 17)
  have hL : q 7 1 < 700 := by omega
  rw [wo, cl_mk, if_pos (show gi (si (si t1 834 0 (nI (t + 1))) 834 0 (nI (t + 1 + 1))) 835 0 = 0 from o1), show gi (si (si t1 834 0 (nI (t + 1))) 834 0 (nI (t + 1 + 1))) 844 0 = nI (q 7 1) by simp only [gi_si, gi_sr, gi_sg, gi_sa, gr_si, rr_sr, gr_sg, gr_sa, ga_si, ga_sr, ga_sg, ga_sa, true_and, and_true, false_and, and_false, Nat.reduceEqDiff, ↓reduceIte]; rw [y3.1 _ _ (by omega), pm.2.2.2.1], ck_nI hL (by omega), p1, show gi (sa (si (si t1 834 0 (nI (t + 1))) 834 0 (nI (t + 1 + 1))) 1 22 (q 7 1) (nI (t + 1))) 844 0 + 1 = nI (q 7 1 + 1) by simp only [gi_si, gi_sr, gi_sg, gi_sa, gr_si, rr_sr, gr_sg, gr_sa, ga_si, ga_sr, ga_sg, ga_sa, true_and, and_true, false_and, and_false, Nat.reduceEqDiff, ↓reduceIte]; rw [y3.1 _ _ (by omega), pm.2.2.2.1, nI_1]]
  obtain ⟨t2, ht2⟩ : ∃ t2, t2 = si (sa (si (si t1 834 0 (nI (t + 1))) 834 0 (nI (t + 1 + 1))) 1 22 (q 7 1) (nI (t + 1))) 844 0 (nI (q 7 1 + 1)) := ⟨_, rfl⟩
  rw [← ht2]
  unfold f_X9_limitItem_69
  have sm2 : SM τ t2 := by
    rw [ht2]
    exact sm1.trans (((SM.si (by omega) _ _).trans (SM.sa (by omega) _ _)).trans (SM.si (by omega) _ _))
  have sx3 : SX σ (si s2 409 0 17) := (sx1.trans sx2).trans (SX.si (by omega) _ _)
  have X3 := (QX.sx (v := v) sx3).tkx hv hX
  have T2 := (QM.sm (v := v) sm2).tkm hT
  have q3 : gi (si s2 409 0 17) 409 0 = 17 := by simp only [gi_si, gi_sr, gi_sg, gi_sa, gr_si, rr_sr, gr_sg, gr_sa, ga_si, ga_sr, ga_sg, ga_sa, true_and, and_true, false_and, and_false, Nat.reduceEqDiff, ↓reduceIte]
  have p2 : gi t2 834 0 = nI (t + 2) := by rw [ht2]; simp only [gi_si, gi_sr, gi_sg, gi_sa, gr_si, rr_sr, gr_sg, gr_sa, ga_si, ga_sr, ga_sg, ga_sa, true_and, and_true, false_and, and_false, Nat.reduceEqDiff, ↓reduceIte]
  have o2 : gi t2 835 0 = 0 := by rw [ht2]; exact o1
  by_cases c3 : ks (t + 2) = 59
  rotate_left
  · left
    obtain ⟨s17, f1, f2, f3⟩ := m_want_bad (v := v) (k := 59) T2 w (show t + 2 ≤ c by omega) o2 p2 c3 (by omega)
    have f1 : f_X9_want _ 59 = _ := f1
    rw [f1, cl_mk]
    refine ⟨2, ps (t + 2), s17, ?_, rfl, f2, (QM.sm sm2).trans f3⟩
    rw [r1, r2]
    refine XF.pre ?_ (QX.sx sx3)
    refine rn_want hv X3 w (by omega) (Or.inl (n409 q3 (by decide))) (fun hlt => ⟨_, ?_, QX.refl' v _⟩)
    rw [xst_17 q3]
    exact x_exp_no (k := 59) X3 w (by omega) c3 (by omega) 0
  have ht2' : t + 2 < c := w.lt (by omega) (by omega)
  have wo2 : f_X9_want t2 59 = _ := m_want_ok (k := 59) T2 w (show t + 2 ≤ c by omega) o2 p2 c3
  have r3 : Rn (si s2 409 0 17) (t + 2) = Rn (si (si s2 409 0 17) 409 0 0) (t + 3) := rn_ok X3 w ht2' (by rw [xst_17 q3]; exact x_exp_ok (k := 59) X3 w (by omega) c3 0)
  rw [wo2, cl_mk]
  have sxf : SX σ (si (si s2 409 0 17) 409 0 0) := sx3.trans (SX.si (by omega) _ _)
  have smf : SM τ (si t2 834 0 (nI (t + 2 + 1))) := sm2.trans (SM.si (by omega) _ _)
  have hmono := w.mono (t := t) (t + 1) (by omega) (by omega)
  have kle : k10 q (ps t) ≤ q 7 3 := by
    unfold k10
    split <;> omega
  have kkz : kz (k10 q (ps t)) := by
    unfold k10
    split
    · exact hz
    · exact kz_min hz (by omega) (by omega)
  have cwl := CW_lim (l := t + 1) (t' := t + 3) cw kle kkz ht1 c2 (by omega) (by omega) (fun h1 => by
    unfold k10
    rw [if_neg (by omega)]
    omega)
  refine Or.inr ⟨_, _, t + 3, d, _, by omega, ⟨?_, ?_, cwl, (QX.sx (v := v) sxf).tkx hv hX, (QM.sm (v := v) smf).tkm hT, by simp only [gi_si, gi_sr, gi_sg, gi_sa, gr_si, rr_sr, gr_sg, gr_sa, ga_si, ga_sr, ga_sg, ga_sa, true_and, and_true, false_and, and_false, Nat.reduceEqDiff, ↓reduceIte], by omega⟩, by simp only [gi_si, gi_sr, gi_sg, gi_sa, gr_si, rr_sr, gr_sg, gr_sa, ga_si, ga_sr, ga_sg, ga_sa, true_and, and_true, false_and, and_false, Nat.reduceEqDiff, ↓reduceIte], by rw [r1, r2, r3], QX.sx sxf, QM.sm smf, rfl⟩
  · obtain ⟨a1, a2, a3, a4, a5, a6, a7⟩ := px
    have gi2 : ∀ f i, ¬ (f = 409 ∨ f = 414) → gi (si (si s2 409 0 17) 409 0 0) f i = gi s1 f i := by
      intro f i hh
      simp only [gi_si, gi_sr, gi_sg, gi_sa, gr_si, rr_sr, gr_sg, gr_sa, ga_si, ga_sr, ga_sg, ga_sa, true_and, and_true, false_and, and_false, Nat.reduceEqDiff, ↓reduceIte]
      rw [if_neg (by omega), if_neg (by omega), hs2]
      split
      · simp only [gi_si, gi_sr, gi_sg, gi_sa, gr_si, rr_sr, gr_sg, gr_sa, ga_si, ga_sr, ga_sg, ga_sa, true_and, and_true, false_and, and_false, Nat.reduceEqDiff, ↓reduceIte]
        rw [if_neg (by omega), if_neg (by omega)]
      · simp only [gi_si, gi_sr, gi_sg, gi_sa, gr_si, rr_sr, gr_sg, gr_sa, ga_si, ga_sr, ga_sg, ga_sa, true_and, and_true, false_and, and_false, Nat.reduceEqDiff, ↓reduceIte]
        rw [if_neg (by omega)]
    have ga2 : ∀ f i, ga (si (si s2 409 0 17) 409 0 0) f i = ga σ f i := by
      intro f i
      simp only [gi_si, gi_sr, gi_sg, gi_sa, gr_si, rr_sr, gr_sg, gr_sa, ga_si, ga_sr, ga_sg, ga_sa, true_and, and_true, false_and, and_false, Nat.reduceEqDiff, ↓reduceIte]
      rw [hs2]
      split
      · simp only [gi_si, gi_sr, gi_sg, gi_sa, gr_si, rr_sr, gr_sg, gr_sa, ga_si, ga_sr, ga_sg, ga_sa, true_and, and_true, false_and, and_false, Nat.reduceEqDiff, ↓reduceIte]
        rw [x3.2.2]
      · simp only [gi_si, gi_sr, gi_sg, gi_sa, gr_si, rr_sr, gr_sg, gr_sa, ga_si, ga_sr, ga_sg, ga_sa, true_and, and_true, false_and, and_false, Nat.reduceEqDiff, ↓reduceIte]
        rw [x3.2.2]
    unfold CX EX fstE
    simp (disch := omega) only [qs_o, qs_s]
    unfold EX fstE at a7
    refine ⟨by rw [sxf.1 2 0 (by omega), a1], a2.sx sxf, ?_, ?_, ?_, ?_, ?_⟩
    · rw [gi2 _ _ (by omega), x3.2.1 _ _ (by omega), a3]
    · rw [ga2]
      exact a4
    · have el : lmq (qs (qs (qs q 7 3 (k10 q (ps t))) 5 (q 7 1) (t + 1)) 7 1 (q 7 1 + 1)) = some (if q 7 1 = 0 then t + 1 else q 5 0) := by
        unfold lmq
        rw [qs_s, if_neg (show ¬ q 7 1 + 1 = 0 by omega), qs_o (by omega)]
        by_cases e : q 7 1 = 0
        · rw [if_pos e, e, qs_s]
        · rw [if_neg e, qs_o (by omega), qs_o (by omega)]
      rw [el]
      simp only [gi_si, gi_sr, gi_sg, gi_sa, gr_si, rr_sr, gr_sg, gr_sa, ga_si, ga_sr, ga_sg, ga_sa, true_and, and_true, false_and, and_false, Nat.reduceEqDiff, ↓reduceIte]
      rw [hs2]
      by_cases e : q 7 1 = 0
      · rw [if_pos e, if_pos e]
        simp only [gi_si, gi_sr, gi_sg, gi_sa, gr_si, rr_sr, gr_sg, gr_sa, ga_si, ga_sr, ga_sg, ga_sa, true_and, and_true, false_and, and_false, Nat.reduceEqDiff, ↓reduceIte]
        rfl
      · rw [if_neg e, if_neg e]
        simp only [gi_si, gi_sr, gi_sg, gi_sa, gr_si, rr_sr, gr_sg, gr_sa, ga_si, ga_sr, ga_sg, ga_sa, true_and, and_true, false_and, and_false, Nat.reduceEqDiff, ↓reduceIte]
        rw [x3.2.1 _ _ (by omega), a5]
        unfold lmq
        rw [if_neg e]
    · unfold KXn
      rw [gi2 _ _ (by omega), gi2 _ _ (by omega)]
      exact x2
    · rw [ga2, ga2, ga2]
      exact a7
  · obtain ⟨a1, a2, a3, a4, a5, a6, a7, a8, a9, a10⟩ := pm
    have gi2 : ∀ f i, ¬ (f = 834 ∨ f = 844) → gi (si t2 834 0 (nI (t + 2 + 1))) f i = gi t1 f i := by
      intro f i hh
      rw [ht2]
      simp only [gi_si, gi_sr, gi_sg, gi_sa, gr_si, rr_sr, gr_sg, gr_sa, ga_si, ga_sr, ga_sg, ga_sa, true_and, and_true, false_and, and_false, Nat.reduceEqDiff, ↓reduceIte]
      rw [if_neg (by omega), if_neg (by omega), if_neg (by omega), if_neg (by omega)]
    have ga2 : ∀ r, r ≠ 22 → ga (si t2 834 0 (nI (t + 2 + 1))) 1 r = ga τ 1 r := by
      intro r hr
      rw [ht2]
      simp only [gi_si, gi_sr, gi_sg, gi_sa, gr_si, rr_sr, gr_sg, gr_sa, ga_si, ga_sr, ga_sg, ga_sa, true_and, and_true, false_and, and_false, Nat.reduceEqDiff, ↓reduceIte]
      rw [if_neg (by omega), y3.2]
    unfold CM
    simp (disch := omega) only [qs_o, qs_s]
    refine ⟨a1.sm smf cw.lw, ?_, ?_, ?_, fun i hi => ?_, ?_, ?_, fun i hi r hr => ?_, ?_, ?_⟩
    · rw [gi2 _ _ (by omega), y3.1 _ _ (by omega), a2]
    · rw [ga2 24 (by omega)]
      exact a3
    · rw [ht2]
      simp only [gi_si, gi_sr, gi_sg, gi_sa, gr_si, rr_sr, gr_sg, gr_sa, ga_si, ga_sr, ga_sg, ga_sa, true_and, and_true, false_and, and_false, Nat.reduceEqDiff, ↓reduceIte]
    · rw [ht2]
      simp only [gi_si, gi_sr, gi_sg, gi_sa, gr_si, rr_sr, gr_sg, gr_sa, ga_si, ga_sr, ga_sg, ga_sa, true_and, and_true, false_and, and_false, Nat.reduceEqDiff, ↓reduceIte]
      unfold upd
      by_cases e : i = q 7 1
      · subst e
        rw [if_pos rfl, qs_s]
      · rw [if_neg e, y3.2, qs_o (by omega), qs_o (by omega), a5 i (by omega)]
    · unfold KMn
      rw [gi2 _ _ (by omega), gi2 _ _ (by omega)]
      exact y2
    · rw [gi2 _ _ (by omega), y3.1 _ _ (by omega), a7]
    · rw [ga2 _ (by omega), qs_o (by omega), qs_o (by omega), qs_o (by omega), a8 i hi r hr]
    · rw [gi2 _ _ (by omega), y3.1 _ _ (by omega), a9]
    · rw [gi2 _ _ (by omega), y3.1 _ _ (by omega), a10]
theorem CW_close (h : CW c ks ps t d q) (hD : 0 < q 7 0) : CW c ks ps t d (qs q 7 0 (q 7 0 - 1)) := by
  obtain ⟨a1, a2, a3, a4, a5, a6, a7, a8, a9, a10, a11⟩ := h
  unfold CW CWs CWu CWe CWl FW fstE
  simp (disch := omega) only [qs_o, qs_s]
  unfold CWs CWu CWe CWl FW fstE at *
  exact ⟨by omega, a2, a3, a4, fun k hk => a5 k (by omega), a6, a7, a8, a9, a10, a11⟩
theorem f_close (hv : v < 8) (w : TKW tx c ks ps ls) (p : PI v tx c ks ps ls σ τ t d q) (h9 : gi σ 409 0 = 0) (hD : 0 < q 7 0) (hk : ks t = 125) : ITM v tx c ks ps ls σ τ t (cl (f_X9_want (si (si τ 847 0 (nI (q 7 0 - 1))) 834 0 (nI (t + 1))) 59) fun s8 _ => some (s8, ())) := by
  obtain ⟨px, pm, cw, hX, hT, h4, htc⟩ := p
  have hc := w.cc
  have h0 : gi τ 835 0 = 0 := pm.2.2.2.2.2.2.2.2.2
  have dD := cw.1.2.2.2
  have ht : t < c := w.lt htc (by omega)
  have step : f_X5_step σ (nI t) = some (si (si σ 409 0 17) 410 0 (nI (q 7 0 - 1)), 0) := by
    rw [(xst_0 h9 hX w htc).2 (fun h => by have := h.1; omega)]
    unfold f_X5_stepItem
    have : f_X5_expect σ (nI t) 125 17 = _ := x_exp_ok (k := 125) hX w htc hk 17
    rw [px.2.2.1, if_neg (fun e => by have := (ln_le0 (by omega)).mp e; omega), this, cl_mk, if_pos rfl, show gi (si σ 409 0 17) 410 0 = nI (q 7 0) by simp only [gi_si, gi_sr, gi_sg, gi_sa, gr_si, rr_sr, gr_sg, gr_sa, ga_si, ga_sr, ga_sg, ga_sa, true_and, and_true, false_and, and_false, Nat.reduceEqDiff, ↓reduceIte]; exact px.2.2.1, ln_pred hD]
    rfl
  have r1 : Rn σ t = Rn (si (si σ 409 0 17) 410 0 (nI (q 7 0 - 1))) (t + 1) := rn_ok hX w ht step
  have sx1 : SX σ (si (si σ 409 0 17) 410 0 (nI (q 7 0 - 1))) := (SX.si (by omega) _ _).trans (SX.si (by omega) _ _)
  have sm1 : SM τ (si (si τ 847 0 (nI (q 7 0 - 1))) 834 0 (nI (t + 1))) := (SM.si (by omega) _ _).trans (SM.si (by omega) _ _)
  have X1 := (QX.sx (v := v) sx1).tkx hv hX
  have T1 := (QM.sm (v := v) sm1).tkm hT
  have q1 : gi (si (si σ 409 0 17) 410 0 (nI (q 7 0 - 1))) 409 0 = 17 := by simp only [gi_si, gi_sr, gi_sg, gi_sa, gr_si, rr_sr, gr_sg, gr_sa, ga_si, ga_sr, ga_sg, ga_sa, true_and, and_true, false_and, and_false, Nat.reduceEqDiff, ↓reduceIte]
  have p1 : gi (si (si τ 847 0 (nI (q 7 0 - 1))) 834 0 (nI (t + 1))) 834 0 = nI (t + 1) := by simp only [gi_si, gi_sr, gi_sg, gi_sa, gr_si, rr_sr, gr_sg, gr_sa, ga_si, ga_sr, ga_sg, ga_sa, true_and, and_true, false_and, and_false, Nat.reduceEqDiff, ↓reduceIte]
  have o1 : gi (si (si τ 847 0 (nI (q 7 0 - 1))) 834 0 (nI (t + 1))) 835 0 = 0 := h0
  by_cases c3 : ks (t + 1) = 59
  · have ht1 : t + 1 < c := w.lt (by omega) (by omega)
    have wo2 : f_X9_want (si (si τ 847 0 (nI (q 7 0 - 1))) 834 0 (nI (t + 1))) 59 = _ := m_want_ok (k := 59) T1 w (show t + 1 ≤ c by omega) o1 p1 c3
    have r2 : Rn (si (si σ 409 0 17) 410 0 (nI (q 7 0 - 1))) (t + 1) = Rn (si (si (si σ 409 0 17) 410 0 (nI (q 7 0 - 1))) 409 0 0) (t + 2) := rn_ok X1 w ht1 (by rw [xst_17 q1]; exact x_exp_ok (k := 59) X1 w (by omega) c3 0)
    rw [wo2, cl_mk]
    have sxf := sx1.trans (SX.si (f := 409) (by omega) (si (si σ 409 0 17) 410 0 (nI (q 7 0 - 1))) 0)
    have smf := sm1.trans (SM.si (f := 834) (by omega) (si (si τ 847 0 (nI (q 7 0 - 1))) 834 0 (nI (t + 1))) (nI (t + 1 + 1)))
    refine Or.inr ⟨_, _, t + 2, d, _, by omega, ⟨?_, ?_, (CW_close cw hD).mono (by omega), (QX.sx (v := v) sxf).tkx hv hX, (QM.sm (v := v) smf).tkm hT, by simp only [gi_si, gi_sr, gi_sg, gi_sa, gr_si, rr_sr, gr_sg, gr_sa, ga_si, ga_sr, ga_sg, ga_sa, true_and, and_true, false_and, and_false, Nat.reduceEqDiff, ↓reduceIte], by omega⟩, by simp only [gi_si, gi_sr, gi_sg, gi_sa, gr_si, rr_sr, gr_sg, gr_sa, ga_si, ga_sr, ga_sg, ga_sa, true_and, and_true, false_and, and_false, Nat.reduceEqDiff, ↓reduceIte], by rw [r1, r2], QX.sx sxf, QM.sm smf, rfl⟩
    · obtain ⟨a1, a2, a3, a4, a5, a6, a7⟩ := px
      unfold CX EX lmq fstE
      simp (disch := omega) only [qs_o, qs_s]
      unfold EX fstE at a7
      unfold lmq at a5
      refine ⟨a1, a2.sx sxf, by simp only [gi_si, gi_sr, gi_sg, gi_sa, gr_si, rr_sr, gr_sg, gr_sa, ga_si, ga_sr, ga_sg, ga_sa, true_and, and_true, false_and, and_false, Nat.reduceEqDiff, ↓reduceIte], fun i hi => a4 i (by omega), ?_, ?_, a7⟩
      · simp only [gi_si, gi_sr, gi_sg, gi_sa, gr_si, rr_sr, gr_sg, gr_sa, ga_si, ga_sr, ga_sg, ga_sa, true_and, and_true, false_and, and_false, Nat.reduceEqDiff, ↓reduceIte]
        exact a5
      · unfold KXn
        simp only [gi_si, gi_sr, gi_sg, gi_sa, gr_si, rr_sr, gr_sg, gr_sa, ga_si, ga_sr, ga_sg, ga_sa, true_and, and_true, false_and, and_false, Nat.reduceEqDiff, ↓reduceIte]
        exact a6
    · obtain ⟨a1, a2, a3, a4, a5, a6, a7, a8, a9, a10⟩ := pm
      unfold CM
      simp (disch := omega) only [qs_o, qs_s]
      refine ⟨a1, by simp only [gi_si, gi_sr, gi_sg, gi_sa, gr_si, rr_sr, gr_sg, gr_sa, ga_si, ga_sr, ga_sg, ga_sa, true_and, and_true, false_and, and_false, Nat.reduceEqDiff, ↓reduceIte], fun i hi => a3 i (by omega), ?_, a5, ?_, ?_, fun i hi r hr => ?_, ?_, ?_⟩
      · simp only [gi_si, gi_sr, gi_sg, gi_sa, gr_si, rr_sr, gr_sg, gr_sa, ga_si, ga_sr, ga_sg, ga_sa, true_and, and_true, false_and, and_false, Nat.reduceEqDiff, ↓reduceIte]
        exact a4
      · unfold KMn
        simp only [gi_si, gi_sr, gi_sg, gi_sa, gr_si, rr_sr, gr_sg, gr_sa, ga_si, ga_sr, ga_sg, ga_sa, true_and, and_true, false_and, and_false, Nat.reduceEqDiff, ↓reduceIte]
        exact a6
      · simp only [gi_si, gi_sr, gi_sg, gi_sa, gr_si, rr_sr, gr_sg, gr_sa, ga_si, ga_sr, ga_sg, ga_sa, true_and, and_true, false_and, and_false, Nat.reduceEqDiff, ↓reduceIte]
        exact a7
      · rw [qs_o (by omega)]
        exact a8 i hi r hr
      · simp only [gi_si, gi_sr, gi_sg, gi_sa, gr_si, rr_sr, gr_sg, gr_sa, ga_si, ga_sr, ga_sg, ga_sa, true_and, and_true, false_and, and_false, Nat.reduceEqDiff, ↓reduceIte]
        exact a9
      · simp only [gi_si, gi_sr, gi_sg, gi_sa, gr_si, rr_sr, gr_sg, gr_sa, ga_si, ga_sr, ga_sg, ga_sa, true_and, and_true, false_and, and_false, Nat.reduceEqDiff, ↓reduceIte]
        exact a10
  · left
    obtain ⟨s17, f1, f2, f3⟩ := m_want_bad (v := v) (k := 59) T1 w (show t + 1 ≤ c by omega) o1 p1 c3 (by omega)
    have f1 : f_X9_want _ 59 = _ := f1
    rw [f1, cl_mk]
    refine ⟨2, ps (t + 1), s17, ?_, rfl, f2, (QM.sm sm1).trans f3⟩
    rw [r1]
    refine XF.pre ?_ (QX.sx sx1)
    refine rn_want hv X1 w (by omega) (Or.inl (n409 q1 (by decide))) (fun hlt => ⟨_, ?_, QX.refl' v _⟩)
    rw [xst_17 q1]
    exact x_exp_no (k := 59) X1 w (by omega) c3 (by omega) 0
theorem f_text (hv : v < 8) (w : TKW tx c ks ps ls) : ∀ (r t : Nat), t + r = c → ∀ (σ τ : St) (d : Vd) (q : Nat → Nat → Nat), PI v tx c ks ps ls σ τ t d q → gi σ 409 0 = 0 → ∀ m, r + 1 < m → BD v σ τ (Rn σ t) (f_X9_text_10 m τ (nI v)) ∨ ∃ σ' τ' d' q', PI v tx c ks ps ls σ' τ' c d' q' ∧ gi σ' 409 0 = 0 ∧ q' 7 0 = 0 ∧ Rn σ t = Rn σ' c ∧ QX v σ σ' ∧ QM v τ τ' ∧ f_X9_text_10 m τ (nI v) = some (τ', ()) := by
  have hc := w.cc
  intro r
  induction r using Nat.strongRecOn with
  | _ r ih =>
    intro t hr σ τ d q p h9 m hm
    obtain ⟨m, rfl⟩ : ∃ m', m = m' + 1 := ⟨m - 1, by omega⟩
    have p' := p
    obtain ⟨px, pm, cw, hX, hT, h4, htc⟩ := p
    have dD := cw.1.2.2.2
    have h0 : gi τ 835 0 = 0 := pm.2.2.2.2.2.2.2.2.2
    have hk := w.kk htc
    -- an item, and what comes behind it
    have item : ∀ b, ITM v tx c ks ps ls σ τ t b → BD v σ τ (Rn σ t) (cl b fun s _ => f_X9_text_183 (f_X9_text_10 m) s (nI v)) ∨ ∃ σ' τ' d' q', PI v tx c ks ps ls σ' τ' c d' q' ∧ gi σ' 409 0 = 0 ∧ q' 7 0 = 0 ∧ Rn σ t = Rn σ' c ∧ QX v σ σ' ∧ QM v τ τ' ∧ (cl b fun s _ => f_X9_text_183 (f_X9_text_10 m) s (nI v)) = some (τ', ()) := by
      intro b hb
      rcases hb with ⟨e, qq, τ', g1, g2, g3, g4⟩ | ⟨s2, t2, u, d2, q2, g1, g2, g3, g4, g5, g6, g7⟩
      · left
        obtain ⟨m, rfl⟩ : ∃ m', m = m' + 1 := ⟨m - 1, by omega⟩
        refine ⟨e, qq, τ', g1, ?_, g3, g4⟩
        rw [g2, cl_mk]
        unfold f_X9_text_183
        rw [f_X9_text_10.eq_2, if_neg g3.no]
      · rw [g7, cl_mk]
        unfold f_X9_text_183
        have := g2.2.2.2.2.2.2
        rcases ih (c - u) (by omega) u (by omega) s2 t2 d2 q2 g2 g3 m (by omega) with hb | ⟨s3, t3, d3, q3, k1, k2, k3, k4, k5, k6, k7⟩
        · left
          rw [g4]
          exact hb.pre g5 g6
        · exact Or.inr ⟨s3, t3, d3, q3, k1, k2, k3, g4.trans k4, g5.trans k5, g6.trans k6, k7⟩
    -- a token that may not stand here
    have wrong : (¬ isFN tx ks ps ls t) → (0 < q 7 0 → ks t ≠ 125) → (q 7 0 = 0 → t < c ∧ ks t ≠ 1) → BD v σ τ (Rn σ t) (f_X9_text_130 (f_X9_text_183 (f_X9_text_10 m)) τ (nI v)) := by
      intro n1 n2 n3
      obtain ⟨τ', f1, f2, f3⟩ := m_fails (v := v) (e := 2) (q := ps t) h0 (by omega) (by omega)
      have f1 : f_X9_fails τ 2 (nI (ps t)) = _ := f1
      refine ⟨2, ps t, τ', ?_, ?_, f2, f3⟩
      · by_cases e : q 7 0 = 0
        · obtain ⟨m1, m2⟩ := n3 e
          refine rn_bad (e := 2) (σ' := σ) hv hX w m1 (by omega) (by omega) ?_ (QX.refl' v σ)
          rw [(xst_0 h9 hX w htc).2 n1]
          unfold f_X5_stepItem
          rw [px.2.2.1, e, if_pos (by decide), x_kind hX w htc, cl_mk, if_neg (show ¬ nI (ks t) = (1 : Int32) from fun e' => m2 ((ln_eq (b := 1) (by omega) (by omega)).mp e'))]
          rfl
        · refine rn_want hv hX w htc (Or.inr (by rw [px.2.2.1]; exact fun e' => e ((ln_le0 (by omega)).mp e'))) (fun hlt => ⟨si σ 410 0 (gi σ 410 0 - 0), ?_, QX.s4 (by omega) _ _⟩)
          rw [(xst_0 h9 hX w htc).2 n1]
          unfold f_X5_stepItem
          have : f_X5_expect σ (nI t) 125 17 = some (σ, 2) := x_exp_no (k := 125) hX w htc (n2 (by omega)) (by omega) 17
          rw [if_neg (by rw [px.2.2.1]; exact fun e' => e ((ln_le0 (by omega)).mp e')), this, cl_mk, if_neg (by decide)]
          rfl
      · obtain ⟨m, rfl⟩ : ∃ m', m = m' + 1 := ⟨m - 1, by omega⟩
        unfold f_X9_text_130 f_X9_text_183
        rw [h4, ck_nI (by omega) (by omega), (hT.2.2 t htc).2.1, f1, cl_mk, f_X9_text_10.eq_2, if_neg f2.no]
    have z0 := m_isW w htc (k := 0) (by decide) z_rule
    have z1 := m_isW w htc (k := 1) (by decide) z_limit
    -- one item
    have go : (q 7 0 = 0 → t < c) → BD v σ τ (Rn σ t) (f_X9_text_35 (f_X9_text_10 m) τ (nI v)) ∨ ∃ σ' τ' d' q', PI v tx c ks ps ls σ' τ' c d' q' ∧ gi σ' 409 0 = 0 ∧ q' 7 0 = 0 ∧ Rn σ t = Rn σ' c ∧ QX v σ σ' ∧ QM v τ τ' ∧ f_X9_text_35 (f_X9_text_10 m) τ (nI v) = some (τ', ()) := by
      intro hgo
      have fld : ks t = 1 → sw 0 ≠ wrd tx (ps t) (ls t) → sw 1 ≠ wrd tx (ps t) (ls t) → BD v σ τ (Rn σ t) (f_X9_text_147 (f_X9_text_183 (f_X9_text_10 m)) τ (nI v) (lN (mw tx ks ps ls t))) ∨ ∃ σ' τ' d' q', PI v tx c ks ps ls σ' τ' c d' q' ∧ gi σ' 409 0 = 0 ∧ q' 7 0 = 0 ∧ Rn σ t = Rn σ' c ∧ QX v σ σ' ∧ QM v τ τ' ∧ f_X9_text_147 (f_X9_text_183 (f_X9_text_10 m)) τ (nI v) (lN (mw tx ks ps ls t)) = some (τ', ()) := by
        intro m1 m2 m3
        unfold f_X9_text_147
        rw [if_neg (fun e => m2 (z0.mp e).2), if_neg (fun e => m3 (z1.mp e).2)]
        exact item _ (f_field hv w p' (w.lt htc (by omega)) h9 ⟨m1, m2, m3⟩)
      unfold f_X9_text_35
      rw [h4, m_word hT w htc, cl_mk, pm.2.1]
      by_cases e : q 7 0 = 0
      · rw [e, if_pos (by decide)]
        unfold f_X9_text_94
        rw [h4, ck_nI (by omega) (by omega), (hT.2.2 t htc).1]
        by_cases c1 : ks t = 1
        · rw [c1, if_pos (show nI 1 = (1 : Int32) from rfl), pm.2.1, e, if_pos (by decide)]
          by_cases c2 : sw 0 = wrd tx (ps t) (ls t)
          · unfold f_X9_text_147
            rw [if_pos (z0.mpr ⟨c1, c2⟩)]
            exact item _ (f_rule hv w p' (hgo e) h9 e c1 c2)
          · by_cases c3 : sw 1 = wrd tx (ps t) (ls t)
            · unfold f_X9_text_147
              rw [if_neg (fun e => c2 (z0.mp e).2), if_pos (z1.mpr ⟨c1, c3⟩)]
              exact item _ (f_limit hv w p' (hgo e) h9 e c1 c2 c3)
            · exact fld c1 c2 c3
        · rw [if_neg (show ¬ nI (ks t) = (1 : Int32) from fun e' => c1 ((ln_eq (b := 1) (by omega) (by omega)).mp e'))]
          exact Or.inl (wrong (fun h => c1 h.1) (fun h => by omega) (fun _ => ⟨hgo e, c1⟩))
      · rw [if_neg (fun e' => e ((ln_le0 (by omega)).mp e')), h4, ck_nI (by omega) (by omega), (hT.2.2 t htc).1]
        by_cases c1 : ks t = 125
        · rw [c1, if_pos (show nI 125 = (125 : Int32) from rfl), ln_pred (by omega)]
          simp only [bnd]
          rw [show gi (si τ 847 0 (nI (q 7 0 - 1))) 834 0 + 1 = nI (t + 1) by simp only [gi_si, gi_sr, gi_sg, gi_sa, gr_si, rr_sr, gr_sg, gr_sa, ga_si, ga_sr, ga_sg, ga_sa, true_and, and_true, false_and, and_false, Nat.reduceEqDiff, ↓reduceIte]; rw [h4, nI_1]]
          have hcl := item _ (f_close hv w p' h9 (by omega) c1)
          have eb : (cl (cl (f_X9_want (si (si τ 847 0 (nI (q 7 0 - 1))) 834 0 (nI (t + 1))) 59) fun s8 _ => some (s8, ())) fun s _ => f_X9_text_183 (f_X9_text_10 m) s (nI v)) = (cl (f_X9_want (si (si τ 847 0 (nI (q 7 0 - 1))) 834 0 (nI (t + 1))) 59) fun s8 _ => f_X9_text_183 (f_X9_text_10 m) s8 (nI v)) := by
            cases f_X9_want (si (si τ 847 0 (nI (q 7 0 - 1))) 834 0 (nI (t + 1))) 59 with
            | none => rfl
            | some p => rfl
          rw [eb] at hcl
          exact hcl
        · rw [if_neg (show ¬ nI (ks t) = (125 : Int32) from fun e' => c1 ((ln_eq (b := 125) (by omega) (by omega)).mp e'))]
          unfold f_X9_text_94
          rw [h4, ck_nI (by omega) (by omega), (hT.2.2 t htc).1]
          by_cases c2 : ks t = 1
          · rw [if_pos (show nI (ks t) = (1 : Int32) by rw [c2]; rfl), pm.2.1, if_neg (fun e' => e ((ln_le0 (by omega)).mp e'))]
            by_cases c3 : sw 0 = wrd tx (ps t) (ls t)
            · rw [if_pos (z0.mpr ⟨c2, c3⟩)]
              exact Or.inl (wrong (fun h => h.2.1 c3) (fun _ => c1) (fun h => absurd h e))
            · rw [if_neg (fun e => c3 (z0.mp e).2)]
              by_cases c4 : sw 1 = wrd tx (ps t) (ls t)
              · rw [if_pos (z1.mpr ⟨c2, c4⟩)]
                exact Or.inl (wrong (fun h => h.2.2 c4) (fun _ => c1) (fun h => absurd h e))
              · rw [if_neg (fun e => c4 (z1.mp e).2)]
                exact fld c2 c3 c4
          · rw [if_neg (show ¬ nI (ks t) = (1 : Int32) from fun e' => c2 ((ln_eq (b := 1) (by omega) (by omega)).mp e'))]
            exact Or.inl (wrong (fun h => c2 h.1) (fun _ => c1) (fun h => absurd h e))
    rw [f_X9_text_10.eq_2, if_pos h0, pm.2.1]
    by_cases e : q 7 0 = 0
    · rw [if_neg (show ¬ 0 < nI (q 7 0) from fun e' => by have := (ln_0lt (by omega)).mp e'; omega), hT.2.1, h4]
      by_cases e' : c ≤ t
      · rw [if_pos (nI_le e' (by omega))]
        have : t = c := by omega
        subst this
        exact Or.inr ⟨σ, τ, d, q, p', h9, e, rfl, QX.refl' v σ, QM.refl' v τ, rfl⟩
      · rw [if_neg (nI_ge (by omega) (by omega))]
        exact go (fun _ => by omega)
    · rw [if_pos (show 0 < nI (q 7 0) from (ln_0lt (by omega)).mpr (by omega))]
      exact go (fun h => absurd h e)
end Ru
