/-! Reading: a field's head, the reference. -/
section R7
variable {σ τ σ' τ' : St} {v t : Nat} {d : Vd} {q : Nat → Nat → Nat} {tx : List Nat} {c : Nat} {ks ps ls : Nat → Nat}
theorem fm_s {p : Nat → Bool} {r i : Nat} : fm p (r + 1) i = if p i = true then some i else fm p r (i + 1) := rfl
theorem m_twice (hv : v < 8) (h40 : vn d < 40) (wt : WT d) {H : Option Nat} {N : List Nat} (hb : ∀ x, H = some x → x < 1000) (hN : N.length ≤ 12) (bN : By N) (w : TKW tx c ks ps ls) (ht : t ≤ c) : ∀ (r i : Nat), i + r = vn d → ∀ (τ : St) (k : Nat), VM0 τ v d → TKM τ tx c ks ps ls → gi τ 834 0 = nI t → ga τ 1 10 (40 * v + vn d) = oI H → ga τ 1 3 (40 * v + vn d) = nI N.length → Bs (ga τ 2 3) (12 * (40 * v + vn d)) N → KMn τ k → kz k → ∀ m, r < m → ∃ τ', f_X9_field_118 m τ (nI v) (nI (vn d)) (nI (40 * v + vn d)) (nI i) = mTail τ' (nI v) (nI (vn d)) (nI (40 * v + vn d)) ∧ KMn τ' (if (fm (twp d H N) r i).isSome = true then min k (16 * ps t + 4) else k) ∧ (∀ f i, ¬ (f = 836 ∨ f = 837) → gi τ' f i = gi τ f i) ∧ (∀ f i, ga τ' f i = ga τ f i) := by
  have hc := w.cc
  have hps := w.pp ht
  have hx := w.2.2.2.2
  intro r
  induction r with
  | zero =>
    intro i hi τ k a hT h4 hH h3 hB hk hz m hm
    obtain ⟨m, rfl⟩ : ∃ m', m = m' + 1 := ⟨m - 1, by omega⟩
    refine ⟨τ, ?_, hk, fun _ _ _ => rfl, fun _ _ => rfl⟩
    rw [f_X9_field_118.eq_2, if_pos (nI_le (by omega) (by omega))]
    rfl
  | succ r ih =>
    intro i hi τ k a hT h4 hH h3 hB hk hz m hm
    obtain ⟨m, rfl⟩ : ∃ m', m = m' + 1 := ⟨m - 1, by omega⟩
    have fi := a.2.2.1 i (by omega)
    have ni := (wt i (by omega)).1
    have hb' : ∀ x, oH d i = some x → x < 1000 := by
      intro x hx
      rcases (wt i (by omega)).2.2 with ⟨b1, _⟩ | ⟨p, b1, b2, _⟩
      · rw [b1] at hx
        cases hx
      · rw [b2] at hx
        cases hx
        omega
    have sn := m_sname (τ := τ) (g := 40 * v + i) (h := 40 * v + vn d) (by omega) (by omega) fi.1.2.2.2.2.1 h3 fi.1.2.2.2.2.2.1 hB ni.2.1 hN ni.by' bN
    rw [f_X9_field_118.eq_2, if_neg (nI_ge (by omega) (by omega)), ln_40, nI_add, ck_nI (by omega) (by omega), ck_nI (by omega) (by omega), fi.1.2.2.2.1, hH, sn, fm_s]
    unfold f_X9_field_174
    rw [nI_1]
    by_cases c1 : oH d i = H
    · rw [if_pos (by rw [c1]), cl_mk]
      by_cases c2 : nN d i = N
      · rw [bI_yes c2, if_neg i10, if_pos (show twp d H N i = true from decide_eq_true ⟨c1, c2⟩), h4, ck_nI (by omega) (by omega), (hT.2.2 t ht).2.1]
        obtain ⟨s1, e1, k1, g1, g2⟩ := m_note (e := 4) (p := ps t) hk hz (by omega) (by omega) (by omega)
        have e1 : f_X9_note τ 4 (nI (ps t)) = _ := e1
        rw [e1, cl_mk]
        have lw : LW d → VM0 s1 v d := fun l => a.sm (SM.nt g1 g2) l
        have v1 : VM0 s1 v d := by
          obtain ⟨p1, p2, p3, p4⟩ := a
          unfold VM0 FMc FM RM
          simp only [g2]
          exact ⟨p1, p2, p3, p4⟩
        have t1 : TKM s1 tx c ks ps ls := (QM.sm (v := v) (SM.nt g1 g2)).tkm hT
        obtain ⟨τ', k2, k3, k4, k5⟩ := ih (i + 1) (by omega) s1 _ v1 t1 (by rw [g1 _ _ (by omega), h4]) (by rw [g2, hH]) (by rw [g2, h3]) (by rw [g2]; exact hB) k1 (kz_min hz (by omega) (by omega)) m (by omega)
        refine ⟨τ', k2, ?_, fun f i a => (k4 f i a).trans (g1 f i a), fun f i => (k5 f i).trans (g2 f i)⟩
        have : (some i).isSome = true := rfl
        rw [if_pos this]
        have e5 : (if (fm (twp d H N) r (i + 1)).isSome = true then min (min k (16 * ps t + 4)) (16 * ps t + 4) else min k (16 * ps t + 4)) = min k (16 * ps t + 4) := by
          split
          · omega
          · rfl
        rw [e5] at k3
        exact k3
      · rw [bI_no c2, if_pos rfl, if_neg (show ¬ twp d H N i = true from fun e => c2 (of_decide_eq_true e).2)]
        exact ih (i + 1) (by omega) τ k a hT h4 hH h3 hB hk hz m (by omega)
    · rw [if_neg (fun e => c1 ((oI_inj hb' hb).mp e)), if_neg (show ¬ twp d H N i = true from fun e => c1 (of_decide_eq_true e).1)]
      exact ih (i + 1) (by omega) τ k a hT h4 hH h3 hB hk hz m (by omega)
theorem m_fname (hv : v < 8) (h : CM τ v d q) (cw : CW c ks ps t d q) (hT : TKM τ tx c ks ps ls) (w : TKW tx c ks ps ls) (h4 : gi τ 834 0 = nI t) (ht : t < c) (hk : ks t = 1) (hn : vn d < 40) {P : List Nat} {H : Option Nat} (hp : HP d q (wrd tx (ps t) (ls t)) P H) : ∃ τ', f_X9_field τ (nI v) = mTail τ' (nI v) (nI (vn d)) (nI (40 * v + vn d)) ∧ ZFm v (40 * v + vn d) τ τ' ∧ KMn τ' (tkk d q H (wrd tx (ps t) (ls t)) (ps t)) ∧ ga τ' 1 23 (vn d) = nI t ∧ (∀ i, 17 ≤ i → i ≠ 23 → ga τ' 1 i = ga τ 1 i) ∧ (∀ f i, ¬ (f = 836 ∨ f = 837) → gi τ' f i = gi τ f i) ∧ ga τ' 1 5 (40 * v + vn d) = nI 0 ∧ ga τ' 1 6 (40 * v + vn d) = oI none ∧ ga τ' 1 7 (40 * v + vn d) = oI none ∧ ga τ' 1 8 (40 * v + vn d) = oI none ∧ ga τ' 1 9 (40 * v + vn d) = nI 0 ∧ ga τ' 1 3 (40 * v + vn d) = nI (wrd tx (ps t) (ls t)).length ∧ Bs (ga τ' 2 3) (12 * (40 * v + vn d)) (wrd tx (ps t) (ls t)) ∧ ga τ' 1 10 (40 * v + vn d) = oI H ∧ ga τ' 1 0 v = ga τ 1 0 v := by
  obtain ⟨a1, a2, a3, a4, a5, a6, a7, a8, a9, a10⟩ := h
  have lw := cw.lw
  obtain ⟨⟨_, _, _, d4⟩, wt, _, _, _, _, _, hz, _⟩ := cw
  have hc := w.cc
  have hnm := w.nm (t := t) (by omega) hk
  have h12 := hnm.2.1
  have hl := w.len (t := t) (by omega)
  have hg : 40 * v + vn d < 320 := by omega
  obtain ⟨s1, e1, u1, b1, b2, b3, b4, b5, b6, b7, b8⟩ := m_bgn hg τ
  -- the name
  have z1 : ZFm v (40 * v + vn d) τ s1 := ZFm.ug u1
  have z2 : ZFm v (40 * v + vn d) s1 (sa (sa s1 1 23 (vn d) (nI t)) 1 3 (40 * v + vn d) (nI (ls t))) := (ZFm.sm (SM.sa (by omega) _ _)).trans (ZFm.ug (UG.s1 (by omega) rfl _ _))
  have z12 := z1.trans z2
  have T2 := (QM.zf hn z12).tkm hT
  obtain ⟨s3, e3, u3, n3⟩ := m_name w T2 (arr := 3) (o := 12 * (40 * v + vn d)) (t := t) (by omega) (by omega) (by omega) (show _ ≤ 3840 by omega) (by decide)
  have z3 : ZFm v (40 * v + vn d) (sa (sa s1 1 23 (vn d) (nI t)) 1 3 (40 * v + vn d) (nI (ls t))) s3 := ZFm.ug (UG.ub (Or.inl rfl) u3)
  have z13 := z12.trans z3
  have z4 : ZFm v (40 * v + vn d) s3 (sa s3 1 10 (40 * v + vn d) (oI H)) := ZFm.ug (UG.s1 (by omega) rfl _ _)
  have z14 := z13.trans z4
  have hb : ∀ x, H = some x → x < 1000 := by
    intro x hx
    rcases hp with ⟨e, _⟩ | ⟨h, e, hh, _⟩
    · rw [e] at hx
      cases hx
    · rw [e] at hx
      cases hx
      omega
  have gI : ∀ f i, gi (sa s3 1 10 (40 * v + vn d) (oI H)) f i = gi τ f i := by
    intro f i
    simp only [gi_si, gi_sr, gi_sg, gi_sa, gr_si, rr_sr, gr_sg, gr_sa, ga_si, ga_sr, ga_sg, ga_sa, true_and, and_true, false_and, and_false, Nat.reduceEqDiff, ↓reduceIte]
    rw [u3.1]
    simp only [gi_si, gi_sr, gi_sg, gi_sa, gr_si, rr_sr, gr_sg, gr_sa, ga_si, ga_sr, ga_sg, ga_sa, true_and, and_true, false_and, and_false, Nat.reduceEqDiff, ↓reduceIte]
    rw [u1.1]
  have gA : ∀ r x, r ≠ 3 → r ≠ 10 → r ≠ 23 → ga (sa s3 1 10 (40 * v + vn d) (oI H)) 1 r x = ga s1 1 r x := by
    intro r x h1 h2 h3
    rw [a1_oth (Or.inl h2), u3.2 1 r x (by omega), a1_oth (Or.inl h1), a1_oth (Or.inl h3)]
  have v4 : VM0 (sa s3 1 10 (40 * v + vn d) (oI H)) v d := by
    obtain ⟨p1, p2, p3, p4⟩ := a1
    refine ⟨?_, ?_, fun j hj => (p3 j hj).of' (fun i _ _ => z14.2 _ _ _ (by omega)) (fun i x _ _ _ => z14.2 _ _ _ (by omega)) (lw.1 j hj).1 (lw.1 j hj).2, fun r hr => RM.of' (fun i _ _ => z14.2 _ _ _ (by omega)) (z14.2 _ _ _ (by omega)) (fun i x _ _ _ => z14.2 _ _ _ (by omega)) (lw.2 r hr).1 (lw.2 r hr).2 (p4 r hr)⟩
    · rw [gA 0 v (by omega) (by omega) (by omega), u1.2 _ _ _ (by omega), p1]
    · rw [z14.2 _ _ _ (by omega), p2]
  have T4 := (QM.zf hn z14).tkm hT
  have l3 : ga (sa s3 1 10 (40 * v + vn d) (oI H)) 1 3 (40 * v + vn d) = nI (wrd tx (ps t) (ls t)).length := by
    rw [a1_oth (by omega), u3.2 _ _ _ (by omega), a1_get, hl]
  have bb : Bs (ga (sa s3 1 10 (40 * v + vn d) (oI H)) 2 3) (12 * (40 * v + vn d)) (wrd tx (ps t) (ls t)) := Bs_of n3 (fun i hi => by simp only [gi_si, gi_sr, gi_sg, gi_sa, gr_si, rr_sr, gr_sg, gr_sa, ga_si, ga_sr, ga_sg, ga_sa, true_and, and_true, false_and, and_false, Nat.reduceEqDiff, ↓reduceIte])
  have k4 : KMn (sa s3 1 10 (40 * v + vn d) (oI H)) (q 7 3) := by
    unfold KMn
    rw [gI, gI]
    exact a6
  obtain ⟨τ', x1, x2, x3, x4⟩ := m_twice (H := H) (N := wrd tx (ps t) (ls t)) (t := t) hv hn wt hb h12 hnm.by' w (by omega) (vn d) 0 (by omega) (sa s3 1 10 (40 * v + vn d) (oI H)) (q 7 3) v4 T4 (by rw [gI, h4]) a1_get l3 bb k4 hz fl (by have := fl_big; omega)
  have x1 : f_X9_field_118 fl (sa s3 1 10 (40 * v + vn d) (oI H)) (nI v) (nI (vn d)) (nI (40 * v + vn d)) 0 = _ := x1
  have e114 : ∀ y, y = oI H → f_X9_field_114 s3 10 (nI (40 * v + vn d)) y (nI v) (nI (vn d)) (nI (40 * v + vn d)) = mTail τ' (nI v) (nI (vn d)) (nI (40 * v + vn d)) := by
    intro y hy
    subst hy
    unfold f_X9_field_114
    rw [show lenMi.getD 10 0 = 320 from rfl, ck_nI hg (by omega)]
    simp only [bnd]
    exact x1
  refine ⟨τ', ?_, z14.trans (ZFm.sm (SM.nt x3 x4)), x2, ?_, fun i h1 h2 => ?_, fun f i hf => (x3 f i hf).trans (gI f i), ?_, ?_, ?_, ?_, ?_, ?_, ?_, ?_, ?_⟩
  · unfold f_X9_field
    rw [ck_nI hv (by omega), a1.1, if_neg (show ¬ nI (vn d) = (40 : Int32) from fun e => by have := (ln_eq (b := 40) (by omega) (by omega)).mp e; omega), ck_nI hv (by omega), a1.1, ln_40, nI_add, e1, cl_mk, ck_nI hn (by omega), u1.1, h4]
    simp only [bnd]
    rw [show gi (sa s1 1 23 (vn d) (nI t)) 834 0 = nI t by simp only [gi_si, gi_sr, gi_sg, gi_sa, gr_si, rr_sr, gr_sg, gr_sa, ga_si, ga_sr, ga_sg, ga_sa, true_and, and_true, false_and, and_false, Nat.reduceEqDiff, ↓reduceIte]; rw [u1.1, h4], ck_nI (by omega) (by omega), ck_nI hg (by omega), show ga (sa s1 1 23 (vn d) (nI t)) 1 16 t = nI (ls t) by rw [a1_oth (by omega), u1.2 _ _ _ (by omega)]; exact (hT.2.2 t (by omega)).2.2, show gi (sa (sa s1 1 23 (vn d) (nI t)) 1 3 (40 * v + vn d) (nI (ls t))) 834 0 = nI t by simp only [gi_si, gi_sr, gi_sg, gi_sa, gr_si, rr_sr, gr_sg, gr_sa, ga_si, ga_sr, ga_sg, ga_sa, true_and, and_true, false_and, and_false, Nat.reduceEqDiff, ↓reduceIte]; rw [u1.1, h4], ln_12, e3, cl_mk, show gi s3 847 0 = nI (q 7 0) by rw [u3.1]; simp only [gi_si, gi_sr, gi_sg, gi_sa, gr_si, rr_sr, gr_sg, gr_sa, ga_si, ga_sr, ga_sg, ga_sa, true_and, and_true, false_and, and_false, Nat.reduceEqDiff, ↓reduceIte]; rw [u1.1, a2]]
    rcases hp with ⟨rfl, h0, _⟩ | ⟨h, rfl, hh, h0, h1, _, hd⟩
    · rw [h0, if_pos (by decide)]
      exact e114 _ rfl
    · rw [if_neg (fun e => h0 ((ln_eq0 (by omega)).mp e)), ln_pred (by omega), ck_nI (by omega) (by omega)]
      refine e114 _ ?_
      rw [u3.2 _ _ _ (by omega), a1_oth (by omega), a1_oth (by omega), u1.2 _ _ _ (by omega), a3 _ (by omega), h1]
      rfl
  · rw [x4, a1_oth (by omega), u3.2 _ _ _ (by omega), a1_oth (by omega), a1_get]
  · funext x
    rw [x4, gA i x (by omega) (by omega) h2, u1.2 _ _ _ (by omega)]
  · rw [x4, gA 5 _ (by omega) (by omega) (by omega), b1]
  · rw [x4, gA 6 _ (by omega) (by omega) (by omega), b2]
  · rw [x4, gA 7 _ (by omega) (by omega) (by omega), b3]
  · rw [x4, gA 8 _ (by omega) (by omega) (by omega), b4]
  · rw [x4, gA 9 _ (by omega) (by omega) (by omega), b5]
  · rw [x4, l3]
  · rw [x4]
    exact bb
  · rw [x4, a1_get]
  · rw [x4, gA 0 v (by omega) (by omega) (by omega), u1.2 _ _ _ (by omega)]
end R7
