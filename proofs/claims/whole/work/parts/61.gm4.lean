/-! The reference's grown version; grow. -/
theorem UG.ub {g arr : Nat} (ha : arr = 3 ∨ arr = 4) {τ τ' : St} (h : UB arr (12 * g) τ τ') : UG g τ τ' := ⟨h.1, fun f i x a => h.2 f i x (by omega)⟩
section Go
variable {σ τ : St} {u v e k0 D0 : Nat} {d : Vd} {N0 P0 : List Nat} {H0 : Option Nat} {s : Nat → Nat} {tx : List Nat} {c : Nat} {ks ps ls : Nat → Nat}
abbrev FGM (τ : St) (v e : Nat) (d : Vd) (j : Nat) : Prop := FMc τ (40 * v + mv e j) (vk d j) (vo d j) (oZ d j) ((oH d j).map (mv e)) (nN d j) (nB d j) ((oC d j).map (mv e)) ((oO d j).map (mv e))
theorem gvm_at {j : Nat} (h : j ≠ e) {τ : St} (a : FGM τ v e d (bk e j)) : FMc τ (40 * v + j) (vk (gv d e k0 D0 N0 P0 H0 s) j) (vo (gv d e k0 D0 N0 P0 H0 s) j) (oZ (gv d e k0 D0 N0 P0 H0 s) j) (oH (gv d e k0 D0 N0 P0 H0 s) j) (nN (gv d e k0 D0 N0 P0 H0 s) j) (nB (gv d e k0 D0 N0 P0 H0 s) j) (oC (gv d e k0 D0 N0 P0 H0 s) j) (oO (gv d e k0 D0 N0 P0 H0 s) j) := by
  unfold FGM at a
  rw [mv_bk h] at a
  have f0 : vk (gv d e k0 D0 N0 P0 H0 s) j = vk d (bk e j) := if_neg h
  have f1 : vo (gv d e k0 D0 N0 P0 H0 s) j = vo d (bk e j) := if_neg h
  have f2 : nB (gv d e k0 D0 N0 P0 H0 s) j = nB d (bk e j) := if_neg h
  have f3 : oC (gv d e k0 D0 N0 P0 H0 s) j = (oC d (bk e j)).map (mv e) := if_neg h
  have f4 : oO (gv d e k0 D0 N0 P0 H0 s) j = (oO d (bk e j)).map (mv e) := if_neg h
  have f5 : oZ (gv d e k0 D0 N0 P0 H0 s) j = oZ d (bk e j) := if_neg h
  have f6 : oH (gv d e k0 D0 N0 P0 H0 s) j = (oH d (bk e j)).map (mv e) := if_neg h
  have f7 : nN (gv d e k0 D0 N0 P0 H0 s) j = nN d (bk e j) := if_neg h
  rw [f0, f1, f2, f3, f4, f5, f6, f7]
  exact a
theorem gvm_at0 {τ : St} (a : FMc τ (40 * v + e) k0 0 none H0 N0 [] none none) : FMc τ (40 * v + e) (vk (gv d e k0 D0 N0 P0 H0 s) e) (vo (gv d e k0 D0 N0 P0 H0 s) e) (oZ (gv d e k0 D0 N0 P0 H0 s) e) (oH (gv d e k0 D0 N0 P0 H0 s) e) (nN (gv d e k0 D0 N0 P0 H0 s) e) (nB (gv d e k0 D0 N0 P0 H0 s) e) (oC (gv d e k0 D0 N0 P0 H0 s) e) (oO (gv d e k0 D0 N0 P0 H0 s) e) := by
  have f0 : vk (gv d e k0 D0 N0 P0 H0 s) e = k0 := if_pos rfl
  have f1 : vo (gv d e k0 D0 N0 P0 H0 s) e = 0 := if_pos rfl
  have f2 : nB (gv d e k0 D0 N0 P0 H0 s) e = [] := if_pos rfl
  have f3 : oC (gv d e k0 D0 N0 P0 H0 s) e = none := if_pos rfl
  have f4 : oO (gv d e k0 D0 N0 P0 H0 s) e = none := if_pos rfl
  have f5 : oZ (gv d e k0 D0 N0 P0 H0 s) e = none := if_pos rfl
  have f6 : oH (gv d e k0 D0 N0 P0 H0 s) e = H0 := if_pos rfl
  have f7 : nN (gv d e k0 D0 N0 P0 H0 s) e = N0 := if_pos rfl
  rw [f0, f1, f2, f3, f4, f5, f6, f7]
  exact a
theorem a1_get {τ : St} {r x : Nat} {y : Int32} : ga (sa τ 1 r x y) 1 r x = y := by
  simp only [gi_si, gi_sr, gi_sg, gi_sa, gr_si, rr_sr, gr_sg, gr_sa, ga_si, ga_sr, ga_sg, ga_sa, true_and, and_true, false_and, and_false, Nat.reduceEqDiff, ↓reduceIte]
  unfold upd
  rw [if_pos rfl]
theorem a1_oth {τ : St} {r r' x x' : Nat} {y : Int32} (h : r' ≠ r ∨ x' ≠ x) : ga (sa τ 1 r x y) 1 r' x' = ga τ 1 r' x' := by
  simp only [gi_si, gi_sr, gi_sg, gi_sa, gr_si, rr_sr, gr_sg, gr_sa, ga_si, ga_sr, ga_sg, ga_sa, true_and, and_true, false_and, and_false, Nat.reduceEqDiff, ↓reduceIte]
  split
  · rename_i e
    subst e
    unfold upd
    rw [if_neg (by omega)]
  · rfl
theorem m_growF (hu : u < 8) (hv : v < 8) (huv : u ≠ v) (w : VW d) (h39 : vn d < 40) (he : e ≤ vn d) {t : Nat} (wk : TKW tx c ks ps ls) (ht : t ≤ c) (hk1 : ks t = 1) : ∀ (r i : Nat), i + r = vn d → ∀ (τ : St), VM τ u d → TKM τ tx c ks ps ls → ga τ 1 0 v = nI (vn d + 1) → ga τ 1 1 v = nI (vr d) → ga τ 1 2 v = nI (vl d) → (∀ j, j < i → FGM τ v e d j) → ∀ m, r < m → ∃ τ', f_X9_grown_97 m τ (nI u) (oI H0) (nI t) (nI k0) (nI v) (nI e) (nI i) = some (τ', ()) ∧ DM v τ τ' ∧ VM τ' v (gv d e k0 D0 (wrd tx (ps t) (ls t)) P0 H0 s) := by
  have hc := wk.cc
  have hl12 : ls t ≤ 12 := by
    have := (wk.nm ht hk1).2.1
    rwa [wk.len ht] at this
  have lens : ∀ j, j < vn d → (nN d j).length ≤ 12 ∧ (nB d j).length ≤ 12 := fun j hj => ⟨(w.2.1 j hj).1.2.1, Nm.le (w.2.2.2.2.1 j hj).2.2.1⟩
  intro r
  induction r with
  | zero =>
    intro i hi τ a hT g0 g1 g2 hF m hm
    obtain ⟨m, rfl⟩ : ∃ m', m = m' + 1 := ⟨m - 1, by omega⟩
    have hg : 40 * v + e < 320 := by omega
    obtain ⟨s1, e1, u1, b1, b2, b3, b4, b5, b6, b7, b8⟩ := m_bgn hg τ
    have t1 := (DM.ug (v := v) (j := e) (by omega) u1).tkm hT
    have u2 : UG (40 * v + e) s1 (sa s1 1 3 (40 * v + e) (nI (ls t))) := UG.s1 (by omega) rfl s1 _
    have t2 := (DM.ug (v := v) (j := e) (by omega) u2).tkm t1
    obtain ⟨s3, e3, u3, n3⟩ := m_name wk t2 (arr := 3) (o := 12 * (40 * v + e)) ht hl12 (by omega) (show _ ≤ 3840 by omega) (by decide)
    have u3' := UG.ub (Or.inl rfl) u3
    have u4 : UG (40 * v + e) s3 (sa (sa s3 1 4 (40 * v + e) (nI k0)) 1 10 (40 * v + e) (oI H0)) := (UG.s1 (by omega) rfl _ _).trans (UG.s1 (by omega) rfl _ _)
    have uu := ((u1.trans u2).trans u3').trans u4
    have dm := DM.ug (v := v) (j := e) (by omega) uu
    obtain ⟨τ', k1, k2, k3, k4⟩ := m_growR hu hv huv w (vr d) 0 (by omega) (sa (sa s3 1 4 (40 * v + e) (nI k0)) 1 10 (40 * v + e) (oI H0)) ((dm.km huv).vm w a) (by rw [uu.2 _ _ _ (by omega), g1]) (fun r hr => absurd hr (Nat.not_lt_zero _)) fl (by have := fl_big; have := w.1.2.2; omega)
    have k1 : f_X9_grown_266 fl (sa (sa s3 1 4 (40 * v + e) (nI k0)) 1 10 (40 * v + e) (oI H0)) (nI u) (nI v) 0 = some (τ', ()) := k1
    have f0 : FMc (sa (sa s3 1 4 (40 * v + e) (nI k0)) 1 10 (40 * v + e) (oI H0)) (40 * v + e) k0 0 none H0 (wrd tx (ps t) (ls t)) [] none none := by
      have z : ∀ r, r ≠ 3 → r ≠ 4 → r ≠ 10 → ga (sa (sa s3 1 4 (40 * v + e) (nI k0)) 1 10 (40 * v + e) (oI H0)) 1 r (40 * v + e) = ga s1 1 r (40 * v + e) := by
        intro r h1 h2 h3
        rw [a1_oth (Or.inl h3), a1_oth (Or.inl h2), u3.2 1 r _ (by omega), a1_oth (Or.inl h1)]
      refine ⟨⟨?_, ?_, ?_, ?_, ?_, ?_, ?_, fun i hi => absurd hi (Nat.not_lt_zero _)⟩, ?_, ?_⟩
      · rw [a1_oth (by omega), a1_get]
      · rw [z 5 (by omega) (by omega) (by omega), b1]
      · rw [z 6 (by omega) (by omega) (by omega), b2]
      · rw [a1_get]
      · rw [a1_oth (by omega), a1_oth (by omega), u3.2 1 3 _ (by omega), a1_get, wk.len ht]
      · exact Bs_of n3 (fun i hi => by simp only [gi_si, gi_sr, gi_sg, gi_sa, gr_si, rr_sr, gr_sg, gr_sa, ga_si, ga_sr, ga_sg, ga_sa, true_and, and_true, false_and, and_false, Nat.reduceEqDiff, ↓reduceIte])
      · rw [z 9 (by omega) (by omega) (by omega), b5]
        rfl
      · rw [z 7 (by omega) (by omega) (by omega), b3]
      · rw [z 8 (by omega) (by omega) (by omega), b4]
    have kk : ∀ g k o z h N B cp fo, FMc (sa (sa s3 1 4 (40 * v + e) (nI k0)) 1 10 (40 * v + e) (oI H0)) g k o z h N B cp fo → FMc τ' g k o z h N B cp fo := by
      intro g k o z h N B cp fo a
      obtain ⟨⟨a1, a2, a3, a4, a5, a6, a7, a8⟩, a9, a10⟩ := a
      refine ⟨⟨?_, ?_, ?_, ?_, ?_, Bs_of a6 (fun i hi => k3 _ _ _ (by omega)), ?_, Bs_of a8 (fun i hi => k3 _ _ _ (by omega))⟩, ?_, ?_⟩
      · rw [k3 _ _ _ (by omega), a1]
      · rw [k3 _ _ _ (by omega), a2]
      · rw [k3 _ _ _ (by omega), a3]
      · rw [k3 _ _ _ (by omega), a4]
      · rw [k3 _ _ _ (by omega), a5]
      · rw [k3 _ _ _ (by omega), a7]
      · rw [k3 _ _ _ (by omega), a9]
      · rw [k3 _ _ _ (by omega), a10]
    refine ⟨τ', ?_, dm.trans k2, ?_, ?_, ?_, fun j hj => ?_, k4⟩
    · rw [f_X9_grown_97.eq_2, ck_nI (by omega) (by omega), a.1, if_pos (nI_le (by omega) (by omega)), ln_40, nI_add, e1, cl_mk, ck_nI (by omega) (by omega), ck_nI hg (by omega), (t1.2.2 t ht).2.2]
      simp only [bnd]
      rw [ln_12, e3, cl_mk, ck_nI hg (by omega), ck_nI hg (by omega)]
      exact k1
    · rw [k3 _ _ _ (by omega), uu.2 _ _ _ (by omega), g0]
      rfl
    · rw [k3 _ _ _ (by omega), uu.2 _ _ _ (by omega), g1]
      rfl
    · rw [k3 _ _ _ (by omega), uu.2 _ _ _ (by omega), g2]
      rfl
    · have hj : j < vn d + 1 := hj
      by_cases ce : j = e
      · subst ce
        exact gvm_at0 (kk _ _ _ _ _ _ _ _ _ f0)
      · have hb := bk_b he ce hj
        obtain ⟨l1, l2⟩ := lens _ hb
        exact gvm_at ce (kk _ _ _ _ _ _ _ _ _ ((hF (bk e j) (by omega)).ug uu (by rw [mv_bk ce]; omega) l1 l2))
  | succ r ih =>
    intro i hi τ a hT g0 g1 g2 hF m hm
    obtain ⟨m, rfl⟩ : ∃ m', m = m' + 1 := ⟨m - 1, by omega⟩
    have hi' : i < vn d := by omega
    obtain ⟨l1, l2⟩ := lens i hi'
    have hmv := mv_b (e := e) hi'
    have hg : 40 * v + mv e i < 320 := by omega
    have hgu : 40 * u + i < 320 := by omega
    have hne : 40 * u + i ≠ 40 * v + mv e i := by omega
    have fi := a.2.2.2.1 i hi'
    obtain ⟨_, _, _, z3, z4, _⟩ := w.2.2.2.2.1 i hi'
    have hb1 : ∀ c, oH d i = some c → c < 1000 := fun c hc => by have := H_lt w hi' hc; omega
    have hb2 : ∀ c, oC d i = some c → c < 1000 := fun c hc => by have := z3 c hc; omega
    have hb3 : ∀ c, oO d i = some c → c < 1000 := fun c hc => by have := z4 c hc; omega
    obtain ⟨s1, e1, u1, b1, b2, b3, b4, b5, b6, b7⟩ := m_copyF hg hgu hne l1 l2 (show FMc τ (40 * u + i) _ _ _ _ _ _ _ _ from fi)
    have q0 : f_X9_moved τ (nI i) (nI e) = some (τ, nI (mv e i)) := m_mv (x := some i) (fun c hc => by cases hc; omega) (by omega)
    have u2 : UG (40 * v + mv e i) s1 (sa (sa (sa s1 1 10 (40 * v + mv e i) (oI ((oH d i).map (mv e)))) 1 7 (40 * v + mv e i) (oI ((oC d i).map (mv e)))) 1 8 (40 * v + mv e i) (oI ((oO d i).map (mv e)))) := ((UG.s1 (by omega) rfl _ _).trans (UG.s1 (by omega) rfl _ _)).trans (UG.s1 (by omega) rfl _ _)
    have uu := u1.trans u2
    have dm := DM.ug (v := v) (j := mv e i) (by omega) uu
    obtain ⟨τ', k1, k2, k3⟩ := ih (i + 1) (by omega) (sa (sa (sa s1 1 10 (40 * v + mv e i) (oI ((oH d i).map (mv e)))) 1 7 (40 * v + mv e i) (oI ((oC d i).map (mv e)))) 1 8 (40 * v + mv e i) (oI ((oO d i).map (mv e)))) ((dm.km huv).vm w a) (dm.tkm hT) (by rw [uu.2 _ _ _ (by omega), g0]) (by rw [uu.2 _ _ _ (by omega), g1]) (by rw [uu.2 _ _ _ (by omega), g2]) (fun j hj => by
      by_cases ce : j = i
      · subst ce
        refine ⟨⟨?_, ?_, ?_, ?_, ?_, Bs_of b5 (fun i hi => by simp only [gi_si, gi_sr, gi_sg, gi_sa, gr_si, rr_sr, gr_sg, gr_sa, ga_si, ga_sr, ga_sg, ga_sa, true_and, and_true, false_and, and_false, Nat.reduceEqDiff, ↓reduceIte]), ?_, Bs_of b7 (fun i hi => by simp only [gi_si, gi_sr, gi_sg, gi_sa, gr_si, rr_sr, gr_sg, gr_sa, ga_si, ga_sr, ga_sg, ga_sa, true_and, and_true, false_and, and_false, Nat.reduceEqDiff, ↓reduceIte])⟩, ?_, ?_⟩
        · rw [a1_oth (by omega), a1_oth (by omega), a1_oth (by omega), b1]
        · rw [a1_oth (by omega), a1_oth (by omega), a1_oth (by omega), b2]
        · rw [a1_oth (by omega), a1_oth (by omega), a1_oth (by omega), b3]
        · rw [a1_oth (by omega), a1_oth (by omega), a1_get]
        · rw [a1_oth (by omega), a1_oth (by omega), a1_oth (by omega), b4]
        · rw [a1_oth (by omega), a1_oth (by omega), a1_oth (by omega), b6]
        · rw [a1_oth (by omega), a1_get]
        · rw [a1_get]
      · obtain ⟨l3, l4⟩ := lens j (by omega)
        have := mv_lt (e := e) (show j < i by omega)
        exact (hF j (by omega)).ug uu (by omega) l3 l4) m (by omega)
    refine ⟨τ', ?_, dm.trans k2, k3⟩
    have r1 : ga s1 1 10 (40 * u + i) = oI (oH d i) := by rw [u1.2 _ _ _ (by omega), fi.1.2.2.2.1]
    have r2 : ga s1 1 7 (40 * u + i) = oI (oC d i) := by rw [u1.2 _ _ _ (by omega), fi.2.1]
    have r3 : ga s1 1 8 (40 * u + i) = oI (oO d i) := by rw [u1.2 _ _ _ (by omega), fi.2.2]
    rw [f_X9_grown_97.eq_2, ck_nI (by omega) (by omega), a.1, if_neg (nI_ge (by omega) (by omega)), q0, cl_mk, ln_40, ln_40, nI_add, nI_add, e1, cl_mk, ck_nI hgu (by omega), r1, m_mv hb1 (by omega), cl_mk, ck_nI hg (by omega)]
    simp only [bnd]
    rw [ck_nI hgu (by omega), a1_oth (by omega), r2, m_mv hb2 (by omega), cl_mk, ck_nI hg (by omega), ck_nI hgu (by omega), a1_oth (by omega), a1_oth (by omega), r3, m_mv hb3 (by omega), cl_mk, ck_nI hg (by omega), nI_1, k1]
theorem m_grown53 (hu : u < 8) (hv : v < 8) (huv : u ≠ v) (w : VW d) (h39 : vn d < 40) (he : e ≤ vn d) {t : Nat} (wk : TKW tx c ks ps ls) (ht : t ≤ c) (hk1 : ks t = 1) (a : VM τ u d) (hT : TKM τ tx c ks ps ls) : ∃ τ', f_X9_grown_53 τ (nI u) (oI H0) (nI t) (nI k0) (nI v) (nI e) = some (τ', ()) ∧ DM v τ τ' ∧ VM τ' v (gv d e k0 D0 (wrd tx (ps t) (ls t)) P0 H0 s) := by
  have dm : DM v τ (sa (sa (sa τ 1 0 v (nI (vn d + 1))) 1 1 v (nI (vr d))) 1 2 v (nI (vl d))) := ((DM.s0 (by omega) rfl _ _).trans (DM.s0 (by omega) rfl _ _)).trans (DM.s0 (by omega) rfl _ _)
  obtain ⟨τ', k1, k2, k3⟩ := m_growF (k0 := k0) (H0 := H0) (D0 := D0) (P0 := P0) (s := s) hu hv huv w h39 he wk ht hk1 (vn d) 0 (by omega) (sa (sa (sa τ 1 0 v (nI (vn d + 1))) 1 1 v (nI (vr d))) 1 2 v (nI (vl d))) ((dm.km huv).vm w a) (dm.tkm hT) (by rw [a1_oth (by omega), a1_oth (by omega), a1_get]) (by rw [a1_oth (by omega), a1_get]) (by rw [a1_get]) (fun j hj => absurd hj (Nat.not_lt_zero _)) fl (by have := fl_big; omega)
  have k1 : f_X9_grown_97 fl (sa (sa (sa τ 1 0 v (nI (vn d + 1))) 1 1 v (nI (vr d))) 1 2 v (nI (vl d))) (nI u) (oI H0) (nI t) (nI k0) (nI v) (nI e) 0 = some (τ', ()) := k1
  refine ⟨τ', ?_, dm.trans k2, k3⟩
  unfold f_X9_grown_53
  rw [ck_nI hu (by omega), ck_nI hv (by omega), a.1]
  simp only [bnd]
  rw [ck_nI hu (by omega), ck_nI hv (by omega), ck_nI hu (by omega), ck_nI hv (by omega), a1_oth (by omega), a.2.1, a1_oth (by omega), a1_oth (by omega), a.2.2.1, nI_1]
  exact k1
end Go
