/-! Judging: the class. -/
section Jx
variable {σ τ σ' τ' : St} {v t : Nat} {d : Vd} {q q' : Nat → Nat → Nat} {tx : List Nat} {c : Nat} {ks ps ls : Nat → Nat}
def LkS (v : Nat) (tx : List Nat) (c : Nat) (ks ps ls : Nat → Nat) (d : Vd) (q : Nat → Nat → Nat) (σ : St) : Prop := gr σ 2 0 = v ∧ gi σ 603 v = nI (vn d) ∧ (∀ j, j < vn d → gi σ 102 (40 * v + j) = nI (vk d j) ∧ gi σ 103 (40 * v + j) = nI (vo d j) ∧ LX σ (5 + 2 * (40 * v + j)) (nP d j)) ∧ EX σ q ∧ TKX σ tx c ks ps ls ∧ gi σ 414 0 = oI (lmq q)
def LF (v : Nat) (σ σ' : St) : Prop := σ'.2.1 = σ.2.1 ∧ (∀ f i, ¬ ((f = 105 ∨ f = 106) ∧ 40 * v ≤ i ∧ i < 40 * v + 40) → ¬ ((f = 201 ∨ f = 202) ∧ i = 4) → ¬ (f = 415 ∨ f = 416) → gi σ' f i = gi σ f i) ∧ (∀ f i, ¬ (f = 2 ∧ i = 4) → ga σ' f i = ga σ f i)
theorem LF.trans {σ σ1 σ2 : St} (h : LF v σ σ1) (k : LF v σ1 σ2) : LF v σ σ2 := ⟨k.1.trans h.1, fun f i a b c => (k.2.1 f i a b c).trans (h.2.1 f i a b c), fun f i a => (k.2.2 f i a).trans (h.2.2 f i a)⟩
theorem LF.refl' (v : Nat) (σ : St) : LF v σ σ := ⟨rfl, fun _ _ _ _ _ => rfl, fun _ _ _ => rfl⟩
/-- nor the copies -/
def LF0 (σ σ' : St) : Prop := σ'.2.1 = σ.2.1 ∧ (∀ f i, ¬ ((f = 201 ∨ f = 202) ∧ i = 4) → ¬ (f = 415 ∨ f = 416) → gi σ' f i = gi σ f i) ∧ (∀ f i, ¬ (f = 2 ∧ i = 4) → ga σ' f i = ga σ f i)
theorem LF0.lf (h : LF0 σ σ') : LF v σ σ' := ⟨h.1, fun f i _ b c => h.2.1 f i b c, h.2.2⟩
theorem LF0.trans {σ σ1 σ2 : St} (h : LF0 σ σ1) (k : LF0 σ1 σ2) : LF0 σ σ2 := ⟨k.1.trans h.1, fun f i b c => (k.2.1 f i b c).trans (h.2.1 f i b c), fun f i a => (k.2.2 f i a).trans (h.2.2 f i a)⟩
theorem LF0.ul (h : UL 4 σ σ') : LF0 σ σ' := ⟨h.1, fun f i b _ => h.2.1 f i b, h.2.2⟩
theorem LF0.nx (h : NX σ σ') : LF0 σ σ' := ⟨h.1, fun f i _ c => h.2.1 f i c, fun f i _ => h.2.2 f i⟩
theorem LF.lx (h : LF v σ σ') {k : Nat} (hk : k ≠ 4) {l : List Nat} (a : LX σ k l) : LX σ' k l := LX_of a (h.2.1 _ _ (by omega) (by omega) (by omega)) (h.2.2 _ _ (by omega))
theorem LkS.lf (hv : v < 8) (h : LF v σ σ') (a : LkS v tx c ks ps ls d q σ) : LkS v tx c ks ps ls d q σ' := by
  obtain ⟨a1, a2, a3, a4, a5, a6⟩ := a
  refine ⟨by show σ'.2.1 2 0 = v; rw [h.1]; exact a1, by rw [h.2.1 _ _ (by omega) (by omega) (by omega), a2], fun j hj => ?_, ?_, ⟨h.lx (by omega) a5.1, by rw [h.2.1 _ _ (by omega) (by omega) (by omega)]; exact a5.2.1, fun t ht => by rw [h.2.2 8 8 (by omega), h.2.2 8 9 (by omega), h.2.2 8 10 (by omega)]; exact a5.2.2 t ht⟩, by rw [h.2.1 _ _ (by omega) (by omega) (by omega), a6]⟩
  · obtain ⟨b1, b2, b3⟩ := a3 j hj
    exact ⟨by rw [h.2.1 _ _ (by omega) (by omega) (by omega), b1], by rw [h.2.1 _ _ (by omega) (by omega) (by omega), b2], h.lx (by omega) b3⟩
  · unfold EX
    rw [h.2.2 _ _ (by omega), h.2.2 _ _ (by omega), h.2.2 _ _ (by omega)]
    exact a4
def kp (d : Vd) (tx : List Nat) (ps ls : Nat → Nat) (q : Nat → Nat → Nat) (k : Nat) : Option Nat → Nat
  | none => k
  | some i => if wrE d tx ps ls q i = true then min k (16 * ps (q 2 i) + 8) else k
theorem kp_kz {k : Nat} {o : Option Nat} (h : kz k) : kz (kp d tx ps ls q k o) := by
  cases o with
  | none => exact h
  | some i =>
    show kz (if wrE d tx ps ls q i = true then min k (16 * ps (q 2 i) + 8) else k)
    split
    · exact kz_min h (by omega) (by omega)
    · exact h
theorem kp_le {k x : Nat} {o : Option Nat} : kp d tx ps ls q k o ≤ x ↔ k ≤ x ∨ ∃ i, o = some i ∧ wrE d tx ps ls q i = true ∧ 16 * ps (q 2 i) + 8 ≤ x := by
  cases o with
  | none =>
    show k ≤ x ↔ _
    constructor
    · exact fun h => Or.inl h
    · rintro (h | ⟨i, e, _⟩)
      · exact h
      · cases e
  | some i =>
    show (if wrE d tx ps ls q i = true then min k (16 * ps (q 2 i) + 8) else k) ≤ x ↔ _
    by_cases e : wrE d tx ps ls q i = true
    · rw [if_pos e]
      constructor
      · intro h
        by_cases c : k ≤ x
        · exact Or.inl c
        · exact Or.inr ⟨i, rfl, e, by omega⟩
      · rintro (h | ⟨i', e1, e2, e3⟩)
        · omega
        · cases e1
          omega
    · rw [if_neg e]
      constructor
      · exact fun h => Or.inl h
      · rintro (h | ⟨i', e1, e2, e3⟩)
        · exact h
        · cases e1
          exact absurd e2 e
theorem x_meant (hv : v < 8) (w : TKW tx c ks ps ls) (cw : CW c ks ps t d q) (h : LkS v tx c ks ps ls d q σ) {k : Nat} (hk : KXn σ k) (hz : kz k) {i : Nat} (hi : i < q 7 2) : ∃ σ', f_X5_fieldMeant σ (nI (q 2 i)) (nI (q 1 i)) = some (σ', oI (resE d tx ps ls q i)) ∧ KXn σ' (kp d tx ps ls q k (some i)) ∧ LF0 σ σ' := by
  obtain ⟨a1, a2, a3, a4, a5, a6⟩ := h
  have d40 := cw.1.1
  have wt := cw.2.1
  have ce := cw.2.2.2.2.2.2.2.2.2.1 i hi
  obtain ⟨e1, e2, e3, e4, e5, e6, e7, _⟩ := ce
  have hc := w.cc
  have hx := w.2.2.2.2
  have hps := w.pp (t := q 2 i) (by omega)
  obtain ⟨s1, b1, b2, b3⟩ := ow_clear 4 σ
  have X1 := a5.ul b2 (by omega)
  obtain ⟨s2, c1, c2, c3⟩ := x_joinP w (k := 4) (by omega) e3 e4 e5 b3 X1
  rw [List.nil_append] at c3
  have u12 := b2.trans c2
  have X2 := X1.ul c2 (by omega)
  have g2 : gr s2 2 0 = v := by rw [u12.gr, a1]
  have px : PX s2 v d := ⟨by rw [u12.2.1 _ _ (by omega), a2], fun j hj => u12.lx (by omega) (a3 j hj).2.2⟩
  have k2 : KXn s2 k := by
    unfold KXn
    rw [u12.2.1 _ _ (by omega), u12.2.1 _ _ (by omega)]
    exact hk
  -- what it leads to
  have e52 : f_X5_fieldMeant σ (nI (q 2 i)) (nI (q 1 i)) = f_X5_fieldMeant_52 s2 (oI (resE d tx ps ls q i)) (nI (q 2 i)) (nI (q 1 i)) := by
    unfold f_X5_fieldMeant
    rw [b1, cl_mk, c1, cl_mk, ow_over c3, cl_mk]
    by_cases hl : capX 4 < (pj tx ps ls (q 3 i) (q 2 i)).length
    · rw [bI_yes hl, if_neg i10]
      have : resE d tx ps ls q i = none := fop_long wt (show 64 < _ from hl)
      rw [this]
      rfl
    · rw [bI_no hl, if_pos rfl]
      have l2 := c3.lx (by omega)
      unfold f_X3_length
      rw [cl_mk, l2.1, g2, x_fofp px d40 l2, cl_mk]
      rfl
  have note : ∃ σ', f_X5_fieldMeant_76 s2 (nI (q 2 i)) (oI (resE d tx ps ls q i)) = some (σ', oI (resE d tx ps ls q i)) ∧ KXn σ' (min k (16 * ps (q 2 i) + 8)) ∧ LF0 σ σ' := by
    unfold f_X5_fieldMeant_76
    rw [x_place X2 w (by omega), cl_mk]
    obtain ⟨s3, n1, n2, n3, n4, n5⟩ := x_blame (e := 8) (p := ps (q 2 i)) k2 hz (by omega) (by omega) (by omega)
    have n1 : f_X5_blame _ 8 (nI (ps (q 2 i))) = _ := n1
    rw [n1, cl_mk]
    exact ⟨s3, rfl, n2, (LF0.ul u12).trans (LF0.nx ⟨n3, n4, n5⟩)⟩
  rw [e52, show kp d tx ps ls q k (some i) = if wrE d tx ps ls q i = true then min k (16 * ps (q 2 i) + 8) else k from rfl]
  cases er : resE d tx ps ls q i with
  | none =>
    have hw : wrE d tx ps ls q i = true := by
      unfold wrE
      rw [er]
    rw [if_pos hw]
    unfold f_X5_fieldMeant_52
    rw [if_pos (show oI none < 0 from m2_neg)]
    rw [er] at note
    exact note
  | some h =>
    have hh := res_lt er
    have hk8 := (cw.2.2.2.2.2.1 h hh).1
    unfold f_X5_fieldMeant_52
    rw [show oI (some h) = nI h from rfl, if_neg (nI_pos (by omega)), ck_nI (by omega) (by omega), g2, u12.2.1 _ _ (by omega), (a3 h hh).1, x_mayM _ hk8 e2, cl_mk]
    have hw : wrE d tx ps ls q i = !(mayM (vk d h) (q 1 i)) := by
      unfold wrE
      rw [er]
    rw [hw]
    rw [er] at note
    cases mayM (vk d h) (q 1 i) with
    | true =>
      rw [if_neg (show ¬ bI true = 0 from i10), if_neg (by decide)]
      exact ⟨s2, rfl, k2, LF0.ul u12⟩
    | false =>
      rw [if_pos (show bI false = 0 from rfl), if_pos (by decide)]
      exact note
theorem x_look_loop (hv : v < 8) (w : TKW tx c ks ps ls) (cw : CW c ks ps t d q) : ∀ (r j : Nat), j + r = vn d → ∀ (σ : St) (k : Nat), LkS v tx c ks ps ls d q σ → KXn σ k → kz k → (∀ j', j ≤ j' → j' < vn d → gi σ 105 (40 * v + j') = -2 ∧ gi σ 106 (40 * v + j') = -2) → ∀ m, r < m → ∃ σ' k', f_X5_lookAtPaths_2 m σ (nI j) = some (σ', ()) ∧ LF v σ σ' ∧ KXn σ' k' ∧ kz k' ∧ (∀ x, k' ≤ x ↔ k ≤ x ∨ ∃ j' o i, j ≤ j' ∧ j' < vn d ∧ (o = 4 ∨ o = 6) ∧ fe q (q 7 2) j' o = some i ∧ wrE d tx ps ls q i = true ∧ 16 * ps (q 2 i) + 8 ≤ x) ∧ (∀ j', j ≤ j' → j' < vn d → gi σ' 105 (40 * v + j') = oI (cpE d tx ps ls q (q 7 2) 4 j') ∧ gi σ' 106 (40 * v + j') = oI (cpE d tx ps ls q (q 7 2) 6 j')) ∧ (∀ j', j' < j → gi σ' 105 (40 * v + j') = gi σ 105 (40 * v + j') ∧ gi σ' 106 (40 * v + j') = gi σ 106 (40 * v + j')) := by
  have d40 := cw.1.1
  intro r
  induction r with
  | zero =>
    intro j hj σ k h hk hz h0 m hm
    obtain ⟨m, rfl⟩ : ∃ m', m = m' + 1 := ⟨m - 1, by omega⟩
    refine ⟨σ, k, ?_, LF.refl' v σ, hk, hz, fun x => ⟨fun h => Or.inl h, ?_⟩, fun j' h1 h2 => by omega, fun _ _ => ⟨rfl, rfl⟩⟩
    · rw [f_X5_lookAtPaths_2.eq_2, h.1, h.2.1, if_pos (nI_le (by omega) (by omega))]
    · rintro (h | ⟨j', o, i, h1, h2, _⟩)
      · exact h
      · omega
  | succ r ih =>
    intro j hj σ k h hk hz h0 m hm
    obtain ⟨m, rfl⟩ : ∃ m', m = m' + 1 := ⟨m - 1, by omega⟩
    have hj' : j < vn d := by omega
    have h' := h
    obtain ⟨a1, a2, a3, a4, a5, a6⟩ := h
    have fw := cw.2.2.2.2.2.1 j hj'
    have f2 := fw.2.1
    have b4 : bt (vo d j) 4 = 1 ↔ fe q (q 7 2) j 4 ≠ none := fw.2.2.2.2.2.2.2.2.1.trans fe_ex.symm
    have b6 : bt (vo d j) 6 = 1 ↔ fe q (q 7 2) j 6 ≠ none := fw.2.2.2.2.2.2.2.2.2.trans fe_ex.symm
    -- the copy
    have s4 : ∃ s1, f_X5_lookAtPaths_2 (m + 1) σ (nI j) = f_X5_lookAtPaths_46 (f_X5_lookAtPaths_2 m) s1 (nI j) (40 * v + j) ∧ LF v σ s1 ∧ KXn s1 (kp d tx ps ls q k (fe q (q 7 2) j 4)) ∧ gi s1 105 (40 * v + j) = oI (cpE d tx ps ls q (q 7 2) 4 j) ∧ (∀ i, i ≠ 40 * v + j → gi s1 105 i = gi σ 105 i) ∧ (∀ i, gi s1 106 i = gi σ 106 i) := by
      have hs : f_X1_has σ (40 * v + j) 4 = _ := x_has (o := 4) (a3 j hj').2.1 f2 (by omega)
      rw [f_X5_lookAtPaths_2.eq_2, a1, a2, if_neg (nI_ge (by omega) (by omega)), ck_nI (by omega) (by omega), hs, cl_mk]
      unfold cpE
      cases ef : fe q (q 7 2) j 4 with
      | none =>
        rw [bI_no (fun h => b4.mp h ef), if_pos rfl]
        exact ⟨σ, rfl, LF.refl' v σ, hk, (h0 j (Nat.le_refl _) hj').1, fun _ _ => rfl, fun _ => rfl⟩
      | some i =>
        obtain ⟨i1, i2, i3, i4⟩ := fe_fst ef
        have hb : bt (vo d j) 4 = 1 := b4.mpr (by rw [ef]; exact fun h => by cases h)
        have e13 : ga σ 8 13 j = nI (q 2 i) := by
          have := ((a4 i i1 i4).1 i3).1
          rwa [i2] at this
        rw [bI_yes hb, if_neg i10, show lenX 13 = 40 from rfl, ck_nI (by omega) (by omega), e13]
        obtain ⟨s1, m1, m2, m3⟩ := x_meant hv w cw h' hk hz i1
        rw [i3] at m1
        have m1 : f_X5_fieldMeant σ (nI (q 2 i)) 4 = _ := m1
        rw [m1, cl_mk]
        simp only [bnd]
        refine ⟨_, rfl, m3.lf.trans ⟨rfl, fun f i hh _ _ => ?_, fun _ _ _ => rfl⟩, ?_, by simp only [gi_si, gi_sr, gi_sg, gi_sa, gr_si, rr_sr, gr_sg, gr_sa, ga_si, ga_sr, ga_sg, ga_sa, true_and, and_true, false_and, and_false, Nat.reduceEqDiff, ↓reduceIte], fun i hh => ?_, fun i => ?_⟩
        · simp only [gi_si, gi_sr, gi_sg, gi_sa, gr_si, rr_sr, gr_sg, gr_sa, ga_si, ga_sr, ga_sg, ga_sa, true_and, and_true, false_and, and_false, Nat.reduceEqDiff, ↓reduceIte]
          rw [if_neg (by omega)]
        · unfold KXn
          simp only [gi_si, gi_sr, gi_sg, gi_sa, gr_si, rr_sr, gr_sg, gr_sa, ga_si, ga_sr, ga_sg, ga_sa, true_and, and_true, false_and, and_false, Nat.reduceEqDiff, ↓reduceIte]
          exact m2
        · simp only [gi_si, gi_sr, gi_sg, gi_sa, gr_si, rr_sr, gr_sg, gr_sa, ga_si, ga_sr, ga_sg, ga_sa, true_and, and_true, false_and, and_false, Nat.reduceEqDiff, ↓reduceIte]
          rw [if_neg hh, m3.2.1 _ _ (by omega) (by omega)]
        · simp only [gi_si, gi_sr, gi_sg, gi_sa, gr_si, rr_sr, gr_sg, gr_sa, ga_si, ga_sr, ga_sg, ga_sa, true_and, and_true, false_and, and_false, Nat.reduceEqDiff, ↓reduceIte]
          rw [m3.2.1 _ _ (by omega) (by omega)]
    obtain ⟨s1, g1, g2, g3, g4, g5, g6⟩ := s4
    have L1 := LkS.lf hv g2 h'
    have z1 := kp_kz (d := d) (tx := tx) (ps := ps) (ls := ls) (q := q) (o := fe q (q 7 2) j 4) hz
    -- the other name
    have s6 : ∃ s2, f_X5_lookAtPaths_46 (f_X5_lookAtPaths_2 m) s1 (nI j) (40 * v + j) = f_X5_lookAtPaths_2 m s2 (nI (j + 1)) ∧ LF v s1 s2 ∧ KXn s2 (kp d tx ps ls q (kp d tx ps ls q k (fe q (q 7 2) j 4)) (fe q (q 7 2) j 6)) ∧ gi s2 106 (40 * v + j) = oI (cpE d tx ps ls q (q 7 2) 6 j) ∧ (∀ i, i ≠ 40 * v + j → gi s2 106 i = gi s1 106 i) ∧ (∀ i, gi s2 105 i = gi s1 105 i) := by
      obtain ⟨a1, a2, a3, a4, a5, a6⟩ := L1
      have hs : f_X1_has s1 (40 * v + j) 6 = _ := x_has (o := 6) (a3 j hj').2.1 f2 (by omega)
      unfold f_X5_lookAtPaths_46 f_X5_lookAtPaths_71
      rw [hs, cl_mk, nI_1]
      unfold cpE
      cases ef : fe q (q 7 2) j 6 with
      | none =>
        rw [bI_no (fun h => b6.mp h ef), if_pos rfl]
        exact ⟨s1, rfl, LF.refl' v s1, g3, by rw [g6]; exact (h0 j (Nat.le_refl _) hj').2, fun _ _ => rfl, fun _ => rfl⟩
      | some i =>
        obtain ⟨i1, i2, i3, i4⟩ := fe_fst ef
        have hb : bt (vo d j) 6 = 1 := b6.mpr (by rw [ef]; exact fun h => by cases h)
        have e14 : ga s1 8 14 j = nI (q 2 i) := by
          have := (a4 i i1 i4).2 i3
          rwa [i2] at this
        rw [bI_yes hb, if_neg i10, show lenX 14 = 40 from rfl, ck_nI (by omega) (by omega), e14]
        obtain ⟨s2, m1, m2, m3⟩ := x_meant hv w cw ⟨a1, a2, a3, a4, a5, a6⟩ g3 z1 i1
        rw [i3] at m1
        have m1 : f_X5_fieldMeant s1 (nI (q 2 i)) 6 = _ := m1
        rw [m1, cl_mk]
        simp only [bnd]
        refine ⟨_, rfl, m3.lf.trans ⟨rfl, fun f i hh _ _ => ?_, fun _ _ _ => rfl⟩, ?_, by simp only [gi_si, gi_sr, gi_sg, gi_sa, gr_si, rr_sr, gr_sg, gr_sa, ga_si, ga_sr, ga_sg, ga_sa, true_and, and_true, false_and, and_false, Nat.reduceEqDiff, ↓reduceIte], fun i hh => ?_, fun i => ?_⟩
        · simp only [gi_si, gi_sr, gi_sg, gi_sa, gr_si, rr_sr, gr_sg, gr_sa, ga_si, ga_sr, ga_sg, ga_sa, true_and, and_true, false_and, and_false, Nat.reduceEqDiff, ↓reduceIte]
          rw [if_neg (by omega)]
        · unfold KXn
          simp only [gi_si, gi_sr, gi_sg, gi_sa, gr_si, rr_sr, gr_sg, gr_sa, ga_si, ga_sr, ga_sg, ga_sa, true_and, and_true, false_and, and_false, Nat.reduceEqDiff, ↓reduceIte]
          exact m2
        · simp only [gi_si, gi_sr, gi_sg, gi_sa, gr_si, rr_sr, gr_sg, gr_sa, ga_si, ga_sr, ga_sg, ga_sa, true_and, and_true, false_and, and_false, Nat.reduceEqDiff, ↓reduceIte]
          rw [if_neg hh, m3.2.1 _ _ (by omega) (by omega)]
        · simp only [gi_si, gi_sr, gi_sg, gi_sa, gr_si, rr_sr, gr_sg, gr_sa, ga_si, ga_sr, ga_sg, ga_sa, true_and, and_true, false_and, and_false, Nat.reduceEqDiff, ↓reduceIte]
          rw [m3.2.1 _ _ (by omega) (by omega)]
    obtain ⟨s2, n1, n2, n3, n4, n5, n6⟩ := s6
    have L2 := LkS.lf hv n2 L1
    have z2 := kp_kz (d := d) (tx := tx) (ps := ps) (ls := ls) (q := q) (o := fe q (q 7 2) j 6) z1
    obtain ⟨σ', k', p1, p2, p3, p4, p5, p6, p7⟩ := ih (j + 1) (by omega) s2 _ L2 n3 z2 (fun j' h1 h2 => by
      rw [n6, g5 _ (by omega), n5 _ (by omega), g6]
      exact h0 j' (by omega) h2) m (by omega)
    refine ⟨σ', k', by rw [g1, n1, p1], (g2.trans n2).trans p2, p3, p4, fun x => ?_, fun j' h1 h2 => ?_, fun j' h1 => ?_⟩
    · rw [p5 x, kp_le, kp_le]
      constructor
      · rintro (((h | ⟨i, e1, e2, e3⟩) | ⟨i, e1, e2, e3⟩) | ⟨j', o, i, e1, e2, e3, e4, e5, e6⟩)
        · exact Or.inl h
        · exact Or.inr ⟨j, 4, i, Nat.le_refl _, hj', Or.inl rfl, e1, e2, e3⟩
        · exact Or.inr ⟨j, 6, i, Nat.le_refl _, hj', Or.inr rfl, e1, e2, e3⟩
        · exact Or.inr ⟨j', o, i, by omega, e2, e3, e4, e5, e6⟩
      · rintro (h | ⟨j', o, i, e1, e2, e3, e4, e5, e6⟩)
        · exact Or.inl (Or.inl (Or.inl h))
        · by_cases e : j' = j
          · subst e
            rcases e3 with rfl | rfl
            · exact Or.inl (Or.inl (Or.inr ⟨i, e4, e5, e6⟩))
            · exact Or.inl (Or.inr ⟨i, e4, e5, e6⟩)
          · exact Or.inr ⟨j', o, i, by omega, e2, e3, e4, e5, e6⟩
    · by_cases e : j' = j
      · subst e
        obtain ⟨r1, r2⟩ := p7 j' (by omega)
        rw [r1, r2, n6, g4, n4]
        exact ⟨rfl, rfl⟩
      · exact p6 j' (by omega) h2
    · obtain ⟨r1, r2⟩ := p7 j' (by omega)
      rw [r1, r2, n6, g5 _ (by omega), n5 _ (by omega), g6]
      exact ⟨rfl, rfl⟩
/-! circles -/
theorem x_circ_loop (hv : v < 8) {n : Nat} {C : Nat → Option Nat} (h40 : n ≤ 40) (h2 : gr σ 2 0 = v) (h3 : gi σ 603 v = nI n) (hc : ∀ j, j < n → gi σ 105 (40 * v + j) = oI (C j)) (hC : ∀ j c, j < n → C j = some c → c < n) {s : Nat} (hs : s < n) : ∀ (r i : Nat), i + r = n → ∀ y, y < n → ∀ m, r < m → f_X5_isInCircle_4 m σ (nI s) (nI y) (nI i) = some (σ, bI (cyc C s r (C y))) := by
  intro r
  induction r with
  | zero =>
    intro i hi y hy m hm
    obtain ⟨m, rfl⟩ : ∃ m', m = m' + 1 := ⟨m - 1, by omega⟩
    rw [f_X5_isInCircle_4.eq_2, h2, h3, if_pos (nI_le (by omega) (by omega))]
    cases C y <;> rfl
  | succ r ih =>
    intro i hi y hy m hm
    obtain ⟨m, rfl⟩ : ∃ m', m = m' + 1 := ⟨m - 1, by omega⟩
    rw [f_X5_isInCircle_4.eq_2, h2, h3, if_neg (nI_ge (by omega) (by omega)), ck_nI (by omega) (by omega), hc y hy]
    simp only [bnd]
    unfold f_X5_isInCircle_37
    cases e : C y with
    | none =>
      rw [if_pos (show oI none < 0 from m2_neg), if_neg (show ¬ oI none = nI s from fun e => ln_m2 (by omega) e.symm)]
      rfl
    | some z =>
      have hz := hC y z hy e
      rw [show oI (some z) = nI z from rfl, if_neg (nI_pos (by omega))]
      unfold cyc
      by_cases c1 : z = s
      · rw [if_pos (by rw [c1]), if_pos (by rw [c1]), if_pos c1]
        rfl
      · rw [if_neg (fun e => c1 ((ln_eq (by omega) (by omega)).mp e)), if_neg c1, nI_1, ih (i + 1) (by omega) z hz m (by omega)]
theorem x_circles (hv : v < 8) (w : TKW tx c ks ps ls) (cw : CW c ks ps t d q) (hC0 : ∀ j, j < vn d → cpE d tx ps ls q (q 7 2) 4 j ≠ none → ∃ i, fe q (q 7 2) j 4 = some i) : ∀ (r j : Nat), j + r = vn d → ∀ (σ : St) (k : Nat), LkS v tx c ks ps ls d q σ → (∀ j', j' < vn d → gi σ 105 (40 * v + j') = oI (cpE d tx ps ls q (q 7 2) 4 j')) → KXn σ k → kz k → ∀ m, r < m → ∃ σ' k', f_X5_lookAtCircles_2 m σ (nI j) = some (σ', ()) ∧ NX σ σ' ∧ KXn σ' k' ∧ kz k' ∧ (∀ x, k' ≤ x ↔ k ≤ x ∨ ∃ j' i, j ≤ j' ∧ j' < vn d ∧ fe q (q 7 2) j' 4 = some i ∧ cyc (cpE d tx ps ls q (q 7 2) 4) j' (vn d) (cpE d tx ps ls q (q 7 2) 4 j') = true ∧ 16 * ps (q 4 i) + 9 ≤ x) := by
  have d40 := cw.1.1
  have hcc := w.cc
  have hx := w.2.2.2.2
  intro r
  induction r with
  | zero =>
    intro j hj σ k h hc hk hz m hm
    obtain ⟨m, rfl⟩ : ∃ m', m = m' + 1 := ⟨m - 1, by omega⟩
    refine ⟨σ, k, ?_, NX.refl' σ, hk, hz, fun x => ⟨fun h => Or.inl h, ?_⟩⟩
    · rw [f_X5_lookAtCircles_2.eq_2, h.1, h.2.1, if_pos (nI_le (by omega) (by omega))]
    · rintro (h | ⟨j', i, h1, h2, _⟩)
      · exact h
      · omega
  | succ r ih =>
    intro j hj σ k h hc hk hz m hm
    obtain ⟨m, rfl⟩ : ∃ m', m = m' + 1 := ⟨m - 1, by omega⟩
    have hj' : j < vn d := by omega
    have ci : f_X5_isInCircle σ (nI j) = _ := x_circ_loop hv d40 h.1 h.2.1 hc (fun j c _ e => cp_lt e) hj' (vn d) 0 (by omega) j hj' fl (by have := fl_big; omega)
    rw [f_X5_lookAtCircles_2.eq_2, h.1, h.2.1, if_neg (nI_ge (by omega) (by omega)), ci, cl_mk]
    unfold f_X5_lookAtCircles_40
    rw [nI_1]
    cases ey : cyc (cpE d tx ps ls q (q 7 2) 4) j (vn d) (cpE d tx ps ls q (q 7 2) 4 j) with
    | false =>
      rw [if_pos (show bI false = 0 from rfl)]
      obtain ⟨σ', k', p1, p2, p3, p4, p5⟩ := ih (j + 1) (by omega) σ k h hc hk hz m (by omega)
      refine ⟨σ', k', p1, p2, p3, p4, fun x => ?_⟩
      rw [p5 x]
      constructor
      · rintro (h | ⟨j', i, e1, e2, e3, e4, e5⟩)
        · exact Or.inl h
        · exact Or.inr ⟨j', i, by omega, e2, e3, e4, e5⟩
      · rintro (h | ⟨j', i, e1, e2, e3, e4, e5⟩)
        · exact Or.inl h
        · by_cases e : j' = j
          · subst e
            rw [ey] at e4
            cases e4
          · exact Or.inr ⟨j', i, by omega, e2, e3, e4, e5⟩
    | true =>
      have hne : cpE d tx ps ls q (q 7 2) 4 j ≠ none := fun e => by
        rw [e] at ey
        cases hn : vn d with
        | zero => omega
        | succ n =>
          rw [hn] at ey
          cases ey
      obtain ⟨i, ei⟩ := hC0 j hj' hne
      obtain ⟨i1, i2, i3, i4⟩ := fe_fst ei
      obtain ⟨_, _, _, _, _, z6, z7, _⟩ := cw.2.2.2.2.2.2.2.2.2.1 i i1
      have e12 : ga σ 8 12 j = nI (q 4 i) := by
        have := ((h.2.2.2.1 i i1 i4).1 i3).2
        rwa [i2] at this
      have hps := w.pp (t := q 4 i) (by omega)
      rw [if_neg (show ¬ bI true = 0 from i10), show lenX 12 = 40 from rfl, ck_nI (by omega) (by omega), e12, x_place h.2.2.2.2.1 w (by omega), cl_mk]
      obtain ⟨s3, n1, n2, n3, n4, n5⟩ := x_blame (e := 9) (p := ps (q 4 i)) hk hz (by omega) (by omega) (by omega)
      have n1 : f_X5_blame _ 9 (nI (ps (q 4 i))) = _ := n1
      rw [n1, cl_mk]
      have nx : NX σ s3 := ⟨n3, n4, n5⟩
      obtain ⟨σ', k', p1, p2, p3, p4, p5⟩ := ih (j + 1) (by omega) s3 _ (LkS.lf hv (LF0.nx nx).lf h) (fun j' hj' => by rw [n4 _ _ (by omega), hc j' hj']) n2 (kz_min hz (by omega) (by omega)) m (by omega)
      refine ⟨σ', k', p1, nx.trans p2, p3, p4, fun x => ?_⟩
      rw [p5 x]
      constructor
      · rintro (h | ⟨j', i, e1, e2, e3, e4, e5⟩)
        · by_cases e : k ≤ x
          · exact Or.inl e
          · exact Or.inr ⟨j, i, Nat.le_refl _, hj', ei, ey, by omega⟩
        · exact Or.inr ⟨j', i, by omega, e2, e3, e4, e5⟩
      · rintro (h | ⟨j', i', e1, e2, e3, e4, e5⟩)
        · exact Or.inl (by omega)
        · by_cases e : j' = j
          · subst e
            rw [ei] at e3
            cases e3
            exact Or.inl (by omega)
          · exact Or.inr ⟨j', i', by omega, e2, e3, e4, e5⟩
end Jx
