/-! Judging: both. -/
def fD (d : Vd) (C O : Nat → Option Nat) (l : Nat) : Vd :=
  (fun r i => match r with
    | 0 => vk d i
    | 1 => vo d i
    | 2 => vd d i
    | 3 => rk d i
    | 4 => rs d i
    | 5 => vs d i
    | _ => match i with
      | 0 => vn d
      | 1 => vr d
      | _ => l,
   d.2.1,
   fun r i => match r with
    | 0 => oH d i
    | 1 => C i
    | 2 => O i
    | _ => oZ d i)
section Je
variable {σ τ σ' τ' : St} {v t : Nat} {d : Vd} {q q' : Nat → Nat → Nat} {tx : List Nat} {c : Nat} {ks ps ls : Nat → Nat}
theorem LF.qx (h : LF v σ σ') : QX v σ σ' := ⟨fun i j _ => by show σ'.2.1 i j = σ.2.1 i j; rw [h.1], fun f i a b c => h.2.1 f i (by unfold dXp at a; omega) c (by omega), fun f i a b => h.2.2 f i (fun e => a ⟨e.1, Or.inr e.2⟩)⟩
theorem f_judge (hv : v < 8) (w : TKW tx c ks ps ls) (p : PI v tx c ks ps ls σ τ c d q) (h9 : gi σ 409 0 = 0) (hD : q 7 0 = 0) : ∃ σ' τ' k, Rn σ c = some (σ', gi σ' 415 0) ∧ f_X9_judge τ (nI v) = some (τ', ()) ∧ QX v σ σ' ∧ QM v τ τ' ∧ KXn σ' k ∧ KMn τ' k ∧ kz k ∧ gi τ' 835 0 = 0 ∧ gi τ' 809 0 = -2 ∧ (100000 ≤ k → ∃ d', VX0 σ' v d' ∧ VM τ' v d' ∧ W7 d') := by
  obtain ⟨px, pm, cw, hX, hT, h4, _⟩ := p
  have hcc := w.cc
  have hx := w.2.2.2.2
  have d40 := cw.1.1
  have dl := cw.1.2.2.1
  have cnt := cw.2.2.2.2.2.2.2.2.1
  have hz := cw.2.2.2.2.2.2.2.1
  have hK : q 7 2 < 700 := by omega
  have hL : q 7 1 < 700 := by omega
  have fw := cw.2.2.2.2.2.1
  have ce := cw.2.2.2.2.2.2.2.2.2.1
  have cl' := cw.2.2.2.2.2.2.2.2.2.2
  obtain ⟨a1, a2, a3, a4, a5, a6, a7⟩ := px
  -- the class
  have ls0 : LkS v tx c ks ps ls d q σ := ⟨a1, a2.1, fun j hj => ⟨(a2.2.2.2.1 j hj).1.1, (a2.2.2.2.1 j hj).1.2.1, (a2.2.2.2.1 j hj).1.2.2.2.2.2.1⟩, a7, hX, a5⟩
  obtain ⟨s1, k1, x1, x2, x3, x4, x5, x6, _⟩ := x_look_loop hv w cw (vn d) 0 (by omega) σ (q 7 3) ls0 a6 hz (fun j _ hj => by
    obtain ⟨_, b1, b2⟩ := a2.2.2.2.1 j hj
    rw [b1, b2, (fw j hj).2.2.2.1, (fw j hj).2.2.2.2.1]
    exact ⟨rfl, rfl⟩) fl (by have := fl_big; omega)
  have x1 : f_X5_lookAtPaths σ = some (s1, ()) := x1
  have ls1 := LkS.lf hv x2 ls0
  obtain ⟨s2, k2, y1, y2, y3, y4, y5⟩ := x_circles hv w cw (fun j hj hne => by
    cases e : fe q (q 7 2) j 4 with
    | some i => exact ⟨i, rfl⟩
    | none =>
      exfalso
      apply hne
      unfold cpE
      rw [e]) (vn d) 0 (by omega) s1 k1 ls1 (fun j hj => (x6 j (by omega) hj).1) x3 x4 fl (by have := fl_big; omega)
  have y1 : f_X5_lookAtCircles s1 = some (s2, ()) := y1
  have ls2 := LkS.lf hv (LF0.nx y2).lf ls1
  have h605 : gi s2 605 v = nI 40 := by
    rw [y2.2.1 _ _ (by omega), x2.2.1 _ _ (by omega) (by omega) (by omega), a2.2.2.1, dl]
  obtain ⟨s3, k3, z1, z2, z3, z4, z5, z6, z7, z8⟩ := x_limit hv w cw ls2 h605 y3 y4
  -- the reference
  obtain ⟨b1, b2, b3, b4, b5, b6, b7, b8, b9, b10⟩ := pm
  have ms0 : MkS v tx c ks ps ls d q τ := ⟨⟨b1.1, fun j hj => ⟨(b1.2.2.1 j hj).1.2.2.2.1, (b1.2.2.1 j hj).1.2.2.2.2.1, (b1.2.2.1 j hj).1.2.2.2.2.2.1⟩⟩, fun j hj => (b1.2.2.1 j hj).1.1, b7, b8, hT, b4, b5⟩
  obtain ⟨t1, l1, u1, u2, u3, u4, u5, u6⟩ := m_judge_loop hv w cw hK (q 7 2) 0 (by omega) τ (q 7 3) ms0 b6 hz (fun j hj => by
    obtain ⟨_, e1, e2⟩ := b1.2.2.1 j hj
    rw [e1, e2, (fw j hj).2.2.2.1, (fw j hj).2.2.2.2.1]
    exact ⟨rfl, rfl⟩) fl (by have := fl_big; omega)
  have ms1 := MkS.mf u2 ms0
  obtain ⟨t2, l2, v1, v2, v3, v4, v5⟩ := m_circles hv w cw hK (C := cpE d tx ps ls q (q 7 2) 4) (fun j c _ e => cp_lt e) (q 7 2) 0 (by omega) t1 l1 ms1 (fun j hj => (u6 j hj).1) u3 u4 fl (by have := fl_big; omega)
  have v1 : f_X9_judge_157 fl t1 (nI v) 0 = _ := v1
  have mf2 : MFm v t1 (sa t2 1 2 v 40) := (MFm.nm v2).trans (MFm.s2 _ _)
  have ms2 := MkS.mf mf2 ms1
  obtain ⟨t3, l3, w1, w2, w2', w3, w4, w5, w6⟩ := m_limits hv w cw hL (q 7 1) 0 (by omega) (sa t2 1 2 v 40) l2 40 ms2 (by rw [a1_get]; rfl) v3 v4 fl (by have := fl_big; omega)
  have w1 : f_X9_judge_287 fl (sa t2 1 2 v 40) (nI v) 0 = _ := w1
  have mf3 := (u2.trans mf2).trans w2
  -- the notes agree
  have hps : ∀ i, i < q 7 2 → ps (q 4 i) < ps (q 2 i) := fun i hi => w.mono (t := q 4 i) (q 2 i) (ce i hi).2.2.2.2.2.1 (by have := (ce i hi).2.2.2.2.2.2.1; omega)
  have hle : ∀ x, k3 ≤ x ↔ l3 ≤ x := by
    intro x
    rw [z7 x, y5 x, x5 x, w5 x, v5 x, u5 x]
    constructor
    · rintro (((h | ⟨j', o, i, e1, e2, e3, e4, e5, e6⟩) | ⟨j', i, e1, e2, e3, e4, e5⟩) | ⟨e1, e2, e3⟩)
      · exact Or.inl (Or.inl (Or.inl h))
      · exact Or.inl (Or.inl (Or.inr ⟨i, by omega, (fe_fst e4).1, e5, e6⟩))
      · obtain ⟨g1, g2, g3, g4⟩ := fe_fst e3
        refine Or.inl (Or.inr ⟨i, by omega, g1, g3, isF1_iff.mpr g4, ?_, e5⟩)
        rw [g2, cyc_same (n := vn d) (fun j c _ e => cp_lt e) (by omega) e2]
        exact e4
      · exact Or.inr ⟨0, by omega, by omega, e2, e3⟩
    · rintro (((h | ⟨i, e1, e2, e3, e4⟩) | ⟨i, e1, e2, e3, e4, e5, e6⟩) | ⟨i, e1, e2, e3, e4⟩)
      · exact Or.inl (Or.inl (Or.inl h))
      · by_cases hf : fstE q i
        · exact Or.inl (Or.inl (Or.inr ⟨q 0 i, q 1 i, i, by omega, (ce i e2).1, (ce i e2).2.1, fst_fe e2 hf, e3, e4⟩))
        · have g1 := (ce i e2).2.2.2.2.2.2.2 hf
          have g2 := hps i e2
          exact Or.inl (Or.inl (Or.inl (by omega)))
      · have hf := isF1_iff.mp e4
        have g := fst_fe e2 hf
        rw [e3] at g
        refine Or.inl (Or.inr ⟨q 0 i, i, by omega, (ce i e2).1, g, ?_, e6⟩)
        rw [← cyc_same (n := vn d) (fun j c _ e => cp_lt e) (by omega) (ce i e2).1]
        exact e5
      · by_cases e0 : i = 0
        · rw [e0] at e3 e4
          exact Or.inr ⟨by omega, e3, e4⟩
        · have := (cl' i e2).2.2 (by omega)
          exact Or.inl (Or.inl (Or.inl (by omega)))
  have hk : k3 = l3 := by
    have g1 := (hle l3).mpr (Nat.le_refl _)
    have g2 := (hle k3).mp (Nat.le_refl _)
    omega
  rw [← hk] at w3
  -- frames
  have lf3 : QX v σ s3 := by
    refine ((x2.trans (LF0.nx y2).lf).qx).trans ⟨fun i j _ => by show s3.2.1 i j = s2.2.1 i j; rw [z2], fun f i a b c => z3 f i (by omega) (by unfold dXp at a; omega), fun f i _ _ => z4 f i⟩
  refine ⟨s3, t3, k3, ?_, ?_, lf3, mf3.qm, z5, w3, z6, ?_, ?_, fun hb => ?_⟩
  · rw [rn_eq w (Nat.le_refl _), f_X5_readInto_27.eq_2]
    unfold f_X6_count
    rw [cl_mk, hX.2.1, if_pos (nI_le (Nat.le_refl _) (by omega)), if_pos h9, a3, hD, if_pos (by decide), x1, cl_mk, y1, cl_mk, z1, cl_mk]
  · unfold f_X9_judge
    rw [show f_X9_judge_2 fl τ (nI v) 0 = _ from u1, v1, w1]
  · rw [mf3.1 _ _ (by omega), b10]
  · rw [mf3.1 _ _ (by omega), b9]
  · -- nothing is wrong
    have nb : ∀ x, x < 100000 → ¬ k3 ≤ x := fun x hx => by omega
    have n0 : 100000 ≤ q 7 3 := by
      apply Classical.byContradiction
      intro hlt
      exact nb (q 7 3) (by omega) ((z7 _).mpr (Or.inl ((y5 _).mpr (Or.inl ((x5 _).mpr (Or.inl (Nat.le_refl _)))))))
    have nw : ∀ i, i < q 7 2 → fstE q i → wrE d tx ps ls q i = false := by
      intro i hi hf
      cases e : wrE d tx ps ls q i with
      | false => rfl
      | true =>
        have hp2 := w.pp (t := q 2 i) (by have := (ce i hi).2.2.2.2.2.2.1; omega)
        exact absurd ((z7 _).mpr (Or.inl ((y5 _).mpr (Or.inl ((x5 (16 * ps (q 2 i) + 8)).mpr (Or.inr ⟨q 0 i, q 1 i, i, by omega, (ce i hi).1, (ce i hi).2.1, fst_fe hi hf, e, Nat.le_refl _⟩)))))) (nb _ (by omega))
    have nc : ∀ j, j < vn d → cyc (cpE d tx ps ls q (q 7 2) 4) j (vn d) (cpE d tx ps ls q (q 7 2) 4 j) = false := by
      intro j hj
      cases e : cyc (cpE d tx ps ls q (q 7 2) 4) j (vn d) (cpE d tx ps ls q (q 7 2) 4 j) with
      | false => rfl
      | true =>
        cases ef : fe q (q 7 2) j 4 with
        | none =>
          have hn : cpE d tx ps ls q (q 7 2) 4 j = none := by
            unfold cpE
            rw [ef]
          rw [hn] at e
          cases hvn : vn d with
          | zero => omega
          | succ n =>
            rw [hvn] at e
            cases e
        | some i =>
          obtain ⟨g1, g2, g3, g4⟩ := fe_fst ef
          have hp2 := w.pp (t := q 4 i) (by have := (ce i g1).2.2.2.2.2.1; have := (ce i g1).2.2.2.2.2.2.1; omega)
          exact absurd ((z7 _).mpr (Or.inl ((y5 (16 * ps (q 4 i) + 9)).mpr (Or.inr ⟨j, i, by omega, hj, ef, e, Nat.le_refl _⟩)))) (nb _ (by omega))
    have nL : q 7 1 ≤ 1 := by
      apply Classical.byContradiction
      intro hgt
      have g1 := (cl' 1 (by omega)).2.2 (by omega)
      have hp2 := w.pp (t := q 5 1) (by have := (cl' 1 (by omega)).1; omega)
      omega
    have nlm : q 7 1 ≠ 0 → nmL tx ps ls q 0 ≤ 40 ∧ vn d ≤ nmL tx ps ls q 0 := by
      intro hne
      have hp2 := w.pp (t := q 5 0) (by have := (cl' 0 (by omega)).1; omega)
      have := nb (16 * ps (q 5 0) + 10) (by omega)
      rw [z7] at this
      constructor
      · apply Classical.byContradiction
        intro hgt
        exact this (Or.inr ⟨hne, Or.inl (by omega), Nat.le_refl _⟩)
      · apply Classical.byContradiction
        intro hgt
        exact this (Or.inr ⟨hne, Or.inr (by omega), Nat.le_refl _⟩)
    obtain ⟨l, hl⟩ : ∃ l, l = if q 7 1 = 0 then 40 else nmL tx ps ls q 0 := ⟨_, rfl⟩
    have hl1 : vn d ≤ l ∧ l ≤ 40 := by
      rw [hl]
      by_cases e : q 7 1 = 0
      · rw [if_pos e]
        omega
      · rw [if_neg e]
        exact ⟨(nlm e).2, (nlm e).1⟩
    -- what an option leads to
    have cpn : ∀ o j, cpE d tx ps ls q (q 7 2) o j ≠ none ↔ fe q (q 7 2) j o ≠ none := by
      intro o j
      unfold cpE
      cases ef : fe q (q 7 2) j o with
      | none => exact Iff.rfl
      | some i =>
        obtain ⟨g1, g2, g3, g4⟩ := fe_fst ef
        have hw := nw i g1 g4
        unfold wrE at hw
        cases er : resE d tx ps ls q i with
        | none =>
          rw [er] at hw
          cases hw
        | some h => simp [er]
    refine ⟨fD d (cpE d tx ps ls q (q 7 2) 4) (cpE d tx ps ls q (q 7 2) 6) l, ?_, ?_, ?_⟩
    · -- the class's
      have g3 : ∀ f i, ¬ (f = 605 ∧ i = v) → ¬ (f = 105 ∨ f = 106) → ¬ ((f = 201 ∨ f = 202) ∧ i = 4) → ¬ (f = 415 ∨ f = 416) → gi s3 f i = gi σ f i := fun f i h1 h2 h3 h4 => by
        rw [z3 f i h4 h1, y2.2.1 f i h4, x2.2.1 f i (by omega) h3 h4]
      have ga3 : ∀ f i, ¬ (f = 2 ∧ i = 4) → ga s3 f i = ga σ f i := fun f i h => by
        rw [z4, y2.2.2, x2.2.2 f i h]
      refine ⟨?_, ?_, ?_, fun j hj => ?_, fun r hr => RX.of' (fun f hf => g3 _ _ (by omega) (by omega) (by omega) (by omega)) (fun i hi => ⟨g3 _ _ (by omega) (by omega) (by omega) (by omega), ga3 _ _ (by omega)⟩) (a2.2.2.2.2 r hr)⟩
      · rw [g3 _ _ (by omega) (by omega) (by omega) (by omega), a2.1]
        rfl
      · rw [g3 _ _ (by omega) (by omega) (by omega) (by omega), a2.2.1]
        rfl
      · rw [z8, ← hl]
        rfl
      · have hj : j < vn d := hj
        obtain ⟨⟨c1, c2, c3, c4, c5, c6, c7⟩, c8, c9⟩ := a2.2.2.2.1 j hj
        refine ⟨⟨?_, ?_, ?_, ?_, ?_, LX_of c6 (g3 _ _ (by omega) (by omega) (by omega) (by omega)) (ga3 _ _ (by omega)), LX_of c7 (g3 _ _ (by omega) (by omega) (by omega) (by omega)) (ga3 _ _ (by omega))⟩, ?_, ?_⟩
        · rw [g3 _ _ (by omega) (by omega) (by omega) (by omega), c1]
          rfl
        · rw [g3 _ _ (by omega) (by omega) (by omega) (by omega), c2]
          rfl
        · rw [g3 _ _ (by omega) (by omega) (by omega) (by omega), c3]
          rfl
        · rw [g3 _ _ (by omega) (by omega) (by omega) (by omega), c4]
          rfl
        · rw [g3 _ _ (by omega) (by omega) (by omega) (by omega), c5]
          rfl
        · rw [z3 _ _ (by omega) (by omega), y2.2.1 _ _ (by omega), (x6 j (by omega) hj).1]
          rfl
        · rw [z3 _ _ (by omega) (by omega), y2.2.1 _ _ (by omega), (x6 j (by omega) hj).2]
          rfl
    · -- the reference's
      have g3 : ∀ f i x, ¬ (f = 1 ∧ (i = 7 ∨ i = 8)) → ¬ (f = 1 ∧ i = 2) → ga t3 f i x = ga τ f i x := fun f i x h1 h2 => mf3.2 f i x (by omega) (by omega)
      have lw := cw.lw
      refine ⟨?_, ?_, ?_, fun j hj => ?_, fun r hr => RM.of' (fun i h1 h2 => g3 _ _ _ (by omega) (by omega)) (g3 _ _ _ (by omega) (by omega)) (fun i x h1 h2 h3 => g3 _ _ _ (by omega) (by omega)) (lw.2 r hr).1 (lw.2 r hr).2 (b1.2.2.2 r hr)⟩
      · rw [g3 _ _ _ (by omega) (by omega), b1.1]
        rfl
      · rw [g3 _ _ _ (by omega) (by omega), b1.2.1]
        rfl
      · rw [w6]
        show _ = nI l
        rw [hl]
        by_cases e : q 7 1 = 0
        · rw [if_pos e, if_pos e]
        · rw [if_neg e, if_neg e, show q 7 1 - 1 = 0 by omega]
      · have hj : j < vn d := hj
        obtain ⟨⟨c1, c2, c3, c4, c5, c6, c7, c8⟩, c9, c10⟩ := b1.2.2.1 j hj
        have e7 : ∀ r, r = 7 ∨ r = 8 → ga t3 1 r = ga t1 1 r := fun r hr => by
          rw [w2' _ _ (by omega)]
          simp only [gi_si, gi_sr, gi_sg, gi_sa, gr_si, rr_sr, gr_sg, gr_sa, ga_si, ga_sr, ga_sg, ga_sa, true_and, and_true, false_and, and_false, Nat.reduceEqDiff, ↓reduceIte]
          rw [if_neg (by omega), v2.2]
        refine ⟨⟨?_, ?_, ?_, ?_, ?_, Bs_of c6 (fun i hi => g3 _ _ _ (by omega) (by omega)), ?_, Bs_of c8 (fun i hi => g3 _ _ _ (by omega) (by omega))⟩, ?_, ?_⟩
        · rw [g3 _ _ _ (by omega) (by omega), c1]
          rfl
        · rw [g3 _ _ _ (by omega) (by omega), c2]
          rfl
        · rw [g3 _ _ _ (by omega) (by omega), c3]
          rfl
        · rw [g3 _ _ _ (by omega) (by omega), c4]
          rfl
        · rw [g3 _ _ _ (by omega) (by omega), c5]
          rfl
        · rw [g3 _ _ _ (by omega) (by omega), c7]
          rfl
        · rw [e7 7 (by omega), (u6 j hj).1]
          rfl
        · rw [e7 8 (by omega), (u6 j hj).2]
          rfl
    · -- it is well
      refine ⟨⟨hl1.1, hl1.2, cw.1.2.1⟩, cw.2.1, cw.2.2.1, fun i j hij hj => names_paths cw.2.1 (cw.2.2.2.2.2.2.1 n0).1 j j (Nat.le_refl _) hj i hij, fun j hj => ?_, fun j hj => no_cyc (fun j c _ e => cp_lt e) nc hj, cw.2.2.2.1⟩
      have hj : j < vn d := hj
      obtain ⟨c1, c2, c3, c4, c5, c6, c7, c8, c9, c10⟩ := fw j hj
      refine ⟨c1, c2, c3, fun c e => cp_lt e, fun c e => cp_lt e, c6, c7, ?_, c8, ?_, fun hk => ?_⟩
      · exact (c9.trans fe_ex.symm).trans (cpn 4 j).symm
      · exact (c10.trans fe_ex.symm).trans (cpn 6 j).symm
      · have hk : vk d j = 5 ∨ vk d j = 6 := hk
        apply Classical.byContradiction
        intro hne
        have h6 : bt (vo d j) 6 = 1 := c10.mpr (fe_ex.mp ((cpn 6 j).mp hne))
        have := (cw.2.2.2.2.2.2.1 n0).2 j hj h6
        omega
end Je
