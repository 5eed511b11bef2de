/-! Judging: the reference. -/
section Jm
variable {σ τ σ' τ' : St} {v t : Nat} {d : Vd} {q q' : Nat → Nat → Nat} {tx : List Nat} {c : Nat} {ks ps ls : Nat → Nat}
def MkS (v : Nat) (tx : List Nat) (c : Nat) (ks ps ls : Nat → Nat) (d : Vd) (q : Nat → Nat → Nat) (τ : St) : Prop := PM τ v d ∧ (∀ j, j < vn d → ga τ 1 4 (40 * v + j) = nI (vk d j)) ∧ gi τ 838 0 = nI (q 7 2) ∧ (∀ i, i < q 7 2 → ∀ r, r < 5 → ga τ 1 (17 + r) i = nI (q r i)) ∧ TKM τ tx c ks ps ls ∧ gi τ 844 0 = nI (q 7 1) ∧ (∀ i, i < q 7 1 → ga τ 1 22 i = nI (q 5 i))
/-- only the copies, the limit and the notes change -/
def MFm (v : Nat) (τ τ' : St) : Prop := (∀ f i, ¬ (f = 836 ∨ f = 837) → gi τ' f i = gi τ f i) ∧ (∀ f i x, ¬ (f = 1 ∧ (i = 7 ∨ i = 8) ∧ 40 * v ≤ x ∧ x < 40 * v + 40) → ¬ (f = 1 ∧ i = 2 ∧ x = v) → ga τ' f i x = ga τ f i x)
theorem MFm.trans {σ σ1 σ2 : St} (h : MFm v σ σ1) (k : MFm v σ1 σ2) : MFm v σ σ2 := ⟨fun f i a => (k.1 f i a).trans (h.1 f i a), fun f i x a b => (k.2 f i x a b).trans (h.2 f i x a b)⟩
theorem MFm.refl' (v : Nat) (τ : St) : MFm v τ τ := ⟨fun _ _ _ => rfl, fun _ _ _ _ _ => rfl⟩
theorem MFm.nm (h : NM τ τ') : MFm v τ τ' := ⟨h.1, fun f i x _ _ => by rw [h.2]⟩
theorem MFm.s {r j : Nat} (hr : r = 7 ∨ r = 8) (hj : j < 40) (τ : St) (x : Int32) : MFm v τ (sa τ 1 r (40 * v + j) x) := ⟨fun _ _ _ => rfl, fun f i x' a _ => by
  simp only [gi_si, gi_sr, gi_sg, gi_sa, gr_si, rr_sr, gr_sg, gr_sa, ga_si, ga_sr, ga_sg, ga_sa, true_and, and_true, false_and, and_false, Nat.reduceEqDiff, ↓reduceIte]
  split
  · rename_i h
    obtain ⟨rfl, rfl⟩ := h
    unfold upd
    rw [if_neg (by omega)]
  · rfl⟩
theorem MFm.s2 (τ : St) (x : Int32) : MFm v τ (sa τ 1 2 v x) := ⟨fun _ _ _ => rfl, fun f i x' _ a => by
  simp only [gi_si, gi_sr, gi_sg, gi_sa, gr_si, rr_sr, gr_sg, gr_sa, ga_si, ga_sr, ga_sg, ga_sa, true_and, and_true, false_and, and_false, Nat.reduceEqDiff, ↓reduceIte]
  split
  · rename_i h
    obtain ⟨rfl, rfl⟩ := h
    unfold upd
    rw [if_neg (by omega)]
  · rfl⟩
theorem MFm.qm (h : MFm v τ τ') : QM v τ τ' := ⟨fun f i a => h.1 f i (by omega), fun f i x a b => h.2 f i x (by unfold dM at a; omega) (by unfold dM at a; omega)⟩
theorem MkS.mf (h : MFm v τ τ') (a : MkS v tx c ks ps ls d q τ) : MkS v tx c ks ps ls d q τ' := by
  obtain ⟨⟨a1, a2⟩, a3, a4, a5, a6, a7, a8⟩ := a
  refine ⟨⟨by rw [h.2 _ _ _ (by omega) (by omega), a1], fun j hj => ?_⟩, fun j hj => ?_, ?_, fun i hi r hr => ?_, h.qm.tkm a6, ?_, fun i hi => ?_⟩
  · obtain ⟨b1, b2, b3⟩ := a2 j hj
    exact ⟨by rw [h.2 _ _ _ (by omega) (by omega), b1], by rw [h.2 _ _ _ (by omega) (by omega), b2], Bs_of b3 (fun i hi => h.2 _ _ _ (by omega) (by omega))⟩
  · rw [h.2 _ _ _ (by omega) (by omega), a3 j hj]
  · rw [h.1 _ _ (by omega), a4]
  · rw [h.2 _ _ _ (by omega) (by omega), a5 i hi r hr]
  · rw [h.1 _ _ (by omega), a7]
  · rw [h.2 _ _ _ (by omega) (by omega), a8 i hi]
theorem m_first (cw : CW c ks ps t d q) (hK : q 7 2 < 700) (h : MkS v tx c ks ps ls d q τ) {i : Nat} (hi : i < q 7 2) : ∀ (r i' : Nat), i' + r = i → ∀ m, r < m → f_X9_isFirst_2 m τ (nI i) (nI i') = some (τ, bI (fm (feq q (q 0 i) (q 1 i)) r i').isNone) := by
  have ce := cw.2.2.2.2.2.2.2.2.2.1
  have d40 := cw.1.1
  intro r
  induction r with
  | zero =>
    intro i' hi' m hm
    obtain ⟨m, rfl⟩ : ∃ m', m = m' + 1 := ⟨m - 1, by omega⟩
    rw [f_X9_isFirst_2.eq_2, if_pos (nI_le (by omega) (by omega))]
    rfl
  | succ r ih =>
    intro i' hi' m hm
    obtain ⟨m, rfl⟩ : ∃ m', m = m' + 1 := ⟨m - 1, by omega⟩
    have c1 := ce i hi
    have c2 := ce i' (by omega)
    have e0 : ∀ k, k < q 7 2 → ga τ 1 17 k = nI (q 0 k) := fun k hk => h.2.2.2.1 k hk 0 (by omega)
    have e1 : ∀ k, k < q 7 2 → ga τ 1 18 k = nI (q 1 k) := fun k hk => h.2.2.2.1 k hk 1 (by omega)
    rw [f_X9_isFirst_2.eq_2, if_neg (nI_ge (by omega) (by omega)), ck_nI (by omega) (by omega), ck_nI (by omega) (by omega), e0 _ (by omega), e0 _ hi, ck_nI (by omega) (by omega), ck_nI (by omega) (by omega), e1 _ (by omega), e1 _ hi, fm_s]
    unfold f_X9_isFirst_39
    rw [nI_1, ih (i' + 1) (by omega) m (by omega)]
    have b1 := c1.1
    have b2 := c2.1
    by_cases p0 : q 0 i' = q 0 i
    · rw [if_pos (by rw [p0])]
      by_cases p1 : q 1 i' = q 1 i
      · rw [if_pos (by rw [p1]), if_pos (show feq q (q 0 i) (q 1 i) i' = true from decide_eq_true ⟨p0, p1⟩)]
        rfl
      · rw [if_neg (fun e => p1 ((ln_eq (by omega) (by omega)).mp e)), if_neg (show ¬ feq q (q 0 i) (q 1 i) i' = true from fun e => p1 (of_decide_eq_true e).2)]
    · rw [if_neg (fun e => p0 ((ln_eq (by omega) (by omega)).mp e)), if_neg (show ¬ feq q (q 0 i) (q 1 i) i' = true from fun e => p0 (of_decide_eq_true e).1)]
/-- first, as a truth value -/
def isF1 (q : Nat → Nat → Nat) (i : Nat) : Bool := (fe q i (q 0 i) (q 1 i)).isNone
theorem isF1_iff {q : Nat → Nat → Nat} {i : Nat} : isF1 q i = true ↔ fstE q i := by
  unfold isF1
  constructor
  · intro h i' hi' he
    have : fe q i (q 0 i) (q 1 i) ≠ none := fe_ex.mpr ⟨i', hi', he.1, he.2⟩
    cases e : fe q i (q 0 i) (q 1 i) with
    | none => exact this e
    | some x =>
      rw [e] at h
      cases h
  · intro h
    cases e : fe q i (q 0 i) (q 1 i) with
    | none => rfl
    | some x =>
      have : fe q i (q 0 i) (q 1 i) ≠ none := by rw [e]; exact fun h => by cases h
      obtain ⟨i', h1, h2, h3⟩ := fe_ex.mp this
      exact absurd ⟨h2, h3⟩ (h i' h1)
theorem m_isFirst (cw : CW c ks ps t d q) (hK : q 7 2 < 700) (h : MkS v tx c ks ps ls d q τ) {i : Nat} (hi : i < q 7 2) : f_X9_isFirst τ (nI i) = some (τ, bI (isF1 q i)) := m_first cw hK h hi i 0 (by omega) fl (by have := fl_big; omega)
/-- what the copies are after so many entries -/
theorem cp_step {k o j : Nat} : cpE d tx ps ls q (k + 1) o j = if isF1 q k = true ∧ q 0 k = j ∧ q 1 k = o then resE d tx ps ls q k else cpE d tx ps ls q k o j := by
  unfold cpE
  rw [fe_s]
  unfold isF1
  by_cases e : q 0 k = j ∧ q 1 k = o
  · obtain ⟨e1, e2⟩ := e
    cases ef : fe q k j o with
    | none =>
      dsimp only
      rw [if_pos (show feq q j o k = true from decide_eq_true ⟨e1, e2⟩), if_pos ⟨by rw [e1, e2, ef]; rfl, e1, e2⟩]
    | some x =>
      dsimp only
      rw [if_neg (fun h => by have := h.1; rw [e1, e2, ef] at this; cases this)]
  · rw [if_neg (show ¬ ((fe q k (q 0 k) (q 1 k)).isNone = true ∧ q 0 k = j ∧ q 1 k = o) from fun h => e h.2)]
    cases ef : fe q k j o with
    | none =>
      dsimp only
      rw [if_neg (show ¬ feq q j o k = true from fun h => e (of_decide_eq_true h))]
    | some x => rfl
theorem m_judge_loop (hv : v < 8) (w : TKW tx c ks ps ls) (cw : CW c ks ps t d q) (hK : q 7 2 < 700) : ∀ (r i : Nat), i + r = q 7 2 → ∀ (τ : St) (k : Nat), MkS v tx c ks ps ls d q τ → KMn τ k → kz k → (∀ j, j < vn d → ga τ 1 7 (40 * v + j) = oI (cpE d tx ps ls q i 4 j) ∧ ga τ 1 8 (40 * v + j) = oI (cpE d tx ps ls q i 6 j)) → ∀ m, r < m → ∃ τ' k', f_X9_judge_2 m τ (nI v) (nI i) = f_X9_judge_157 fl τ' (nI v) 0 ∧ MFm v τ τ' ∧ KMn τ' k' ∧ kz k' ∧ (∀ x, k' ≤ x ↔ k ≤ x ∨ ∃ i', i ≤ i' ∧ i' < q 7 2 ∧ wrE d tx ps ls q i' = true ∧ 16 * ps (q 2 i') + 8 ≤ x) ∧ (∀ j, j < vn d → ga τ' 1 7 (40 * v + j) = oI (cpE d tx ps ls q (q 7 2) 4 j) ∧ ga τ' 1 8 (40 * v + j) = oI (cpE d tx ps ls q (q 7 2) 6 j)) := by
  have d40 := cw.1.1
  have wt := cw.2.1
  have hcc := w.cc
  have hx := w.2.2.2.2
  intro r
  induction r with
  | zero =>
    intro i hi τ k h hk hz h0 m hm
    obtain ⟨m, rfl⟩ : ∃ m', m = m' + 1 := ⟨m - 1, by omega⟩
    have : i = q 7 2 := by omega
    subst this
    refine ⟨τ, k, ?_, MFm.refl' v τ, hk, hz, fun x => ⟨fun h => Or.inl h, ?_⟩, h0⟩
    · rw [f_X9_judge_2.eq_2, h.2.2.1, if_pos (nI_le (by omega) (by omega))]
    · rintro (h | ⟨i', h1, h2, _⟩)
      · exact h
      · omega
  | succ r ih =>
    intro i hi τ k h hk hz h0 m hm
    obtain ⟨m, rfl⟩ : ∃ m', m = m' + 1 := ⟨m - 1, by omega⟩
    have hi' : i < q 7 2 := by omega
    obtain ⟨e1, e2, e3, e4, e5, e6, e7, _⟩ := cw.2.2.2.2.2.2.2.2.2.1 i hi'
    have h' := h
    obtain ⟨a1, a3, a4, a5, a6, a7, a8⟩ := h
    have hps := w.pp (t := q 2 i) (by omega)
    have g0 : ga τ 1 17 i = nI (q 0 i) := a5 i hi' 0 (by omega)
    have g1 : ga τ 1 18 i = nI (q 1 i) := a5 i hi' 1 (by omega)
    have g2 : ga τ 1 19 i = nI (q 2 i) := a5 i hi' 2 (by omega)
    have g3 : ga τ 1 20 i = nI (q 3 i) := a5 i hi' 3 (by omega)
    have hg : 40 * v + q 0 i < 320 := by omega
    have fof := m_fof hv a1 d40 wt a6 w e3 e4
    have wr : ∃ τ1, f_X9_judge_2 (m + 1) τ (nI v) (nI i) = f_X9_judge_104 (f_X9_judge_2 m) τ1 (nI v) (nI i) (nI (40 * v + q 0 i)) (oI (resE d tx ps ls q i)) ∧ KMn τ1 (kp d tx ps ls q k (some i)) ∧ NM τ τ1 := by
      have n8 : ∃ τ1, (ck (nI i) 700 fun j15 => ck (ga τ 1 19 j15) 2001 fun j16 => cl (f_X9_note τ 8 (ga τ 1 15 j16)) fun s17 _ => f_X9_judge_104 (f_X9_judge_2 m) s17 (nI v) (nI i) (nI (40 * v + q 0 i)) (oI (resE d tx ps ls q i))) = f_X9_judge_104 (f_X9_judge_2 m) τ1 (nI v) (nI i) (nI (40 * v + q 0 i)) (oI (resE d tx ps ls q i)) ∧ KMn τ1 (min k (16 * ps (q 2 i) + 8)) ∧ NM τ τ1 := by
        rw [ck_nI (by omega) (by omega), g2, ck_nI (by omega) (by omega), (a6.2.2 (q 2 i) (by omega)).2.1]
        obtain ⟨s1, n1, n2, n4, n5⟩ := m_note (e := 8) (p := ps (q 2 i)) hk hz (by omega) (by omega) (by omega)
        have n1 : f_X9_note _ 8 (nI (ps (q 2 i))) = _ := n1
        rw [n1, cl_mk]
        exact ⟨s1, rfl, n2, n4, n5⟩
      rw [f_X9_judge_2.eq_2, a4, if_neg (nI_ge (by omega) (by omega)), ck_nI (by omega) (by omega), ck_nI (by omega) (by omega), ck_nI (by omega) (by omega), g2, g3, fof, cl_mk, g0, ln_40, nI_add, show kp d tx ps ls q k (some i) = if wrE d tx ps ls q i = true then min k (16 * ps (q 2 i) + 8) else k from rfl, show fop d (pj tx ps ls (q 3 i) (q 2 i)) = resE d tx ps ls q i from rfl]
      -- by the kind found
      have j65 : ∀ (kk : Nat), kk < 10 → ∃ τ1, f_X9_judge_65 (f_X9_judge_2 m) τ (nI kk) (nI v) (nI i) (nI (40 * v + q 0 i)) (oI (resE d tx ps ls q i)) = f_X9_judge_104 (f_X9_judge_2 m) τ1 (nI v) (nI i) (nI (40 * v + q 0 i)) (oI (resE d tx ps ls q i)) ∧ KMn τ1 (if mayM kk (q 1 i) = false then min k (16 * ps (q 2 i) + 8) else k) ∧ NM τ τ1 := by
        intro kk hkk
        unfold f_X9_judge_65 f_X9_judge_84
        rw [ck_nI (by omega) (by omega), g1]
        unfold mayM
        by_cases o4 : q 1 i = 4
        · rw [if_pos (show nI (q 1 i) = (4 : Int32) by rw [o4]; rfl), if_pos o4]
          by_cases c1 : kk ≤ 1
          · rw [if_pos (show nI kk ≤ (1 : Int32) from nI_le (b := 1) c1 (by omega)), decide_eq_true c1, if_neg (by decide)]
            exact ⟨τ, rfl, hk, NM.refl' τ⟩
          · rw [if_neg (show ¬ nI kk ≤ (1 : Int32) from nI_ge (a := 1) (by omega) (by omega)), decide_eq_false c1, if_pos rfl]
            exact n8
        · rw [if_neg (show ¬ nI (q 1 i) = (4 : Int32) from fun e => o4 ((ln_eq (b := 4) (by omega) (by omega)).mp e)), if_neg o4]
          by_cases c1 : kk ≤ 4
          · rw [if_pos (show nI kk ≤ (4 : Int32) from nI_le (b := 4) c1 (by omega)), decide_eq_true c1, if_neg (by decide)]
            exact ⟨τ, rfl, hk, NM.refl' τ⟩
          · rw [if_neg (show ¬ nI kk ≤ (4 : Int32) from nI_ge (a := 4) (by omega) (by omega)), decide_eq_false c1, if_pos rfl]
            exact n8
      cases er : resE d tx ps ls q i with
      | none =>
        have hw : wrE d tx ps ls q i = true := by
          unfold wrE
          rw [er]
        have := j65 9 (by omega)
        rw [er] at this
        have hm : mayM 9 (q 1 i) = false := by
          unfold mayM
          split <;> rfl
        rw [if_pos hm] at this
        rw [if_pos (show oI none = -2 from rfl), if_pos hw]
        exact this
      | some h =>
        have hh := res_lt er
        have hk8 := (cw.2.2.2.2.2.1 h hh).1
        have hw : wrE d tx ps ls q i = !(mayM (vk d h) (q 1 i)) := by
          unfold wrE
          rw [er]
        have := j65 (vk d h) (by omega)
        rw [er] at this
        rw [show oI (some h) = nI h from rfl, if_neg (ln_m2 (by omega)), nI_add, ck_nI (by omega) (by omega), a3 h hh, hw]
        rw [show oI (some h) = nI h from rfl] at this
        cases em : mayM (vk d h) (q 1 i) with
        | true =>
          rw [em, if_neg (by decide)] at this
          rw [if_neg (by decide)]
          exact this
        | false =>
          rw [em, if_pos rfl] at this
          rw [if_pos (by decide)]
          exact this
    obtain ⟨t1, n1, n2, n3⟩ := wr
    have L1 := MkS.mf (MFm.nm (v := v) n3) h'
    -- the first one counts
    have st : ∃ τ2, f_X9_judge_104 (f_X9_judge_2 m) t1 (nI v) (nI i) (nI (40 * v + q 0 i)) (oI (resE d tx ps ls q i)) = f_X9_judge_2 m τ2 (nI v) (nI (i + 1)) ∧ MFm v t1 τ2 ∧ (∀ f i, gi τ2 f i = gi t1 f i) ∧ (∀ j, j < vn d → ga τ2 1 7 (40 * v + j) = oI (cpE d tx ps ls q (i + 1) 4 j) ∧ ga τ2 1 8 (40 * v + j) = oI (cpE d tx ps ls q (i + 1) 6 j)) := by
      have mf := m_isFirst cw hK L1 hi'
      have g1' : ga t1 1 18 i = nI (q 1 i) := L1.2.2.2.1 i hi' 1 (by omega)
      have h0' : ∀ j, j < vn d → ga t1 1 7 (40 * v + j) = oI (cpE d tx ps ls q i 4 j) ∧ ga t1 1 8 (40 * v + j) = oI (cpE d tx ps ls q i 6 j) := fun j hj => by
        rw [n3.2, n3.2]
        exact h0 j hj
      unfold f_X9_judge_104 f_X9_judge_149 f_X9_judge_133
      rw [mf, cl_mk, mf, cl_mk]
      dsimp only
      rw [nI_1]
      cases ef : isF1 q i with
      | false =>
        rw [if_pos (show bI false = 0 from rfl), if_pos (show bI false = 0 from rfl)]
        refine ⟨t1, rfl, MFm.refl' v t1, fun _ _ => rfl, fun j hj => ?_⟩
        rw [cp_step, cp_step, if_neg (fun h => by rw [ef] at h; cases h.1), if_neg (fun h => by rw [ef] at h; cases h.1)]
        exact h0' j hj
      | true =>
        rw [if_neg (show ¬ bI true = 0 from i10), if_neg (show ¬ bI true = 0 from i10), ck_nI (by omega) (by omega), g1', ck_nI hg (by omega), ck_nI hg (by omega)]
        simp only [bnd]
        by_cases o4 : q 1 i = 4
        · rw [if_pos (show nI (q 1 i) = (4 : Int32) by rw [o4]; rfl)]
          refine ⟨_, rfl, MFm.s (by omega) (by omega) _ _, fun _ _ => rfl, fun j hj => ?_⟩
          rw [cp_step, cp_step, if_neg (show ¬ (isF1 q i = true ∧ q 0 i = j ∧ q 1 i = 6) from fun h => by omega)]
          by_cases ej : q 0 i = j
          · subst ej
            rw [a1_get, a1_oth (by omega), if_pos ⟨ef, rfl, o4⟩, (h0' _ hj).2]
            exact ⟨rfl, rfl⟩
          · rw [a1_oth (by omega), a1_oth (by omega), if_neg (fun h => ej h.2.1), (h0' _ hj).1, (h0' _ hj).2]
            exact ⟨rfl, rfl⟩
        · have o6 : q 1 i = 6 := e2.resolve_left o4
          rw [if_neg (show ¬ nI (q 1 i) = (4 : Int32) from fun e => o4 ((ln_eq (b := 4) (by omega) (by omega)).mp e))]
          refine ⟨_, rfl, MFm.s (by omega) (by omega) _ _, fun _ _ => rfl, fun j hj => ?_⟩
          rw [cp_step, cp_step, if_neg (show ¬ (isF1 q i = true ∧ q 0 i = j ∧ q 1 i = 4) from fun h => by omega)]
          by_cases ej : q 0 i = j
          · subst ej
            rw [a1_get, a1_oth (by omega), if_pos ⟨ef, rfl, o6⟩, (h0' _ hj).1]
            exact ⟨rfl, rfl⟩
          · rw [a1_oth (by omega), a1_oth (by omega), if_neg (fun h => ej h.2.1), (h0' _ hj).1, (h0' _ hj).2]
            exact ⟨rfl, rfl⟩
    obtain ⟨t2, s1, s2, s3, s4⟩ := st
    have L2 := MkS.mf s2 L1
    have k2 : KMn t2 (kp d tx ps ls q k (some i)) := by
      unfold KMn
      rw [s3, s3]
      exact n2
    obtain ⟨τ', k', p1, p2, p3, p4, p5, p6⟩ := ih (i + 1) (by omega) t2 _ L2 k2 (kp_kz hz) s4 m (by omega)
    refine ⟨τ', k', by rw [n1, s1, p1], ((MFm.nm n3).trans s2).trans p2, p3, p4, fun x => ?_, p6⟩
    rw [p5 x, kp_le]
    constructor
    · rintro ((h | ⟨i', e1, e2, e3⟩) | ⟨i', e1, e2, e3, e4⟩)
      · exact Or.inl h
      · cases e1
        exact Or.inr ⟨i, Nat.le_refl _, hi', e2, e3⟩
      · exact Or.inr ⟨i', by omega, e2, e3, e4⟩
    · rintro (h | ⟨i', u1, u2, u3, u4⟩)
      · exact Or.inl (Or.inl h)
      · by_cases e : i' = i
        · rw [e] at u3 u4
          exact Or.inl (Or.inr ⟨i, rfl, u3, u4⟩)
        · exact Or.inr ⟨i', by omega, u2, u3, u4⟩
end Jm
