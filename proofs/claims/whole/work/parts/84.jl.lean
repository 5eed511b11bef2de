/-! Judging: the reference's circles, limits of both. -/
section Jl
variable {σ τ σ' τ' : St} {v t : Nat} {d : Vd} {q q' : Nat → Nat → Nat} {tx : List Nat} {c : Nat} {ks ps ls : Nat → Nat}
theorem m_circ_loop (hv : v < 8) (w : TKW tx c ks ps ls) (cw : CW c ks ps t d q) (hK : q 7 2 < 700) (h : MkS v tx c ks ps ls d q τ) {C : Nat → Option Nat} (hc : ∀ j, j < vn d → ga τ 1 7 (40 * v + j) = oI (C j)) (hC : ∀ j c, j < vn d → C j = some c → c < vn d) (k271 : St → Int32 → Int32 → Option (St × Unit)) {i : Nat} (hi : i < q 7 2) : ∀ (r cnt : Nat), cnt + r = 40 → ∀ x : Option Nat, (∀ y, x = some y → y < vn d) → ∀ m, r < m → f_X9_judge_203 k271 m τ (nI v) (nI i) (oI x) (nI cnt) = if cyc C (q 0 i) (r + 1) x = true then (cl (f_X9_note τ 9 (nI (ps (q 4 i)))) fun s32 _ => k271 s32 (nI v) (nI i)) else k271 τ (nI v) (nI i) := by
  have d40 := cw.1.1
  have hcc := w.cc
  obtain ⟨e1, e2, e3, e4, e5, e6, e7, _⟩ := cw.2.2.2.2.2.2.2.2.2.1 i hi
  have g0 : ga τ 1 17 i = nI (q 0 i) := h.2.2.2.1 i hi 0 (by omega)
  have g4 : ga τ 1 21 i = nI (q 4 i) := h.2.2.2.1 i hi 4 (by omega)
  have j244y : f_X9_judge_244 k271 τ (nI v) (nI i) (nI (q 0 i)) = (cl (f_X9_note τ 9 (nI (ps (q 4 i)))) fun s32 _ => k271 s32 (nI v) (nI i)) := by
    unfold f_X9_judge_244
    rw [ck_nI (by omega) (by omega), g0, if_pos rfl, ck_nI (by omega) (by omega), g4, ck_nI (by omega) (by omega), (h.2.2.2.2.1.2.2 (q 4 i) (by omega)).2.1]
  have j244n : ∀ y, ¬ y = nI (q 0 i) → f_X9_judge_244 k271 τ (nI v) (nI i) y = k271 τ (nI v) (nI i) := by
    intro y hy
    unfold f_X9_judge_244
    rw [ck_nI (by omega) (by omega), g0, if_neg hy]
  have nm2 : ¬ oI none = nI (q 0 i) := fun e => ln_m2 (by omega) e.symm
  intro r
  induction r with
  | zero =>
    intro cnt hcnt x hx m hm
    obtain ⟨m, rfl⟩ : ∃ m', m = m' + 1 := ⟨m - 1, by omega⟩
    rw [f_X9_judge_203.eq_2, if_pos (show (40 : Int32) ≤ nI cnt by rw [show cnt = 40 by omega]; decide)]
    cases x with
    | none => rw [j244n _ nm2, if_neg (fun h => by cases h)]
    | some y =>
      have := hx y rfl
      have ec : cyc C (q 0 i) (0 + 1) (some y) = if y = q 0 i then true else false := rfl
      rw [ec]
      by_cases ey : y = q 0 i
      · rw [if_pos ey, if_pos rfl, ey, show oI (some (q 0 i)) = nI (q 0 i) from rfl, j244y]
      · rw [if_neg ey, if_neg (by decide), show oI (some y) = nI y from rfl, j244n _ (fun e => ey ((ln_eq (by omega) (by omega)).mp e))]
  | succ r ih =>
    intro cnt hcnt x hx m hm
    obtain ⟨m, rfl⟩ : ∃ m', m = m' + 1 := ⟨m - 1, by omega⟩
    rw [f_X9_judge_203.eq_2, if_neg (show ¬ (40 : Int32) ≤ nI cnt from nI_ge (b := 40) (by omega) (by omega))]
    cases x with
    | none => rw [if_pos (show oI none = -2 from rfl), j244n _ nm2, if_neg (fun h => by cases h)]
    | some y =>
      have hy := hx y rfl
      rw [show oI (some y) = nI y from rfl, if_neg (ln_m2 (by omega)), ck_nI (by omega) (by omega), g0, show cyc C (q 0 i) (r + 1 + 1) (some y) = (if y = q 0 i then true else cyc C (q 0 i) (r + 1) (C y)) from rfl]
      by_cases ey : y = q 0 i
      · rw [if_pos (by rw [ey]), if_pos ey, if_pos rfl, ey, j244y]
      · rw [if_neg (fun e => ey ((ln_eq (by omega) (by omega)).mp e)), if_neg ey, ln_40, nI_add, ck_nI (by omega) (by omega), hc y hy, nI_1]
        exact ih (cnt + 1) (by omega) (C y) (fun z hz => hC y z hy hz) m (by omega)
theorem m_circles (hv : v < 8) (w : TKW tx c ks ps ls) (cw : CW c ks ps t d q) (hK : q 7 2 < 700) {C : Nat → Option Nat} (hC : ∀ j c, j < vn d → C j = some c → c < vn d) : ∀ (r i : Nat), i + r = q 7 2 → ∀ (τ : St) (k : Nat), MkS v tx c ks ps ls d q τ → (∀ j, j < vn d → ga τ 1 7 (40 * v + j) = oI (C j)) → KMn τ k → kz k → ∀ m, r < m → ∃ τ' k', f_X9_judge_157 m τ (nI v) (nI i) = f_X9_judge_287 fl (sa τ' 1 2 v 40) (nI v) 0 ∧ NM τ τ' ∧ KMn τ' k' ∧ kz k' ∧ (∀ x, k' ≤ x ↔ k ≤ x ∨ ∃ i', i ≤ i' ∧ i' < q 7 2 ∧ q 1 i' = 4 ∧ isF1 q i' = true ∧ cyc C (q 0 i') 41 (C (q 0 i')) = true ∧ 16 * ps (q 4 i') + 9 ≤ x) := by
  have d40 := cw.1.1
  have hcc := w.cc
  have hx := w.2.2.2.2
  intro r
  induction r with
  | zero =>
    intro i hi τ k h hc hk hz m hm
    obtain ⟨m, rfl⟩ : ∃ m', m = m' + 1 := ⟨m - 1, by omega⟩
    refine ⟨τ, k, ?_, NM.refl' τ, hk, hz, fun x => ⟨fun h => Or.inl h, ?_⟩⟩
    · rw [f_X9_judge_157.eq_2, h.2.2.1, if_pos (nI_le (by omega) (by omega)), ck_nI hv (by omega)]
      rfl
    · rintro (h | ⟨i', h1, h2, _⟩)
      · exact h
      · omega
  | succ r ih =>
    intro i hi τ k h hc hk hz m hm
    obtain ⟨m, rfl⟩ : ∃ m', m = m' + 1 := ⟨m - 1, by omega⟩
    have hi' : i < q 7 2 := by omega
    obtain ⟨e1, e2, e3, e4, e5, e6, e7, _⟩ := cw.2.2.2.2.2.2.2.2.2.1 i hi'
    have g0 : ga τ 1 17 i = nI (q 0 i) := h.2.2.2.1 i hi' 0 (by omega)
    have g1 : ga τ 1 18 i = nI (q 1 i) := h.2.2.2.1 i hi' 1 (by omega)
    have hps := w.pp (t := q 4 i) (by omega)
    rw [f_X9_judge_157.eq_2, h.2.2.1, if_neg (nI_ge (by omega) (by omega)), ck_nI (by omega) (by omega), g1]
    -- nothing here
    have skip : ¬ (q 1 i = 4 ∧ isF1 q i = true ∧ cyc C (q 0 i) 41 (C (q 0 i)) = true) → ∃ τ' k', f_X9_judge_271 (f_X9_judge_157 m) τ (nI v) (nI i) = f_X9_judge_287 fl (sa τ' 1 2 v 40) (nI v) 0 ∧ NM τ τ' ∧ KMn τ' k' ∧ kz k' ∧ (∀ x, k' ≤ x ↔ k ≤ x ∨ ∃ i', i ≤ i' ∧ i' < q 7 2 ∧ q 1 i' = 4 ∧ isF1 q i' = true ∧ cyc C (q 0 i') 41 (C (q 0 i')) = true ∧ 16 * ps (q 4 i') + 9 ≤ x) := by
      intro hn
      obtain ⟨τ', k', p1, p2, p3, p4, p5⟩ := ih (i + 1) (by omega) τ k h hc hk hz m (by omega)
      refine ⟨τ', k', ?_, p2, p3, p4, fun x => ?_⟩
      · unfold f_X9_judge_271
        rw [nI_1, p1]
      · rw [p5 x]
        constructor
        · rintro (h | ⟨i', u1, u2⟩)
          · exact Or.inl h
          · exact Or.inr ⟨i', by omega, u2⟩
        · rintro (h | ⟨i', u1, u2, u3, u4, u5, u6⟩)
          · exact Or.inl h
          · by_cases e : i' = i
            · rw [e] at u3 u4 u5
              exact absurd ⟨u3, u4, u5⟩ hn
            · exact Or.inr ⟨i', by omega, u2, u3, u4, u5, u6⟩
    by_cases o4 : q 1 i = 4
    · rw [if_pos (show nI (q 1 i) = (4 : Int32) by rw [o4]; rfl), m_isFirst cw hK h hi', cl_mk]
      cases ef : isF1 q i with
      | false =>
        rw [if_pos (show bI false = 0 from rfl)]
        exact skip (fun h => by rw [ef] at h; cases h.2.1)
      | true =>
        have lp := m_circ_loop hv w cw hK h hc hC (f_X9_judge_271 (f_X9_judge_157 m)) hi' 40 0 (by omega) (C (q 0 i)) (fun y hy => hC _ y e1 hy) fl (by have := fl_big; omega)
        have lp : f_X9_judge_203 (f_X9_judge_271 (f_X9_judge_157 m)) fl τ (nI v) (nI i) (oI (C (q 0 i))) 0 = _ := lp
        rw [if_neg (show ¬ bI true = 0 from i10), ck_nI (by omega) (by omega), g0, ln_40, nI_add, ck_nI (by omega) (by omega), hc _ e1, lp]
        by_cases ey : cyc C (q 0 i) (40 + 1) (C (q 0 i)) = true
        · rw [if_pos ey]
          obtain ⟨s1, n1, n2, n4, n5⟩ := m_note (e := 9) (p := ps (q 4 i)) hk hz (by omega) (by omega) (by omega)
          have n1 : f_X9_note _ 9 (nI (ps (q 4 i))) = _ := n1
          rw [n1, cl_mk]
          have nm : NM τ s1 := ⟨n4, n5⟩
          obtain ⟨τ', k', p1, p2, p3, p4, p5⟩ := ih (i + 1) (by omega) s1 _ (MkS.mf (MFm.nm (v := v) nm) h) (fun j hj => by rw [n5, hc j hj]) n2 (kz_min hz (by omega) (by omega)) m (by omega)
          refine ⟨τ', k', ?_, nm.trans p2, p3, p4, fun x => ?_⟩
          · unfold f_X9_judge_271
            rw [nI_1, p1]
          · rw [p5 x]
            constructor
            · rintro (h | ⟨i', u1, u2⟩)
              · by_cases e : k ≤ x
                · exact Or.inl e
                · exact Or.inr ⟨i, Nat.le_refl _, hi', o4, ef, ey, by omega⟩
              · exact Or.inr ⟨i', by omega, u2⟩
            · rintro (h | ⟨i', u1, u2, u3, u4, u5, u6⟩)
              · exact Or.inl (by omega)
              · by_cases e : i' = i
                · rw [e] at u6
                  exact Or.inl (by omega)
                · exact Or.inr ⟨i', by omega, u2, u3, u4, u5, u6⟩
        · rw [if_neg ey]
          exact skip (fun h => ey h.2.2)
    · rw [if_neg (show ¬ nI (q 1 i) = (4 : Int32) from fun e => o4 ((ln_eq (b := 4) (by omega) (by omega)).mp e))]
      exact skip (fun h => o4 h.1)
/-! limits -/
def nmL (tx : List Nat) (ps ls : Nat → Nat) (q : Nat → Nat → Nat) (i : Nat) : Nat := nvl (wrd tx (ps (q 5 i)) (ls (q 5 i)))
theorem m_limits (hv : v < 8) (w : TKW tx c ks ps ls) (cw : CW c ks ps t d q) (hL : q 7 1 < 700) : ∀ (r i : Nat), i + r = q 7 1 → ∀ (τ : St) (k l : Nat), MkS v tx c ks ps ls d q τ → ga τ 1 2 v = nI l → KMn τ k → kz k → ∀ m, r < m → ∃ τ' k', f_X9_judge_287 m τ (nI v) (nI i) = some (τ', ()) ∧ MFm v τ τ' ∧ (∀ f i, ¬ (f = 1 ∧ i = 2) → ga τ' f i = ga τ f i) ∧ KMn τ' k' ∧ kz k' ∧ (∀ x, k' ≤ x ↔ k ≤ x ∨ ∃ i', i ≤ i' ∧ i' < q 7 1 ∧ (40 < nmL tx ps ls q i' ∨ nmL tx ps ls q i' < vn d) ∧ 16 * ps (q 5 i') + 10 ≤ x) ∧ ga τ' 1 2 v = nI (if r = 0 then l else nmL tx ps ls q (q 7 1 - 1)) := by
  have d40 := cw.1.1
  have hcc := w.cc
  have hx := w.2.2.2.2
  intro r
  induction r with
  | zero =>
    intro i hi τ k l h hl hk hz m hm
    obtain ⟨m, rfl⟩ : ∃ m', m = m' + 1 := ⟨m - 1, by omega⟩
    refine ⟨τ, k, ?_, MFm.refl' v τ, fun _ _ _ => rfl, hk, hz, fun x => ⟨fun h => Or.inl h, ?_⟩, by rw [if_pos rfl]; exact hl⟩
    · rw [f_X9_judge_287.eq_2, h.2.2.2.2.2.1, if_pos (nI_le (by omega) (by omega))]
    · rintro (h | ⟨i', h1, h2, _⟩)
      · exact h
      · omega
  | succ r ih =>
    intro i hi τ k l h hl hk hz m hm
    obtain ⟨m, rfl⟩ : ∃ m', m = m' + 1 := ⟨m - 1, by omega⟩
    have hi' : i < q 7 1 := by omega
    obtain ⟨z1, z2, _⟩ := cw.2.2.2.2.2.2.2.2.2.2 i hi'
    have hps := w.pp (t := q 5 i) (by omega)
    have hT := h.2.2.2.2.1
    have nl := num_lt w z1 z2
    have en : nvl (wrd tx (ps (q 5 i)) (ls (q 5 i))) = nmL tx ps ls q i := rfl
    rw [en] at nl
    rw [f_X9_judge_287.eq_2, h.2.2.2.2.2.1, if_neg (nI_ge (by omega) (by omega)), ck_nI (by omega) (by omega), h.2.2.2.2.2.2 i hi', m_num hT w z1 z2, cl_mk, en, ck_nI hv (by omega), h.1.1]
    have fin : ∀ (s : St) (k1 : Nat), NM τ s → KMn s k1 → kz k1 → (∀ x, k1 ≤ x ↔ k ≤ x ∨ ((40 < nmL tx ps ls q i ∨ nmL tx ps ls q i < vn d) ∧ 16 * ps (q 5 i) + 10 ≤ x)) → ∃ τ' k', f_X9_judge_339 (f_X9_judge_287 m) s (nI v) (nI i) (nI (nmL tx ps ls q i)) = some (τ', ()) ∧ MFm v τ τ' ∧ (∀ f i, ¬ (f = 1 ∧ i = 2) → ga τ' f i = ga τ f i) ∧ KMn τ' k' ∧ kz k' ∧ (∀ x, k' ≤ x ↔ k ≤ x ∨ ∃ i', i ≤ i' ∧ i' < q 7 1 ∧ (40 < nmL tx ps ls q i' ∨ nmL tx ps ls q i' < vn d) ∧ 16 * ps (q 5 i') + 10 ≤ x) ∧ ga τ' 1 2 v = nI (if r + 1 = 0 then l else nmL tx ps ls q (q 7 1 - 1)) := by
      intro s k1 nm hk1 hz1 hx1
      unfold f_X9_judge_339
      rw [ck_nI hv (by omega), nI_1]
      simp only [bnd]
      have mf : MFm v τ (sa s 1 2 v (nI (nmL tx ps ls q i))) := (MFm.nm nm).trans (MFm.s2 _ _)
      obtain ⟨τ', k', p1, p2, p2', p3, p4, p5, p6⟩ := ih (i + 1) (by omega) (sa s 1 2 v (nI (nmL tx ps ls q i))) k1 (nmL tx ps ls q i) (MkS.mf mf h) a1_get hk1 hz1 m (by omega)
      refine ⟨τ', k', p1, mf.trans p2, fun f i' hh => ?_, p3, p4, fun x => ?_, ?_⟩
      · rw [p2' f i' hh]
        simp only [gi_si, gi_sr, gi_sg, gi_sa, gr_si, rr_sr, gr_sg, gr_sa, ga_si, ga_sr, ga_sg, ga_sa, true_and, and_true, false_and, and_false, Nat.reduceEqDiff, ↓reduceIte]
        rw [if_neg hh, nm.2]
      · rw [p5 x, hx1 x]
        constructor
        · rintro ((h | ⟨u1, u2⟩) | ⟨i', u1, u2⟩)
          · exact Or.inl h
          · exact Or.inr ⟨i, Nat.le_refl _, hi', u1, u2⟩
          · exact Or.inr ⟨i', by omega, u2⟩
        · rintro (h | ⟨i', u1, u2, u3, u4⟩)
          · exact Or.inl (Or.inl h)
          · by_cases e : i' = i
            · rw [e] at u3 u4
              exact Or.inl (Or.inr ⟨u3, u4⟩)
            · exact Or.inr ⟨i', by omega, u2, u3, u4⟩
      · rw [p6, if_neg (show ¬ r + 1 = 0 by omega)]
        by_cases e : r = 0
        · rw [if_pos e]
          congr 2
          omega
        · rw [if_neg e]
    have bad : (40 < nmL tx ps ls q i ∨ nmL tx ps ls q i < vn d) → ∃ τ' k', f_X9_judge_322 (f_X9_judge_339 (f_X9_judge_287 m)) τ (nI v) (nI i) (nI (nmL tx ps ls q i)) = some (τ', ()) ∧ MFm v τ τ' ∧ (∀ f i, ¬ (f = 1 ∧ i = 2) → ga τ' f i = ga τ f i) ∧ KMn τ' k' ∧ kz k' ∧ (∀ x, k' ≤ x ↔ k ≤ x ∨ ∃ i', i ≤ i' ∧ i' < q 7 1 ∧ (40 < nmL tx ps ls q i' ∨ nmL tx ps ls q i' < vn d) ∧ 16 * ps (q 5 i') + 10 ≤ x) ∧ ga τ' 1 2 v = nI (if r + 1 = 0 then l else nmL tx ps ls q (q 7 1 - 1)) := by
      intro hb
      unfold f_X9_judge_322
      rw [ck_nI (by omega) (by omega), h.2.2.2.2.2.2 i hi', ck_nI (by omega) (by omega), (hT.2.2 (q 5 i) (by omega)).2.1]
      obtain ⟨s1, n1, n2, n4, n5⟩ := m_note (e := 10) (p := ps (q 5 i)) hk hz (by omega) (by omega) (by omega)
      have n1 : f_X9_note _ 10 (nI (ps (q 5 i))) = _ := n1
      rw [n1, cl_mk]
      refine fin s1 _ ⟨n4, n5⟩ n2 (kz_min hz (by omega) (by omega)) (fun x => ?_)
      constructor
      · intro hh
        by_cases e : k ≤ x
        · exact Or.inl e
        · exact Or.inr ⟨hb, by omega⟩
      · rintro (h | ⟨_, h⟩) <;> omega
    by_cases c40 : 40 < nmL tx ps ls q i
    · rw [if_pos (show (40 : Int32) < nI (nmL tx ps ls q i) from (ln_lt (a := 40) (by omega) (by omega)).mpr c40)]
      exact bad (Or.inl c40)
    · rw [if_neg (show ¬ (40 : Int32) < nI (nmL tx ps ls q i) from fun e => c40 ((ln_lt (a := 40) (by omega) (by omega)).mp e))]
      by_cases cn : vn d ≤ nmL tx ps ls q i
      · rw [if_pos (nI_le cn (by omega))]
        refine fin τ k (NM.refl' τ) hk hz (fun x => ⟨fun h => Or.inl h, ?_⟩)
        rintro (h | ⟨h, _⟩)
        · exact h
        · omega
      · rw [if_neg (nI_ge (by omega) (by omega))]
        exact bad (Or.inr (by omega))
theorem x_limit (hv : v < 8) (w : TKW tx c ks ps ls) (cw : CW c ks ps t d q) (h : LkS v tx c ks ps ls d q σ) (h5 : gi σ 605 v = nI 40) {k : Nat} (hk : KXn σ k) (hz : kz k) : ∃ σ' k', f_X5_lookAtLimit σ = some (σ', ()) ∧ σ'.2.1 = σ.2.1 ∧ (∀ f i, ¬ (f = 415 ∨ f = 416) → ¬ (f = 605 ∧ i = v) → gi σ' f i = gi σ f i) ∧ (∀ f i, ga σ' f i = ga σ f i) ∧ KXn σ' k' ∧ kz k' ∧ (∀ x, k' ≤ x ↔ k ≤ x ∨ (q 7 1 ≠ 0 ∧ (40 < nmL tx ps ls q 0 ∨ nmL tx ps ls q 0 < vn d) ∧ 16 * ps (q 5 0) + 10 ≤ x)) ∧ gi σ' 605 v = nI (if q 7 1 = 0 then 40 else nmL tx ps ls q 0) := by
  have d40 := cw.1.1
  have hcc := w.cc
  have hx := w.2.2.2.2
  unfold f_X5_lookAtLimit
  rw [h.2.2.2.2.2]
  unfold lmq
  by_cases e : q 7 1 = 0
  · rw [if_pos e, if_neg (show ¬ (0 : Int32) ≤ oI none by decide), if_pos e]
    exact ⟨σ, k, rfl, rfl, fun _ _ _ _ => rfl, fun _ _ => rfl, hk, hz, fun x => ⟨fun h => Or.inl h, fun h => h.elim id (fun h => absurd e h.1)⟩, h5⟩
  · obtain ⟨z1, z2, _⟩ := cw.2.2.2.2.2.2.2.2.2.2 0 (by omega)
    have hps := w.pp (t := q 5 0) (by omega)
    have nl := num_lt w z1 z2
    have en : nvl (wrd tx (ps (q 5 0)) (ls (q 5 0))) = nmL tx ps ls q 0 := rfl
    rw [en] at nl
    rw [if_neg e, if_neg e, show oI (some (q 5 0)) = nI (q 5 0) from rfl, if_pos (nI_pos' (by omega)), x_num h.2.2.2.2.1 w z1 z2, cl_mk, h.1, en]
    simp only [bnd]
    rw [show gr (si σ 605 v (nI (nmL tx ps ls q 0))) 2 0 = v from h.1, show gi (si σ 605 v (nI (nmL tx ps ls q 0))) 605 v = nI (nmL tx ps ls q 0) by simp only [gi_si, gi_sr, gi_sg, gi_sa, gr_si, rr_sr, gr_sg, gr_sa, ga_si, ga_sr, ga_sg, ga_sa, true_and, and_true, false_and, and_false, Nat.reduceEqDiff, ↓reduceIte], show gi (si σ 605 v (nI (nmL tx ps ls q 0))) 603 v = nI (vn d) by simp only [gi_si, gi_sr, gi_sg, gi_sa, gr_si, rr_sr, gr_sg, gr_sa, ga_si, ga_sr, ga_sg, ga_sa, true_and, and_true, false_and, and_false, Nat.reduceEqDiff, ↓reduceIte]; exact h.2.1]
    have k1 : KXn (si σ 605 v (nI (nmL tx ps ls q 0))) k := by
      unfold KXn
      simp only [gi_si, gi_sr, gi_sg, gi_sa, gr_si, rr_sr, gr_sg, gr_sa, ga_si, ga_sr, ga_sg, ga_sa, true_and, and_true, false_and, and_false, Nat.reduceEqDiff, ↓reduceIte]
      exact hk
    have gi1 : ∀ f i, ¬ (f = 605 ∧ i = v) → gi (si σ 605 v (nI (nmL tx ps ls q 0))) f i = gi σ f i := fun f i hh => by
      simp only [gi_si, gi_sr, gi_sg, gi_sa, gr_si, rr_sr, gr_sg, gr_sa, ga_si, ga_sr, ga_sg, ga_sa, true_and, and_true, false_and, and_false, Nat.reduceEqDiff, ↓reduceIte]
      rw [if_neg hh]
    have bad : (40 < nmL tx ps ls q 0 ∨ nmL tx ps ls q 0 < vn d) → ∃ σ' k', f_X5_lookAtLimit_55 (si σ 605 v (nI (nmL tx ps ls q 0))) = some (σ', ()) ∧ σ'.2.1 = σ.2.1 ∧ (∀ f i, ¬ (f = 415 ∨ f = 416) → ¬ (f = 605 ∧ i = v) → gi σ' f i = gi σ f i) ∧ (∀ f i, ga σ' f i = ga σ f i) ∧ KXn σ' k' ∧ kz k' ∧ (∀ x, k' ≤ x ↔ k ≤ x ∨ (q 7 1 ≠ 0 ∧ (40 < nmL tx ps ls q 0 ∨ nmL tx ps ls q 0 < vn d) ∧ 16 * ps (q 5 0) + 10 ≤ x)) ∧ gi σ' 605 v = nI (nmL tx ps ls q 0) := by
      intro hb
      have X1 : TKX (si σ 605 v (nI (nmL tx ps ls q 0))) tx c ks ps ls := (QX.s6 (v := v) (f := 605) (by omega) σ _).tkx hv h.2.2.2.2.1
      unfold f_X5_lookAtLimit_55
      rw [gi1 _ _ (by omega), h.2.2.2.2.2]
      unfold lmq
      rw [if_neg e, show oI (some (q 5 0)) = nI (q 5 0) from rfl, x_place X1 w (by omega), cl_mk]
      obtain ⟨s1, n1, n2, n3, n4, n5⟩ := x_blame (e := 10) (p := ps (q 5 0)) k1 hz (by omega) (by omega) (by omega)
      have n1 : f_X5_blame _ 10 (nI (ps (q 5 0))) = _ := n1
      rw [n1, cl_mk]
      refine ⟨s1, _, rfl, n3, fun f i h1 h2 => by rw [n4 f i h1, gi1 f i h2], fun f i => n5 f i, n2, kz_min hz (by omega) (by omega), fun x => ?_, ?_⟩
      · constructor
        · intro hh
          by_cases e' : k ≤ x
          · exact Or.inl e'
          · exact Or.inr ⟨e, hb, by omega⟩
        · rintro (h | ⟨_, _, h⟩) <;> omega
      · rw [n4 _ _ (by omega)]
        simp only [gi_si, gi_sr, gi_sg, gi_sa, gr_si, rr_sr, gr_sg, gr_sa, ga_si, ga_sr, ga_sg, ga_sa, true_and, and_true, false_and, and_false, Nat.reduceEqDiff, ↓reduceIte]
    by_cases c40 : 40 < nmL tx ps ls q 0
    · rw [if_pos (show (40 : Int32) < nI (nmL tx ps ls q 0) from (ln_lt (a := 40) (by omega) (by omega)).mpr c40)]
      exact bad (Or.inl c40)
    · rw [if_neg (show ¬ (40 : Int32) < nI (nmL tx ps ls q 0) from fun e => c40 ((ln_lt (a := 40) (by omega) (by omega)).mp e))]
      by_cases cn : vn d ≤ nmL tx ps ls q 0
      · rw [if_pos (nI_le cn (by omega))]
        refine ⟨_, k, rfl, rfl, fun f i _ h2 => gi1 f i h2, fun _ _ => rfl, k1, hz, fun x => ⟨fun h => Or.inl h, ?_⟩, by simp only [gi_si, gi_sr, gi_sg, gi_sa, gr_si, rr_sr, gr_sg, gr_sa, ga_si, ga_sr, ga_sg, ga_sa, true_and, and_true, false_and, and_false, Nat.reduceEqDiff, ↓reduceIte]⟩
        rintro (h | ⟨_, h, _⟩)
        · exact h
        · omega
      · rw [if_neg (nI_ge (by omega) (by omega))]
        exact bad (Or.inr (by omega))
end Jl
