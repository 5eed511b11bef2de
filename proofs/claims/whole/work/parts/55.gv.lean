/-! A version that has grown. -/
def mv (e x : Nat) : Nat := if x < e then x else x + 1
def bk (e j : Nat) : Nat := if j < e then j else j - 1
def gv (d : Vd) (e k0 D0 : Nat) (N0 P0 : List Nat) (H0 : Option Nat) (s : Nat → Nat) : Vd :=
  (fun r j => match r with
    | 0 => if j = e then k0 else vk d (bk e j)
    | 1 => if j = e then 0 else vo d (bk e j)
    | 2 => if j = e then D0 else vd d (bk e j)
    | 3 => rk d j
    | 4 => rs d j
    | 5 => s j
    | _ => match j with
      | 0 => vn d + 1
      | 1 => vr d
      | _ => vl d,
   fun r j => match r with
    | 0 => if j = e then N0 else nN d (bk e j)
    | 1 => if j = e then P0 else nP d (bk e j)
    | 2 => if j = e then [] else nB d (bk e j)
    | 3 => rF d j
    | _ => rT d j,
   fun r j => match r with
    | 0 => if j = e then H0 else (oH d (bk e j)).map (mv e)
    | 1 => if j = e then none else (oC d (bk e j)).map (mv e)
    | 2 => if j = e then none else (oO d (bk e j)).map (mv e)
    | _ => if j = e then none else oZ d (bk e j))
/-- where the new field stands -/
def PE (d : Vd) (H0 : Option Nat) (e : Nat) : Prop := (H0 = none ∧ e = vn d) ∨ ∃ h, H0 = some h ∧ h < e ∧ e ≤ vn d ∧ (∀ i, h < i → i < e → vd d h < vd d i) ∧ (e < vn d → vd d e ≤ vd d h)
section Gv
variable {d : Vd} {e k0 D0 : Nat} {N0 P0 : List Nat} {H0 : Option Nat} {s : Nat → Nat}
theorem bk_mv (x : Nat) : bk e (mv e x) = x ∧ mv e x ≠ e := by
  unfold bk mv
  split
  · exact ⟨rfl, by omega⟩
  · rw [if_neg (by omega)]
    exact ⟨by omega, by omega⟩
theorem mv_bk {j : Nat} (h : j ≠ e) : mv e (bk e j) = j := by
  unfold bk mv
  split
  · rfl
  · rw [if_neg (by omega)]
    omega
theorem mv_lt {x y : Nat} (h : x < y) : mv e x < mv e y := by
  unfold mv
  split <;> split <;> omega
theorem bk_lt {i j : Nat} (hi : i ≠ e) (hj : j ≠ e) (h : i < j) : bk e i < bk e j := by
  unfold bk
  split <;> split <;> omega
theorem bk_b {j n : Nat} (he : e ≤ n) (hj : j ≠ e) (h : j < n + 1) : bk e j < n := by
  unfold bk
  split <;> omega
theorem mv_b {x n : Nat} (h : x < n) : mv e x < n + 1 := by
  unfold mv
  split <;> omega
theorem itC_mv : ∀ (k x : Nat), itC (fun j => if j = e then none else (oC d (bk e j)).map (mv e)) k (mv e x) = (itC (oC d) k x).map (mv e) := by
  intro k
  induction k with
  | zero => exact fun x => rfl
  | succ k ih =>
    intro x
    obtain ⟨b1, b2⟩ := bk_mv (e := e) x
    unfold itC
    rw [if_neg b2, b1]
    cases oC d x with
    | none => rfl
    | some c => exact ih c
theorem itC_none {C : Nat → Option Nat} : ∀ (k x : Nat), itC C k x = none → itC C (k + 1) x = none := by
  intro k
  induction k with
  | zero => exact fun x h => nomatch h
  | succ k ih =>
    intro x h
    unfold itC at h ⊢
    cases c : C x with
    | none => rfl
    | some y =>
      rw [c] at h
      exact ih y h
theorem PE.le (h : PE d H0 e) : e ≤ vn d := by
  rcases h with ⟨_, h⟩ | ⟨_, _, _, h, _⟩ <;> omega
/-- all but the order -/
def W7 (d : Vd) : Prop := WN d ∧ WT d ∧ WP d ∧ WU d ∧ WF d ∧ WA d ∧ WR d
theorem gv_W7 (w : VW d) (hE : PE d H0 e) (hlim : vn d < vl d) (hk : k0 < 8) (hN : Nm N0) (hD : (H0 = none ∧ D0 = 0 ∧ P0 = N0) ∨ ∃ h, H0 = some h ∧ D0 = vd d h + 1 ∧ D0 ≤ 4 ∧ P0 = nP d h ++ 46 :: N0) (hf : fop d P0 = none) : W7 (gv d e k0 D0 N0 P0 H0 s) := by
  obtain ⟨wn, wt, wp, wu, wf, wa, wr, wo⟩ := w
  have he := hE.le
  have P0n : ∀ j, j < vn d → nP d j ≠ P0 := by
    intro j hj h
    have := fm_none _ _ hf j (Nat.zero_le _) (by omega)
    simp [h] at this
  refine ⟨⟨?_, wn.2.1, wn.2.2⟩, fun j hj => ?_, fun j hj h hh i h1 h2 => ?_, fun i j hij hj => ?_, fun j hj => ?_, fun j hj => ?_, wr⟩
  · show vn d + 1 ≤ vl d
    omega
  · -- tree
    have hj : j < vn d + 1 := hj
    by_cases c : j = e
    · subst c
      refine ⟨?_, ?_, ?_⟩
      · show Nm (if j = j then N0 else _)
        rw [if_pos rfl]
        exact hN
      · show (if j = j then D0 else _) ≤ 4
        rw [if_pos rfl]
        rcases hD with ⟨_, h, _⟩ | ⟨_, _, _, h, _⟩ <;> omega
      · show ((if j = j then H0 else _) = none ∧ (if j = j then D0 else _) = 0 ∧ (if j = j then P0 else _) = (if j = j then N0 else _)) ∨ ∃ h, h < j ∧ (if j = j then H0 else _) = some h ∧ (if j = j then D0 else _) = (if h = j then D0 else vd d (bk j h)) + 1 ∧ (if j = j then P0 else _) = (if h = j then P0 else nP d (bk j h)) ++ 46 :: (if j = j then N0 else _)
        simp only [if_true]
        rcases hD with h | ⟨h, h1, h2, h3, h4⟩
        · exact Or.inl h
        · rcases hE with ⟨g1, _⟩ | ⟨g, g1, g2, g3, _⟩
          · rw [g1] at h1
            cases h1
          · rw [h1] at g1
            cases g1
            refine Or.inr ⟨h, g2, h1, ?_, ?_⟩
            · rw [if_neg (by omega)]
              have : bk j h = h := by unfold bk; rw [if_pos g2]
              rw [this, h2]
            · rw [if_neg (by omega)]
              have : bk j h = h := by unfold bk; rw [if_pos g2]
              rw [this, h4]
    · have hb := bk_b he c hj
      obtain ⟨t1, t2, t3⟩ := wt _ hb
      refine ⟨?_, ?_, ?_⟩
      · show Nm (if j = e then N0 else _)
        rw [if_neg c]
        exact t1
      · show (if j = e then D0 else _) ≤ 4
        rw [if_neg c]
        exact t2
      · show ((if j = e then H0 else _) = none ∧ (if j = e then D0 else _) = 0 ∧ (if j = e then P0 else _) = (if j = e then N0 else _)) ∨ ∃ h, h < j ∧ (if j = e then H0 else _) = some h ∧ (if j = e then D0 else _) = (if h = e then D0 else vd d (bk e h)) + 1 ∧ (if j = e then P0 else _) = (if h = e then P0 else nP d (bk e h)) ++ 46 :: (if j = e then N0 else _)
        simp only [c, if_false]
        rcases t3 with ⟨a1, a2, a3⟩ | ⟨h, a1, a2, a3, a4⟩
        · exact Or.inl ⟨by rw [a1]; rfl, a2, a3⟩
        · obtain ⟨b1, b2⟩ := bk_mv (e := e) h
          refine Or.inr ⟨mv e h, ?_, by rw [a2]; rfl, ?_, ?_⟩
          · have := mv_lt (e := e) a1
            rwa [mv_bk c] at this
          · rw [if_neg b2, b1, a3]
          · rw [if_neg b2, b1, a4]
  · -- what is between is within
    have hj : j < vn d + 1 := hj
    have hh : (if j = e then H0 else (oH d (bk e j)).map (mv e)) = some h := hh
    show (if h = e then D0 else vd d (bk e h)) < (if i = e then D0 else vd d (bk e i))
    by_cases c : j = e
    · subst c
      rw [if_pos rfl] at hh
      rcases hE with ⟨g1, _⟩ | ⟨g, g1, g2, g3, g4, g5⟩
      · rw [g1] at hh
        cases hh
      · rw [g1] at hh
        cases hh
        rw [if_neg (by omega), if_neg (by omega)]
        have e1 : bk j h = h := by unfold bk; rw [if_pos g2]
        have e2 : bk j i = i := by unfold bk; rw [if_pos h2]
        rw [e1, e2]
        exact g4 i h1 h2
    · rw [if_neg c] at hh
      have hb := bk_b he c hj
      cases oh : oH d (bk e j) with
      | none =>
        rw [oh] at hh
        cases hh
      | some q =>
        rw [oh] at hh
        have hh : mv e q = h := by simpa using hh
        subst hh
        obtain ⟨b1, b2⟩ := bk_mv (e := e) q
        rw [if_neg b2, b1]
        have hq : q < bk e j := by
          rcases (wt _ hb).2.2 with ⟨a, _⟩ | ⟨p, a, b, _⟩
          · rw [a] at oh
            cases oh
          · rw [b] at oh
            cases oh
            exact a
        by_cases ci : i = e
        · subst ci
          rw [if_pos rfl]
          -- the new field is between
          have q1 : q < i := by
            unfold mv at h1
            split at h1 <;> omega
          have q2 : i ≤ bk i j := by
            unfold bk
            rw [if_neg (by omega)]
            omega
          rcases hE with ⟨g1, g2⟩ | ⟨g, g1, g2, g3, g4, g5⟩
          · omega
          · rcases hD with ⟨x1, _⟩ | ⟨x, x1, x2, x3, _⟩
            · rw [x1] at g1
              cases g1
            · rw [x1] at g1
              cases g1
              have g5 := g5 (by omega)
              by_cases ce : bk i j = i
              · rw [ce] at oh hb
                rcases (wt _ hb).2.2 with ⟨a, _⟩ | ⟨p, a, b, b', _⟩
                · rw [a] at oh
                  cases oh
                · rw [b] at oh
                  cases oh
                  omega
              · have := wp _ hb q oh i q1 (by omega)
                omega
        · rw [if_neg ci]
          have k1 : q < bk e i := by
            have := bk_lt b2 ci h1
            rwa [b1] at this
          exact wp _ hb q oh _ k1 (bk_lt ci c h2)
  · -- no path twice
    have hj : j < vn d + 1 := hj
    show (if i = e then P0 else nP d (bk e i)) ≠ (if j = e then P0 else nP d (bk e j))
    by_cases ci : i = e
    · rw [if_pos ci, if_neg (by omega)]
      exact Ne.symm (P0n _ (bk_b he (by omega) hj))
    · rw [if_neg ci]
      by_cases cj : j = e
      · rw [if_pos cj]
        exact P0n _ (bk_b he ci (by omega))
      · rw [if_neg cj]
        exact wu _ _ (bk_lt ci cj hij) (bk_b he cj hj)
  · -- what a field has
    have hj : j < vn d + 1 := hj
    have hall : ∀ x, j = x → WFj (gv d e k0 D0 N0 P0 H0 s) x := by
      intro x hx
      by_cases c : x = e
      · subst c
        have f0 : vk (gv d x k0 D0 N0 P0 H0 s) x = k0 := if_pos rfl
        have f1 : vo (gv d x k0 D0 N0 P0 H0 s) x = 0 := if_pos rfl
        have f2 : nB (gv d x k0 D0 N0 P0 H0 s) x = [] := if_pos rfl
        have f3 : oC (gv d x k0 D0 N0 P0 H0 s) x = none := if_pos rfl
        have f4 : oO (gv d x k0 D0 N0 P0 H0 s) x = none := if_pos rfl
        have f5 : oZ (gv d x k0 D0 N0 P0 H0 s) x = none := if_pos rfl
        unfold WFj
        rw [f0, f1, f2, f3, f4, f5]
        refine ⟨hk, by omega, Or.inl rfl, fun c h => (by cases h), fun c h => (by cases h), fun c h => (by cases h), ?_, ?_, ?_, ?_, fun _ => rfl⟩
        all_goals simp [bt]
      · have hb := bk_b he c (by omega : x < vn d + 1)
        have f0 : vk (gv d e k0 D0 N0 P0 H0 s) x = vk d (bk e x) := if_neg c
        have f1 : vo (gv d e k0 D0 N0 P0 H0 s) x = vo d (bk e x) := if_neg c
        have f2 : nB (gv d e k0 D0 N0 P0 H0 s) x = nB d (bk e x) := if_neg c
        have f3 : oC (gv d e k0 D0 N0 P0 H0 s) x = (oC d (bk e x)).map (mv e) := if_neg c
        have f4 : oO (gv d e k0 D0 N0 P0 H0 s) x = (oO d (bk e x)).map (mv e) := if_neg c
        have f5 : oZ (gv d e k0 D0 N0 P0 H0 s) x = oZ d (bk e x) := if_neg c
        obtain ⟨z0, z1, z2, z3, z4, z5, z6, z7, z8, z9, z10⟩ := wf _ hb
        unfold WFj
        rw [f0, f1, f2, f3, f4, f5]
        refine ⟨z0, z1, z2, ?_, ?_, z5, z6, ?_, z8, ?_, fun h => by rw [z10 h]; rfl⟩
        · intro c hc
          cases oc : oC d (bk e x) with
          | none =>
            rw [oc] at hc
            cases hc
          | some y =>
            rw [oc] at hc
            have : mv e y = c := by simpa using hc
            rw [← this]
            exact mv_b (z3 y oc)
        · intro c hc
          cases oc : oO d (bk e x) with
          | none =>
            rw [oc] at hc
            cases hc
          | some y =>
            rw [oc] at hc
            have : mv e y = c := by simpa using hc
            rw [← this]
            exact mv_b (z4 y oc)
        · rw [z7]
          cases oC d (bk e x) <;> simp
        · rw [z9]
          cases oO d (bk e x) <;> simp
    exact hall j rfl
  · -- copies end
    have hj : j < vn d + 1 := hj
    show itC (fun j => if j = e then none else (oC d (bk e j)).map (mv e)) (vn d + 1) j = none
    by_cases c : j = e
    · unfold itC
      rw [if_pos c]
    · have := itC_mv (d := d) (e := e) (vn d + 1) (bk e j)
      rw [mv_bk c] at this
      rw [this, itC_none _ _ (wa _ (bk_b he c hj))]
      rfl
end Gv
