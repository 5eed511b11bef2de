/-! Reading: a field's name and kind. -/
section R5
variable {σ τ σ' τ' : St} {v t : Nat} {d : Vd} {q : Nat → Nat → Nat} {tx : List Nat} {c : Nat} {ks ps ls : Nat → Nat}
theorem xst_1 (h : gi σ 409 0 = 1) (x : Int32) : f_X5_step σ x = f_X5_expect σ x 58 2 := by
  unfold f_X5_step
  simp only [bnd]
  rw [h, if_neg (by decide), if_pos rfl, cl_id]
theorem xst_2 (h : gi σ 409 0 = 2) (x : Int32) : f_X5_step σ x = f_X5_stepKind σ x := by
  unfold f_X5_step
  simp only [bnd]
  rw [h, if_neg (by decide), if_neg (by decide), if_pos rfl, cl_id]
theorem xst_3 (h : gi σ 409 0 = 3) (x : Int32) : f_X5_step σ x = f_X5_stepBehindKind σ x := by
  unfold f_X5_step
  simp only [bnd]
  rw [h, if_neg (by decide), if_neg (by decide), if_neg (by decide), if_pos rfl, cl_id]
theorem xst_4 (h : gi σ 409 0 = 4) (x : Int32) : f_X5_step σ x = f_X5_stepOption σ x := by
  unfold f_X5_step
  simp only [bnd]
  rw [h, if_neg (by decide), if_neg (by decide), if_neg (by decide), if_neg (by decide), if_pos rfl, cl_id]
theorem xst_5 (h : gi σ 409 0 = 5) (x : Int32) : f_X5_step σ x = f_X5_expect σ x 61 6 := by
  unfold f_X5_step
  simp only [bnd]
  rw [h, if_neg (by decide), if_neg (by decide), if_neg (by decide), if_neg (by decide), if_neg (by decide), if_pos rfl, cl_id]
theorem xst_6 (h : gi σ 409 0 = 6) (x : Int32) : f_X5_step σ x = f_X5_stepValue σ x := by
  unfold f_X5_step
  simp only [bnd]
  rw [h, if_neg (by decide), if_neg (by decide), if_neg (by decide), if_neg (by decide), if_neg (by decide), if_neg (by decide), if_pos rfl, cl_id]
theorem xst_7 (h : gi σ 409 0 = 7) (x : Int32) : f_X5_step σ x = f_X5_stepBehindValue σ x := by
  unfold f_X5_step
  simp only [bnd]
  rw [h, if_neg (by decide), if_neg (by decide), if_neg (by decide), if_neg (by decide), if_neg (by decide), if_neg (by decide), if_neg (by decide), if_pos rfl, cl_id]
theorem xst_8 (h : gi σ 409 0 = 8) (x : Int32) : f_X5_step σ x = f_X5_expect σ x 1 9 := by
  unfold f_X5_step
  simp only [bnd]
  rw [h, if_neg (by decide), if_neg (by decide), if_neg (by decide), if_neg (by decide), if_neg (by decide), if_neg (by decide), if_neg (by decide), if_neg (by decide), if_pos rfl, cl_id]
theorem xst_9 (h : gi σ 409 0 = 9) (x : Int32) : f_X5_step σ x = f_X5_stepInPath σ x := by
  unfold f_X5_step
  simp only [bnd]
  rw [h, if_neg (by decide), if_neg (by decide), if_neg (by decide), if_neg (by decide), if_neg (by decide), if_neg (by decide), if_neg (by decide), if_neg (by decide), if_neg (by decide), if_pos rfl, cl_id]
theorem xst_10 (h : gi σ 409 0 = 10) (x : Int32) : f_X5_step σ x = f_X5_stepHeadEnd σ x := by
  unfold f_X5_step
  simp only [bnd]
  rw [h, if_neg (by decide), if_neg (by decide), if_neg (by decide), if_neg (by decide), if_neg (by decide), if_neg (by decide), if_neg (by decide), if_neg (by decide), if_neg (by decide), if_neg (by decide), if_pos rfl, cl_id]
theorem xst_11 (h : gi σ 409 0 = 11) (x : Int32) : f_X5_step σ x = f_X5_stepPattern σ x := by
  unfold f_X5_step
  simp only [bnd]
  rw [h, if_neg (by decide), if_neg (by decide), if_neg (by decide), if_neg (by decide), if_neg (by decide), if_neg (by decide), if_neg (by decide), if_neg (by decide), if_neg (by decide), if_neg (by decide), if_neg (by decide), if_pos rfl, cl_id]
theorem xst_12 (h : gi σ 409 0 = 12) (x : Int32) : f_X5_step σ x = f_X5_stepBehindHead σ x := by
  unfold f_X5_step
  simp only [bnd]
  rw [h, if_neg (by decide), if_neg (by decide), if_neg (by decide), if_neg (by decide), if_neg (by decide), if_neg (by decide), if_neg (by decide), if_neg (by decide), if_neg (by decide), if_neg (by decide), if_neg (by decide), if_neg (by decide), if_pos rfl, cl_id]
theorem xst_13 (h : gi σ 409 0 = 13) (x : Int32) : f_X5_step σ x = f_X5_stepBehindStar σ x := by
  unfold f_X5_step
  simp only [bnd]
  rw [h, if_neg (by decide), if_neg (by decide), if_neg (by decide), if_neg (by decide), if_neg (by decide), if_neg (by decide), if_neg (by decide), if_neg (by decide), if_neg (by decide), if_neg (by decide), if_neg (by decide), if_neg (by decide), if_neg (by decide), if_pos rfl, cl_id]
theorem xst_14 (h : gi σ 409 0 = 14) (x : Int32) : f_X5_step σ x = f_X5_expect σ x 58 15 := by
  unfold f_X5_step
  simp only [bnd]
  rw [h, if_neg (by decide), if_neg (by decide), if_neg (by decide), if_neg (by decide), if_neg (by decide), if_neg (by decide), if_neg (by decide), if_neg (by decide), if_neg (by decide), if_neg (by decide), if_neg (by decide), if_neg (by decide), if_neg (by decide), if_neg (by decide), if_pos rfl, cl_id]
theorem xst_15 (h : gi σ 409 0 = 15) (x : Int32) : f_X5_step σ x = f_X5_stepRuleKind σ x := by
  unfold f_X5_step
  simp only [bnd]
  rw [h, if_neg (by decide), if_neg (by decide), if_neg (by decide), if_neg (by decide), if_neg (by decide), if_neg (by decide), if_neg (by decide), if_neg (by decide), if_neg (by decide), if_neg (by decide), if_neg (by decide), if_neg (by decide), if_neg (by decide), if_neg (by decide), if_neg (by decide), if_pos rfl, cl_id]
theorem xst_16 (h : gi σ 409 0 = 16) (x : Int32) : f_X5_step σ x = f_X5_stepLimitNumber σ x := by
  unfold f_X5_step
  simp only [bnd]
  rw [h, if_neg (by decide), if_neg (by decide), if_neg (by decide), if_neg (by decide), if_neg (by decide), if_neg (by decide), if_neg (by decide), if_neg (by decide), if_neg (by decide), if_neg (by decide), if_neg (by decide), if_neg (by decide), if_neg (by decide), if_neg (by decide), if_neg (by decide), if_neg (by decide), if_pos rfl, cl_id]
theorem xst_17 (h : gi σ 409 0 = 17) (x : Int32) : f_X5_step σ x = f_X5_expect σ x 59 0 := by
  unfold f_X5_step
  simp only [bnd]
  rw [h, if_neg (by decide), if_neg (by decide), if_neg (by decide), if_neg (by decide), if_neg (by decide), if_neg (by decide), if_neg (by decide), if_neg (by decide), if_neg (by decide), if_neg (by decide), if_neg (by decide), if_neg (by decide), if_neg (by decide), if_neg (by decide), if_neg (by decide), if_neg (by decide), if_neg (by decide), cl_id]
theorem n409 {k : Int32} (h : gi σ 409 0 = k) (hk : k ≠ 0) : ¬ gi σ 409 0 = 0 := by rw [h]; exact hk
theorem x_exp_ok {k : Nat} (hX : TKX σ tx c ks ps ls) (w : TKW tx c ks ps ls) (ht : t ≤ c) (hk : ks t = k) (s : Int32) : f_X5_expect σ (nI t) (nI k) s = some (si σ 409 0 s, 0) := by
  unfold f_X5_expect
  rw [x_kind hX w ht, cl_mk, hk, if_pos rfl]
  rfl
theorem x_exp_no {k : Nat} (hX : TKX σ tx c ks ps ls) (w : TKW tx c ks ps ls) (ht : t ≤ c) (hk : ks t ≠ k) (hkk : k < 1000) (s : Int32) : f_X5_expect σ (nI t) (nI k) s = some (σ, 2) := by
  have := w.kk ht
  unfold f_X5_expect
  rw [x_kind hX w ht, cl_mk, if_neg (fun e => hk ((ln_eq (by omega) (by omega)).mp e))]
/-- is it a field's name -/
def isFN (tx : List Nat) (ks ps ls : Nat → Nat) (t : Nat) : Prop := ks t = 1 ∧ sw 0 ≠ wrd tx (ps t) (ls t) ∧ sw 1 ≠ wrd tx (ps t) (ls t)
theorem x_isFN (hX : TKX σ tx c ks ps ls) (w : TKW tx c ks ps ls) (ht : t ≤ c) : (isFN tx ks ps ls t → f_X5_isFieldName σ (nI t) = some (σ, 1)) ∧ (¬ isFN tx ks ps ls t → f_X5_isFieldName σ (nI t) = some (σ, 0)) := by
  have hk := w.kk ht
  unfold f_X5_isFieldName
  rw [x_kind hX w ht, cl_mk, x_word hX w ht (by decide)]
  unfold isFN
  by_cases c1 : ks t = 1
  · rw [c1, if_pos (show nI 1 = 1 from rfl), cl_mk]
    by_cases c2 : sw 0 = wrd tx (ps t) (ls t)
    · rw [bI_yes ⟨rfl, c2⟩, if_neg i10]
      exact ⟨fun h => absurd c2 h.2.1, fun _ => rfl⟩
    · rw [bI_no (fun h => c2 h.2), if_pos rfl, x_word hX w ht (by decide), cl_mk]
      rw [c1]
      by_cases c3 : sw 1 = wrd tx (ps t) (ls t)
      · rw [bI_yes ⟨rfl, c3⟩, if_neg i10]
        exact ⟨fun h => absurd c3 h.2.2, fun _ => rfl⟩
      · rw [bI_no (fun h => c3 h.2), if_pos rfl]
        exact ⟨fun _ => rfl, fun h => absurd ⟨rfl, c2, c3⟩ h⟩
  · rw [if_neg (show ¬ nI (ks t) = (1 : Int32) from fun e => c1 ((ln_eq (b := 1) (by omega) (by omega)).mp e))]
    exact ⟨fun h => absurd h.1 c1, fun _ => rfl⟩
theorem xst_0 (h : gi σ 409 0 = 0) (hX : TKX σ tx c ks ps ls) (w : TKW tx c ks ps ls) (ht : t ≤ c) : (isFN tx ks ps ls t → f_X5_step σ (nI t) = f_X5_stepFieldName σ (nI t)) ∧ (¬ isFN tx ks ps ls t → f_X5_step σ (nI t) = f_X5_stepItem σ (nI t)) := by
  unfold f_X5_step
  simp only [bnd]
  rw [h, if_pos rfl]
  refine ⟨fun hf => ?_, fun hf => ?_⟩
  · rw [(x_isFN hX w ht).1 hf, cl_mk, if_neg i10, cl_id]
  · rw [(x_isFN hX w ht).2 hf, cl_mk, if_pos rfl, cl_id]
theorem oI_inj {a b : Option Nat} (ha : ∀ x, a = some x → x < 1000) (hb : ∀ x, b = some x → x < 1000) : oI a = oI b ↔ a = b := by
  constructor
  · intro h
    cases a with
    | none =>
      cases b with
      | none => rfl
      | some y => exact absurd h.symm (ln_m2 (by have := hb y rfl; omega))
    | some x =>
      cases b with
      | none => exact absurd h (ln_m2 (by have := ha x rfl; omega))
      | some y =>
        have := ha x rfl
        have := hb y rfl
        rw [(ln_eq (by omega) (by omega)).mp h]
  · rintro rfl
    rfl
/-- is there such a field before -/
def twp (d : Vd) (H : Option Nat) (N : List Nat) (j : Nat) : Bool := decide (oH d j = H ∧ nN d j = N)
theorem x_twice (hv : v < 8) (h40 : vn d < 40) (wt : WT d) (a : VX0 σ v d) (h2 : gr σ 2 0 = v) {g D : Nat} {H : Option Nat} {N P : List Nat} (h3 : gr σ 3 0 = g) (f : gi σ 107 g = oI H) (l : LX σ (5 + 2 * g) P) (hH : (H = none ∧ P = N) ∨ ∃ h, H = some h ∧ h < vn d ∧ P = nP d h ++ 46 :: N) : ∀ (r i : Nat), i + r = vn d → ∀ m, r < m → f_X5_isNameTwice_2 m σ (nI (vn d)) (nI i) = some (σ, bI (fm (twp d H N) r i).isSome) := by
  have pe : ∀ j, j < vn d → oH d j = H → (nP d j = P ↔ nN d j = N) := by
    intro j hj ho
    rcases (wt j hj).2.2 with ⟨b1, _, b2⟩ | ⟨p, b1, b2, _, b3⟩
    · rcases hH with ⟨_, rfl⟩ | ⟨h, e, _⟩
      · rw [b2]
      · rw [b1, e] at ho
        cases ho
    · rcases hH with ⟨e, _⟩ | ⟨h, e, _, e3⟩
      · rw [b2, e] at ho
        cases ho
      · rw [b2, e] at ho
        cases ho
        rw [b3, e3]
        constructor
        · intro hh
          have := List.append_cancel_left hh
          simpa using this
        · intro hh
          rw [hh]
  have hb : ∀ x, H = some x → x < 1000 := by
    intro x hx
    rcases hH with ⟨e, _⟩ | ⟨h, e, hh, _⟩
    · rw [e] at hx
      cases hx
    · rw [e] at hx
      cases hx
      omega
  intro r
  induction r with
  | zero =>
    intro i hi m hm
    obtain ⟨m, rfl⟩ : ∃ m', m = m' + 1 := ⟨m - 1, by omega⟩
    rw [f_X5_isNameTwice_2.eq_2, if_pos (nI_le (by omega) (by omega))]
    rfl
  | succ r ih =>
    intro i hi m hm
    obtain ⟨m, rfl⟩ : ∃ m', m = m' + 1 := ⟨m - 1, by omega⟩
    have fi := a.2.2.2.1 i (by omega)
    have hb' : ∀ x, oH d i = some x → x < 1000 := by
      intro x hx
      rcases (wt i (by omega)).2.2 with ⟨b1, _⟩ | ⟨p, b1, b2, _⟩
      · rw [b1] at hx
        cases hx
      · rw [b2] at hx
        cases hx
        omega
    rw [f_X5_isNameTwice_2.eq_2, if_neg (nI_ge (by omega) (by omega)), ck_nI (by omega) (by omega), h2, h3, fi.1.2.2.2.1, f, lx_same fi.1.2.2.2.2.2.1 l]
    unfold f_X5_isNameTwice_50
    have ih' := ih (i + 1) (by omega) m (by omega)
    rw [nI_1, show fm (twp d H N) (r + 1) i = if twp d H N i = true then some i else fm (twp d H N) r (i + 1) from rfl]
    by_cases c1 : oH d i = H
    · rw [if_pos (by rw [c1]), cl_mk]
      by_cases c2 : nN d i = N
      · rw [bI_yes ((pe i (by omega) c1).mpr c2), if_neg i10, if_pos (show twp d H N i = true from decide_eq_true ⟨c1, c2⟩)]
        rfl
      · rw [bI_no (fun e => c2 ((pe i (by omega) c1).mp e)), if_pos rfl, if_neg (fun e => c2 (of_decide_eq_true e).2)]
        exact ih'
    · rw [if_neg (fun e => c1 ((oI_inj hb' hb).mp e)), if_neg (fun e => c1 (of_decide_eq_true e).1)]
      exact ih'
end R5
