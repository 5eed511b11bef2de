/-! Where the new field stands; the reference's grown version. -/
def inh (d : Vd) (h : Nat) : Nat → Option Nat → Bool
  | 0, _ => false
  | _ + 1, none => false
  | k + 1, some x => if x = h then true else inh d h k (oH d x)
section Gn
variable {σ τ : St} {u v e k0 D0 : Nat} {d : Vd} {N0 P0 : List Nat} {H0 : Option Nat} {s : Nat → Nat}
theorem m_within (hv : v < 8) (hM : VM τ v d) (w : VW d) {h : Nat} (hh : h < 40) : ∀ (k : Nat) (x : Option Nat), (∀ y, x = some y → y < vn d ∧ vd d y < k) → ∀ m, k < m → f_X9_isWithin_3 m τ (nI v) (nI h) (oI x) = some (τ, bI (inh d h k x)) := by
  have w40 : vn d ≤ 40 := Nat.le_trans w.1.1 w.1.2.1
  intro k
  induction k with
  | zero =>
    intro x hx m hm
    obtain ⟨m, rfl⟩ : ∃ m', m = m' + 1 := ⟨m - 1, by omega⟩
    cases x with
    | some y =>
      have := (hx y rfl).2
      omega
    | none =>
      rw [f_X9_isWithin_3.eq_2, if_pos (show oI none = -2 from rfl)]
      unfold f_X9_isWithin_33
      rw [if_neg (show ¬ oI none = nI h from fun e => ln_m2 (by omega) e.symm)]
      rfl
  | succ k ih =>
    intro x hx m hm
    obtain ⟨m, rfl⟩ : ∃ m', m = m' + 1 := ⟨m - 1, by omega⟩
    cases x with
    | none =>
      rw [f_X9_isWithin_3.eq_2, if_pos (show oI none = -2 from rfl)]
      unfold f_X9_isWithin_33
      rw [if_neg (show ¬ oI none = nI h from fun e => ln_m2 (by omega) e.symm)]
      rfl
    | some y =>
      obtain ⟨h1, h2⟩ := hx y rfl
      rw [show oI (some y) = nI y from rfl, f_X9_isWithin_3.eq_2, if_neg (ln_m2 (by omega))]
      unfold inh
      by_cases c : y = h
      · subst c
        rw [if_pos rfl, if_pos rfl]
        unfold f_X9_isWithin_33
        rw [if_pos rfl]
        rfl
      · rw [if_neg (fun e => c ((ln_eq (by omega) (by omega)).mp e)), if_neg c, ln_40, nI_add, ck_nI (by omega) (by omega), (hM.2.2.2.1 y h1).1.2.2.2.1]
        exact ih (oH d y) (fun z hz => by
          rcases (w.2.1 y h1).2.2 with ⟨a, _⟩ | ⟨p, a, b, c, _⟩
          · rw [a] at hz
            cases hz
          · rw [b] at hz
            cases hz
            exact ⟨by omega, by omega⟩) m (by omega)
theorem inh_gt (w : VW d) {h : Nat} : ∀ (k x : Nat), x < vn d → x ≠ h → inh d h k (some x) = true → vd d h < vd d x := by
  intro k
  induction k with
  | zero => intro x _ _ e; cases e
  | succ k ih =>
    intro x hx hne e
    unfold inh at e
    rw [if_neg hne] at e
    rcases (w.2.1 x hx).2.2 with ⟨a, _⟩ | ⟨p, a, b, c, _⟩
    · rw [a] at e
      cases k <;> cases e
    · rw [b] at e
      by_cases ce : p = h
      · subst ce
        omega
      · have := ih p (by omega) ce e
        omega
theorem inh_in (w : VW d) {h : Nat} : ∀ (n x : Nat), x ≤ n → x < vn d → h < x → vd d h < vd d x → (∀ i, h < i → i < x → vd d h < vd d i) → ∀ k, vd d x < k → inh d h k (some x) = true := by
  intro n
  induction n with
  | zero => intro x h1 h2 h3; omega
  | succ n ih =>
    intro x h1 hx h3 h4 h5 k hk
    obtain ⟨k, rfl⟩ : ∃ k', k = k' + 1 := ⟨k - 1, by omega⟩
    unfold inh
    rw [if_neg (by omega)]
    rcases (w.2.1 x hx).2.2 with ⟨a, b, _⟩ | ⟨p, a, b, c, _⟩
    · omega
    · rw [b]
      by_cases ce : p = h
      · subst ce
        obtain ⟨k, rfl⟩ : ∃ k', k = k' + 1 := ⟨k - 1, by omega⟩
        unfold inh
        rw [if_pos rfl]
      · by_cases cl : p < h
        · have := w.2.2.1 x hx p b h cl h3
          omega
        · exact ih p (by omega) (by omega) (by omega) (h5 p (by omega) a) (fun i h6 h7 => h5 i h6 (by omega)) k (by omega)
/-- both find the same place -/
theorem both_end (hv : v < 8) (hX : VX σ v d) (hM : VM τ v d) (w : VW d) {h : Nat} (hh : h < vn d) (k53 : St → Int32 → Int32 → Int32 → Int32 → Int32 → Int32 → Option (St × Unit)) (y3 y4 y5 : Int32) : ∀ (r i : Nat), i + r = vn d → h < i → (∀ j, h < j → j < i → vd d h < vd d j) → ∀ m, r < m → ∃ e, f_X7_endOf_21 m σ v (nI h) (nI i) = some (σ, nI e) ∧ f_X9_grown_25 k53 m τ (nI v) (nI h) y3 y4 y5 (nI i) = k53 τ (nI v) (nI h) y3 y4 y5 (nI e) ∧ PE d (some h) e := by
  have w40 : vn d ≤ 40 := Nat.le_trans w.1.1 w.1.2.1
  intro r
  induction r with
  | zero =>
    intro i hi h1 h2 m hm
    obtain ⟨m, rfl⟩ : ∃ m', m = m' + 1 := ⟨m - 1, by omega⟩
    refine ⟨vn d, ?_, ?_, Or.inr ⟨h, rfl, hh, Nat.le_refl _, fun j a b => h2 j a (by omega), fun a => by omega⟩⟩
    · rw [f_X7_endOf_21.eq_2, hX.1, if_pos (nI_le (by omega) (by omega))]
    · have : i = vn d := by omega
      subst this
      rw [f_X9_grown_25.eq_2, ck_nI (by omega) (by omega), hM.1, if_pos (nI_le (by omega) (by omega))]
  | succ r ih =>
    intro i hi h1 h2 m hm
    obtain ⟨m, rfl⟩ : ∃ m', m = m' + 1 := ⟨m - 1, by omega⟩
    have hi' : i < vn d := by omega
    have d4 := (w.2.1 i hi').2.1
    have d4' := (w.2.1 h hh).2.1
    have g1 : f_X9_isWithin τ (nI v) (nI i) (nI h) = _ := m_within hv hM w (h := h) (by omega) 5 (some i) (fun y hy => by cases hy; exact ⟨hi', by omega⟩) fl (by have := fl_big; omega)
    rw [f_X7_endOf_21.eq_2, hX.1, if_neg (nI_ge (by omega) (by omega)), ck_nI (by omega) (by omega), ck_nI (by omega) (by omega), (hX.2.2.2.1 h hh).1.2.2.2.2.1, (hX.2.2.2.1 i hi').1.2.2.2.2.1, f_X9_grown_25.eq_2, ck_nI (by omega) (by omega), hM.1, if_neg (nI_ge (by omega) (by omega)), g1, cl_mk]
    by_cases c : vd d h < vd d i
    · rw [if_pos ((ln_lt (by omega) (by omega)).mpr c), inh_in w i i (Nat.le_refl _) hi' h1 c h2 5 (by omega), if_neg (show ¬ bI true = 0 from i10), nI_1]
      exact ih (i + 1) (by omega) (by omega) (fun j a b => by
        by_cases e : j = i
        · rw [e]
          exact c
        · exact h2 j a (by omega)) m (by omega)
    · have : inh d h 5 (some i) = false := by
        cases e : inh d h 5 (some i) with
        | false => rfl
        | true => exact absurd (inh_gt w 5 i hi' (by omega) e) c
      rw [if_neg (fun hh' => c ((ln_lt (by omega) (by omega)).mp hh')), this, if_pos (show bI false = 0 from rfl)]
      exact ⟨i, rfl, rfl, Or.inr ⟨h, rfl, h1, by omega, h2, fun _ => by omega⟩⟩
theorem m_growR (hu : u < 8) (hv : v < 8) (huv : u ≠ v) (w : VW d) : ∀ (r i : Nat), i + r = vr d → ∀ (τ : St), VM τ u d → ga τ 1 1 v = nI (vr d) → (∀ r, r < i → RM τ (8 * v + r) (rk d r) (rs d r) (rF d r) (rT d r)) → ∀ m, r < m → ∃ τ', f_X9_grown_266 m τ (nI u) (nI v) (nI i) = some (τ', ()) ∧ DM v τ τ' ∧ (∀ f i x, f = 1 ∧ (i ≤ 10) ∨ f = 2 ∧ i ≤ 4 → ga τ' f i x = ga τ f i x) ∧ (∀ r, r < vr d → RM τ' (8 * v + r) (rk d r) (rs d r) (rF d r) (rT d r)) := by
  have w8 := w.1.2.2
  intro r
  induction r with
  | zero =>
    intro i hi τ a h4 hR m hm
    obtain ⟨m, rfl⟩ : ∃ m', m = m' + 1 := ⟨m - 1, by omega⟩
    refine ⟨τ, ?_, DM.refl' v τ, fun _ _ _ _ => rfl, fun r hr => hR r (by omega)⟩
    rw [f_X9_grown_266.eq_2, ck_nI (by omega) (by omega), h4, if_pos (nI_le (by omega) (by omega))]
  | succ r ih =>
    intro i hi τ a h4 hR m hm
    obtain ⟨m, rfl⟩ : ∃ m', m = m' + 1 := ⟨m - 1, by omega⟩
    have wr := w.2.2.2.2.2.2.1
    obtain ⟨_, s1', f1', t1', _⟩ := wr i (by omega)
    obtain ⟨s1, e1, u1, f1⟩ := m_copyR (g := 8 * v + i) (g0 := 8 * u + i) (by omega) (by omega) (by omega) s1' (Nm.le f1') (Nm.le t1') (a.2.2.2.2 i (by omega))
    have dx := DM.ur (v := v) (by omega) u1
    obtain ⟨τ', k1, k2, k3, k4⟩ := ih (i + 1) (by omega) s1 ((dx.km huv).vm w a) (by rw [u1.2 _ _ _ (by omega), h4]) (fun r hr => by
      by_cases c : r = i
      · subst c
        exact f1
      · obtain ⟨_, _, f2', t2', _⟩ := wr r (by omega)
        exact (hR r (by omega)).ur u1 (by omega) (Nm.le f2') (Nm.le t2')) m (by omega)
    refine ⟨τ', ?_, dx.trans k2, fun f i x h => (k3 f i x h).trans (u1.2 _ _ _ (by omega)), k4⟩
    rw [f_X9_grown_266.eq_2, ck_nI (by omega) (by omega), h4, if_neg (nI_ge (by omega) (by omega)), ln_8, ln_8, nI_add, nI_add, e1, cl_mk, nI_1, k1]
end Gn
