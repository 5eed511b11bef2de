/-! Judging: circles, first options, what paths lead to. -/
theorem itC_add {C : Nat → Option Nat} : ∀ (a b x y : Nat), itC C a x = some y → itC C (a + b) x = itC C b y := by
  intro a
  induction a with
  | zero =>
    intro b x y h
    have : x = y := by
      unfold itC at h
      simpa using h
    rw [this, Nat.zero_add]
  | succ a ih =>
    intro b x y h
    rw [show a + 1 + b = (a + b) + 1 by omega]
    have h : (match C x with | none => none | some c => itC C a c) = some y := h
    show (match C x with | none => none | some c => itC C (a + b) c) = _
    cases e : C x with
    | none =>
      rw [e] at h
      cases h
    | some z =>
      rw [e] at h
      exact ih b z y h
theorem itC_pre {C : Nat → Option Nat} : ∀ (a b x : Nat), itC C (a + b) x ≠ none → ∃ y, itC C a x = some y := by
  intro a
  induction a with
  | zero => exact fun b x _ => ⟨x, rfl⟩
  | succ a ih =>
    intro b x h
    rw [show a + 1 + b = (a + b) + 1 by omega] at h
    unfold itC at h ⊢
    cases e : C x with
    | none =>
      rw [e] at h
      exact absurd rfl h
    | some z =>
      rw [e] at h
      exact ih b z h
theorem itC_lt {C : Nat → Option Nat} {n : Nat} (hC : ∀ j c, j < n → C j = some c → c < n) : ∀ (a x y : Nat), x < n → itC C a x = some y → y < n := by
  intro a
  induction a with
  | zero =>
    intro x y hx h
    unfold itC at h
    cases h
    exact hx
  | succ a ih =>
    intro x y hx h
    unfold itC at h
    cases e : C x with
    | none =>
      rw [e] at h
      cases h
    | some z =>
      rw [e] at h
      exact ih z y (hC x z hx e) h
/-- more than fit cannot all differ -/
theorem php : ∀ (n : Nat) (f : Nat → Nat), (∀ i, i ≤ n → f i < n) → ∃ a b, a < b ∧ b ≤ n ∧ f a = f b := by
  intro n
  induction n with
  | zero =>
    intro f h
    exact absurd (h 0 (Nat.le_refl _)) (Nat.not_lt_zero _)
  | succ n ih =>
    intro f h
    by_cases hx : ∃ a, a ≤ n ∧ f a = f (n + 1)
    · obtain ⟨a, h1, h2⟩ := hx
      exact ⟨a, n + 1, by omega, Nat.le_refl _, h2⟩
    · have hne : ∀ a, a ≤ n → f a ≠ f (n + 1) := fun a h1 h2 => hx ⟨a, h1, h2⟩
      obtain ⟨a, b, h1, h2, h3⟩ := ih (fun i => if f i = n then f (n + 1) else f i) (fun i hi => by
        have g1 := h i (by omega)
        have g2 := h (n + 1) (Nat.le_refl _)
        have g3 := hne i hi
        split <;> omega)
      have g3 := hne a (by omega)
      have g4 := hne b h2
      refine ⟨a, b, h1, by omega, ?_⟩
      split at h3 <;> split at h3 <;> omega
/-- does it come back to s in so many steps -/
def cyc (C : Nat → Option Nat) (s : Nat) : Nat → Option Nat → Bool
  | 0, _ => false
  | _ + 1, none => false
  | f + 1, some y => if y = s then true else cyc C s f (C y)
theorem cyc_ex {C : Nat → Option Nat} {s : Nat} : ∀ (f y : Nat), cyc C s f (some y) = true → ∃ k, k < f ∧ itC C k y = some s := by
  intro f
  induction f with
  | zero => intro y h; cases h
  | succ f ih =>
    intro y h
    unfold cyc at h
    by_cases e : y = s
    · exact ⟨0, by omega, by rw [e]; rfl⟩
    · rw [if_neg e] at h
      cases ec : C y with
      | none =>
        rw [ec] at h
        cases f <;> cases h
      | some z =>
        rw [ec] at h
        obtain ⟨k, h1, h2⟩ := ih z h
        refine ⟨k + 1, by omega, ?_⟩
        unfold itC
        rw [ec]
        exact h2
theorem cyc_of {C : Nat → Option Nat} {s : Nat} : ∀ (k f y : Nat), k < f → itC C k y = some s → cyc C s f (some y) = true := by
  intro k
  induction k with
  | zero =>
    intro f y h1 h2
    obtain ⟨f, rfl⟩ : ∃ f', f = f' + 1 := ⟨f - 1, by omega⟩
    unfold cyc
    have : y = s := by
      unfold itC at h2
      simpa using h2
    rw [if_pos this]
  | succ k ih =>
    intro f y h1 h2
    obtain ⟨f, rfl⟩ : ∃ f', f = f' + 1 := ⟨f - 1, by omega⟩
    unfold cyc
    by_cases e : y = s
    · rw [if_pos e]
    · rw [if_neg e]
      unfold itC at h2
      cases ec : C y with
      | none =>
        rw [ec] at h2
        cases h2
      | some z =>
        rw [ec] at h2
        exact ih f z (by omega) h2
theorem cyc_iff {C : Nat → Option Nat} {s f : Nat} : cyc C s f (C s) = true ↔ ∃ k, 1 ≤ k ∧ k ≤ f ∧ itC C k s = some s := by
  constructor
  · intro h
    cases e : C s with
    | none =>
      rw [e] at h
      cases f <;> cases h
    | some y =>
      rw [e] at h
      obtain ⟨k, h1, h2⟩ := cyc_ex f y h
      refine ⟨k + 1, by omega, by omega, ?_⟩
      unfold itC
      rw [e]
      exact h2
  · rintro ⟨k, h1, h2, h3⟩
    obtain ⟨k, rfl⟩ : ∃ k', k = k' + 1 := ⟨k - 1, by omega⟩
    unfold itC at h3
    cases e : C s with
    | none =>
      rw [e] at h3
      cases h3
    | some y =>
      rw [e] at h3
      exact cyc_of k f y (by omega) h3
section Jc
variable {C : Nat → Option Nat} {n : Nat}
theorem two_same (hC : ∀ j c, j < n → C j = some c → c < n) {s : Nat} (hs : s < n) (h : itC C n s ≠ none) : ∃ a b x, a < b ∧ b ≤ n ∧ itC C a s = some x ∧ itC C b s = some x := by
  have ex : ∀ i, i ≤ n → ∃ y, itC C i s = some y := fun i hi => itC_pre i (n - i) s (by rw [show i + (n - i) = n by omega]; exact h)
  obtain ⟨a, b, h1, h2, h3⟩ := php n (fun i => (itC C i s).getD 0) (fun i hi => by
    obtain ⟨y, hy⟩ := ex i hi
    rw [hy]
    exact itC_lt hC i s y hs hy)
  obtain ⟨y, hy⟩ := ex a (by omega)
  obtain ⟨z, hz⟩ := ex b h2
  rw [hy, hz] at h3
  have h3 : y = z := h3
  exact ⟨a, b, y, h1, h2, hy, by rw [hz, h3]⟩
theorem short (hC : ∀ j c, j < n → C j = some c → c < n) {s : Nat} (hs : s < n) : ∀ (k : Nat), 1 ≤ k → itC C k s = some s → ∃ k', 1 ≤ k' ∧ k' ≤ n ∧ itC C k' s = some s := by
  intro k
  induction k using Nat.strongRecOn with
  | _ k ih =>
    intro h1 h2
    by_cases hk : k ≤ n
    · exact ⟨k, h1, hk, h2⟩
    · obtain ⟨a, b, x, g1, g2, g3, g4⟩ := two_same hC hs (fun e => by
        obtain ⟨y, hy⟩ := itC_pre n (k - n) s (by rw [show n + (k - n) = k by omega, h2]; exact fun h => by cases h)
        rw [e] at hy
        cases hy)
      have e1 := itC_add b (k - b) s x g4
      have e2 := itC_add a (k - b) s x g3
      rw [show b + (k - b) = k by omega, h2] at e1
      exact ih (a + (k - b)) (by omega) (by omega) (by rw [e2, ← e1])
theorem cyc_same (hC : ∀ j c, j < n → C j = some c → c < n) (hn : n ≤ 41) {s : Nat} (hs : s < n) : cyc C s 41 (C s) = cyc C s n (C s) := by
  have : cyc C s 41 (C s) = true ↔ cyc C s n (C s) = true := by
    rw [cyc_iff, cyc_iff]
    constructor
    · rintro ⟨k, h1, h2, h3⟩
      exact short hC hs k h1 h3
    · rintro ⟨k, h1, h2, h3⟩
      exact ⟨k, h1, by omega, h3⟩
  cases h1 : cyc C s 41 (C s) <;> cases h2 : cyc C s n (C s)
  · rfl
  · rw [h1, h2] at this
    exact absurd (this.mpr rfl) (by decide)
  · rw [h1, h2] at this
    exact absurd (this.mp rfl) (by decide)
  · rfl
theorem no_cyc (hC : ∀ j c, j < n → C j = some c → c < n) (h : ∀ s, s < n → cyc C s n (C s) = false) {j : Nat} (hj : j < n) : itC C n j = none := by
  apply Classical.byContradiction
  intro hne
  obtain ⟨a, b, x, g1, g2, g3, g4⟩ := two_same hC hj hne
  have hx := itC_lt hC a j x hj g3
  have e1 := itC_add a (b - a) j x g3
  rw [show a + (b - a) = b by omega, g4] at e1
  have := cyc_iff (C := C) (s := x) (f := n) |>.mpr ⟨b - a, by omega, by omega, e1.symm⟩
  rw [h x hx] at this
  cases this
end Jc
theorem fm_last {p : Nat → Bool} : ∀ (r a : Nat), fm p (r + 1) a = (match fm p r a with | some x => some x | none => if p (a + r) = true then some (a + r) else none) := by
  intro r
  induction r with
  | zero => intro a; rfl
  | succ r ih =>
    intro a
    rw [fm_s, ih (a + 1), fm_s]
    by_cases e : p a = true
    · rw [if_pos e, if_pos e]
    · rw [if_neg e, if_neg e, show a + 1 + r = a + (r + 1) by omega]
/-- the first such option of a field -/
def feq (q : Nat → Nat → Nat) (j o : Nat) (i : Nat) : Bool := decide (q 0 i = j ∧ q 1 i = o)
def fe (q : Nat → Nat → Nat) (k j o : Nat) : Option Nat := fm (feq q j o) k 0
theorem fe_fst {q : Nat → Nat → Nat} {k j o i : Nat} (h : fe q k j o = some i) : i < k ∧ q 0 i = j ∧ q 1 i = o ∧ fstE q i := by
  obtain ⟨h1, h2, h3, h4⟩ := fm_some _ _ _ h
  obtain ⟨e1, e2⟩ := of_decide_eq_true h3
  refine ⟨by omega, e1, e2, fun i' hi' he => ?_⟩
  have := h4 i' (by omega) hi'
  rw [show feq q j o i' = true from decide_eq_true ⟨he.1.trans e1, he.2.trans e2⟩] at this
  cases this
theorem fst_fe {q : Nat → Nat → Nat} {k i : Nat} (hi : i < k) (h : fstE q i) : fe q k (q 0 i) (q 1 i) = some i := by
  cases e : fe q k (q 0 i) (q 1 i) with
  | none =>
    have := fm_none _ _ e i (by omega) (by omega)
    rw [show feq q (q 0 i) (q 1 i) i = true from decide_eq_true ⟨rfl, rfl⟩] at this
    cases this
  | some x =>
    obtain ⟨h1, h2, h3, h4⟩ := fm_some _ _ _ e
    obtain ⟨e1, e2⟩ := of_decide_eq_true h3
    by_cases c : x = i
    · rw [c]
    · by_cases c2 : x < i
      · exact absurd ⟨e1, e2⟩ (h x c2)
      · have := h4 i (by omega) (by omega)
        rw [show feq q (q 0 i) (q 1 i) i = true from decide_eq_true ⟨rfl, rfl⟩] at this
        cases this
theorem fe_ex {q : Nat → Nat → Nat} {k j o : Nat} : fe q k j o ≠ none ↔ ∃ i, i < k ∧ q 0 i = j ∧ q 1 i = o := by
  constructor
  · intro h
    cases e : fe q k j o with
    | none => exact absurd e h
    | some i =>
      obtain ⟨h1, h2, h3, _⟩ := fe_fst e
      exact ⟨i, h1, h2, h3⟩
  · rintro ⟨i, h1, h2, h3⟩ h
    have := fm_none _ _ h i (by omega) (by omega)
    rw [show feq q j o i = true from decide_eq_true ⟨h2, h3⟩] at this
    cases this
theorem fe_s {q : Nat → Nat → Nat} {k j o : Nat} : fe q (k + 1) j o = (match fe q k j o with | some x => some x | none => if feq q j o k = true then some k else none) := by
  unfold fe
  rw [fm_last, Nat.zero_add]
def mayM (k o : Nat) : Bool := if o = 4 then decide (k ≤ 1) else decide (k ≤ 4)
theorem x_mayM {k o : Nat} (σ : St) (hk : k < 8) (ho : o = 4 ∨ o = 6) : f_X2_mayBeMeant σ (nI k) (nI o) = some (σ, bI (mayM k o)) := by
  have h1 : k = 0 ∨ k = 1 ∨ k = 2 ∨ k = 3 ∨ k = 4 ∨ k = 5 ∨ k = 6 ∨ k = 7 := by omega
  rcases h1 with rfl | rfl | rfl | rfl | rfl | rfl | rfl | rfl <;> rcases ho with rfl | rfl <;> rfl
/-- what a path leads to, and whether it may -/
def resE (d : Vd) (tx : List Nat) (ps ls : Nat → Nat) (q : Nat → Nat → Nat) (i : Nat) : Option Nat := fop d (pj tx ps ls (q 3 i) (q 2 i))
def wrE (d : Vd) (tx : List Nat) (ps ls : Nat → Nat) (q : Nat → Nat → Nat) (i : Nat) : Bool := match resE d tx ps ls q i with
  | none => true
  | some h => !(mayM (vk d h) (q 1 i))
def cpE (d : Vd) (tx : List Nat) (ps ls : Nat → Nat) (q : Nat → Nat → Nat) (k o j : Nat) : Option Nat := match fe q k j o with
  | none => none
  | some i => resE d tx ps ls q i
theorem res_lt {d : Vd} {tx : List Nat} {ps ls : Nat → Nat} {q : Nat → Nat → Nat} {i h : Nat} (e : resE d tx ps ls q i = some h) : h < vn d := by
  have := (fm_some _ _ _ e).2.1
  omega
theorem cp_lt {d : Vd} {tx : List Nat} {ps ls : Nat → Nat} {q : Nat → Nat → Nat} {k o j h : Nat} (e : cpE d tx ps ls q k o j = some h) : h < vn d := by
  unfold cpE at e
  cases ef : fe q k j o with
  | none =>
    rw [ef] at e
    cases e
  | some i =>
    rw [ef] at e
    exact res_lt e
/-- paths differ where names do -/
theorem names_paths {d : Vd} (wt : WT d) (hu : ∀ i j, i < j → j < vn d → oH d i = oH d j → nN d i ≠ nN d j) : ∀ (n j : Nat), j ≤ n → j < vn d → ∀ i, i < j → nP d i ≠ nP d j := by
  intro n
  induction n with
  | zero => intro j h1 _ i hi; omega
  | succ n ih =>
    intro j h1 hj i hi he
    have no46 : ∀ k, k < vn d → 46 ∉ nN d k := fun k hk => (wt k hk).1.no
    rcases (wt i (by omega)).2.2 with ⟨a1, _, a3⟩ | ⟨h, a0, a1, _, a3⟩
    · rcases (wt j hj).2.2 with ⟨b1, _, b3⟩ | ⟨h', b0, b1, _, b3⟩
      · rw [a3, b3] at he
        exact hu i j hi hj (by rw [a1, b1]) he
      · rw [a3, b3] at he
        exact no46 i (by omega) (by rw [he]; simp)
    · rcases (wt j hj).2.2 with ⟨b1, _, b3⟩ | ⟨h', b0, b1, _, b3⟩
      · rw [a3, b3] at he
        exact no46 j hj (by rw [← he]; simp)
      · rw [a3, b3] at he
        obtain ⟨e1, e2⟩ := split46 he (no46 i (by omega)) (no46 j hj)
        by_cases c : h = h'
        · exact hu i j hi hj (by rw [a1, b1, c]) e2
        · by_cases c2 : h < h'
          · exact ih h' (by omega) (by omega) h c2 e1
          · exact ih h (by omega) (by omega) h' (by omega) e1.symm
