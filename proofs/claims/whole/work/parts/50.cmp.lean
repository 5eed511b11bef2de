/-! The order of paths; what both sides call differences, as lists. -/
def cmZ : List Nat → List Nat → Int
  | [], m => - (m.length : Int)
  | a :: l, [] => ((a :: l).length : Int)
  | a :: l, b :: m => if a = b then cmZ l m else (a : Int) - b
theorem cmI_Z : ∀ (l m : List Nat), l.length < 1000 → m.length < 1000 → By l → By m → (cmI l m).toInt = cmZ l m := by
  intro l
  induction l with
  | nil =>
    intro m _ hm _ _
    unfold cmI cmZ
    rw [pk_sub_toInt (by omega) (by omega)]
    omega
  | cons a l ih =>
    intro m hl hm bl bm
    cases m with
    | nil =>
      unfold cmI cmZ
      rw [pk_sub_toInt (by omega) (by omega)]
      omega
    | cons b m =>
      unfold cmI cmZ
      have ha := bl a (by simp)
      have hb := bm b (by simp)
      by_cases e : a = b
      · rw [if_pos e, if_pos e]
        exact ih m (by simp at hl; omega) (by simp at hm; omega) (fun c hc => bl c (by simp [hc])) (fun c hc => bm c (by simp [hc]))
      · rw [if_neg e, if_neg e, pk_sub_toInt (by omega) (by omega)]
theorem cmZ_0 : ∀ (l m : List Nat), cmZ l m = 0 ↔ l = m := by
  intro l
  induction l with
  | nil =>
    intro m
    cases m with
    | nil => simp [cmZ]
    | cons b m =>
      simp [cmZ]
      omega
  | cons a l ih =>
    intro m
    cases m with
    | nil =>
      simp [cmZ]
      omega
    | cons b m =>
      unfold cmZ
      by_cases e : a = b
      · rw [if_pos e, ih m]
        simp [e]
      · rw [if_neg e]
        simp [e]
        omega
theorem cmZ_anti : ∀ (l m : List Nat), cmZ m l = - cmZ l m := by
  intro l
  induction l with
  | nil =>
    intro m
    cases m with
    | nil => simp [cmZ]
    | cons b m => simp [cmZ]
  | cons a l ih =>
    intro m
    cases m with
    | nil => simp [cmZ]
    | cons b m =>
      unfold cmZ
      by_cases e : a = b
      · rw [if_pos e, if_pos e.symm, ih m]
      · rw [if_neg e, if_neg (Ne.symm e)]
        omega
theorem cmZ_trans : ∀ (l m k : List Nat), cmZ l m < 0 → cmZ m k < 0 → cmZ l k < 0 := by
  intro l
  induction l with
  | nil =>
    intro m k h1 h2
    cases k with
    | nil =>
      cases m with
      | nil => simp [cmZ] at h1
      | cons b m =>
        simp [cmZ] at h2
        omega
    | cons c k =>
      simp [cmZ]
  | cons a l ih =>
    intro m k h1 h2
    cases m with
    | nil =>
      simp [cmZ] at h1
      omega
    | cons b m =>
      cases k with
      | nil =>
        simp [cmZ] at h2
        omega
      | cons c k =>
        unfold cmZ at h1 h2 ⊢
        by_cases e1 : a = b
        · subst e1
          by_cases e2 : a = c
          · subst e2
            rw [if_pos rfl] at h1 h2 ⊢
            exact ih m k h1 h2
          · rw [if_neg e2] at h2 ⊢
            exact h2
        · rw [if_neg e1] at h1
          by_cases e2 : b = c
          · subst e2
            rw [if_neg e1]
            exact h1
          · rw [if_neg e2] at h2
            have e3 : a ≠ c := by omega
            rw [if_neg e3]
            omega
abbrev Rw : Type := Nat × Option Nat × Option Nat
def spv (d e : Vd) (x y : Option Nat) : Bool := match x, y with
  | none, none => true
  | some c, some b => decide (nP d c = nP e b)
  | _, _ => false
/-- 4, 3 or 0 -/
def cdv (d : Vd) (f : Nat) (e : Vd) (g : Nat) : Nat :=
  if vk d f ≠ vk e g ∨ bt (vo d f) 1 ≠ bt (vo e g) 1 ∨ bt (vo d f) 2 ≠ bt (vo e g) 2 ∨ nB d f ≠ nB e g then 4
  else if bt (vo d f) 0 = bt (vo e g) 0 ∧ oZ d f = oZ e g ∧ spv d e (oC d f) (oC e g) = true ∧ spv d e (oO d f) (oO e g) = true then 0 else 3
def rwA (d e : Vd) (f : Nat) : Rw := ((match fop e (nP d f) with | none => 2 | some g => cdv d f e g), some f, fop e (nP d f))
/-- a row that is to be told -/
def isR (d e : Vd) (x : Rw) : Prop := (∃ f, f < vn d ∧ x = rwA d e f ∧ x.1 ≠ 0) ∨ (∃ g, g < vn e ∧ x = (1, none, some g) ∧ fop d (nP e g) = none)
def key (d e : Vd) (x : Rw) : List Nat := match x.2.1 with
  | some f => nP d f
  | none => nP e (x.2.2.getD 0)
def sd (d e : Vd) (i j : Nat) : Int := if vn d ≤ i then 1 else if vn e ≤ j then -1 else cmZ (nP d (vs d i)) (nP e (vs e j))
def mgr (d e : Vd) (i j : Nat) : Rw := if sd d e i j < 0 then (2, some (vs d i), none) else if sd d e i j = 0 then (cdv d (vs d i) e (vs e j), some (vs d i), some (vs e j)) else (1, none, some (vs e j))
def mg (d e : Vd) : Nat → Nat → Nat → List Rw
  | 0, _, _ => []
  | r + 1, i, j => if vn d ≤ i ∧ vn e ≤ j then [] else (if (mgr d e i j).1 = 0 then [] else [mgr d e i j]) ++ mg d e r (i + (if sd d e i j ≤ 0 then 1 else 0)) (j + (if 0 ≤ sd d e i j then 1 else 0))
theorem path_by {d : Vd} (w : WT d) {f : Nat} (hf : f < vn d) : By (nP d f) := fun c hc => by
  have := path_ch w f hf c hc
  unfold PC NC at this
  omega
section Mg
variable {d e : Vd}
theorem fop_is (w : VW d) {f : Nat} (hf : f < vn d) : fop d (nP d f) = some f := by
  unfold fop
  cases h : fm (fun j => decide (nP d j = nP d f)) (vn d) 0 with
  | none =>
    have := fm_none _ _ h f (by omega) (by omega)
    simp at this
  | some j =>
    obtain ⟨_, a, b, _⟩ := fm_some _ _ _ h
    simp at b
    by_cases c : j = f
    · rw [c]
    · exfalso
      rcases Nat.lt_or_gt_of_ne c with c | c
      · exact w.2.2.2.1 j f c hf b
      · exact w.2.2.2.1 f j c (by omega) b.symm
theorem fop_no {p : List Nat} (h : ∀ j, j < vn d → nP d j ≠ p) : fop d p = none := by
  unfold fop
  cases e : fm (fun j => decide (nP d j = p)) (vn d) 0 with
  | none => rfl
  | some j =>
    obtain ⟨_, a, b, _⟩ := fm_some _ _ _ e
    simp at b
    exact absurd b (h j (by omega))
theorem fop_some {p : List Nat} {g : Nat} (h : fop d p = some g) : g < vn d ∧ nP d g = p := by
  obtain ⟨_, a, b, _⟩ := fm_some _ _ _ h
  simp at b
  exact ⟨by omega, b⟩
theorem ord_lt (w : VW d) {i j : Nat} (hij : i < j) (hj : j < vn d) : cmZ (nP d (vs d i)) (nP d (vs d j)) < 0 := by
  have w40 : vn d ≤ 40 := Nat.le_trans w.1.1 w.1.2.1
  obtain ⟨o1, o2, o3⟩ := w.2.2.2.2.2.2.2
  have h1 := o1 i (by omega)
  have h2 := o1 j hj
  have := pr_lt.mp (o2 i j hij hj)
  rw [cmI_Z _ _ (by have := path_len64 w.2.1 h1; omega) (by have := path_len64 w.2.1 h2; omega) (path_by w.2.1 h1) (path_by w.2.1 h2)] at this
  exact this
/-- what has been gone by is below what comes -/
def Iv (d e : Vd) (i j : Nat) : Prop := i ≤ vn d ∧ j ≤ vn e ∧ (∀ a b, a < i → j ≤ b → b < vn e → cmZ (nP d (vs d a)) (nP e (vs e b)) < 0) ∧ (∀ a b, i ≤ a → a < vn d → b < j → cmZ (nP e (vs e b)) (nP d (vs d a)) < 0)
theorem Iv_0 : Iv d e 0 0 := ⟨Nat.zero_le _, Nat.zero_le _, fun a b h => absurd h (Nat.not_lt_zero _), fun a b _ _ h => absurd h (Nat.not_lt_zero _)⟩
theorem cmZ_le {a b c : List Nat} (h1 : cmZ a b < 0) (h2 : b = c ∨ cmZ b c < 0) : cmZ a c < 0 := by
  rcases h2 with rfl | h2
  · exact h1
  · exact cmZ_trans _ _ _ h1 h2
theorem ord_le (w : VW d) {i j : Nat} (hij : i ≤ j) (hj : j < vn d) : nP d (vs d i) = nP d (vs d j) ∨ cmZ (nP d (vs d i)) (nP d (vs d j)) < 0 := by
  by_cases c : i = j
  · rw [c]
    exact Or.inl rfl
  · exact Or.inr (ord_lt w (by omega) hj)
theorem Iv_A (wd : VW d) (we : VW e) {i j : Nat} (h : Iv d e i j) (hi : i < vn d) (hs : vn e ≤ j ∨ cmZ (nP d (vs d i)) (nP e (vs e j)) < 0) : Iv d e (i + 1) j := by
  refine ⟨by omega, h.2.1, fun a b h1 h2 h3 => ?_, fun a b h1 h2 h3 => h.2.2.2 a b (by omega) h2 h3⟩
  by_cases c : a = i
  · subst c
    rcases hs with hs | hs
    · omega
    · exact cmZ_le hs (ord_le we h2 h3)
  · exact h.2.2.1 a b (by omega) h2 h3
theorem Iv_B (wd : VW d) (we : VW e) {i j : Nat} (h : Iv d e i j) (hj : j < vn e) (hs : vn d ≤ i ∨ cmZ (nP e (vs e j)) (nP d (vs d i)) < 0) : Iv d e i (j + 1) := by
  refine ⟨h.1, by omega, fun a b h1 h2 h3 => h.2.2.1 a b h1 (by omega) h3, fun a b h1 h2 h3 => ?_⟩
  by_cases c : b = j
  · subst c
    rcases hs with hs | hs
    · omega
    · exact cmZ_le hs (ord_le wd h1 h2)
  · exact h.2.2.2 a b h1 h2 (by omega)
theorem Iv_AB (wd : VW d) (we : VW e) {i j : Nat} (h : Iv d e i j) (hi : i < vn d) (hj : j < vn e) (hs : nP d (vs d i) = nP e (vs e j)) : Iv d e (i + 1) (j + 1) := by
  refine ⟨by omega, by omega, fun a b h1 h2 h3 => ?_, fun a b h1 h2 h3 => ?_⟩
  · by_cases c : a = i
    · subst c
      rw [hs]
      exact ord_lt we (by omega) h3
    · exact h.2.2.1 a b (by omega) (by omega) h3
  · by_cases c : b = j
    · subst c
      rw [← hs]
      exact ord_lt wd (by omega) h2
    · exact h.2.2.2 a b (by omega) h2 (by omega)
theorem cmZ_irr {a b : List Nat} (h : cmZ a b < 0) : a ≠ b := by
  rintro rfl
  have := (cmZ_0 a a).mpr rfl
  omega
theorem lone_A (wd : VW d) (we : VW e) {i j : Nat} (h : Iv d e i j) (hi : i < vn d) (hs : vn e ≤ j ∨ cmZ (nP d (vs d i)) (nP e (vs e j)) < 0) : fop e (nP d (vs d i)) = none := by
  apply fop_no
  intro g hg
  obtain ⟨b, hb, rfl⟩ := we.2.2.2.2.2.2.2.2.2 g hg
  by_cases c : b < j
  · exact cmZ_irr (h.2.2.2 i b (Nat.le_refl _) hi c)
  · rcases hs with hs | hs
    · omega
    · exact Ne.symm (cmZ_irr (cmZ_le hs (ord_le we (show j ≤ b by omega) hb)))
theorem lone_B (wd : VW d) (we : VW e) {i j : Nat} (h : Iv d e i j) (hj : j < vn e) (hs : vn d ≤ i ∨ cmZ (nP e (vs e j)) (nP d (vs d i)) < 0) : fop d (nP e (vs e j)) = none := by
  apply fop_no
  intro g hg
  obtain ⟨b, hb, rfl⟩ := wd.2.2.2.2.2.2.2.2.2 g hg
  by_cases c : b < i
  · exact cmZ_irr (h.2.2.1 b j c (Nat.le_refl _) hj)
  · rcases hs with hs | hs
    · omega
    · exact Ne.symm (cmZ_irr (cmZ_le hs (ord_le wd (show i ≤ b by omega) hb)))
/-- rows from there on -/
def isRf (d e : Vd) (i j : Nat) (x : Rw) : Prop := (∃ a, i ≤ a ∧ a < vn d ∧ x = rwA d e (vs d a) ∧ x.1 ≠ 0) ∨ (∃ b, j ≤ b ∧ b < vn e ∧ x = (1, none, some (vs e b)) ∧ fop d (nP e (vs e b)) = none)
theorem isRf_key (wd : VW d) (we : VW e) {i j : Nat} (h : Iv d e i j) {x : Rw} (hx : isRf d e i j x) {p : List Nat} (hA : ∀ a, i ≤ a → a < vn d → cmZ p (nP d (vs d a)) < 0) (hB : ∀ b, j ≤ b → b < vn e → cmZ p (nP e (vs e b)) < 0) : cmZ p (key d e x) < 0 := by
  rcases hx with ⟨a, a1, a2, rfl, _⟩ | ⟨b, b1, b2, rfl, _⟩
  · exact hA a a1 a2
  · exact hB b b1 b2
theorem mg_ok (wd : VW d) (we : VW e) : ∀ (r i j : Nat), vn d + vn e ≤ i + j + r → Iv d e i j → (∀ x, x ∈ mg d e r i j ↔ isRf d e i j x) ∧ (mg d e r i j).Pairwise (fun x y => cmZ (key d e x) (key d e y) < 0) ∧ (mg d e r i j).length ≤ r := by
  intro r
  induction r with
  | zero =>
    intro i j h hI
    refine ⟨fun x => ⟨fun h => (by cases h), ?_⟩, List.Pairwise.nil, Nat.le_refl _⟩
    have := hI.1
    have := hI.2.1
    rintro (⟨a, a1, a2, _⟩ | ⟨b, b1, b2, _⟩)
    · omega
    · omega
  | succ r ih =>
    intro i j h hI
    have hi := hI.1
    have hj := hI.2.1
    rw [mg.eq_2]
    by_cases c : vn d ≤ i ∧ vn e ≤ j
    · rw [if_pos c]
      refine ⟨fun x => ⟨fun h => (by cases h), ?_⟩, List.Pairwise.nil, Nat.zero_le _⟩
      rintro (⟨a, a1, a2, _⟩ | ⟨b, b1, b2, _⟩)
      · omega
      · omega
    · rw [if_neg c]
      -- what the three cases share
      have main : ∀ (x0 : Rw) (i' j' : Nat), mgr d e i j = x0 → vn d + vn e ≤ i' + j' + r → Iv d e i' j' → (∀ x, isRf d e i j x ↔ (x = x0 ∧ x0.1 ≠ 0) ∨ isRf d e i' j' x) → (∀ a, i' ≤ a → a < vn d → cmZ (key d e x0) (nP d (vs d a)) < 0) → (∀ b, j' ≤ b → b < vn e → cmZ (key d e x0) (nP e (vs e b)) < 0) → (∀ x, x ∈ (if (mgr d e i j).1 = 0 then [] else [mgr d e i j]) ++ mg d e r i' j' ↔ isRf d e i j x) ∧ ((if (mgr d e i j).1 = 0 then [] else [mgr d e i j]) ++ mg d e r i' j').Pairwise (fun x y => cmZ (key d e x) (key d e y) < 0) ∧ ((if (mgr d e i j).1 = 0 then [] else [mgr d e i j]) ++ mg d e r i' j').length ≤ r + 1 := by
        intro x0 i' j' hx0 hr hI' hiff hA hB
        obtain ⟨g1, g2, g3⟩ := ih i' j' hr hI'
        rw [hx0]
        by_cases c0 : x0.1 = 0
        · rw [if_pos c0, List.nil_append]
          refine ⟨fun x => ?_, g2, by omega⟩
          rw [g1, hiff]
          constructor
          · exact Or.inr
          · rintro (⟨_, h2⟩ | h2)
            · exact absurd c0 h2
            · exact h2
        · rw [if_neg c0]
          refine ⟨fun x => ?_, ?_, ?_⟩
          · rw [List.singleton_append, List.mem_cons, g1, hiff]
            constructor
            · rintro (h2 | h2)
              · exact Or.inl ⟨h2, c0⟩
              · exact Or.inr h2
            · rintro (⟨h2, _⟩ | h2)
              · exact Or.inl h2
              · exact Or.inr h2
          · rw [List.singleton_append, List.pairwise_cons]
            exact ⟨fun y hy => isRf_key wd we hI' ((g1 y).mp hy) hA hB, g2⟩
          · rw [List.singleton_append, List.length_cons]
            omega
      by_cases s1 : sd d e i j < 0
      · -- of the first alone
        have hi2 : i < vn d := by
          unfold sd at s1
          split at s1
          · omega
          · omega
        have hs : vn e ≤ j ∨ cmZ (nP d (vs d i)) (nP e (vs e j)) < 0 := by
          unfold sd at s1
          rw [if_neg (by omega)] at s1
          split at s1
          · exact Or.inl (by assumption)
          · exact Or.inr s1
        have hl := lone_A wd we hI hi2 hs
        rw [if_pos (show sd d e i j ≤ 0 by omega), if_neg (show ¬ 0 ≤ sd d e i j by omega), Nat.add_zero]
        refine main (2, some (vs d i), none) (i + 1) j (by unfold mgr; rw [if_pos s1]) (by omega) (Iv_A wd we hI hi2 hs) (fun x => ?_) (fun a a1 a2 => ord_lt wd (by omega) a2) (fun b b1 b2 => ?_)
        · have hrw : rwA d e (vs d i) = (2, some (vs d i), none) := by
            unfold rwA
            rw [hl]
          constructor
          · rintro (⟨a, a1, a2, a3, a4⟩ | h2)
            · by_cases ca : a = i
              · subst ca
                rw [hrw] at a3
                exact Or.inl ⟨a3, by simp⟩
              · exact Or.inr (Or.inl ⟨a, by omega, a2, a3, a4⟩)
            · exact Or.inr (Or.inr h2)
          · rintro (⟨h2, _⟩ | ⟨a, a1, a2, a3, a4⟩ | h2)
            · exact Or.inl ⟨i, Nat.le_refl _, hi2, by rw [hrw]; exact h2, by rw [h2]; simp⟩
            · exact Or.inl ⟨a, by omega, a2, a3, a4⟩
            · exact Or.inr h2
        · rcases hs with hs | hs
          · omega
          · exact cmZ_le hs (ord_le we b1 b2)
      · by_cases s0 : sd d e i j = 0
        · -- of both
          have hij : i < vn d ∧ j < vn e ∧ nP d (vs d i) = nP e (vs e j) := by
            unfold sd at s0
            split at s0
            · omega
            · split at s0
              · omega
              · exact ⟨by omega, by omega, (cmZ_0 _ _).mp s0⟩
          obtain ⟨hi2, hj2, hp⟩ := hij
          have hof : fop e (nP d (vs d i)) = some (vs e j) := by
            rw [hp]
            exact fop_is we (we.2.2.2.2.2.2.2.1 j hj2)
          have hof2 : fop d (nP e (vs e j)) = some (vs d i) := by
            rw [← hp]
            exact fop_is wd (wd.2.2.2.2.2.2.2.1 i hi2)
          rw [if_pos (show sd d e i j ≤ 0 by omega), if_pos (show 0 ≤ sd d e i j by omega)]
          refine main (cdv d (vs d i) e (vs e j), some (vs d i), some (vs e j)) (i + 1) (j + 1) (by unfold mgr; rw [if_neg s1, if_pos s0]) (by omega) (Iv_AB wd we hI hi2 hj2 hp) (fun x => ?_) (fun a a1 a2 => ord_lt wd (by omega) a2) (fun b b1 b2 => ?_)
          · have hrw : rwA d e (vs d i) = (cdv d (vs d i) e (vs e j), some (vs d i), some (vs e j)) := by
              unfold rwA
              rw [hof]
            constructor
            · rintro (⟨a, a1, a2, a3, a4⟩ | ⟨b, b1, b2, b3, b4⟩)
              · by_cases ca : a = i
                · subst ca
                  rw [hrw] at a3
                  exact Or.inl ⟨a3, by rw [← a3]; exact a4⟩
                · exact Or.inr (Or.inl ⟨a, by omega, a2, a3, a4⟩)
              · by_cases cb : b = j
                · subst cb
                  rw [hof2] at b4
                  cases b4
                · exact Or.inr (Or.inr ⟨b, by omega, b2, b3, b4⟩)
            · rintro (⟨h2, h3⟩ | ⟨a, a1, a2, a3, a4⟩ | ⟨b, b1, b2, b3, b4⟩)
              · exact Or.inl ⟨i, Nat.le_refl _, hi2, by rw [hrw]; exact h2, by rw [h2]; exact h3⟩
              · exact Or.inl ⟨a, by omega, a2, a3, a4⟩
              · exact Or.inr ⟨b, by omega, b2, b3, b4⟩
          · show cmZ (nP d (vs d i)) _ < 0
            rw [hp]
            exact ord_lt we (by omega) b2
        · -- of the second alone
          have hj2 : j < vn e := by
            unfold sd at s1 s0
            by_cases ci : vn d ≤ i
            · omega
            · rw [if_neg ci] at s1 s0
              split at s1
              · omega
              · omega
          have hs : vn d ≤ i ∨ cmZ (nP e (vs e j)) (nP d (vs d i)) < 0 := by
            unfold sd at s1 s0
            by_cases ci : vn d ≤ i
            · exact Or.inl ci
            · rw [if_neg ci, if_neg (by omega)] at s1 s0
              right
              rw [cmZ_anti]
              omega
          have hl := lone_B wd we hI hj2 hs
          rw [if_neg (show ¬ sd d e i j ≤ 0 by omega), if_pos (show 0 ≤ sd d e i j by omega), Nat.add_zero]
          refine main (1, none, some (vs e j)) i (j + 1) (by unfold mgr; rw [if_neg s1, if_neg s0]) (by omega) (Iv_B wd we hI hj2 hs) (fun x => ?_) (fun a a1 a2 => ?_) (fun b b1 b2 => ord_lt we (by omega) b2)
          · constructor
            · rintro (h2 | ⟨b, b1, b2, b3, b4⟩)
              · exact Or.inr (Or.inl h2)
              · by_cases cb : b = j
                · subst cb
                  exact Or.inl ⟨b3, by simp⟩
                · exact Or.inr (Or.inr ⟨b, by omega, b2, b3, b4⟩)
            · rintro (⟨h2, _⟩ | h2 | ⟨b, b1, b2, b3, b4⟩)
              · exact Or.inr ⟨j, Nat.le_refl _, hj2, h2, hl⟩
              · exact Or.inl h2
              · exact Or.inr ⟨b, by omega, b2, b3, b4⟩
          · rcases hs with hs | hs
            · omega
            · exact cmZ_le hs (ord_le wd a1 a2)
theorem isRf_0 (wd : VW d) (we : VW e) (x : Rw) : isRf d e 0 0 x ↔ isR d e x := by
  obtain ⟨o1, _, o3⟩ := wd.2.2.2.2.2.2.2
  obtain ⟨p1, _, p3⟩ := we.2.2.2.2.2.2.2
  constructor
  · rintro (⟨a, a1, a2, a3, a4⟩ | ⟨b, b1, b2, b3, b4⟩)
    · exact Or.inl ⟨vs d a, o1 a a2, a3, a4⟩
    · exact Or.inr ⟨vs e b, p1 b b2, b3, b4⟩
  · rintro (⟨f, f1, f2, f3⟩ | ⟨g, g1, g2, g3⟩)
    · obtain ⟨a, a1, rfl⟩ := o3 f f1
      exact Or.inl ⟨a, Nat.zero_le _, a1, f2, f3⟩
    · obtain ⟨b, b1, rfl⟩ := p3 g g1
      exact Or.inr ⟨b, Nat.zero_le _, b1, g2, g3⟩
end Mg
