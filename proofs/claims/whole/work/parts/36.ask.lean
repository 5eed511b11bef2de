/-! Asking: told, leaf, letter, field. -/
theorem out_ne {x : Int32} {n j : Nat} (h : x < 0 ∨ nI n ≤ x) (hj : j < n) (hn : n < 2147483648) : ¬ x = nI j := by
  rintro rfl
  rcases h with h | h
  · exact nI_pos (by omega) h
  · exact nI_ge hj hn h
theorem x_leaf {σ : St} {k : Nat} (hk : k < 8) : f_X2_isLeaf σ (nI k) = some (σ, bI (decide (k ≤ 4))) := by
  match k, hk with
  | 0, _ => rfl
  | 1, _ => rfl
  | 2, _ => rfl
  | 3, _ => rfl
  | 4, _ => rfl
  | 5, _ => rfl
  | 6, _ => rfl
  | 7, _ => rfl
theorem x_hold {σ : St} {k : Nat} (hk : k < 8) : f_X2_isHolder σ (nI k) = some (σ, bI (decide (k = 5 ∨ k = 6))) := by
  match k, hk with
  | 0, _ => rfl
  | 1, _ => rfl
  | 2, _ => rfl
  | 3, _ => rfl
  | 4, _ => rfl
  | 5, _ => rfl
  | 6, _ => rfl
  | 7, _ => rfl
theorem ln_gt4 {k : Nat} (hk : k < 2147483648) : (4 : Int32) < nI k ↔ 4 < k := ln_lt (a := 4) (by omega) hk
/-- how many of so many from i on -/
def cf (p : Nat → Bool) : Nat → Nat → Nat
  | 0, _ => 0
  | d + 1, i => (if p i = true then 1 else 0) + cf p d (i + 1)
theorem cf_le (p : Nat → Bool) : ∀ d i, cf p d i ≤ d := by
  intro d
  induction d with
  | zero => exact fun _ => Nat.le_refl _
  | succ d ih =>
    intro i
    have := ih (i + 1)
    unfold cf
    split <;> omega
section As
variable {σ τ : St} {v : Nat} {d : Vd}
theorem told_loop (hv : v < 8) (hx : VX σ v d) (hm : VM τ v d) (w : VW d) : ∀ (r i : Nat), i + r = vn d → ∀ acc, ∀ m, r < m → f_X7_countLeaves_4 m σ v (nI acc) (nI i) = some (σ, nI (acc + cf (fun j => decide (vk d j ≤ 4)) r i)) ∧ f_X9_told_107 m τ (nI v) (nI acc) (nI i) = some (τ, nI (acc + cf (fun j => decide (vk d j ≤ 4)) r i)) := by
  have w40 : vn d ≤ 40 := Nat.le_trans w.1.1 w.1.2.1
  intro r
  induction r with
  | zero =>
    intro i hi acc m hm'
    obtain ⟨m, rfl⟩ : ∃ m', m = m' + 1 := ⟨m - 1, by omega⟩
    constructor
    · simp (disch := omega) only [f_X7_countLeaves_4, hx.1, ln_le, ln_lt, ln_eq, ln_neg, ln_0le, ln_le0, ln_0lt, ln_eq0, nI_1, nI_add, ln_40, ln_12, ln_8, ck_nI, ck_0]
      rw [if_pos (by omega)]
      rfl
    · simp (disch := omega) only [f_X9_told_107, hm.1, ln_le, ln_lt, ln_eq, ln_neg, ln_0le, ln_le0, ln_0lt, ln_eq0, nI_1, nI_add, ln_40, ln_12, ln_8, ck_nI, ck_0]
      rw [if_pos (by omega)]
      rfl
  | succ r ih =>
    intro i hi acc m hm'
    obtain ⟨m, rfl⟩ : ∃ m', m = m' + 1 := ⟨m - 1, by omega⟩
    have hi' : i < vn d := by omega
    have k8 := (w.2.2.2.2.1 i hi').1
    have kx := (hx.2.2.2.1 i hi').1.1
    have km := (hm.2.2.2.1 i hi').1.1
    constructor
    · simp (disch := omega) only [f_X7_countLeaves_4, hx.1, ln_le, ln_lt, ln_eq, ln_neg, ln_0le, ln_le0, ln_0lt, ln_eq0, nI_1, nI_add, ln_40, ln_12, ln_8, ck_nI, ck_0]
      rw [if_neg (by omega), kx, x_leaf k8, cl_mk]
      unfold cf
      by_cases c : vk d i ≤ 4
      · rw [bI_yes c, if_neg i10]
        simp only [f_X7_countLeaves_33, nI_1]
        rw [(ih (i + 1) (by omega) (acc + 1) m (by omega)).1]
        simp [c, Nat.add_assoc]
      · rw [bI_no c, if_pos rfl]
        simp only [f_X7_countLeaves_33, nI_1, Int32.add_zero]
        rw [(ih (i + 1) (by omega) acc m (by omega)).1]
        simp [c]
    · simp (disch := omega) only [f_X9_told_107, hm.1, ln_le, ln_lt, ln_eq, ln_neg, ln_0le, ln_le0, ln_0lt, ln_eq0, nI_1, nI_add, ln_40, ln_12, ln_8, ck_nI, ck_0]
      rw [if_neg (by omega), km]
      simp (disch := omega) only [ln_gt4]
      unfold cf
      by_cases c : vk d i ≤ 4
      · rw [if_neg (by omega)]
        simp only [f_X9_told_140, nI_1]
        rw [(ih (i + 1) (by omega) (acc + 1) m (by omega)).2]
        simp [c, Nat.add_assoc]
      · rw [if_pos (by omega)]
        simp only [f_X9_told_140, nI_1, Int32.add_zero]
        rw [(ih (i + 1) (by omega) acc m (by omega)).2]
        simp [c]
theorem oI_eq {o : Option Nat} {f : Nat} (ho : ∀ c, o = some c → c < 2147483648) (hf : f < 2147483648) : oI o = nI f ↔ o = some f := by
  cases o with
  | none => exact ⟨fun h => absurd h.symm (ln_m2 hf), fun h => nomatch h⟩
  | some c =>
    have := ho c rfl
    show nI c = nI f ↔ _
    rw [ln_eq this hf]
    simp
theorem H_lt (w : VW d) {i c : Nat} (hi : i < vn d) (h : oH d i = some c) : c < i := by
  rcases (w.2.1 i hi).2.2 with ⟨a, _⟩ | ⟨p, a, b, _⟩
  · rw [a] at h
    cases h
  · rw [b] at h
    cases h
    exact a
theorem with_loop (hv : v < 8) (hx : VX σ v d) (hm : VM τ v d) (w : VW d) {f : Nat} (hf : f < 40) : ∀ (r i : Nat), i + r = vn d → ∀ acc, ∀ m, r < m → f_X7_countWithin_4 m σ v (nI f) (nI acc) (nI i) = some (σ, nI (acc + cf (fun j => decide (oH d j = some f)) r i)) ∧ f_X9_field__135 m τ (nI v) (nI f) (nI acc) (nI i) = some (τ, nI (acc + cf (fun j => decide (oH d j = some f)) r i)) := by
  have w40 : vn d ≤ 40 := Nat.le_trans w.1.1 w.1.2.1
  intro r
  induction r with
  | zero =>
    intro i hi acc m hm'
    obtain ⟨m, rfl⟩ : ∃ m', m = m' + 1 := ⟨m - 1, by omega⟩
    constructor
    · simp (disch := omega) only [f_X7_countWithin_4, hx.1, ln_le, ln_lt, ln_eq, ln_neg, ln_0le, ln_le0, ln_0lt, ln_eq0, nI_1, nI_add, ln_40, ln_12, ln_8, ck_nI, ck_0]
      rw [if_pos (by omega)]
      rfl
    · simp (disch := omega) only [f_X9_field__135, hm.1, ln_le, ln_lt, ln_eq, ln_neg, ln_0le, ln_le0, ln_0lt, ln_eq0, nI_1, nI_add, ln_40, ln_12, ln_8, ck_nI, ck_0]
      rw [if_pos (by omega)]
      rfl
  | succ r ih =>
    intro i hi acc m hm'
    obtain ⟨m, rfl⟩ : ∃ m', m = m' + 1 := ⟨m - 1, by omega⟩
    have hi' : i < vn d := by omega
    have kx := (hx.2.2.2.1 i hi').1.2.2.2.1
    have km := (hm.2.2.2.1 i hi').1.2.2.2.1
    have ke := oI_eq (o := oH d i) (f := f) (fun c hc => by have := H_lt w hi' hc; omega) (by omega)
    constructor
    · simp (disch := omega) only [f_X7_countWithin_4, hx.1, ln_le, ln_lt, ln_eq, ln_neg, ln_0le, ln_le0, ln_0lt, ln_eq0, nI_1, nI_add, ln_40, ln_12, ln_8, ck_nI, ck_0]
      rw [if_neg (by omega), kx]
      simp only [ke]
      unfold cf
      by_cases c : oH d i = some f
      · rw [if_pos c]
        simp only [f_X7_countWithin_31, nI_1]
        rw [(ih (i + 1) (by omega) (acc + 1) m (by omega)).1]
        simp [c, Nat.add_assoc]
      · rw [if_neg c]
        simp only [f_X7_countWithin_31, nI_1, Int32.add_zero]
        rw [(ih (i + 1) (by omega) acc m (by omega)).1]
        simp [c]
    · simp (disch := omega) only [f_X9_field__135, hm.1, ln_le, ln_lt, ln_eq, ln_neg, ln_0le, ln_le0, ln_0lt, ln_eq0, nI_1, nI_add, ln_40, ln_12, ln_8, ck_nI, ck_0]
      rw [if_neg (by omega), km]
      simp only [ke]
      unfold cf
      by_cases c : oH d i = some f
      · rw [if_pos c]
        simp only [f_X9_field__169, nI_1]
        rw [(ih (i + 1) (by omega) (acc + 1) m (by omega)).2]
        simp [c, Nat.add_assoc]
      · rw [if_neg c]
        simp only [f_X9_field__169, nI_1, Int32.add_zero]
        rw [(ih (i + 1) (by omega) acc m (by omega)).2]
        simp [c]
/-- how many fields copies reach -/
def lnC (C : Nat → Option Nat) : Nat → Nat → Nat
  | 0, _ => 0
  | k + 1, j => match C j with
    | none => 1
    | some c => 1 + lnC C k c
theorem lnC_s (C : Nat → Option Nat) (k j : Nat) : lnC C (k + 1) j = match C j with
    | none => 1
    | some c => 1 + lnC C k c := rfl
theorem reach_X (hv : v < 8) (hx : VX σ v d) (w : VW d) : ∀ (k : Nat), 0 < k → ∀ j, j < vn d → itC (oC d) k j = none → ∀ cnt, cnt + k = vn d + 1 → ∀ m, k < m → f_X7_countReached_33 m σ v (nI j) (nI cnt) = some (σ, nI (cnt + lnC (oC d) k j - 1)) := by
  have w40 : vn d ≤ 40 := Nat.le_trans w.1.1 w.1.2.1
  intro k
  induction k with
  | zero => exact fun h => absurd h (Nat.lt_irrefl 0)
  | succ k ih =>
    intro _ j hj hC cnt hc m hm'
    obtain ⟨m, rfl⟩ : ∃ m', m = m' + 1 := ⟨m - 1, by omega⟩
    have kx := (hx.2.2.2.1 j hj).2.1
    simp (disch := omega) only [f_X7_countReached_33, hx.1, ln_le, ln_lt, ln_eq, ln_neg, ln_0le, ln_le0, ln_0lt, ln_eq0, nI_1, nI_add, ln_40, ln_12, ln_8, ck_nI, ck_0]
    unfold lnC
    unfold itC at hC
    cases e : oC d j with
    | none =>
      simp only [e] at *
      by_cases c : vn d ≤ cnt
      · rw [if_pos c]
        congr 3
        omega
      · rw [if_neg c, kx]
        rw [if_pos (by decide)]
        rfl
    | some c =>
      have hcn := (w.2.2.2.2.1 j hj).2.2.2.1 c e
      simp only [e] at *
      have hk0 : 0 < k := by
        rcases Nat.eq_zero_or_pos k with rfl | h
        · cases hC
        · exact h
      rw [if_neg (by omega), kx]
      show (if nI c < 0 then _ else if nI c < nI (vn d) then f_X7_countReached_33 m σ v (nI c) _ else _) = _
      rw [if_neg (nI_pos (by omega)), if_pos (nI_lt hcn (by omega)), ih hk0 c hcn hC (cnt + 1) (by omega) m (by omega)]
      congr 3
      omega
theorem reach_M (hv : v < 8) (hm : VM τ v d) (w : VW d) {f : Nat} (hf : f < vn d) (hk4 : vk d f ≤ 4) : ∀ (k : Nat) (o : Option Nat), (∀ c, o = some c → c < vn d ∧ itC (oC d) k c = none) → k ≤ 40 → ∀ acc, ∀ m, k + 1 < m → f_X9_field__203 m τ (nI v) (nI (40 * v + f)) (nI acc) (oI o) = some (τ, nI (acc + (match o with | none => 0 | some c => lnC (oC d) k c))) := by
  have w40 : vn d ≤ 40 := Nat.le_trans w.1.1 w.1.2.1
  have k8 := (w.2.2.2.2.1 f hf).1
  have km := (hm.2.2.2.1 f hf).1.1
  intro k
  induction k with
  | zero =>
    intro o ho hk acc m hm'
    obtain ⟨m, rfl⟩ : ∃ m', m = m' + 1 := ⟨m - 1, by omega⟩
    cases o with
    | none =>
      simp (disch := omega) only [f_X9_field__203, km, ln_gt4, ln_le, ln_lt, ln_eq, ln_neg, ln_0le, ln_le0, ln_0lt, ln_eq0, nI_1, nI_add, ln_40, ln_12, ln_8, ck_nI, ck_0]
      rw [if_neg (by omega), if_pos (show oI none = -2 from rfl)]
      rfl
    | some c => exact absurd (ho c rfl).2 (by simp [itC])
  | succ k ih =>
    intro o ho hk acc m hm'
    obtain ⟨m, rfl⟩ : ∃ m', m = m' + 1 := ⟨m - 1, by omega⟩
    cases o with
    | none =>
      simp (disch := omega) only [f_X9_field__203, km, ln_gt4, ln_le, ln_lt, ln_eq, ln_neg, ln_0le, ln_le0, ln_0lt, ln_eq0, nI_1, nI_add, ln_40, ln_12, ln_8, ck_nI, ck_0]
      rw [if_neg (by omega), if_pos (show oI none = -2 from rfl)]
      rfl
    | some c =>
      obtain ⟨h1, h2⟩ := ho c rfl
      have kc := (hm.2.2.2.1 c h1).2.1
      simp (disch := omega) only [f_X9_field__203, km, ln_gt4, oI, ln_le, ln_lt, ln_eq, ln_neg, ln_0le, ln_le0, ln_0lt, ln_eq0, nI_1, nI_add, ln_40, ln_12, ln_8, ck_nI, ck_0]
      rw [if_neg (by omega), if_neg (ln_m2 (by omega)), kc]
      unfold itC at h2
      rw [ih (oC d c) (fun e he => by rw [he] at h2; exact ⟨(w.2.2.2.2.1 c h1).2.2.2.1 e he, h2⟩) (by omega) (acc + 1) m (by omega)]
      show _ = some (τ, nI (acc + lnC (oC d) (k + 1) c))
      rw [lnC_s]
      cases oC d c with
      | none => rfl
      | some e =>
        show some (τ, nI (acc + 1 + lnC (oC d) k e)) = some (τ, nI (acc + (1 + lnC (oC d) k e)))
        rw [Nat.add_assoc]
end As
theorem op_told {σ τ : St} (h : RR σ τ) (x y : Int32) : OK (f_X8_told σ x y) (f_X9_told τ x y) := by
  have hR := h
  obtain ⟨tx, ou, nv, W, h1, h2, h3, h4⟩ := h
  have hn := h4.1
  unfold f_X8_told f_X9_told
  simp only [bnd]
  rw [show (6 : Int32) = nI 7 - 1 from by decide]
  rcases pk_ix y (n := 7) (by omega) with h0 | h0 | ⟨j, hj, rfl⟩
  · rw [m_in_no (by omega) (Or.inl h0), cl_mk, if_pos rfl]
    have ne : ∀ j, j < 7 → ¬ y = nI j := fun j hj => out_ne (Or.inl h0) hj (by omega)
    rw [if_neg (show ¬ _ = (0 : Int32) from ne 0 (by omega)), if_neg (show ¬ _ = (1 : Int32) from ne 1 (by omega)), if_neg (show ¬ _ = (2 : Int32) from ne 2 (by omega))]
    rcases isV h4 x with ⟨v, hv, rfl, e1, e2⟩ | ⟨e1, e2⟩
    · rw [e1, cl_mk, if_neg i10, ck_nI (by omega) (by omega)]
      unfold f_X8_toldOf
      simp only [bnd]
      rw [if_neg (show ¬ _ = (3 : Int32) from ne 3 (by omega)), if_neg (show ¬ _ = (4 : Int32) from ne 4 (by omega)), if_neg (show ¬ _ = (5 : Int32) from ne 5 (by omega)), if_neg (show ¬ _ = (6 : Int32) from ne 6 (by omega))]
      exact ⟨σ, τ, -1, rfl, rfl, hR⟩
    · rw [e1, cl_mk, if_pos rfl]
      exact ⟨σ, τ, -1, rfl, rfl, hR⟩
  · rw [m_in_no (by omega) (Or.inr h0), cl_mk, if_pos rfl]
    have ne : ∀ j, j < 7 → ¬ y = nI j := fun j hj => out_ne (Or.inr h0) hj (by omega)
    rw [if_neg (show ¬ _ = (0 : Int32) from ne 0 (by omega)), if_neg (show ¬ _ = (1 : Int32) from ne 1 (by omega)), if_neg (show ¬ _ = (2 : Int32) from ne 2 (by omega))]
    rcases isV h4 x with ⟨v, hv, rfl, e1, e2⟩ | ⟨e1, e2⟩
    · rw [e1, cl_mk, if_neg i10, ck_nI (by omega) (by omega)]
      unfold f_X8_toldOf
      simp only [bnd]
      rw [if_neg (show ¬ _ = (3 : Int32) from ne 3 (by omega)), if_neg (show ¬ _ = (4 : Int32) from ne 4 (by omega)), if_neg (show ¬ _ = (5 : Int32) from ne 5 (by omega)), if_neg (show ¬ _ = (6 : Int32) from ne 6 (by omega))]
      exact ⟨σ, τ, -1, rfl, rfl, hR⟩
    · rw [e1, cl_mk, if_pos rfl]
      exact ⟨σ, τ, -1, rfl, rfl, hR⟩
  · rw [m_in_yes (by omega) hj, cl_mk, if_neg i10]
    by_cases c : j ≤ 2
    · rw [if_pos (show nI j ≤ 2 from nI_le (b := 2) c (by omega))]
      unfold f_X9_told_25
      simp only [bnd]
      match j, c with
      | 0, _ =>
        rw [if_pos n00, if_pos n00, h4.2.1, h4.2.2.1]
        exact ⟨σ, τ, _, rfl, rfl, hR⟩
      | 1, _ =>
        rw [if_neg (by decide), if_pos (by decide), if_neg (by decide), if_pos (by decide)]
        unfold f_X3_length
        rw [cl_mk, h1.1.1, h1.2.1]
        exact ⟨σ, τ, _, rfl, rfl, hR⟩
      | 2, _ =>
        rw [if_neg (by decide), if_neg (by decide), if_pos (by decide), if_neg (by decide), if_neg (by decide), if_pos (by decide)]
        unfold f_X3_length
        rw [cl_mk, h2.1.1, h2.2.1]
        exact ⟨σ, τ, _, rfl, rfl, hR⟩
    · rw [if_neg (show ¬ nI j ≤ 2 from nI_ge (a := 2) (by omega) (by omega))]
      have ne : ∀ i, i < j → ¬ nI j = nI i := fun i hi e => by have := (ln_eq (by omega) (by omega)).mp e; omega
      rw [if_neg (show ¬ _ = (0 : Int32) from ne 0 (by omega)), if_neg (show ¬ _ = (1 : Int32) from ne 1 (by omega)), if_neg (show ¬ _ = (2 : Int32) from ne 2 (by omega))]
      rcases isV h4 x with ⟨v, hv, rfl, e1, e2⟩ | ⟨e1, e2⟩
      · obtain ⟨a, b, w⟩ := h4.2.2.2 v hv
        rw [e1, e2, cl_mk, cl_mk, if_neg i10, if_neg i10, ck_nI (by omega) (by omega)]
        unfold f_X8_toldOf f_X9_told_25
        simp only [bnd]
        rw [if_neg (show ¬ _ = (0 : Int32) from ne 0 (by omega)), if_neg (show ¬ _ = (1 : Int32) from ne 1 (by omega)), if_neg (show ¬ _ = (2 : Int32) from ne 2 (by omega))]
        match j, hj, c with
        | 3, _, _ =>
          rw [if_pos (by decide), if_pos (by decide), ck_nI (by omega) (by omega), a.1, b.1]
          exact ⟨σ, τ, _, rfl, rfl, hR⟩
        | 4, _, _ =>
          rw [if_neg (by decide), if_pos (by decide), if_neg (by decide), if_pos (by decide), ck_nI (by omega) (by omega), a.2.1, b.2.1]
          exact ⟨σ, τ, _, rfl, rfl, hR⟩
        | 5, _, _ =>
          rw [if_neg (by decide), if_neg (by decide), if_pos (by decide), if_neg (by decide), if_neg (by decide), if_pos (by decide), ck_nI (by omega) (by omega), a.2.2.1, b.2.2.1]
          exact ⟨σ, τ, _, rfl, rfl, hR⟩
        | 6, _, _ =>
          rw [if_neg (by decide), if_neg (by decide), if_neg (by decide), if_pos (by decide), if_neg (by decide), if_neg (by decide), if_neg (by decide)]
          have w40 : vn (W v) ≤ 40 := Nat.le_trans w.1.1 w.1.2.1
          obtain ⟨g1, g2⟩ := told_loop (v := v) (by omega) a b w (vn (W v)) 0 (by omega) 0 fl (by have := fl_big; omega)
          refine ⟨σ, τ, _, ?_, g2, hR⟩
          unfold f_X7_countLeaves
          have g1 : f_X7_countLeaves_4 fl σ v 0 0 = _ := g1
          rw [g1, cl_mk, cl_mk]
      · rw [e1, e2, cl_mk, cl_mk, if_pos rfl, if_pos rfl]
        exact ⟨σ, τ, -1, rfl, rfl, hR⟩
theorem op_leaf {σ τ : St} (h : RR σ τ) (x y : Int32) : OK (f_X8_leaf σ x y) (f_X9_leaf τ x y) := by
  have hR := h
  obtain ⟨tx, ou, nv, W, h1, h2, h3, h4⟩ := h
  have hn := h4.1
  unfold f_X8_leaf f_X9_leaf
  rcases isF h4 x y with ⟨v, j, hv, hj, rfl, rfl, e1, e2⟩ | ⟨e1, e2⟩
  · obtain ⟨a, b, w⟩ := h4.2.2.2 v hv
    have w40 : vn (W v) ≤ 40 := Nat.le_trans w.1.1 w.1.2.1
    have fx := a.2.2.2.1 j hj
    have fm := b.2.2.2.1 j hj
    have k8 := (w.2.2.2.2.1 j hj).1
    have k56 := (w.2.2.2.2.1 j hj).2.2.2.2.2.2.2.2.2.2
    rw [e1, e2, cl_mk, cl_mk, if_neg i10, if_neg i10]
    simp (disch := omega) only [ln_le, ln_lt, ln_eq, ln_neg, ln_0le, ln_le0, ln_0lt, ln_eq0, nI_1, nI_add, ln_40, ln_12, ln_8, ck_nI, ck_0]
    rw [fx.1.1, x_leaf k8, cl_mk, fm.1.1, fx.2.2, fm.2.2]
    simp (disch := omega) only [ln_gt4]
    by_cases c : vk (W v) j ≤ 4
    · rw [bI_yes c, if_neg i10, if_neg (by omega)]
      exact ⟨σ, τ, _, rfl, rfl, hR⟩
    · rw [bI_no c, if_pos rfl, if_pos (by omega)]
      by_cases c7 : vk (W v) j = 7
      · rw [c7, if_pos (by decide)]
        exact ⟨σ, τ, _, rfl, rfl, hR⟩
      · rw [if_neg (show ¬ _ = (7 : Int32) from fun e => c7 ((ln_eq (b := 7) (by omega) (by omega)).mp e)), k56 (by omega)]
        exact ⟨σ, τ, _, rfl, rfl, hR⟩
  · rw [e1, e2, cl_mk, cl_mk, if_pos rfl, if_pos rfl]
    exact ⟨σ, τ, -1, rfl, rfl, hR⟩
/-- a state of the reference of which only its own scratch has changed -/
theorem RR.um {σ τ τ' : St} (h : RR σ τ) (u : UM τ τ') (h3 : gi τ' 803 0 = gi τ 803 0) (h0 : ga τ' 2 0 = ga τ 2 0) : RR σ τ' := by
  obtain ⟨tx, ou, nv, W, r1, r2, r3, r4⟩ := h
  refine ⟨tx, ou, nv, W, ⟨r1.1, by rw [h3, r1.2.1], by rw [h0]; exact r1.2.2⟩, r2.of rfl (fun _ _ => ⟨rfl, rfl⟩) u.1.1 (u.2.2.2 1 (by omega)), by rw [u.1.2.1, r3], r4.of rfl u.1.2.2 (fun v _ => KX.refl' v σ) (fun v _ => KM_UM u)⟩
theorem op_letter {σ τ : St} (h : RR σ τ) (x y z : Int32) : OK (f_X8_letter σ x y z) (f_X9_letter τ x y z) := by
  have hR := h
  obtain ⟨tx, ou, nv, W, h1, h2, h3, h4⟩ := h
  have hn := h4.1
  unfold f_X8_letter f_X9_letter
  rcases isF h4 x y with ⟨v, j, hv, hj, rfl, rfl, e1, e2⟩ | ⟨e1, e2⟩
  · obtain ⟨a, b, w⟩ := h4.2.2.2 v hv
    have w40 : vn (W v) ≤ 40 := Nat.le_trans w.1.1 w.1.2.1
    have fx := (a.2.2.2.1 j hj).1.2.2.2.2.2.1
    obtain ⟨τ1, g1, g2, g3⟩ := m_spell (arr := 7) (Or.inl rfl) (show v < 8 by omega) w b hj
    have h64 := path_len64 w.2.1 hj
    have hR1 : RR σ τ1 := hR.um (g2.um (Or.inl rfl)) (g2.1 _ _) (g2.2 2 0 (by omega) (by omega))
    rw [e1, e2, cl_mk, cl_mk, if_neg i10, if_neg i10, g1, cl_mk]
    simp (disch := omega) only [ln_le, ln_lt, ln_eq, ln_neg, ln_0le, ln_le0, ln_0lt, ln_eq0, nI_1, nI_add, ln_40, ln_12, ln_8, ck_nI, ck_0]
    rcases pk_ix z (n := (nP (W v) j).length) (by omega) with h0 | h0 | ⟨i, hi, rfl⟩
    · rw [lx_at_out fx (Or.inl h0), m_in_no (by omega) (Or.inl h0), cl_mk, cl_mk, if_pos rfl]
      exact ⟨σ, τ1, -1, rfl, rfl, hR1⟩
    · rw [lx_at_out fx (Or.inr h0), m_in_no (by omega) (Or.inr h0), cl_mk, cl_mk, if_pos rfl]
      exact ⟨σ, τ1, -1, rfl, rfl, hR1⟩
    · rw [lx_at fx hi, m_in_yes (by omega) hi, cl_mk, cl_mk, if_neg i10, ck_nI (by omega) (by omega)]
      have hb := g3 i hi
      rw [Nat.zero_add] at hb
      have h128 : el (nP (W v) j) i < 128 := by
        rw [el_t hi]
        have := path_ch w.2.1 j hj _ (List.getElem_mem hi)
        unfold PC NC at this
        omega
      rw [hb, sB_asc h128]
      exact ⟨σ, τ1, _, rfl, rfl, hR1⟩
  · rw [e1, e2, cl_mk, cl_mk, if_pos rfl, if_pos rfl]
    exact ⟨σ, τ, -1, rfl, rfl, hR⟩
theorem op_field {σ τ : St} (h : RR σ τ) (x y z : Int32) : OK (f_X8_field σ x y z) (f_X9_field_ τ x y z) := by
  have hR := h
  obtain ⟨tx, ou, nv, W, h1, h2, h3, h4⟩ := h
  have hn := h4.1
  unfold f_X8_field f_X9_field_
  rcases isF h4 x y with ⟨v, j, hv, hj, rfl, rfl, e1, e2⟩ | ⟨e1, e2⟩
  · obtain ⟨a, b, w⟩ := h4.2.2.2 v hv
    have w40 : vn (W v) ≤ 40 := Nat.le_trans w.1.1 w.1.2.1
    have fx := a.2.2.2.1 j hj
    have fm := b.2.2.2.1 j hj
    have k8 := (w.2.2.2.2.1 j hj).1
    rw [e1, e2, cl_mk, cl_mk, if_neg i10, if_neg i10]
    rw [ck_nI (by omega) (by omega), ck_nI (by omega) (by omega), ln_40, nI_add]
    simp only [bnd]
    rw [show (9 : Int32) = nI 10 - 1 from by decide]
    rcases pk_ix z (n := 10) (by omega) with h0 | h0 | ⟨i, hi, rfl⟩
    · have ne : ∀ j, j < 10 → ¬ z = nI j := fun j hj => out_ne (Or.inl h0) hj (by omega)
      rw [m_in_no (by omega) (Or.inl h0), cl_mk, if_pos rfl, if_neg (show ¬ _ = (0 : Int32) from ne 0 (by omega)), if_neg (show ¬ _ = (1 : Int32) from ne 1 (by omega)), if_neg (show ¬ _ = (2 : Int32) from ne 2 (by omega)), if_neg (show ¬ _ = (3 : Int32) from ne 3 (by omega)), if_neg (show ¬ _ = (4 : Int32) from ne 4 (by omega)), if_neg (show ¬ _ = (5 : Int32) from ne 5 (by omega)), if_neg (show ¬ _ = (6 : Int32) from ne 6 (by omega)), if_neg (show ¬ _ = (7 : Int32) from ne 7 (by omega)), if_neg (show ¬ _ = (8 : Int32) from ne 8 (by omega)), if_neg (show ¬ z = (nI 10 - 1 : Int32) from by rw [show (nI 10 - 1 : Int32) = nI 9 from by decide]; exact ne 9 (by omega))]
      exact ⟨σ, τ, -1, rfl, rfl, hR⟩
    · have ne : ∀ j, j < 10 → ¬ z = nI j := fun j hj => out_ne (Or.inr h0) hj (by omega)
      rw [m_in_no (by omega) (Or.inr h0), cl_mk, if_pos rfl, if_neg (show ¬ _ = (0 : Int32) from ne 0 (by omega)), if_neg (show ¬ _ = (1 : Int32) from ne 1 (by omega)), if_neg (show ¬ _ = (2 : Int32) from ne 2 (by omega)), if_neg (show ¬ _ = (3 : Int32) from ne 3 (by omega)), if_neg (show ¬ _ = (4 : Int32) from ne 4 (by omega)), if_neg (show ¬ _ = (5 : Int32) from ne 5 (by omega)), if_neg (show ¬ _ = (6 : Int32) from ne 6 (by omega)), if_neg (show ¬ _ = (7 : Int32) from ne 7 (by omega)), if_neg (show ¬ _ = (8 : Int32) from ne 8 (by omega)), if_neg (show ¬ z = (nI 10 - 1 : Int32) from by rw [show (nI 10 - 1 : Int32) = nI 9 from by decide]; exact ne 9 (by omega))]
      exact ⟨σ, τ, -1, rfl, rfl, hR⟩
    · rw [m_in_yes (by omega) hi, cl_mk, if_neg i10]
      match i, hi with
      | 0, _ =>
        rw [if_pos n00, if_pos n00, fx.1.1, ck_nI (by omega) (by omega), fm.1.1]
        exact ⟨σ, τ, _, rfl, rfl, hR⟩
      | 1, _ =>
        iterate 1 rw [if_neg (by decide)]
        rw [if_pos (by decide)]
        iterate 1 rw [if_neg (by decide)]
        rw [if_pos (by decide)]
        rw [fx.1.2.1, ck_nI (by omega) (by omega), fm.1.2.1]
        exact ⟨σ, τ, _, rfl, rfl, hR⟩
      | 2, _ =>
        iterate 2 rw [if_neg (by decide)]
        rw [if_pos (by decide)]
        iterate 2 rw [if_neg (by decide)]
        rw [if_pos (by decide)]
        rw [fx.1.2.2.1, ck_nI (by omega) (by omega), fm.1.2.2.1]
        exact ⟨σ, τ, _, rfl, rfl, hR⟩
      | 3, _ =>
        iterate 3 rw [if_neg (by decide)]
        rw [if_pos (by decide)]
        iterate 3 rw [if_neg (by decide)]
        rw [if_pos (by decide)]
        rw [fx.2.1, ck_nI (by omega) (by omega), fm.2.1]
        exact ⟨σ, τ, _, rfl, rfl, hR⟩
      | 4, _ =>
        iterate 4 rw [if_neg (by decide)]
        rw [if_pos (by decide)]
        iterate 4 rw [if_neg (by decide)]
        rw [if_pos (by decide)]
        rw [fx.2.2, ck_nI (by omega) (by omega), fm.2.2]
        exact ⟨σ, τ, _, rfl, rfl, hR⟩
      | 5, _ =>
        iterate 5 rw [if_neg (by decide)]
        rw [if_pos (by decide)]
        iterate 5 rw [if_neg (by decide)]
        rw [if_pos (by decide)]
        rw [fx.1.2.2.2.1, ck_nI (by omega) (by omega), fm.1.2.2.2.1]
        exact ⟨σ, τ, _, rfl, rfl, hR⟩
      | 6, _ =>
        iterate 6 rw [if_neg (by decide)]
        rw [if_pos (by decide)]
        iterate 6 rw [if_neg (by decide)]
        rw [if_pos (by decide)]
        obtain ⟨g1, g2⟩ := with_loop (v := v) (by omega) a b w (show j < 40 by omega) (vn (W v)) 0 (by omega) 0 fl (by have := fl_big; omega)
        refine ⟨σ, τ, _, ?_, g2, hR⟩
        unfold f_X7_countWithin
        have g1 : f_X7_countWithin_4 fl σ v (nI j) 0 0 = _ := g1
        rw [g1, cl_mk]
      | 7, _ =>
        iterate 7 rw [if_neg (by decide)]
        rw [if_pos (by decide)]
        iterate 7 rw [if_neg (by decide)]
        rw [if_pos (by decide)]
        obtain ⟨τ1, g1, g2, g3⟩ := m_spell (arr := 7) (Or.inl rfl) (show v < 8 by omega) w b hj
        have hR1 : RR σ τ1 := hR.um (g2.um (Or.inl rfl)) (g2.1 _ _) (g2.2 2 0 (by omega) (by omega))
        unfold f_X3_length
        rw [g1, cl_mk, cl_mk, fx.1.2.2.2.2.2.1.1]
        exact ⟨σ, τ1, _, rfl, rfl, hR1⟩
      | 8, _ =>
        iterate 8 rw [if_neg (by decide)]
        rw [if_pos (by decide)]
        iterate 8 rw [if_neg (by decide)]
        rw [if_pos (by decide)]
        unfold f_X3_length
        rw [cl_mk, fx.1.2.2.2.2.2.2.1, ck_nI (by omega) (by omega), fm.1.2.2.2.2.2.2.1]
        exact ⟨σ, τ, _, rfl, rfl, hR⟩
      | 9, _ =>
        iterate 9 rw [if_neg (by decide)]
        rw [if_pos (by decide)]
        iterate 9 rw [if_neg (by decide)]
        unfold f_X7_countReached
        rw [if_neg (nI_pos (by omega)), a.1, if_neg (nI_ge hj (by omega)), ck_nI (by omega) (by omega), fx.1.1, x_leaf k8, cl_mk]
        by_cases c : vk (W v) j ≤ 4
        · rw [bI_yes c, if_neg i10]
          have hA := w.2.2.2.2.2.1 j hj
          have g1 := reach_X (v := v) (by omega) a w (vn (W v)) (by omega) j hj hA 1 (by omega) fl (by have := fl_big; omega)
          have g2 := reach_M (v := v) (by omega) b w hj c (vn (W v)) (some j) (fun c hc => by cases hc; exact ⟨hj, hA⟩) (by omega) 0 fl (by have := fl_big; omega)
          have e : 1 + lnC (oC (W v)) (vn (W v)) j - 1 = 0 + lnC (oC (W v)) (vn (W v)) j := by omega
          rw [e] at g1
          refine ⟨σ, τ, _, ?_, g2, hR⟩
          have g1 : f_X7_countReached_33 fl σ v (nI j) 1 = _ := g1
          rw [g1, cl_mk]
        · rw [bI_no c, if_pos rfl, cl_mk]
          refine ⟨σ, τ, 0, rfl, ?_, hR⟩
          rw [show fl = 20099 + 1 from rfl]
          unfold f_X9_field__203
          rw [ck_nI (by omega) (by omega), fm.1.1, if_pos ((ln_gt4 (by omega)).mpr (by omega))]
  · rw [e1, e2, cl_mk, cl_mk, if_pos rfl, if_pos rfl]
    exact ⟨σ, τ, -1, rfl, rfl, hR⟩
