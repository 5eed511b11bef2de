/-! What the two sides have in common: versions as they are meant, and the relation of the states. -/
def NC (c : Nat) : Prop := (97 ≤ c ∧ c ≤ 122) ∨ (48 ≤ c ∧ c ≤ 57) ∨ c = 95
def Nm (l : List Nat) : Prop := 0 < l.length ∧ l.length ≤ 12 ∧ ∀ c, c ∈ l → NC c
/-- a version: numbers, rows of letters, numbers that may be none -/
abbrev Vd : Type := (Nat → Nat → Nat) × (Nat → Nat → List Nat) × (Nat → Nat → Option Nat)
def vn (d : Vd) : Nat := d.1 6 0
def vr (d : Vd) : Nat := d.1 6 1
def vl (d : Vd) : Nat := d.1 6 2
def vk (d : Vd) (j : Nat) : Nat := d.1 0 j
def vo (d : Vd) (j : Nat) : Nat := d.1 1 j
def vd (d : Vd) (j : Nat) : Nat := d.1 2 j
def rk (d : Vd) (j : Nat) : Nat := d.1 3 j
def rs (d : Vd) (j : Nat) : Nat := d.1 4 j
def vs (d : Vd) (j : Nat) : Nat := d.1 5 j
def nN (d : Vd) (j : Nat) : List Nat := d.2.1 0 j
def nP (d : Vd) (j : Nat) : List Nat := d.2.1 1 j
def nB (d : Vd) (j : Nat) : List Nat := d.2.1 2 j
def rF (d : Vd) (j : Nat) : List Nat := d.2.1 3 j
def rT (d : Vd) (j : Nat) : List Nat := d.2.1 4 j
def oH (d : Vd) (j : Nat) : Option Nat := d.2.2 0 j
def oC (d : Vd) (j : Nat) : Option Nat := d.2.2 1 j
def oO (d : Vd) (j : Nat) : Option Nat := d.2.2 2 j
def oZ (d : Vd) (j : Nat) : Option Nat := d.2.2 3 j
def bt (o b : Nat) : Nat := o / 2 ^ b % 2
/-- a field of the class, one of the reference -/
def FX (σ : St) (g k o : Nat) (z h : Option Nat) (d : Nat) (P B : List Nat) : Prop :=
  gi σ 102 g = nI k ∧ gi σ 103 g = nI o ∧ gi σ 104 g = oI z ∧ gi σ 107 g = oI h ∧ gi σ 108 g = nI d ∧ LX σ (5 + 2 * g) P ∧ LX σ (6 + 2 * g) B
def FM (τ : St) (g k o : Nat) (z h : Option Nat) (N B : List Nat) : Prop :=
  ga τ 1 4 g = nI k ∧ ga τ 1 5 g = nI o ∧ ga τ 1 6 g = oI z ∧ ga τ 1 10 g = oI h ∧ ga τ 1 3 g = nI N.length ∧ Bs (ga τ 2 3) (12 * g) N ∧ ga τ 1 9 g = nI B.length ∧ Bs (ga τ 2 4) (12 * g) B
def RX (σ : St) (q k s : Nat) (F T : List Nat) : Prop := gi σ 303 q = nI k ∧ gi σ 302 q = nI s ∧ LX σ (645 + 2 * q) F ∧ LX σ (646 + 2 * q) T
def RM (τ : St) (q k s : Nat) (F T : List Nat) : Prop := ga τ 1 13 q = nI k ∧ ga τ 4 0 q = nI s ∧ ga τ 1 11 q = nI F.length ∧ Bs (ga τ 2 5) (12 * q) F ∧ ga τ 1 12 q = nI T.length ∧ Bs (ga τ 2 6) (12 * q) T
def VX (σ : St) (v : Nat) (d : Vd) : Prop :=
  gi σ 603 v = nI (vn d) ∧ gi σ 604 v = nI (vr d) ∧ gi σ 605 v = nI (vl d) ∧
  (∀ j, j < vn d → FX σ (40 * v + j) (vk d j) (vo d j) (oZ d j) (oH d j) (vd d j) (nP d j) (nB d j) ∧ gi σ 105 (40 * v + j) = oI (oC d j) ∧ gi σ 106 (40 * v + j) = oI (oO d j)) ∧
  (∀ r, r < vr d → RX σ (8 * v + r) (rk d r) (rs d r) (rF d r) (rT d r)) ∧
  (∀ i, i < vn d → ga σ 8 v i = nI (vs d i))
def VM (τ : St) (v : Nat) (d : Vd) : Prop :=
  ga τ 1 0 v = nI (vn d) ∧ ga τ 1 1 v = nI (vr d) ∧ ga τ 1 2 v = nI (vl d) ∧
  (∀ j, j < vn d → FM τ (40 * v + j) (vk d j) (vo d j) (oZ d j) (oH d j) (nN d j) (nB d j) ∧ ga τ 1 7 (40 * v + j) = oI (oC d j) ∧ ga τ 1 8 (40 * v + j) = oI (oO d j)) ∧
  (∀ r, r < vr d → RM τ (8 * v + r) (rk d r) (rs d r) (rF d r) (rT d r))
def WTj (d : Vd) (j : Nat) : Prop := Nm (nN d j) ∧ vd d j ≤ 4 ∧ ((oH d j = none ∧ vd d j = 0 ∧ nP d j = nN d j) ∨ ∃ h, h < j ∧ oH d j = some h ∧ vd d j = vd d h + 1 ∧ nP d j = nP d h ++ 46 :: nN d j)
def WT (d : Vd) : Prop := ∀ j, j < vn d → WTj d j
def WP (d : Vd) : Prop := ∀ j, j < vn d → ∀ h, oH d j = some h → ∀ i, h < i → i < j → vd d h < vd d i
def WU (d : Vd) : Prop := ∀ i j, i < j → j < vn d → nP d i ≠ nP d j
def WFj (d : Vd) (j : Nat) : Prop := vk d j < 8 ∧ vo d j < 128 ∧ (nB d j = [] ∨ Nm (nB d j)) ∧ (∀ c, oC d j = some c → c < vn d) ∧ (∀ c, oO d j = some c → c < vn d) ∧ (∀ z, oZ d j = some z → z < 1000000) ∧
  (bt (vo d j) 3 = 1 ↔ oZ d j ≠ none) ∧ (bt (vo d j) 4 = 1 ↔ oC d j ≠ none) ∧ (bt (vo d j) 5 = 1 ↔ nB d j ≠ []) ∧ (bt (vo d j) 6 = 1 ↔ oO d j ≠ none) ∧ (vk d j = 5 ∨ vk d j = 6 → oO d j = none)
def WF (d : Vd) : Prop := ∀ j, j < vn d → WFj d j
/-- so many copies on -/
def itC (C : Nat → Option Nat) : Nat → Nat → Option Nat
  | 0, j => some j
  | n + 1, j => match C j with
    | none => none
    | some c => itC C n c
def WA (d : Vd) : Prop := ∀ j, j < vn d → itC (oC d) (vn d) j = none
def WR (d : Vd) : Prop := ∀ r, r < vr d → rk d r < 8 ∧ rs d r ≤ 1 ∧ (rF d r = [] ∨ Nm (rF d r)) ∧ (rT d r = [] ∨ Nm (rT d r)) ∧ (rs d r = 0 → rT d r = [])
def WO (d : Vd) : Prop := (∀ i, i < vn d → vs d i < vn d) ∧ (∀ i j, i < j → j < vn d → cmI (nP d (vs d i)) (nP d (vs d j)) < 0) ∧ (∀ j, j < vn d → ∃ i, i < vn d ∧ vs d i = j)
def WN (d : Vd) : Prop := vn d ≤ vl d ∧ vl d ≤ 40 ∧ vr d ≤ 8
def VW (d : Vd) : Prop := WN d ∧ WT d ∧ WP d ∧ WU d ∧ WF d ∧ WA d ∧ WR d ∧ WO d
def RT (σ τ : St) (tx : List Nat) : Prop := LX σ 0 tx ∧ gi τ 803 0 = nI tx.length ∧ Bs (ga τ 2 0) 0 tx
def RO (σ τ : St) (ou : List Nat) : Prop := LX σ (gr σ 0 0) ou ∧ gi τ 806 0 = nI ou.length ∧ Bs (ga τ 2 1) 0 ou ∧ (∀ c, c ∈ ou → c < 128) ∧ ((gr σ 0 0 = 2 ∧ gr σ 1 0 = 3) ∨ (gr σ 0 0 = 3 ∧ gr σ 1 0 = 2))
def RV (σ τ : St) (nv : Nat) (W : Nat → Vd) : Prop := nv ≤ 8 ∧ gi σ 708 0 = nI nv ∧ gi τ 810 0 = nI nv ∧ ∀ v, v < nv → VX σ v (W v) ∧ VM τ v (W v) ∧ VW (W v)
def RR (σ τ : St) : Prop := ∃ (tx ou : List Nat) (nv : Nat) (W : Nat → Vd), RT σ τ tx ∧ RO σ τ ou ∧ gi σ 709 0 = gi τ 809 0 ∧ RV σ τ nv W
/-! what must stay for a version to stay -/
def KX (v : Nat) (σ σ' : St) : Prop :=
  (∀ f, f = 603 ∨ f = 604 ∨ f = 605 → gi σ' f v = gi σ f v) ∧
  (∀ f g, 102 ≤ f → f ≤ 108 → 40 * v ≤ g → g < 40 * v + 40 → gi σ' f g = gi σ f g) ∧
  (∀ f q, f = 302 ∨ f = 303 → 8 * v ≤ q → q < 8 * v + 8 → gi σ' f q = gi σ f q) ∧
  (∀ k, (80 * v + 5 ≤ k ∧ k < 80 * v + 85) ∨ (16 * v + 645 ≤ k ∧ k < 16 * v + 661) → gi σ' 201 k = gi σ 201 k ∧ ga σ' 2 k = ga σ 2 k) ∧
  ga σ' 8 v = ga σ 8 v
theorem LX_of {σ σ' : St} {k : Nat} {l : List Nat} (h : LX σ k l) (h1 : gi σ' 201 k = gi σ 201 k) (h2 : ga σ' 2 k = ga σ 2 k) : LX σ' k l := by
  unfold LX
  rw [h1, h2]
  exact h
theorem KX.vx {v : Nat} {σ σ' : St} (a : KX v σ σ') {d : Vd} (w : WN d) (h : VX σ v d) : VX σ' v d := by
  obtain ⟨h1, h2, h3, h4, h5, h6⟩ := h
  obtain ⟨w1, w2, w3⟩ := w
  refine ⟨?_, ?_, ?_, fun j hj => ?_, fun r hr => ?_, fun i hi => ?_⟩
  · rw [a.1 603 (by omega), h1]
  · rw [a.1 604 (by omega), h2]
  · rw [a.1 605 (by omega), h3]
  · obtain ⟨⟨f1, f2, f3, f4, f5, f6, f7⟩, f8, f9⟩ := h4 j hj
    have e1 := a.2.2.2.1 (5 + 2 * (40 * v + j)) (by omega)
    have e2 := a.2.2.2.1 (6 + 2 * (40 * v + j)) (by omega)
    refine ⟨⟨?_, ?_, ?_, ?_, ?_, LX_of f6 e1.1 e1.2, LX_of f7 e2.1 e2.2⟩, ?_, ?_⟩
    · rw [a.2.1 102 _ (by omega) (by omega) (by omega) (by omega), f1]
    · rw [a.2.1 103 _ (by omega) (by omega) (by omega) (by omega), f2]
    · rw [a.2.1 104 _ (by omega) (by omega) (by omega) (by omega), f3]
    · rw [a.2.1 107 _ (by omega) (by omega) (by omega) (by omega), f4]
    · rw [a.2.1 108 _ (by omega) (by omega) (by omega) (by omega), f5]
    · rw [a.2.1 105 _ (by omega) (by omega) (by omega) (by omega), f8]
    · rw [a.2.1 106 _ (by omega) (by omega) (by omega) (by omega), f9]
  · obtain ⟨f1, f2, f6, f7⟩ := h5 r hr
    have e1 := a.2.2.2.1 (645 + 2 * (8 * v + r)) (by omega)
    have e2 := a.2.2.2.1 (646 + 2 * (8 * v + r)) (by omega)
    refine ⟨?_, ?_, LX_of f6 e1.1 e1.2, LX_of f7 e2.1 e2.2⟩
    · rw [a.2.2.1 303 _ (by omega) (by omega) (by omega), f1]
    · rw [a.2.2.1 302 _ (by omega) (by omega) (by omega), f2]
  · rw [a.2.2.2.2, h6 i hi]
def KM (v : Nat) (τ τ' : St) : Prop :=
  (∀ f, f = 0 ∨ f = 1 ∨ f = 2 → ga τ' 1 f v = ga τ 1 f v) ∧
  (∀ f g, 3 ≤ f → f ≤ 10 → 40 * v ≤ g → g < 40 * v + 40 → ga τ' 1 f g = ga τ 1 f g) ∧
  (∀ f g, f = 3 ∨ f = 4 → 480 * v ≤ g → g < 480 * v + 480 → ga τ' 2 f g = ga τ 2 f g) ∧
  (∀ f q, f = 11 ∨ f = 12 ∨ f = 13 → 8 * v ≤ q → q < 8 * v + 8 → ga τ' 1 f q = ga τ 1 f q) ∧
  (∀ q, 8 * v ≤ q → q < 8 * v + 8 → ga τ' 4 0 q = ga τ 4 0 q) ∧
  (∀ f g, f = 5 ∨ f = 6 → 96 * v ≤ g → g < 96 * v + 96 → ga τ' 2 f g = ga τ 2 f g)
theorem Nm.le {l : List Nat} (h : l = [] ∨ Nm l) : l.length ≤ 12 := by
  rcases h with rfl | h
  · simp
  · exact h.2.1
theorem Nm.by' {l : List Nat} (h : Nm l) : By l := fun c hc => by
  have := h.2.2 c hc
  unfold NC at this
  omega
theorem Nm.by'' {l : List Nat} (h : l = [] ∨ Nm l) : By l := by
  rcases h with rfl | h
  · exact fun c hc => nomatch hc
  · exact h.by'
theorem Bs_of {a b : Nat → Int32} {o : Nat} {l : List Nat} (h : Bs a o l) (e : ∀ i, i < l.length → b (o + i) = a (o + i)) : Bs b o l := fun i hi => (e i hi).trans (h i hi)
theorem KM.vm {v : Nat} {τ τ' : St} (a : KM v τ τ') {d : Vd} (w : VW d) (h : VM τ v d) : VM τ' v d := by
  obtain ⟨h1, h2, h3, h4, h5⟩ := h
  obtain ⟨⟨w1, w2, w3⟩, wt, _, _, wf, _, wr, _⟩ := w
  refine ⟨?_, ?_, ?_, fun j hj => ?_, fun r hr => ?_⟩
  · rw [a.1 0 (by omega), h1]
  · rw [a.1 1 (by omega), h2]
  · rw [a.1 2 (by omega), h3]
  · obtain ⟨⟨f1, f2, f3, f4, f5, f6, f7, f8⟩, f9, f10⟩ := h4 j hj
    have n1 := (wt j hj).1.2.1
    have n2 := Nm.le (wf j hj).2.2.1
    refine ⟨⟨?_, ?_, ?_, ?_, ?_, ?_, ?_, ?_⟩, ?_, ?_⟩
    · rw [a.2.1 4 _ (by omega) (by omega) (by omega) (by omega), f1]
    · rw [a.2.1 5 _ (by omega) (by omega) (by omega) (by omega), f2]
    · rw [a.2.1 6 _ (by omega) (by omega) (by omega) (by omega), f3]
    · rw [a.2.1 10 _ (by omega) (by omega) (by omega) (by omega), f4]
    · rw [a.2.1 3 _ (by omega) (by omega) (by omega) (by omega), f5]
    · exact Bs_of f6 (fun i hi => a.2.2.1 3 _ (by omega) (by omega) (by omega))
    · rw [a.2.1 9 _ (by omega) (by omega) (by omega) (by omega), f7]
    · exact Bs_of f8 (fun i hi => a.2.2.1 4 _ (by omega) (by omega) (by omega))
    · rw [a.2.1 7 _ (by omega) (by omega) (by omega) (by omega), f9]
    · rw [a.2.1 8 _ (by omega) (by omega) (by omega) (by omega), f10]
  · obtain ⟨f1, f2, f3, f4, f5, f6⟩ := h5 r hr
    have n1 := Nm.le (wr r hr).2.2.1
    have n2 := Nm.le (wr r hr).2.2.2.1
    refine ⟨?_, ?_, ?_, ?_, ?_, ?_⟩
    · rw [a.2.2.2.1 13 _ (by omega) (by omega) (by omega), f1]
    · rw [a.2.2.2.2.1 _ (by omega) (by omega), f2]
    · rw [a.2.2.2.1 11 _ (by omega) (by omega) (by omega), f3]
    · exact Bs_of f4 (fun i hi => a.2.2.2.2.2 5 _ (by omega) (by omega) (by omega))
    · rw [a.2.2.2.1 12 _ (by omega) (by omega) (by omega), f5]
    · exact Bs_of f6 (fun i hi => a.2.2.2.2.2 6 _ (by omega) (by omega) (by omega))
theorem KX.refl' (v : Nat) (σ : St) : KX v σ σ := ⟨fun _ _ => rfl, fun _ _ _ _ _ _ => rfl, fun _ _ _ _ _ => rfl, fun _ _ => ⟨rfl, rfl⟩, rfl⟩
theorem KM.refl' (v : Nat) (τ : St) : KM v τ τ := ⟨fun _ _ => rfl, fun _ _ _ _ _ _ => rfl, fun _ _ _ _ _ => rfl, fun _ _ _ _ _ => rfl, fun _ _ _ => rfl, fun _ _ _ _ _ => rfl⟩
theorem RV.of {σ τ σ' τ' : St} {nv : Nat} {W : Nat → Vd} (h : RV σ τ nv W) (h1 : gi σ' 708 0 = gi σ 708 0) (h2 : gi τ' 810 0 = gi τ 810 0) (hX : ∀ v, v < nv → KX v σ σ') (hM : ∀ v, v < nv → KM v τ τ') : RV σ' τ' nv W := by
  refine ⟨h.1, by rw [h1, h.2.1], by rw [h2, h.2.2.1], fun v hv => ?_⟩
  obtain ⟨a, b, c⟩ := h.2.2.2 v hv
  exact ⟨(hX v hv).vx c.1 a, (hM v hv).vm c b, c⟩
