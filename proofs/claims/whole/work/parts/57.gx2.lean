/-! The class grows a version: the draft. -/
def DL (v i : Nat) : Prop := (80 * v + 5 ≤ i ∧ i < 80 * v + 85) ∨ (16 * v + 645 ≤ i ∧ i < 16 * v + 661)
/-- only the draft v changes -/
def DX (v : Nat) (σ σ' : St) : Prop := σ'.2.1 = σ.2.1 ∧
  (∀ f i, ¬ ((102 ≤ f ∧ f ≤ 108 ∧ 40 * v ≤ i ∧ i < 40 * v + 40) ∨ ((f = 201 ∨ f = 202) ∧ DL v i) ∨ ((f = 302 ∨ f = 303) ∧ 8 * v ≤ i ∧ i < 8 * v + 8) ∨ ((f = 603 ∨ f = 604 ∨ f = 605) ∧ i = v)) → gi σ' f i = gi σ f i) ∧
  (∀ f i, ¬ (f = 2 ∧ DL v i) → ¬ (f = 8 ∧ i = v) → ga σ' f i = ga σ f i)
theorem DX.trans {v : Nat} {σ σ1 σ2 : St} (h : DX v σ σ1) (k : DX v σ1 σ2) : DX v σ σ2 := ⟨k.1.trans h.1, fun f i a => (k.2.1 f i a).trans (h.2.1 f i a), fun f i a b => (k.2.2 f i a b).trans (h.2.2 f i a b)⟩
theorem DX.refl' (v : Nat) (σ : St) : DX v σ σ := ⟨rfl, fun _ _ _ => rfl, fun _ _ _ _ => rfl⟩
theorem DX.uf {v j : Nat} (hj : j < 40) {σ σ' : St} (h : UF (40 * v + j) σ σ') : DX v σ σ' := ⟨h.1, fun f i a => h.2.1 f i (by unfold DL at a; omega), fun f i a _ => h.2.2 f i (by unfold DL at a; omega)⟩
theorem DX.s6 {v f : Nat} (hf : f = 603 ∨ f = 604 ∨ f = 605) (σ : St) (x : Int32) : DX v σ (si σ f v x) := ⟨rfl, fun f' i a => by
  simp only [gi_si, gi_sr, gi_sg, gi_sa, gr_si, rr_sr, gr_sg, gr_sa, ga_si, ga_sr, ga_sg, ga_sa, true_and, and_true, false_and, and_false, Nat.reduceEqDiff, ↓reduceIte]
  rw [if_neg (by omega)], fun _ _ _ _ => rfl⟩
theorem DX.us8 {v : Nat} {σ σ' : St} (h : US8 v σ σ') : DX v σ σ' := ⟨h.1, fun f i _ => h.2.1 f i, fun f i _ b => h.2.2 f i b⟩
theorem DX.lx {v k : Nat} {σ σ' : St} (h : DX v σ σ') (hk : ¬ DL v k) {l : List Nat} (a : LX σ k l) : LX σ' k l := LX_of a (h.2.1 _ _ (by unfold DL at hk ⊢; omega)) (h.2.2 _ _ (by unfold DL at hk ⊢; omega) (by omega))
theorem DX.kx {u v : Nat} (hu : u < 8) (hv : v < 8) (huv : u ≠ v) {σ σ' : St} (h : DX v σ σ') : KX u σ σ' := by
  refine ⟨fun f hf => h.2.1 _ _ (by unfold DL; omega), fun f g a b c d => h.2.1 _ _ (by unfold DL; omega), fun f q a b c => h.2.1 _ _ (by unfold DL; omega), fun k hk => ⟨h.2.1 _ _ (by unfold DL; omega), h.2.2 _ _ (by unfold DL; omega) (by omega)⟩, h.2.2 _ _ (by unfold DL; omega) (by omega)⟩
/-- a rule's keys -/
def UQ (q : Nat) (σ σ' : St) : Prop := σ'.2.1 = σ.2.1 ∧ (∀ f i, ¬ (((f = 302 ∨ f = 303) ∧ i = q) ∨ ((f = 201 ∨ f = 202) ∧ (i = 645 + 2 * q ∨ i = 646 + 2 * q))) → gi σ' f i = gi σ f i) ∧ (∀ f i, ¬ (f = 2 ∧ (i = 645 + 2 * q ∨ i = 646 + 2 * q)) → ga σ' f i = ga σ f i)
theorem UQ.trans {g : Nat} {σ σ1 σ2 : St} (h : UQ g σ σ1) (k : UQ g σ1 σ2) : UQ g σ σ2 := ⟨k.1.trans h.1, fun f i a => (k.2.1 f i a).trans (h.2.1 f i a), fun f i a => (k.2.2 f i a).trans (h.2.2 f i a)⟩
theorem UQ.ul {g k : Nat} (hk : k = 645 + 2 * g ∨ k = 646 + 2 * g) {σ σ' : St} (h : UL k σ σ') : UQ g σ σ' := ⟨h.1, fun f i a => h.2.1 f i (by omega), fun f i a => h.2.2 f i (by omega)⟩
theorem DX.uq {v j : Nat} (hj : j < 8) {σ σ' : St} (h : UQ (8 * v + j) σ σ') : DX v σ σ' := ⟨h.1, fun f i a => h.2.1 f i (by unfold DL at a; omega), fun f i a _ => h.2.2 f i (by unfold DL at a; omega)⟩
theorem RX.uq {q q' k s : Nat} {F T : List Nat} {σ σ' : St} (u : UQ q σ σ') (hne : q' ≠ q) (a : RX σ q' k s F T) : RX σ' q' k s F T := by
  obtain ⟨a1, a2, a3, a4⟩ := a
  refine ⟨?_, ?_, LX_of a3 (u.2.1 _ _ (by omega)) (u.2.2 _ _ (by omega)), LX_of a4 (u.2.1 _ _ (by omega)) (u.2.2 _ _ (by omega))⟩
  · rw [u.2.1 _ _ (by omega), a1]
  · rw [u.2.1 _ _ (by omega), a2]
/-- a version but for its order -/
def VX0 (σ : St) (v : Nat) (d : Vd) : Prop :=
  gi σ 603 v = nI (vn d) ∧ gi σ 604 v = nI (vr d) ∧ gi σ 605 v = nI (vl d) ∧
  (∀ j, j < vn d → FXc σ (40 * v + j) (vk d j) (vo d j) (oZ d j) (oH d j) (vd d j) (nP d j) (nB d j) (oC d j) (oO d j)) ∧
  (∀ r, r < vr d → RX σ (8 * v + r) (rk d r) (rs d r) (rF d r) (rT d r))
section G2
variable {σ : St} {u v e k0 D0 : Nat} {d : Vd} {N0 P0 : List Nat} {H0 : Option Nat} {s : Nat → Nat}
theorem x_copyR {q q0 k s : Nat} {F T : List Nat} (hne : q0 ≠ q) (hs : s ≤ 1) (a : RX σ q0 k s F T) : ∃ σ', f_X4_copyFrom σ q q0 = some (σ', ()) ∧ UQ q σ σ' ∧ RX σ' q k s F T := by
  obtain ⟨a1, a2, a3, a4⟩ := a
  obtain ⟨s1, e1, u1, l1, _⟩ := lx_copy (k := 645 + 2 * q) a3 (by omega) (by have := a3.2.1; rw [cap45] at this; rw [cap45]; exact this)
  obtain ⟨s2, e2, u2, l2, _⟩ := lx_copy (k := 646 + 2 * q) (u1.lx (by omega) a4) (by omega) (by have := a4.2.1; rw [cap46] at this; rw [cap46]; exact this)
  have u12 : UQ q σ s2 := (UQ.ul (Or.inl rfl) u1).trans (UQ.ul (Or.inr rfl) u2)
  have b1 : gi s2 303 q0 = nI k := by rw [u12.2.1 _ _ (by omega), a1]
  have b2 : gi s2 302 q0 = nI s := by rw [u12.2.1 _ _ (by omega), a2]
  have l1' := u2.lx (show 645 + 2 * q ≠ 646 + 2 * q by omega) l1
  unfold f_X4_copyFrom
  rw [e1, cl_mk, e2, cl_mk, b2]
  have : decide (nI s = 0 ∨ nI s = 1) = true := by
    have : s = 0 ∨ s = 1 := by omega
    rcases this with rfl | rfl <;> decide
  rw [this, cq_t]
  simp only [bnd, gi_si, gi_sr, gi_sg, gi_sa, gr_si, rr_sr, gr_sg, gr_sa, ga_si, ga_sr, ga_sg, ga_sa, true_and, and_true, false_and, and_false, Nat.reduceEqDiff, ↓reduceIte]
  rw [b1]
  refine ⟨_, rfl, u12.trans ⟨rfl, fun f i hh => ?_, fun f i hh => rfl⟩, ?_, ?_, LX_of l1' ?_ rfl, LX_of l2 ?_ rfl⟩
  · simp only [gi_si, gi_sr, gi_sg, gi_sa, gr_si, rr_sr, gr_sg, gr_sa, ga_si, ga_sr, ga_sg, ga_sa, true_and, and_true, false_and, and_false, Nat.reduceEqDiff, ↓reduceIte]
    repeat rw [if_neg (by omega)]
  all_goals simp only [gi_si, gi_sr, gi_sg, gi_sa, gr_si, rr_sr, gr_sg, gr_sa, ga_si, ga_sr, ga_sg, ga_sa, true_and, and_true, false_and, and_false, Nat.reduceEqDiff, ↓reduceIte]
theorem x_growR (hu : u < 8) (hv : v < 8) (huv : u ≠ v) (w : VW d) : ∀ (r i : Nat), i + r = vr d → ∀ (σ : St), VX σ u d → gi σ 604 v = nI (vr d) → (∀ r, r < i → RX σ (8 * v + r) (rk d r) (rs d r) (rF d r) (rT d r)) → ∀ m, r < m → ∃ σ' σ1, f_X7_growFrom_156 m σ v u (nI i) = some (σ', ()) ∧ σ' = si σ1 605 v (nI (vl d)) ∧ DX v σ σ1 ∧ (∀ f i, f < 300 ∨ 304 ≤ f → (f = 201 ∨ f = 202 → i < 645) → gi σ1 f i = gi σ f i) ∧ (∀ f i, i < 645 → ga σ1 f i = ga σ f i) ∧ (∀ r, r < vr d → RX σ1 (8 * v + r) (rk d r) (rs d r) (rF d r) (rT d r)) := by
  have w8 := w.1.2.2
  intro r
  induction r with
  | zero =>
    intro i hi σ a h4 hR m hm
    obtain ⟨m, rfl⟩ : ∃ m', m = m' + 1 := ⟨m - 1, by omega⟩
    refine ⟨_, σ, ?_, rfl, DX.refl' v σ, fun _ _ _ _ => rfl, fun _ _ _ => rfl, fun r hr => hR r (by omega)⟩
    rw [f_X7_growFrom_156.eq_2, h4, if_pos (nI_le (by omega) (by omega)), a.2.2.1]
    rfl
  | succ r ih =>
    intro i hi σ a h4 hR m hm
    obtain ⟨m, rfl⟩ : ∃ m', m = m' + 1 := ⟨m - 1, by omega⟩
    obtain ⟨s1, e1, u1, f1⟩ := x_copyR (q := 8 * v + i) (q0 := 8 * u + i) (by omega) (w.2.2.2.2.2.2.1 i (by omega)).2.1 (a.2.2.2.2.1 i (by omega))
    have dx := DX.uq (v := v) (by omega) u1
    obtain ⟨σ', σ1, k1, k2, k3, k4, k5, k6⟩ := ih (i + 1) (by omega) s1 ((dx.kx hu hv huv).vx w.1 a) (by rw [u1.2.1 _ _ (by omega), h4]) (fun r hr => by
      by_cases c : r = i
      · subst c
        exact f1
      · exact (hR r (by omega)).uq u1 (by omega)) m (by omega)
    refine ⟨σ', σ1, ?_, k2, dx.trans k3, fun f i h h' => (k4 f i h h').trans (u1.2.1 _ _ (by omega)), fun f i h => (k5 f i h).trans (u1.2.2 _ _ (by omega)), k6⟩
    rw [f_X7_growFrom_156.eq_2, h4, if_neg (nI_ge (by omega) (by omega)), ck_nI (by omega) (by omega), ck_nI (by omega) (by omega), e1, cl_mk, nI_1, k1]
/-- field j of the grown version -/
abbrev FGX (σ : St) (v : Nat) (d' : Vd) (j : Nat) : Prop := FXc σ (40 * v + j) (vk d' j) (vo d' j) (oZ d' j) (oH d' j) (vd d' j) (nP d' j) (nB d' j) (oC d' j) (oO d' j)
theorem gv_at {j : Nat} (h : j ≠ e) : ∀ (σ : St), FXc σ (40 * v + j) (vk d (bk e j)) (vo d (bk e j)) (oZ d (bk e j)) ((oH d (bk e j)).map (mv e)) (vd d (bk e j)) (nP d (bk e j)) (nB d (bk e j)) ((oC d (bk e j)).map (mv e)) ((oO d (bk e j)).map (mv e)) → FGX σ v (gv d e k0 D0 N0 P0 H0 s) j := by
  intro σ a
  have f0 : vk (gv d e k0 D0 N0 P0 H0 s) j = vk d (bk e j) := if_neg h
  have f1 : vo (gv d e k0 D0 N0 P0 H0 s) j = vo d (bk e j) := if_neg h
  have f2 : nB (gv d e k0 D0 N0 P0 H0 s) j = nB d (bk e j) := if_neg h
  have f3 : oC (gv d e k0 D0 N0 P0 H0 s) j = (oC d (bk e j)).map (mv e) := if_neg h
  have f4 : oO (gv d e k0 D0 N0 P0 H0 s) j = (oO d (bk e j)).map (mv e) := if_neg h
  have f5 : oZ (gv d e k0 D0 N0 P0 H0 s) j = oZ d (bk e j) := if_neg h
  have f6 : oH (gv d e k0 D0 N0 P0 H0 s) j = (oH d (bk e j)).map (mv e) := if_neg h
  have f7 : nP (gv d e k0 D0 N0 P0 H0 s) j = nP d (bk e j) := if_neg h
  have f8 : vd (gv d e k0 D0 N0 P0 H0 s) j = vd d (bk e j) := if_neg h
  unfold FGX
  rw [f0, f1, f2, f3, f4, f5, f6, f7, f8]
  exact a
theorem gv_at0 : ∀ (σ : St), FXc σ (40 * v + e) k0 0 none H0 D0 P0 [] none none → FGX σ v (gv d e k0 D0 N0 P0 H0 s) e := by
  intro σ a
  have f0 : vk (gv d e k0 D0 N0 P0 H0 s) e = k0 := if_pos rfl
  have f1 : vo (gv d e k0 D0 N0 P0 H0 s) e = 0 := if_pos rfl
  have f2 : nB (gv d e k0 D0 N0 P0 H0 s) e = [] := if_pos rfl
  have f3 : oC (gv d e k0 D0 N0 P0 H0 s) e = none := if_pos rfl
  have f4 : oO (gv d e k0 D0 N0 P0 H0 s) e = none := if_pos rfl
  have f5 : oZ (gv d e k0 D0 N0 P0 H0 s) e = none := if_pos rfl
  have f6 : oH (gv d e k0 D0 N0 P0 H0 s) e = H0 := if_pos rfl
  have f7 : nP (gv d e k0 D0 N0 P0 H0 s) e = P0 := if_pos rfl
  have f8 : vd (gv d e k0 D0 N0 P0 H0 s) e = D0 := if_pos rfl
  unfold FGX
  rw [f0, f1, f2, f3, f4, f5, f6, f7, f8]
  exact a
theorem x_growF (hu : u < 8) (hv : v < 8) (huv : u ≠ v) (w : VW d) (h39 : vn d < 40) (hE : PE d H0 e) (hD : (H0 = none ∧ D0 = 0) ∨ ∃ h, H0 = some h ∧ D0 = vd d h + 1 ∧ (nP d h).length < 64) (h64 : P0.length ≤ 64) : ∀ (r i : Nat), i + r = vn d + 1 → ∀ (σ : St), VX σ u d → LX σ 1 P0 → gi σ 603 v = nI (vn d + 1) → (∀ j, j < i → FGX σ v (gv d e k0 D0 N0 P0 H0 s) j) → ∀ m, r < m → ∃ σ', f_X7_growFrom_37 m σ v u 1 (nI k0) (oI H0) (nI e) (nI i) = some (σ', ()) ∧ DX v σ σ' ∧ VX0 σ' v (gv d e k0 D0 N0 P0 H0 s) := by
  have w40 : vn d ≤ 40 := Nat.le_trans w.1.1 w.1.2.1
  have he := hE.le
  intro r
  induction r with
  | zero =>
    intro i hi σ a hP h3 hF m hm
    obtain ⟨m, rfl⟩ : ∃ m', m = m' + 1 := ⟨m - 1, by omega⟩
    have dx0 : DX v σ (si σ 604 v (nI (vr d))) := DX.s6 (by omega) σ _
    obtain ⟨σ', σ1, k1, k2, k3, k4, k5, k6⟩ := x_growR hu hv huv w (vr d) 0 (by omega) (si σ 604 v (nI (vr d))) ((dx0.kx hu hv huv).vx w.1 a) (by simp only [gi_si, gi_sr, gi_sg, gi_sa, gr_si, rr_sr, gr_sg, gr_sa, ga_si, ga_sr, ga_sg, ga_sa, true_and, and_true, false_and, and_false, Nat.reduceEqDiff, ↓reduceIte]) (fun r hr => absurd hr (Nat.not_lt_zero _)) fl (by have := fl_big; have := w.1.2.2; omega)
    refine ⟨σ', ?_, ?_, ?_⟩
    · rw [f_X7_growFrom_37.eq_2, h3, if_pos (nI_le (by omega) (by omega)), a.2.1]
      simp only [bnd]
      have k1 : f_X7_growFrom_156 fl (si σ 604 v (nI (vr d))) v u 0 = _ := k1
      exact k1
    · rw [k2]
      exact (dx0.trans k3).trans (DX.s6 (by omega) _ _)
    · subst k2
      have g : ∀ f i, f < 300 ∨ f = 603 → (f = 201 ∨ f = 202 → i < 645) → gi (si σ1 605 v (nI (vl d))) f i = gi σ f i := by
        intro f i h h'
        simp only [gi_si, gi_sr, gi_sg, gi_sa, gr_si, rr_sr, gr_sg, gr_sa, ga_si, ga_sr, ga_sg, ga_sa, true_and, and_true, false_and, and_false, Nat.reduceEqDiff, ↓reduceIte]
        rw [if_neg (by omega), k4 f i (by omega) h']
        simp only [gi_si, gi_sr, gi_sg, gi_sa, gr_si, rr_sr, gr_sg, gr_sa, ga_si, ga_sr, ga_sg, ga_sa, true_and, and_true, false_and, and_false, Nat.reduceEqDiff, ↓reduceIte]
        rw [if_neg (by omega)]
      have gg : ∀ f i, i < 645 → ga (si σ1 605 v (nI (vl d))) f i = ga σ f i := fun f i h => k5 f i h
      refine ⟨?_, ?_, ?_, fun j hj => ?_, fun r hr => ?_⟩
      · rw [g _ _ (by omega) (by omega), h3]
        rfl
      · simp only [gi_si, gi_sr, gi_sg, gi_sa, gr_si, rr_sr, gr_sg, gr_sa, ga_si, ga_sr, ga_sg, ga_sa, true_and, and_true, false_and, and_false, Nat.reduceEqDiff, ↓reduceIte]
        rw [k4 604 v (by omega) (by omega)]
        simp only [gi_si, gi_sr, gi_sg, gi_sa, gr_si, rr_sr, gr_sg, gr_sa, ga_si, ga_sr, ga_sg, ga_sa, true_and, and_true, false_and, and_false, Nat.reduceEqDiff, ↓reduceIte]
        rfl
      · simp only [gi_si, gi_sr, gi_sg, gi_sa, gr_si, rr_sr, gr_sg, gr_sa, ga_si, ga_sr, ga_sg, ga_sa, true_and, and_true, false_and, and_false, Nat.reduceEqDiff, ↓reduceIte]
        rfl
      · have hj : j < vn d + 1 := hj
        obtain ⟨⟨a1, a2, a3, a4, a5, a6, a7⟩, a8, a9⟩ := hF j (by omega)
        refine ⟨⟨?_, ?_, ?_, ?_, ?_, LX_of a6 (g _ _ (by omega) (by omega)) (gg _ _ (by omega)), LX_of a7 (g _ _ (by omega) (by omega)) (gg _ _ (by omega))⟩, ?_, ?_⟩
        · rw [g _ _ (by omega) (by omega), a1]
        · rw [g _ _ (by omega) (by omega), a2]
        · rw [g _ _ (by omega) (by omega), a3]
        · rw [g _ _ (by omega) (by omega), a4]
        · rw [g _ _ (by omega) (by omega), a5]
        · rw [g _ _ (by omega) (by omega), a8]
        · rw [g _ _ (by omega) (by omega), a9]
      · obtain ⟨a1, a2, a3, a4⟩ := k6 r hr
        refine ⟨?_, ?_, LX_of a3 ?_ rfl, LX_of a4 ?_ rfl⟩
        · simp only [gi_si, gi_sr, gi_sg, gi_sa, gr_si, rr_sr, gr_sg, gr_sa, ga_si, ga_sr, ga_sg, ga_sa, true_and, and_true, false_and, and_false, Nat.reduceEqDiff, ↓reduceIte]
          exact a1
        · simp only [gi_si, gi_sr, gi_sg, gi_sa, gr_si, rr_sr, gr_sg, gr_sa, ga_si, ga_sr, ga_sg, ga_sa, true_and, and_true, false_and, and_false, Nat.reduceEqDiff, ↓reduceIte]
          exact a2
        · simp only [gi_si, gi_sr, gi_sg, gi_sa, gr_si, rr_sr, gr_sg, gr_sa, ga_si, ga_sr, ga_sg, ga_sa, true_and, and_true, false_and, and_false, Nat.reduceEqDiff, ↓reduceIte]
        · simp only [gi_si, gi_sr, gi_sg, gi_sa, gr_si, rr_sr, gr_sg, gr_sa, ga_si, ga_sr, ga_sg, ga_sa, true_and, and_true, false_and, and_false, Nat.reduceEqDiff, ↓reduceIte]
  | succ r ih =>
    intro i hi σ a hP h3 hF m hm
    obtain ⟨m, rfl⟩ : ∃ m', m = m' + 1 := ⟨m - 1, by omega⟩
    have fin : ∀ s1, UF (40 * v + i) σ s1 → FGX s1 v (gv d e k0 D0 N0 P0 H0 s) i → ∃ σ', f_X7_growFrom_139 (f_X7_growFrom_37 m) s1 v u 1 (nI k0) (oI H0) (nI e) (nI i) = some (σ', ()) ∧ DX v σ σ' ∧ VX0 σ' v (gv d e k0 D0 N0 P0 H0 s) := by
      intro s1 u1 f1
      have dx := DX.uf (v := v) (j := i) (by omega) u1
      obtain ⟨σ', k1, k2, k3⟩ := ih (i + 1) (by omega) s1 ((dx.kx hu hv huv).vx w.1 a) (dx.lx (by unfold DL; omega) hP) (by rw [u1.2.1 _ _ (by omega), h3]) (fun j hj => by
        by_cases c : j = i
        · subst c
          exact f1
        · exact (hF j (by omega)).uf u1 (by omega)) m (by omega)
      refine ⟨σ', ?_, dx.trans k2, k3⟩
      unfold f_X7_growFrom_139
      rw [nI_1, k1]
    have bnds : ∀ j, j < vn d → (∀ c, oH d j = some c → c < 1000) ∧ (∀ c, oC d j = some c → c < 1000) ∧ (∀ c, oO d j = some c → c < 1000) := by
      intro j hj
      obtain ⟨_, _, _, z3, z4, _⟩ := w.2.2.2.2.1 j hj
      refine ⟨fun c hc => ?_, fun c hc => ?_, fun c hc => ?_⟩
      · have := H_lt w hj hc
        omega
      · have := z3 c hc
        omega
      · have := z4 c hc
        omega
    rw [f_X7_growFrom_37.eq_2, h3, if_neg (nI_ge (by omega) (by omega))]
    by_cases c1 : e ≤ i
    · rw [if_pos (nI_le c1 (by omega))]
      by_cases c2 : i ≤ e
      · have : i = e := by omega
        subst this
        rw [if_pos (nI_le c2 (by omega))]
        obtain ⟨s1, e1, u1, f1, _, _⟩ := x_beginF (σ := σ) (v := v) (j := i) (H := H0) (D' := D0) (P' := match H0 with | none => [] | some h => nP d h ++ [46]) hv (by omega) (by
          rcases hD with ⟨rfl, rfl⟩ | ⟨h, rfl, rfl, hl⟩
          · exact Or.inl ⟨rfl, rfl, rfl⟩
          · rcases hE with ⟨hE, _⟩ | ⟨h', hE, h1, h2, _⟩
            · cases hE
            · cases hE
              have fh := hF h h1
              refine Or.inr ⟨h, vd d h, nP d h, rfl, h1, ?_, ?_, hl, rfl, rfl⟩
              · have := fh.1.2.2.2.2.1
                rw [this]
                show nI (if h = i then _ else vd d (bk i h)) = _
                rw [if_neg (by omega)]
                unfold bk
                rw [if_pos h1]
              · have := fh.1.2.2.2.2.2.1
                have e2 : nP (gv d i k0 (vd d h + 1) N0 P0 (some h) s) h = nP d h := by
                  show (if h = i then P0 else nP d (bk i h)) = _
                  rw [if_neg (by omega)]
                  unfold bk
                  rw [if_pos h1]
                rw [e2] at this
                exact this)
        rw [e1, cl_mk, ck_nI (by omega) (by omega)]
        obtain ⟨s2, e2, u2, l2, _⟩ := lx_copy (k := 5 + 2 * (40 * v + i)) (u1.lx (by omega) hP) (by omega) (by rw [cap5 (by omega)]; exact h64)
        rw [e2, cl_mk, ck_nI (by omega) (by omega)]
        simp only [bnd]
        refine fin _ ((u1.trans (UF.ul (Or.inl rfl) u2)).trans (UF.si (by omega) rfl _)) (gv_at0 _ ?_)
        refine ⟨⟨?_, ?_, ?_, ?_, ?_, LX_of l2 (by simp only [gi_si, gi_sr, gi_sg, gi_sa, gr_si, rr_sr, gr_sg, gr_sa, ga_si, ga_sr, ga_sg, ga_sa, true_and, and_true, false_and, and_false, Nat.reduceEqDiff, ↓reduceIte]) rfl, LX_of (u2.lx (by omega) f1.1.2.2.2.2.2.2) (by simp only [gi_si, gi_sr, gi_sg, gi_sa, gr_si, rr_sr, gr_sg, gr_sa, ga_si, ga_sr, ga_sg, ga_sa, true_and, and_true, false_and, and_false, Nat.reduceEqDiff, ↓reduceIte]) rfl⟩, ?_, ?_⟩
        · simp only [gi_si, gi_sr, gi_sg, gi_sa, gr_si, rr_sr, gr_sg, gr_sa, ga_si, ga_sr, ga_sg, ga_sa, true_and, and_true, false_and, and_false, Nat.reduceEqDiff, ↓reduceIte]
        · simp only [gi_si, gi_sr, gi_sg, gi_sa, gr_si, rr_sr, gr_sg, gr_sa, ga_si, ga_sr, ga_sg, ga_sa, true_and, and_true, false_and, and_false, Nat.reduceEqDiff, ↓reduceIte]
          rw [u2.2.1 _ _ (by omega)]
          exact f1.1.2.1
        · simp only [gi_si, gi_sr, gi_sg, gi_sa, gr_si, rr_sr, gr_sg, gr_sa, ga_si, ga_sr, ga_sg, ga_sa, true_and, and_true, false_and, and_false, Nat.reduceEqDiff, ↓reduceIte]
          rw [u2.2.1 _ _ (by omega)]
          exact f1.1.2.2.1
        · simp only [gi_si, gi_sr, gi_sg, gi_sa, gr_si, rr_sr, gr_sg, gr_sa, ga_si, ga_sr, ga_sg, ga_sa, true_and, and_true, false_and, and_false, Nat.reduceEqDiff, ↓reduceIte]
          rw [u2.2.1 _ _ (by omega)]
          exact f1.1.2.2.2.1
        · simp only [gi_si, gi_sr, gi_sg, gi_sa, gr_si, rr_sr, gr_sg, gr_sa, ga_si, ga_sr, ga_sg, ga_sa, true_and, and_true, false_and, and_false, Nat.reduceEqDiff, ↓reduceIte]
          rw [u2.2.1 _ _ (by omega)]
          exact f1.1.2.2.2.2.1
        · simp only [gi_si, gi_sr, gi_sg, gi_sa, gr_si, rr_sr, gr_sg, gr_sa, ga_si, ga_sr, ga_sg, ga_sa, true_and, and_true, false_and, and_false, Nat.reduceEqDiff, ↓reduceIte]
          rw [u2.2.1 _ _ (by omega)]
          exact f1.2.1
        · simp only [gi_si, gi_sr, gi_sg, gi_sa, gr_si, rr_sr, gr_sg, gr_sa, ga_si, ga_sr, ga_sg, ga_sa, true_and, and_true, false_and, and_false, Nat.reduceEqDiff, ↓reduceIte]
          rw [u2.2.1 _ _ (by omega)]
          exact f1.2.2
      · rw [if_neg (nI_ge (by omega) (by omega)), ck_nI (by omega) (by omega), ln_pred (by omega), ck_nI (by omega) (by omega)]
        have hb : bk e i = i - 1 := by unfold bk; rw [if_neg (by omega)]
        obtain ⟨b1, b2, b3⟩ := bnds (i - 1) (by omega)
        obtain ⟨s1, e1, u1, f1⟩ := x_copyF (g := 40 * v + i) (g0 := 40 * u + (i - 1)) (e := e) (by omega) (by omega) (by omega) (a.2.2.2.1 (i - 1) (by omega)) (by omega) b1 b2 b3
        rw [e1, cl_mk]
        refine fin _ u1 (gv_at (by omega) _ ?_)
        rw [hb]
        exact f1
    · rw [if_neg (nI_ge (by omega) (by omega)), ck_nI (by omega) (by omega), ck_nI (by omega) (by omega)]
      have hb : bk e i = i := by unfold bk; rw [if_pos (by omega)]
      obtain ⟨b1, b2, b3⟩ := bnds i (by omega)
      obtain ⟨s1, e1, u1, f1⟩ := x_copyF (g := 40 * v + i) (g0 := 40 * u + i) (e := e) (by omega) (by omega) (by omega) (a.2.2.2.1 i (by omega)) (by omega) b1 b2 b3
      rw [e1, cl_mk]
      refine fin _ u1 (gv_at (by omega) _ ?_)
      rw [hb]
      exact f1
end G2
