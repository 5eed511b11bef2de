/-! The class grows a version: fields and rules are copied. -/
def FXc (σ : St) (g k o : Nat) (z h : Option Nat) (D : Nat) (P B : List Nat) (cp fo : Option Nat) : Prop := FX σ g k o z h D P B ∧ gi σ 105 g = oI cp ∧ gi σ 106 g = oI fo
def UF (g : Nat) (σ σ' : St) : Prop := σ'.2.1 = σ.2.1 ∧ (∀ f i, ¬ ((102 ≤ f ∧ f ≤ 108 ∧ i = g) ∨ ((f = 201 ∨ f = 202) ∧ (i = 5 + 2 * g ∨ i = 6 + 2 * g))) → gi σ' f i = gi σ f i) ∧ (∀ f i, ¬ (f = 2 ∧ (i = 5 + 2 * g ∨ i = 6 + 2 * g)) → ga σ' f i = ga σ f i)
theorem UF.trans {g : Nat} {σ σ1 σ2 : St} (h : UF g σ σ1) (k : UF g σ1 σ2) : UF g σ σ2 := ⟨k.1.trans h.1, fun f i a => (k.2.1 f i a).trans (h.2.1 f i a), fun f i a => (k.2.2 f i a).trans (h.2.2 f i a)⟩
theorem UF.refl' (g : Nat) (σ : St) : UF g σ σ := ⟨rfl, fun _ _ _ => rfl, fun _ _ _ => rfl⟩
theorem UF.ul {g k : Nat} (hk : k = 5 + 2 * g ∨ k = 6 + 2 * g) {σ σ' : St} (h : UL k σ σ') : UF g σ σ' := ⟨h.1, fun f i a => h.2.1 f i (by omega), fun f i a => h.2.2 f i (by omega)⟩
theorem UF.si {g f x : Nat} {v : Int32} (hf : 102 ≤ f ∧ f ≤ 108) (hx : x = g) (σ : St) : UF g σ (si σ f x v) := ⟨rfl, fun f' i a => by
  simp only [gi_si, gi_sr, gi_sg, gi_sa, gr_si, rr_sr, gr_sg, gr_sa, ga_si, ga_sr, ga_sg, ga_sa, true_and, and_true, false_and, and_false, Nat.reduceEqDiff, ↓reduceIte]
  rw [if_neg (by omega)], fun _ _ _ => rfl⟩
theorem UF.lx {g : Nat} {σ σ' : St} (h : UF g σ σ') {k : Nat} {l : List Nat} (hk : k ≠ 5 + 2 * g ∧ k ≠ 6 + 2 * g) (a : LX σ k l) : LX σ' k l := LX_of a (h.2.1 _ _ (by omega)) (h.2.2 _ _ (by omega))
section Gx
variable {σ : St} {g g0 k o D e : Nat} {z h cp fo : Option Nat} {P B : List Nat}
theorem FXc.uf {σ' : St} (u : UF g σ σ') (hne : g0 ≠ g) (a : FXc σ g0 k o z h D P B cp fo) : FXc σ' g0 k o z h D P B cp fo := by
  obtain ⟨⟨a1, a2, a3, a4, a5, a6, a7⟩, a8, a9⟩ := a
  refine ⟨⟨?_, ?_, ?_, ?_, ?_, u.lx (by omega) a6, u.lx (by omega) a7⟩, ?_, ?_⟩
  · rw [u.2.1 _ _ (by omega), a1]
  · rw [u.2.1 _ _ (by omega), a2]
  · rw [u.2.1 _ _ (by omega), a3]
  · rw [u.2.1 _ _ (by omega), a4]
  · rw [u.2.1 _ _ (by omega), a5]
  · rw [u.2.1 _ _ (by omega), a8]
  · rw [u.2.1 _ _ (by omega), a9]
theorem m2_neg : (-2 : Int32) < 0 := by decide
theorem m2_lt {n : Nat} (h : n < 2147483648) : (-2 : Int32) < nI n := by
  rw [pr_lt, nI_toInt h]
  have : (-2 : Int32).toInt = -2 := by decide
  omega
theorem x_mv {x : Option Nat} (hx : ∀ c, x = some c → c < 1000) (he : e < 1000) : f_X1_moved σ (oI x) (nI e) = some (σ, oI (x.map (mv e))) := by
  unfold f_X1_moved
  cases x with
  | none =>
    show (if (-2 : Int32) < nI e then some (σ, (-2 : Int32)) else _) = some (σ, -2)
    rw [if_pos (m2_lt (by omega))]
  | some c =>
    have := hx c rfl
    show (if nI c < nI e then some (σ, nI c) else some (σ, nI c + 1)) = some (σ, nI (mv e c))
    unfold mv
    by_cases hc : c < e
    · rw [if_pos ((ln_lt (by omega) (by omega)).mpr hc), if_pos hc]
    · rw [if_neg (fun hh => hc ((ln_lt (by omega) (by omega)).mp hh)), if_neg hc, nI_1]
theorem cap5 {g : Nat} (hg : g < 320) : capX (5 + 2 * g) = 64 := by
  unfold capX
  rw [if_neg (by omega), if_neg (by omega), if_neg (by omega), if_pos (by omega)]
theorem cap6 {g : Nat} : capX (6 + 2 * g) = 12 := by
  unfold capX
  rw [if_neg (by omega), if_neg (by omega), if_neg (by omega), if_neg (by omega)]
theorem cap45 {g : Nat} : capX (645 + 2 * g) = 12 := by
  unfold capX
  rw [if_neg (by omega), if_neg (by omega), if_neg (by omega), if_neg (by omega)]
theorem cap46 {g : Nat} : capX (646 + 2 * g) = 12 := by
  unfold capX
  rw [if_neg (by omega), if_neg (by omega), if_neg (by omega), if_neg (by omega)]
theorem x_copyF (hg : g < 320) (hg0 : g0 < 320) (hne : g0 ≠ g) (a : FXc σ g0 k o z h D P B cp fo) (he : e < 1000) (h1 : ∀ c, h = some c → c < 1000) (h2 : ∀ c, cp = some c → c < 1000) (h3 : ∀ c, fo = some c → c < 1000) : ∃ σ', f_X1_copyFrom σ g g0 (nI e) = some (σ', ()) ∧ UF g σ σ' ∧ FXc σ' g k o z (h.map (mv e)) D P B (cp.map (mv e)) (fo.map (mv e)) := by
  obtain ⟨s1, e1, u1, l1, _⟩ := lx_copy (k := 5 + 2 * g) a.1.2.2.2.2.2.1 (by omega) (by have := a.1.2.2.2.2.2.1.2.1; rw [cap5 hg0] at this; rw [cap5 hg]; exact this)
  obtain ⟨s2, e2, u2, l2, _⟩ := lx_copy (k := 6 + 2 * g) (u1.lx (by omega) a.1.2.2.2.2.2.2) (by omega) (by have := a.1.2.2.2.2.2.2.2.1; rw [cap6] at this; rw [cap6]; exact this)
  have u12 : UF g σ s2 := (UF.ul (Or.inl rfl) u1).trans (UF.ul (Or.inr rfl) u2)
  obtain ⟨⟨a1, a2, a3, a4, a5, a6, a7⟩, a8, a9⟩ := a.uf u12 hne
  unfold f_X1_copyFrom
  rw [e1, cl_mk, e2, cl_mk]
  simp only [bnd, gi_si, gi_sr, gi_sg, gi_sa, gr_si, rr_sr, gr_sg, gr_sa, ga_si, ga_sr, ga_sg, ga_sa, true_and, and_true, false_and, and_false, Nat.reduceEqDiff, ↓reduceIte]
  rw [a8, x_mv h2 he, cl_mk]
  simp only [gi_si, gi_sr, gi_sg, gi_sa, gr_si, rr_sr, gr_sg, gr_sa, ga_si, ga_sr, ga_sg, ga_sa, true_and, and_true, false_and, and_false, Nat.reduceEqDiff, ↓reduceIte]
  rw [a9, x_mv h3 he, cl_mk]
  simp only [gi_si, gi_sr, gi_sg, gi_sa, gr_si, rr_sr, gr_sg, gr_sa, ga_si, ga_sr, ga_sg, ga_sa, true_and, and_true, false_and, and_false, Nat.reduceEqDiff, ↓reduceIte]
  rw [a4, x_mv h1 he, cl_mk]
  have l1' := u2.lx (show 5 + 2 * g ≠ 6 + 2 * g by omega) l1
  refine ⟨_, rfl, u12.trans ⟨rfl, fun f i hh => ?_, fun f i hh => rfl⟩, ⟨⟨?_, ?_, ?_, ?_, ?_, LX_of l1' ?_ rfl, LX_of l2 ?_ rfl⟩, ?_, ?_⟩⟩
  · simp only [gi_si, gi_sr, gi_sg, gi_sa, gr_si, rr_sr, gr_sg, gr_sa, ga_si, ga_sr, ga_sg, ga_sa, true_and, and_true, false_and, and_false, Nat.reduceEqDiff, ↓reduceIte]
    repeat rw [if_neg (by omega)]
  · simp only [gi_si, gi_sr, gi_sg, gi_sa, gr_si, rr_sr, gr_sg, gr_sa, ga_si, ga_sr, ga_sg, ga_sa, true_and, and_true, false_and, and_false, Nat.reduceEqDiff, ↓reduceIte]
    exact a1
  · simp only [gi_si, gi_sr, gi_sg, gi_sa, gr_si, rr_sr, gr_sg, gr_sa, ga_si, ga_sr, ga_sg, ga_sa, true_and, and_true, false_and, and_false, Nat.reduceEqDiff, ↓reduceIte]
    exact a2
  · simp only [gi_si, gi_sr, gi_sg, gi_sa, gr_si, rr_sr, gr_sg, gr_sa, ga_si, ga_sr, ga_sg, ga_sa, true_and, and_true, false_and, and_false, Nat.reduceEqDiff, ↓reduceIte]
    exact a3
  all_goals simp only [gi_si, gi_sr, gi_sg, gi_sa, gr_si, rr_sr, gr_sg, gr_sa, ga_si, ga_sr, ga_sg, ga_sa, true_and, and_true, false_and, and_false, Nat.reduceEqDiff, ↓reduceIte]
  exact a5
theorem x_beginFd (σ : St) (g : Nat) : ∃ σ', f_X1_begin σ g = some (σ', ()) ∧ UF g σ σ' ∧ FXc σ' g 0 0 none none 0 [] [] none none ∧ gi σ' 202 (5 + 2 * g) = 0 ∧ gi σ' 202 (6 + 2 * g) = 0 := by
  obtain ⟨s1, e1, u1, l1, o1⟩ := lx_clear (5 + 2 * g) σ
  obtain ⟨s2, e2, u2, l2, o2⟩ := lx_clear (6 + 2 * g) s1
  have u12 : UF g σ s2 := (UF.ul (Or.inl rfl) u1).trans (UF.ul (Or.inr rfl) u2)
  have l1' := u2.lx (show 5 + 2 * g ≠ 6 + 2 * g by omega) l1
  have o1' : gi s2 202 (5 + 2 * g) = 0 := by rw [u2.2.1 _ _ (by omega), o1]
  unfold f_X1_begin
  rw [e1, cl_mk, e2, cl_mk]
  simp only [bnd]
  refine ⟨_, rfl, u12.trans ⟨rfl, fun f i hh => ?_, fun f i hh => rfl⟩, ⟨⟨?_, ?_, ?_, ?_, ?_, LX_of l1' ?_ rfl, LX_of l2 ?_ rfl⟩, ?_, ?_⟩, ?_, ?_⟩
  · simp only [gi_si, gi_sr, gi_sg, gi_sa, gr_si, rr_sr, gr_sg, gr_sa, ga_si, ga_sr, ga_sg, ga_sa, true_and, and_true, false_and, and_false, Nat.reduceEqDiff, ↓reduceIte]
    repeat rw [if_neg (by omega)]
  all_goals simp only [gi_si, gi_sr, gi_sg, gi_sa, gr_si, rr_sr, gr_sg, gr_sa, ga_si, ga_sr, ga_sg, ga_sa, true_and, and_true, false_and, and_false, Nat.reduceEqDiff, ↓reduceIte]
  all_goals first | rfl | exact o1' | exact o2
theorem x_beginF {v j : Nat} {H : Option Nat} {D' : Nat} {P' : List Nat} (hv : v < 8) (hj : j < 40) (hH : (H = none ∧ D' = 0 ∧ P' = []) ∨ ∃ h D P, H = some h ∧ h < j ∧ gi σ 108 (40 * v + h) = nI D ∧ LX σ (5 + 2 * (40 * v + h)) P ∧ P.length < 64 ∧ D' = D + 1 ∧ P' = P ++ [46]) : ∃ σ', f_X7_beginField σ v (nI j) (oI H) = some (σ', ()) ∧ UF (40 * v + j) σ σ' ∧ FXc σ' (40 * v + j) 0 0 none H D' P' [] none none ∧ gi σ' 202 (5 + 2 * (40 * v + j)) = 0 ∧ gi σ' 202 (6 + 2 * (40 * v + j)) = 0 := by
  obtain ⟨s1, e1, u1, f1, o1, o2⟩ := x_beginFd σ (40 * v + j)
  unfold f_X7_beginField
  rw [ck_nI hj (by omega), e1, cl_mk]
  rcases hH with ⟨rfl, rfl, rfl⟩ | ⟨h, D, P, rfl, hh, hD, hP, h64, rfl, rfl⟩
  · rw [if_pos (show oI none < 0 from m2_neg)]
    exact ⟨s1, rfl, u1, f1, o1, o2⟩
  · rw [show oI (some h) = nI h from rfl, if_neg (nI_pos (by omega)), if_neg (show ¬ nI j ≤ nI h from fun hh' => by have := (ln_le (by omega) (by omega)).mp hh'; omega)]
    rw [ck_nI hj (by omega)]
    simp only [bnd]
    rw [ck_nI hj (by omega), ck_nI (show h < 40 by omega) (by omega)]
    have d1 : gi s1 108 (40 * v + h) = nI D := by rw [u1.2.1 _ _ (by omega), hD]
    have p1 := u1.lx (show 5 + 2 * (40 * v + h) ≠ 5 + 2 * (40 * v + j) ∧ 5 + 2 * (40 * v + h) ≠ 6 + 2 * (40 * v + j) by omega) hP
    simp only [gi_si, gi_sr, gi_sg, gi_sa, gr_si, rr_sr, gr_sg, gr_sa, ga_si, ga_sr, ga_sg, ga_sa, true_and, and_true, false_and, and_false, Nat.reduceEqDiff, ↓reduceIte]
    rw [d1, nI_1, ck_nI hj (by omega), ck_nI (show h < 40 by omega) (by omega), ck_nI (show h < 40 by omega) (by omega)]
    have u2 : UF (40 * v + j) s1 (si (si s1 107 (40 * v + j) (nI h)) 108 (40 * v + j) (nI (D + 1))) := (UF.si (by omega) rfl s1).trans (UF.si (by omega) rfl _)
    have q1 : LX (si (si s1 107 (40 * v + j) (nI h)) 108 (40 * v + j) (nI (D + 1))) (5 + 2 * (40 * v + h)) P := LX_of p1 (by simp only [gi_si, gi_sr, gi_sg, gi_sa, gr_si, rr_sr, gr_sg, gr_sa, ga_si, ga_sr, ga_sg, ga_sa, true_and, and_true, false_and, and_false, Nat.reduceEqDiff, ↓reduceIte]) rfl
    have q2 : LX (si (si s1 107 (40 * v + j) (nI h)) 108 (40 * v + j) (nI (D + 1))) (5 + 2 * (40 * v + j)) [] := LX_of f1.1.2.2.2.2.2.1 (by simp only [gi_si, gi_sr, gi_sg, gi_sa, gr_si, rr_sr, gr_sg, gr_sa, ga_si, ga_sr, ga_sg, ga_sa, true_and, and_true, false_and, and_false, Nat.reduceEqDiff, ↓reduceIte]) rfl
    unfold f_X3_length
    rw [cl_mk, q1.1]
    obtain ⟨s3, e3, u3, l3, o3⟩ := lx_part (o := 0) (n := P.length) q2 q1 (by omega) (by rw [cap5 (by omega)]; simp; omega)
    have e3 : f_X3_addPart _ _ _ 0 (nI P.length) = _ := e3
    rw [List.drop_zero, List.take_length, List.nil_append] at l3
    rw [e3, cl_mk, ck_nI hj (by omega)]
    obtain ⟨s4, e4, u4, l4, o4⟩ := lx_add (c := 46) l3 (by omega) (by rw [cap5 (by omega)]; omega)
    have e4 : f_X3_add _ _ 46 = _ := e4
    rw [e4, cl_mk]
    have u34 := u3.trans u4
    refine ⟨s4, rfl, (u1.trans u2).trans (UF.ul (Or.inl rfl) u34), ⟨⟨?_, ?_, ?_, ?_, ?_, l4, ?_⟩, ?_, ?_⟩, ?_, ?_⟩
    · rw [u34.2.1 _ _ (by omega)]
      simp only [gi_si, gi_sr, gi_sg, gi_sa, gr_si, rr_sr, gr_sg, gr_sa, ga_si, ga_sr, ga_sg, ga_sa, true_and, and_true, false_and, and_false, Nat.reduceEqDiff, ↓reduceIte]
      exact f1.1.1
    · rw [u34.2.1 _ _ (by omega)]
      simp only [gi_si, gi_sr, gi_sg, gi_sa, gr_si, rr_sr, gr_sg, gr_sa, ga_si, ga_sr, ga_sg, ga_sa, true_and, and_true, false_and, and_false, Nat.reduceEqDiff, ↓reduceIte]
      exact f1.1.2.1
    · rw [u34.2.1 _ _ (by omega)]
      simp only [gi_si, gi_sr, gi_sg, gi_sa, gr_si, rr_sr, gr_sg, gr_sa, ga_si, ga_sr, ga_sg, ga_sa, true_and, and_true, false_and, and_false, Nat.reduceEqDiff, ↓reduceIte]
      exact f1.1.2.2.1
    · rw [u34.2.1 _ _ (by omega)]
      simp only [gi_si, gi_sr, gi_sg, gi_sa, gr_si, rr_sr, gr_sg, gr_sa, ga_si, ga_sr, ga_sg, ga_sa, true_and, and_true, false_and, and_false, Nat.reduceEqDiff, ↓reduceIte]
      rfl
    · rw [u34.2.1 _ _ (by omega)]
      simp only [gi_si, gi_sr, gi_sg, gi_sa, gr_si, rr_sr, gr_sg, gr_sa, ga_si, ga_sr, ga_sg, ga_sa, true_and, and_true, false_and, and_false, Nat.reduceEqDiff, ↓reduceIte]
    · exact u34.lx (by omega) (LX_of f1.1.2.2.2.2.2.2 (by simp only [gi_si, gi_sr, gi_sg, gi_sa, gr_si, rr_sr, gr_sg, gr_sa, ga_si, ga_sr, ga_sg, ga_sa, true_and, and_true, false_and, and_false, Nat.reduceEqDiff, ↓reduceIte]) rfl)
    · rw [u34.2.1 _ _ (by omega)]
      simp only [gi_si, gi_sr, gi_sg, gi_sa, gr_si, rr_sr, gr_sg, gr_sa, ga_si, ga_sr, ga_sg, ga_sa, true_and, and_true, false_and, and_false, Nat.reduceEqDiff, ↓reduceIte]
      exact f1.2.1
    · rw [u34.2.1 _ _ (by omega)]
      simp only [gi_si, gi_sr, gi_sg, gi_sa, gr_si, rr_sr, gr_sg, gr_sa, ga_si, ga_sr, ga_sg, ga_sa, true_and, and_true, false_and, and_false, Nat.reduceEqDiff, ↓reduceIte]
      exact f1.2.2
    · rw [o4, o3]
      simp only [gi_si, gi_sr, gi_sg, gi_sa, gr_si, rr_sr, gr_sg, gr_sa, ga_si, ga_sr, ga_sg, ga_sa, true_and, and_true, false_and, and_false, Nat.reduceEqDiff, ↓reduceIte]
      exact o1
    · rw [u34.2.1 _ _ (by omega)]
      simp only [gi_si, gi_sr, gi_sg, gi_sa, gr_si, rr_sr, gr_sg, gr_sa, ga_si, ga_sr, ga_sg, ga_sa, true_and, and_true, false_and, and_false, Nat.reduceEqDiff, ↓reduceIte]
      exact o2
end Gx
