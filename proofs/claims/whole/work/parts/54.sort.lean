/-! The class sorts a version's fields by their paths. -/
theorem el_take {l : List Nat} {i j : Nat} (h : i < j) : el (l.take j) i = el l i := by
  unfold el
  rw [List.getD_eq_getElem?_getD, List.getD_eq_getElem?_getD, List.getElem?_take_of_lt h]
theorem el_drop {l : List Nat} {i j : Nat} : el (l.drop j) i = el l (j + i) := by
  unfold el
  rw [List.getD_eq_getElem?_getD, List.getD_eq_getElem?_getD, List.getElem?_drop]
theorem el_mem {l : List Nat} {i : Nat} (h : i < l.length) : el l i ∈ l := by
  rw [el_t h]
  exact List.getElem_mem h
theorem mem_el {l : List Nat} {x : Nat} (h : x ∈ l) : ∃ i, i < l.length ∧ el l i = x := by
  obtain ⟨i, hi, e⟩ := List.mem_iff_getElem.mp h
  exact ⟨i, hi, by rw [el_t hi, e]⟩
section So
variable {v : Nat} {d : Vd}
/-- only the order of the version changes -/
def US8 (v : Nat) (σ σ' : St) : Prop := σ'.2.1 = σ.2.1 ∧ (∀ f i, gi σ' f i = gi σ f i) ∧ (∀ f i, ¬ (f = 8 ∧ i = v) → ga σ' f i = ga σ f i)
theorem US8.refl' (σ : St) : US8 v σ σ := ⟨rfl, fun _ _ => rfl, fun _ _ _ => rfl⟩
theorem US8.trans {σ σ1 σ2 : St} (h : US8 v σ σ1) (g : US8 v σ1 σ2) : US8 v σ σ2 := ⟨g.1.trans h.1, fun f i => (g.2.1 f i).trans (h.2.1 f i), fun f i a => (g.2.2 f i a).trans (h.2.2 f i a)⟩
theorem US8.px {σ σ' : St} (h : US8 v σ σ') (hv : v < 8) {u : Nat} {d : Vd} (p : PX σ u d) : PX σ' u d := ⟨by rw [h.2.1]; exact p.1, fun j hj => LX_of (p.2 j hj) (h.2.1 _ _) (h.2.2 _ _ (by omega))⟩
theorem x_before {σ : St} (hX : PX σ v d) (h40 : vn d ≤ 40) {i j : Nat} (hi : i < vn d) (hj : j < vn d) (hp : ∀ f, f < vn d → (nP d f).length < 1000 ∧ By (nP d f)) : f_X7_comesBefore σ v (nI i) (nI j) = some (σ, bI (decide (cmZ (nP d i) (nP d j) < 0))) := by
  unfold f_X7_comesBefore
  rw [ck_nI (by omega) (by omega), ck_nI (by omega) (by omega), lx_comp (hX.2 i hi) (hX.2 j hj), cl_mk]
  have z := cmI_Z (nP d i) (nP d j) (hp i hi).1 (hp j hj).1 (hp i hi).2 (hp j hj).2
  have z0 : (0 : Int32).toInt = 0 := by decide
  by_cases c : cmZ (nP d i) (nP d j) < 0
  · rw [if_neg (fun h => by rw [pr_le, z, z0] at h; omega), bI_yes c]
  · rw [if_pos (by rw [pr_le, z, z0]; omega), bI_no c]
theorem x_ins (hv : v < 8) (h40 : vn d ≤ 40) (hp : ∀ f, f < vn d → (nP d f).length < 1000 ∧ By (nP d f)) (k2 : St → Nat → Int32 → Option (St × Unit)) {i : Nat} (hi : i < vn d) {S : List Nat} (hS : S.length = i) (hSn : ∀ x, x ∈ S → x < vn d) : ∀ (j : Nat), j ≤ i → ∀ (σ : St), PX σ v d → (∀ p, p < j → ga σ 8 v p = nI (el S p)) → (∀ p, j ≤ p → p < i → ga σ 8 v (p + 1) = nI (el S p)) → ∀ m, j < m → ∃ σ' q, q ≤ j ∧ f_X7_sortByPath_14 k2 m σ v (nI i) (nI j) (nI j) = f_X7_sortByPath_58 k2 σ' v (nI i) (nI q) ∧ US8 v σ σ' ∧ (∀ p, p < q → ga σ' 8 v p = nI (el S p)) ∧ (∀ p, q ≤ p → p < i → ga σ' 8 v (p + 1) = nI (el S p)) ∧ (∀ p, q ≤ p → p < j → cmZ (nP d i) (nP d (el S p)) < 0) ∧ (q = 0 ∨ ¬ cmZ (nP d i) (nP d (el S (q - 1))) < 0) := by
  intro j
  have l1 : lenX v = 40 := by unfold lenX; rw [if_pos hv]
  induction j with
  | zero =>
    intro hj σ hX h1 h2 m hm
    obtain ⟨m, rfl⟩ : ∃ m', m = m' + 1 := ⟨m - 1, by omega⟩
    refine ⟨σ, 0, Nat.le_refl _, ?_, US8.refl' σ, h1, h2, fun p a b => by omega, Or.inl rfl⟩
    rw [f_X7_sortByPath_14.eq_2, if_pos (by decide)]
  | succ j ih =>
    intro hj σ hX h1 h2 m hm
    obtain ⟨m, rfl⟩ : ∃ m', m = m' + 1 := ⟨m - 1, by omega⟩
    have hs := hSn (el S j) (el_mem (by omega))
    rw [f_X7_sortByPath_14.eq_2, if_neg (fun h => by have := (ln_le0 (by omega)).mp h; omega), ln_pred (by omega), Nat.add_sub_cancel, l1, ck_nI (by omega) (by omega), h1 j (by omega), x_before hX h40 hi hs hp, cl_mk]
    by_cases c : cmZ (nP d i) (nP d (el S j)) < 0
    · rw [bI_yes c, if_neg i10, ck_nI (by omega) (by omega), ck_nI (by omega) (by omega), h1 j (by omega), ln_m1 (by omega), Nat.add_sub_cancel]
      simp only [bnd]
      have u0 : US8 v σ (sa σ 8 v (j + 1) (nI (el S j))) := by
        refine ⟨rfl, fun _ _ => rfl, fun f i hf => ?_⟩
        simp only [gi_si, gi_sr, gi_sg, gi_sa, gr_si, rr_sr, gr_sg, gr_sa, ga_si, ga_sr, ga_sg, ga_sa, true_and, and_true, false_and, and_false, Nat.reduceEqDiff, ↓reduceIte]
        rw [if_neg hf]
      obtain ⟨σ', q, g1, g2, g3, g4, g5, g6, g7⟩ := ih (by omega) (sa σ 8 v (j + 1) (nI (el S j))) (u0.px hv hX) (fun p hp => by
        simp only [gi_si, gi_sr, gi_sg, gi_sa, gr_si, rr_sr, gr_sg, gr_sa, ga_si, ga_sr, ga_sg, ga_sa, true_and, and_true, false_and, and_false, Nat.reduceEqDiff, ↓reduceIte]
        unfold upd
        rw [if_neg (by omega)]
        exact h1 p (by omega)) (fun p a b => by
        simp only [gi_si, gi_sr, gi_sg, gi_sa, gr_si, rr_sr, gr_sg, gr_sa, ga_si, ga_sr, ga_sg, ga_sa, true_and, and_true, false_and, and_false, Nat.reduceEqDiff, ↓reduceIte]
        unfold upd
        by_cases e : p = j
        · rw [e, if_pos rfl]
        · rw [if_neg (by omega)]
          exact h2 p (by omega) b) m (by omega)
      refine ⟨σ', q, by omega, g2, u0.trans g3, g4, g5, fun p a b => ?_, g7⟩
      by_cases e : p = j
      · rw [e]
        exact c
      · exact g6 p a (by omega)
    · rw [bI_no c, if_pos rfl]
      exact ⟨σ, j + 1, Nat.le_refl _, rfl, US8.refl' σ, h1, h2, fun p a b => by omega, Or.inr (by rw [Nat.add_sub_cancel]; exact c)⟩
def SO (d : Vd) (i : Nat) (S : List Nat) : Prop := S.Perm (List.range i) ∧ S.Pairwise (fun x y => cmZ (nP d x) (nP d y) < 0)
theorem SO_ins (hu : ∀ i j, i < j → j < vn d → nP d i ≠ nP d j) {i q : Nat} (hi : i < vn d) {S : List Nat} (h : SO d i S) (hq : q ≤ i) (h1 : ∀ p, q ≤ p → p < i → cmZ (nP d i) (nP d (el S p)) < 0) (h2 : q = 0 ∨ ¬ cmZ (nP d i) (nP d (el S (q - 1))) < 0) : SO d (i + 1) (S.take q ++ i :: S.drop q) := by
  have hl : S.length = i := by rw [h.1.length_eq, List.length_range]
  constructor
  · have p1 : (S.take q ++ i :: S.drop q).Perm (i :: (S.take q ++ S.drop q)) := List.perm_middle
    rw [List.take_append_drop] at p1
    refine p1.trans ?_
    rw [List.range_succ]
    exact ((h.1.cons i)).trans (List.perm_append_singleton i (List.range i)).symm
  · have hs := h.2
    rw [← List.take_append_drop q S, List.pairwise_append] at hs
    rw [List.pairwise_append, List.pairwise_cons]
    have up : ∀ x, x ∈ S.take q → cmZ (nP d x) (nP d i) < 0 := by
      intro x hx
      obtain ⟨p, hp, rfl⟩ := mem_el hx
      rw [List.length_take] at hp
      rw [el_take (by omega)]
      have hq0 : 0 < q := by omega
      have h2 := h2.resolve_left (by omega)
      have hm := List.mem_range.mp (h.1.mem_iff.mp (el_mem (show q - 1 < S.length by omega)))
      have hne := hu _ _ hm hi
      have hlast : cmZ (nP d (el S (q - 1))) (nP d i) < 0 := by
        have := cmZ_anti (nP d i) (nP d (el S (q - 1)))
        have h0 : cmZ (nP d i) (nP d (el S (q - 1))) ≠ 0 := fun e => hne ((cmZ_0 _ _).mp e).symm
        omega
      by_cases e : p = q - 1
      · rw [e]
        exact hlast
      · have := List.pairwise_iff_getElem.mp h.2 p (q - 1) (by omega) (by omega) (by omega)
        rw [← el_t (by omega), ← el_t (by omega)] at this
        exact cmZ_trans _ _ _ this hlast
    refine ⟨hs.1, ⟨fun y hy => ?_, hs.2.1⟩, fun x hx y hy => ?_⟩
    · obtain ⟨p, hp, rfl⟩ := mem_el hy
      rw [List.length_drop] at hp
      rw [el_drop]
      exact h1 _ (by omega) (by omega)
    · rcases List.mem_cons.mp hy with rfl | hy
      · exact up x hx
      · exact hs.2.2 x hx y hy
theorem x_sort_loop (hv : v < 8) (h40 : vn d ≤ 40) (hu : ∀ i j, i < j → j < vn d → nP d i ≠ nP d j) (hp : ∀ f, f < vn d → (nP d f).length < 1000 ∧ By (nP d f)) : ∀ (r i : Nat), i + r = vn d → ∀ (σ : St) (S : List Nat), PX σ v d → SO d i S → (∀ p, p < i → ga σ 8 v p = nI (el S p)) → ∀ m, r < m → ∃ σ' S', f_X7_sortByPath_2 m σ v (nI i) = some (σ', ()) ∧ US8 v σ σ' ∧ SO d (vn d) S' ∧ (∀ p, p < vn d → ga σ' 8 v p = nI (el S' p)) := by
  have l1 : lenX v = 40 := by unfold lenX; rw [if_pos hv]
  intro r
  induction r with
  | zero =>
    intro i hi σ S hX hS h1 m hm
    obtain ⟨m, rfl⟩ : ∃ m', m = m' + 1 := ⟨m - 1, by omega⟩
    have : i = vn d := by omega
    subst this
    refine ⟨σ, S, ?_, US8.refl' σ, hS, h1⟩
    rw [f_X7_sortByPath_2.eq_2, hX.1, if_pos (nI_le (by omega) (by omega))]
  | succ r ih =>
    intro i hi σ S hX hS h1 m hm
    obtain ⟨m, rfl⟩ : ∃ m', m = m' + 1 := ⟨m - 1, by omega⟩
    have hl : S.length = i := by rw [hS.1.length_eq, List.length_range]
    obtain ⟨s1, q, g1, g2, g3, g4, g5, g6, g7⟩ := x_ins hv h40 hp (f_X7_sortByPath_2 m) (i := i) (by omega) hl (fun x hx => by have := List.mem_range.mp (hS.1.mem_iff.mp hx); omega) i (Nat.le_refl _) σ hX h1 (fun p a b => by omega) fl (by have := fl_big; omega)
    have u1 : US8 v s1 (sa s1 8 v q (nI i)) := by
      refine ⟨rfl, fun _ _ => rfl, fun f i hf => ?_⟩
      simp only [gi_si, gi_sr, gi_sg, gi_sa, gr_si, rr_sr, gr_sg, gr_sa, ga_si, ga_sr, ga_sg, ga_sa, true_and, and_true, false_and, and_false, Nat.reduceEqDiff, ↓reduceIte]
      rw [if_neg hf]
    have uu := g3.trans u1
    obtain ⟨s2, S2, k1, k2, k3, k4⟩ := ih (i + 1) (by omega) (sa s1 8 v q (nI i)) (S.take q ++ i :: S.drop q) (uu.px hv hX) (SO_ins hu (by omega) hS g1 g6 g7) (fun p hp => by
      simp only [gi_si, gi_sr, gi_sg, gi_sa, gr_si, rr_sr, gr_sg, gr_sa, ga_si, ga_sr, ga_sg, ga_sa, true_and, and_true, false_and, and_false, Nat.reduceEqDiff, ↓reduceIte]
      unfold upd
      rw [el_app, List.length_take]
      by_cases c1 : p = q
      · subst c1
        rw [if_pos rfl, if_neg (by omega), show p - min p S.length = 0 by omega]
        rfl
      · rw [if_neg c1]
        by_cases c2 : p < q
        · rw [if_pos (by omega), el_take c2, g4 p c2]
        · rw [if_neg (by omega)]
          have e1 : p - min q S.length = (p - q - 1) + 1 := by omega
          rw [e1]
          have e2 : el (i :: S.drop q) (p - q - 1 + 1) = el (S.drop q) (p - q - 1) := by
            unfold el
            simp
          rw [e2, el_drop, show q + (p - q - 1) = p - 1 by omega]
          have := g5 (p - 1) (by omega) (by omega)
          rwa [show p - 1 + 1 = p by omega] at this) m (by omega)
    refine ⟨s2, S2, ?_, uu.trans k2, k3, k4⟩
    rw [f_X7_sortByPath_2.eq_2, hX.1, if_neg (nI_ge (by omega) (by omega))]
    refine Eq.trans g2 ?_
    unfold f_X7_sortByPath_58
    rw [l1, ck_nI (by omega) (by omega)]
    simp only [bnd]
    rw [nI_1, k1]
/-- an order by paths -/
def OO (d : Vd) (s : Nat → Nat) : Prop := (∀ i, i < vn d → s i < vn d) ∧ (∀ i j, i < j → j < vn d → cmI (nP d (s i)) (nP d (s j)) < 0) ∧ (∀ j, j < vn d → ∃ i, i < vn d ∧ s i = j)
theorem x_sort {σ : St} (hv : v < 8) (h40 : vn d ≤ 40) (hu : ∀ i j, i < j → j < vn d → nP d i ≠ nP d j) (hp : ∀ f, f < vn d → (nP d f).length < 1000 ∧ By (nP d f)) (hX : PX σ v d) : ∃ σ' s, f_X7_sortByPath σ v = some (σ', ()) ∧ US8 v σ σ' ∧ OO d s ∧ (∀ p, p < vn d → ga σ' 8 v p = nI (s p)) := by
  obtain ⟨s1, S, e1, u1, o1, a1⟩ := x_sort_loop hv h40 hu hp (vn d) 0 (by omega) σ [] hX ⟨List.Perm.refl _, List.Pairwise.nil⟩ (fun p h => absurd h (Nat.not_lt_zero _)) fl (by have := fl_big; omega)
  have hl : S.length = vn d := by rw [o1.1.length_eq, List.length_range]
  have hm : ∀ i, i < vn d → el S i < vn d := fun i hi => List.mem_range.mp (o1.1.mem_iff.mp (el_mem (by omega)))
  refine ⟨s1, el S, e1, u1, ⟨hm, fun i j hij hj => ?_, fun j hj => ?_⟩, a1⟩
  · have := List.pairwise_iff_getElem.mp o1.2 i j (by omega) (by omega) hij
    rw [← el_t (by omega), ← el_t (by omega)] at this
    have a := hp _ (hm i (by omega))
    have b := hp _ (hm j hj)
    rw [pr_lt, cmI_Z _ _ a.1 b.1 a.2 b.2]
    exact this
  · obtain ⟨i, hi, e⟩ := mem_el (o1.1.mem_iff.mpr (List.mem_range.mpr hj))
    exact ⟨i, by omega, e⟩
end So
