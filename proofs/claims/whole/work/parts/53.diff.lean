/-! differences, difference -/
section Df
variable {d e : Vd}
theorem la_mem : ∀ (r f : Nat) (x : Rw), x ∈ la d e r f ↔ ∃ g, f ≤ g ∧ g < f + r ∧ x = rwA d e g ∧ x.1 ≠ 0 := by
  intro r
  induction r with
  | zero =>
    intro f x
    constructor
    · intro h
      cases h
    · rintro ⟨g, g1, g2, _⟩
      omega
  | succ r ih =>
    intro f x
    rw [la.eq_2, List.mem_append, ih]
    constructor
    · rintro (h | ⟨g, g1, g2, g3⟩)
      · split at h
        · cases h
        · rename_i hc
          have : x = rwA d e f := by simpa using h
          exact ⟨f, Nat.le_refl _, by omega, this, by rw [this]; exact hc⟩
      · exact ⟨g, by omega, by omega, g3⟩
    · rintro ⟨g, g1, g2, g3, g4⟩
      by_cases c : g = f
      · subst c
        left
        rw [g3] at g4
        rw [if_neg g4, g3]
        simp
      · exact Or.inr ⟨g, by omega, by omega, g3, g4⟩
theorem lb_mem : ∀ (r f : Nat) (x : Rw), x ∈ lb d e r f ↔ ∃ g, f ≤ g ∧ g < f + r ∧ x = (1, none, some g) ∧ fop d (nP e g) = none := by
  intro r
  induction r with
  | zero =>
    intro f x
    constructor
    · intro h
      cases h
    · rintro ⟨g, g1, g2, _⟩
      omega
  | succ r ih =>
    intro f x
    rw [lb.eq_2, List.mem_append, ih]
    constructor
    · rintro (h | ⟨g, g1, g2, g3⟩)
      · split at h
        · rename_i hc
          exact ⟨f, Nat.le_refl _, by omega, by simpa using h, hc⟩
        · cases h
      · exact ⟨g, by omega, by omega, g3⟩
    · rintro ⟨g, g1, g2, g3, g4⟩
      by_cases c : g = f
      · subst c
        left
        rw [if_pos g4, g3]
        simp
      · exact Or.inr ⟨g, by omega, by omega, g3, g4⟩
theorem mlr_mem (x : Rw) : x ∈ mlr d e ↔ isR d e x := by
  unfold mlr isR
  rw [List.mem_append, la_mem, lb_mem]
  constructor
  · rintro (⟨g, _, g2, g3⟩ | ⟨g, _, g2, g3⟩)
    · exact Or.inl ⟨g, by omega, g3⟩
    · exact Or.inr ⟨g, by omega, g3⟩
  · rintro (⟨g, g2, g3⟩ | ⟨g, g2, g3⟩)
    · exact Or.inl ⟨g, Nat.zero_le _, by omega, g3⟩
    · exact Or.inr ⟨g, Nat.zero_le _, by omega, g3⟩
theorem la_nd : ∀ (r f : Nat), (la d e r f).Nodup := by
  intro r
  induction r with
  | zero => exact fun f => List.nodup_nil
  | succ r ih =>
    intro f
    rw [la.eq_2]
    split
    · exact ih (f + 1)
    · rw [List.singleton_append, List.nodup_cons]
      refine ⟨fun h => ?_, ih (f + 1)⟩
      obtain ⟨g, g1, g2, g3, _⟩ := (la_mem _ _ _).mp h
      have := congrArg (fun x : Rw => x.2.1) g3
      simp [rwA] at this
      omega
theorem lb_nd : ∀ (r f : Nat), (lb d e r f).Nodup := by
  intro r
  induction r with
  | zero => exact fun f => List.nodup_nil
  | succ r ih =>
    intro f
    rw [lb.eq_2]
    split
    · rw [List.singleton_append, List.nodup_cons]
      refine ⟨fun h => ?_, ih (f + 1)⟩
      obtain ⟨g, g1, g2, g3, _⟩ := (lb_mem _ _ _).mp h
      have := congrArg (fun x : Rw => x.2.2) g3
      simp at this
      omega
    · exact ih (f + 1)
theorem mlr_nd : (mlr d e).Nodup := by
  unfold mlr
  rw [List.nodup_append]
  refine ⟨la_nd _ _, lb_nd _ _, fun x hx y hy => ?_⟩
  rintro rfl
  obtain ⟨g, _, _, g3, _⟩ := (la_mem _ _ _).mp hx
  obtain ⟨h, _, _, h3, _⟩ := (lb_mem _ _ _).mp hy
  rw [g3] at h3
  have := congrArg (fun x : Rw => x.2.1) h3
  simp [rwA] at this
/-- the rows in order -/
def srt (d e : Vd) : List Rw := mg d e (vn d + vn e) 0 0
theorem srt_ok (wd : VW d) (we : VW e) : (mlr d e).Perm (srt d e) ∧ (srt d e).Pairwise (fun x y => cmZ (key d e x) (key d e y) < 0) := by
  obtain ⟨m1, m2, m3⟩ := mg_ok wd we (vn d + vn e) 0 0 (by omega) Iv_0
  have nd : (srt d e).Nodup := by
    rw [List.nodup_iff_pairwise_ne]
    refine m2.imp (fun h => ?_)
    rintro rfl
    exact cmZ_irr h rfl
  refine ⟨(List.perm_ext_iff_of_nodup mlr_nd nd).mpr (fun x => ?_), m2⟩
  rw [mlr_mem, ← isRf_0 wd we]
  exact (m1 x).symm
def ahd (d e : Vd) (L : List Rw) (x : Rw) : Nat := L.countP (fun y => decide (cmZ (key d e y) (key d e x) < 0))
theorem ahd_srt : ∀ (L : List Rw), L.Pairwise (fun x y => cmZ (key d e x) (key d e y) < 0) → ∀ i, i < L.length → ahd d e L (rwg L i) = i := by
  intro L
  induction L with
  | nil => exact fun _ i h => absurd h (Nat.not_lt_zero _)
  | cons a L ih =>
    intro h i hi
    rw [List.pairwise_cons] at h
    unfold ahd
    rw [List.countP_cons]
    cases i with
    | zero =>
      have e0 : rwg (a :: L) 0 = a := rfl
      rw [e0]
      have z1 : cmZ (key d e a) (key d e a) = 0 := (cmZ_0 _ _).mpr rfl
      have z2 : L.countP (fun y => decide (cmZ (key d e y) (key d e a) < 0)) = 0 := by
        rw [List.countP_eq_zero]
        intro y hy
        have := h.1 y hy
        have := cmZ_anti (key d e a) (key d e y)
        simp
        omega
      rw [z2]
      simp [z1]
    | succ i =>
      have e0 : rwg (a :: L) (i + 1) = rwg L i := rfl
      have hi' : i < L.length := by simpa using hi
      have := ih h.2 i hi'
      unfold ahd at this
      rw [e0, this]
      have hm : rwg L i ∈ L := by
        unfold rwg
        rw [List.getD_eq_getElem?_getD, List.getElem?_eq_getElem hi']
        exact List.getElem_mem hi'
      have := h.1 _ hm
      simp [this]
theorem ahd_perm {L M : List Rw} (h : L.Perm M) (x : Rw) : ahd d e L x = ahd d e M x := h.countP_eq _
theorem rwg_mem {L : List Rw} {i : Nat} (h : i < L.length) : rwg L i ∈ L := by
  unfold rwg
  rw [List.getD_eq_getElem?_getD, List.getElem?_eq_getElem h]
  exact List.getElem_mem h
theorem mem_rwg {L : List Rw} {x : Rw} (h : x ∈ L) : ∃ i, i < L.length ∧ rwg L i = x := by
  obtain ⟨i, hi, e⟩ := List.mem_iff_getElem.mp h
  refine ⟨i, hi, ?_⟩
  unfold rwg
  rw [List.getD_eq_getElem?_getD, List.getElem?_eq_getElem hi, ← e]
  rfl
/-- which row is ahead of so many -/
theorem ahd_is (wd : VW d) (we : VW e) {k : Nat} (hk : k < (mlr d e).length) : ahd d e (mlr d e) (rwg (mlr d e) k) < (srt d e).length ∧ rwg (srt d e) (ahd d e (mlr d e) (rwg (mlr d e) k)) = rwg (mlr d e) k := by
  obtain ⟨p, s⟩ := srt_ok wd we
  have hm := p.mem_iff.mp (rwg_mem hk)
  obtain ⟨i, hi, ei⟩ := mem_rwg hm
  rw [ahd_perm p, ← ei, ahd_srt _ s i hi]
  exact ⟨hi, rfl⟩
end Df
section Dg
variable {τ : St} {a b : Nat} {d e : Vd}
theorem UD.ue' {τ τ' : St} (h : UD τ τ') : UE τ τ' := h.ue
/-- fields of a row -/
theorem row_ok {x : Rw} (h : isR d e x) : (∃ f, x.2.1 = some f ∧ f < vn d ∧ key d e x = nP d f) ∨ (∃ g, x.2.1 = none ∧ x.2.2 = some g ∧ g < vn e ∧ key d e x = nP e g) := by
  rcases h with ⟨f, f1, rfl, _⟩ | ⟨g, g1, rfl, _⟩
  · exact Or.inl ⟨f, rfl, f1, rfl⟩
  · exact Or.inr ⟨g, rfl, rfl, g1, rfl⟩
theorem m_crow (ha : a < 8) (hb : b < 8) (hd : VM τ a d) (he : VM τ b e) (wd : VW d) (we : VW e) {L : List Rw} (h : DR τ L) (hL : L.length ≤ 80) (hR : ∀ x, x ∈ L → isR d e x) {i j : Nat} (hi : i < L.length) (hj : j < L.length) : ∃ τ' z, f_X9_compareRows τ (nI a) (nI b) (nI i) (nI j) = some (τ', z) ∧ z.toInt = cmZ (key d e (rwg L i)) (key d e (rwg L j)) ∧ UD τ τ' := by
  have w1 : vn d ≤ 40 := Nat.le_trans wd.1.1 wd.1.2.1
  have w2 : vn e ≤ 40 := Nat.le_trans we.1.1 we.1.2.1
  have ri := h.2 i hi
  have rj := h.2 j hj
  unfold f_X9_compareRows f_X9_compareRows_16 f_X9_compareRows_35 f_X9_compareRows_66 f_X9_compareRows_97
  simp only [ck_nI (show i < 80 by omega) (by omega : 80 < 2147483648), ck_nI (show j < 80 by omega) (by omega : 80 < 2147483648)]
  rw [ri.2.1, ri.2.2, rj.2.1, rj.2.2]
  have zz : ∀ {l m : List Nat}, l.length < 1000 ∧ By l → m.length < 1000 ∧ By m → (cmI l m).toInt = cmZ l m := fun p q => cmI_Z _ _ p.1 q.1 p.2 q.2
  rcases row_ok (hR _ (rwg_mem hi)) with ⟨f, f1, f2, f3⟩ | ⟨f, f0, f1, f2, f3⟩ <;> rcases row_ok (hR _ (rwg_mem hj)) with ⟨g, g1, g2, g3⟩ | ⟨g, g0, g1, g2, g3⟩
  · rw [f1, g1, f3, g3, if_neg (show ¬ oI (some f) = -2 from ln_m2 (by omega)), if_neg (show ¬ oI (some g) = -2 from ln_m2 (by omega)), if_neg (show ¬ oI (some f) = -2 from ln_m2 (by omega)), if_neg (show ¬ oI (some g) = -2 from ln_m2 (by omega))]
    obtain ⟨t, e1, u⟩ := m_comp ha ha hd hd wd wd f2 g2
    have e1 : f_X9_compare τ (nI a) (oI (some f)) (nI a) (oI (some g)) = _ := e1
    rw [e1, cl_mk]
    exact ⟨t, _, rfl, zz (pth_b wd f2) (pth_b wd g2), u⟩
  · rw [f1, g0, g1, f3, g3, if_neg (show ¬ oI (some f) = -2 from ln_m2 (by omega)), if_pos (show oI none = -2 from rfl), if_neg (show ¬ oI (some f) = -2 from ln_m2 (by omega)), if_pos (show oI none = -2 from rfl)]
    obtain ⟨t, e1, u⟩ := m_comp ha hb hd he wd we f2 g2
    have e1 : f_X9_compare τ (nI a) (oI (some f)) (nI b) (oI (some g)) = _ := e1
    rw [e1, cl_mk]
    exact ⟨t, _, rfl, zz (pth_b wd f2) (pth_b we g2), u⟩
  · rw [f0, f1, g1, f3, g3, if_pos (show oI none = -2 from rfl), if_neg (show ¬ oI (some g) = -2 from ln_m2 (by omega)), if_pos (show oI none = -2 from rfl), if_neg (show ¬ oI (some g) = -2 from ln_m2 (by omega))]
    obtain ⟨t, e1, u⟩ := m_comp hb ha he hd we wd f2 g2
    have e1 : f_X9_compare τ (nI b) (oI (some f)) (nI a) (oI (some g)) = _ := e1
    rw [e1, cl_mk]
    exact ⟨t, _, rfl, zz (pth_b we f2) (pth_b wd g2), u⟩
  · rw [f0, f1, g0, g1, f3, g3]
    simp only [show oI none = -2 from rfl, if_true]
    obtain ⟨t, e1, u⟩ := m_comp hb hb he he we we f2 g2
    have e1 : f_X9_compare τ (nI b) (oI (some f)) (nI b) (oI (some g)) = _ := e1
    rw [e1, cl_mk]
    exact ⟨t, _, rfl, zz (pth_b we f2) (pth_b we g2), u⟩
theorem countP_drop {L : List Rw} {p : Rw → Bool} {j : Nat} (h : j < L.length) : (L.drop j).countP p = (if p (rwg L j) = true then 1 else 0) + (L.drop (j + 1)).countP p := by
  rw [List.drop_eq_getElem_cons h, List.countP_cons]
  have : rwg L j = L[j] := by
    unfold rwg
    rw [List.getD_eq_getElem?_getD, List.getElem?_eq_getElem h]
    rfl
  rw [this]
  omega
theorem m_ahead (ha : a < 8) (hb : b < 8) (wd : VW d) (we : VW e) {L : List Rw} (hL : L.length ≤ 80) (hR : ∀ x, x ∈ L → isR d e x) (k37 : St → Int32 → Int32 → Int32 → Int32 → Int32 → Option (St × Int32)) (x w : Int32) {k : Nat} (hk : k < L.length) : ∀ (r j : Nat), j + r = L.length → ∀ (τ : St) (c : Nat), VM τ a d → VM τ b e → DR τ L → ∀ m, r < m → ∃ τ', f_X9_difference_52 k37 m τ (nI a) (nI b) x w (nI k) (nI c) (nI j) = (if nI (c + (L.drop j).countP (fun y => decide (cmZ (key d e y) (key d e (rwg L k)) < 0))) = x then (if w = 0 then some (τ', nI (rwg L k).1) else if w = 1 then some (τ', oI (rwg L k).2.1) else some (τ', oI (rwg L k).2.2)) else k37 τ' (nI a) (nI b) x w (nI (k + 1))) ∧ UE τ τ' ∧ DR τ' L := by
  intro r
  induction r with
  | zero =>
    intro j hj τ c hd he hD m hm
    obtain ⟨m, rfl⟩ : ∃ m', m = m' + 1 := ⟨m - 1, by omega⟩
    refine ⟨τ, ?_, UE.refl' τ, hD⟩
    have rk := hD.2 k hk
    rw [f_X9_difference_52.eq_2, hD.1, if_pos (nI_le (by omega) (by omega)), List.drop_eq_nil_of_le (by omega), nI_1]
    simp only [ck_nI (show k < 80 by omega) (by omega : 80 < 2147483648), List.countP_nil, Nat.add_zero]
    rw [rk.1, rk.2.1, rk.2.2]
    rfl
  | succ r ih =>
    intro j hj τ c hd he hD m hm
    obtain ⟨m, rfl⟩ : ∃ m', m = m' + 1 := ⟨m - 1, by omega⟩
    obtain ⟨t1, z, e1, hz, u1⟩ := m_crow ha hb hd he wd we hD hL hR (i := j) (j := k) (by omega) hk
    have D1 := u1.dr hD
    have hd1 := (KM_UM (v := a) u1.um).vm wd hd
    have he1 := (KM_UM (v := b) u1.um).vm we he
    rw [f_X9_difference_52.eq_2, hD.1, if_neg (nI_ge (by omega) (by omega)), e1, cl_mk, countP_drop (by omega)]
    unfold f_X9_difference_81
    have z0 : (0 : Int32).toInt = 0 := by decide
    have hz0 : 0 ≤ z ↔ 0 ≤ cmZ (key d e (rwg L j)) (key d e (rwg L k)) := by rw [pr_le, hz, z0]
    by_cases q : cmZ (key d e (rwg L j)) (key d e (rwg L k)) < 0
    · rw [if_neg (fun h => by have := hz0.mp h; omega), if_pos (by simp [q]), nI_1, nI_1]
      obtain ⟨t2, e2, u2, D2⟩ := ih (j + 1) (by omega) t1 (c + 1) hd1 he1 D1 m (by omega)
      refine ⟨t2, ?_, u1.ue.trans u2, D2⟩
      rw [e2, Nat.add_assoc]
    · rw [if_pos (hz0.mpr (by omega)), if_neg (by simp; omega), Int32.add_zero, nI_1]
      obtain ⟨t2, e2, u2, D2⟩ := ih (j + 1) (by omega) t1 c hd1 he1 D1 m (by omega)
      refine ⟨t2, ?_, u1.ue.trans u2, D2⟩
      rw [e2, Nat.zero_add]
def pick (w : Int32) (x : Rw) : Int32 := if w = 0 then nI x.1 else if w = 1 then oI x.2.1 else oI x.2.2
theorem m_pick (ha : a < 8) (hb : b < 8) (wd : VW d) (we : VW e) {L : List Rw} (hL : L.length ≤ 80) (hR : ∀ x, x ∈ L → isR d e x) (x w : Int32) : ∀ (r k : Nat), k + r = L.length → ∀ (τ : St), VM τ a d → VM τ b e → DR τ L → ∀ m, r < m → ∃ τ', f_X9_difference_37 m τ (nI a) (nI b) x w (nI k) = some (τ', match fm (fun k => decide (nI (ahd d e L (rwg L k)) = x)) r k with | none => -1 | some k => pick w (rwg L k)) ∧ UE τ τ' := by
  intro r
  induction r with
  | zero =>
    intro k hk τ hd he hD m hm
    obtain ⟨m, rfl⟩ : ∃ m', m = m' + 1 := ⟨m - 1, by omega⟩
    refine ⟨τ, ?_, UE.refl' τ⟩
    rw [f_X9_difference_37.eq_2, hD.1, if_pos (nI_le (by omega) (by omega))]
    rfl
  | succ r ih =>
    intro k hk τ hd he hD m hm
    obtain ⟨m, rfl⟩ : ∃ m', m = m' + 1 := ⟨m - 1, by omega⟩
    obtain ⟨t1, e1, u1, D1⟩ := m_ahead ha hb wd we hL hR (f_X9_difference_37 m) x w (k := k) (by omega) L.length 0 (by omega) τ 0 hd he hD fl (by have := fl_big; omega)
    rw [f_X9_difference_37.eq_2, hD.1, if_neg (nI_ge (by omega) (by omega))]
    rw [List.drop_zero, Nat.zero_add] at e1
    have e1 : f_X9_difference_52 (f_X9_difference_37 m) fl τ (nI a) (nI b) x w (nI k) 0 0 = _ := e1
    rw [e1]
    by_cases q : nI (ahd d e L (rwg L k)) = x
    · refine ⟨t1, ?_, u1⟩
      have q' : nI (L.countP (fun y => decide (cmZ (key d e y) (key d e (rwg L k)) < 0))) = x := q
      have hf : fm (fun k => decide (nI (ahd d e L (rwg L k)) = x)) (r + 1) k = some k := by
        rw [fm.eq_2, if_pos (by simpa using q)]
      rw [if_pos q', hf]
      show _ = some (t1, pick w (rwg L k))
      unfold pick
      by_cases w0 : w = 0
      · rw [if_pos w0, if_pos w0]
      · rw [if_neg w0, if_neg w0]
        by_cases w1 : w = 1
        · rw [if_pos w1, if_pos w1]
        · rw [if_neg w1, if_neg w1]
    · have q' : ¬ nI (L.countP (fun y => decide (cmZ (key d e y) (key d e (rwg L k)) < 0))) = x := q
      have hf : fm (fun k => decide (nI (ahd d e L (rwg L k)) = x)) (r + 1) k = fm (fun k => decide (nI (ahd d e L (rwg L k)) = x)) r (k + 1) := by
        rw [fm.eq_2, if_neg (by simpa using q)]
      rw [if_neg q', hf]
      obtain ⟨t2, e2, u2⟩ := ih (k + 1) (by omega) t1 ((KM_UM (v := a) u1.um).vm wd hd) ((KM_UM (v := b) u1.um).vm we he) D1 m (by omega)
      exact ⟨t2, e2, u1.trans u2⟩
end Dg
theorem srt_len {d e : Vd} (wd : VW d) (we : VW e) : (srt d e).length ≤ 80 ∧ (mlr d e).length = (srt d e).length := by
  have w1 : vn d ≤ 40 := Nat.le_trans wd.1.1 wd.1.2.1
  have w2 : vn e ≤ 40 := Nat.le_trans we.1.1 we.1.2.1
  obtain ⟨m1, m2, m3⟩ := mg_ok wd we (vn d + vn e) 0 0 (by omega) Iv_0
  refine ⟨?_, (srt_ok wd we).1.length_eq⟩
  show (mg d e (vn d + vn e) 0 0).length ≤ 80
  omega
theorem RR.ud {σ τ σ' τ' : St} (h : RR σ τ) (u : UC σ σ') (g : UE τ τ') : RR σ' τ' := by
  obtain ⟨tx, ou, nv, W, r1, r2, r3, r4⟩ := h
  have hn := r4.1
  refine ⟨tx, ou, nv, W, ⟨LX_of r1.1 (u.2.1 _ _ (by omega)) (u.2.2 _ _ (by omega)), by rw [g.1 803 0 (by omega), r1.2.1], by rw [g.2 2 0 (by omega) (by omega)]; exact r1.2.2⟩, r2.of u.1 (fun k hk => ⟨u.2.1 _ _ (by omega), u.2.2 _ _ (by omega)⟩) (g.1 _ _ (by omega)) (g.2 _ _ (by omega) (by omega)), by rw [u.2.1 709 0 (by omega), g.1 809 0 (by omega), r3], r4.of (u.2.1 _ _ (by omega)) (g.1 _ _ (by omega)) (fun v hv => u.kx (by omega)) (fun v _ => KM_UM g.um)⟩
theorem op_differences {σ τ : St} (h : RR σ τ) (x y : Int32) : OK (f_X8_differences σ x y) (f_X9_differences τ x y) := by
  have hR := h
  obtain ⟨tx, ou, nv, W, h1, h2, h3, h4⟩ := h
  have hn := h4.1
  unfold f_X8_differences f_X9_differences
  rcases isV h4 x with ⟨a, ha, rfl, g1, g2⟩ | ⟨g1, g2⟩
  · rw [g1, g2, cl_mk, cl_mk, if_neg i10, if_neg i10]
    rcases isV h4 y with ⟨b, hb, rfl, k1, k2⟩ | ⟨k1, k2⟩
    · rw [k1, k2, cl_mk, cl_mk, if_neg i10, if_neg i10, ck_nI (by omega) (by omega), ck_nI (by omega) (by omega)]
      obtain ⟨xa, ma, wa⟩ := h4.2.2.2 a ha
      obtain ⟨xb, mb, wb⟩ := h4.2.2.2 b hb
      obtain ⟨s1, e1, u1, r1⟩ := x_cmp (a := a) (b := b) (by omega) (by omega) xa xb wa wb
      obtain ⟨t1, e2, u2, r2⟩ := m_differ (a := a) (b := b) (by omega) (by omega) ma mb wa wb
      rw [e1, e2, cl_mk, cl_mk, r1.1, r2.1, (srt_len wa wb).2]
      exact ⟨s1, t1, _, rfl, rfl, hR.ud u1 u2⟩
    · rw [k1, k2, cl_mk, cl_mk, if_pos rfl, if_pos rfl]
      exact ⟨σ, τ, -1, rfl, rfl, hR⟩
  · rw [g1, g2, cl_mk, cl_mk, if_pos rfl, if_pos rfl]
    exact ⟨σ, τ, -1, rfl, rfl, hR⟩
theorem op_difference {σ τ : St} (h : RR σ τ) (x y i w : Int32) : OK (f_X8_difference σ x y i w) (f_X9_difference τ x y i w) := by
  have hR := h
  obtain ⟨tx, ou, nv, W, h1, h2, h3, h4⟩ := h
  have hn := h4.1
  unfold f_X8_difference f_X8_differences f_X9_difference
  rcases isV h4 x with ⟨a, ha, rfl, g1, g2⟩ | ⟨g1, g2⟩
  · rw [g1, g2, cl_mk, cl_mk, if_neg i10, if_neg i10]
    rcases isV h4 y with ⟨b, hb, rfl, k1, k2⟩ | ⟨k1, k2⟩
    · rw [k1, k2, cl_mk, cl_mk, if_neg i10, if_neg i10, ck_nI (by omega) (by omega), ck_nI (by omega) (by omega)]
      obtain ⟨xa, ma, wa⟩ := h4.2.2.2 a ha
      obtain ⟨xb, mb, wb⟩ := h4.2.2.2 b hb
      obtain ⟨s1, e1, u1, r1⟩ := x_cmp (a := a) (b := b) (by omega) (by omega) xa xb wa wb
      have r1 : CR s1 (srt (W a) (W b)) := r1
      obtain ⟨L80, Leq⟩ := srt_len wa wb
      rw [e1, cl_mk, cl_mk, r1.1, if_neg (nI_pos (by omega))]
      rw [show (2 : Int32) = nI 3 - 1 from by decide]
      rcases pk_ix w (n := 3) (by omega) with hw | hw | ⟨q, hq, rfl⟩
      · rw [m_in_no (by omega) (Or.inl hw), cl_mk, if_pos rfl]
        have n0 : ¬ w = 0 := out_ne (n := 3) (j := 0) (Or.inl hw) (by omega) (by omega)
        have n1 : ¬ w = 1 := out_ne (n := 3) (j := 1) (Or.inl hw) (by omega) (by omega)
        have n2 : ¬ w = nI 3 - 1 := by
          rw [show (nI 3 - 1 : Int32) = nI 2 from by decide]
          exact out_ne (n := 3) (j := 2) (Or.inl hw) (by omega) (by omega)
        refine ⟨s1, τ, -1, ?_, rfl, hR.ud u1 (UE.refl' τ)⟩
        simp only [bnd]
        rw [if_neg n0, if_neg n1, if_neg n2]
        split
        · rfl
        · split <;> rfl
      · rw [m_in_no (by omega) (Or.inr hw), cl_mk, if_pos rfl]
        have n0 : ¬ w = 0 := out_ne (n := 3) (j := 0) (Or.inr hw) (by omega) (by omega)
        have n1 : ¬ w = 1 := out_ne (n := 3) (j := 1) (Or.inr hw) (by omega) (by omega)
        have n2 : ¬ w = nI 3 - 1 := by
          rw [show (nI 3 - 1 : Int32) = nI 2 from by decide]
          exact out_ne (n := 3) (j := 2) (Or.inr hw) (by omega) (by omega)
        refine ⟨s1, τ, -1, ?_, rfl, hR.ud u1 (UE.refl' τ)⟩
        simp only [bnd]
        rw [if_neg n0, if_neg n1, if_neg n2]
        split
        · rfl
        · split <;> rfl
      · rw [m_in_yes (by omega) hq, cl_mk, if_neg i10]
        obtain ⟨t1, e2, u2, r2⟩ := m_differ (a := a) (b := b) (by omega) (by omega) ma mb wa wb
        rw [e2, cl_mk]
        obtain ⟨t2, e3, u3⟩ := m_pick (a := a) (b := b) (by omega) (by omega) wa wb (L := mlr (W a) (W b)) (by omega) (fun z hz => (mlr_mem z).mp hz) i (nI q) (mlr (W a) (W b)).length 0 (by omega) t1 ((KM_UM (v := a) u2.um).vm wa ma) ((KM_UM (v := b) u2.um).vm wb mb) r2 fl (by have := fl_big; omega)
        have e3 : f_X9_difference_37 fl t1 (nI a) (nI b) i (nI q) 0 = _ := e3
        rw [e3]
        have uR := hR.ud u1 (u2.trans u3)
        rcases pk_ix i (n := (srt (W a) (W b)).length) (by omega) with hi | hi | ⟨j, hj, rfl⟩
        · have fn : fm (fun k => decide (nI (ahd (W a) (W b) (mlr (W a) (W b)) (rwg (mlr (W a) (W b)) k)) = i)) (mlr (W a) (W b)).length 0 = none := by
            cases c : fm (fun k => decide (nI (ahd (W a) (W b) (mlr (W a) (W b)) (rwg (mlr (W a) (W b)) k)) = i)) (mlr (W a) (W b)).length 0 with
            | none => rfl
            | some k =>
              obtain ⟨_, c1, c2, _⟩ := fm_some _ _ _ c
              have := (ahd_is wa wb (k := k) (by omega)).1
              simp at c2
              exact absurd c2 (fun c2 => out_ne (n := (srt (W a) (W b)).length) (Or.inl hi) this (by omega) c2.symm)
          rw [fn, if_pos hi]
          exact ⟨s1, t2, -1, rfl, rfl, uR⟩
        · have fn : fm (fun k => decide (nI (ahd (W a) (W b) (mlr (W a) (W b)) (rwg (mlr (W a) (W b)) k)) = i)) (mlr (W a) (W b)).length 0 = none := by
            cases c : fm (fun k => decide (nI (ahd (W a) (W b) (mlr (W a) (W b)) (rwg (mlr (W a) (W b)) k)) = i)) (mlr (W a) (W b)).length 0 with
            | none => rfl
            | some k =>
              obtain ⟨_, c1, c2, _⟩ := fm_some _ _ _ c
              have := (ahd_is wa wb (k := k) (by omega)).1
              simp at c2
              exact absurd c2 (fun c2 => out_ne (n := (srt (W a) (W b)).length) (Or.inr hi) this (by omega) c2.symm)
          rw [fn]
          refine ⟨s1, t2, -1, ?_, rfl, uR⟩
          split
          · rfl
          · rw [if_neg]
            intro h
            rw [pr_lt] at h
            rw [pr_le] at hi
            omega
        · rw [if_neg (nI_pos (by omega)), if_pos (nI_lt hj (by omega))]
          have hget : ∃ k, k < (mlr (W a) (W b)).length ∧ ahd (W a) (W b) (mlr (W a) (W b)) (rwg (mlr (W a) (W b)) k) = j := by
            obtain ⟨p, s⟩ := srt_ok wa wb
            obtain ⟨k, hk, ek⟩ := mem_rwg (p.mem_iff.mpr (rwg_mem hj))
            refine ⟨k, hk, ?_⟩
            rw [ek, ahd_perm p, ahd_srt _ s j hj]
          obtain ⟨k0, hk0, ek0⟩ := hget
          cases c : fm (fun k => decide (nI (ahd (W a) (W b) (mlr (W a) (W b)) (rwg (mlr (W a) (W b)) k)) = nI j)) (mlr (W a) (W b)).length 0 with
          | none =>
            have := fm_none _ _ c k0 (by omega) (by omega)
            simp [ek0] at this
          | some k =>
            obtain ⟨_, c1, c2, _⟩ := fm_some _ _ _ c
            obtain ⟨a1, a2⟩ := ahd_is wa wb (k := k) (by omega)
            simp at c2
            have c3 := (ln_eq (by omega) (by omega)).mp c2
            rw [c3] at a2
            show OK _ (some (t2, pick (nI q) (rwg (mlr (W a) (W b)) k)))
            rw [← a2]
            have rr := r1.2 j hj
            simp only [bnd]
            unfold pick
            have q3 : q = 0 ∨ q = 1 ∨ q = 2 := by omega
            rcases q3 with rfl | rfl | rfl
            · rw [if_pos n00, if_pos n00, show lenX 15 = 80 from rfl, ck_nI (by omega) (by omega), rr.1]
              exact ⟨s1, t2, _, rfl, rfl, uR⟩
            · rw [if_neg (by decide), if_pos (by decide), if_neg (by decide), if_pos (by decide), show lenX 16 = 80 from rfl, ck_nI (by omega) (by omega), rr.2.1]
              exact ⟨s1, t2, _, rfl, rfl, uR⟩
            · rw [if_neg (by decide), if_neg (by decide), if_pos (by decide), if_neg (by decide), if_neg (by decide), show lenX 17 = 80 from rfl, ck_nI (by omega) (by omega), rr.2.2]
              exact ⟨s1, t2, _, rfl, rfl, uR⟩
    · rw [k1, k2, cl_mk, cl_mk, if_pos rfl, if_pos rfl, cl_mk, if_pos (by decide)]
      exact ⟨σ, τ, -1, rfl, rfl, hR⟩
  · rw [g1, g2, cl_mk, cl_mk, if_pos rfl, if_pos rfl, cl_mk, if_pos (by decide)]
    exact ⟨σ, τ, -1, rfl, rfl, hR⟩
