/-! The reference grows a version: rules, names, what is within. -/
def UR (g : Nat) (τ τ' : St) : Prop := (∀ f i, gi τ' f i = gi τ f i) ∧ (∀ f i x, ¬ ((f = 1 ∧ 11 ≤ i ∧ i ≤ 13 ∧ x = g) ∨ (f = 4 ∧ i = 0 ∧ x = g) ∨ (f = 2 ∧ (i = 5 ∨ i = 6) ∧ 12 * g ≤ x ∧ x < 12 * g + 12)) → ga τ' f i x = ga τ f i x)
theorem UR.trans {g : Nat} {σ σ1 σ2 : St} (h : UR g σ σ1) (k : UR g σ1 σ2) : UR g σ σ2 := ⟨fun f i => (k.1 f i).trans (h.1 f i), fun f i x a => (k.2 f i x a).trans (h.2 f i x a)⟩
theorem UR.refl' (g : Nat) (τ : St) : UR g τ τ := ⟨fun _ _ => rfl, fun _ _ _ _ => rfl⟩
theorem UR.s1 {g r x : Nat} (hr : 11 ≤ r ∧ r ≤ 13) (hx : x = g) (τ : St) (y : Int32) : UR g τ (sa τ 1 r x y) := ⟨fun _ _ => rfl, fun f i x' a => by
  simp only [gi_si, gi_sr, gi_sg, gi_sa, gr_si, rr_sr, gr_sg, gr_sa, ga_si, ga_sr, ga_sg, ga_sa, true_and, and_true, false_and, and_false, Nat.reduceEqDiff, ↓reduceIte]
  split
  · rename_i h
    obtain ⟨rfl, rfl⟩ := h
    unfold upd
    rw [if_neg (by omega)]
  · rfl⟩
theorem UR.s4 {g x : Nat} (hx : x = g) (τ : St) (y : Int32) : UR g τ (sa τ 4 0 x y) := ⟨fun _ _ => rfl, fun f i x' a => by
  simp only [gi_si, gi_sr, gi_sg, gi_sa, gr_si, rr_sr, gr_sg, gr_sa, ga_si, ga_sr, ga_sg, ga_sa, true_and, and_true, false_and, and_false, Nat.reduceEqDiff, ↓reduceIte]
  split
  · rename_i h
    obtain ⟨rfl, rfl⟩ := h
    unfold upd
    rw [if_neg (by omega)]
  · rfl⟩
theorem UR.s2 {g r x : Nat} (hr : r = 5 ∨ r = 6) (hx : 12 * g ≤ x ∧ x < 12 * g + 12) (τ : St) (y : Int32) : UR g τ (sa τ 2 r x y) := ⟨fun _ _ => rfl, fun f i x' a => by
  simp only [gi_si, gi_sr, gi_sg, gi_sa, gr_si, rr_sr, gr_sg, gr_sa, ga_si, ga_sr, ga_sg, ga_sa, true_and, and_true, false_and, and_false, Nat.reduceEqDiff, ↓reduceIte]
  split
  · rename_i h
    obtain ⟨rfl, rfl⟩ := h
    unfold upd
    rw [if_neg (by omega)]
  · rfl⟩
theorem DM.ur {v j : Nat} (hj : j < 8) {τ τ' : St} (h : UR (8 * v + j) τ τ') : DM v τ τ' := ⟨h.1, fun f i x a => h.2 f i x (by unfold dM at a; omega)⟩
theorem RM.ur {q q' k s : Nat} {F T : List Nat} {τ τ' : St} (u : UR q τ τ') (hne : q' ≠ q) (hF : F.length ≤ 12) (hT : T.length ≤ 12) (a : RM τ q' k s F T) : RM τ' q' k s F T := by
  obtain ⟨a1, a2, a3, a4, a5, a6⟩ := a
  refine ⟨?_, ?_, ?_, Bs_of a4 (fun i hi => u.2 _ _ _ (by omega)), ?_, Bs_of a6 (fun i hi => u.2 _ _ _ (by omega))⟩
  · rw [u.2 _ _ _ (by omega), a1]
  · rw [u.2 _ _ _ (by omega), a2]
  · rw [u.2 _ _ _ (by omega), a3]
  · rw [u.2 _ _ _ (by omega), a5]
section Gr
variable {τ : St} {g g0 k e : Nat}
def stR (τ : St) (g i : Nat) (x y : Int32) : St := sa (sa τ 2 5 (12 * g + i) x) 2 6 (12 * g + i) y
theorem stR_u {i : Nat} {x y : Int32} (hi : i < 12) : UR g τ (stR τ g i x y) := (UR.s2 (by omega) (by omega) τ _).trans (UR.s2 (by omega) (by omega) _ _)
theorem stR_3 {i j : Nat} {x y : Int32} : ga (stR τ g i x y) 2 5 (12 * g + j) = if j = i then x else ga τ 2 5 (12 * g + j) := by
  unfold stR
  simp only [gi_si, gi_sr, gi_sg, gi_sa, gr_si, rr_sr, gr_sg, gr_sa, ga_si, ga_sr, ga_sg, ga_sa, true_and, and_true, false_and, and_false, Nat.reduceEqDiff, ↓reduceIte]
  unfold upd
  by_cases c : j = i
  · rw [if_pos (by omega), if_pos c]
  · rw [if_neg (by omega), if_neg c]
theorem stR_4 {i j : Nat} {x y : Int32} : ga (stR τ g i x y) 2 6 (12 * g + j) = if j = i then y else ga τ 2 6 (12 * g + j) := by
  unfold stR
  simp only [gi_si, gi_sr, gi_sg, gi_sa, gr_si, rr_sr, gr_sg, gr_sa, ga_si, ga_sr, ga_sg, ga_sa, true_and, and_true, false_and, and_false, Nat.reduceEqDiff, ↓reduceIte]
  unfold upd
  by_cases c : j = i
  · rw [if_pos (by omega), if_pos c]
  · rw [if_neg (by omega), if_neg c]
theorem stR_1 {i : Nat} {x y : Int32} (f r : Nat) (hf : f = 1 ∨ f = 4) : ga (stR τ g i x y) f r = ga τ f r := by
  unfold stR
  rcases hf with rfl | rfl
  · simp only [gi_si, gi_sr, gi_sg, gi_sa, gr_si, rr_sr, gr_sg, gr_sa, ga_si, ga_sr, ga_sg, ga_sa, true_and, and_true, false_and, and_false, Nat.reduceEqDiff, ↓reduceIte]
  · simp only [gi_si, gi_sr, gi_sg, gi_sa, gr_si, rr_sr, gr_sg, gr_sa, ga_si, ga_sr, ga_sg, ga_sa, true_and, and_true, false_and, and_false, Nat.reduceEqDiff, ↓reduceIte]
theorem m_copyRB (hg : g < 64) (hg0 : g0 < 64) (hne : g0 ≠ g) (A3 A4 : Nat → Int32) : ∀ (r i : Nat), i + r = 12 → ∀ (τ : St), (∀ j, j < 12 → ga τ 2 5 (12 * g0 + j) = A3 j ∧ ga τ 2 6 (12 * g0 + j) = A4 j) → (∀ j, j < i → ga τ 2 5 (12 * g + j) = vp_nar .byte (A3 j) ∧ ga τ 2 6 (12 * g + j) = vp_nar .byte (A4 j)) → ∀ m, r < m → ∃ τ', f_X9_copyRule_50 m τ (nI g0) (nI g) (nI i) = some (τ', ()) ∧ UR g τ τ' ∧ (∀ f x, f = 1 ∨ f = 4 → ga τ' f x = ga τ f x) ∧ (∀ j, j < 12 → ga τ' 2 5 (12 * g + j) = vp_nar .byte (A3 j) ∧ ga τ' 2 6 (12 * g + j) = vp_nar .byte (A4 j)) := by
  intro r
  induction r with
  | zero =>
    intro i hi τ hA hB m hm
    obtain ⟨m, rfl⟩ : ∃ m', m = m' + 1 := ⟨m - 1, by omega⟩
    refine ⟨τ, ?_, UR.refl' g τ, fun _ _ _ => rfl, fun j hj => hB j (by omega)⟩
    rw [f_X9_copyRule_50.eq_2, if_pos (by rw [i12]; exact nI_le (by omega) (by omega))]
  | succ r ih =>
    intro i hi τ hA hB m hm
    obtain ⟨m, rfl⟩ : ∃ m', m = m' + 1 := ⟨m - 1, by omega⟩
    have u1 : UR g τ (stR τ g i (vp_nar .byte (A3 i)) (vp_nar .byte (A4 i))) := stR_u (by omega)
    obtain ⟨τ', k1, k2, k3, k4⟩ := ih (i + 1) (by omega) (stR τ g i (vp_nar .byte (A3 i)) (vp_nar .byte (A4 i))) (fun j hj => by
      have n12 : ¬ (12 * g ≤ 12 * g0 + j ∧ 12 * g0 + j < 12 * g + 12) := by omega
      rw [u1.2 2 5 (12 * g0 + j) (by omega), u1.2 2 6 (12 * g0 + j) (by omega)]
      exact hA j hj) (fun j hj => by
      rw [stR_3, stR_4]
      by_cases c : j = i
      · rw [if_pos c, if_pos c, c]
        exact ⟨rfl, rfl⟩
      · rw [if_neg c, if_neg c]
        exact hB j (by omega)) m (by omega)
    refine ⟨τ', ?_, u1.trans k2, fun f x hf => (k3 f x hf).trans (stR_1 f x hf), k4⟩
    rw [f_X9_copyRule_50.eq_2, if_neg (by rw [i12]; exact nI_ge (by omega) (by omega)), ln_12, ln_12, nI_add, nI_add, ck_nI (by omega) (by omega), ck_nI (by omega) (by omega), (hA i (by omega)).1]
    simp only [bnd]
    rw [ck_nI (by omega) (by omega), ck_nI (by omega) (by omega)]
    simp only [gi_si, gi_sr, gi_sg, gi_sa, gr_si, rr_sr, gr_sg, gr_sa, ga_si, ga_sr, ga_sg, ga_sa, true_and, and_true, false_and, and_false, Nat.reduceEqDiff, ↓reduceIte]
    rw [(hA i (by omega)).2, nI_1]
    exact k1
theorem m_copyR {s : Nat} {F T : List Nat} (hg : g < 64) (hg0 : g0 < 64) (hne : g0 ≠ g) (hs : s ≤ 1) (hF : F.length ≤ 12) (hT : T.length ≤ 12) (a : RM τ g0 k s F T) : ∃ τ', f_X9_copyRule τ (nI g0) (nI g) = some (τ', ()) ∧ UR g τ τ' ∧ RM τ' g k s F T := by
  obtain ⟨a1, a2, a3, a4, a5, a6⟩ := a
  unfold f_X9_copyRule
  rw [ck_nI hg0 (by omega), ck_nI hg (by omega)]
  simp only [bnd]
  rw [ck_nI hg0 (by omega), ck_nI hg (by omega), ck_nI hg0 (by omega), ck_nI hg (by omega), ck_nI hg0 (by omega), ck_nI hg (by omega)]
  simp only [gi_si, gi_sr, gi_sg, gi_sa, gr_si, rr_sr, gr_sg, gr_sa, ga_si, ga_sr, ga_sg, ga_sa, true_and, and_true, false_and, and_false, Nat.reduceEqDiff, ↓reduceIte]
  have hb : vp_nar .boolean (nI s) = nI s := by
    have : s = 0 ∨ s = 1 := by omega
    rcases this with rfl | rfl <;> decide
  rw [a1, a2, a3, a5, hb]
  have u5 : UR g τ (sa (sa (sa (sa τ 1 11 g (nI F.length)) 1 12 g (nI T.length)) 4 0 g (nI s)) 1 13 g (nI k)) := (((UR.s1 (by omega) rfl τ _).trans (UR.s1 (by omega) rfl _ _)).trans (UR.s4 rfl _ _)).trans (UR.s1 (by omega) rfl _ _)
  obtain ⟨τ', k1, k2, k3, k4⟩ := m_copyRB hg hg0 hne (fun j => ga τ 2 5 (12 * g0 + j)) (fun j => ga τ 2 6 (12 * g0 + j)) 12 0 (by omega) (sa (sa (sa (sa τ 1 11 g (nI F.length)) 1 12 g (nI T.length)) 4 0 g (nI s)) 1 13 g (nI k)) (fun j hj => by simp only [gi_si, gi_sr, gi_sg, gi_sa, gr_si, rr_sr, gr_sg, gr_sa, ga_si, ga_sr, ga_sg, ga_sa, true_and, and_true, false_and, and_false, Nat.reduceEqDiff, ↓reduceIte]) (fun j hj => absurd hj (Nat.not_lt_zero _)) fl (by have := fl_big; omega)
  have k1 : f_X9_copyRule_50 fl _ (nI g0) (nI g) 0 = _ := k1
  refine ⟨τ', k1, u5.trans k2, ?_, ?_, ?_, fun i hi => ?_, ?_, fun i hi => ?_⟩
  · rw [k3 _ _ (Or.inl rfl)]
    simp only [gi_si, gi_sr, gi_sg, gi_sa, gr_si, rr_sr, gr_sg, gr_sa, ga_si, ga_sr, ga_sg, ga_sa, true_and, and_true, false_and, and_false, Nat.reduceEqDiff, ↓reduceIte]
    unfold upd
    rw [if_pos rfl]
  · rw [k3 _ _ (Or.inr rfl)]
    simp only [gi_si, gi_sr, gi_sg, gi_sa, gr_si, rr_sr, gr_sg, gr_sa, ga_si, ga_sr, ga_sg, ga_sa, true_and, and_true, false_and, and_false, Nat.reduceEqDiff, ↓reduceIte]
    unfold upd
    rw [if_pos rfl]
  · rw [k3 _ _ (Or.inl rfl)]
    simp only [gi_si, gi_sr, gi_sg, gi_sa, gr_si, rr_sr, gr_sg, gr_sa, ga_si, ga_sr, ga_sg, ga_sa, true_and, and_true, false_and, and_false, Nat.reduceEqDiff, ↓reduceIte]
    unfold upd
    rw [if_pos rfl]
  · rw [(k4 i (by omega)).1, a4 i hi, sB_nar]
  · rw [k3 _ _ (Or.inl rfl)]
    simp only [gi_si, gi_sr, gi_sg, gi_sa, gr_si, rr_sr, gr_sg, gr_sa, ga_si, ga_sr, ga_sg, ga_sa, true_and, and_true, false_and, and_false, Nat.reduceEqDiff, ↓reduceIte]
    unfold upd
    rw [if_pos rfl]
  · rw [(k4 i (by omega)).2, a6 i hi, sB_nar]
/-- bytes of one array change -/
def UB (arr o : Nat) (τ τ' : St) : Prop := (∀ f i, gi τ' f i = gi τ f i) ∧ (∀ f i x, ¬ (f = 2 ∧ i = arr ∧ o ≤ x ∧ x < o + 12) → ga τ' f i x = ga τ f i x)
theorem UB.trans {arr o : Nat} {σ σ1 σ2 : St} (h : UB arr o σ σ1) (k : UB arr o σ1 σ2) : UB arr o σ σ2 := ⟨fun f i => (k.1 f i).trans (h.1 f i), fun f i x a => (k.2 f i x a).trans (h.2 f i x a)⟩
theorem UB.refl' (arr o : Nat) (τ : St) : UB arr o τ τ := ⟨fun _ _ => rfl, fun _ _ _ _ => rfl⟩
theorem UB.s {arr o x : Nat} (hx : o ≤ x ∧ x < o + 12) (τ : St) (y : Int32) : UB arr o τ (sa τ 2 arr x y) := ⟨fun _ _ => rfl, fun f i x' a => by
  simp only [gi_si, gi_sr, gi_sg, gi_sa, gr_si, rr_sr, gr_sg, gr_sa, ga_si, ga_sr, ga_sg, ga_sa, true_and, and_true, false_and, and_false, Nat.reduceEqDiff, ↓reduceIte]
  split
  · rename_i h
    obtain ⟨rfl, rfl⟩ := h
    unfold upd
    rw [if_neg (by omega)]
  · rfl⟩
theorem UB.tkm {arr o : Nat} (ha : arr ≠ 0) {τ τ' : St} (h : UB arr o τ τ') {tx : List Nat} {c : Nat} {ks ps ls : Nat → Nat} (a : TKM τ tx c ks ps ls) : TKM τ' tx c ks ps ls := by
  obtain ⟨⟨a1, a2, a3, a4⟩, a5, a6⟩ := a
  refine ⟨⟨by rw [h.1]; exact a1, fun i hi => ?_, a3, a4⟩, by rw [h.1]; exact a5, fun t ht => ?_⟩
  · rw [h.2 _ _ _ (by omega)]
    exact a2 i hi
  · rw [h.2 _ _ _ (by omega), h.2 _ _ _ (by omega), h.2 _ _ _ (by omega)]
    exact a6 t ht
theorem m_cname {tx : List Nat} {c : Nat} {ks ps ls : Nat → Nat} (w : TKW tx c ks ps ls) {t arr o : Nat} (ht : t ≤ c) (hl : ls t ≤ 12) (ha : arr ≠ 0) (ho : o + 12 ≤ lenMb.getD arr 0) (hb : lenMb.getD arr 0 < 100000) : ∀ (r i : Nat), i + r = ls t → ∀ (τ : St), TKM τ tx c ks ps ls → (∀ j, j < i → ga τ 2 arr (o + j) = sB (el tx (ps t + j))) → ∀ m, r < m → ∃ τ', f_X9_copyName_3 m τ (nI t) arr (nI o) (nI i) = some (τ', ()) ∧ UB arr o τ τ' ∧ (∀ j, j < ls t → ga τ' 2 arr (o + j) = sB (el tx (ps t + j))) := by
  have hc := w.cc
  have hp := w.in ht
  have hx := w.2.2.2.2
  intro r
  induction r with
  | zero =>
    intro i hi τ hT hB m hm
    obtain ⟨m, rfl⟩ : ∃ m', m = m' + 1 := ⟨m - 1, by omega⟩
    refine ⟨τ, ?_, UB.refl' _ _ τ, fun j hj => hB j (by omega)⟩
    rw [f_X9_copyName_3.eq_2, ck_nI (by omega) (by omega), (hT.2.2 t ht).2.2, if_pos (nI_le (by omega) (by omega))]
  | succ r ih =>
    intro i hi τ hT hB m hm
    obtain ⟨m, rfl⟩ : ∃ m', m = m' + 1 := ⟨m - 1, by omega⟩
    have u1 : UB arr o τ (sa τ 2 arr (o + i) (sB (el tx (ps t + i)))) := UB.s (by omega) τ _
    obtain ⟨τ', k1, k2, k3⟩ := ih (i + 1) (by omega) (sa τ 2 arr (o + i) (sB (el tx (ps t + i)))) (u1.tkm ha hT) (fun j hj => by
      simp only [gi_si, gi_sr, gi_sg, gi_sa, gr_si, rr_sr, gr_sg, gr_sa, ga_si, ga_sr, ga_sg, ga_sa, true_and, and_true, false_and, and_false, Nat.reduceEqDiff, ↓reduceIte]
      unfold upd
      by_cases c : j = i
      · rw [c, if_pos rfl]
      · rw [if_neg (by omega)]
        exact hB j (by omega)) m (by omega)
    refine ⟨τ', ?_, u1.trans k2, k3⟩
    rw [f_X9_copyName_3.eq_2, ck_nI (by omega) (by omega), (hT.2.2 t ht).2.2, if_neg (nI_ge (by omega) (by omega)), ck_nI (by omega) (by omega), (hT.2.2 t ht).2.1, nI_add, ck_nI (by omega) (by omega), nI_add, ck_nI (by omega) (by omega), hT.1.g (by omega), sB_nar]
    simp only [bnd]
    rw [nI_1, k1]
theorem m_name {tx : List Nat} {c : Nat} {ks ps ls : Nat → Nat} (w : TKW tx c ks ps ls) (hT : TKM τ tx c ks ps ls) {t arr o : Nat} (ht : t ≤ c) (hl : ls t ≤ 12) (ha : arr ≠ 0) (ho : o + 12 ≤ lenMb.getD arr 0) (hb : lenMb.getD arr 0 < 100000) : ∃ τ', f_X9_copyName τ (nI t) arr (nI o) = some (τ', ()) ∧ UB arr o τ τ' ∧ Bs (ga τ' 2 arr) o (wrd tx (ps t) (ls t)) := by
  obtain ⟨τ', k1, k2, k3⟩ := m_cname w ht hl ha ho hb (ls t) 0 (by omega) τ hT (fun j hj => absurd hj (Nat.not_lt_zero _)) fl (by have := fl_big; omega)
  refine ⟨τ', k1, k2, fun i hi => ?_⟩
  rw [w.len ht] at hi
  rw [k3 i hi, el_wrd w ht hi]
theorem m_bgn (hg : g < 320) (τ : St) : ∃ τ', f_X9_begin τ (nI g) = some (τ', ()) ∧ UG g τ τ' ∧ ga τ' 1 5 g = nI 0 ∧ ga τ' 1 6 g = oI none ∧ ga τ' 1 7 g = oI none ∧ ga τ' 1 8 g = oI none ∧ ga τ' 1 9 g = nI 0 ∧ ga τ' 1 3 g = nI 0 ∧ ga τ' 1 10 g = ga τ 1 10 g ∧ ga τ' 1 4 g = ga τ 1 4 g := by
  unfold f_X9_begin
  rw [ck_nI hg (by omega)]
  simp only [bnd]
  rw [ck_nI hg (by omega), ck_nI hg (by omega), ck_nI hg (by omega), ck_nI hg (by omega), ck_nI hg (by omega)]
  refine ⟨_, rfl, ((((((UG.s1 (by omega) rfl τ _).trans (UG.s1 (by omega) rfl _ _)).trans (UG.s1 (by omega) rfl _ _)).trans (UG.s1 (by omega) rfl _ _)).trans (UG.s1 (by omega) rfl _ _)).trans (UG.s1 (by omega) rfl _ _)), ?_, ?_, ?_, ?_, ?_, ?_, ?_, ?_⟩
  all_goals simp only [gi_si, gi_sr, gi_sg, gi_sa, gr_si, rr_sr, gr_sg, gr_sa, ga_si, ga_sr, ga_sg, ga_sa, true_and, and_true, false_and, and_false, Nat.reduceEqDiff, ↓reduceIte]
  all_goals unfold upd
  all_goals rw [if_pos rfl]
  all_goals rfl
end Gr
