/-! The reference grows a version. -/
def FMc (τ : St) (g k o : Nat) (z h : Option Nat) (N B : List Nat) (cp fo : Option Nat) : Prop := FM τ g k o z h N B ∧ ga τ 1 7 g = oI cp ∧ ga τ 1 8 g = oI fo
def UG (g : Nat) (τ τ' : St) : Prop := (∀ f i, gi τ' f i = gi τ f i) ∧ (∀ f i x, ¬ ((f = 1 ∧ 3 ≤ i ∧ i ≤ 10 ∧ x = g) ∨ (f = 2 ∧ (i = 3 ∨ i = 4) ∧ 12 * g ≤ x ∧ x < 12 * g + 12)) → ga τ' f i x = ga τ f i x)
theorem UG.trans {g : Nat} {σ σ1 σ2 : St} (h : UG g σ σ1) (k : UG g σ1 σ2) : UG g σ σ2 := ⟨fun f i => (k.1 f i).trans (h.1 f i), fun f i x a => (k.2 f i x a).trans (h.2 f i x a)⟩
theorem UG.refl' (g : Nat) (τ : St) : UG g τ τ := ⟨fun _ _ => rfl, fun _ _ _ _ => rfl⟩
theorem UG.s1 {g r x : Nat} (hr : 3 ≤ r ∧ r ≤ 10) (hx : x = g) (τ : St) (y : Int32) : UG g τ (sa τ 1 r x y) := ⟨fun _ _ => rfl, fun f i x' a => by
  simp only [gi_si, gi_sr, gi_sg, gi_sa, gr_si, rr_sr, gr_sg, gr_sa, ga_si, ga_sr, ga_sg, ga_sa, true_and, and_true, false_and, and_false, Nat.reduceEqDiff, ↓reduceIte]
  split
  · rename_i h
    obtain ⟨rfl, rfl⟩ := h
    unfold upd
    rw [if_neg (by omega)]
  · rfl⟩
theorem UG.s2 {g r x : Nat} (hr : r = 3 ∨ r = 4) (hx : 12 * g ≤ x ∧ x < 12 * g + 12) (τ : St) (y : Int32) : UG g τ (sa τ 2 r x y) := ⟨fun _ _ => rfl, fun f i x' a => by
  simp only [gi_si, gi_sr, gi_sg, gi_sa, gr_si, rr_sr, gr_sg, gr_sa, ga_si, ga_sr, ga_sg, ga_sa, true_and, and_true, false_and, and_false, Nat.reduceEqDiff, ↓reduceIte]
  split
  · rename_i h
    obtain ⟨rfl, rfl⟩ := h
    unfold upd
    rw [if_neg (by omega)]
  · rfl⟩
/-- only the draft v changes -/
def dM (v f i x : Nat) : Prop := (f = 1 ∧ i ≤ 2 ∧ x = v) ∨ (f = 1 ∧ 3 ≤ i ∧ i ≤ 10 ∧ 40 * v ≤ x ∧ x < 40 * v + 40) ∨ (f = 1 ∧ 11 ≤ i ∧ i ≤ 13 ∧ 8 * v ≤ x ∧ x < 8 * v + 8) ∨ (f = 4 ∧ i = 0 ∧ 8 * v ≤ x ∧ x < 8 * v + 8) ∨ (f = 2 ∧ (i = 3 ∨ i = 4) ∧ 480 * v ≤ x ∧ x < 480 * v + 480) ∨ (f = 2 ∧ (i = 5 ∨ i = 6) ∧ 96 * v ≤ x ∧ x < 96 * v + 96)
def DM (v : Nat) (τ τ' : St) : Prop := (∀ f i, gi τ' f i = gi τ f i) ∧ (∀ f i x, ¬ dM v f i x → ga τ' f i x = ga τ f i x)
theorem DM.trans {v : Nat} {σ σ1 σ2 : St} (h : DM v σ σ1) (k : DM v σ1 σ2) : DM v σ σ2 := ⟨fun f i => (k.1 f i).trans (h.1 f i), fun f i x a => (k.2 f i x a).trans (h.2 f i x a)⟩
theorem DM.refl' (v : Nat) (τ : St) : DM v τ τ := ⟨fun _ _ => rfl, fun _ _ _ _ => rfl⟩
theorem DM.ug {v j : Nat} (hj : j < 40) {τ τ' : St} (h : UG (40 * v + j) τ τ') : DM v τ τ' := ⟨h.1, fun f i x a => h.2 f i x (by unfold dM at a; omega)⟩
theorem DM.s0 {v r x : Nat} (hr : r ≤ 2) (hx : x = v) (τ : St) (y : Int32) : DM v τ (sa τ 1 r x y) := ⟨fun _ _ => rfl, fun f i x' a => by
  simp only [gi_si, gi_sr, gi_sg, gi_sa, gr_si, rr_sr, gr_sg, gr_sa, ga_si, ga_sr, ga_sg, ga_sa, true_and, and_true, false_and, and_false, Nat.reduceEqDiff, ↓reduceIte]
  split
  · rename_i h
    obtain ⟨rfl, rfl⟩ := h
    unfold dM at a
    unfold upd
    rw [if_neg (by omega)]
  · rfl⟩
theorem DM.km {u v : Nat} (huv : u ≠ v) {τ τ' : St} (h : DM v τ τ') : KM u τ τ' :=
  ⟨fun f hf => h.2 _ _ _ (by unfold dM; omega), fun f g a b c d => h.2 _ _ _ (by unfold dM; omega), fun f g a b c => h.2 _ _ _ (by unfold dM; omega), fun f q a b c => h.2 _ _ _ (by unfold dM; omega), fun q b c => h.2 _ _ _ (by unfold dM; omega), fun f g a b c => h.2 _ _ _ (by unfold dM; omega)⟩
theorem DM.tkm {v : Nat} {τ τ' : St} (h : DM v τ τ') {tx : List Nat} {c : Nat} {ks ps ls : Nat → Nat} (a : TKM τ tx c ks ps ls) : TKM τ' tx c ks ps ls := by
  obtain ⟨⟨a1, a2, a3, a4⟩, a5, a6⟩ := a
  refine ⟨⟨by rw [h.1]; exact a1, fun i hi => ?_, a3, a4⟩, by rw [h.1]; exact a5, fun t ht => ?_⟩
  · rw [h.2 _ _ _ (by unfold dM; omega)]
    exact a2 i hi
  · rw [h.2 _ _ _ (by unfold dM; omega), h.2 _ _ _ (by unfold dM; omega), h.2 _ _ _ (by unfold dM; omega)]
    exact a6 t ht
theorem i12 : (12 : Int32) = nI 12 := by decide
section Gm
variable {τ : St} {g g0 k o e : Nat} {z h cp fo : Option Nat} {N B : List Nat}
theorem FMc.ug {τ' : St} (u : UG g τ τ') (hne : g0 ≠ g) (hN : N.length ≤ 12) (hB : B.length ≤ 12) (a : FMc τ g0 k o z h N B cp fo) : FMc τ' g0 k o z h N B cp fo := by
  obtain ⟨⟨a1, a2, a3, a4, a5, a6, a7, a8⟩, a9, a10⟩ := a
  refine ⟨⟨?_, ?_, ?_, ?_, ?_, Bs_of a6 (fun i hi => u.2 _ _ _ (by omega)), ?_, Bs_of a8 (fun i hi => u.2 _ _ _ (by omega))⟩, ?_, ?_⟩
  · rw [u.2 _ _ _ (by omega), a1]
  · rw [u.2 _ _ _ (by omega), a2]
  · rw [u.2 _ _ _ (by omega), a3]
  · rw [u.2 _ _ _ (by omega), a4]
  · rw [u.2 _ _ _ (by omega), a5]
  · rw [u.2 _ _ _ (by omega), a7]
  · rw [u.2 _ _ _ (by omega), a9]
  · rw [u.2 _ _ _ (by omega), a10]
theorem m_mv {x : Option Nat} (hx : ∀ c, x = some c → c < 1000) (he : e < 1000) : f_X9_moved τ (oI x) (nI e) = some (τ, oI (x.map (mv e))) := by
  unfold f_X9_moved
  cases x with
  | none => exact if_pos rfl
  | some c =>
    have := hx c rfl
    show (if nI c = -2 then _ else if nI c < nI e then some (τ, nI c) else some (τ, nI c + 1)) = some (τ, nI (mv e c))
    rw [if_neg (ln_m2 (by omega))]
    unfold mv
    by_cases hc : c < e
    · rw [if_pos ((ln_lt (by omega) (by omega)).mpr hc), if_pos hc]
    · rw [if_neg (fun hh => hc ((ln_lt (by omega) (by omega)).mp hh)), if_neg hc, nI_1]
def stB (τ : St) (g i : Nat) (x y : Int32) : St := sa (sa τ 2 3 (12 * g + i) x) 2 4 (12 * g + i) y
theorem stB_u {i : Nat} {x y : Int32} (hi : i < 12) : UG g τ (stB τ g i x y) := (UG.s2 (by omega) (by omega) τ _).trans (UG.s2 (by omega) (by omega) _ _)
theorem stB_3 {i j : Nat} {x y : Int32} : ga (stB τ g i x y) 2 3 (12 * g + j) = if j = i then x else ga τ 2 3 (12 * g + j) := by
  unfold stB
  simp only [gi_si, gi_sr, gi_sg, gi_sa, gr_si, rr_sr, gr_sg, gr_sa, ga_si, ga_sr, ga_sg, ga_sa, true_and, and_true, false_and, and_false, Nat.reduceEqDiff, ↓reduceIte]
  unfold upd
  by_cases c : j = i
  · rw [if_pos (by omega), if_pos c]
  · rw [if_neg (by omega), if_neg c]
theorem stB_4 {i j : Nat} {x y : Int32} : ga (stB τ g i x y) 2 4 (12 * g + j) = if j = i then y else ga τ 2 4 (12 * g + j) := by
  unfold stB
  simp only [gi_si, gi_sr, gi_sg, gi_sa, gr_si, rr_sr, gr_sg, gr_sa, ga_si, ga_sr, ga_sg, ga_sa, true_and, and_true, false_and, and_false, Nat.reduceEqDiff, ↓reduceIte]
  unfold upd
  by_cases c : j = i
  · rw [if_pos (by omega), if_pos c]
  · rw [if_neg (by omega), if_neg c]
theorem stB_1 {i : Nat} {x y : Int32} (r : Nat) : ga (stB τ g i x y) 1 r = ga τ 1 r := by
  unfold stB
  simp only [gi_si, gi_sr, gi_sg, gi_sa, gr_si, rr_sr, gr_sg, gr_sa, ga_si, ga_sr, ga_sg, ga_sa, true_and, and_true, false_and, and_false, Nat.reduceEqDiff, ↓reduceIte]
theorem m_copyB (hg : g < 320) (hg0 : g0 < 320) (hne : g0 ≠ g) (A3 A4 : Nat → Int32) : ∀ (r i : Nat), i + r = 12 → ∀ (τ : St), (∀ j, j < 12 → ga τ 2 3 (12 * g0 + j) = A3 j ∧ ga τ 2 4 (12 * g0 + j) = A4 j) → (∀ j, j < i → ga τ 2 3 (12 * g + j) = vp_nar .byte (A3 j) ∧ ga τ 2 4 (12 * g + j) = vp_nar .byte (A4 j)) → ∀ m, r < m → ∃ τ', f_X9_copyField_62 m τ (nI g0) (nI g) (nI i) = some (τ', ()) ∧ UG g τ τ' ∧ (∀ x, ga τ' 1 x = ga τ 1 x) ∧ (∀ j, j < 12 → ga τ' 2 3 (12 * g + j) = vp_nar .byte (A3 j) ∧ ga τ' 2 4 (12 * g + j) = vp_nar .byte (A4 j)) := by
  intro r
  induction r with
  | zero =>
    intro i hi τ hA hB m hm
    obtain ⟨m, rfl⟩ : ∃ m', m = m' + 1 := ⟨m - 1, by omega⟩
    refine ⟨τ, ?_, UG.refl' g τ, fun _ => rfl, fun j hj => hB j (by omega)⟩
    rw [f_X9_copyField_62.eq_2, if_pos (by rw [i12]; exact nI_le (by omega) (by omega))]
  | succ r ih =>
    intro i hi τ hA hB m hm
    obtain ⟨m, rfl⟩ : ∃ m', m = m' + 1 := ⟨m - 1, by omega⟩
    have u1 : UG g τ (stB τ g i (vp_nar .byte (A3 i)) (vp_nar .byte (A4 i))) := stB_u (by omega)
    obtain ⟨τ', k1, k2, k3, k4⟩ := ih (i + 1) (by omega) (stB τ g i (vp_nar .byte (A3 i)) (vp_nar .byte (A4 i))) (fun j hj => by
      have n12 : ¬ (12 * g ≤ 12 * g0 + j ∧ 12 * g0 + j < 12 * g + 12) := by omega
      rw [u1.2 2 3 (12 * g0 + j) (by omega), u1.2 2 4 (12 * g0 + j) (by omega)]
      exact hA j hj) (fun j hj => by
      rw [stB_3, stB_4]
      by_cases c : j = i
      · rw [if_pos c, if_pos c, c]
        exact ⟨rfl, rfl⟩
      · rw [if_neg c, if_neg c]
        exact hB j (by omega)) m (by omega)
    refine ⟨τ', ?_, u1.trans k2, fun x => (k3 x).trans (stB_1 x), k4⟩
    rw [f_X9_copyField_62.eq_2, if_neg (by rw [i12]; exact nI_ge (by omega) (by omega)), ln_12, ln_12, nI_add, nI_add, ck_nI (by omega) (by omega), ck_nI (by omega) (by omega), (hA i (by omega)).1]
    simp only [bnd]
    rw [ck_nI (by omega) (by omega), ck_nI (by omega) (by omega)]
    simp only [gi_si, gi_sr, gi_sg, gi_sa, gr_si, rr_sr, gr_sg, gr_sa, ga_si, ga_sr, ga_sg, ga_sa, true_and, and_true, false_and, and_false, Nat.reduceEqDiff, ↓reduceIte]
    rw [(hA i (by omega)).2, nI_1]
    exact k1
theorem m_copyF (hg : g < 320) (hg0 : g0 < 320) (hne : g0 ≠ g) (hN : N.length ≤ 12) (hB : B.length ≤ 12) (a : FMc τ g0 k o z h N B cp fo) : ∃ τ', f_X9_copyField τ (nI g0) (nI g) = some (τ', ()) ∧ UG g τ τ' ∧ ga τ' 1 4 g = nI k ∧ ga τ' 1 5 g = nI o ∧ ga τ' 1 6 g = oI z ∧ ga τ' 1 3 g = nI N.length ∧ Bs (ga τ' 2 3) (12 * g) N ∧ ga τ' 1 9 g = nI B.length ∧ Bs (ga τ' 2 4) (12 * g) B := by
  obtain ⟨⟨a1, a2, a3, a4, a5, a6, a7, a8⟩, a9, a10⟩ := a
  unfold f_X9_copyField
  rw [ck_nI hg0 (by omega), ck_nI hg (by omega)]
  simp only [bnd]
  rw [ck_nI hg0 (by omega), ck_nI hg (by omega), ck_nI hg0 (by omega), ck_nI hg (by omega), ck_nI hg0 (by omega), ck_nI hg (by omega), ck_nI hg0 (by omega), ck_nI hg (by omega)]
  simp only [gi_si, gi_sr, gi_sg, gi_sa, gr_si, rr_sr, gr_sg, gr_sa, ga_si, ga_sr, ga_sg, ga_sa, true_and, and_true, false_and, and_false, Nat.reduceEqDiff, ↓reduceIte]
  rw [a1, a2, a3, a5, a7]
  have u5 : UG g τ (sa (sa (sa (sa (sa τ 1 3 g (nI N.length)) 1 9 g (nI B.length)) 1 4 g (nI k)) 1 5 g (nI o)) 1 6 g (oI z)) := ((((UG.s1 (by omega) rfl τ _).trans (UG.s1 (by omega) rfl _ _)).trans (UG.s1 (by omega) rfl _ _)).trans (UG.s1 (by omega) rfl _ _)).trans (UG.s1 (by omega) rfl _ _)
  obtain ⟨τ', k1, k2, k3, k4⟩ := m_copyB hg hg0 hne (fun j => ga τ 2 3 (12 * g0 + j)) (fun j => ga τ 2 4 (12 * g0 + j)) 12 0 (by omega) (sa (sa (sa (sa (sa τ 1 3 g (nI N.length)) 1 9 g (nI B.length)) 1 4 g (nI k)) 1 5 g (nI o)) 1 6 g (oI z)) (fun j hj => by simp only [gi_si, gi_sr, gi_sg, gi_sa, gr_si, rr_sr, gr_sg, gr_sa, ga_si, ga_sr, ga_sg, ga_sa, true_and, and_true, false_and, and_false, Nat.reduceEqDiff, ↓reduceIte]) (fun j hj => absurd hj (Nat.not_lt_zero _)) fl (by have := fl_big; omega)
  have k1 : f_X9_copyField_62 fl _ (nI g0) (nI g) 0 = _ := k1
  refine ⟨τ', k1, u5.trans k2, ?_, ?_, ?_, ?_, fun i hi => ?_, ?_, fun i hi => ?_⟩
  · rw [k3]
    simp only [gi_si, gi_sr, gi_sg, gi_sa, gr_si, rr_sr, gr_sg, gr_sa, ga_si, ga_sr, ga_sg, ga_sa, true_and, and_true, false_and, and_false, Nat.reduceEqDiff, ↓reduceIte]
    unfold upd
    rw [if_pos rfl]
  · rw [k3]
    simp only [gi_si, gi_sr, gi_sg, gi_sa, gr_si, rr_sr, gr_sg, gr_sa, ga_si, ga_sr, ga_sg, ga_sa, true_and, and_true, false_and, and_false, Nat.reduceEqDiff, ↓reduceIte]
    unfold upd
    rw [if_pos rfl]
  · rw [k3]
    simp only [gi_si, gi_sr, gi_sg, gi_sa, gr_si, rr_sr, gr_sg, gr_sa, ga_si, ga_sr, ga_sg, ga_sa, true_and, and_true, false_and, and_false, Nat.reduceEqDiff, ↓reduceIte]
    unfold upd
    rw [if_pos rfl]
  · rw [k3]
    simp only [gi_si, gi_sr, gi_sg, gi_sa, gr_si, rr_sr, gr_sg, gr_sa, ga_si, ga_sr, ga_sg, ga_sa, true_and, and_true, false_and, and_false, Nat.reduceEqDiff, ↓reduceIte]
    unfold upd
    rw [if_pos rfl]
  · rw [(k4 i (by omega)).1]
    rw [a6 i hi, sB_nar]
  · rw [k3]
    simp only [gi_si, gi_sr, gi_sg, gi_sa, gr_si, rr_sr, gr_sg, gr_sa, ga_si, ga_sr, ga_sg, ga_sa, true_and, and_true, false_and, and_false, Nat.reduceEqDiff, ↓reduceIte]
    unfold upd
    rw [if_pos rfl]
  · rw [(k4 i (by omega)).2]
    rw [a8 i hi, sB_nar]
end Gm
