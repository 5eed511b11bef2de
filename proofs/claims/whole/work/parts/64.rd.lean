/-! Reading: frames, runs, notes. -/
def dXp (v f i : Nat) : Prop := (102 ≤ f ∧ f ≤ 108 ∧ 40 * v ≤ i ∧ i < 40 * v + 40) ∨ ((f = 201 ∨ f = 202) ∧ DL v i) ∨ ((f = 302 ∨ f = 303) ∧ 8 * v ≤ i ∧ i < 8 * v + 8) ∨ ((f = 603 ∨ f = 604 ∨ f = 605) ∧ i = v)
def QX (v : Nat) (σ σ' : St) : Prop := (∀ i j, i ≤ 2 → gr σ' i j = gr σ i j) ∧ (∀ f i, ¬ dXp v f i → ¬ (409 ≤ f ∧ f ≤ 416) → ¬ ((f = 201 ∨ f = 202) ∧ i = 4) → gi σ' f i = gi σ f i) ∧ (∀ f i, ¬ (f = 2 ∧ (DL v i ∨ i = 4)) → ¬ (f = 8 ∧ 11 ≤ i ∧ i ≤ 14) → ga σ' f i = ga σ f i)
theorem QX.trans {v : Nat} {σ σ1 σ2 : St} (h : QX v σ σ1) (k : QX v σ1 σ2) : QX v σ σ2 := ⟨fun i j a => (k.1 i j a).trans (h.1 i j a), fun f i a b c => (k.2.1 f i a b c).trans (h.2.1 f i a b c), fun f i a b => (k.2.2 f i a b).trans (h.2.2 f i a b)⟩
theorem QX.refl' (v : Nat) (σ : St) : QX v σ σ := ⟨fun _ _ _ => rfl, fun _ _ _ _ _ => rfl, fun _ _ _ _ => rfl⟩
theorem QX.dx {v : Nat} {σ σ' : St} (h : DX v σ σ') (h8 : ga σ' 8 v = ga σ 8 v) : QX v σ σ' := ⟨fun i j _ => by show σ'.2.1 i j = σ.2.1 i j; rw [h.1], fun f i a _ _ => h.2.1 f i a, fun f i a b => by
  by_cases c : f = 8 ∧ i = v
  · rw [c.1, c.2, h8]
  · exact h.2.2 f i (fun h => a ⟨h.1, Or.inl h.2⟩) c⟩
theorem QX.uf {v j : Nat} (hj : j < 40) {σ σ' : St} (h : UF (40 * v + j) σ σ') : QX v σ σ' := QX.dx (DX.uf hj h) (h.2.2 _ _ (by omega))
theorem QX.uq {v j : Nat} (hj : j < 8) {σ σ' : St} (h : UQ (8 * v + j) σ σ') : QX v σ σ' := QX.dx (DX.uq hj h) (h.2.2 _ _ (by omega))
theorem QX.s6 {v f : Nat} (hf : f = 603 ∨ f = 604 ∨ f = 605) (σ : St) (x : Int32) : QX v σ (si σ f v x) := QX.dx (DX.s6 hf σ x) rfl
theorem QX.s4 {v f : Nat} (hf : 409 ≤ f ∧ f ≤ 416) (σ : St) (x : Int32) : QX v σ (si σ f 0 x) := ⟨fun _ _ _ => rfl, fun f' i _ b _ => by
  simp only [gi_si, gi_sr, gi_sg, gi_sa, gr_si, rr_sr, gr_sg, gr_sa, ga_si, ga_sr, ga_sg, ga_sa, true_and, and_true, false_and, and_false, Nat.reduceEqDiff, ↓reduceIte]
  rw [if_neg (by omega)], fun _ _ _ _ => rfl⟩
theorem QX.sr {v f x : Nat} (hf : 3 ≤ f) (σ : St) : QX v σ (sr σ f 0 x) := ⟨fun i j a => by
  simp only [gi_si, gi_sr, gi_sg, gi_sa, gr_si, rr_sr, gr_sg, gr_sa, ga_si, ga_sr, ga_sg, ga_sa, true_and, and_true, false_and, and_false, Nat.reduceEqDiff, ↓reduceIte]
  rw [if_neg (by omega)], fun _ _ _ _ _ => rfl, fun _ _ _ _ => rfl⟩
theorem QX.sa {v a k : Nat} (ha : 11 ≤ a ∧ a ≤ 14) (σ : St) (x : Int32) : QX v σ (sa σ 8 a k x) := ⟨fun _ _ _ => rfl, fun _ _ _ _ _ => rfl, fun f i _ b => by
  simp only [gi_si, gi_sr, gi_sg, gi_sa, gr_si, rr_sr, gr_sg, gr_sa, ga_si, ga_sr, ga_sg, ga_sa, true_and, and_true, false_and, and_false, Nat.reduceEqDiff, ↓reduceIte]
  rw [if_neg (by omega)]⟩
theorem QX.ul4 {v : Nat} {σ σ' : St} (h : UL 4 σ σ') : QX v σ σ' := ⟨fun i j _ => h.gr i j, fun f i _ _ c => h.2.1 f i c, fun f i a b => h.2.2 f i (fun e => a ⟨e.1, Or.inr e.2⟩)⟩
theorem QX.lx {v k : Nat} {σ σ' : St} (h : QX v σ σ') (hk : ¬ DL v k) (h4 : k ≠ 4) {l : List Nat} (a : LX σ k l) : LX σ' k l := LX_of a (h.2.1 _ _ (by unfold dXp DL at *; omega) (by omega) (by omega)) (h.2.2 _ _ (fun e => e.2.elim hk h4) (by omega))
theorem QX.kx {u v : Nat} (hu : u < 8) (hv : v < 8) (huv : u ≠ v) {σ σ' : St} (h : QX v σ σ') : KX u σ σ' := by
  refine ⟨fun f hf => h.2.1 _ _ (by unfold dXp DL; omega) (by omega) (by omega), fun f g a b c d => h.2.1 _ _ (by unfold dXp DL; omega) (by omega) (by omega), fun f q a b c => h.2.1 _ _ (by unfold dXp DL; omega) (by omega) (by omega), fun k hk => ⟨h.2.1 _ _ (by unfold dXp DL; omega) (by omega) (by omega), h.2.2 _ _ (by unfold DL; omega) (by omega)⟩, h.2.2 _ _ (by unfold DL; omega) (by omega)⟩
def QM (v : Nat) (τ τ' : St) : Prop := (∀ f i, ¬ (f = 809 ∨ (834 ≤ f ∧ f ≤ 847)) → gi τ' f i = gi τ f i) ∧ (∀ f i x, ¬ dM v f i x → ¬ (f = 1 ∧ 17 ≤ i) → ga τ' f i x = ga τ f i x)
theorem QM.trans {v : Nat} {σ σ1 σ2 : St} (h : QM v σ σ1) (k : QM v σ1 σ2) : QM v σ σ2 := ⟨fun f i a => (k.1 f i a).trans (h.1 f i a), fun f i x a b => (k.2 f i x a b).trans (h.2 f i x a b)⟩
theorem QM.refl' (v : Nat) (τ : St) : QM v τ τ := ⟨fun _ _ _ => rfl, fun _ _ _ _ _ => rfl⟩
theorem QM.dm {v : Nat} {τ τ' : St} (h : DM v τ τ') : QM v τ τ' := ⟨fun f i _ => h.1 f i, fun f i x a _ => h.2 f i x a⟩
theorem QM.si {v f : Nat} (hf : f = 809 ∨ (834 ≤ f ∧ f ≤ 847)) (τ : St) (x : Int32) : QM v τ (si τ f 0 x) := ⟨fun f' i a => by
  simp only [gi_si, gi_sr, gi_sg, gi_sa, gr_si, rr_sr, gr_sg, gr_sa, ga_si, ga_sr, ga_sg, ga_sa, true_and, and_true, false_and, and_false, Nat.reduceEqDiff, ↓reduceIte]
  rw [if_neg (fun e => a (by omega))], fun _ _ _ _ _ => rfl⟩
theorem QM.sa {v a k : Nat} (ha : 17 ≤ a) (τ : St) (x : Int32) : QM v τ (sa τ 1 a k x) := ⟨fun _ _ _ => rfl, fun f i x' _ b => by
  simp only [gi_si, gi_sr, gi_sg, gi_sa, gr_si, rr_sr, gr_sg, gr_sa, ga_si, ga_sr, ga_sg, ga_sa, true_and, and_true, false_and, and_false, Nat.reduceEqDiff, ↓reduceIte]
  rw [if_neg (fun e => b (by omega))]⟩
theorem QM.km {u v : Nat} (huv : u ≠ v) {τ τ' : St} (h : QM v τ τ') : KM u τ τ' :=
  ⟨fun f hf => h.2 _ _ _ (by unfold dM; omega) (by omega), fun f g a b c d => h.2 _ _ _ (by unfold dM; omega) (by omega), fun f g a b c => h.2 _ _ _ (by unfold dM; omega) (by omega), fun f q a b c => h.2 _ _ _ (by unfold dM; omega) (by omega), fun q b c => h.2 _ _ _ (by unfold dM; omega) (by omega), fun f g a b c => h.2 _ _ _ (by unfold dM; omega) (by omega)⟩
section Rd
variable {σ τ σ' τ' : St} {v t : Nat} {tx : List Nat} {c : Nat} {ks ps ls : Nat → Nat}
theorem QX.tkx (hv : v < 8) (h : QX v σ σ') (a : TKX σ tx c ks ps ls) : TKX σ' tx c ks ps ls := ⟨h.lx (by unfold DL; omega) (by omega) a.1, by rw [h.2.1 _ _ (by unfold dXp; omega) (by omega) (by omega)]; exact a.2.1, fun t ht => by rw [h.2.2 8 8 (by omega) (by omega), h.2.2 8 9 (by omega) (by omega), h.2.2 8 10 (by omega) (by omega)]; exact a.2.2 t ht⟩
theorem QM.tkm (h : QM v τ τ') (a : TKM τ tx c ks ps ls) : TKM τ' tx c ks ps ls := by
  obtain ⟨⟨a1, a2, a3, a4⟩, a5, a6⟩ := a
  refine ⟨⟨by rw [h.1 _ _ (by omega)]; exact a1, fun i hi => ?_, a3, a4⟩, by rw [h.1 _ _ (by omega)]; exact a5, fun t ht => ?_⟩
  · rw [h.2 _ _ _ (by unfold dM; omega) (by omega)]
    exact a2 i hi
  · rw [h.2 _ _ _ (by unfold dM; omega) (by omega), h.2 _ _ _ (by unfold dM; omega) (by omega), h.2 _ _ _ (by unfold dM; omega) (by omega)]
    exact a6 t ht
/-- the class's run from a token on -/
def Rn (σ : St) (t : Nat) : Option (St × Int32) := f_X5_readInto_27 (fl - t) σ (nI t)
theorem cl_id (o : Option (St × Int32)) : (cl o fun s x => some (s, x)) = o := by
  cases o with
  | none => rfl
  | some p => rfl
theorem rn_eq (w : TKW tx c ks ps ls) (ht : t ≤ c) : Rn σ t = f_X5_readInto_27 (fl - (t + 1) + 1) σ (nI t) := by
  have := w.cc
  have := fl_big
  unfold Rn
  congr 1
  omega
theorem rn_ok (hX : TKX σ tx c ks ps ls) (w : TKW tx c ks ps ls) (ht : t < c) (h : f_X5_step σ (nI t) = some (σ', 0)) : Rn σ t = Rn σ' (t + 1) := by
  have := w.cc
  rw [rn_eq w (by omega), f_X5_readInto_27.eq_2]
  unfold f_X6_count
  rw [cl_mk, hX.2.1, if_neg (nI_ge (by omega) (by omega)), h, cl_mk, if_pos rfl, nI_1]
  rfl
/-- the class fails -/
def XF (v : Nat) (σ : St) (a : Option (St × Int32)) (e q : Nat) : Prop := ∃ σ', a = some (σ', nI e) ∧ gi σ' 416 0 = nI q ∧ QX v σ σ'
theorem XF.pre {a : Option (St × Int32)} {e q : Nat} (h : XF v σ' a e q) (u : QX v σ σ') : XF v σ a e q := by
  obtain ⟨s, h1, h2, h3⟩ := h
  exact ⟨s, h1, h2, u.trans h3⟩
theorem rn_bad {e : Nat} (hv : v < 8) (hX : TKX σ tx c ks ps ls) (w : TKW tx c ks ps ls) (ht : t < c) (he : 0 < e) (he' : e < 100) (h : f_X5_step σ (nI t) = some (σ', nI e)) (u : QX v σ σ') : XF v σ (Rn σ t) e (ps t) := by
  have := w.cc
  rw [rn_eq w (by omega), f_X5_readInto_27.eq_2]
  unfold f_X6_count
  rw [cl_mk, hX.2.1, if_neg (nI_ge (by omega) (by omega)), h, cl_mk, if_neg (fun e' => by have := (ln_eq0 (by omega)).mp e'; omega), x_place (u.tkx hv hX) w (by omega), cl_mk]
  unfold f_X5_stop
  simp only [bnd]
  rw [cl_mk]
  exact ⟨_, rfl, by simp only [gi_si, gi_sr, gi_sg, gi_sa, gr_si, rr_sr, gr_sg, gr_sa, ga_si, ga_sr, ga_sg, ga_sa, true_and, and_true, false_and, and_false, Nat.reduceEqDiff, ↓reduceIte], u.trans ((QX.s4 (by omega) _ _).trans (QX.s4 (by omega) _ _))⟩
theorem rn_end (hX : TKX σ tx c ks ps ls) (w : TKW tx c ks ps ls) (h : ¬ gi σ 409 0 = 0 ∨ ¬ gi σ 410 0 ≤ 0) : XF v σ (Rn σ c) 2 (ps c) := by
  have hc := w.cc
  have e85 : XF v σ (f_X5_readInto_85 σ) 2 (ps c) := by
    unfold f_X5_readInto_85 f_X6_textLength f_X3_length
    rw [cl_mk, cl_mk, hX.1.1]
    unfold f_X5_stop
    simp only [bnd]
    rw [cl_mk]
    refine ⟨_, rfl, ?_, (QX.s4 (by omega) _ _).trans (QX.s4 (by omega) _ _)⟩
    simp only [gi_si, gi_sr, gi_sg, gi_sa, gr_si, rr_sr, gr_sg, gr_sa, ga_si, ga_sr, ga_sg, ga_sa, true_and, and_true, false_and, and_false, Nat.reduceEqDiff, ↓reduceIte]
    rw [w.2.2.1]
  rw [rn_eq w (by omega), f_X5_readInto_27.eq_2]
  unfold f_X6_count
  rw [cl_mk, hX.2.1, if_pos (nI_le (by omega) (by omega))]
  by_cases h1 : gi σ 409 0 = 0
  · rw [if_pos h1, if_neg (h.resolve_left (fun e => e h1))]
    exact e85
  · rw [if_neg h1]
    exact e85
/-- a token that is not wanted -/
theorem rn_want (hv : v < 8) (hX : TKX σ tx c ks ps ls) (w : TKW tx c ks ps ls) (ht : t ≤ c) (h : ¬ gi σ 409 0 = 0 ∨ ¬ gi σ 410 0 ≤ 0) (hs : t < c → ∃ σ', f_X5_step σ (nI t) = some (σ', 2) ∧ QX v σ σ') : XF v σ (Rn σ t) 2 (ps t) := by
  by_cases c1 : t = c
  · subst c1
    exact rn_end hX w h
  · obtain ⟨σ', h1, h2⟩ := hs (by omega)
    exact rn_bad (e := 2) hv hX w (by omega) (by omega) (by omega) h1 h2
/-! notes, as keys: smaller is stronger -/
def KXn (σ : St) (k : Nat) : Prop := (100000 ≤ k → gi σ 415 0 = 0 ∧ gi σ 416 0 = -2) ∧ (k < 100000 → gi σ 415 0 = nI (k % 16) ∧ gi σ 416 0 = nI (k / 16))
def KMn (τ : St) (k : Nat) : Prop := (100000 ≤ k → gi τ 836 0 = 0) ∧ (k < 100000 → gi τ 836 0 = nI (k % 16) ∧ gi τ 837 0 = nI (k / 16))
def kz (k : Nat) : Prop := k < 100000 → k % 16 ≠ 0
theorem kz_min {k e p : Nat} (h : kz k) (he : 0 < e) (he' : e < 16) : kz (min k (16 * p + e)) := by
  intro hh
  by_cases c : k ≤ 16 * p + e
  · rw [Nat.min_eq_left c] at hh ⊢
    exact h hh
  · rw [Nat.min_eq_right (by omega)]
    omega
theorem x_blame {k e p : Nat} (h : KXn σ k) (hk : kz k) (he : 0 < e) (he' : e < 16) (hp : p ≤ 2000) : ∃ σ', f_X5_blame σ (nI e) (nI p) = some (σ', ()) ∧ KXn σ' (min k (16 * p + e)) ∧ σ'.2.1 = σ.2.1 ∧ (∀ f i, ¬ (f = 415 ∨ f = 416) → gi σ' f i = gi σ f i) ∧ (∀ f i, ga σ' f i = ga σ f i) := by
  have set : k ≥ 16 * p + e → ∃ σ', f_X5_blame_31 σ (nI e) (nI p) = some (σ', ()) ∧ KXn σ' (min k (16 * p + e)) ∧ σ'.2.1 = σ.2.1 ∧ (∀ f i, ¬ (f = 415 ∨ f = 416) → gi σ' f i = gi σ f i) ∧ (∀ f i, ga σ' f i = ga σ f i) := by
    intro hge
    refine ⟨_, rfl, ⟨fun hh => by omega, fun hh => ?_⟩, rfl, fun f i hf => ?_, fun _ _ => rfl⟩
    · rw [Nat.min_eq_right hge, show (16 * p + e) % 16 = e by omega, show (16 * p + e) / 16 = p by omega]
      simp only [gi_si, gi_sr, gi_sg, gi_sa, gr_si, rr_sr, gr_sg, gr_sa, ga_si, ga_sr, ga_sg, ga_sa, true_and, and_true, false_and, and_false, Nat.reduceEqDiff, ↓reduceIte]
    · simp only [gi_si, gi_sr, gi_sg, gi_sa, gr_si, rr_sr, gr_sg, gr_sa, ga_si, ga_sr, ga_sg, ga_sa, true_and, and_true, false_and, and_false, Nat.reduceEqDiff, ↓reduceIte]
      rw [if_neg (by omega), if_neg (by omega)]
  have keep : k ≤ 16 * p + e → ∃ σ', some (σ, ()) = some (σ', ()) ∧ KXn σ' (min k (16 * p + e)) ∧ σ'.2.1 = σ.2.1 ∧ (∀ f i, ¬ (f = 415 ∨ f = 416) → gi σ' f i = gi σ f i) ∧ (∀ f i, ga σ' f i = ga σ f i) := by
    intro hle
    refine ⟨σ, rfl, ?_, rfl, fun _ _ _ => rfl, fun _ _ => rfl⟩
    rw [Nat.min_eq_left hle]
    exact h
  unfold f_X5_blame
  by_cases cb : k < 100000
  · obtain ⟨a1, a2⟩ := h.2 cb
    have := hk cb
    rw [a1, a2, if_neg (fun e' => by have := (ln_eq0 (by omega)).mp e'; omega)]
    by_cases c1 : p < k / 16
    · rw [if_pos ((ln_lt (by omega) (by omega)).mpr c1)]
      exact set (by omega)
    · rw [if_neg (fun e' => c1 ((ln_lt (by omega) (by omega)).mp e'))]
      by_cases c2 : p = k / 16
      · rw [if_pos (by rw [c2])]
        by_cases c3 : k % 16 ≤ e
        · rw [if_pos (nI_le c3 (by omega))]
          exact keep (by omega)
        · rw [if_neg (nI_ge (by omega) (by omega))]
          exact set (by omega)
      · rw [if_neg (fun e' => c2 ((ln_eq (by omega) (by omega)).mp e'))]
        exact keep (by omega)
  · rw [(h.1 (by omega)).1, if_pos rfl]
    exact set (by omega)
theorem m_note {k e p : Nat} (h : KMn τ k) (hk : kz k) (he : 0 < e) (he' : e < 16) (hp : p ≤ 2000) : ∃ τ', f_X9_note τ (nI e) (nI p) = some (τ', ()) ∧ KMn τ' (min k (16 * p + e)) ∧ (∀ f i, ¬ (f = 836 ∨ f = 837) → gi τ' f i = gi τ f i) ∧ (∀ f i, ga τ' f i = ga τ f i) := by
  have set : k ≥ 16 * p + e → ∃ τ', f_X9_note_31 τ (nI e) (nI p) = some (τ', ()) ∧ KMn τ' (min k (16 * p + e)) ∧ (∀ f i, ¬ (f = 836 ∨ f = 837) → gi τ' f i = gi τ f i) ∧ (∀ f i, ga τ' f i = ga τ f i) := by
    intro hge
    refine ⟨_, rfl, ⟨fun hh => by omega, fun hh => ?_⟩, fun f i hf => ?_, fun _ _ => rfl⟩
    · rw [Nat.min_eq_right hge, show (16 * p + e) % 16 = e by omega, show (16 * p + e) / 16 = p by omega]
      simp only [gi_si, gi_sr, gi_sg, gi_sa, gr_si, rr_sr, gr_sg, gr_sa, ga_si, ga_sr, ga_sg, ga_sa, true_and, and_true, false_and, and_false, Nat.reduceEqDiff, ↓reduceIte]
    · simp only [gi_si, gi_sr, gi_sg, gi_sa, gr_si, rr_sr, gr_sg, gr_sa, ga_si, ga_sr, ga_sg, ga_sa, true_and, and_true, false_and, and_false, Nat.reduceEqDiff, ↓reduceIte]
      rw [if_neg (by omega), if_neg (by omega)]
  have keep : k ≤ 16 * p + e → ∃ τ', some (τ, ()) = some (τ', ()) ∧ KMn τ' (min k (16 * p + e)) ∧ (∀ f i, ¬ (f = 836 ∨ f = 837) → gi τ' f i = gi τ f i) ∧ (∀ f i, ga τ' f i = ga τ f i) := by
    intro hle
    refine ⟨τ, rfl, ?_, fun _ _ _ => rfl, fun _ _ => rfl⟩
    rw [Nat.min_eq_left hle]
    exact h
  unfold f_X9_note
  by_cases cb : k < 100000
  · obtain ⟨a1, a2⟩ := h.2 cb
    have := hk cb
    rw [a1, a2, if_neg (fun e' => by have := (ln_eq0 (by omega)).mp e'; omega)]
    by_cases c1 : p < k / 16
    · rw [if_pos ((ln_lt (by omega) (by omega)).mpr c1)]
      exact set (by omega)
    · rw [if_neg (fun e' => c1 ((ln_lt (by omega) (by omega)).mp e'))]
      by_cases c2 : p = k / 16
      · rw [if_pos (by rw [c2])]
        by_cases c3 : k % 16 ≤ e
        · rw [if_pos (nI_le c3 (by omega))]
          exact keep (by omega)
        · rw [if_neg (nI_ge (by omega) (by omega))]
          exact set (by omega)
      · rw [if_neg (fun e' => c2 ((ln_eq (by omega) (by omega)).mp e'))]
        exact keep (by omega)
  · rw [h.1 (by omega), if_pos rfl]
    exact set (by omega)
/-- the reference has failed -/
def MF (τ : St) (e q : Nat) : Prop := gi τ 835 0 = nI e ∧ gi τ 809 0 = nI q ∧ 0 < e ∧ e < 100
theorem MF.no {e q : Nat} (h : MF τ e q) : ¬ gi τ 835 0 = 0 := by
  obtain ⟨h1, _, h3, h4⟩ := h
  rw [h1]
  intro e'
  have := (ln_eq0 (by omega)).mp e'
  omega
theorem m_fails {e q : Nat} (h0 : gi τ 835 0 = 0) (he : 0 < e) (he' : e < 100) : ∃ τ', f_X9_fails τ (nI e) (nI q) = some (τ', ()) ∧ MF τ' e q ∧ QM v τ τ' := by
  unfold f_X9_fails
  rw [if_pos h0]
  refine ⟨_, rfl, ⟨?_, ?_, he, he'⟩, (QM.si (by omega) _ _).trans (QM.si (by omega) _ _)⟩
  · simp only [gi_si, gi_sr, gi_sg, gi_sa, gr_si, rr_sr, gr_sg, gr_sa, ga_si, ga_sr, ga_sg, ga_sa, true_and, and_true, false_and, and_false, Nat.reduceEqDiff, ↓reduceIte]
  · simp only [gi_si, gi_sr, gi_sg, gi_sa, gr_si, rr_sr, gr_sg, gr_sa, ga_si, ga_sr, ga_sg, ga_sa, true_and, and_true, false_and, and_false, Nat.reduceEqDiff, ↓reduceIte]
theorem m_want_no {e q : Nat} (h : MF τ e q) (x : Int32) : f_X9_want τ x = some (τ, ()) := by
  unfold f_X9_want f_X9_want_34
  rw [if_neg h.no, if_neg h.no]
theorem m_kind_no {e q : Nat} (h : MF τ e q) : f_X9_wantKind τ = some (τ, -1) := by
  unfold f_X9_wantKind f_X9_wantKind_26 f_X9_wantKind_52
  rw [if_neg h.no, if_neg h.no, if_neg h.no]
/-- the wanted token is there, or not -/
theorem m_want_ok {k : Nat} (hT : TKM τ tx c ks ps ls) (w : TKW tx c ks ps ls) (ht : t ≤ c) (h0 : gi τ 835 0 = 0) (h4 : gi τ 834 0 = nI t) (hk : ks t = k) : f_X9_want τ (nI k) = some (si τ 834 0 (nI (t + 1)), ()) := by
  have := w.cc
  unfold f_X9_want f_X9_want_34
  rw [if_pos h0, h4, ck_nI (by omega) (by omega), (hT.2.2 t ht).1, hk, if_pos rfl, if_pos h0, nI_1]
  rfl
theorem m_want_bad {k : Nat} (hT : TKM τ tx c ks ps ls) (w : TKW tx c ks ps ls) (ht : t ≤ c) (h0 : gi τ 835 0 = 0) (h4 : gi τ 834 0 = nI t) (hk : ks t ≠ k) (hkk : k < 1000) : ∃ τ', f_X9_want τ (nI k) = some (τ', ()) ∧ MF τ' 2 (ps t) ∧ QM v τ τ' := by
  have := w.cc
  have := w.kk ht
  obtain ⟨τ', h1, h2, h3⟩ := m_fails (v := v) (e := 2) (q := ps t) h0 (by omega) (by omega)
  have h1 : f_X9_fails τ 2 (nI (ps t)) = _ := h1
  refine ⟨τ', ?_, h2, h3⟩
  unfold f_X9_want f_X9_want_34
  rw [if_pos h0, h4, ck_nI (by omega) (by omega), (hT.2.2 t ht).1, if_neg (fun e => hk ((ln_eq (by omega) (by omega)).mp e)), ck_nI (by omega) (by omega), (hT.2.2 t ht).2.1, h1, cl_mk, if_neg h2.no]
end Rd
