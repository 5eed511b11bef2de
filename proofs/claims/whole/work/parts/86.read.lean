/-! read. -/
theorem KX.trans {v : Nat} {σ σ1 σ2 : St} (h : KX v σ σ1) (k : KX v σ1 σ2) : KX v σ σ2 := ⟨fun f a => (k.1 f a).trans (h.1 f a), fun f g a b c d => (k.2.1 f g a b c d).trans (h.2.1 f g a b c d), fun f q a b c => (k.2.2.1 f q a b c).trans (h.2.2.1 f q a b c), fun i a => ⟨(k.2.2.2.1 i a).1.trans (h.2.2.2.1 i a).1, (k.2.2.2.1 i a).2.trans (h.2.2.2.1 i a).2⟩, k.2.2.2.2.trans h.2.2.2.2⟩
theorem KM.trans {v : Nat} {τ τ1 τ2 : St} (h : KM v τ τ1) (k : KM v τ1 τ2) : KM v τ τ2 := ⟨fun f a => (k.1 f a).trans (h.1 f a), fun f g a b c d => (k.2.1 f g a b c d).trans (h.2.1 f g a b c d), fun f g a b c => (k.2.2.1 f g a b c).trans (h.2.2.1 f g a b c), fun f q a b c => (k.2.2.2.1 f q a b c).trans (h.2.2.2.1 f q a b c), fun q a b => (k.2.2.2.2.1 q a b).trans (h.2.2.2.2.1 q a b), fun f g a b c => (k.2.2.2.2.2 f g a b c).trans (h.2.2.2.2.2 f g a b c)⟩
/-- what reading leaves of the class, of the reference -/
def GX (v : Nat) (σ σ' : St) : Prop := (∀ i j, i ≤ 1 → gr σ' i j = gr σ i j) ∧ (∀ k, k = 2 ∨ k = 3 → gi σ' 201 k = gi σ 201 k ∧ ga σ' 2 k = ga σ 2 k) ∧ gi σ' 708 0 = gi σ 708 0 ∧ (∀ u, u < 8 → u ≠ v → KX u σ σ')
def GM (v : Nat) (τ τ' : St) : Prop := (gi τ' 806 0 = gi τ 806 0 ∧ gi τ' 810 0 = gi τ 810 0) ∧ ga τ' 2 1 = ga τ 2 1 ∧ (∀ u, u ≠ v → KM u τ τ')
theorem GX.trans {v : Nat} {σ σ1 σ2 : St} (h : GX v σ σ1) (k : GX v σ1 σ2) : GX v σ σ2 := ⟨fun i j a => (k.1 i j a).trans (h.1 i j a), fun i a => ⟨(k.2.1 i a).1.trans (h.2.1 i a).1, (k.2.1 i a).2.trans (h.2.1 i a).2⟩, k.2.2.1.trans h.2.2.1, fun u a b => (h.2.2.2 u a b).trans (k.2.2.2 u a b)⟩
theorem GM.trans {v : Nat} {τ τ1 τ2 : St} (h : GM v τ τ1) (k : GM v τ1 τ2) : GM v τ τ2 := ⟨⟨k.1.1.trans h.1.1, k.1.2.trans h.1.2⟩, k.2.1.trans h.2.1, fun u b => (h.2.2 u b).trans (k.2.2 u b)⟩
theorem GX.qx {v : Nat} (hv : v < 8) {σ σ' : St} (h : QX v σ σ') : GX v σ σ' := ⟨fun i j a => h.1 i j (by omega), fun k a => ⟨h.2.1 _ _ (by unfold dXp DL; omega) (by omega) (by omega), h.2.2 _ _ (by unfold DL; omega) (by omega)⟩, h.2.1 _ _ (by unfold dXp; omega) (by omega) (by omega), fun u a b => h.kx a hv b⟩
theorem GM.qm {v : Nat} {τ τ' : St} (h : QM v τ τ') : GM v τ τ' := ⟨⟨h.1 _ _ (by omega), h.1 _ _ (by omega)⟩, by funext x; exact h.2 _ _ _ (by unfold dM; omega) (by omega), fun u b => h.km b⟩
theorem GX.utx {v : Nat} {σ σ' : St} (h : UTX σ σ') : GX v σ σ' := ⟨fun i j _ => by show σ'.2.1 i j = σ.2.1 i j; rw [h.1], fun k _ => ⟨h.2.1 _ _ (by omega), h.2.2 _ _ (by omega)⟩, h.2.1 _ _ (by omega), fun u a _ => (UP.utx h).kx a⟩
theorem GM.utm {v : Nat} {τ τ' : St} (h : UTM τ τ') : GM v τ τ' := ⟨⟨h.1 _ _ (by omega), h.1 _ _ (by omega)⟩, h.2 _ _ (by omega), fun u _ => KM_UM h.um⟩
theorem GX.ul0 {v : Nat} {σ σ' : St} (h : UL 0 σ σ') : GX v σ σ' := ⟨fun i j _ => h.gr i j, fun k _ => ⟨h.2.1 _ _ (by omega), h.2.2 _ _ (by omega)⟩, h.2.1 _ _ (by omega), fun u _ _ => KX_UL h (by omega)⟩
theorem GX.sv {v f : Nat} (hf : f = 709 ∨ (409 ≤ f ∧ f ≤ 416)) (σ : St) (x : Int32) : GX v σ (si σ f 0 x) := by
  have g : ∀ f' i, f' ≠ f → gi (si σ f 0 x) f' i = gi σ f' i := fun f' i h => by
    simp only [gi_si, gi_sr, gi_sg, gi_sa, gr_si, rr_sr, gr_sg, gr_sa, ga_si, ga_sr, ga_sg, ga_sa, true_and, and_true, false_and, and_false, Nat.reduceEqDiff, ↓reduceIte]
    rw [if_neg (by omega)]
  exact ⟨fun _ _ _ => rfl, fun k _ => ⟨g _ _ (by omega), rfl⟩, g _ _ (by omega), fun u _ _ => ⟨fun f' _ => g _ _ (by omega), fun f' g' _ _ _ _ => g _ _ (by omega), fun f' q _ _ _ => g _ _ (by omega), fun k _ => ⟨g _ _ (by omega), rfl⟩, rfl⟩⟩
theorem RO_g {σ τ σ' τ' : St} {ou : List Nat} {v : Nat} (h : RO σ τ ou) (gx : GX v σ σ') (gm : GM v τ τ') : RO σ' τ' ou := by
  obtain ⟨h1, h2, h3, h4, h5⟩ := h
  have e0 := gx.1 0 0 (by omega)
  have e1 := gx.1 1 0 (by omega)
  refine ⟨?_, by rw [gm.1.1, h2], by rw [gm.2.1]; exact h3, h4, by rw [e0, e1]; exact h5⟩
  rw [e0]
  have hk : gr σ 0 0 = 2 ∨ gr σ 0 0 = 3 := by
    rcases h5 with h | h
    · exact Or.inl h.1
    · exact Or.inr h.1
  exact LX_of h1 (gx.2.1 _ hk).1 (gx.2.1 _ hk).2
/-- nothing is read yet -/
def d00 : Vd := (fun r i => match r with
    | 6 => match i with
      | 0 => 0
      | 1 => 0
      | _ => 40
    | _ => 0, fun _ _ => [], fun _ _ => none)
def q00 : Nat → Nat → Nat := fun r i => if r = 7 ∧ i = 3 then 100000 else 0
theorem q00_o {r i : Nat} (h : ¬ (r = 7 ∧ i = 3)) : q00 r i = 0 := if_neg h
theorem op_read {σ τ : St} (h : RR σ τ) : OK (f_X8_read σ) (f_X9_read τ) := by
  obtain ⟨tx, ou, nv, W, h1, h2, h3, h4⟩ := h
  have hn := h4.1
  unfold f_X8_read f_X9_read
  rw [h4.2.1, h4.2.2.1]
  by_cases c8 : nv = 8
  · rw [if_neg (show ¬ nI nv < (8 : Int32) by rw [c8]; decide), if_pos (show nI nv = (8 : Int32) by rw [c8]; rfl)]
    simp only [bnd]
    obtain ⟨s1, e1, u1, l1, _⟩ := lx_clear 0 (si σ 709 0 (-2))
    rw [e1, cl_mk]
    have gx : GX 9 σ s1 := (GX.sv (by omega) _ _).trans (GX.ul0 u1)
    have gi' : ∀ f i, ¬ (f = 803 ∨ f = 809) → gi (si (si τ 803 0 0) 809 0 (-2)) f i = gi τ f i := fun f i hh => by
      simp only [gi_si, gi_sr, gi_sg, gi_sa, gr_si, rr_sr, gr_sg, gr_sa, ga_si, ga_sr, ga_sg, ga_sa, true_and, and_true, false_and, and_false, Nat.reduceEqDiff, ↓reduceIte]
      rw [if_neg (by omega), if_neg (by omega)]
    have gm : GM 9 τ (si (si τ 803 0 0) 809 0 (-2)) := ⟨⟨gi' _ _ (by omega), gi' _ _ (by omega)⟩, rfl, fun u _ => KM.refl' u τ⟩
    refine ⟨s1, _, -3, rfl, rfl, [], ou, nv, W, ⟨l1, by simp only [gi_si, gi_sr, gi_sg, gi_sa, gr_si, rr_sr, gr_sg, gr_sa, ga_si, ga_sr, ga_sg, ga_sa, true_and, and_true, false_and, and_false, Nat.reduceEqDiff, ↓reduceIte]; rfl, fun i hi => absurd hi (Nat.not_lt_zero _)⟩, RO_g h2 gx gm, ?_, h4.of gx.2.2.1 gm.1.2 (fun v hv => gx.2.2.2 v (by omega) (by omega)) (fun v hv => gm.2.2 v (by omega))⟩
    rw [u1.2.1 _ _ (by omega)]
    simp only [gi_si, gi_sr, gi_sg, gi_sa, gr_si, rr_sr, gr_sg, gr_sa, ga_si, ga_sr, ga_sg, ga_sa, true_and, and_true, false_and, and_false, Nat.reduceEqDiff, ↓reduceIte]
  have hv : nv < 8 := by omega
  rw [if_pos (show nI nv < (8 : Int32) from (ln_lt (b := 8) (by omega) (by omega)).mpr hv), if_neg (show ¬ nI nv = (8 : Int32) from fun e => c8 ((ln_eq (b := 8) (by omega) (by omega)).mp e)), ck_nI hv (by omega), ck_nI hv (by omega)]
  simp only [bnd]
  rw [ck_nI hv (by omega)]
  -- the beginnings
  obtain ⟨sb, hsb⟩ : ∃ sb, sb = si (si (si (si (si (si (si (si (sr σ 2 0 nv) 603 nv 0) 604 nv 0) 605 nv 40) 409 0 0) 410 0 0) 414 0 (-2)) 415 0 0) 416 0 (-2) := ⟨_, rfl⟩
  have eb : f_X5_begin σ nv = some (sb, ()) := by
    unfold f_X5_begin f_X7_begin
    simp only [bnd]
    rw [show gr (sr σ 2 0 nv) 2 0 = nv by simp only [gi_si, gi_sr, gi_sg, gi_sa, gr_si, rr_sr, gr_sg, gr_sa, ga_si, ga_sr, ga_sg, ga_sa, true_and, and_true, false_and, and_false, Nat.reduceEqDiff, ↓reduceIte], cl_mk, hsb]
  obtain ⟨tb, htb⟩ : ∃ tb, tb = si (si (si (si (si (si (sa (sa τ 1 0 nv 0) 1 1 nv 0) 838 0 0) 844 0 0) 835 0 0) 836 0 0) 837 0 0) 809 0 (-2) := ⟨_, rfl⟩
  rw [← htb]
  have gib : ∀ f i, ¬ ((f = 603 ∨ f = 604 ∨ f = 605) ∧ i = nv) → ¬ (409 ≤ f ∧ f ≤ 416) → gi sb f i = gi σ f i := fun f i h1 h2 => by
    rw [hsb]
    simp only [gi_si, gi_sr, gi_sg, gi_sa, gr_si, rr_sr, gr_sg, gr_sa, ga_si, ga_sr, ga_sg, ga_sa, true_and, and_true, false_and, and_false, Nat.reduceEqDiff, ↓reduceIte]
    repeat rw [if_neg (by omega)]
  have gab : ∀ f i, ga sb f i = ga σ f i := fun f i => by
    rw [hsb]
    rfl
  have gxb : GX nv σ sb := ⟨fun i j a => by rw [hsb]; simp only [gi_si, gi_sr, gi_sg, gi_sa, gr_si, rr_sr, gr_sg, gr_sa, ga_si, ga_sr, ga_sg, ga_sa, true_and, and_true, false_and, and_false, Nat.reduceEqDiff, ↓reduceIte]; rw [if_neg (by omega)], fun k _ => ⟨gib _ _ (by omega) (by omega), gab _ _⟩, gib _ _ (by omega) (by omega), fun u _ hu => ⟨fun f _ => gib _ _ (by omega) (by omega), fun f g _ _ _ _ => gib _ _ (by omega) (by omega), fun f q _ _ _ => gib _ _ (by omega) (by omega), fun k _ => ⟨gib _ _ (by omega) (by omega), gab _ _⟩, gab _ _⟩⟩
  have gmb' : ∀ f i, ¬ (f = 809 ∨ (835 ≤ f ∧ f ≤ 844)) → gi tb f i = gi τ f i := fun f i hh => by
    rw [htb]
    simp only [gi_si, gi_sr, gi_sg, gi_sa, gr_si, rr_sr, gr_sg, gr_sa, ga_si, ga_sr, ga_sg, ga_sa, true_and, and_true, false_and, and_false, Nat.reduceEqDiff, ↓reduceIte]
    repeat rw [if_neg (by omega)]
  have dmb : DM nv τ (sa (sa τ 1 0 nv 0) 1 1 nv 0) := (DM.s0 (by omega) rfl _ _).trans (DM.s0 (by omega) rfl _ _)
  have gab2 : ∀ f i x, ¬ dM nv f i x → ga tb f i x = ga τ f i x := fun f i x hh => by
    rw [htb]
    exact dmb.2 f i x hh
  have gmb : GM nv τ tb := ⟨⟨gmb' _ _ (by omega), gmb' _ _ (by omega)⟩, by funext x; exact gab2 _ _ _ (by unfold dM; omega), fun u hu => by
    rw [htb]
    exact dmb.km hu⟩
  have rtb : RT sb tb tx := ⟨LX_of h1.1 (gib _ _ (by omega) (by omega)) (gab _ _), by rw [gmb' _ _ (by omega)]; exact h1.2.1, Bs_of h1.2.2 (fun i hi => gab2 _ _ _ (by unfold dM; omega))⟩
  -- how reading ends
  have bad : ∀ (s' t' : St) (e qq : Nat), 0 < e → e < 100 → GX nv σ s' → GM nv τ t' → gi s' 416 0 = nI qq → gi t' 835 0 = nI e → gi t' 809 0 = nI qq → gi t' 803 0 = 0 → OK (cl (f_X5_placeOfFault s') fun s4 x5 => cl (f_X3_clear (si s4 709 0 x5) 0) fun s7 _ => if nI e = 0 then (cl (f_X8_keep s7 nv) fun s8 x9 => some (s8, x9)) else some (s7, (-10) - nI e)) (f_X9_read_131 t' (nI nv)) := by
    intro s' t' e qq he he' gx gm h416 h835 h809 h803
    obtain ⟨s1, e1, u1, l1, _⟩ := lx_clear 0 (si s' 709 0 (gi s' 416 0))
    have ne : ¬ nI e = 0 := fun e' => by have := (ln_eq0 (by omega)).mp e'; omega
    unfold f_X5_placeOfFault f_X9_read_131
    rw [cl_mk, e1, cl_mk, if_neg ne, h835, if_neg ne]
    have gx' : GX nv σ s1 := (gx.trans (GX.sv (by omega) _ _)).trans (GX.ul0 u1)
    refine ⟨s1, t', _, rfl, rfl, [], ou, nv, W, ⟨l1, h803, fun i hi => absurd hi (Nat.not_lt_zero _)⟩, RO_g h2 gx' gm, ?_, h4.of gx'.2.2.1 gm.1.2 (fun v hv => gx'.2.2.2 v (by omega) (by omega)) (fun v hv => gm.2.2 v (by omega))⟩
    rw [u1.2.1 _ _ (by omega), h809]
    simp only [gi_si, gi_sr, gi_sg, gi_sa, gr_si, rr_sr, gr_sg, gr_sa, ga_si, ga_sr, ga_sg, ga_sa, true_and, and_true, false_and, and_false, Nat.reduceEqDiff, ↓reduceIte]
    exact h416
  obtain ⟨s1, t1, ux, um, e803, hL⟩ := lex_top rtb
  unfold f_X5_readInto
  rw [eb, cl_mk]
  have tb835 : gi t1 835 0 = 0 := by
    rw [um.1 _ _ (by omega), htb]
    simp only [gi_si, gi_sr, gi_sg, gi_sa, gr_si, rr_sr, gr_sg, gr_sa, ga_si, ga_sr, ga_sg, ga_sa, true_and, and_true, false_and, and_false, Nat.reduceEqDiff, ↓reduceIte]
  have tb809 : gi t1 809 0 = -2 := by
    rw [um.1 _ _ (by omega), htb]
    simp only [gi_si, gi_sr, gi_sg, gi_sa, gr_si, rr_sr, gr_sg, gr_sa, ga_si, ga_sr, ga_sg, ga_sa, true_and, and_true, false_and, and_false, Nat.reduceEqDiff, ↓reduceIte]
  rcases hL with ⟨c, ks, ps, ls, g1, g2, hX, hT, w⟩ | ⟨qq, g0, g1, g2⟩
  rotate_left
  · -- no token
    have hq : qq < 2000 := Nat.lt_of_lt_of_le g0 h1.1.2.1
    obtain ⟨t2, f1, f2, f3⟩ := m_fails (τ := t1) (v := nv) (e := 1) (q := qq) tb835 (by omega) (by omega)
    have f1 : f_X9_fails t1 1 (nI qq) = _ := f1
    rw [g1, g2, cl_mk, cl_mk, if_neg (ln_m1n (by omega)), if_neg (nI_pos (by omega)), f1, cl_mk]
    unfold f_X5_stop f_X9_read_88 f_X9_read_100
    rw [if_neg f2.no, if_neg f2.no]
    simp only [bnd]
    rw [cl_mk, cl_mk]
    have := bad (si (si s1 415 0 1) 416 0 (nI qq)) t2 1 qq (by omega) (by omega) ((gxb.trans (GX.utx ux)).trans ((GX.sv (by omega) _ _).trans (GX.sv (by omega) _ _))) ((gmb.trans (GM.utm um)).trans (GM.qm f3)) (by simp only [gi_si, gi_sr, gi_sg, gi_sa, gr_si, rr_sr, gr_sg, gr_sa, ga_si, ga_sr, ga_sg, ga_sa, true_and, and_true, false_and, and_false, Nat.reduceEqDiff, ↓reduceIte]) f2.1 f2.2.1 (by rw [f3.1 _ _ (by omega), e803])
    exact this
  · have hcc := w.cc
    rw [g1, g2, cl_mk, cl_mk, if_pos rfl, if_pos (by decide)]
    -- both begin with nothing
    have gi1 : ∀ f i, f ≠ 504 → gi s1 f i = gi sb f i := fun f i hh => ux.2.1 f i hh
    have PI0 : PI nv tx c ks ps ls s1 (si (si t1 834 0 0) 847 0 0) 0 d00 q00 := by
      refine ⟨⟨?_, ⟨?_, ?_, ?_, fun j hj => absurd hj (Nat.not_lt_zero _), fun j hj => absurd hj (Nat.not_lt_zero _)⟩, ?_, fun i hi => absurd hi (Nat.not_lt_zero _), ?_, ?_, fun i hi => absurd hi (Nat.not_lt_zero _)⟩, ⟨⟨?_, ?_, fun j hj => absurd hj (Nat.not_lt_zero _), fun j hj => absurd hj (Nat.not_lt_zero _)⟩, ?_, fun i hi => absurd hi (Nat.not_lt_zero _), ?_, fun i hi => absurd hi (Nat.not_lt_zero _), ?_, ?_, fun i hi => absurd hi (Nat.not_lt_zero _), ?_, ?_⟩, ?_, hX, ?_, ?_, Nat.zero_le _⟩
      · show s1.2.1 2 0 = nv
        rw [ux.1]
        show gr sb 2 0 = nv
        rw [hsb]
        simp only [gi_si, gi_sr, gi_sg, gi_sa, gr_si, rr_sr, gr_sg, gr_sa, ga_si, ga_sr, ga_sg, ga_sa, true_and, and_true, false_and, and_false, Nat.reduceEqDiff, ↓reduceIte]
      · rw [gi1 _ _ (by omega), hsb]
        simp only [gi_si, gi_sr, gi_sg, gi_sa, gr_si, rr_sr, gr_sg, gr_sa, ga_si, ga_sr, ga_sg, ga_sa, true_and, and_true, false_and, and_false, Nat.reduceEqDiff, ↓reduceIte]
        rfl
      · rw [gi1 _ _ (by omega), hsb]
        simp only [gi_si, gi_sr, gi_sg, gi_sa, gr_si, rr_sr, gr_sg, gr_sa, ga_si, ga_sr, ga_sg, ga_sa, true_and, and_true, false_and, and_false, Nat.reduceEqDiff, ↓reduceIte]
        rfl
      · rw [gi1 _ _ (by omega), hsb]
        simp only [gi_si, gi_sr, gi_sg, gi_sa, gr_si, rr_sr, gr_sg, gr_sa, ga_si, ga_sr, ga_sg, ga_sa, true_and, and_true, false_and, and_false, Nat.reduceEqDiff, ↓reduceIte]
        rfl
      · rw [gi1 _ _ (by omega), hsb]
        simp only [gi_si, gi_sr, gi_sg, gi_sa, gr_si, rr_sr, gr_sg, gr_sa, ga_si, ga_sr, ga_sg, ga_sa, true_and, and_true, false_and, and_false, Nat.reduceEqDiff, ↓reduceIte]
        rfl
      · rw [gi1 _ _ (by omega), hsb]
        simp only [gi_si, gi_sr, gi_sg, gi_sa, gr_si, rr_sr, gr_sg, gr_sa, ga_si, ga_sr, ga_sg, ga_sa, true_and, and_true, false_and, and_false, Nat.reduceEqDiff, ↓reduceIte]
        rfl
      · have : q00 7 3 = 100000 := rfl
        rw [this]
        refine ⟨fun _ => ?_, fun h => by omega⟩
        rw [gi1 _ _ (by omega), gi1 _ _ (by omega), hsb]
        simp only [gi_si, gi_sr, gi_sg, gi_sa, gr_si, rr_sr, gr_sg, gr_sa, ga_si, ga_sr, ga_sg, ga_sa, true_and, and_true, false_and, and_false, Nat.reduceEqDiff, ↓reduceIte]
      · show ga t1 1 0 nv = _
        rw [um.2 _ _ (by omega), htb]
        show ga (sa (sa τ 1 0 nv 0) 1 1 nv 0) 1 0 nv = _
        rw [a1_oth (by omega), a1_get]
        rfl
      · show ga t1 1 1 nv = _
        rw [um.2 _ _ (by omega), htb]
        show ga (sa (sa τ 1 0 nv 0) 1 1 nv 0) 1 1 nv = _
        rw [a1_get]
        rfl
      · simp only [gi_si, gi_sr, gi_sg, gi_sa, gr_si, rr_sr, gr_sg, gr_sa, ga_si, ga_sr, ga_sg, ga_sa, true_and, and_true, false_and, and_false, Nat.reduceEqDiff, ↓reduceIte]
        rfl
      · simp only [gi_si, gi_sr, gi_sg, gi_sa, gr_si, rr_sr, gr_sg, gr_sa, ga_si, ga_sr, ga_sg, ga_sa, true_and, and_true, false_and, and_false, Nat.reduceEqDiff, ↓reduceIte]
        rw [um.1 _ _ (by omega), htb]
        simp only [gi_si, gi_sr, gi_sg, gi_sa, gr_si, rr_sr, gr_sg, gr_sa, ga_si, ga_sr, ga_sg, ga_sa, true_and, and_true, false_and, and_false, Nat.reduceEqDiff, ↓reduceIte]
        rfl
      · have : q00 7 3 = 100000 := rfl
        rw [this]
        refine ⟨fun _ => ?_, fun h => by omega⟩
        simp only [gi_si, gi_sr, gi_sg, gi_sa, gr_si, rr_sr, gr_sg, gr_sa, ga_si, ga_sr, ga_sg, ga_sa, true_and, and_true, false_and, and_false, Nat.reduceEqDiff, ↓reduceIte]
        rw [um.1 _ _ (by omega), htb]
        simp only [gi_si, gi_sr, gi_sg, gi_sa, gr_si, rr_sr, gr_sg, gr_sa, ga_si, ga_sr, ga_sg, ga_sa, true_and, and_true, false_and, and_false, Nat.reduceEqDiff, ↓reduceIte]
      · simp only [gi_si, gi_sr, gi_sg, gi_sa, gr_si, rr_sr, gr_sg, gr_sa, ga_si, ga_sr, ga_sg, ga_sa, true_and, and_true, false_and, and_false, Nat.reduceEqDiff, ↓reduceIte]
        rw [um.1 _ _ (by omega), htb]
        simp only [gi_si, gi_sr, gi_sg, gi_sa, gr_si, rr_sr, gr_sg, gr_sa, ga_si, ga_sr, ga_sg, ga_sa, true_and, and_true, false_and, and_false, Nat.reduceEqDiff, ↓reduceIte]
        rfl
      · simp only [gi_si, gi_sr, gi_sg, gi_sa, gr_si, rr_sr, gr_sg, gr_sa, ga_si, ga_sr, ga_sg, ga_sa, true_and, and_true, false_and, and_false, Nat.reduceEqDiff, ↓reduceIte]
        exact tb809
      · simp only [gi_si, gi_sr, gi_sg, gi_sa, gr_si, rr_sr, gr_sg, gr_sa, ga_si, ga_sr, ga_sg, ga_sa, true_and, and_true, false_and, and_false, Nat.reduceEqDiff, ↓reduceIte]
        exact tb835
      · refine ⟨⟨Nat.zero_le _, Nat.zero_le _, rfl, Nat.zero_le _⟩, fun j hj => absurd hj (Nat.not_lt_zero _), fun j hj => absurd hj (Nat.not_lt_zero _), fun j hj => absurd hj (Nat.not_lt_zero _), fun j hj => absurd hj (Nat.not_lt_zero _), fun j hj => absurd hj (Nat.not_lt_zero _), fun _ => ⟨fun i j _ hj => absurd hj (Nat.not_lt_zero _), fun j hj => absurd hj (Nat.not_lt_zero _)⟩, ?_, ⟨Nat.zero_le _, Nat.zero_le _⟩, fun i hi => absurd hi (Nat.not_lt_zero _), fun i hi => absurd hi (Nat.not_lt_zero _)⟩
        have : q00 7 3 = 100000 := rfl
        rw [this]
        exact fun h => by omega
      · exact (QM.sm (v := nv) ((SM.si (by omega) _ _).trans (SM.si (by omega) _ _))).tkm hT
      · simp only [gi_si, gi_sr, gi_sg, gi_sa, gr_si, rr_sr, gr_sg, gr_sa, ga_si, ga_sr, ga_sg, ga_sa, true_and, and_true, false_and, and_false, Nat.reduceEqDiff, ↓reduceIte]
        rfl
    have h409 : gi s1 409 0 = 0 := by
      rw [gi1 _ _ (by omega), hsb]
      simp only [gi_si, gi_sr, gi_sg, gi_sa, gr_si, rr_sr, gr_sg, gr_sa, ga_si, ga_sr, ga_sg, ga_sa, true_and, and_true, false_and, and_false, Nat.reduceEqDiff, ↓reduceIte]
    have gx1 := gxb.trans (GX.utx ux)
    have gm1 := gmb.trans (GM.utm um)
    have qm0 : QM nv t1 (si (si t1 834 0 0) 847 0 0) := QM.sm ((SM.si (by omega) _ _).trans (SM.si (by omega) _ _))
    unfold f_X9_read_88 f_X9_text
    rw [if_pos tb835]
    simp only [bnd]
    have rn0 : f_X5_readInto_27 fl s1 0 = Rn s1 0 := rfl
    rw [rn0]
    rcases f_text hv w c 0 (by omega) s1 (si (si t1 834 0 0) 847 0 0) d00 q00 PI0 h409 fl (by have := fl_big; omega) with ⟨e, qq, t2, ⟨s2, k1, k2, k3⟩, k4, k5, k6⟩ | ⟨s2, t2, d2, q2, k1, k2, k3, k4, k5, k6, k7⟩
    · -- a fault that ends the reading
      rw [k1, k4, cl_mk, cl_mk]
      unfold f_X9_read_100
      rw [if_neg k5.no]
      exact bad s2 t2 e qq k5.2.2.1 k5.2.2.2 (gx1.trans (GX.qx hv k3)) (gm1.trans ((GM.qm qm0).trans (GM.qm k6))) k2 k5.1 k5.2.1 (by rw [k6.1 _ _ (by omega), qm0.1 _ _ (by omega), e803])
    · rw [k7, cl_mk, k4]
      obtain ⟨s3, t3, k, j1, j2, j3, j4, j5, j6, j7, j8, j9, j10⟩ := f_judge hv w k1 k2 k3
      have t2835 : gi t2 835 0 = 0 := k1.2.1.2.2.2.2.2.2.2.2.2
      rw [j1, cl_mk]
      unfold f_X9_read_100
      rw [if_pos t2835, j2, cl_mk]
      have gx3 : GX nv σ s3 := gx1.trans ((GX.qx hv k5).trans (GX.qx hv j3))
      have gm3 : GM nv τ t3 := gm1.trans ((GM.qm qm0).trans ((GM.qm k6).trans (GM.qm j4)))
      have t3803 : gi t3 803 0 = 0 := by rw [j4.1 _ _ (by omega), k6.1 _ _ (by omega), qm0.1 _ _ (by omega), e803]
      by_cases cb : 100000 ≤ k
      · -- a version more
        obtain ⟨d', a, b, w7⟩ := j10 cb
        obtain ⟨m1, m2⟩ := j5.1 cb
        rw [j6.1 cb, if_pos rfl]
        unfold f_X5_placeOfFault f_X9_read_131
        rw [cl_mk, m1, m2, if_pos j8]
        obtain ⟨s4, e4, u4, l4, _⟩ := lx_clear 0 (si s3 709 0 (-2))
        rw [e4, cl_mk, if_pos rfl]
        have gx4 : GX nv σ s4 := (gx3.trans (GX.sv (by omega) _ _)).trans (GX.ul0 u4)
        have gi4 : ∀ f i, ¬ ((f = 201 ∨ f = 202) ∧ i = 0) → f ≠ 709 → gi s4 f i = gi s3 f i := fun f i h1 h2 => by
          rw [u4.2.1 f i h1]
          simp only [gi_si, gi_sr, gi_sg, gi_sa, gr_si, rr_sr, gr_sg, gr_sa, ga_si, ga_sr, ga_sg, ga_sa, true_and, and_true, false_and, and_false, Nat.reduceEqDiff, ↓reduceIte]
          rw [if_neg (by omega)]
        have ga4 : ∀ f i, ¬ (f = 2 ∧ i = 0) → ga s4 f i = ga s3 f i := fun f i h1 => u4.2.2 f i h1
        have a4 : VX0 s4 nv d' := by
          obtain ⟨p1, p2, p3, p4, p5⟩ := a
          refine ⟨?_, ?_, ?_, fun j hj => ?_, fun r hr => RX.of' (fun f hf => gi4 _ _ (by omega) (by omega)) (fun i hi => ⟨gi4 _ _ (by omega) (by omega), ga4 _ _ (by omega)⟩) (p5 r hr)⟩
          · rw [gi4 _ _ (by omega) (by omega), p1]
          · rw [gi4 _ _ (by omega) (by omega), p2]
          · rw [gi4 _ _ (by omega) (by omega), p3]
          · obtain ⟨⟨c1, c2, c3, c4, c5, c6, c7⟩, c8, c9⟩ := p4 j hj
            refine ⟨⟨?_, ?_, ?_, ?_, ?_, LX_of c6 (gi4 _ _ (by omega) (by omega)) (ga4 _ _ (by omega)), LX_of c7 (gi4 _ _ (by omega) (by omega)) (ga4 _ _ (by omega))⟩, ?_, ?_⟩
            · rw [gi4 _ _ (by omega) (by omega), c1]
            · rw [gi4 _ _ (by omega) (by omega), c2]
            · rw [gi4 _ _ (by omega) (by omega), c3]
            · rw [gi4 _ _ (by omega) (by omega), c4]
            · rw [gi4 _ _ (by omega) (by omega), c5]
            · rw [gi4 _ _ (by omega) (by omega), c8]
            · rw [gi4 _ _ (by omega) (by omega), c9]
        obtain ⟨s5, s, z1, z2, z3, z4, z5, z6, z7⟩ := x_keep hv (by rw [gx4.2.2.1, h4.2.1]) a4 w7
        rw [z1, cl_mk]
        have gx5 : ∀ u, u < nv → KX u σ s5 := fun u hu => by
          refine (gx4.2.2.2 u (by omega) (by omega)).trans ⟨fun f hf => z3 _ _ (by omega), fun f g _ _ _ _ => z3 _ _ (by omega), fun f q _ _ _ => z3 _ _ (by omega), fun k' _ => ⟨z3 _ _ (by omega), z4 _ _ (by omega)⟩, z4 _ _ (by omega)⟩
        have e810 : gi t3 810 0 + 1 = nI (nv + 1) := by rw [gm3.1.2, h4.2.2.1, nI_1]
        rw [e810]
        have er : nI (nv + 1) - 1 = nI nv := nI_pred nv
        rw [er]
        refine ⟨s5, _, _, rfl, rfl, [], ou, nv + 1, _, ⟨LX_of l4 (z3 _ _ (by omega)) (z4 _ _ (by omega)), ?_, fun i hi => absurd hi (Nat.not_lt_zero _)⟩, ?_, ?_, RV_new h4 hv z5 (by simp only [gi_si, gi_sr, gi_sg, gi_sa, gr_si, rr_sr, gr_sg, gr_sa, ga_si, ga_sr, ga_sg, ga_sa, true_and, and_true, false_and, and_false, Nat.reduceEqDiff, ↓reduceIte]) gx5 (fun u hu => ?_) z7 (withS_VM (VM_si b)) (withS_VW w7 z6)⟩
        · simp only [gi_si, gi_sr, gi_sg, gi_sa, gr_si, rr_sr, gr_sg, gr_sa, ga_si, ga_sr, ga_sg, ga_sa, true_and, and_true, false_and, and_false, Nat.reduceEqDiff, ↓reduceIte]
          exact t3803
        · obtain ⟨q1, q2, q3, q4, q5⟩ := RO_g h2 gx4 gm3
          have e0 : gr s5 0 0 = gr s4 0 0 := by show s5.2.1 0 0 = s4.2.1 0 0; rw [z2]
          have e1 : gr s5 1 0 = gr s4 1 0 := by show s5.2.1 1 0 = s4.2.1 1 0; rw [z2]
          refine ⟨?_, ?_, q3, q4, by rw [e0, e1]; exact q5⟩
          · rw [e0]
            exact LX_of q1 (z3 _ _ (by omega)) (z4 _ _ (by omega))
          · simp only [gi_si, gi_sr, gi_sg, gi_sa, gr_si, rr_sr, gr_sg, gr_sa, ga_si, ga_sr, ga_sg, ga_sa, true_and, and_true, false_and, and_false, Nat.reduceEqDiff, ↓reduceIte]
            exact q2
        · rw [z3 _ _ (by omega), u4.2.1 _ _ (by omega)]
          simp only [gi_si, gi_sr, gi_sg, gi_sa, gr_si, rr_sr, gr_sg, gr_sa, ga_si, ga_sr, ga_sg, ga_sa, true_and, and_true, false_and, and_false, Nat.reduceEqDiff, ↓reduceIte]
          exact j9.symm
        · exact gm3.2.2 u (by omega)
      · -- a fault that was noted
        have hb : k < 100000 := by omega
        obtain ⟨m1, m2⟩ := j5.2 hb
        obtain ⟨n1, n2⟩ := j6.2 hb
        have hk0 := j7 hb
        rw [n1, n2, if_neg (show ¬ nI (k % 16) = 0 from fun e => hk0 ((ln_eq0 (by omega)).mp e))]
        obtain ⟨t4, f1, f2, f3⟩ := m_fails (τ := t3) (v := nv) (e := k % 16) (q := k / 16) j8 (by omega) (by omega)
        rw [f1, cl_mk, m1]
        exact bad s3 t4 (k % 16) (k / 16) (by omega) (by omega) gx3 (gm3.trans (GM.qm f3)) m2 f2.1 f2.2.1 (by rw [f3.1 _ _ (by omega), t3803])
