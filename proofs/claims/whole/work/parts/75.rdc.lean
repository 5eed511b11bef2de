/-! Reading: options with a path. -/
def qe (q : Nat → Nat → Nat) (j o tf n wd : Nat) : Nat → Nat → Nat := fun r i => if i = q 7 2 ∧ r < 5 then (if r = 0 then j else if r = 1 then o else if r = 2 then tf else if r = 3 then n else wd) else if r = 7 ∧ i = 2 then q 7 2 + 1 else q r i
section Rp
variable {σ τ σ' τ' : St} {v t : Nat} {d : Vd} {q q' : Nat → Nat → Nat} {tx : List Nat} {c : Nat} {ks ps ls : Nat → Nat} {j o tf n wd : Nat}
theorem qe_72 : qe q j o tf n wd 7 2 = q 7 2 + 1 := by
  unfold qe
  rw [if_neg (by omega), if_pos ⟨rfl, rfl⟩]
theorem qe_old {r i : Nat} (hi : i < q 7 2) (hr : r < 5) : qe q j o tf n wd r i = q r i := by
  unfold qe
  rw [if_neg (by omega), if_neg (by omega)]
theorem qe_oth {r i : Nat} (hr : 5 ≤ r) (h : ¬ (r = 7 ∧ i = 2)) : qe q j o tf n wd r i = q r i := by
  unfold qe
  rw [if_neg (by omega), if_neg h]
theorem qe_new {r : Nat} (hr : r < 5) : qe q j o tf n wd r (q 7 2) = (if r = 0 then j else if r = 1 then o else if r = 2 then tf else if r = 3 then n else wd) := by
  unfold qe
  rw [if_pos ⟨rfl, hr⟩]
theorem qe_f {i : Nat} (hi : i < q 7 2) : fstE (qe q j o tf n wd) i ↔ fstE q i := by
  unfold fstE
  constructor
  · intro h i' hi'
    have := h i' hi'
    rwa [qe_old (by omega) (by omega), qe_old (by omega) (by omega), qe_old (by omega) (by omega), qe_old (by omega) (by omega)] at this
  · intro h i' hi'
    rw [qe_old (by omega) (by omega), qe_old (by omega) (by omega), qe_old (by omega) (by omega), qe_old (by omega) (by omega)]
    exact h i' hi'
theorem qe_fn : fstE (qe q j o tf n wd) (q 7 2) ↔ ∀ i, i < q 7 2 → ¬ (q 0 i = j ∧ q 1 i = o) := by
  unfold fstE
  rw [qe_new (by omega), qe_new (by omega), if_pos rfl, if_neg (by omega), if_pos rfl]
  constructor
  · intro h i hi
    have := h i hi
    rwa [qe_old hi (by omega), qe_old hi (by omega)] at this
  · intro h i hi
    rw [qe_old hi (by omega), qe_old hi (by omega)]
    exact h i hi
theorem qe_ex {j' b : Nat} : (∃ i, i < qe q j o tf n wd 7 2 ∧ qe q j o tf n wd 0 i = j' ∧ qe q j o tf n wd 1 i = b) ↔ ((j = j' ∧ o = b) ∨ ∃ i, i < q 7 2 ∧ q 0 i = j' ∧ q 1 i = b) := by
  rw [qe_72]
  constructor
  · rintro ⟨i, h1, h2, h3⟩
    by_cases e : i = q 7 2
    · subst e
      rw [qe_new (by omega), if_pos rfl] at h2
      rw [qe_new (by omega), if_neg (by omega), if_pos rfl] at h3
      exact Or.inl ⟨h2, h3⟩
    · rw [qe_old (by omega) (by omega)] at h2 h3
      exact Or.inr ⟨i, by omega, h2, h3⟩
  · rintro (⟨rfl, rfl⟩ | ⟨i, h1, h2, h3⟩)
    · refine ⟨q 7 2, by omega, ?_, ?_⟩
      · rw [qe_new (by omega), if_pos rfl]
      · rw [qe_new (by omega), if_neg (by omega), if_pos rfl]
    · refine ⟨i, by omega, ?_, ?_⟩
      · rw [qe_old h1 (by omega), h2]
      · rw [qe_old h1 (by omega), h3]
/-- only the state's number has changed -/
def O9 (σ σ' : St) : Prop := σ'.2.1 = σ.2.1 ∧ (∀ f i, f ≠ 409 → gi σ' f i = gi σ f i) ∧ (∀ f i, ga σ' f i = ga σ f i)
theorem O9.s (σ : St) (x : Int32) : O9 σ (si σ 409 0 x) := ⟨rfl, fun f i h => by simp only [gi_si, gi_sr, gi_sg, gi_sa, gr_si, rr_sr, gr_sg, gr_sa, ga_si, ga_sr, ga_sg, ga_sa, true_and, and_true, false_and, and_false, Nat.reduceEqDiff, ↓reduceIte]; rw [if_neg (by omega)], fun _ _ => rfl⟩
theorem O9.trans {σ σ1 σ2 : St} (h : O9 σ σ1) (k : O9 σ1 σ2) : O9 σ σ2 := ⟨k.1.trans h.1, fun f i a => (k.2.1 f i a).trans (h.2.1 f i a), fun f i => (k.2.2 f i).trans (h.2.2 f i)⟩
theorem O9.sx (h : O9 σ σ') : SX σ σ' := ⟨fun i j _ => by show σ'.2.1 i j = σ.2.1 i j; rw [h.1], fun f i a => h.2.1 f i (by omega), fun f i _ => h.2.2 f i⟩
def O4 (τ τ' : St) : Prop := (∀ f i, f ≠ 834 → gi τ' f i = gi τ f i) ∧ (∀ f i, ga τ' f i = ga τ f i)
theorem O4.s (τ : St) (x : Int32) : O4 τ (si τ 834 0 x) := ⟨fun f i h => by simp only [gi_si, gi_sr, gi_sg, gi_sa, gr_si, rr_sr, gr_sg, gr_sa, ga_si, ga_sr, ga_sg, ga_sa, true_and, and_true, false_and, and_false, Nat.reduceEqDiff, ↓reduceIte]; rw [if_neg (by omega)], fun _ _ => rfl⟩
theorem O4.trans {σ σ1 σ2 : St} (h : O4 σ σ1) (k : O4 σ1 σ2) : O4 σ σ2 := ⟨fun f i a => (k.1 f i a).trans (h.1 f i a), fun f i => (k.2 f i).trans (h.2 f i)⟩
theorem O4.sm (h : O4 τ τ') : SM τ τ' := ⟨fun f i a => h.1 f i (by omega), fun f i x _ => by rw [h.2]⟩
def mPE (m : Nat) (τ : St) (u n : Nat) : Option (St × Int32) := if (ga τ 1 14 u) = 46 then f_X9_wantPath_49 (f_X9_wantPath_4 m) τ 1 (nI n) else f_X9_wantPath_48 (f_X9_wantPath_49 (f_X9_wantPath_4 m)) τ (nI n)
theorem path_loop (hv : v < 8) (w : TKW tx c ks ps ls) : ∀ (r u : Nat), u + r = c → ∀ (σ τ : St) (n : Nat), TKX σ tx c ks ps ls → TKM τ tx c ks ps ls → gi σ 409 0 = 9 → gi τ 834 0 = nI u → gi τ 835 0 = 0 → ∀ m, r + 1 < m → (∃ e qq τ' x, XF v σ (Rn σ u) e qq ∧ mPE m τ u n = some (τ', x) ∧ MF τ' e qq ∧ QM v τ τ') ∨ (∃ k s9 τ', u + 2 * k ≤ c ∧ ks (u + 2 * k) ≠ 46 ∧ (∀ i, i < k → ks (u + 2 * i) = 46 ∧ ks (u + 2 * i + 1) = 1 ∧ u + 2 * i + 1 < c) ∧ Rn σ u = Rn s9 (u + 2 * k) ∧ gi s9 409 0 = 9 ∧ O9 σ s9 ∧ mPE m τ u n = some (τ', nI (n + k)) ∧ gi τ' 834 0 = nI (u + 2 * k) ∧ O4 τ τ') := by
  have hc := w.cc
  intro r
  induction r using Nat.strongRecOn with
  | _ r ih =>
    intro u hu σ τ n hX hT h9 h4 h5 m hm
    have hk := w.kk (t := u) (by omega)
    have e14 : ga τ 1 14 u = nI (ks u) := (hT.2.2 u (by omega)).1
    by_cases c1 : ks u = 46
    · have hu1 : u < c := w.lt (by omega) (by omega)
      obtain ⟨m, rfl⟩ : ∃ m', m = m' + 1 := ⟨m - 1, by omega⟩
      -- the point
      have r1 : Rn σ u = Rn (si σ 409 0 8) (u + 1) := rn_ok hX w hu1 (by
        rw [xst_9 h9]
        unfold f_X5_stepInPath
        rw [x_kind hX w (by omega), cl_mk, c1, if_pos (show nI 46 = (46 : Int32) from rfl)]
        rfl)
      have X1 := (QX.sx (v := v) (O9.s σ 8).sx).tkx hv hX
      have T1 := (QM.sm (v := v) (O4.s τ (nI (u + 1))).sm).tkm hT
      have q1 : gi (si σ 409 0 8) 409 0 = 8 := by simp only [gi_si, gi_sr, gi_sg, gi_sa, gr_si, rr_sr, gr_sg, gr_sa, ga_si, ga_sr, ga_sg, ga_sa, true_and, and_true, false_and, and_false, Nat.reduceEqDiff, ↓reduceIte]
      have p1 : gi (si τ 834 0 (nI (u + 1))) 834 0 = nI (u + 1) := by simp only [gi_si, gi_sr, gi_sg, gi_sa, gr_si, rr_sr, gr_sg, gr_sa, ga_si, ga_sr, ga_sg, ga_sa, true_and, and_true, false_and, and_false, Nat.reduceEqDiff, ↓reduceIte]
      have o1 : gi (si τ 834 0 (nI (u + 1))) 835 0 = 0 := h5
      have e0 : mPE (m + 1) τ u n = cl (f_X9_want (si τ 834 0 (nI (u + 1))) 1) fun s1 _ => if (gi s1 835 0) = 0 then (ck (gi s1 834 0) 2001 fun j2 => if (ga s1 1 14 j2) = 46 then f_X9_wantPath_49 (f_X9_wantPath_4 m) s1 1 (nI (n + 1)) else f_X9_wantPath_48 (f_X9_wantPath_49 (f_X9_wantPath_4 m)) s1 (nI (n + 1))) else f_X9_wantPath_48 (f_X9_wantPath_49 (f_X9_wantPath_4 m)) s1 (nI (n + 1)) := by
        unfold mPE
        rw [e14, c1, if_pos (show nI 46 = (46 : Int32) from rfl)]
        rw [f_X9_wantPath_49, if_neg i10, h4, nI_1]
        simp only [bnd]
        rw [f_X9_wantPath_4.eq_2, if_neg i10, if_pos o1, nI_1]
      by_cases c2 : ks (u + 1) = 1
      · have hu2 : u + 1 < c := w.lt (by omega) (by omega)
        have wo : f_X9_want (si τ 834 0 (nI (u + 1))) 1 = _ := m_want_ok (k := 1) T1 w (show u + 1 ≤ c by omega) o1 p1 c2
        have T2 := (QM.sm (v := v) (O4.s (si τ 834 0 (nI (u + 1))) (nI (u + 1 + 1))).sm).tkm T1
        have p2 : gi (si (si τ 834 0 (nI (u + 1))) 834 0 (nI (u + 1 + 1))) 834 0 = nI (u + 2) := by simp only [gi_si, gi_sr, gi_sg, gi_sa, gr_si, rr_sr, gr_sg, gr_sa, ga_si, ga_sr, ga_sg, ga_sa, true_and, and_true, false_and, and_false, Nat.reduceEqDiff, ↓reduceIte]
        have o2 : gi (si (si τ 834 0 (nI (u + 1))) 834 0 (nI (u + 1 + 1))) 835 0 = 0 := h5
        have r2 : Rn (si σ 409 0 8) (u + 1) = Rn (si (si σ 409 0 8) 409 0 9) (u + 2) := rn_ok X1 w hu2 (by
          rw [xst_8 q1]
          exact x_exp_ok (k := 1) X1 w (by omega) c2 9)
        have X2 := (QX.sx (v := v) (O9.s (si σ 409 0 8) 9).sx).tkx hv X1
        have e1 : mPE (m + 1) τ u n = mPE m (si (si τ 834 0 (nI (u + 1))) 834 0 (nI (u + 1 + 1))) (u + 2) (n + 1) := by
          rw [e0, wo, cl_mk, if_pos o2, p2, ck_nI (by omega) (by omega)]
          rfl
        rcases ih (r - 2) (by omega) (u + 2) (by omega) (si (si σ 409 0 8) 409 0 9) (si (si τ 834 0 (nI (u + 1))) 834 0 (nI (u + 1 + 1))) (n + 1) X2 T2 (by simp only [gi_si, gi_sr, gi_sg, gi_sa, gr_si, rr_sr, gr_sg, gr_sa, ga_si, ga_sr, ga_sg, ga_sa, true_and, and_true, false_and, and_false, Nat.reduceEqDiff, ↓reduceIte]) p2 o2 m (by omega) with ⟨e, qq, τ', x, g1, g2, g3, g4⟩ | ⟨k, s9, τ', g1, g2, g3, g4, g5, g6, g7, g8, g9⟩
        · refine Or.inl ⟨e, qq, τ', x, ?_, by rw [e1, g2], g3, (QM.sm ((O4.s _ _).trans (O4.s _ _)).sm).trans g4⟩
          rw [r1, r2]
          exact g1.pre (QX.sx ((O9.s _ _).trans (O9.s _ _)).sx)
        · refine Or.inr ⟨k + 1, s9, τ', by omega, ?_, fun i hi => ?_, ?_, g5, ((O9.s _ _).trans (O9.s _ _)).trans g6, ?_, ?_, ((O4.s _ _).trans (O4.s _ _)).trans g9⟩
          · rw [show u + 2 * (k + 1) = u + 2 + 2 * k by omega]
            exact g2
          · by_cases e : i = 0
            · subst e
              exact ⟨c1, c2, by omega⟩
            · have := g3 (i - 1) (by omega)
              rw [show u + 2 + 2 * (i - 1) = u + 2 * i by omega] at this
              exact this
          · rw [r1, r2, g4]
            congr 1
            omega
          · rw [e1, g7]
            congr 3
            omega
          · rw [g8]
            congr 1
            omega
      · obtain ⟨s17, f1, f2, f3⟩ := m_want_bad (v := v) (k := 1) T1 w (show u + 1 ≤ c by omega) o1 p1 c2 (by omega)
        have f1 : f_X9_want _ 1 = _ := f1
        refine Or.inl ⟨2, ps (u + 1), s17, nI (n + 1), ?_, ?_, f2, (QM.sm (O4.s _ _).sm).trans f3⟩
        · rw [r1]
          refine XF.pre ?_ (QX.sx (O9.s σ 8).sx)
          refine rn_want hv X1 w (by omega) (Or.inl (n409 q1 (by decide))) (fun hlt => ⟨_, ?_, QX.refl' v _⟩)
          rw [xst_8 q1]
          exact x_exp_no (k := 1) X1 w (by omega) c2 (by omega) 9
        · obtain ⟨m, rfl⟩ : ∃ m', m = m' + 1 := ⟨m - 1, by omega⟩
          rw [e0, f1, cl_mk, if_neg f2.no]
          rw [f_X9_wantPath_48, f_X9_wantPath_49, if_pos rfl, f_X9_wantPath_4.eq_2, if_pos rfl]
    · refine Or.inr ⟨0, σ, τ, by omega, c1, fun i hi => absurd hi (Nat.not_lt_zero _), rfl, h9, ⟨rfl, fun _ _ _ => rfl, fun _ _ => rfl⟩, ?_, h4, ⟨fun _ _ _ => rfl, fun _ _ => rfl⟩⟩
      obtain ⟨m, rfl⟩ : ∃ m', m = m' + 1 := ⟨m - 1, by omega⟩
      unfold mPE
      rw [e14, if_neg (show ¬ nI (ks u) = (46 : Int32) from fun e => c1 ((ln_eq (b := 46) (by omega) (by omega)).mp e))]
      rw [f_X9_wantPath_48, f_X9_wantPath_49, if_pos rfl, f_X9_wantPath_4.eq_2, if_pos rfl]
      rfl
end Rp
