/-! Reading: a field's head. -/
def mTail (σ : St) (v1 v2 v3 : Int32) : Option (St × Unit) :=
      ck v1 8 fun j15 =>
      ck v1 8 fun j16 =>
      bnd (sa σ 1 0 j16 ((ga σ 1 0 j15) + 1)) fun s17 =>
      bnd (si s17 834 0 ((gi s17 834 0) + 1)) fun s18 =>
      cl (f_X9_want s18 58) fun s19 _u203 =>
      cl (f_X9_wantKind s19) fun s20 x21 =>
      ck v3 320 fun j22 =>
      bnd (sa s20 1 4 j22 x21) fun s23 =>
      if (gi s23 835 0) = 0 then (
        ck (gi s23 834 0) 2001 fun j24 =>
        if (ga s23 1 14 j24) = 40 then (
          bnd (si s23 834 0 ((gi s23 834 0) + 1)) fun s25 =>
          cl (f_X9_option s25 v3 v2) fun s26 _u250 =>
          f_X9_field_253 (f_X9_field_299) fl s26 v2 v3
        ) else (
          f_X9_field_299 s23 v2 v3
        )
      ) else (
        f_X9_field_299 s23 v2 v3
      )
section R6
variable {σ τ σ' τ' : St} {v t : Nat} {d : Vd} {q : Nat → Nat → Nat} {tx : List Nat} {c : Nat} {ks ps ls : Nat → Nat}
/-- the holder of the next field, its path -/
def HP (d : Vd) (q : Nat → Nat → Nat) (N P : List Nat) (H : Option Nat) : Prop := (H = none ∧ q 7 0 = 0 ∧ P = N) ∨ ∃ h, H = some h ∧ h < vn d ∧ q 7 0 ≠ 0 ∧ q 6 (q 7 0 - 1) = h ∧ P = nP d h ++ 46 :: N ∧ vd d h + 1 = q 7 0
theorem HP.ex (cw : CW c ks ps t d q) (N : List Nat) : ∃ P H, HP d q N P H := by
  by_cases h : q 7 0 = 0
  · exact ⟨N, none, Or.inl ⟨rfl, h, rfl⟩⟩
  · obtain ⟨b1, b2, _⟩ := cw.2.2.2.2.1 (q 7 0 - 1) (by omega)
    exact ⟨_, some (q 6 (q 7 0 - 1)), Or.inr ⟨_, rfl, b1, h, rfl, rfl, by omega⟩⟩
def tkk (d : Vd) (q : Nat → Nat → Nat) (H : Option Nat) (N : List Nat) (p : Nat) : Nat := if (fm (twp d H N) (vn d) 0).isSome = true then min (q 7 3) (16 * p + 4) else q 7 3
theorem x_fname (hv : v < 8) (h : CX σ v d q) (cw : CW c ks ps t d q) (hX : TKX σ tx c ks ps ls) (w : TKW tx c ks ps ls) (ht : t < c) (hk : ks t = 1) (hn : vn d < 40) {P : List Nat} {H : Option Nat} (hp : HP d q (wrd tx (ps t) (ls t)) P H) : ∃ σ', f_X5_stepFieldName σ (nI t) = some (σ', 0) ∧ ZF v (40 * v + vn d) σ σ' ∧ gi σ' 409 0 = 1 ∧ gr σ' 3 0 = 40 * v + vn d ∧ gi σ' 411 0 = nI t ∧ gi σ' 603 v = nI (vn d + 1) ∧ FXc σ' (40 * v + vn d) 0 0 none H (q 7 0) P [] none none ∧ KXn σ' (tkk d q H (wrd tx (ps t) (ls t)) (ps t)) ∧ gi σ' 410 0 = gi σ 410 0 ∧ gi σ' 414 0 = gi σ 414 0 ∧ (∀ i, ga σ' 8 i = ga σ 8 i) := by
  obtain ⟨a1, a2, a3, a4, a5, a6, a7⟩ := h
  obtain ⟨⟨_, _, _, d4⟩, wt, _, _, _, _, _, hz, _⟩ := cw
  have hc := w.cc
  have hps := w.pp (t := t) (by omega)
  have h12 := (w.nm (t := t) (by omega) hk).2.1
  have hx := w.2.2.2.2
  have lw := w.len (t := t) (by omega)
  -- the start of the field
  have e44 : f_X5_stepFieldName σ (nI t) = f_X5_stepFieldName_44 σ v (nI (vn d)) (oI H) (nI t) (nI (vn d)) := by
    unfold f_X5_stepFieldName
    rw [a1, a2.1, if_pos (show nI (vn d) < (40 : Int32) from (ln_lt (b := 40) (by omega) (by omega)).mpr hn), a3]
    rcases hp with ⟨rfl, h0, rfl⟩ | ⟨h, rfl, hh, h0, h1, rfl, hd⟩
    · rw [h0, if_pos (by decide)]
      rfl
    · rw [if_neg (fun e => h0 ((ln_le0 (by omega)).mp e)), ln_pred (by omega), show lenX 11 = 4 from rfl, ck_nI (by omega) (by omega), a4 _ (by omega), h1]
      rfl
  obtain ⟨P0, hP0⟩ : ∃ P0, P0 = (match H with | none => [] | some h => nP d h ++ [46]) := ⟨_, rfl⟩
  obtain ⟨s1, e1, u1, f1, o1, o2⟩ := x_beginF (σ := σ) (v := v) (j := vn d) (H := H) (D' := q 7 0) (P' := P0) hv hn (by
    rcases hp with ⟨rfl, h0, rfl⟩ | ⟨h, rfl, hh, h0, h1, rfl, hd⟩
    · exact Or.inl ⟨rfl, h0, hP0⟩
    · have hl := path_len wt h hh
      exact Or.inr ⟨h, vd d h, nP d h, rfl, hh, (a2.2.2.2.1 h hh).1.2.2.2.2.1, (a2.2.2.2.1 h hh).1.2.2.2.2.2.1, by omega, by omega, hP0⟩)
  have hPP : P0 ++ wrd tx (ps t) (ls t) = P ∧ P.length ≤ 64 := by
    rcases hp with ⟨rfl, h0, rfl⟩ | ⟨h, rfl, hh, h0, h1, rfl, hd⟩
    · rw [hP0]
      exact ⟨rfl, by omega⟩
    · have hl := path_len wt h hh
      rw [hP0]
      refine ⟨by simp, ?_⟩
      rw [List.length_append, List.length_cons]
      omega
  have z1 : ZF v (40 * v + vn d) σ s1 := ZF.uf u1
  have z2 : SX s1 (si (sr s1 3 0 (40 * v + vn d)) 411 0 (nI t)) := (SX.sr (by omega) s1).trans (SX.si (by omega) _ _)
  have z12 := z1.trans (ZF.sx z2)
  have q12 := QX.zf hn z12
  have X2 := q12.tkx hv hX
  have ow : OW (si (sr s1 3 0 (40 * v + vn d)) 411 0 (nI t)) (5 + 2 * (40 * v + vn d)) P0 := Or.inl ⟨o1, f1.1.2.2.2.2.2.1⟩
  obtain ⟨s3, e3, u3, w3⟩ := ow_tok ow X2 w ht
  rw [hPP.1] at w3
  have l3 := w3.lx (by rw [cap5 (by omega)]; exact hPP.2)
  have z3 : ZF v (40 * v + vn d) (si (sr s1 3 0 (40 * v + vn d)) 411 0 (nI t)) s3 := ZF.uf (UF.ul (Or.inl rfl) u3)
  have z13 := z12.trans z3
  have f3 : FXc s3 (40 * v + vn d) 0 0 none H (q 7 0) P [] none none := by
    obtain ⟨⟨b1, b2, b3, b4, b5, b6, b7⟩, b8, b9⟩ := f1.sx z2
    refine ⟨⟨?_, ?_, ?_, ?_, ?_, l3, u3.lx (by omega) b7⟩, ?_, ?_⟩
    · rw [u3.2.1 _ _ (by omega), b1]
    · rw [u3.2.1 _ _ (by omega), b2]
    · rw [u3.2.1 _ _ (by omega), b3]
    · rw [u3.2.1 _ _ (by omega), b4]
    · rw [u3.2.1 _ _ (by omega), b5]
    · rw [u3.2.1 _ _ (by omega), b8]
    · rw [u3.2.1 _ _ (by omega), b9]
  have g2 : gr s3 2 0 = v := by rw [z13.1 2 0 (by omega), a1]
  have g3 : gr s3 3 0 = 40 * v + vn d := by
    rw [u3.gr]
    simp only [gi_si, gi_sr, gi_sg, gi_sa, gr_si, rr_sr, gr_sg, gr_sa, ga_si, ga_sr, ga_sg, ga_sa, true_and, and_true, false_and, and_false, Nat.reduceEqDiff, ↓reduceIte]
  have v3 : VX0 s3 v d := by
    obtain ⟨h1, h2, h3, h4, h5⟩ := a2
    have uf : UF (40 * v + vn d) σ s1 := u1
    refine ⟨?_, ?_, ?_, fun j hj => (h4 j hj).zf z13 (by omega) (by omega) (by omega), fun r hr => RX.of' (fun f hf => z13.2.1 _ _ (by omega)) (fun i hi => ⟨z13.2.1 _ _ (by omega), z13.2.2 _ _ (by omega) (by omega)⟩) (h5 r hr)⟩
    · rw [u3.2.1 _ _ (by omega)]
      simp only [gi_si, gi_sr, gi_sg, gi_sa, gr_si, rr_sr, gr_sg, gr_sa, ga_si, ga_sr, ga_sg, ga_sa, true_and, and_true, false_and, and_false, Nat.reduceEqDiff, ↓reduceIte]
      rw [u1.2.1 _ _ (by omega), h1]
    · rw [z13.2.1 _ _ (by omega), h2]
    · rw [z13.2.1 _ _ (by omega), h3]
  have hH : (H = none ∧ P = wrd tx (ps t) (ls t)) ∨ ∃ h, H = some h ∧ h < vn d ∧ P = nP d h ++ 46 :: wrd tx (ps t) (ls t) := by
    rcases hp with ⟨e, _, e'⟩ | ⟨h, e, hh, _, _, e', _⟩
    · exact Or.inl ⟨e, e'⟩
    · exact Or.inr ⟨h, e, hh, e'⟩
  have tw : f_X5_isNameTwice s3 (nI (vn d)) = some (s3, bI (fm (twp d H (wrd tx (ps t) (ls t))) (vn d) 0).isSome) := x_twice (D := 0) hv hn wt v3 g2 g3 f3.1.2.2.2.1 f3.1.2.2.2.2.2.1 hH (vn d) 0 (by omega) fl (by have := fl_big; omega)
  have X3 := (QX.zf hn z3).tkx hv X2
  have k3 : KXn s3 (q 7 3) := by
    unfold KXn
    rw [u3.2.1 _ _ (by omega), u3.2.1 _ _ (by omega)]
    simp only [gi_si, gi_sr, gi_sg, gi_sa, gr_si, rr_sr, gr_sg, gr_sa, ga_si, ga_sr, ga_sg, ga_sa, true_and, and_true, false_and, and_false, Nat.reduceEqDiff, ↓reduceIte]
    rw [u1.2.1 _ _ (by omega), u1.2.1 _ _ (by omega)]
    exact a6
  -- the end of the step
  have fin : ∀ s4 k, SX s3 s4 → gr s4 3 0 = gr s3 3 0 → (∀ f, f = 410 ∨ f = 411 ∨ f = 414 → gi s4 f 0 = gi s3 f 0) → (∀ f i, ga s4 f i = ga s3 f i) → KXn s4 k → ∃ σ', f_X5_stepFieldName_101 s4 = some (σ', 0) ∧ ZF v (40 * v + vn d) σ σ' ∧ gi σ' 409 0 = 1 ∧ gr σ' 3 0 = 40 * v + vn d ∧ gi σ' 411 0 = nI t ∧ gi σ' 603 v = nI (vn d + 1) ∧ FXc σ' (40 * v + vn d) 0 0 none H (q 7 0) P [] none none ∧ KXn σ' k ∧ gi σ' 410 0 = gi σ 410 0 ∧ gi σ' 414 0 = gi σ 414 0 ∧ (∀ i, ga σ' 8 i = ga σ 8 i) := by
    intro s4 k sx hg hf hga hk4
    have g4 : gr s4 2 0 = v := by rw [sx.1 2 0 (by omega), g2]
    have n4 : gi s4 603 v + 1 = nI (vn d + 1) := by rw [sx.2.1 _ _ (by omega), v3.1, nI_1]
    unfold f_X5_stepFieldName_101
    rw [g4, n4]
    simp only [bnd]
    have zz : ZF v (40 * v + vn d) s4 (si (si s4 603 v (nI (vn d + 1))) 409 0 1) := (ZF.s3 s4 _).trans (ZF.sx (SX.si (by omega) _ _))
    refine ⟨_, rfl, (z13.trans (ZF.sx sx)).trans zz, by simp only [gi_si, gi_sr, gi_sg, gi_sa, gr_si, rr_sr, gr_sg, gr_sa, ga_si, ga_sr, ga_sg, ga_sa, true_and, and_true, false_and, and_false, Nat.reduceEqDiff, ↓reduceIte], ?_, ?_, by simp only [gi_si, gi_sr, gi_sg, gi_sa, gr_si, rr_sr, gr_sg, gr_sa, ga_si, ga_sr, ga_sg, ga_sa, true_and, and_true, false_and, and_false, Nat.reduceEqDiff, ↓reduceIte], ?_, ?_, ?_, ?_, fun i => ?_⟩
    · simp only [gi_si, gi_sr, gi_sg, gi_sa, gr_si, rr_sr, gr_sg, gr_sa, ga_si, ga_sr, ga_sg, ga_sa, true_and, and_true, false_and, and_false, Nat.reduceEqDiff, ↓reduceIte]
      rw [hg, g3]
    · simp only [gi_si, gi_sr, gi_sg, gi_sa, gr_si, rr_sr, gr_sg, gr_sa, ga_si, ga_sr, ga_sg, ga_sa, true_and, and_true, false_and, and_false, Nat.reduceEqDiff, ↓reduceIte]
      rw [hf _ (by omega), u3.2.1 _ _ (by omega)]
      simp only [gi_si, gi_sr, gi_sg, gi_sa, gr_si, rr_sr, gr_sg, gr_sa, ga_si, ga_sr, ga_sg, ga_sa, true_and, and_true, false_and, and_false, Nat.reduceEqDiff, ↓reduceIte]
    · obtain ⟨⟨b1, b2, b3, b4, b5, b6, b7⟩, b8, b9⟩ := f3.sx sx
      refine ⟨⟨?_, ?_, ?_, ?_, ?_, LX_of b6 ?_ rfl, LX_of b7 ?_ rfl⟩, ?_, ?_⟩
      all_goals simp only [gi_si, gi_sr, gi_sg, gi_sa, gr_si, rr_sr, gr_sg, gr_sa, ga_si, ga_sr, ga_sg, ga_sa, true_and, and_true, false_and, and_false, Nat.reduceEqDiff, ↓reduceIte]
      · exact b1
      · exact b2
      · exact b3
      · exact b4
      · exact b5
      · exact b8
      · exact b9
    · unfold KXn
      simp only [gi_si, gi_sr, gi_sg, gi_sa, gr_si, rr_sr, gr_sg, gr_sa, ga_si, ga_sr, ga_sg, ga_sa, true_and, and_true, false_and, and_false, Nat.reduceEqDiff, ↓reduceIte]
      exact hk4
    · simp only [gi_si, gi_sr, gi_sg, gi_sa, gr_si, rr_sr, gr_sg, gr_sa, ga_si, ga_sr, ga_sg, ga_sa, true_and, and_true, false_and, and_false, Nat.reduceEqDiff, ↓reduceIte]
      rw [hf _ (by omega), u3.2.1 _ _ (by omega)]
      simp only [gi_si, gi_sr, gi_sg, gi_sa, gr_si, rr_sr, gr_sg, gr_sa, ga_si, ga_sr, ga_sg, ga_sa, true_and, and_true, false_and, and_false, Nat.reduceEqDiff, ↓reduceIte]
      rw [u1.2.1 _ _ (by omega)]
    · simp only [gi_si, gi_sr, gi_sg, gi_sa, gr_si, rr_sr, gr_sg, gr_sa, ga_si, ga_sr, ga_sg, ga_sa, true_and, and_true, false_and, and_false, Nat.reduceEqDiff, ↓reduceIte]
      rw [hf _ (by omega), u3.2.1 _ _ (by omega)]
      simp only [gi_si, gi_sr, gi_sg, gi_sa, gr_si, rr_sr, gr_sg, gr_sa, ga_si, ga_sr, ga_sg, ga_sa, true_and, and_true, false_and, and_false, Nat.reduceEqDiff, ↓reduceIte]
      rw [u1.2.1 _ _ (by omega)]
    · simp only [gi_si, gi_sr, gi_sg, gi_sa, gr_si, rr_sr, gr_sg, gr_sa, ga_si, ga_sr, ga_sg, ga_sa, true_and, and_true, false_and, and_false, Nat.reduceEqDiff, ↓reduceIte]
      rw [hga, u3.2.2 _ _ (by omega)]
      simp only [gi_si, gi_sr, gi_sg, gi_sa, gr_si, rr_sr, gr_sg, gr_sa, ga_si, ga_sr, ga_sg, ga_sa, true_and, and_true, false_and, and_false, Nat.reduceEqDiff, ↓reduceIte]
      rw [u1.2.2 _ _ (by omega)]
  rw [e44]
  unfold f_X5_stepFieldName_44
  rw [e1, cl_mk, ck_nI hn (by omega)]
  have gs1 : gr s1 2 0 = v := by rw [z1.1 2 0 (by omega), a1]
  rw [gs1]
  simp only [bnd]
  rw [show gr (si (sr s1 3 0 (40 * v + vn d)) 411 0 (nI t)) 3 0 = 40 * v + vn d by simp only [gi_si, gi_sr, gi_sg, gi_sa, gr_si, rr_sr, gr_sg, gr_sa, ga_si, ga_sr, ga_sg, ga_sa, true_and, and_true, false_and, and_false, Nat.reduceEqDiff, ↓reduceIte], e3, cl_mk, tw, cl_mk]
  unfold tkk
  cases ei : (fm (twp d H (wrd tx (ps t) (ls t))) (vn d) 0).isSome with
  | false =>
    rw [if_pos (show bI false = 0 from rfl), if_neg (by decide)]
    exact fin s3 _ (SX.refl' s3) rfl (fun _ _ => rfl) (fun _ _ => rfl) k3
  | true =>
    rw [if_neg (show ¬ bI true = 0 from i10), if_pos rfl, x_place X3 w (by omega), cl_mk]
    obtain ⟨s4, e4, k4, h1, h2, h3⟩ := x_blame (e := 4) (p := ps t) k3 hz (by omega) (by omega) (by omega)
    have e4 : f_X5_blame s3 4 (nI (ps t)) = _ := e4
    rw [e4, cl_mk]
    exact fin s4 _ (SX.bl h1 h2 h3) (by show s4.2.1 3 0 = s3.2.1 3 0; rw [h1]) (fun f hf => h2 _ _ (by omega)) h3 k4
end R6
