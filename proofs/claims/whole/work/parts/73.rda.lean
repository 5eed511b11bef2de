/-! Reading: options without a path. -/
def mO17 (s17 : St) (v1 v2 v3 v4 : Int32) : Option (St × Unit) :=
    if v3 = 3 then (
      cl (f_X9_want s17 2) fun s36 _u144 =>
      if (gi s36 835 0) = 0 then (
        cl (f_X9_number s36 (gi s17 834 0)) fun s37 x38 =>
        ck v1 320 fun j39 =>
        bnd (sa s37 1 6 j39 x38) fun s40 =>
        ck v1 320 fun j41 =>
        if (ga s40 1 4 j41) = 4 then (
          ck v1 320 fun j42 =>
          if (ga s40 1 6 j42) ≤ 1 then (
            some (s40, ())
          ) else (
            ck (gi s17 834 0) 2001 fun j43 =>
            cl (f_X9_note s40 5 (ga s40 1 15 j43)) fun s44 _u195 =>
            some (s44, ())
          )
        ) else (
          some (s40, ())
        )
      ) else (
        some (s36, ())
      )
    ) else (
      if v3 = 5 then (
        cl (f_X9_want s17 1) fun s31 _u208 =>
        if (gi s31 835 0) = 0 then (
          ck (gi s17 834 0) 2001 fun j32 =>
          ck v1 320 fun j33 =>
          bnd (sa s31 1 9 j33 (ga s31 1 16 j32)) fun s34 =>
          cl (f_X9_copyName s34 (gi s17 834 0) 4 (12 * v1)) fun s35 _u242 =>
          some (s35, ())
        ) else (
          some (s31, ())
        )
      ) else (
        cl (f_X9_wantPath s17) fun s18 x19 =>
        if (gi s18 835 0) = 0 then (
          ck (gi s18 838 0) 700 fun j20 =>
          bnd (sa s18 1 17 j20 v2) fun s21 =>
          ck (gi s21 838 0) 700 fun j22 =>
          bnd (sa s21 1 18 j22 v3) fun s23 =>
          ck (gi s23 838 0) 700 fun j24 =>
          bnd (sa s23 1 19 j24 (gi s17 834 0)) fun s25 =>
          ck (gi s25 838 0) 700 fun j26 =>
          bnd (sa s25 1 20 j26 x19) fun s27 =>
          ck (gi s27 838 0) 700 fun j28 =>
          bnd (sa s27 1 21 j28 v4) fun s29 =>
          bnd (si s29 838 0 ((gi s29 838 0) + 1)) fun s30 =>
          some (s30, ())
        ) else (
          some (s18, ())
        )
      )
    )
theorem mO93_eq (s16 : St) (v1 v2 v3 v4 : Int32) : mO93 s16 v1 v2 v3 v4 = if 3 ≤ v3 then (cl (f_X9_want s16 61) fun s17 _ => mO17 s17 v1 v2 v3 v4) else some (s16, ()) := rfl
section Rb
variable {σ τ σ' τ' : St} {v t : Nat} {d : Vd} {q q' : Nat → Nat → Nat} {tx : List Nat} {c : Nat} {ks ps ls : Nat → Nat}
theorem mO17_no {e qq : Nat} (h : MF τ e qq) (v1 v2 v3 v4 : Int32) : mO17 τ v1 v2 v3 v4 = some (τ, ()) := by
  have hp : f_X9_wantPath τ = some (τ, 0) := by
    unfold f_X9_wantPath
    rw [show fl = 20099 + 1 from rfl, f_X9_wantPath_4.eq_2, if_neg i10, if_neg h.no]
  unfold mO17
  rw [m_want_no h, m_want_no h, hp]
  simp only [cl_mk]
  rw [if_neg h.no, if_neg h.no, if_neg h.no]
  split
  · rfl
  · split <;> rfl
theorem FW_sF {j o : Nat} {z : Option Nat} {B : List Nat} (h : FW d q j) (ho : o < 7) (hz : (o = 3 ∧ ∃ n, z = some n ∧ n < 1000000) ∨ (o ≠ 3 ∧ z = oZ d j)) (hB : (o = 5 ∧ Nm B) ∨ (o ≠ 5 ∧ B = nB d j)) (h4 : (∃ i, i < q' 7 2 ∧ q' 0 i = j ∧ q' 1 i = 4) ↔ (o = 4 ∨ ∃ i, i < q 7 2 ∧ q 0 i = j ∧ q 1 i = 4)) (h6 : (∃ i, i < q' 7 2 ∧ q' 0 i = j ∧ q' 1 i = 6) ↔ (o = 6 ∨ ∃ i, i < q 7 2 ∧ q 0 i = j ∧ q 1 i = 6)) : FW (sF d j (vk d j) (vo d j ||| 2 ^ o) z B) q' j := by
  obtain ⟨b1, b2, b3, b4, b5, b6, b7, b8, b9, b10⟩ := h
  have dK : vk (sF d j (vk d j) (vo d j ||| 2 ^ o) z B) j = vk d j := if_pos rfl
  have dO : vo (sF d j (vk d j) (vo d j ||| 2 ^ o) z B) j = vo d j ||| 2 ^ o := if_pos rfl
  have dB : nB (sF d j (vk d j) (vo d j ||| 2 ^ o) z B) j = B := if_pos rfl
  have dZ : oZ (sF d j (vk d j) (vo d j ||| 2 ^ o) z B) j = z := if_pos rfl
  unfold FW
  rw [dK, dO, dB, dZ, orB _ b2 o ho 3 (by omega), orB _ b2 o ho 4 (by omega), orB _ b2 o ho 5 (by omega), orB _ b2 o ho 6 (by omega), h4, h6]
  refine ⟨b1, (orT _ b2 o ho).2, ?_, b4, b5, ?_, ?_, ?_, ?_, ?_⟩
  · rcases hB with ⟨_, hB⟩ | ⟨_, hB⟩
    · exact Or.inr hB
    · rw [hB]
      exact b3
  · rcases hz with ⟨_, n, hz, hn⟩ | ⟨_, hz⟩
    · intro z' hz'
      rw [hz] at hz'
      cases hz'
      exact hn
    · rw [hz]
      exact b6
  · rcases hz with ⟨ho', n, hz, hn⟩ | ⟨ho', hz⟩
    · rw [if_pos ho'.symm, hz]
      simp
    · rw [if_neg (Ne.symm ho'), hz]
      exact b7
  · rcases hB with ⟨ho', hB⟩ | ⟨ho', hB⟩
    · rw [if_pos ho'.symm]
      have : B ≠ [] := fun e => by
        have := hB.1
        rw [e] at this
        simp at this
      simp [this]
    · rw [if_neg (Ne.symm ho'), hB]
      exact b8
  · by_cases e : o = 4
    · rw [if_pos e.symm]
      simp [e]
    · rw [if_neg (Ne.symm e)]
      simp only [e, false_or]
      exact b9
  · by_cases e : o = 6
    · rw [if_pos e.symm]
      simp [e]
    · rw [if_neg (Ne.symm e)]
      simp only [e, false_or]
      exact b10
theorem ok5_le {j o p : Nat} : ok5 d q j o p ≤ q 7 3 := by
  unfold ok5
  split <;> omega
theorem ok5_kz {j o p : Nat} (h : kz (q 7 3)) : kz (ok5 d q j o p) := by
  unfold ok5
  split
  · exact kz_min h (by omega) (by omega)
  · exact h
theorem ok5_6 {j o k' p : Nat} (cw : CW c ks ps t d q) (hj : j < vn d) (ho : o < 7) (hp : p ≤ 2000) (hk : k' ≤ ok5 d q j o p) : 100000 ≤ k' → bt (vo d j ||| 2 ^ o) 6 = 1 → vk d j = 7 := by
  intro hb hh
  obtain ⟨_, _, _, _, _, fw, a7, _⟩ := cw
  have f2 := (fw j hj).2.1
  rw [orB _ f2 o ho 6 (by omega)] at hh
  by_cases e : o = 6
  · unfold ok5 at hk
    by_cases c1 : bt (vo d j) o = 1 ∨ mayH (vk d j) o = false
    · rw [if_pos c1] at hk
      omega
    · have : mayH (vk d j) o = true := by
        cases h : mayH (vk d j) o with
        | true => rfl
        | false => exact absurd (Or.inr h) c1
      rw [e] at this
      exact of_decide_eq_true this
  · rw [if_neg (Ne.symm e)] at hh
    have := ok5_le (d := d) (q := q) (j := j) (o := o) (p := p)
    exact (a7 (by omega)).2 j hj hh
theorem EX_k {k : Nat} (h : EX σ q) (h3 : ∀ i, i = 12 ∨ i = 13 ∨ i = 14 → ga σ' 8 i = ga σ 8 i) : EX σ' (qs q 7 3 k) := by
  unfold EX fstE at *
  simp (disch := omega) only [qs_o]
  rw [h3 12 (by omega), h3 13 (by omega), h3 14 (by omega)]
  exact h
theorem CWe_k {k : Nat} (h : CWe c ks ps d q) (hk : k ≤ q 7 3) : CWe c ks ps d (qs q 7 3 k) := by
  unfold CWe fstE at *
  simp (disch := omega) only [qs_o, qs_s]
  intro i hi
  obtain ⟨b1, b2, b3, b4, b5, b6, b7, b8⟩ := h i hi
  exact ⟨b1, b2, b3, b4, b5, b6, b7, fun hh => by have := b8 hh; omega⟩
/-- an option's outcome -/
def OPT (v : Nat) (tx : List Nat) (c : Nat) (ks ps ls : Nat → Nat) (σ τ : St) (t : Nat) (d : Vd) : Prop := BD v σ τ (Rn σ t) (f_X9_option τ (nI (40 * v + (vn d - 1))) (nI (vn d - 1))) ∨ ∃ σ' τ' t' d' q', t < t' ∧ vn d' = vn d ∧ PI v tx c ks ps ls σ' τ' t' d' q' ∧ CU v c σ' τ' d' q' ∧ (gi σ' 409 0 = 7 ∨ (gi σ' 409 0 = 9 ∧ ks t' ≠ 46)) ∧ Rn σ t = Rn σ' t' ∧ QX v σ σ' ∧ QM v τ τ' ∧ f_X9_option τ (nI (40 * v + (vn d - 1))) (nI (vn d - 1)) = some (τ', ())
/-- how an option without a path ends -/
theorem opt_fin (hv : v < 8) (w : TKW tx c ks ps ls) (p : PI v tx c ks ps ls σ τ t d q) (cu : CU v c σ τ d q) {o t' k : Nat} {z : Option Nat} {B : List Nat} (ho7 : o < 7) (ho : o ≠ 4 ∧ o ≠ 6) (htt : t < t') (htc : t' ≤ c) (zx : ZF v (40 * v + (vn d - 1)) σ σ') (zm : ZFm v (40 * v + (vn d - 1)) τ τ') (h9 : gi σ' 409 0 = 7) (h3 : gr σ' 3 0 = gr σ 3 0) (g : ∀ f i, f = 603 ∨ f = 410 ∨ f = 411 ∨ f = 414 → gi σ' f i = gi σ f i) (g8 : ∀ i, 11 ≤ i → i ≤ 14 → ga σ' 8 i = ga σ 8 i) (kx : KXn σ' k) (fx : FXc σ' (40 * v + (vn d - 1)) (vk d (vn d - 1)) (vo d (vn d - 1) ||| 2 ^ o) z (oH d (vn d - 1)) (vd d (vn d - 1)) (nP d (vn d - 1)) B (oC d (vn d - 1)) (oO d (vn d - 1))) (m4 : gi τ' 834 0 = nI t') (gm : ∀ f i, f = 847 ∨ f = 844 ∨ f = 809 ∨ f = 835 ∨ f = 838 → gi τ' f i = gi τ f i) (am : ∀ i, i = 0 ∨ 17 ≤ i → ga τ' 1 i = ga τ 1 i) (km : KMn τ' k) (fm' : FMc τ' (40 * v + (vn d - 1)) (vk d (vn d - 1)) (vo d (vn d - 1) ||| 2 ^ o) z (oH d (vn d - 1)) (nN d (vn d - 1)) B (oC d (vn d - 1)) (oO d (vn d - 1))) (hz : (o = 3 ∧ ∃ n, z = some n ∧ n < 1000000) ∨ (o ≠ 3 ∧ z = oZ d (vn d - 1))) (hB : (o = 5 ∧ Nm B) ∨ (o ≠ 5 ∧ B = nB d (vn d - 1))) (hk : k ≤ ok5 d q (vn d - 1) o (ps t)) (hkz : kz k) (hr : Rn σ t = Rn σ' t') (he : f_X9_option τ (nI (40 * v + (vn d - 1))) (nI (vn d - 1)) = some (τ', ())) : OPT v tx c ks ps ls σ τ t d := by
  obtain ⟨px, pm, cw, hX, hT, h4, _⟩ := p
  obtain ⟨c0, c1, c2, tk, c3, c4, c5⟩ := cu
  have d40 := cw.1.1
  have hj : vn d - 1 < vn d := by omega
  have hk' : k ≤ q 7 3 := Nat.le_trans hk ok5_le
  have hps := w.pp (t := t) (by omega)
  have hx := w.2.2.2.2
  refine Or.inr ⟨σ', τ', t', sF d (vn d - 1) (vk d (vn d - 1)) (vo d (vn d - 1) ||| 2 ^ o) z B, qs q 7 3 k, htt, rfl, ⟨?_, ?_, ?_, (QX.zf (by omega) zx).tkx hv hX, (QM.zf (by omega) zm).tkm hT, m4, htc⟩, ⟨c0, ?_, ?_, tk, c3, ?_, ?_⟩, Or.inl h9, hr, QX.zf (by omega) zx, QM.zf (by omega) zm, he⟩
  · refine CX_sF hv d40 hj px zx (fun f i hh => g f i (by omega)) (g8 11 (by omega) (by omega)) fx (fun r i hh => qs_o (by omega)) (by rw [qs_s]; exact kx) (EX_k px.2.2.2.2.2.2 (fun i hh => g8 i (by omega) (by omega)))
  · refine CM_sF d40 hj cw.lw pm zm (fun f i hh => gm f i (by omega)) (fun i hh => am i (by omega)) fm' (fun r i hh => qs_o (by omega)) (by rw [qs_s]; exact km) ?_ ?_
    · rw [gm _ _ (by omega), qs_o (by omega)]
      exact pm.2.2.2.2.2.2.1
    · rw [qs_o (by omega)]
      intro i hi r hr'
      rw [qs_o (by omega), am _ (by omega)]
      exact pm.2.2.2.2.2.2.2.1 i hi r hr'
  · refine CW_sF cw (by omega) hj (fun r i hh => qs_o (by omega)) (by rw [qs_s]; exact hk') (by rw [qs_s]; exact hkz) (by rw [qs_o (by omega)]; have := cw.2.2.2.2.2.2.2.2.1; omega) ?_ ?_ (CWe_k cw.2.2.2.2.2.2.2.2.2.1 hk') ?_
    · refine FW_sF (q := q) (cw.2.2.2.2.2.1 _ hj) ho7 hz hB ?_ ?_
      · simp (disch := omega) only [qs_o]
        simp [ho.1]
      · simp (disch := omega) only [qs_o]
        simp [ho.2]
    · intro j' b hh
      simp (disch := omega) only [qs_o]
    · rw [qs_s]
      exact ok5_6 cw hj ho7 (by omega) hk
  · rw [qs_o (by omega)]
    exact c1
  · rw [h3]
    exact c2
  · rw [g _ _ (by omega)]
    exact c4
  · rw [am 23 (by omega)]
    exact c5
theorem opt_lt3 (hv : v < 8) (w : TKW tx c ks ps ls) (p : PI v tx c ks ps ls σ τ t d q) (cu : CU v c σ τ d q) (h9 : gi σ 409 0 = 4) (ht : t < c) {o : Nat} (ho : oOf tx ks ps ls t = some o) (h3 : o < 3) : OPT v tx c ks ps ls σ τ t d := by
  have p' := p
  have cu' := cu
  obtain ⟨px, pm, cw, hX, hT, h4, _⟩ := p
  obtain ⟨c0, c1, c2, tk, c3, c4, c5⟩ := cu
  obtain ⟨s1, x1, x2, x3, x4, x5, x6, x7, x8, x9, x10, x11⟩ := x_opt1 hv w px cw hX ht (j := vn d - 1) (by omega) c2 ho
  obtain ⟨t1, y1, y2, y3, y4, y5, y6, y7⟩ := m_opt1 hv w pm cw hT h4 ht (j := vn d - 1) (by omega) ho
  rw [mO93_eq, if_neg (show ¬ (3 : Int32) ≤ nI o from nI_ge (b := 3) (by omega) (by omega))] at y1
  rw [if_neg (by omega)] at x3 x9
  refine opt_fin hv w p' cu' (by omega) (by omega) (show t < t + 1 by omega) (by omega) x2 y2 x3 x6 x7 (fun i h1 h2 => ?_) x10 x11 y3 (fun f i hh => y4 f i (by omega)) (fun i hh => y5 i (by omega)) y6 y7 (Or.inr ⟨by omega, rfl⟩) (Or.inr ⟨by omega, rfl⟩) (Nat.le_refl _) (ok5_kz cw.2.2.2.2.2.2.2.1) (rn_ok hX w ht (by rw [xst_4 h9, x1])) y1
  by_cases e : i = 12
  · rw [e, x9]
  · exact x8 i e
end Rb
