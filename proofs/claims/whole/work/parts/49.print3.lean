/-! print: how long it can be; both sides. -/
section Lo
variable {d : Vd}
theorem sw_len : ∀ k, k < 20 → (sw k).length ≤ 6 := by decide +kernel
theorem opP_len (w : VW d) {o : Option Nat} (h : ∀ c, o = some c → c < vn d) : (opP d o).length ≤ 64 := by
  cases o with
  | none => exact Nat.zero_le _
  | some c => exact path_len64 w.2.1 (h c rfl)
theorem ops_step {j r o B K : Nat} (h : ∀ f, (ops d j r (o + 1) f).length ≤ B) (hk : (ot d j o).length ≤ K) : ∀ f, (ops d j (r + 1) o f).length ≤ B + K + 1 := by
  intro f
  rw [ops.eq_2]
  split
  · rw [List.length_cons, List.length_append]
    have := h false
    omega
  · have := h f
    omega
theorem ops_len (w : VW d) {j : Nat} (hj : j < vn d) : ∀ f, (ops d j 7 0 f).length ≤ 187 := by
  have wf := w.2.2.2.2.1 j hj
  have h0 : ∀ f, (ops d j 0 7 f).length ≤ 1 := by
    intro f
    cases f <;> simp [ops]
  have l10 : (sw 10).length = 6 := by decide +kernel
  have l11 : (sw 11).length = 6 := by decide +kernel
  have l12 : (sw 12).length = 5 := by decide +kernel
  have l13 : (sw 13).length = 4 := by decide +kernel
  have l14 : (sw 14).length = 4 := by decide +kernel
  have l15 : (sw 15).length = 2 := by decide +kernel
  have l16 : (sw 16).length = 2 := by decide +kernel
  have t6 : (ot d j 6).length ≤ 67 := by
    have := opP_len w wf.2.2.2.2.1
    simp [ot, ov]
    omega
  have t5 : (ot d j 5).length ≤ 15 := by
    have := Nm.le wf.2.2.1
    simp [ot, ov]
    omega
  have t4 : (ot d j 4).length ≤ 69 := by
    have := opP_len w wf.2.2.2.1
    simp [ot, ov]
    omega
  have t3 : (ot d j 3).length ≤ 11 := by
    have := nut_len ((oZ d j).getD 0)
    simp [ot, ov]
    omega
  have t2 : (ot d j 2).length ≤ 5 := by
    simp [ot]
    omega
  have t1 : (ot d j 1).length ≤ 6 := by
    simp [ot]
    omega
  have t0 : (ot d j 0).length ≤ 6 := by
    simp [ot]
    omega
  exact ops_step (ops_step (ops_step (ops_step (ops_step (ops_step (ops_step h0 t6) t5) t4) t3) t2) t1) t0
theorem mdl_len (w : VW d) : ∀ (r f : Nat), f + r ≤ vn d → (mdl d r f).length ≤ 215 * r := by
  intro r
  induction r with
  | zero => exact fun f _ => Nat.le_refl _
  | succ r ih =>
    intro f hf
    have hff : f < vn d := by omega
    have h1 := ih (f + 1) (by omega)
    have h2 := ops_len w hff true
    have h3 := (w.2.1 f hff).1.2.1
    have h4 := (w.2.1 f hff).2.1
    have h5 := sw_len (2 + vk d f) (by have := (w.2.2.2.2.1 f hff).1; omega)
    have h7 : (btw (vd d f) (nx d f)).length ≤ 9 := by
      unfold btw
      split
      · rw [List.length_cons, rp_len]
        omega
      · simp
    rw [mdl.eq_2]
    unfold hd
    simp only [List.length_append, List.length_cons]
    omega
theorem rls_len (w : VW d) : ∀ (r q : Nat), q + r ≤ vr d → (rls d r q).length ≤ 39 * r + 13 := by
  have l18 := sw_len 18 (by omega)
  have l19 := sw_len 19 (by omega)
  intro r
  induction r with
  | zero =>
    intro q _
    unfold rls
    split
    · simp
    · have := nut_len (vl d)
      simp only [List.length_append, List.length_singleton]
      omega
  | succ r ih =>
    intro q hq
    have wr := w.2.2.2.2.2.2.1 q (by omega)
    have h1 := ih (q + 1) (by omega)
    have h2 := Nm.le wr.2.2.1
    have h3 := Nm.le wr.2.2.2.1
    have h5 := sw_len (2 + rk d q) (by have := wr.1; omega)
    rw [rls.eq_2]
    unfold rlt
    have h7 : (if rs d q = 0 then [] else [42]).length ≤ 1 := by split <;> simp
    simp only [List.length_append, List.length_cons, List.length_nil]
    omega
end Lo
theorem out_loop {l : List Nat} (hl : l.length ≤ 4000) : ∀ (r i : Nat), i + r = l.length → ∀ (τ : St), MW τ l → (∀ k, k < i → ga τ 2 1 k = sB (el l k)) → gi τ 806 0 = nI l.length → ∀ m, r < m → ∃ τ', f_X9_print_369 m τ (nI i) = some (τ', nI l.length) ∧ Bs (ga τ' 2 1) 0 l ∧ (∀ f j, gi τ' f j = gi τ f j) ∧ (∀ f j, ¬ (f = 2 ∧ j = 1) → ga τ' f j = ga τ f j) := by
  intro r
  induction r with
  | zero =>
    intro i hi τ h hd h6 m hm
    obtain ⟨m, rfl⟩ : ∃ m', m = m' + 1 := ⟨m - 1, by omega⟩
    refine ⟨τ, ?_, fun k hk => ?_, fun _ _ => rfl, fun _ _ _ => rfl⟩
    · rw [f_X9_print_369.eq_2, h.1, if_pos (nI_le (by omega) (by omega)), h6]
    · rw [Nat.zero_add]
      exact hd k (by omega)
  | succ r ih =>
    intro i hi τ h hd h6 m hm
    obtain ⟨m, rfl⟩ : ∃ m', m = m' + 1 := ⟨m - 1, by omega⟩
    have hb := h.2.1 i (by omega)
    rw [Nat.zero_add] at hb
    obtain ⟨τ', g1, g2, g3, g4⟩ := ih (i + 1) (by omega) (sa τ 2 1 i (sB (el l i))) ⟨h.1, by simp only [gi_si, gi_sr, gi_sg, gi_sa, gr_si, rr_sr, gr_sg, gr_sa, ga_si, ga_sr, ga_sg, ga_sa, true_and, and_true, false_and, and_false, Nat.reduceEqDiff, ↓reduceIte]; exact h.2.1, h.2.2⟩ (fun k hk => by
      simp only [gi_si, gi_sr, gi_sg, gi_sa, gr_si, rr_sr, gr_sg, gr_sa, ga_si, ga_sr, ga_sg, ga_sa, true_and, and_true, false_and, and_false, Nat.reduceEqDiff, ↓reduceIte]
      unfold upd
      split
      · rename_i e
        rw [e]
      · exact hd k (by omega)) h6 m (by omega)
    refine ⟨τ', ?_, g2, fun f j => g3 f j, fun f j hf => ?_⟩
    · rw [f_X9_print_369.eq_2, h.1, if_neg (nI_ge (by omega) (by omega)), ck_nI (by omega) (by omega), ck_nI (by omega) (by omega), hb, sB_nar, nI_1]
      simp only [bnd]
      exact g1
    · rw [g4 f j hf]
      simp only [gi_si, gi_sr, gi_sg, gi_sa, gr_si, rr_sr, gr_sg, gr_sa, ga_si, ga_sr, ga_sg, ga_sa, true_and, and_true, false_and, and_false, Nat.reduceEqDiff, ↓reduceIte]
      rw [if_neg hf]
theorem op_print {σ τ : St} (h : RR σ τ) (x : Int32) : OK (f_X8_print σ x) (f_X9_print τ x) := by
  have hR := h
  obtain ⟨tx, ou, nv, W, h1, h2, h3, h4⟩ := h
  have hn := h4.1
  unfold f_X8_print f_X9_print
  rcases isV h4 x with ⟨v, hv, rfl, g1, g2⟩ | ⟨g1, g2⟩
  · obtain ⟨a, b, w⟩ := h4.2.2.2 v hv
    have w40 : vn (W v) ≤ 40 := Nat.le_trans w.1.1 w.1.2.1
    have w8 := w.1.2.2
    rw [g1, g2, cl_mk, cl_mk, if_neg i10, if_neg i10]
    obtain ⟨k, hk, ek⟩ : ∃ k, (k = 2 ∨ k = 3) ∧ gr σ 1 0 = k := ⟨gr σ 1 0, by have := h2.2.2.2.2; omega, rfl⟩
    have hkk : gr σ 0 0 ≠ k := by have := h2.2.2.2.2; omega
    rw [ek]
    obtain ⟨s1, e1, u1, o1⟩ := ow_clear k σ
    have X1 := (KX_UL (v := v) u1 (by omega)).vx w.1 a
    obtain ⟨s2, e2, u2, o2⟩ := x_print (v := v) (by omega) hk X1 w o1
    have uu := u1.trans u2
    have ek1 : gr s1 1 0 = k := by rw [u1.gr, ek]
    have ek2 : gr s2 1 0 = k := by rw [uu.gr, ek]
    have ek0 : gr s2 0 0 = gr σ 0 0 := by rw [uu.gr]
    rw [e1, cl_mk, ck_nI (by omega) (by omega), ek1, e2, cl_mk, ek2, ow_over o2, cl_mk]
    -- the reference
    have hL1 := mdl_len w (vn (W v)) 0 (by omega)
    have hL2 := rls_len w (vr (W v)) 0 (by omega)
    simp only [bnd]
    have um : UW τ (si τ 808 0 0) := ⟨fun f i hf => by simp only [gi_si, gi_sr, gi_sg, gi_sa, gr_si, rr_sr, gr_sg, gr_sa, ga_si, ga_sr, ga_sg, ga_sa, true_and, and_true, false_and, and_false, Nat.reduceEqDiff, ↓reduceIte]; rw [if_neg (by omega)], fun f i _ _ => rfl⟩
    obtain ⟨t1, p1, p2, p3⟩ := m_pbody (v := v) (by omega) w (vn (W v)) 0 (by omega) (si τ 808 0 0) [] (nI 0) ((KM_UM um.um).vm w b) ⟨by simp [gi_si, gi_sr, gi_sg, gi_sa, gr_si, rr_sr, gr_sg, gr_sa, ga_si, ga_sr, ga_sg, ga_sa, true_and, and_true, false_and, and_false, Nat.reduceEqDiff, ↓reduceIte]; rfl, fun i hi => absurd hi (Nat.not_lt_zero _), fun c hc => nomatch hc⟩ (fun h0 => by rw [d0 w h0]) (by simp only [List.length_nil]; omega) fl (by have := fl_big; omega)
    have p1 : f_X9_print_22 fl (si τ 808 0 0) (nI v) 0 0 = _ := p1
    rw [p1]
    have pu := um.trans p2
    have p3 : MW t1 (ptx (W v)) := p3
    have hP : (ptx (W v)).length ≤ 10000 := by
      unfold ptx
      rw [List.length_append]
      omega
    have cap : capX k = 4000 := by rcases hk with rfl | rfl <;> rfl
    rw [cap]
    unfold f_X9_print_345
    rw [p3.1]
    by_cases c : (ptx (W v)).length ≤ 4000
    · rw [bI_no (by omega), if_pos rfl, if_pos (show nI _ ≤ (4000 : Int32) from nI_le (b := 4000) c (by omega))]
      simp only [bnd]
      have MW2 : MW (si t1 806 0 (nI (ptx (W v)).length)) (ptx (W v)) := ⟨by simp only [gi_si, gi_sr, gi_sg, gi_sa, gr_si, rr_sr, gr_sg, gr_sa, ga_si, ga_sr, ga_sg, ga_sa, true_and, and_true, false_and, and_false, Nat.reduceEqDiff, ↓reduceIte]; exact p3.1, p3.2.1, p3.2.2⟩
      obtain ⟨t2, q1, q2, q3, q4⟩ := out_loop c (ptx (W v)).length 0 (by omega) (si t1 806 0 (nI (ptx (W v)).length)) MW2 (fun k hk => by omega) (by simp [gi_si, gi_sr, gi_sg, gi_sa, gr_si, rr_sr, gr_sg, gr_sa, ga_si, ga_sr, ga_sg, ga_sa, true_and, and_true, false_and, and_false, Nat.reduceEqDiff, ↓reduceIte]) fl (by have := fl_big; omega)
      have hlx := o2.lx (by rw [cap]; exact c)
      refine ⟨sr (sr s2 0 0 k) 1 0 (gr s2 0 0), t2, nI (ptx (W v)).length, ?_, q1, tx, ptx (W v), nv, W, ?_, ?_, ?_, ?_⟩
      · unfold f_X3_length
        rw [ek2, cl_mk]
        simp only [gr_si, rr_sr, true_and, and_true, Nat.reduceEqDiff, ↓reduceIte, gi_sr]
        have : gi s2 201 k = nI (ptx (W v)).length := hlx.1
        simp [this]
      · refine ⟨?_, ?_, ?_⟩
        · exact LX_of (uu.lx (by omega) h1.1) rfl rfl
        · rw [q3]
          simp only [gi_si, gi_sr, gi_sg, gi_sa, gr_si, rr_sr, gr_sg, gr_sa, ga_si, ga_sr, ga_sg, ga_sa, true_and, and_true, false_and, and_false, Nat.reduceEqDiff, ↓reduceIte]
          rw [pu.1 803 0 (by omega), h1.2.1]
        · rw [q4 2 0 (by omega), ga_si, pu.2 2 0 (by omega) (by omega)]
          exact h1.2.2
      · have e00 : gr (sr (sr s2 0 0 k) 1 0 (gr s2 0 0)) 0 0 = k := by simp [rr_sr]
        have e10 : gr (sr (sr s2 0 0 k) 1 0 (gr s2 0 0)) 1 0 = gr σ 0 0 := by simp [rr_sr, ek0]
        refine ⟨?_, ?_, q2, p3.2.2, ?_⟩
        · rw [e00]
          exact LX_of hlx rfl rfl
        · rw [q3]
          simp [gi_si, gi_sr, gi_sg, gi_sa, gr_si, rr_sr, gr_sg, gr_sa, ga_si, ga_sr, ga_sg, ga_sa, true_and, and_true, false_and, and_false, Nat.reduceEqDiff, ↓reduceIte]
        · rw [e00, e10]
          have := h2.2.2.2.2
          omega
      · show gi s2 709 0 = _
        rw [uu.2.1 709 0 (by omega), q3]
        simp only [gi_si, gi_sr, gi_sg, gi_sa, gr_si, rr_sr, gr_sg, gr_sa, ga_si, ga_sr, ga_sg, ga_sa, true_and, and_true, false_and, and_false, Nat.reduceEqDiff, ↓reduceIte]
        rw [pu.1 809 0 (by omega), h3]
      · refine h4.of (by show gi s2 708 0 = _; exact uu.2.1 708 0 (by omega)) (by rw [q3]; simp only [gi_si, gi_sr, gi_sg, gi_sa, gr_si, rr_sr, gr_sg, gr_sa, ga_si, ga_sr, ga_sg, ga_sa, true_and, and_true, false_and, and_false, Nat.reduceEqDiff, ↓reduceIte]; exact pu.1 810 0 (by omega)) (fun v hv => ?_) (fun v hv => ?_)
        · have := KX_UL (v := v) uu (by omega)
          exact this
        · have hq : ∀ f j, ¬ (f = 2 ∧ (j = 1 ∨ j = 2 ∨ j = 7)) → ¬ (f = 1 ∧ j = 25) → ga t2 f j = ga τ f j := fun f j hf hg => by
            rw [q4 f j (by omega), ga_si, pu.2 f j (by omega) (by omega)]
          exact ⟨fun f hf => by rw [hq 1 f (by omega) (by omega)], fun f g a1 a2 a3 a4 => by rw [hq 1 f (by omega) (by omega)], fun f g a1 a2 a3 => by rw [hq 2 f (by omega) (by omega)], fun f g a1 a2 a3 => by rw [hq 1 f (by omega) (by omega)], fun q a1 a2 => by rw [hq 4 0 (by omega) (by omega)], fun f g a1 a2 a3 => by rw [hq 2 f (by omega) (by omega)]⟩
    · rw [bI_yes (by omega), if_neg i10, if_neg (show ¬ nI _ ≤ (4000 : Int32) from nI_ge (a := 4000) (by omega) (by omega))]
      refine ⟨s2, t1, -3, rfl, rfl, tx, ou, nv, W, ⟨uu.lx (by omega) h1.1, by rw [pu.1 803 0 (by omega), h1.2.1], by rw [pu.2 2 0 (by omega) (by omega)]; exact h1.2.2⟩, ?_, ?_, ?_⟩
      · obtain ⟨r1, r2, r3, r4, r5⟩ := h2
        refine ⟨?_, by rw [pu.1 806 0 (by omega), r2], by rw [pu.2 2 1 (by omega) (by omega)]; exact r3, r4, ?_⟩
        · rw [ek0]
          exact uu.lx hkk r1
        · rw [ek0, ek2]
          omega
      · rw [uu.2.1 709 0 (by omega), pu.1 809 0 (by omega), h3]
      · exact h4.of (uu.2.1 708 0 (by omega)) (pu.1 810 0 (by omega)) (fun v hv => KX_UL uu (by omega)) (fun v hv => KM_UM pu.um)
  · rw [g1, g2, cl_mk, cl_mk, if_pos rfl, if_pos rfl]
    exact ⟨σ, τ, -1, rfl, rfl, hR⟩
