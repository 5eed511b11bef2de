/-! grow. -/
def withS (d : Vd) (s : Nat → Nat) : Vd := (fun r j => if r = 5 then s j else d.1 r j, d.2)
theorem withS_VW {d : Vd} {s : Nat → Nat} (w : W7 d) (h : OO d s) : VW (withS d s) := ⟨w.1, w.2.1, w.2.2.1, w.2.2.2.1, w.2.2.2.2.1, w.2.2.2.2.2.1, w.2.2.2.2.2.2, h⟩
theorem withS_VX {d : Vd} {s : Nat → Nat} {σ : St} {v : Nat} (a : VX0 σ v d) (h : ∀ p, p < vn d → ga σ 8 v p = nI (s p)) : VX σ v (withS d s) := ⟨a.1, a.2.1, a.2.2.1, a.2.2.2.1, a.2.2.2.2, h⟩
theorem withS_VM {d : Vd} {s : Nat → Nat} {τ : St} {v : Nat} (a : VM τ v d) : VM τ v (withS d s) := ⟨a.1, a.2.1, a.2.2.1, a.2.2.2.1, a.2.2.2.2⟩
theorem VM_si {d : Vd} {τ : St} {v f i : Nat} {x : Int32} (a : VM τ v d) : VM (si τ f i x) v d := a
theorem VX0.px {σ : St} {v : Nat} {d : Vd} (h : VX0 σ v d) : PX σ v d := ⟨h.1, fun j hj => (h.2.2.2.1 j hj).1.2.2.2.2.2.1⟩
theorem VX0.us {σ σ' : St} {v : Nat} {d : Vd} (hg : ∀ f i, f ≠ 708 → gi σ' f i = gi σ f i) (ha : ∀ i, ga σ' 2 i = ga σ 2 i) (h : VX0 σ v d) : VX0 σ' v d := by
  obtain ⟨h1, h2, h3, h4, h5⟩ := h
  refine ⟨?_, ?_, ?_, fun j hj => ?_, fun r hr => ?_⟩
  · rw [hg _ _ (by omega), h1]
  · rw [hg _ _ (by omega), h2]
  · rw [hg _ _ (by omega), h3]
  · obtain ⟨⟨a1, a2, a3, a4, a5, a6, a7⟩, a8, a9⟩ := h4 j hj
    refine ⟨⟨?_, ?_, ?_, ?_, ?_, LX_of a6 (hg _ _ (by omega)) (ha _), LX_of a7 (hg _ _ (by omega)) (ha _)⟩, ?_, ?_⟩
    · rw [hg _ _ (by omega), a1]
    · rw [hg _ _ (by omega), a2]
    · rw [hg _ _ (by omega), a3]
    · rw [hg _ _ (by omega), a4]
    · rw [hg _ _ (by omega), a5]
    · rw [hg _ _ (by omega), a8]
    · rw [hg _ _ (by omega), a9]
  · obtain ⟨a1, a2, a3, a4⟩ := h5 r hr
    refine ⟨?_, ?_, LX_of a3 (hg _ _ (by omega)) (ha _), LX_of a4 (hg _ _ (by omega)) (ha _)⟩
    · rw [hg _ _ (by omega), a1]
    · rw [hg _ _ (by omega), a2]
/-- the draft is kept -/
theorem x_keep {σ : St} {nv : Nat} {d : Vd} (hv : nv < 8) (h708 : gi σ 708 0 = nI nv) (a : VX0 σ nv d) (w : W7 d) : ∃ σ' s, f_X8_keep σ nv = some (σ', nI (nv + 1) - 1) ∧ σ'.2.1 = σ.2.1 ∧ (∀ f i, f ≠ 708 → gi σ' f i = gi σ f i) ∧ (∀ f i, ¬ (f = 8 ∧ i = nv) → ga σ' f i = ga σ f i) ∧ gi σ' 708 0 = nI (nv + 1) ∧ OO d s ∧ VX σ' nv (withS d s) := by
  have w40 : vn d ≤ 40 := Nat.le_trans w.1.1 w.1.2.1
  obtain ⟨s1, s, e1, u1, o1, a1⟩ := x_sort hv w40 w.2.2.2.1 (fun f hf => ⟨by have := path_len64 w.2.1 hf; omega, fun c hc => by have := path_asc w.2.1 hf c hc; omega⟩) a.px
  refine ⟨si s1 708 0 (nI (nv + 1)), s, ?_, u1.1, fun f i hf => ?_, fun f i hf => u1.2.2 f i hf, by simp only [gi_si, gi_sr, gi_sg, gi_sa, gr_si, rr_sr, gr_sg, gr_sa, ga_si, ga_sr, ga_sg, ga_sa, true_and, and_true, false_and, and_false, Nat.reduceEqDiff, ↓reduceIte], o1, withS_VX (VX0.us (σ := σ) (fun f i hf => ?_) (fun i => u1.2.2 2 i (by omega)) a) a1⟩
  · unfold f_X8_keep
    rw [e1, cl_mk, u1.2.1, h708, nI_1]
    simp only [bnd, gi_si, gi_sr, gi_sg, gi_sa, gr_si, rr_sr, gr_sg, gr_sa, ga_si, ga_sr, ga_sg, ga_sa, true_and, and_true, false_and, and_false, Nat.reduceEqDiff, ↓reduceIte]
  · simp only [gi_si, gi_sr, gi_sg, gi_sa, gr_si, rr_sr, gr_sg, gr_sa, ga_si, ga_sr, ga_sg, ga_sa, true_and, and_true, false_and, and_false, Nat.reduceEqDiff, ↓reduceIte]
    rw [if_neg (by omega), u1.2.1]
  · simp only [gi_si, gi_sr, gi_sg, gi_sa, gr_si, rr_sr, gr_sg, gr_sa, ga_si, ga_sr, ga_sg, ga_sa, true_and, and_true, false_and, and_false, Nat.reduceEqDiff, ↓reduceIte]
    rw [if_neg (by omega), u1.2.1]
/-- a version more -/
theorem RV_new {σ τ σ' τ' : St} {nv : Nat} {W : Nat → Vd} {d : Vd} (h : RV σ τ nv W) (hv : nv < 8) (h1 : gi σ' 708 0 = nI (nv + 1)) (h2 : gi τ' 810 0 = nI (nv + 1)) (hX : ∀ v, v < nv → KX v σ σ') (hM : ∀ v, v < nv → KM v τ τ') (a : VX σ' nv d) (b : VM τ' nv d) (w : VW d) : RV σ' τ' (nv + 1) (fun x => if x = nv then d else W x) := by
  refine ⟨by omega, h1, h2, fun v hv' => ?_⟩
  dsimp only
  by_cases c : v = nv
  · subst c
    rw [if_pos rfl]
    exact ⟨a, b, w⟩
  · rw [if_neg c]
    obtain ⟨p, q, r⟩ := h.2.2.2 v (by omega)
    exact ⟨(hX v (by omega)).vx r.1 p, (hM v (by omega)).vm r q, r⟩
section Gw
variable {σ τ : St} {v n : Nat} {d : Vd} {tx : List Nat} {c : Nat} {ks ps ls : Nat → Nat}
theorem x_fof_m2 {k : Nat} (hX : PX σ v d) (h40 : vn d ≤ 40) : ∀ (r i : Nat), i + r = vn d → ∀ m, r < m → f_X7_fieldOf_2 m σ v k (-2) (nI i) = some (σ, -2) := by
  intro r
  induction r with
  | zero =>
    intro i hi m hm
    obtain ⟨m, rfl⟩ : ∃ m', m = m' + 1 := ⟨m - 1, by omega⟩
    rw [f_X7_fieldOf_2.eq_2, hX.1, if_pos (nI_le (by omega) (by omega))]
  | succ r ih =>
    intro i hi m hm
    obtain ⟨m, rfl⟩ : ∃ m', m = m' + 1 := ⟨m - 1, by omega⟩
    have l := hX.2 i (by omega)
    have lb := l.b
    rw [f_X7_fieldOf_2.eq_2, hX.1, if_neg (nI_ge (by omega) (by omega)), ck_nI (by omega) (by omega)]
    unfold f_X3_isStartOf
    rw [l.1, if_neg (ln_m2 (by omega)), cl_mk, if_pos rfl, nI_1]
    exact ih (i + 1) (by omega) m (by omega)
/-- the field above -/
def abv (d : Vd) (tx : List Nat) (ps ls : Nat → Nat) (n : Nat) : Option Nat := if n = 1 then none else fop d (pj tx ps ls (n - 1) 0)
theorem last_nm (w : TKW tx c ks ps ls) (hn : 0 < n) (hP : isP c ks n 0) : Nm (wrd tx (ps (2 * (n - 1))) (ls (2 * (n - 1)))) ∧ 2 * (n - 1) < c ∧ ks (2 * (n - 1)) = 1 := by
  obtain ⟨h1, h2⟩ := hP.1 (n - 1) (by omega)
  rw [Nat.zero_add] at h1 h2
  exact ⟨w.nm (by omega) h2, h1, h2⟩
theorem pj_last (hn : 0 < n) (h1 : n ≠ 1) : pj tx ps ls n 0 = pj tx ps ls (n - 1) 0 ++ 46 :: wrd tx (ps (2 * (n - 1))) (ls (2 * (n - 1))) := by
  have := pj_snoc (tx := tx) (ps := ps) (ls := ls) (n - 1) (by omega) 0
  rw [Nat.zero_add, show n - 1 + 1 = n by omega] at this
  exact this
theorem pj_lpt (w : TKW tx c ks ps ls) (hn : 0 < n) (hP : isP c ks n 0) : lpt (pj tx ps ls n 0) (pj tx ps ls n 0).length = (if n = 1 then none else some (pj tx ps ls (n - 1) 0).length) := by
  obtain ⟨h1, _, _⟩ := last_nm w hn hP
  by_cases c1 : n = 1
  · subst c1
    rw [if_pos rfl]
    exact lpt_no (b := wrd tx (ps 0) (ls 0)) h1.no _ (Nat.le_refl _)
  · rw [if_neg c1, pj_last hn c1]
    have := lpt_app (a := pj tx ps ls (n - 1) 0) h1.no (wrd tx (ps (2 * (n - 1))) (ls (2 * (n - 1)))).length (Nat.le_refl _)
    rw [← this]
    congr 1
    rw [List.length_append, List.length_cons]
    omega
theorem pj_nst (w : TKW tx c ks ps ls) (hn : 0 < n) (hP : isP c ks n 0) : nst (pj tx ps ls n 0) ≤ (pj tx ps ls n 0).length ∧ (pj tx ps ls n 0).drop (nst (pj tx ps ls n 0)) = wrd tx (ps (2 * (n - 1))) (ls (2 * (n - 1))) := by
  unfold nst
  rw [pj_lpt w hn hP]
  by_cases c1 : n = 1
  · subst c1
    rw [if_pos rfl]
    exact ⟨Nat.zero_le _, rfl⟩
  · rw [if_neg c1, pj_last hn c1]
    dsimp only
    constructor
    · rw [List.length_append, List.length_cons]
      omega
    · rw [show pj tx ps ls (n - 1) 0 ++ 46 :: wrd tx (ps (2 * (n - 1))) (ls (2 * (n - 1))) = (pj tx ps ls (n - 1) 0 ++ [46]) ++ wrd tx (ps (2 * (n - 1))) (ls (2 * (n - 1))) by simp]
      exact List.drop_left' (by simp)
theorem x_abv (hX : PX σ v d) (h40 : vn d ≤ 40) (w : TKW tx c ks ps ls) (hn : 0 < n) (hP : isP c ks n 0) (hL : LX σ 1 (pj tx ps ls n 0)) : f_X7_fieldOf σ v 1 (oI (lpt (pj tx ps ls n 0) (pj tx ps ls n 0).length)) = some (σ, oI (abv d tx ps ls n)) := by
  rw [pj_lpt w hn hP]
  unfold abv
  by_cases c1 : n = 1
  · rw [if_pos c1, if_pos c1]
    exact x_fof_m2 hX h40 (vn d) 0 (by omega) fl (by have := fl_big; omega)
  · rw [if_neg c1, if_neg c1]
    have hle : (pj tx ps ls (n - 1) 0).length ≤ (pj tx ps ls n 0).length := by
      rw [pj_last hn c1, List.length_append]
      omega
    have := x_fof hX h40 hL hle
    refine Eq.trans this ?_
    unfold fop
    have e : (pj tx ps ls n 0).take (pj tx ps ls (n - 1) 0).length = pj tx ps ls (n - 1) 0 := by
      rw [pj_last hn c1]
      exact List.take_left
    rw [e]
def hpl (d : Vd) (n : Nat) (H : Option Nat) : Bool := decide (n = 1) || (match H with | none => false | some h => decide (vk d h = 5 ∨ vk d h = 6) && decide (vd d h < 4))
theorem x_hpl (hX : VX σ v d) (wv : VW d) (w : TKW tx c ks ps ls) (hn : 0 < n) (hP : isP c ks n 0) (hL : LX σ 1 (pj tx ps ls n 0)) : f_X7_hasPlaceFor σ v 1 = some (σ, bI (hpl d n (abv d tx ps ls n))) := by
  have w40 : vn d ≤ 40 := Nat.le_trans wv.1.1 wv.1.2.1
  have g := x_abv hX.px w40 w hn hP hL
  unfold f_X7_hasPlaceFor
  rw [lx_last hL, cl_mk, g, cl_mk]
  rw [pj_lpt w hn hP]
  unfold hpl
  by_cases c1 : n = 1
  · rw [if_pos c1, if_neg (show ¬ (0 : Int32) ≤ oI none by decide), decide_eq_true c1]
    rfl
  · have lb := hL.b
    have hle : (pj tx ps ls (n - 1) 0).length ≤ (pj tx ps ls n 0).length := by
      rw [pj_last hn c1, List.length_append]
      omega
    rw [if_neg c1, if_pos (show (0 : Int32) ≤ oI (some _) from nI_pos' (by omega)), decide_eq_false c1, Bool.false_or]
    cases e : abv d tx ps ls n with
    | none =>
      rw [if_pos (show oI none < 0 from m2_neg)]
      rfl
    | some h =>
      have hh : h < vn d := by
        unfold abv at e
        rw [if_neg c1] at e
        have := (fm_some _ _ _ e).2.1
        omega
      have hk := (wv.2.2.2.2.1 h hh).1
      have hd := (wv.2.1 h hh).2.1
      rw [show oI (some h) = nI h from rfl, if_neg (nI_pos (by omega)), ck_nI (by omega) (by omega), (hX.2.2.2.1 h hh).1.1, x_hold hk, cl_mk]
      dsimp only
      by_cases ck : vk d h = 5 ∨ vk d h = 6
      · rw [bI_yes ck, if_neg i10, ck_nI (by omega) (by omega), (hX.2.2.2.1 h hh).1.2.2.2.2.1, decide_eq_true ck, Bool.true_and]
        by_cases cd : vd d h < 4
        · rw [if_neg (show ¬ (4 : Int32) ≤ nI (vd d h) from nI_ge (b := 4) (by omega) (by omega)), decide_eq_true cd]
          rfl
        · rw [if_pos (show (4 : Int32) ≤ nI (vd d h) from nI_le (a := 4) (by omega) (by omega)), decide_eq_false cd]
          rfl
      · rw [bI_no ck, if_pos rfl, decide_eq_false ck, Bool.false_and]
        rfl
def ktc (d : Vd) (tx : List Nat) (ps ls : Nat → Nat) (n met : Nat) : Option Nat :=
  if sw 0 = wrd tx (ps (2 * (n - 1))) (ls (2 * (n - 1))) ∨ sw 1 = wrd tx (ps (2 * (n - 1))) (ls (2 * (n - 1))) then none else if vl d ≤ vn d then none else if hpl d n (abv d tx ps ls n) = false then none else (frl d (wrd tx (ps (2 * (n - 1))) (ls (2 * (n - 1)))) met).map (rk d)
theorem x_ktc {met : Nat} (hX : VX σ v d) (wv : VW d) (w : TKW tx c ks ps ls) (hn : 0 < n) (hP : isP c ks n 0) (hL : LX σ 1 (pj tx ps ls n 0)) (hm : met < 4) : f_X7_kindToCome σ v 1 (nI met) = some (σ, oI (ktc d tx ps ls n met)) := by
  have w40 : vn d ≤ 40 := Nat.le_trans wv.1.1 wv.1.2.1
  have wl := wv.1.2.1
  obtain ⟨n1, n2⟩ := pj_nst w hn hP
  have lb := hL.b
  have tk : ∀ k, k < nSt → f_X3_isWordAt σ 1 (nI (nst (pj tx ps ls n 0))) (nI ((pj tx ps ls n 0).length - nst (pj tx ps ls n 0))) k = some (σ, bI (decide (sw k = wrd tx (ps (2 * (n - 1))) (ls (2 * (n - 1)))))) := by
    intro k hk
    rw [lx_word hL hk (by omega), n2]
    have e : (wrd tx (ps (2 * (n - 1))) (ls (2 * (n - 1)))).take ((pj tx ps ls n 0).length - nst (pj tx ps ls n 0)) = wrd tx (ps (2 * (n - 1))) (ls (2 * (n - 1))) := by
      apply List.take_of_length_le
      rw [← n2, List.length_drop]
      omega
    rw [e]
  have k37 : ∀ x y, f_X7_kindToCome_37 f_X7_kindToCome_42 σ v 1 x y = some (σ, -2) := by
    intro x y
    unfold f_X7_kindToCome_37 f_X7_kindToCome_42
    rw [if_neg i10]
  unfold f_X7_kindToCome ktc
  rw [lx_nst hL, cl_mk]
  unfold f_X3_length
  rw [cl_mk, hL.1, ln_sub n1, tk 0 (by decide), cl_mk]
  by_cases c0 : sw 0 = wrd tx (ps (2 * (n - 1))) (ls (2 * (n - 1)))
  · rw [bI_yes c0, if_neg i10, if_pos (Or.inl c0), k37]
    rfl
  · rw [bI_no c0, if_pos rfl, tk 1 (by decide), cl_mk]
    by_cases c1 : sw 1 = wrd tx (ps (2 * (n - 1))) (ls (2 * (n - 1)))
    · rw [bI_yes c1, if_neg i10, if_pos (Or.inr c1), k37]
      rfl
    · rw [bI_no c1, if_pos rfl, if_neg (fun h => h.elim c0 c1)]
      unfold f_X7_kindToCome_42
      rw [if_pos rfl, hX.2.2.1, hX.1]
      by_cases c2 : vl d ≤ vn d
      · rw [if_pos (nI_le c2 (by omega)), if_pos c2]
        rfl
      · rw [if_neg (nI_ge (by omega) (by omega)), if_neg c2, if_neg (show ¬ (40 : Int32) ≤ nI (vn d) from nI_ge (b := 40) (by omega) (by omega)), x_hpl hX wv w hn hP hL, cl_mk]
        cases e : hpl d n (abv d tx ps ls n) with
        | false =>
          rw [if_pos (show bI false = 0 from rfl), if_pos rfl]
          rfl
        | true =>
          rw [if_neg (show ¬ bI true = 0 from i10), if_neg (by decide), x_rules hX wv hm hL n1, cl_mk, n2]
          cases e2 : frl d (wrd tx (ps (2 * (n - 1))) (ls (2 * (n - 1)))) met with
          | none =>
            rw [if_neg (show ¬ (0 : Int32) ≤ oI none by decide)]
            rfl
          | some r =>
            have hr : r < vr d := by
              have := (fm_some _ _ _ e2).2.1
              omega
            have := wv.1.2.2
            rw [show oI (some r) = nI r from rfl, if_pos (nI_pos' (by omega)), ck_nI (by omega) (by omega), (hX.2.2.2.2.1 r hr).1]
            rfl
end Gw
