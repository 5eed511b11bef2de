/-! Reading: an option's word. -/
theorem orT : ∀ p, p < 128 → ∀ o, o < 7 → nI p ||| ((1 : Int32) <<< (nI o &&& 31)) = nI (p ||| 2 ^ o) ∧ p ||| 2 ^ o < 128 := by decide +kernel
theorem orB : ∀ p, p < 128 → ∀ o, o < 7 → ∀ b, b < 7 → bt (p ||| 2 ^ o) b = if b = o then 1 else bt p b := by decide +kernel
def mayH (k o : Nat) : Bool := if o = 2 ∨ o = 5 then decide (k = 1) else if o = 3 then decide (2 ≤ k ∧ k ≤ 4) else if o = 6 then decide (k = 7) else decide (k ≤ 4)
theorem x_may {k o : Nat} (σ : St) (hk : k < 8) (ho : o < 7) : f_X2_mayHave σ (nI k) (nI o) = some (σ, bI (mayH k o)) := by
  have h1 : k = 0 ∨ k = 1 ∨ k = 2 ∨ k = 3 ∨ k = 4 ∨ k = 5 ∨ k = 6 ∨ k = 7 := by omega
  have h2 : o = 0 ∨ o = 1 ∨ o = 2 ∨ o = 3 ∨ o = 4 ∨ o = 5 ∨ o = 6 := by omega
  rcases h1 with rfl | rfl | rfl | rfl | rfl | rfl | rfl | rfl <;> rcases h2 with rfl | rfl | rfl | rfl | rfl | rfl | rfl <;> rfl
theorem m_may {k o : Nat} (τ : St) (hk : k < 8) (ho : o < 7) : f_X9_mayHave τ (nI k) (nI o) = some (τ, bI (mayH k o)) := by
  have h1 : k = 0 ∨ k = 1 ∨ k = 2 ∨ k = 3 ∨ k = 4 ∨ k = 5 ∨ k = 6 ∨ k = 7 := by omega
  have h2 : o = 0 ∨ o = 1 ∨ o = 2 ∨ o = 3 ∨ o = 4 ∨ o = 5 ∨ o = 6 := by omega
  rcases h1 with rfl | rfl | rfl | rfl | rfl | rfl | rfl | rfl <;> rcases h2 with rfl | rfl | rfl | rfl | rfl | rfl | rfl <;> rfl
/-- the rest of the reference's option -/
def mO93 (s16 : St) (v1 v2 v3 v4 : Int32) : Option (St × Unit) :=
  if 3 ≤ v3 then (
    cl (f_X9_want s16 61) fun s17 _u128 =>
    if v3 = 3 then (
      cl (f_X9_want s17 2) fun s36 _u144 =>
      if (gi s36 835 0) = 0 then (
        cl (f_X9_number s36 (gi s17 834 0)) fun s37 x38 =>
        ck v1 320 fun j39 =>
        bnd (sa s37 1 6 j39 x38) fun s40 =>
        ck v1 320 fun j41 =>
        if (ga s40 1 4 j41) = 4 then (
          ck v1 320 fun j42 =>
          if (ga s40 1 6 j42) ≤ 1 then (
            some (s40, ())
          ) else (
            ck (gi s17 834 0) 2001 fun j43 =>
            cl (f_X9_note s40 5 (ga s40 1 15 j43)) fun s44 _u195 =>
            some (s44, ())
          )
        ) else (
          some (s40, ())
        )
      ) else (
        some (s36, ())
      )
    ) else (
      if v3 = 5 then (
        cl (f_X9_want s17 1) fun s31 _u208 =>
        if (gi s31 835 0) = 0 then (
          ck (gi s17 834 0) 2001 fun j32 =>
          ck v1 320 fun j33 =>
          bnd (sa s31 1 9 j33 (ga s31 1 16 j32)) fun s34 =>
          cl (f_X9_copyName s34 (gi s17 834 0) 4 (12 * v1)) fun s35 _u242 =>
          some (s35, ())
        ) else (
          some (s31, ())
        )
      ) else (
        cl (f_X9_wantPath s17) fun s18 x19 =>
        if (gi s18 835 0) = 0 then (
          ck (gi s18 838 0) 700 fun j20 =>
          bnd (sa s18 1 17 j20 v2) fun s21 =>
          ck (gi s21 838 0) 700 fun j22 =>
          bnd (sa s21 1 18 j22 v3) fun s23 =>
          ck (gi s23 838 0) 700 fun j24 =>
          bnd (sa s23 1 19 j24 (gi s17 834 0)) fun s25 =>
          ck (gi s25 838 0) 700 fun j26 =>
          bnd (sa s25 1 20 j26 x19) fun s27 =>
          ck (gi s27 838 0) 700 fun j28 =>
          bnd (sa s27 1 21 j28 v4) fun s29 =>
          bnd (si s29 838 0 ((gi s29 838 0) + 1)) fun s30 =>
          some (s30, ())
        ) else (
          some (s18, ())
        )
      )
    )
  ) else (
    some (s16, ())
  )
section R9
variable {σ τ σ' τ' : St} {v t : Nat} {d : Vd} {q : Nat → Nat → Nat} {tx : List Nat} {c : Nat} {ks ps ls : Nat → Nat}
/-- the key after an option's word -/
def ok5 (d : Vd) (q : Nat → Nat → Nat) (j o p : Nat) : Nat := if bt (vo d j) o = 1 ∨ mayH (vk d j) o = false then min (q 7 3) (16 * p + 5) else q 7 3
theorem x_opt1 (hv : v < 8) (w : TKW tx c ks ps ls) (h : CX σ v d q) (cw : CW c ks ps t d q) (hX : TKX σ tx c ks ps ls) (ht : t < c) {j o : Nat} (hj : j + 1 = vn d) (g3 : gr σ 3 0 = 40 * v + j) (ho : oOf tx ks ps ls t = some o) : ∃ σ', f_X5_stepOption σ (nI t) = some (σ', 0) ∧ ZF v (40 * v + j) σ σ' ∧ gi σ' 409 0 = (if 3 ≤ o then 5 else 7) ∧ gi σ' 412 0 = nI o ∧ gi σ' 413 0 = bI (decide (bt (vo d j) o = 1)) ∧ gr σ' 3 0 = gr σ 3 0 ∧ (∀ f i, f = 603 ∨ f = 410 ∨ f = 411 ∨ f = 414 → gi σ' f i = gi σ f i) ∧ (∀ i, i ≠ 12 → ga σ' 8 i = ga σ 8 i) ∧ ga σ' 8 12 = (if o = 4 ∧ bt (vo d j) o ≠ 1 then upd (ga σ 8 12) j (nI t) else ga σ 8 12) ∧ KXn σ' (ok5 d q j o (ps t)) ∧ FXc σ' (40 * v + j) (vk d j) (vo d j ||| 2 ^ o) (oZ d j) (oH d j) (vd d j) (nP d j) (nB d j) (oC d j) (oO d j) := by
  obtain ⟨a1, a2, a3, a4, a5, a6, a7⟩ := h
  obtain ⟨⟨d1, _, _, d4⟩, wt, _, _, _, fw, _, hz, _⟩ := cw
  obtain ⟨ho7, hk1⟩ := oOf_ok ho
  obtain ⟨f1, f2, _⟩ := fw j (by omega)
  have hc := w.cc
  have hps := w.pp (t := t) (by omega)
  have hx := w.2.2.2.2
  have fj := a2.2.2.2.1 j (by omega)
  have sx6 : SX σ (si (si σ 412 0 (nI o)) 413 0 (bI (decide (bt (vo d j) o = 1)))) := (SX.si (by omega) _ _).trans (SX.si (by omega) _ _)
  have X6 := (QX.sx (v := v) sx6).tkx hv hX
  have k6 : KXn (si (si σ 412 0 (nI o)) 413 0 (bI (decide (bt (vo d j) o = 1)))) (q 7 3) := by
    unfold KXn
    simp only [gi_si, gi_sr, gi_sg, gi_sa, gr_si, rr_sr, gr_sg, gr_sa, ga_si, ga_sr, ga_sg, ga_sa, true_and, and_true, false_and, and_false, Nat.reduceEqDiff, ↓reduceIte]
    exact a6
  -- with or without a note
  have e5 : ∃ s5, f_X5_stepOption σ (nI t) = f_X5_stepOption_70 s5 (nI t) ∧ KXn s5 (ok5 d q j o (ps t)) ∧ s5.2.1 = σ.2.1 ∧ (∀ f i, ¬ (f = 412 ∨ f = 413 ∨ f = 415 ∨ f = 416) → gi s5 f i = gi σ f i) ∧ (∀ f i, ga s5 f i = ga σ f i) ∧ gi s5 412 0 = nI o ∧ gi s5 413 0 = bI (decide (bt (vo d j) o = 1)) := by
    obtain ⟨s5, b1, b2, b3, b4, b5⟩ := x_blame (e := 5) (p := ps t) k6 hz (by omega) (by omega) (by omega)
    have b1 : f_X5_blame _ 5 (nI (ps t)) = _ := b1
    have e57 : f_X5_stepOption_57 f_X5_stepOption_70 (si (si σ 412 0 (nI o)) 413 0 (bI (decide (bt (vo d j) o = 1)))) (nI t) = f_X5_stepOption_70 s5 (nI t) := by
      unfold f_X5_stepOption_57
      rw [x_place X6 w (by omega), cl_mk, b1, cl_mk]
    have bad : f_X5_stepOption σ (nI t) = f_X5_stepOption_57 f_X5_stepOption_70 (si (si σ 412 0 (nI o)) 413 0 (bI (decide (bt (vo d j) o = 1)))) (nI t) → (bt (vo d j) o = 1 ∨ mayH (vk d j) o = false) → ∃ s5, f_X5_stepOption σ (nI t) = f_X5_stepOption_70 s5 (nI t) ∧ KXn s5 (ok5 d q j o (ps t)) ∧ s5.2.1 = σ.2.1 ∧ (∀ f i, ¬ (f = 412 ∨ f = 413 ∨ f = 415 ∨ f = 416) → gi s5 f i = gi σ f i) ∧ (∀ f i, ga s5 f i = ga σ f i) ∧ gi s5 412 0 = nI o ∧ gi s5 413 0 = bI (decide (bt (vo d j) o = 1)) := by
      intro e hw
      refine ⟨s5, e.trans e57, ?_, b3, fun f i hh => ?_, fun f i => ?_, ?_, ?_⟩
      · unfold ok5
        rw [if_pos hw]
        exact b2
      · rw [b4 _ _ (by omega)]
        simp only [gi_si, gi_sr, gi_sg, gi_sa, gr_si, rr_sr, gr_sg, gr_sa, ga_si, ga_sr, ga_sg, ga_sa, true_and, and_true, false_and, and_false, Nat.reduceEqDiff, ↓reduceIte]
        rw [if_neg (by omega), if_neg (by omega)]
      · rw [b5]
        rfl
      · rw [b4 _ _ (by omega)]
        simp only [gi_si, gi_sr, gi_sg, gi_sa, gr_si, rr_sr, gr_sg, gr_sa, ga_si, ga_sr, ga_sg, ga_sa, true_and, and_true, false_and, and_false, Nat.reduceEqDiff, ↓reduceIte]
      · rw [b4 _ _ (by omega)]
        simp only [gi_si, gi_sr, gi_sg, gi_sa, gr_si, rr_sr, gr_sg, gr_sa, ga_si, ga_sr, ga_sg, ga_sa, true_and, and_true, false_and, and_false, Nat.reduceEqDiff, ↓reduceIte]
    have hs : f_X1_has (si σ 412 0 (nI o)) (40 * v + j) (nI o) = _ := x_has (p := vo d j) (show gi (si σ 412 0 (nI o)) 103 (40 * v + j) = nI (vo d j) by simp only [gi_si, gi_sr, gi_sg, gi_sa, gr_si, rr_sr, gr_sg, gr_sa, ga_si, ga_sr, ga_sg, ga_sa, true_and, and_true, false_and, and_false, Nat.reduceEqDiff, ↓reduceIte]; exact fj.1.2.1) f2 ho7
    have hm := x_may (si (si σ 412 0 (nI o)) 413 0 (bI (decide (bt (vo d j) o = 1)))) f1 ho7
    have e0 : f_X5_stepOption σ (nI t) = if bI (decide (bt (vo d j) o = 1)) = 0 then (if bI (mayH (vk d j) o) = 0 then f_X5_stepOption_57 f_X5_stepOption_70 (si (si σ 412 0 (nI o)) 413 0 (bI (decide (bt (vo d j) o = 1)))) (nI t) else f_X5_stepOption_70 (si (si σ 412 0 (nI o)) 413 0 (bI (decide (bt (vo d j) o = 1)))) (nI t)) else f_X5_stepOption_57 f_X5_stepOption_70 (si (si σ 412 0 (nI o)) 413 0 (bI (decide (bt (vo d j) o = 1)))) (nI t) := by
      unfold f_X5_stepOption
      rw [x_oof hX w (by omega), cl_mk, ho]
      simp only [bnd]
      rw [show gi (si σ 412 0 (oI (some o))) 412 0 = nI o by simp only [gi_si, gi_sr, gi_sg, gi_sa, gr_si, rr_sr, gr_sg, gr_sa, ga_si, ga_sr, ga_sg, ga_sa, true_and, and_true, false_and, and_false, Nat.reduceEqDiff, ↓reduceIte]; rfl, if_pos (nI_pos' (by omega)), show gr (si σ 412 0 (oI (some o))) 3 0 = 40 * v + j from g3]
      have hs : f_X1_has (si σ 412 0 (oI (some o))) (40 * v + j) (nI o) = some (si σ 412 0 (nI o), _) := hs
      rw [hs, cl_mk, bI_01, cq_t, show gi (si (si σ 412 0 (nI o)) 413 0 (bI (decide (bt (vo d j) o = 1)))) 413 0 = bI (decide (bt (vo d j) o = 1)) by simp only [gi_si, gi_sr, gi_sg, gi_sa, gr_si, rr_sr, gr_sg, gr_sa, ga_si, ga_sr, ga_sg, ga_sa, true_and, and_true, false_and, and_false, Nat.reduceEqDiff, ↓reduceIte], show gr (si (si σ 412 0 (nI o)) 413 0 (bI (decide (bt (vo d j) o = 1)))) 3 0 = 40 * v + j from g3, show gi (si (si σ 412 0 (nI o)) 413 0 (bI (decide (bt (vo d j) o = 1)))) 102 (40 * v + j) = nI (vk d j) by simp only [gi_si, gi_sr, gi_sg, gi_sa, gr_si, rr_sr, gr_sg, gr_sa, ga_si, ga_sr, ga_sg, ga_sa, true_and, and_true, false_and, and_false, Nat.reduceEqDiff, ↓reduceIte]; exact fj.1.1, show gi (si (si σ 412 0 (nI o)) 413 0 (bI (decide (bt (vo d j) o = 1)))) 412 0 = nI o by simp only [gi_si, gi_sr, gi_sg, gi_sa, gr_si, rr_sr, gr_sg, gr_sa, ga_si, ga_sr, ga_sg, ga_sa, true_and, and_true, false_and, and_false, Nat.reduceEqDiff, ↓reduceIte], hm, cl_mk]
    by_cases c1 : bt (vo d j) o = 1
    · rw [bI_yes c1, if_neg i10] at e0
      rw [bI_yes c1] at bad
      exact (bI_yes c1 : bI (decide (bt (vo d j) o = 1)) = 1) ▸ bad e0 (Or.inl c1)
    · cases c2 : mayH (vk d j) o with
      | false =>
        rw [c2, if_pos (by rw [bI_no c1]), if_pos (show bI false = 0 from rfl)] at e0
        exact bad e0 (Or.inr c2)
      | true =>
        rw [c2, if_pos (by rw [bI_no c1]), if_neg (show ¬ bI true = 0 from i10)] at e0
        refine ⟨_, e0, ?_, rfl, fun f i hh => ?_, fun _ _ => rfl, by simp only [gi_si, gi_sr, gi_sg, gi_sa, gr_si, rr_sr, gr_sg, gr_sa, ga_si, ga_sr, ga_sg, ga_sa, true_and, and_true, false_and, and_false, Nat.reduceEqDiff, ↓reduceIte], by simp only [gi_si, gi_sr, gi_sg, gi_sa, gr_si, rr_sr, gr_sg, gr_sa, ga_si, ga_sr, ga_sg, ga_sa, true_and, and_true, false_and, and_false, Nat.reduceEqDiff, ↓reduceIte]⟩
        · unfold ok5
          rw [if_neg (fun h => h.elim c1 (fun h => by rw [c2] at h; cases h))]
          exact k6
        · simp only [gi_si, gi_sr, gi_sg, gi_sa, gr_si, rr_sr, gr_sg, gr_sa, ga_si, ga_sr, ga_sg, ga_sa, true_and, and_true, false_and, and_false, Nat.reduceEqDiff, ↓reduceIte]
          rw [if_neg (by omega), if_neg (by omega)]
  obtain ⟨s5, b1, b2, b3, b4, b5, b6, b7⟩ := e5
  have sx5 : SX σ s5 := ⟨fun i j' _ => by show s5.2.1 i j' = σ.2.1 i j'; rw [b3], fun f i hh => b4 f i (by omega), fun f i _ => b5 f i⟩
  have f5 := fj.sx sx5
  have gs : ∀ i k, gr s5 i k = gr σ i k := fun i k => by show s5.2.1 i k = σ.2.1 i k; rw [b3]
  obtain ⟨or1, or2⟩ := orT (vo d j) f2 o ho7
  -- the option is set
  have e70 : f_X5_stepOption_70 s5 (nI t) = f_X5_stepOption_102 (si s5 103 (40 * v + j) (nI (vo d j ||| 2 ^ o))) (if o = 4 then 1 else 0) (nI t) := by
    unfold f_X5_stepOption_70
    rw [gs 3 0, g3, f5.1.2.1, b6, or1]
    simp only [bnd]
    rw [show gi (si s5 103 (40 * v + j) (nI (vo d j ||| 2 ^ o))) 412 0 = nI o by simp only [gi_si, gi_sr, gi_sg, gi_sa, gr_si, rr_sr, gr_sg, gr_sa, ga_si, ga_sr, ga_sg, ga_sa, true_and, and_true, false_and, and_false, Nat.reduceEqDiff, ↓reduceIte]; exact b6]
    by_cases c4 : o = 4
    · rw [if_pos (show nI o = (4 : Int32) by rw [c4]; rfl), if_pos c4]
    · rw [if_neg (show ¬ nI o = (4 : Int32) from fun e => c4 ((ln_eq (b := 4) (by omega) (by omega)).mp e)), if_neg c4]
  have n603 : gi (si s5 103 (40 * v + j) (nI (vo d j ||| 2 ^ o))) 603 v - 1 = nI j := by
    simp only [gi_si, gi_sr, gi_sg, gi_sa, gr_si, rr_sr, gr_sg, gr_sa, ga_si, ga_sr, ga_sg, ga_sa, true_and, and_true, false_and, and_false, Nat.reduceEqDiff, ↓reduceIte]
    rw [b4 _ _ (by omega), a2.1, ln_pred (by omega)]
    congr 1
    omega
  have ent : ∃ s13, f_X5_noteToken (si s5 103 (40 * v + j) (nI (vo d j ||| 2 ^ o))) (if o = 4 then 1 else 0) 12 (nI t) = some (s13, ()) ∧ s13 = (if o = 4 ∧ bt (vo d j) o ≠ 1 then sa (si s5 103 (40 * v + j) (nI (vo d j ||| 2 ^ o))) 8 12 j (nI t) else si s5 103 (40 * v + j) (nI (vo d j ||| 2 ^ o))) := by
    unfold f_X5_noteToken
    by_cases c4 : o = 4
    · rw [if_pos c4, if_neg i10, show gi (si s5 103 (40 * v + j) (nI (vo d j ||| 2 ^ o))) 413 0 = bI (decide (bt (vo d j) o = 1)) by simp only [gi_si, gi_sr, gi_sg, gi_sa, gr_si, rr_sr, gr_sg, gr_sa, ga_si, ga_sr, ga_sg, ga_sa, true_and, and_true, false_and, and_false, Nat.reduceEqDiff, ↓reduceIte]; exact b7]
      by_cases c1 : bt (vo d j) o = 1
      · rw [bI_yes c1, if_neg i10, if_neg (fun h => h.2 c1)]
        exact ⟨_, rfl, rfl⟩
      · rw [bI_no c1, if_pos rfl, show gr (si s5 103 (40 * v + j) (nI (vo d j ||| 2 ^ o))) 2 0 = v by simp only [gi_si, gi_sr, gi_sg, gi_sa, gr_si, rr_sr, gr_sg, gr_sa, ga_si, ga_sr, ga_sg, ga_sa, true_and, and_true, false_and, and_false, Nat.reduceEqDiff, ↓reduceIte]; rw [gs, a1], n603, if_neg (nI_pos (by omega)), show lenX 12 = 40 from rfl, if_neg (nI_ge (by omega) (by omega)), ck_nI (by omega) (by omega), if_pos ⟨c4, c1⟩]
        exact ⟨_, rfl, rfl⟩
    · rw [if_neg c4, if_pos rfl, if_neg (fun h => c4 h.1)]
      exact ⟨_, rfl, rfl⟩
  obtain ⟨s13, n1, n2⟩ := ent
  have zz : ZF v (40 * v + j) s5 s13 := by
    rw [n2]
    have u : ZF v (40 * v + j) s5 (si s5 103 (40 * v + j) (nI (vo d j ||| 2 ^ o))) := ZF.uf (UF.si (by omega) rfl s5)
    split
    · exact u.trans (ZF.sx (SX.sa (by omega) _ _))
    · exact u
  have gi13 : ∀ f i, gi s13 f i = if f = 103 ∧ i = 40 * v + j then nI (vo d j ||| 2 ^ o) else gi s5 f i := by
    intro f i
    rw [n2]
    split
    · simp only [gi_si, gi_sr, gi_sg, gi_sa, gr_si, rr_sr, gr_sg, gr_sa, ga_si, ga_sr, ga_sg, ga_sa, true_and, and_true, false_and, and_false, Nat.reduceEqDiff, ↓reduceIte]
    · simp only [gi_si, gi_sr, gi_sg, gi_sa, gr_si, rr_sr, gr_sg, gr_sa, ga_si, ga_sr, ga_sg, ga_sa, true_and, and_true, false_and, and_false, Nat.reduceEqDiff, ↓reduceIte]
  have ga13 : ∀ f i, ¬ (f = 8 ∧ i = 12) → ga s13 f i = ga σ f i := by
    intro f i hh
    rw [n2]
    split
    · simp only [gi_si, gi_sr, gi_sg, gi_sa, gr_si, rr_sr, gr_sg, gr_sa, ga_si, ga_sr, ga_sg, ga_sa, true_and, and_true, false_and, and_false, Nat.reduceEqDiff, ↓reduceIte]
      rw [if_neg hh, b5]
    · simp only [gi_si, gi_sr, gi_sg, gi_sa, gr_si, rr_sr, gr_sg, gr_sa, ga_si, ga_sr, ga_sg, ga_sa, true_and, and_true, false_and, and_false, Nat.reduceEqDiff, ↓reduceIte]
      rw [b5]
  have gr13 : ∀ i k, gr s13 i k = gr σ i k := by
    intro i k
    rw [n2]
    split
    · simp only [gi_si, gi_sr, gi_sg, gi_sa, gr_si, rr_sr, gr_sg, gr_sa, ga_si, ga_sr, ga_sg, ga_sa, true_and, and_true, false_and, and_false, Nat.reduceEqDiff, ↓reduceIte]
      rw [gs]
    · simp only [gi_si, gi_sr, gi_sg, gi_sa, gr_si, rr_sr, gr_sg, gr_sa, ga_si, ga_sr, ga_sg, ga_sa, true_and, and_true, false_and, and_false, Nat.reduceEqDiff, ↓reduceIte]
      rw [gs]
  have f13 : FXc s13 (40 * v + j) (vk d j) (vo d j ||| 2 ^ o) (oZ d j) (oH d j) (vd d j) (nP d j) (nB d j) (oC d j) (oO d j) := by
    obtain ⟨⟨c1, c2, c3, c4, c5, c6, c7⟩, c8, c9⟩ := f5
    refine ⟨⟨?_, ?_, ?_, ?_, ?_, LX_of c6 ?_ ?_, LX_of c7 ?_ ?_⟩, ?_, ?_⟩
    · rw [gi13, if_neg (by omega), c1]
    · rw [gi13, if_pos ⟨rfl, rfl⟩]
    · rw [gi13, if_neg (by omega), c3]
    · rw [gi13, if_neg (by omega), c4]
    · rw [gi13, if_neg (by omega), c5]
    · rw [gi13, if_neg (by omega)]
    · rw [ga13 _ _ (by omega), b5]
    · rw [gi13, if_neg (by omega)]
    · rw [ga13 _ _ (by omega), b5]
    · rw [gi13, if_neg (by omega), c8]
    · rw [gi13, if_neg (by omega), c9]
  rw [b1, e70]
  unfold f_X5_stepOption_102
  rw [n1, cl_mk, show gi s13 412 0 = nI o by rw [gi13, if_neg (by omega), b6]]
  simp only [bnd]
  have e9 : (if (3 : Int32) ≤ nI o then some (si s13 409 0 5, (0 : Int32)) else some (si s13 409 0 7, 0)) = some (si s13 409 0 (if 3 ≤ o then 5 else 7), 0) := by
    by_cases c3 : 3 ≤ o
    · rw [if_pos (show (3 : Int32) ≤ nI o from nI_le (a := 3) c3 (by omega)), if_pos c3]
    · rw [if_neg (show ¬ (3 : Int32) ≤ nI o from nI_ge (b := 3) (by omega) (by omega)), if_neg c3]
  rw [e9]
  refine ⟨_, rfl, ((ZF.sx sx5).trans zz).trans (ZF.sx (SX.si (by omega) _ _)), by simp only [gi_si, gi_sr, gi_sg, gi_sa, gr_si, rr_sr, gr_sg, gr_sa, ga_si, ga_sr, ga_sg, ga_sa, true_and, and_true, false_and, and_false, Nat.reduceEqDiff, ↓reduceIte], ?_, ?_, ?_, fun f i hh => ?_, fun i hh => ?_, ?_, ?_, f13.sx (SX.si (by omega) _ _)⟩
  · simp only [gi_si, gi_sr, gi_sg, gi_sa, gr_si, rr_sr, gr_sg, gr_sa, ga_si, ga_sr, ga_sg, ga_sa, true_and, and_true, false_and, and_false, Nat.reduceEqDiff, ↓reduceIte]
    rw [gi13, if_neg (by omega), b6]
  · simp only [gi_si, gi_sr, gi_sg, gi_sa, gr_si, rr_sr, gr_sg, gr_sa, ga_si, ga_sr, ga_sg, ga_sa, true_and, and_true, false_and, and_false, Nat.reduceEqDiff, ↓reduceIte]
    rw [gi13, if_neg (by omega), b7]
  · simp only [gi_si, gi_sr, gi_sg, gi_sa, gr_si, rr_sr, gr_sg, gr_sa, ga_si, ga_sr, ga_sg, ga_sa, true_and, and_true, false_and, and_false, Nat.reduceEqDiff, ↓reduceIte]
    rw [gr13]
  · simp only [gi_si, gi_sr, gi_sg, gi_sa, gr_si, rr_sr, gr_sg, gr_sa, ga_si, ga_sr, ga_sg, ga_sa, true_and, and_true, false_and, and_false, Nat.reduceEqDiff, ↓reduceIte]
    rw [if_neg (by omega), gi13, if_neg (by omega), b4 _ _ (by omega)]
  · simp only [gi_si, gi_sr, gi_sg, gi_sa, gr_si, rr_sr, gr_sg, gr_sa, ga_si, ga_sr, ga_sg, ga_sa, true_and, and_true, false_and, and_false, Nat.reduceEqDiff, ↓reduceIte]
    exact ga13 _ _ (by omega)
  · simp only [gi_si, gi_sr, gi_sg, gi_sa, gr_si, rr_sr, gr_sg, gr_sa, ga_si, ga_sr, ga_sg, ga_sa, true_and, and_true, false_and, and_false, Nat.reduceEqDiff, ↓reduceIte]
    rw [n2]
    split
    · simp only [gi_si, gi_sr, gi_sg, gi_sa, gr_si, rr_sr, gr_sg, gr_sa, ga_si, ga_sr, ga_sg, ga_sa, true_and, and_true, false_and, and_false, Nat.reduceEqDiff, ↓reduceIte]
      rw [b5]
    · simp only [gi_si, gi_sr, gi_sg, gi_sa, gr_si, rr_sr, gr_sg, gr_sa, ga_si, ga_sr, ga_sg, ga_sa, true_and, and_true, false_and, and_false, Nat.reduceEqDiff, ↓reduceIte]
      rw [b5]
  · unfold KXn
    simp only [gi_si, gi_sr, gi_sg, gi_sa, gr_si, rr_sr, gr_sg, gr_sa, ga_si, ga_sr, ga_sg, ga_sa, true_and, and_true, false_and, and_false, Nat.reduceEqDiff, ↓reduceIte]
    rw [gi13, gi13, if_neg (by omega), if_neg (by omega)]
    exact b2
end R9
