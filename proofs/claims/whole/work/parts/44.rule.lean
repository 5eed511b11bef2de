/-! Rules: rule. -/
abbrev fitN (F T : List Nat) (s : Nat) (a : List Nat) : Prop := F.length + T.length ≤ a.length ∧ (s ≠ 0 ∨ a.length = F.length + T.length) ∧ F <+: a ∧ T = a.drop (a.length - T.length)
def suitN (k met : Nat) : Bool := if k = 0 then decide (met ≤ 2) else if k = 1 then decide (met = 0) else if k = 2 ∨ k = 3 then decide (met = 1) else if k = 4 then decide (met = 2) else if k = 5 ∨ k = 6 then decide (met = 3) else false
section Ru
variable {σ τ : St} {tx : List Nat} {c : Nat} {ks ps ls : Nat → Nat}
theorem x_suit {k met : Nat} (hk : k < 8) (hm : met < 4) : f_X2_fits σ (nI k) (nI met) = some (σ, bI (suitN k met)) := by
  have h1 : k = 0 ∨ k = 1 ∨ k = 2 ∨ k = 3 ∨ k = 4 ∨ k = 5 ∨ k = 6 ∨ k = 7 := by omega
  have h2 : met = 0 ∨ met = 1 ∨ met = 2 ∨ met = 3 := by omega
  rcases h1 with rfl | rfl | rfl | rfl | rfl | rfl | rfl | rfl <;> rcases h2 with rfl | rfl | rfl | rfl <;> rfl
theorem m_suit {k met : Nat} (hk : k < 8) (hm : met < 4) : f_X9_suits τ (nI k) (nI met) = some (τ, bI (suitN k met)) := by
  have h1 : k = 0 ∨ k = 1 ∨ k = 2 ∨ k = 3 ∨ k = 4 ∨ k = 5 ∨ k = 6 ∨ k = 7 := by omega
  have h2 : met = 0 ∨ met = 1 ∨ met = 2 ∨ met = 3 := by omega
  rcases h1 with rfl | rfl | rfl | rfl | rfl | rfl | rfl | rfl <;> rcases h2 with rfl | rfl | rfl | rfl <;> rfl
theorem x_fit {q k s met o kp : Nat} {F T p : List Nat} (h : RX σ q k s F T) (hk : k < 8) (hs : s ≤ 1) (hm : met < 4) (hp : LX σ kp p) (ho : o ≤ p.length) : f_X4_fits σ q kp (nI o) (nI met) = some (σ, bI (decide (fitN F T s (p.drop o)) && suitN k met)) := by
  obtain ⟨r1, r2, r3, r4⟩ := h
  have b1 := hp.b
  have b2 := r3.b
  have b3 := r4.b
  unfold f_X4_fits f_X3_length
  simp only [cl_mk]
  rw [hp.1, r3.1, r4.1, ln_sub ho, nI_add]
  have hL : (p.drop o).length = p.length - o := List.length_drop
  by_cases c1 : p.length - o < F.length + T.length
  · rw [if_pos (nI_lt c1 (by omega)), decide_eq_false (fun hh => by unfold fitN at hh; omega)]
    rfl
  · rw [if_neg (nI_nlt (by omega) (by omega))]
    have main : f_X4_fits_48 σ q kp (nI o) (nI met) = some (σ, bI (decide (F <+: p.drop o ∧ T = (p.drop o).drop ((p.drop o).length - T.length)) && suitN k met)) := by
      unfold f_X4_fits_48 f_X3_length
      rw [r1, x_suit hk hm, cl_mk]
      by_cases e1 : suitN k met = true
      · rw [e1, bI_t, if_neg i10, lx_holds hp r3 ho, cl_mk, Bool.and_true]
        by_cases e2 : F <+: p.drop o
        · rw [bI_yes e2, if_neg i10]
          simp only [cl_mk]
          rw [hp.1, r4.1, ln_sub (by omega), lx_holds hp r4 (by omega), cl_mk, cl_bI]
          refine congrArg (fun b => some (σ, b)) (bI_c ?_)
          rw [List.drop_drop, hL]
          have e5 : o + (p.length - o - T.length) = p.length - T.length := by omega
          rw [e5]
          simp only [e2, true_and]
          constructor
          · intro hh
            exact hh.eq_of_length (by rw [List.length_drop]; omega)
          · intro hh
            rw [← hh]
            exact List.prefix_refl _
        · rw [bI_no e2, if_pos rfl, bI_no (fun hh => e2 hh.1)]
      · have e1 : suitN k met = false := by simpa using e1
        rw [e1, bI_f, if_pos rfl, Bool.and_false]
        rfl
    by_cases c2 : p.length - o ≤ F.length + T.length
    · rw [if_pos (nI_le c2 (by omega)), main]
      refine congrArg (fun b => some (σ, bI (b && suitN k met))) ?_
      rw [decide_eq_decide]
      unfold fitN
      rw [hL]
      constructor
      · intro hh
        exact ⟨by omega, Or.inr (by omega), hh.1, hh.2⟩
      · intro hh
        exact ⟨hh.2.2.1, hh.2.2.2⟩
    · rw [if_neg (nI_ge (by omega) (by omega)), r2]
      by_cases c3 : s = 0
      · rw [if_pos ((ln_eq0 (by omega)).mpr c3), decide_eq_false (fun hh => by unfold fitN at hh; omega)]
        rfl
      · rw [if_neg (fun e => c3 ((ln_eq0 (by omega)).mp e)), main]
        refine congrArg (fun b => some (σ, bI (b && suitN k met))) ?_
        rw [decide_eq_decide]
        unfold fitN
        rw [hL]
        constructor
        · intro hh
          exact ⟨by omega, Or.inl c3, hh.1, hh.2⟩
        · intro hh
          exact ⟨hh.2.2.1, hh.2.2.2⟩
theorem x_rules_loop {v met o kp : Nat} {d : Vd} {p : List Nat} (hX : VX σ v d) (w : VW d) (hm : met < 4) (hp : LX σ kp p) (ho : o ≤ p.length) : ∀ (r i : Nat), i + r = vr d → ∀ m, r < m → f_X7_ruleFor_3 m σ v kp (nI o) (nI met) (nI i) = some (σ, oI (fm (fun j => decide (fitN (rF d j) (rT d j) (rs d j) (p.drop o)) && suitN (rk d j) met) r i)) := by
  have h8 := w.1.2.2
  intro r
  induction r with
  | zero =>
    intro i hi m hm'
    obtain ⟨m, rfl⟩ : ∃ m', m = m' + 1 := ⟨m - 1, by omega⟩
    rw [f_X7_ruleFor_3.eq_2, hX.2.1, if_pos (nI_le (by omega) (by omega))]
    rfl
  | succ r ih =>
    intro i hi m hm'
    obtain ⟨m, rfl⟩ : ∃ m', m = m' + 1 := ⟨m - 1, by omega⟩
    have hr := w.2.2.2.2.2.2.1 i (by omega)
    rw [f_X7_ruleFor_3.eq_2, hX.2.1, if_neg (nI_ge (by omega) (by omega)), ck_nI (by omega) (by omega), x_fit (hX.2.2.2.2.1 i (by omega)) hr.1 hr.2.1 hm hp ho, cl_mk, nI_1, ih (i + 1) (by omega) m (by omega), fm.eq_2]
    cases (decide (fitN (rF d i) (rT d i) (rs d i) (p.drop o)) && suitN (rk d i) met) <;> rfl
/-- the first rule for a name -/
def frl (d : Vd) (a : List Nat) (met : Nat) : Option Nat := fm (fun j => decide (fitN (rF d j) (rT d j) (rs d j) a) && suitN (rk d j) met) (vr d) 0
theorem x_rules {v met o kp : Nat} {d : Vd} {p : List Nat} (hX : VX σ v d) (w : VW d) (hm : met < 4) (hp : LX σ kp p) (ho : o ≤ p.length) : f_X7_ruleFor σ v kp (nI o) (nI met) = some (σ, oI (frl d (p.drop o) met)) := by
  have h8 := w.1.2.2
  exact x_rules_loop hX w hm hp ho (vr d) 0 (by omega) fl (by have := fl_big; omega)
theorem m_tail (hT : TKM τ tx c ks ps ls) (w : TKW tx c ks ps ls) {q t : Nat} {T : List Nat} (hq : q < 64) (ht : t ≤ c) (b1 : Bs (ga τ 2 6) (12 * q) T) (hN : T.length ≤ 12) (bN : By T) (hl : T.length ≤ ls t) : ∀ (r i : Nat), i + r = T.length → ∀ m, r + 1 < m → f_X9_fits_122 m τ (nI q) (nI t) (nI (ls t)) (nI T.length) 1 (nI i) = some (τ, bI (decide (T.drop i = (wrd tx (ps t) (ls t)).drop (ls t - T.length + i)))) := by
  have hc := w.cc
  have hin := w.in ht
  have hlen := w.len ht
  have h2000 := w.2.2.2.2
  have bM : By (wrd tx (ps t) (ls t)) := By_sub hT.1.2.2.1 _ _
  intro r
  induction r with
  | zero =>
    intro i hi m hm
    obtain ⟨m, rfl⟩ : ∃ m', m = m' + 1 := ⟨m - 1, by omega⟩
    rw [f_X9_fits_122.eq_2, if_pos (nI_le (by omega) (by omega)), cq_1, List.drop_eq_nil_of_le (by omega), List.drop_eq_nil_of_le (by omega), bI_yes rfl]
  | succ r ih =>
    intro i hi m hm
    obtain ⟨m, rfl⟩ : ∃ m', m = m' + 2 := ⟨m - 2, by omega⟩
    have x1 := b1 i (by omega)
    rw [f_X9_fits_122.eq_2, if_neg (nI_ge (by omega) (by omega)), if_neg i10, ck_nI (by omega) (by omega), (hT.2.2 t ht).2.1, nI_add, ln_sub (by omega), nI_add, ck_nI (by omega) (by omega), ln_12, nI_add, ck_nI (by omega) (by omega), x1, hT.1.g (by omega)]
    have e7 : ps t + ls t - T.length + i = ps t + (ls t - T.length + i) := by omega
    rw [e7, ← el_wrd w ht (by omega)]
    unfold f_X9_fits_173
    rw [nI_1, ih (i + 1) (by omega) (m + 1) (by omega), drop_c (show i < T.length by omega), drop_c (show ls t - T.length + i < (wrd tx (ps t) (ls t)).length by omega)]
    simp only [sB_inj (By_get bM _) (By_get bN i), List.cons.injEq]
    by_cases e : el (wrd tx (ps t) (ls t)) (ls t - T.length + i) = el T i
    · rw [if_pos e]
      refine congrArg (fun b => some (τ, b)) (bI_c ?_)
      simp [e, Nat.add_assoc]
    · rw [if_neg e, bI_no (fun hh => e hh.1.symm), f_X9_fits_122.eq_2]
      split
      · rfl
      · rw [if_pos rfl]
        rfl
theorem m_tail0 {q t n b : Int32} : f_X9_fits_119 τ q t n b 0 = some (τ, 0) := by
  unfold f_X9_fits_119
  rw [show fl = 20099 + 1 from rfl, f_X9_fits_122.eq_2]
  split
  · rfl
  · rw [if_pos rfl]
    rfl
theorem m_front (hT : TKM τ tx c ks ps ls) (w : TKW tx c ks ps ls) {q t : Nat} {F : List Nat} {nb : Int32} (hq : q < 64) (ht : t ≤ c) (b1 : Bs (ga τ 2 5) (12 * q) F) (hN : F.length ≤ 12) (bN : By F) (hl : F.length ≤ ls t) : ∀ (r i : Nat), i + r = F.length → ∀ m, r + 1 < m → f_X9_fits_65 m τ (nI q) (nI t) (nI (ls t)) (nI F.length) nb 1 (nI i) = f_X9_fits_119 τ (nI q) (nI t) (nI (ls t)) nb (bI (decide (F.drop i <+: (wrd tx (ps t) (ls t)).drop i))) := by
  have hc := w.cc
  have hin := w.in ht
  have hlen := w.len ht
  have h2000 := w.2.2.2.2
  have bM : By (wrd tx (ps t) (ls t)) := By_sub hT.1.2.2.1 _ _
  intro r
  induction r with
  | zero =>
    intro i hi m hm
    obtain ⟨m, rfl⟩ : ∃ m', m = m' + 1 := ⟨m - 1, by omega⟩
    rw [f_X9_fits_65.eq_2, if_pos (nI_le (by omega) (by omega)), List.drop_eq_nil_of_le (by omega), bI_yes (List.nil_prefix)]
  | succ r ih =>
    intro i hi m hm
    obtain ⟨m, rfl⟩ : ∃ m', m = m' + 2 := ⟨m - 2, by omega⟩
    have x1 := b1 i (by omega)
    rw [f_X9_fits_65.eq_2, if_neg (nI_ge (by omega) (by omega)), if_neg i10, ck_nI (by omega) (by omega), (hT.2.2 t ht).2.1, nI_add, ck_nI (by omega) (by omega), ln_12, nI_add, ck_nI (by omega) (by omega), x1, hT.1.g (by omega), ← el_wrd w ht (by omega)]
    unfold f_X9_fits_111
    rw [nI_1, ih (i + 1) (by omega) (m + 1) (by omega), drop_c (show i < F.length by omega), drop_c (show i < (wrd tx (ps t) (ls t)).length by omega)]
    simp only [sB_inj (By_get bM _) (By_get bN i), List.cons_prefix_cons]
    by_cases e : el (wrd tx (ps t) (ls t)) i = el F i
    · rw [if_pos e]
      refine congrArg (fun b => f_X9_fits_119 τ (nI q) (nI t) (nI (ls t)) nb b) (bI_c ?_)
      simp [e]
    · rw [if_neg e, bI_no (fun hh => e hh.1.symm), f_X9_fits_65.eq_2]
      split
      · rfl
      · rw [if_pos rfl]
theorem m_fit (hT : TKM τ tx c ks ps ls) (w : TKW tx c ks ps ls) {q t k s : Nat} {F T : List Nat} (hq : q < 64) (ht : t ≤ c) (h : RM τ q k s F T) (hs : s ≤ 1) (hF : F = [] ∨ Nm F) (hTT : T = [] ∨ Nm T) (h0 : s = 0 → T = []) : f_X9_fits τ (nI q) (nI t) = some (τ, bI (decide (fitN F T s (wrd tx (ps t) (ls t))))) := by
  obtain ⟨r1, r2, r3, r4, r5, r6⟩ := h
  have hc := w.cc
  have hin := w.in ht
  have hlen := w.len ht
  have h2000 := w.2.2.2.2
  have lF := Nm.le hF
  have lT := Nm.le hTT
  have good : (F.length + T.length ≤ ls t ∧ (s ≠ 0 ∨ ls t = F.length + T.length)) → f_X9_fits_60 τ 1 (nI q) (nI t) (nI (ls t)) (nI F.length) (nI T.length) = some (τ, bI (decide (fitN F T s (wrd tx (ps t) (ls t))))) := by
    intro hh
    unfold f_X9_fits_60
    have g1 := m_front (nb := nI T.length) hT w hq ht r4 lF (Nm.by'' hF) (by omega) F.length 0 (by omega) fl (by have := fl_big; omega)
    have g1 : f_X9_fits_65 fl τ (nI q) (nI t) (nI (ls t)) (nI F.length) (nI T.length) 1 0 = _ := g1
    rw [g1, List.drop_zero, List.drop_zero]
    by_cases e : F <+: wrd tx (ps t) (ls t)
    · rw [bI_yes e]
      have g2 := m_tail hT w hq ht r6 lT (Nm.by'' hTT) (by omega) T.length 0 (by omega) fl (by have := fl_big; omega)
      unfold f_X9_fits_119
      have g2 : f_X9_fits_122 fl τ (nI q) (nI t) (nI (ls t)) (nI T.length) 1 0 = _ := g2
      rw [g2, List.drop_zero, Nat.add_zero]
      refine congrArg (fun b => some (τ, b)) (bI_c ?_)
      unfold fitN
      rw [hlen]
      constructor
      · intro x
        exact ⟨hh.1, hh.2, e, x⟩
      · intro x
        exact x.2.2.2
    · rw [bI_no e, m_tail0, bI_no (fun x => e x.2.2.1)]
  have bad : ¬ (F.length + T.length ≤ ls t ∧ (s ≠ 0 ∨ ls t = F.length + T.length)) → f_X9_fits_60 τ 0 (nI q) (nI t) (nI (ls t)) (nI F.length) (nI T.length) = some (τ, bI (decide (fitN F T s (wrd tx (ps t) (ls t))))) := by
    intro hh
    unfold f_X9_fits_60
    rw [show fl = 20099 + 1 from rfl, f_X9_fits_65.eq_2, bI_no (fun x => hh (by unfold fitN at x; rw [hlen] at x; exact ⟨x.1, x.2.1⟩))]
    split
    · exact m_tail0
    · rw [if_pos rfl]
      exact m_tail0
  unfold f_X9_fits
  rw [ck_nI (by omega) (by omega), ck_nI (by omega) (by omega), ck_nI (by omega) (by omega), ck_nI (by omega) (by omega), r2, r3, r5, (hT.2.2 t ht).2.2, nI_add]
  by_cases c1 : s = 0
  · have hT0 : T.length = 0 := by rw [h0 c1]; rfl
    rw [if_pos ((ln_eq0 (by omega)).mpr c1)]
    by_cases c2 : ls t = F.length
    · rw [if_pos (by rw [c2]), good (by omega)]
    · rw [if_neg (fun e => c2 ((ln_eq (by omega) (by omega)).mp e)), bad (by omega)]
  · rw [if_neg (fun e => c1 ((ln_eq0 (by omega)).mp e))]
    by_cases c2 : ls t < F.length + T.length
    · rw [if_pos (nI_lt c2 (by omega)), bad (by omega)]
    · rw [if_neg (nI_nlt (by omega) (by omega)), good (by omega)]
theorem m_rules_loop {v met t : Nat} {d : Vd} (hv : v < 8) (hM : VM τ v d) (wv : VW d) (hm : met < 4) (hT : TKM τ tx c ks ps ls) (w : TKW tx c ks ps ls) (ht : t ≤ c) : ∀ (r i : Nat), i + r = vr d → ∀ m, r < m → f_X9_firstRule_3 m τ (nI v) (nI t) (nI met) (nI i) = some (τ, oI (fm (fun j => decide (fitN (rF d j) (rT d j) (rs d j) (wrd tx (ps t) (ls t))) && suitN (rk d j) met) r i)) := by
  have h8 := wv.1.2.2
  intro r
  induction r with
  | zero =>
    intro i hi m hm'
    obtain ⟨m, rfl⟩ : ∃ m', m = m' + 1 := ⟨m - 1, by omega⟩
    rw [f_X9_firstRule_3.eq_2, ck_nI hv (by omega), hM.2.1, if_pos (nI_le (by omega) (by omega))]
    rfl
  | succ r ih =>
    intro i hi m hm'
    obtain ⟨m, rfl⟩ : ∃ m', m = m' + 1 := ⟨m - 1, by omega⟩
    have hr := wv.2.2.2.2.2.2.1 i (by omega)
    have hrm := hM.2.2.2.2 i (by omega)
    unfold f_X9_firstRule_51 at *
    rw [f_X9_firstRule_3.eq_2, ck_nI hv (by omega), hM.2.1, if_neg (nI_ge (by omega) (by omega)), ln_8, nI_add, m_fit hT w (by omega) ht hrm hr.2.1 hr.2.2.1 hr.2.2.2.1 hr.2.2.2.2, cl_mk, fm.eq_2]
    unfold f_X9_firstRule_51
    rw [nI_1, ih (i + 1) (by omega) m (by omega)]
    by_cases e : fitN (rF d i) (rT d i) (rs d i) (wrd tx (ps t) (ls t))
    · rw [bI_yes e, if_neg i10, ck_nI (by omega) (by omega), hrm.1, m_suit hr.1 hm, cl_mk, decide_eq_true e, Bool.true_and]
      cases suitN (rk d i) met
      · rw [bI_f, if_pos rfl, ih (i + 1) (by omega) m (by omega)]
        rfl
      · rfl
    · rw [bI_no e, if_pos rfl, decide_eq_false e, Bool.false_and]
      rfl
theorem m_rules {v met t : Nat} {d : Vd} (hv : v < 8) (hM : VM τ v d) (wv : VW d) (hm : met < 4) (hT : TKM τ tx c ks ps ls) (w : TKW tx c ks ps ls) (ht : t ≤ c) : f_X9_firstRule τ (nI v) (nI t) (nI met) = some (τ, oI (frl d (wrd tx (ps t) (ls t)) met)) := by
  have h8 := wv.1.2.2
  exact m_rules_loop hv hM wv hm hT w ht (vr d) 0 (by omega) fl (by have := fl_big; omega)
theorem isMet (y : Int32) : (∃ met, met < 4 ∧ y = nI met ∧ f_X8_isMet σ y = some (σ, 1) ∧ f_X9_in τ y 0 3 = some (τ, 1)) ∨ (f_X8_isMet σ y = some (σ, 0) ∧ f_X9_in τ y 0 3 = some (τ, 0)) := by
  rcases pk_ix y (n := 4) (by omega) with h0 | h0 | ⟨j, hj, rfl⟩
  · right
    unfold f_X8_isMet f_X9_in
    rw [if_pos h0, if_pos h0]
    exact ⟨rfl, rfl⟩
  · right
    have h1 : (3 : Int32) < y := by
      rw [pr_lt]
      rw [pr_le] at h0
      have e3 : (3 : Int32).toInt = 3 := by decide
      have e4 : (nI 4).toInt = 4 := by decide
      omega
    unfold f_X8_isMet f_X9_in
    rw [if_pos h1]
    constructor
    · split <;> rfl
    · split <;> rfl
  · left
    refine ⟨j, hj, rfl, ?_⟩
    have h2 : j = 0 ∨ j = 1 ∨ j = 2 ∨ j = 3 := by omega
    rcases h2 with rfl | rfl | rfl | rfl <;> exact ⟨rfl, rfl⟩
theorem op_rule (h : RR σ τ) (x y : Int32) : OK (f_X8_rule σ x y) (f_X9_rule_ τ x y) := by
  obtain ⟨tx, ou, nv, W, h1, h2, h3, h4⟩ := h
  obtain ⟨σ', τ', r1, r2, r3, r4, hh⟩ := take_path h1 h2 h3 h4
  have hn := r4.1
  have hR : RR σ' τ' := ⟨[], ou, nv, W, r1, r2, r3, r4⟩
  -- it is no name
  have no : ∀ z : Int32, ¬ z = 1 → OK (f_X8_rule_22 f_X8_rule_23 σ' x y) (cl (f_X9_isVersion τ' x) fun s3 x4 => if x4 = 0 then some (s3, -1) else cl (f_X9_in s3 y 0 3) fun s5 x6 => if x6 = 0 then some (s5, -1) else if z = 1 then cl (f_X9_firstRule s5 x 0 y) fun s7 x8 => some (s7, x8) else some (s5, -2)) := by
    intro z hz
    unfold f_X8_rule_22 f_X8_rule_23
    rcases isV r4 x with ⟨v, hv, rfl, g1, g2⟩ | ⟨g1, g2⟩
    · rw [g1, g2, cl_mk, cl_mk, if_neg i10, if_neg i10]
      rcases isMet (σ := σ') (τ := τ') y with ⟨met, hm, rfl, m1, m2⟩ | ⟨m1, m2⟩
      · rw [m1, m2, cl_mk, cl_mk, if_neg i10, if_neg i10, if_pos rfl, if_neg hz]
        exact ⟨σ', τ', -2, rfl, rfl, hR⟩
      · rw [m1, m2, cl_mk, cl_mk, if_pos rfl, if_pos rfl]
        exact ⟨σ', τ', -1, rfl, rfl, hR⟩
    · rw [g1, g2, cl_mk, cl_mk, if_pos rfl, if_pos rfl]
      exact ⟨σ', τ', -1, rfl, rfl, hR⟩
  unfold f_X8_rule f_X9_rule_
  rcases hh with ⟨e1, e2⟩ | ⟨c, ks, ps, ls, n, n0, hn2, e1, e2, hM, w, hP, e5, hlx⟩
  · rw [e1, e2, cl_mk, cl_mk, if_pos rfl]
    exact no 0 (by decide)
  · have hc := w.cc
    rw [e1, e2, cl_mk, cl_mk]
    by_cases c1 : n = 1
    · subst c1
      have hcc : c = 1 := by omega
      subst hcc
      have hw := w.nm (t := 0) (by omega) (hP.1 0 (by omega)).2
      have hp : pj tx ps ls 1 0 = wrd tx (ps 0) (ls 0) := rfl
      rw [hp] at hlx ⊢
      have h64 : (wrd tx (ps 0) (ls 0)).length ≤ 64 := by have := hw.2.1; omega
      rw [bI_yes h64, if_neg i10]
      unfold f_X6_count
      rw [cl_mk, e5, if_pos (show nI 1 = 1 from rfl)]
      unfold f_X8_rule_23
      rcases isV r4 x with ⟨v, hv, rfl, g1, g2⟩ | ⟨g1, g2⟩
      · obtain ⟨a, b, wv⟩ := r4.2.2.2 v hv
        rw [g1, g2, cl_mk, cl_mk, if_neg i10, if_neg i10]
        rcases isMet (σ := σ') (τ := τ') y with ⟨met, hm, rfl, m1, m2⟩ | ⟨m1, m2⟩
        · have k1 := x_rules (o := 0) a wv hm (hlx h64) (Nat.zero_le _)
          have k2 := m_rules (t := 0) (by omega) b wv hm hM w (by omega)
          have k1 : f_X7_ruleFor σ' v 1 0 (nI met) = _ := k1
          have k2 : f_X9_firstRule τ' (nI v) 0 (nI met) = _ := k2
          rw [List.drop_zero] at k1
          rw [m1, m2, cl_mk, cl_mk, if_neg i10, if_neg i10, if_neg i10, if_pos (show nI 1 = 1 from rfl), ck_nI (by omega) (by omega), k1, k2, cl_mk, cl_mk]
          exact ⟨σ', τ', _, rfl, rfl, hR⟩
        · rw [m1, m2, cl_mk, cl_mk, if_pos rfl, if_pos rfl]
          exact ⟨σ', τ', -1, rfl, rfl, hR⟩
      · rw [g1, g2, cl_mk, cl_mk, if_pos rfl, if_pos rfl]
        exact ⟨σ', τ', -1, rfl, rfl, hR⟩
    · have nz := no (nI n) (fun e => c1 ((ln_eq (b := 1) (by omega) (by omega)).mp e))
      by_cases e : (pj tx ps ls n 0).length ≤ 64
      · rw [bI_yes e, if_neg i10]
        unfold f_X6_count
        rw [cl_mk, e5, if_neg (fun e => by have := (ln_eq (b := 1) (by omega) (by omega)).mp e; omega)]
        exact nz
      · rw [bI_no e, if_pos rfl]
        exact nz
end Ru
