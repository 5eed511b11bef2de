/-! Comparing and writing the class's letters. -/
/-- how two rows of bytes stand to each other -/
def cmI : List Nat → List Nat → Int32
  | [], m => nI 0 - nI m.length
  | a :: l, [] => nI (a :: l).length - nI 0
  | a :: l, b :: m => if a = b then cmI l m else nI a - nI b
theorem nI_subadd (a b i : Nat) : nI (a + i) - nI (b + i) = nI a - nI b := by
  rw [← nI_add, ← nI_add]
  apply Int32.toBitVec_inj.mp
  simp only [Int32.toBitVec_sub, Int32.toBitVec_add]
  apply BitVec.eq_of_toNat_eq
  simp only [BitVec.toNat_sub, BitVec.toNat_add]
  omega
section Lw
variable {σ : St} {k m : Nat} {l p : List Nat}
theorem cmI_end (l p : List Nat) (i : Nat) (hi : i = min l.length p.length) : nI l.length - nI p.length = cmI (l.drop i) (p.drop i) := by
  by_cases h : l.length ≤ p.length
  · have : i = l.length := by omega
    subst this
    rw [List.drop_eq_nil_of_le (Nat.le_refl _)]
    unfold cmI
    rw [List.length_drop]
    have e1 : l.length = 0 + l.length := by omega
    have e2 : p.length = (p.length - l.length) + l.length := by omega
    have := nI_subadd 0 (p.length - l.length) l.length
    rw [← e1, ← e2] at this
    exact this
  · have : i = p.length := by omega
    subst this
    rw [List.drop_eq_nil_of_le (as := p) (Nat.le_refl _)]
    have e1 : p.length = 0 + p.length := by omega
    have e2 : l.length = (l.length - p.length) + p.length := by omega
    have h3 := nI_subadd (l.length - p.length) 0 p.length
    rw [← e1, ← e2] at h3
    rw [h3]
    have : (l.drop p.length).length = l.length - p.length := List.length_drop
    cases hd : l.drop p.length with
    | nil =>
      rw [hd] at this
      simp at this
      omega
    | cons a r =>
      rw [hd] at this
      unfold cmI
      rw [this]
theorem cmI_stepE {l p : List Nat} {i : Nat} (h1 : i < l.length) (h2 : i < p.length) (e : el l i = el p i) : cmI (l.drop i) (p.drop i) = cmI (l.drop (i + 1)) (p.drop (i + 1)) := by
  rw [drop_c h1, drop_c h2]
  show (if el l i = el p i then _ else _) = _
  rw [if_pos e]
theorem cmI_stepN {l p : List Nat} {i : Nat} (h1 : i < l.length) (h2 : i < p.length) (e : ¬ el l i = el p i) : cmI (l.drop i) (p.drop i) = nI (el l i) - nI (el p i) := by
  rw [drop_c h1, drop_c h2]
  show (if el l i = el p i then _ else _) = _
  rw [if_neg e]
theorem lx_comp_loop (h : LX σ k l) (hp : LX σ m p) {c : Nat} (hc : c = min l.length p.length) : ∀ (d i : Nat), i + d = c → ∀ n, d < n → f_X3_compareWith_14 n σ k m (nI c) (nI i) = some (σ, cmI (l.drop i) (p.drop i)) := by
  have h1 := h.b
  have h2 := h.2.1
  have h3 := hp.b
  have h4 := hp.2.1
  have h5 := capX_le k
  have h6 := capX_le m
  intro d
  induction d with
  | zero =>
    intro i hi n hn
    obtain ⟨n, rfl⟩ : ∃ n', n = n' + 1 := ⟨n - 1, by omega⟩
    simp (disch := omega) only [f_X3_compareWith_14, h.1, hp.1, ln_le, ln_lt, ln_eq, ln_neg, ln_0le, ln_le0, ln_0lt, ln_eq0, nI_1, nI_add, ln_40, ln_12, ln_8, ck_nI, ck_0]
    rw [if_pos (by omega), cmI_end l p i (by omega)]
  | succ d ih =>
    intro i hi n hn
    obtain ⟨n, rfl⟩ : ∃ n', n = n' + 1 := ⟨n - 1, by omega⟩
    simp (disch := omega) only [f_X3_compareWith_14, h.1, hp.1, ln_le, ln_lt, ln_eq, ln_neg, ln_0le, ln_le0, ln_0lt, ln_eq0, nI_1, nI_add, ln_40, ln_12, ln_8, ck_nI, ck_0]
    rw [if_neg (by omega), h.g (by omega), hp.g (by omega), ih (i + 1) (by omega) n (by omega)]
    simp only [sB_inj (By_get h.2.2.2 _) (By_get hp.2.2.2 _), sB_and (By_get h.2.2.2 _), sB_and (By_get hp.2.2.2 _)]
    by_cases e : el l i = el p i
    · rw [if_pos e, cmI_stepE (by omega) (by omega) e]
    · rw [if_neg e, cmI_stepN (by omega) (by omega) e]
theorem lx_comp (h : LX σ k l) (hp : LX σ m p) : f_X3_compareWith σ k m = some (σ, cmI l p) := by
  have h1 := h.b
  have h3 := hp.b
  unfold f_X3_compareWith
  rw [h.1, hp.1]
  have e : (if nI p.length < nI l.length then nI p.length else nI l.length) = nI (min l.length p.length) := by
    simp (disch := omega) only [ln_lt]
    split
    · congr 1
      omega
    · congr 1
      omega
  simp only [bnd]
  rw [e]
  exact lx_comp_loop h hp rfl (min l.length p.length) 0 (by omega) fl (by have := fl_big; omega)
/-- where the last point is -/
def lpt (l : List Nat) : Nat → Option Nat
  | 0 => none
  | n + 1 => if el l n = 46 then some n else lpt l n
theorem lpt_lt {l : List Nat} {n j : Nat} (h : lpt l n = some j) : j < n := by
  induction n with
  | zero => cases h
  | succ n ih =>
    unfold lpt at h
    split at h
    · cases h
      omega
    · have := ih h
      omega
theorem lx_last_loop (h : LX σ k l) : ∀ (i : Nat), i ≤ l.length → ∀ n, i < n → f_X3_lastPoint_7 n σ k (nI i - 1) = some (σ, oI (lpt l i)) := by
  have h1 := h.b
  have h2 := h.2.1
  have h5 := capX_le k
  intro i
  induction i with
  | zero =>
    intro hi n hn
    obtain ⟨n, rfl⟩ : ∃ n', n = n' + 1 := ⟨n - 1, by omega⟩
    unfold f_X3_lastPoint_7
    rw [if_pos (by decide)]
    rfl
  | succ i ih =>
    intro hi n hn
    obtain ⟨n, rfl⟩ : ∃ n', n = n' + 1 := ⟨n - 1, by omega⟩
    have e46 : (46 : Int32) = sB 46 := by decide
    rw [ln_pred (by omega), Nat.add_sub_cancel]
    simp (disch := omega) only [f_X3_lastPoint_7, ln_le, ln_lt, ln_eq, ln_neg, ln_0le, ln_le0, ln_0lt, ln_eq0, nI_1, nI_add, ln_40, ln_12, ln_8, ck_nI, ck_0]
    rw [if_neg (by simp), h.g (by omega), e46]
    simp only [sB_inj (By_get h.2.2.2 i) (show 46 < 256 by decide)]
    have := ih (by omega) n (by omega)
    unfold lpt
    by_cases e : el l i = 46
    · rw [if_pos e, if_pos e]
      rfl
    · rw [if_neg e, if_neg e, ← this]
      rw [Int32.sub_eq_add_neg]
theorem lx_last (h : LX σ k l) : f_X3_lastPoint σ k = some (σ, oI (lpt l l.length)) := by
  unfold f_X3_lastPoint
  rw [h.1]
  have := h.b
  exact lx_last_loop h l.length (Nat.le_refl _) fl (by have := fl_big; omega)
def nst (l : List Nat) : Nat := match lpt l l.length with
  | none => 0
  | some j => j + 1
theorem lx_nst (h : LX σ k l) : f_X3_nameStart σ k = some (σ, nI (nst l)) := by
  unfold f_X3_nameStart
  rw [lx_last h, cl_mk]
  unfold nst
  have := h.b
  cases e : lpt l l.length with
  | none => rfl
  | some j =>
    have := lpt_lt e
    show some (σ, (if nI j < -1 then -1 else nI j) + 1) = _
    rw [if_neg, nI_1]
    intro hh
    have hh := Int32.lt_iff_toInt_lt.mp hh
    rw [ln_toInt (by omega)] at hh
    have : (-1 : Int32).toInt = -1 := by decide
    omega
/-- all but the letters k is as before -/
def UL (k : Nat) (σ σ' : St) : Prop := σ'.2.1 = σ.2.1 ∧ (∀ f i, ¬ ((f = 201 ∨ f = 202) ∧ i = k) → gi σ' f i = gi σ f i) ∧ (∀ f i, ¬ (f = 2 ∧ i = k) → ga σ' f i = ga σ f i)
theorem UL.rfl' {k : Nat} {σ : St} : UL k σ σ := ⟨rfl, fun _ _ _ => rfl, fun _ _ _ => rfl⟩
theorem UL.trans {k : Nat} {σ σ1 σ2 : St} (h : UL k σ σ1) (h2 : UL k σ1 σ2) : UL k σ σ2 := ⟨h2.1.trans h.1, fun f i hh => (h2.2.1 f i hh).trans (h.2.1 f i hh), fun f i hh => (h2.2.2 f i hh).trans (h.2.2 f i hh)⟩
theorem UL.lx {k : Nat} {σ σ' : St} (h : UL k σ σ') {m : Nat} {l : List Nat} (hm : m ≠ k) (hl : LX σ m l) : LX σ' m l := by
  unfold LX
  rw [h.2.1 201 m (by omega), h.2.2 2 m (by omega)]
  exact hl
theorem UL.gr {k : Nat} {σ σ' : St} (h : UL k σ σ') (f i : Nat) : gr σ' f i = gr σ f i := by
  show σ'.2.1 f i = σ.2.1 f i
  rw [h.1]
theorem lx_clear (k : Nat) (σ : St) : ∃ σ', f_X3_clear σ k = some (σ', ()) ∧ UL k σ σ' ∧ LX σ' k [] ∧ gi σ' 202 k = 0 := by
  refine ⟨_, rfl, ⟨rfl, fun f i h => ?_, fun f i h => rfl⟩, ⟨?_, Nat.zero_le _, fun i hi => absurd hi (Nat.not_lt_zero _), fun c hc => (nomatch hc)⟩, ?_⟩
  · simp only [gi_si]
    rw [if_neg (by omega), if_neg (by omega)]
  · simp [gi_si]
    rfl
  · simp [gi_si]
theorem el_app {a b : List Nat} (i : Nat) : el (a ++ b) i = if i < a.length then el a i else el b (i - a.length) := by
  unfold el
  simp only [List.getD_eq_getElem?_getD]
  split
  · rw [List.getElem?_append_left (by assumption)]
  · rw [List.getElem?_append_right (by omega)]
theorem By_app {a b : List Nat} (ha : By a) (hb : By b) : By (a ++ b) := fun c hc => (List.mem_append.mp hc).elim (ha c) (hb c)
theorem By_sub {a : List Nat} (ha : By a) (o n : Nat) : By ((a.drop o).take n) := fun c hc => ha c (List.mem_of_mem_drop (List.mem_of_mem_take hc))
theorem el_sub {a : List Nat} {o n i : Nat} (h : i < n) : el ((a.drop o).take n) i = el a (o + i) := by
  unfold el
  rw [List.getD_eq_getElem?_getD, List.getD_eq_getElem?_getD, List.getElem?_take_of_lt h, List.getElem?_drop]
theorem Bs_app {f : Nat → Int32} {o : Nat} {a b : List Nat} (ha : Bs f o a) (hb : Bs f (o + a.length) b) : Bs f o (a ++ b) := by
  intro i hi
  rw [List.length_append] at hi
  rw [el_app]
  split
  · exact ha i (by assumption)
  · have := hb (i - a.length) (by omega)
    rw [← this]
    congr 1
    omega
theorem lx_add (h : LX σ k l) {c : Nat} (hc : c < 256) (hr : l.length < capX k) : ∃ σ', f_X3_add σ k (nI c) = some (σ', ()) ∧ UL k σ σ' ∧ LX σ' k (l ++ [c]) ∧ gi σ' 202 k = gi σ 202 k := by
  have h1 := h.b
  have h5 := capX_le k
  unfold f_X3_add
  rw [h.1, if_pos ((ln_lt (by omega) (by omega)).mpr hr), ck_nI hr (by omega)]
  refine ⟨_, rfl, ⟨rfl, fun f i hh => ?_, fun f i hh => ?_⟩, ⟨?_, ?_, ?_, By_app h.2.2.2 (fun d hd => by simp at hd; omega)⟩, ?_⟩
  · simp only [gi_si, gi_sr, gi_sg, gi_sa, gr_si, rr_sr, gr_sg, gr_sa, ga_si, ga_sr, ga_sg, ga_sa, true_and, and_true, false_and, and_false, Nat.reduceEqDiff, ↓reduceIte]
    rw [if_neg (by omega)]
  · simp only [gi_si, gi_sr, gi_sg, gi_sa, gr_si, rr_sr, gr_sg, gr_sa, ga_si, ga_sr, ga_sg, ga_sa, true_and, and_true, false_and, and_false, Nat.reduceEqDiff, ↓reduceIte]
    rw [if_neg (by omega)]
  · simp only [gi_si, gi_sr, gi_sg, gi_sa, gr_si, rr_sr, gr_sg, gr_sa, ga_si, ga_sr, ga_sg, ga_sa, true_and, and_true, false_and, and_false, Nat.reduceEqDiff, ↓reduceIte]
    rw [h.1, nI_1]
    simp
  · simp
    omega
  · refine Bs_app ?_ ?_
    · intro i hi
      simp only [gi_si, gi_sr, gi_sg, gi_sa, gr_si, rr_sr, gr_sg, gr_sa, ga_si, ga_sr, ga_sg, ga_sa, true_and, and_true, false_and, and_false, Nat.reduceEqDiff, ↓reduceIte]
      unfold upd
      rw [if_neg (by omega)]
      exact h.2.2.1 i hi
    · intro i hi
      have : i = 0 := by simpa using hi
      subst this
      simp only [gi_si, gi_sr, gi_sg, gi_sa, gr_si, rr_sr, gr_sg, gr_sa, ga_si, ga_sr, ga_sg, ga_sa, true_and, and_true, false_and, and_false, Nat.reduceEqDiff, ↓reduceIte]
      unfold upd
      rw [if_pos (by omega), sB_add]
      rfl
  · simp [gi_si, gi_sr, gi_sg, gi_sa, gr_si, rr_sr, gr_sg, gr_sa, ga_si, ga_sr, ga_sg, ga_sa, true_and, and_true, false_and, and_false, Nat.reduceEqDiff, ↓reduceIte]
theorem lx_part (h : LX σ k l) (hp : LX σ m p) {o n : Nat} (ho : o + n ≤ p.length) (hr : l.length + n ≤ capX k) : ∃ σ', f_X3_addPart σ k m (nI o) (nI n) = some (σ', ()) ∧ UL k σ σ' ∧ LX σ' k (l ++ (p.drop o).take n) ∧ gi σ' 202 k = gi σ 202 k := by
  have h1 := h.b
  have h2 := hp.b
  have h5 := capX_le k
  have h6 := capX_le m
  have h7 := hp.2.1
  unfold f_X3_addPart
  rw [h.1, hp.1, if_neg (nI_pos (by omega)), if_neg (nI_pos (by omega)), ln_sub (by omega), if_pos ((ln_le (by omega) (by omega)).mpr (by omega)), ln_sub (by omega), if_pos ((ln_le (by omega) (by omega)).mpr (by omega))]
  simp (disch := omega) only [ln_0le, ln_toInt, Int.toNat_natCast]
  rw [decide_eq_true (by simp; omega)]
  have e3 : ((p.drop o).take n).length = n := by
    rw [List.length_take, List.length_drop]
    omega
  refine ⟨_, rfl, ⟨rfl, fun f i hh => ?_, fun f i hh => ?_⟩, ⟨?_, ?_, ?_, By_app h.2.2.2 (By_sub hp.2.2.2 o n)⟩, ?_⟩
  · simp only [gi_si, gi_sr, gi_sg, gi_sa, gr_si, rr_sr, gr_sg, gr_sa, ga_si, ga_sr, ga_sg, ga_sa, true_and, and_true, false_and, and_false, Nat.reduceEqDiff, ↓reduceIte]
    rw [if_neg (by omega)]
  · simp only [gi_si, gi_sr, gi_sg, gi_sa, gr_si, rr_sr, gr_sg, gr_sa, ga_si, ga_sr, ga_sg, ga_sa, true_and, and_true, false_and, and_false, Nat.reduceEqDiff, ↓reduceIte]
    rw [if_neg (by omega)]
  · simp only [gi_si, gi_sr, gi_sg, gi_sa, gr_si, rr_sr, gr_sg, gr_sa, ga_si, ga_sr, ga_sg, ga_sa, true_and, and_true, false_and, and_false, Nat.reduceEqDiff, ↓reduceIte]
    rw [h.1, nI_add, List.length_append, e3]
  · rw [List.length_append, e3]
    exact hr
  · refine Bs_app ?_ ?_
    · intro i hi
      simp only [gi_si, gi_sr, gi_sg, gi_sa, gr_si, rr_sr, gr_sg, gr_sa, ga_si, ga_sr, ga_sg, ga_sa, true_and, and_true, false_and, and_false, Nat.reduceEqDiff, ↓reduceIte]
      rw [pk_cpy_out (by omega)]
      exact h.2.2.1 i hi
    · intro i hi
      rw [e3] at hi
      simp only [gi_si, gi_sr, gi_sg, gi_sa, gr_si, rr_sr, gr_sg, gr_sa, ga_si, ga_sr, ga_sg, ga_sa, true_and, and_true, false_and, and_false, Nat.reduceEqDiff, ↓reduceIte]
      rw [pk_cpy_in (by omega) (by omega), el_sub hi, ← hp.g (by omega)]
      congr 1
      omega
  · simp [gi_si, gi_sr, gi_sg, gi_sa, gr_si, rr_sr, gr_sg, gr_sa, ga_si, ga_sr, ga_sg, ga_sa, true_and, and_true, false_and, and_false, Nat.reduceEqDiff, ↓reduceIte]
theorem lx_copy (hp : LX σ m p) (hm : m ≠ k) (hr : p.length ≤ capX k) : ∃ σ', f_X3_copyFrom σ k m = some (σ', ()) ∧ UL k σ σ' ∧ LX σ' k p ∧ gi σ' 202 k = 0 := by
  obtain ⟨s1, e1, u1, l1, o1⟩ := lx_clear k σ
  have hp1 := u1.lx hm hp
  obtain ⟨s2, e2, u2, l2, o2⟩ := lx_part (o := 0) (n := p.length) l1 hp1 (by omega) (by simp; omega)
  refine ⟨s2, ?_, u1.trans u2, ?_, o2.trans o1⟩
  · unfold f_X3_copyFrom
    rw [e1, cl_mk, hp1.1]
    show cl (f_X3_addPart s1 k m (nI 0) (nI p.length)) _ = _
    rw [e2, cl_mk]
  · simpa using l2
end Lw
