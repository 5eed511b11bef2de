/-! Writing where there may be no room; paths joined out of tokens. -/
/-- l was written to the letters k, or it had no room there -/
def OW (σ : St) (k : Nat) (l : List Nat) : Prop := (gi σ 202 k = 0 ∧ LX σ k l) ∨ (gi σ 202 k = 1 ∧ capX k < l.length ∧ ∃ n, n ≤ capX k ∧ gi σ 201 k = nI n)
section Ow
variable {σ : St} {k m : Nat} {l p : List Nat}
theorem ow_clear (k : Nat) (σ : St) : ∃ σ', f_X3_clear σ k = some (σ', ()) ∧ UL k σ σ' ∧ OW σ' k [] := by
  obtain ⟨s1, e1, u1, l1, o1⟩ := lx_clear k σ
  exact ⟨s1, e1, u1, Or.inl ⟨o1, l1⟩⟩
theorem ow_add (h : OW σ k l) {c : Nat} (hc : c < 256) : ∃ σ', f_X3_add σ k (nI c) = some (σ', ()) ∧ UL k σ σ' ∧ OW σ' k (l ++ [c]) := by
  have h5 := capX_le k
  rcases h with ⟨h0, h⟩ | ⟨h1, h2, n, hn, hg⟩
  · by_cases e : l.length < capX k
    · obtain ⟨s1, e1, u1, l1, o1⟩ := lx_add h hc e
      exact ⟨s1, e1, u1, Or.inl ⟨o1.trans h0, l1⟩⟩
    · have hl := h.2.1
      refine ⟨si σ 202 k 1, ?_, ⟨rfl, fun f i hf => ?_, fun f i hf => rfl⟩, Or.inr ⟨?_, ?_, l.length, hl, ?_⟩⟩
      · unfold f_X3_add
        rw [h.1, if_neg (nI_nlt (by omega) (by omega))]
        rfl
      · simp only [gi_si, gi_sr, gi_sg, gi_sa, gr_si, rr_sr, gr_sg, gr_sa, ga_si, ga_sr, ga_sg, ga_sa, true_and, and_true, false_and, and_false, Nat.reduceEqDiff, ↓reduceIte]
        rw [if_neg (by omega)]
      · simp [gi_si, gi_sr, gi_sg, gi_sa, gr_si, rr_sr, gr_sg, gr_sa, ga_si, ga_sr, ga_sg, ga_sa, true_and, and_true, false_and, and_false, Nat.reduceEqDiff, ↓reduceIte]
      · simp
        omega
      · simp only [gi_si, gi_sr, gi_sg, gi_sa, gr_si, rr_sr, gr_sg, gr_sa, ga_si, ga_sr, ga_sg, ga_sa, true_and, and_true, false_and, and_false, Nat.reduceEqDiff, ↓reduceIte]
        exact h.1
  · unfold f_X3_add
    rw [hg]
    by_cases e : n < capX k
    · rw [if_pos (nI_lt e (by omega)), ck_nI e (by omega)]
      refine ⟨_, rfl, ⟨rfl, fun f i hf => ?_, fun f i hf => ?_⟩, Or.inr ⟨?_, ?_, n + 1, by omega, ?_⟩⟩
      · simp only [gi_si, gi_sr, gi_sg, gi_sa, gr_si, rr_sr, gr_sg, gr_sa, ga_si, ga_sr, ga_sg, ga_sa, true_and, and_true, false_and, and_false, Nat.reduceEqDiff, ↓reduceIte]
        rw [if_neg (by omega)]
      · simp only [gi_si, gi_sr, gi_sg, gi_sa, gr_si, rr_sr, gr_sg, gr_sa, ga_si, ga_sr, ga_sg, ga_sa, true_and, and_true, false_and, and_false, Nat.reduceEqDiff, ↓reduceIte]
        rw [if_neg (by omega)]
      · simp only [gi_si, gi_sr, gi_sg, gi_sa, gr_si, rr_sr, gr_sg, gr_sa, ga_si, ga_sr, ga_sg, ga_sa, true_and, and_true, false_and, and_false, Nat.reduceEqDiff, ↓reduceIte]
        exact h1
      · simp
        omega
      · simp only [gi_si, gi_sr, gi_sg, gi_sa, gr_si, rr_sr, gr_sg, gr_sa, ga_si, ga_sr, ga_sg, ga_sa, true_and, and_true, false_and, and_false, Nat.reduceEqDiff, ↓reduceIte]
        rw [hg, nI_1]
    · rw [if_neg (nI_nlt (by omega) (by omega))]
      refine ⟨_, rfl, ⟨rfl, fun f i hf => ?_, fun f i hf => rfl⟩, Or.inr ⟨?_, ?_, n, hn, ?_⟩⟩
      · simp only [gi_si, gi_sr, gi_sg, gi_sa, gr_si, rr_sr, gr_sg, gr_sa, ga_si, ga_sr, ga_sg, ga_sa, true_and, and_true, false_and, and_false, Nat.reduceEqDiff, ↓reduceIte]
        rw [if_neg (by omega)]
      · simp [gi_si, gi_sr, gi_sg, gi_sa, gr_si, rr_sr, gr_sg, gr_sa, ga_si, ga_sr, ga_sg, ga_sa, true_and, and_true, false_and, and_false, Nat.reduceEqDiff, ↓reduceIte]
      · simp
        omega
      · simp only [gi_si, gi_sr, gi_sg, gi_sa, gr_si, rr_sr, gr_sg, gr_sa, ga_si, ga_sr, ga_sg, ga_sa, true_and, and_true, false_and, and_false, Nat.reduceEqDiff, ↓reduceIte]
        exact hg
theorem ow_part (h : OW σ k l) (hp : LX σ m p) {o n : Nat} (ho : o + n ≤ p.length) : ∃ σ', f_X3_addPart σ k m (nI o) (nI n) = some (σ', ()) ∧ UL k σ σ' ∧ OW σ' k (l ++ (p.drop o).take n) := by
  have h5 := capX_le k
  have h6 := capX_le m
  have h7 := hp.2.1
  have e3 : ((p.drop o).take n).length = n := by
    rw [List.length_take, List.length_drop]
    omega
  rcases h with ⟨h0, h⟩ | ⟨h1, h2, q, hq, hg⟩
  · have hl := h.2.1
    by_cases e : l.length + n ≤ capX k
    · obtain ⟨s1, e1, u1, l1, o1⟩ := lx_part h hp ho e
      exact ⟨s1, e1, u1, Or.inl ⟨o1.trans h0, l1⟩⟩
    · refine ⟨si σ 202 k 1, ?_, ⟨rfl, fun f i hf => ?_, fun f i hf => rfl⟩, Or.inr ⟨?_, ?_, l.length, hl, ?_⟩⟩
      · unfold f_X3_addPart
        rw [h.1, hp.1, if_neg (nI_pos (by omega)), if_neg (nI_pos (by omega)), ln_sub (by omega), if_pos ((ln_le (by omega) (by omega)).mpr (by omega)), ln_sub (by omega), if_neg (nI_ge (by omega) (by omega))]
        rfl
      · simp only [gi_si, gi_sr, gi_sg, gi_sa, gr_si, rr_sr, gr_sg, gr_sa, ga_si, ga_sr, ga_sg, ga_sa, true_and, and_true, false_and, and_false, Nat.reduceEqDiff, ↓reduceIte]
        rw [if_neg (by omega)]
      · simp [gi_si, gi_sr, gi_sg, gi_sa, gr_si, rr_sr, gr_sg, gr_sa, ga_si, ga_sr, ga_sg, ga_sa, true_and, and_true, false_and, and_false, Nat.reduceEqDiff, ↓reduceIte]
      · rw [List.length_append, e3]
        omega
      · simp only [gi_si, gi_sr, gi_sg, gi_sa, gr_si, rr_sr, gr_sg, gr_sa, ga_si, ga_sr, ga_sg, ga_sa, true_and, and_true, false_and, and_false, Nat.reduceEqDiff, ↓reduceIte]
        exact h.1
  · unfold f_X3_addPart
    rw [hg, hp.1, if_neg (nI_pos (by omega)), if_neg (nI_pos (by omega)), ln_sub (by omega), if_pos ((ln_le (by omega) (by omega)).mpr (by omega)), ln_sub (by omega)]
    by_cases e : n ≤ capX k - q
    · rw [if_pos ((ln_le (by omega) (by omega)).mpr e)]
      simp (disch := omega) only [ln_0le, ln_toInt, Int.toNat_natCast]
      rw [decide_eq_true (by simp; omega)]
      refine ⟨_, rfl, ⟨rfl, fun f i hf => ?_, fun f i hf => ?_⟩, Or.inr ⟨?_, ?_, q + n, by omega, ?_⟩⟩
      · simp only [gi_si, gi_sr, gi_sg, gi_sa, gr_si, rr_sr, gr_sg, gr_sa, ga_si, ga_sr, ga_sg, ga_sa, true_and, and_true, false_and, and_false, Nat.reduceEqDiff, ↓reduceIte]
        rw [if_neg (by omega)]
      · simp only [gi_si, gi_sr, gi_sg, gi_sa, gr_si, rr_sr, gr_sg, gr_sa, ga_si, ga_sr, ga_sg, ga_sa, true_and, and_true, false_and, and_false, Nat.reduceEqDiff, ↓reduceIte]
        rw [if_neg (by omega)]
      · simp only [gi_si, gi_sr, gi_sg, gi_sa, gr_si, rr_sr, gr_sg, gr_sa, ga_si, ga_sr, ga_sg, ga_sa, true_and, and_true, false_and, and_false, Nat.reduceEqDiff, ↓reduceIte]
        exact h1
      · rw [List.length_append]
        omega
      · simp only [gi_si, gi_sr, gi_sg, gi_sa, gr_si, rr_sr, gr_sg, gr_sa, ga_si, ga_sr, ga_sg, ga_sa, true_and, and_true, false_and, and_false, Nat.reduceEqDiff, ↓reduceIte]
        rw [hg, nI_add]
    · rw [if_neg (nI_ge (by omega) (by omega))]
      refine ⟨_, rfl, ⟨rfl, fun f i hf => ?_, fun f i hf => rfl⟩, Or.inr ⟨?_, ?_, q, hq, ?_⟩⟩
      · simp only [gi_si, gi_sr, gi_sg, gi_sa, gr_si, rr_sr, gr_sg, gr_sa, ga_si, ga_sr, ga_sg, ga_sa, true_and, and_true, false_and, and_false, Nat.reduceEqDiff, ↓reduceIte]
        rw [if_neg (by omega)]
      · simp [gi_si, gi_sr, gi_sg, gi_sa, gr_si, rr_sr, gr_sg, gr_sa, ga_si, ga_sr, ga_sg, ga_sa, true_and, and_true, false_and, and_false, Nat.reduceEqDiff, ↓reduceIte]
      · rw [List.length_append]
        omega
      · simp only [gi_si, gi_sr, gi_sg, gi_sa, gr_si, rr_sr, gr_sg, gr_sa, ga_si, ga_sr, ga_sg, ga_sa, true_and, and_true, false_and, and_false, Nat.reduceEqDiff, ↓reduceIte]
        exact hg
theorem ow_over (h : OW σ k l) : f_X3_isOver σ k = some (σ, bI (decide (capX k < l.length))) := by
  unfold f_X3_isOver
  rcases h with ⟨h0, h⟩ | ⟨h1, h2, _⟩
  · have := h.2.1
    rw [h0, bI_no (by omega)]
    rfl
  · rw [h1, bI_yes h2]
    rfl
theorem OW.lx (h : OW σ k l) (hl : l.length ≤ capX k) : LX σ k l := by
  rcases h with ⟨h0, h⟩ | ⟨h1, h2, _⟩
  · exact h
  · omega
theorem ow_word_loop {w : Nat} (hw : w < nSt) : ∀ (r i : Nat), i + r = (sw w).length → ∀ (σ : St) (l : List Nat), OW σ k l → ∀ m, r < m → ∃ σ', f_X3_addWord_2 m σ k w (nI i) = some (σ', ()) ∧ UL k σ σ' ∧ OW σ' k (l ++ (sw w).drop i) := by
  obtain ⟨hl, hb, hs, hc⟩ := sw_ok w hw
  intro r
  induction r with
  | zero =>
    intro i hi σ l h m hm
    obtain ⟨m, rfl⟩ : ∃ m', m = m' + 1 := ⟨m - 1, by omega⟩
    refine ⟨σ, ?_, UL.rfl', ?_⟩
    · rw [f_X3_addWord_2.eq_2, hl, if_pos (nI_le (by omega) (by omega))]
    · rw [List.drop_eq_nil_of_le (by omega), List.append_nil]
      exact h
  | succ r ih =>
    intro i hi σ l h m hm
    obtain ⟨m, rfl⟩ : ∃ m', m = m' + 1 := ⟨m - 1, by omega⟩
    obtain ⟨s1, e1, u1, o1⟩ := ow_add h (c := el (sw w) i) (By_get (fun c hh => Nat.lt_trans (hc c hh) (by decide)) i)
    obtain ⟨s2, e2, u2, o2⟩ := ih (i + 1) (by omega) s1 _ o1 m (by omega)
    refine ⟨s2, ?_, u1.trans u2, ?_⟩
    · rw [f_X3_addWord_2.eq_2, hl, if_neg (nI_ge (by omega) (by omega)), ck_nI (by omega) (by omega), hs i (by omega), e1, cl_mk, nI_1, e2]
    · rw [drop_c (by omega)]
      simpa using o2
theorem ow_word (h : OW σ k l) {w : Nat} (hw : w < nSt) : ∃ σ', f_X3_addWord σ k w = some (σ', ()) ∧ UL k σ σ' ∧ OW σ' k (l ++ sw w) := by
  obtain ⟨hl, hb, hs, hc⟩ := sw_ok w hw
  exact ow_word_loop hw (sw w).length 0 (by omega) σ l h fl (by have := fl_big; omega)
theorem OW.ul (h : OW σ k l) {σ' : St} {k2 : Nat} (u : UL k2 σ σ') (hk : k ≠ k2) : OW σ' k l := by
  unfold OW
  rw [u.2.1 202 k (by omega), u.2.1 201 k (by omega)]
  rcases h with ⟨h0, h⟩ | h
  · exact Or.inl ⟨h0, u.lx hk h⟩
  · exact Or.inr h
end Ow
section Jp
variable {σ τ : St} {tx : List Nat} {c : Nat} {ks ps ls : Nat → Nat}
theorem TKX.ul {k : Nat} (h : TKX σ tx c ks ps ls) {σ' : St} (u : UL k σ σ') (hk : k ≠ 0) : TKX σ' tx c ks ps ls := ⟨u.lx (Ne.symm hk) h.1, by rw [u.2.1 504 0 (by omega)]; exact h.2.1, fun t ht => by rw [u.2.2 8 8 (by omega), u.2.2 8 9 (by omega), u.2.2 8 10 (by omega)]; exact h.2.2 t ht⟩
/-- a path of n names from a token on -/
def pj (tx : List Nat) (ps ls : Nat → Nat) : Nat → Nat → List Nat
  | 0, _ => []
  | 1, t => wrd tx (ps t) (ls t)
  | n + 2, t => wrd tx (ps t) (ls t) ++ 46 :: pj tx ps ls (n + 1) (t + 2)
/-- the tokens of such a path -/
def isP (c : Nat) (ks : Nat → Nat) (n t : Nat) : Prop := (∀ i, i < n → t + 2 * i < c ∧ ks (t + 2 * i) = 1) ∧ (∀ i, i + 1 < n → ks (t + 2 * i + 1) = 46)
theorem ow_tok {k : Nat} {l : List Nat} (h : OW σ k l) (hX : TKX σ tx c ks ps ls) (w : TKW tx c ks ps ls) {t : Nat} (ht : t < c) : ∃ σ', f_X6_addTo σ k (nI t) = some (σ', ()) ∧ UL k σ σ' ∧ OW σ' k (l ++ wrd tx (ps t) (ls t)) := by
  have hc := w.cc
  have hin := w.in (t := t) (by omega)
  obtain ⟨s1, e1, u1, o1⟩ := ow_part h hX.1 hin
  refine ⟨s1, ?_, u1, o1⟩
  unfold f_X6_addTo
  rw [if_neg (nI_pos (by omega)), hX.2.1, if_neg (nI_ge ht (by omega)), show lenX 9 = 2000 from rfl, show lenX 10 = 2000 from rfl, ck_nI (by omega) (by omega), ck_nI (by omega) (by omega), (hX.2.2 t ht).2.1, (hX.2.2 t ht).2.2, e1, cl_mk]
theorem x_join (w : TKW tx c ks ps ls) {k : Nat} (hk : k ≠ 0) : ∀ (n : Nat), 0 < n → ∀ (t : Nat), isP c ks n t → ks (t + 2 * n - 1) ≠ 46 → ∀ (σ : St) (l : List Nat), OW σ k l → TKX σ tx c ks ps ls → ∀ m, n < m → ∃ σ', f_X6_joinPath_2 m σ k (nI t) = some (σ', ()) ∧ UL k σ σ' ∧ OW σ' k (l ++ pj tx ps ls n t) := by
  have hc := w.cc
  intro n
  induction n with
  | zero => exact fun h => absurd h (Nat.lt_irrefl 0)
  | succ n ih =>
    intro _ t hP hend σ l h hX m hm
    obtain ⟨m, rfl⟩ : ∃ m', m = m' + 1 := ⟨m - 1, by omega⟩
    have h0 := hP.1 0 (by omega)
    have ht : t < c := by omega
    obtain ⟨s1, e1, u1, o1⟩ := ow_tok h hX w ht
    have hX1 := hX.ul u1 hk
    have h128 := w.kk (t := t + 1) (by omega)
    rw [f_X6_joinPath_2.eq_2, hX.2.1, if_neg (nI_ge ht (by omega)), e1, cl_mk, nI_1, x_kind hX1 w (by omega), cl_mk]
    cases n with
    | zero =>
      refine ⟨s1, ?_, u1, o1⟩
      rw [if_neg]
      intro e
      have := (ln_eq (b := 46) (by omega) (by omega)).mp e
      exact hend this
    | succ n =>
      have h46 := hP.2 0 (by omega)
      rw [Nat.mul_zero, Nat.add_zero] at h46
      rw [h46, if_pos (by decide)]
      obtain ⟨s2, e2, u2, o2⟩ := ow_add o1 (c := 46) (by omega)
      have e2 : f_X3_add s1 k 46 = _ := e2
      have e3 : t + 2 * (n + 1 + 1) - 1 = t + 2 + 2 * (n + 1) - 1 := by omega
      obtain ⟨s3, g1, g2, g3⟩ := ih (by omega) (t + 2) ⟨fun i hi => by have := hP.1 (i + 1) (by omega); rw [show t + 2 * (i + 1) = t + 2 + 2 * i by omega] at this; exact this, fun i hi => by have := hP.2 (i + 1) (by omega); rw [show t + 2 * (i + 1) + 1 = t + 2 + 2 * i + 1 by omega] at this; exact this⟩ (by rw [← e3]; exact hend) s2 _ o2 (hX1.ul u2 hk) m (by omega)
      refine ⟨s3, ?_, (u1.trans u2).trans g2, ?_⟩
      · rw [e2, cl_mk, show nI t + 2 = nI (t + 2) from nI_add t 2, g1]
      · have : pj tx ps ls (n + 1 + 1) t = wrd tx (ps t) (ls t) ++ 46 :: pj tx ps ls (n + 1) (t + 2) := rfl
        rw [this]
        simpa using g3
theorem x_joinP (w : TKW tx c ks ps ls) {k : Nat} (hk : k ≠ 0) {n t : Nat} (hn : 0 < n) (hP : isP c ks n t) (hend : ks (t + 2 * n - 1) ≠ 46) {l : List Nat} (h : OW σ k l) (hX : TKX σ tx c ks ps ls) : ∃ σ', f_X6_joinPath σ (nI t) k = some (σ', ()) ∧ UL k σ σ' ∧ OW σ' k (l ++ pj tx ps ls n t) := by
  have hc := w.cc
  have := hP.1 (n - 1) (by omega)
  exact x_join w hk n hn t hP hend σ l h hX fl (by have := fl_big; omega)
/-- is all of it a path -/
theorem m_tp_loop (h : TKM τ tx c ks ps ls) (hX : TKX σ tx c ks ps ls) (w : TKW tx c ks ps ls) : ∀ (r i : Nat), i + r = c → ∀ m, r < m →
    (((∀ t, i ≤ t → t < c → ks t = if t % 2 = 0 then 1 else 46) ∧ f_X9_tapePath_20 m τ (nI i) = some (τ, nI ((c + 1) / 2)) ∧ f_X6_arePath_2 m σ (nI i) = some (σ, bI (decide (c % 2 = 1)))) ∨ (¬ (∀ t, i ≤ t → t < c → ks t = if t % 2 = 0 then 1 else 46) ∧ f_X9_tapePath_20 m τ (nI i) = some (τ, 0) ∧ f_X6_arePath_2 m σ (nI i) = some (σ, 0))) := by
  have hc := w.cc
  intro r
  induction r with
  | zero =>
    intro i hi m hm
    obtain ⟨m, rfl⟩ : ∃ m', m = m' + 1 := ⟨m - 1, by omega⟩
    left
    refine ⟨fun t h1 h2 => by omega, ?_, ?_⟩
    · rw [f_X9_tapePath_20.eq_2, h.2.1, if_pos (nI_le (by omega) (by omega)), nI_1, show (2 : Int32) = nI 2 from rfl, pk_div (by omega) (by omega) (by omega)]
    · rw [f_X6_arePath_2.eq_2, hX.2.1, if_pos (nI_le (by omega) (by omega)), show (2 : Int32) = nI 2 from rfl, pk_rem (by omega) (by omega) (by omega)]
      by_cases e : c % 2 = 1
      · rw [e, if_pos (by decide), bI_yes rfl]
      · have : c % 2 = 0 := by omega
        rw [this, if_neg (by decide), bI_no (by decide)]
  | succ r ih =>
    intro i hi m hm
    obtain ⟨m, rfl⟩ : ∃ m', m = m' + 1 := ⟨m - 1, by omega⟩
    have hki := w.kk (t := i) (by omega)
    have key : ∀ (q : Nat), q < 100 → (if i % 2 = 0 then 1 else 46) = q → (((∀ t, i ≤ t → t < c → ks t = if t % 2 = 0 then 1 else 46) ∧ f_X9_tapePath_46 (f_X9_tapePath_20 m) τ (nI (ks i)) (nI q) (nI i) = some (τ, nI ((c + 1) / 2)) ∧ f_X6_arePath_28 (f_X6_arePath_2 m) σ (nI (ks i)) (nI q) (nI i) = some (σ, bI (decide (c % 2 = 1)))) ∨ (¬ (∀ t, i ≤ t → t < c → ks t = if t % 2 = 0 then 1 else 46) ∧ f_X9_tapePath_46 (f_X9_tapePath_20 m) τ (nI (ks i)) (nI q) (nI i) = some (τ, 0) ∧ f_X6_arePath_28 (f_X6_arePath_2 m) σ (nI (ks i)) (nI q) (nI i) = some (σ, 0))) := by
      intro q hq eq
      unfold f_X9_tapePath_46 f_X6_arePath_28
      by_cases e : ks i = q
      · rw [e, if_pos rfl, if_pos rfl, nI_1]
        rcases ih (i + 1) (by omega) m (by omega) with ⟨a, b, d⟩ | ⟨a, b, d⟩
        · left
          refine ⟨fun t h1 h2 => ?_, b, d⟩
          by_cases et : t = i
          · rw [et, e, eq]
          · exact a t (by omega) h2
        · right
          exact ⟨fun hh => a (fun t h1 h2 => hh t (by omega) h2), b, d⟩
      · right
        rw [if_neg (fun hh => e ((ln_eq (by omega) (by omega)).mp hh)), if_neg (fun hh => e ((ln_eq (by omega) (by omega)).mp hh))]
        refine ⟨fun hh => e ?_, rfl, rfl⟩
        rw [hh i (Nat.le_refl _) (by omega), eq]
    rw [f_X9_tapePath_20.eq_2, f_X6_arePath_2.eq_2, h.2.1, hX.2.1, if_neg (nI_ge (by omega) (by omega)), if_neg (nI_ge (by omega) (by omega)), show lenX 8 = 2000 from rfl, ck_nI (by omega) (by omega), ck_nI (by omega) (by omega), (h.2.2 i (by omega)).1, (hX.2.2 i (by omega)).1, show (2 : Int32) = nI 2 from rfl, pk_rem (by omega) (by omega) (by omega)]
    by_cases e : i % 2 = 0
    · rw [e, if_pos n00, if_pos n00]
      exact key 1 (by omega) (by rw [if_pos e])
    · have : i % 2 = 1 := by omega
      rw [this, if_neg (show ¬ nI 1 = 0 by decide), if_neg (show ¬ nI 1 = 0 by decide)]
      exact key 46 (by omega) (by rw [if_neg e])
end Jp
