/-! Printing: what is written, on both sides. -/
/-- the reference's print so far -/
def MW (τ : St) (l : List Nat) : Prop := gi τ 808 0 = nI l.length ∧ Bs (ga τ 2 2) 0 l ∧ ∀ c, c ∈ l → c < 128
def UW (τ τ' : St) : Prop := (∀ f i, ¬ (f = 808 ∨ f = 850) → gi τ' f i = gi τ f i) ∧ (∀ f i, ¬ (f = 1 ∧ i = 25) → ¬ (f = 2 ∧ (i = 2 ∨ i = 7)) → ga τ' f i = ga τ f i)
theorem UW.refl' (τ : St) : UW τ τ := ⟨fun _ _ _ => rfl, fun _ _ _ _ => rfl⟩
theorem UW.trans {τ τ1 τ2 : St} (h : UW τ τ1) (g : UW τ1 τ2) : UW τ τ2 := ⟨fun f i a => (g.1 f i a).trans (h.1 f i a), fun f i a b => (g.2 f i a b).trans (h.2 f i a b)⟩
theorem UW.um {τ τ' : St} (h : UW τ τ') : UM τ τ' := ⟨⟨h.1 _ _ (by omega), h.1 _ _ (by omega), h.1 _ _ (by omega)⟩, h.2 4 0 (by omega) (by omega), fun i hi => h.2 1 i (by omega) (by omega), fun i hi => h.2 2 i (by omega) (by omega)⟩
section Pu
variable {σ τ : St} {l : List Nat}
theorem m_put (h : MW τ l) {c : Nat} (hc : c < 128) (hl : l.length + 1 ≤ 20000) : ∃ τ', f_X9_put τ (nI c) = some (τ', ()) ∧ UW τ τ' ∧ MW τ' (l ++ [c]) ∧ ga τ' 2 7 = ga τ 2 7 ∧ gi τ' 850 0 = gi τ 850 0 := by
  refine ⟨si (sa τ 2 2 l.length (sB c)) 808 0 (nI (l.length + 1)), ?_, ⟨fun f i hf => ?_, fun f i hf hg => ?_⟩, ⟨?_, Bs_app (fun i hi => ?_) (fun i hi => ?_), fun d hd => ?_⟩, ?_, ?_⟩
  · unfold f_X9_put
    rw [h.1, ck_nI (by omega) (by omega), sB_add]
    simp only [bnd, gi_sa, h.1, nI_1]
  · simp only [gi_si, gi_sr, gi_sg, gi_sa, gr_si, rr_sr, gr_sg, gr_sa, ga_si, ga_sr, ga_sg, ga_sa, true_and, and_true, false_and, and_false, Nat.reduceEqDiff, ↓reduceIte]
    rw [if_neg (by omega)]
  · simp only [gi_si, gi_sr, gi_sg, gi_sa, gr_si, rr_sr, gr_sg, gr_sa, ga_si, ga_sr, ga_sg, ga_sa, true_and, and_true, false_and, and_false, Nat.reduceEqDiff, ↓reduceIte]
    rw [if_neg (by omega)]
  · simp [gi_si, gi_sr, gi_sg, gi_sa, gr_si, rr_sr, gr_sg, gr_sa, ga_si, ga_sr, ga_sg, ga_sa, true_and, and_true, false_and, and_false, Nat.reduceEqDiff, ↓reduceIte]
  · simp only [gi_si, gi_sr, gi_sg, gi_sa, gr_si, rr_sr, gr_sg, gr_sa, ga_si, ga_sr, ga_sg, ga_sa, true_and, and_true, false_and, and_false, Nat.reduceEqDiff, ↓reduceIte]
    unfold upd
    rw [if_neg (by omega)]
    exact h.2.1 i hi
  · have : i = 0 := by simpa using hi
    subst this
    simp only [gi_si, gi_sr, gi_sg, gi_sa, gr_si, rr_sr, gr_sg, gr_sa, ga_si, ga_sr, ga_sg, ga_sa, true_and, and_true, false_and, and_false, Nat.reduceEqDiff, ↓reduceIte]
    unfold upd
    rw [if_pos (by omega)]
    rfl
  · rcases List.mem_append.mp hd with hd | hd
    · exact h.2.2 d hd
    · simp at hd
      omega
  · simp [gi_si, gi_sr, gi_sg, gi_sa, gr_si, rr_sr, gr_sg, gr_sa, ga_si, ga_sr, ga_sg, ga_sa, true_and, and_true, false_and, and_false, Nat.reduceEqDiff, ↓reduceIte]
  · simp [gi_si, gi_sr, gi_sg, gi_sa, gr_si, rr_sr, gr_sg, gr_sa, ga_si, ga_sr, ga_sg, ga_sa, true_and, and_true, false_and, and_false, Nat.reduceEqDiff, ↓reduceIte]
/-! words -/
def wb (w : Int64) (r : Nat) : Int32 := Int64.toInt32 ((w >>> (Int32.toInt64 (nI (8 * r)) &&& 63)) &&& (255 : Int64))
def wbn (w : Int64) (r : Nat) : Nat := (wb w r).toInt.toNat
def wln (w : Int64) : Nat → List Nat
  | 0 => []
  | r + 1 => if wbn w r = 0 then wln w r else wbn w r :: wln w r
theorem m_putw_loop {w : Int64} (hw : ∀ r, r < 8 → wb w r = nI (wbn w r) ∧ wbn w r < 128) : ∀ (r : Nat), r ≤ 8 → ∀ (τ : St) (l : List Nat), MW τ l → l.length + (wln w r).length ≤ 20000 → ∀ m, r < m → ∃ τ', f_X9_putWord_3 m τ w (nI (8 * r) - nI 8) = some (τ', ()) ∧ UW τ τ' ∧ MW τ' (l ++ wln w r) := by
  intro r
  induction r with
  | zero =>
    intro hr τ l h hl m hm
    obtain ⟨m, rfl⟩ : ∃ m', m = m' + 1 := ⟨m - 1, by omega⟩
    refine ⟨τ, ?_, UW.refl' τ, by simpa [wln] using h⟩
    rw [f_X9_putWord_3.eq_2, if_pos (by decide)]
  | succ r ih =>
    intro hr τ l h hl m hm
    obtain ⟨m, rfl⟩ : ∃ m', m = m' + 1 := ⟨m - 1, by omega⟩
    obtain ⟨w1, w2⟩ := hw r (by omega)
    have e8 : nI (8 * (r + 1)) - nI 8 = nI (8 * r) := by
      rw [ln_sub (by omega)]
      congr 1
    have eb : nI (8 * r) + (-8) = nI (8 * r) - nI 8 := by
      rw [Int32.sub_eq_add_neg]
      rfl
    rw [f_X9_putWord_3.eq_2, e8, if_neg (nI_pos (by omega))]
    show ∃ τ', (bnd (wb w r) fun x1 => if x1 = 0 then f_X9_putWord_28 (f_X9_putWord_3 m) τ w (nI (8 * r)) else cl (f_X9_put τ x1) fun s2 _u25 => f_X9_putWord_28 (f_X9_putWord_3 m) s2 w (nI (8 * r))) = some (τ', ()) ∧ _
    simp only [bnd]
    rw [w1]
    unfold wln at hl ⊢
    unfold f_X9_putWord_28
    rw [eb]
    by_cases e : wbn w r = 0
    · rw [if_pos e] at hl ⊢
      rw [e, if_pos n00]
      obtain ⟨τ', g1, g2, g3⟩ := ih (by omega) τ l h hl m (by omega)
      exact ⟨τ', g1, g2, g3⟩
    · rw [if_neg e] at hl ⊢
      rw [if_neg (fun x => e ((ln_eq0 (by omega)).mp x))]
      rw [List.length_cons] at hl
      obtain ⟨t1, p1, p2, p3, _⟩ := m_put h w2 (by omega)
      obtain ⟨τ', g1, g2, g3⟩ := ih (by omega) t1 _ p3 (by rw [List.length_append, List.length_singleton]; omega) m (by omega)
      refine ⟨τ', ?_, p2.trans g2, by simpa using g3⟩
      rw [p1, cl_mk, g1]
theorem wd_ok : ∀ k, k < 17 → (∀ r, r < 8 → wb (lN (pkn (sw k))) r = nI (wbn (lN (pkn (sw k))) r) ∧ wbn (lN (pkn (sw k))) r < 128) ∧ wln (lN (pkn (sw k))) 8 = sw k := by decide +kernel
theorem m_putw (h : MW τ l) {k : Nat} (hk : k < 17) {w : Int64} (hw : w = lN (pkn (sw k))) (hl : l.length + (sw k).length ≤ 20000) : ∃ τ', f_X9_putWord τ w = some (τ', ()) ∧ UW τ τ' ∧ MW τ' (l ++ sw k) := by
  obtain ⟨a, b⟩ := wd_ok k hk
  subst hw
  have g := m_putw_loop a 8 (by omega) τ l h (by rw [b]; exact hl) fl (by have := fl_big; omega)
  rw [b] at g
  exact g
theorem m_putb_loop {arr o : Nat} {p : List Nat} (ha : arr ≠ 2) (hlen : o + p.length ≤ lenMb.getD arr 0) (hlm : lenMb.getD arr 0 ≤ 20000) (hp : ∀ c, c ∈ p → c < 128) : ∀ (r i : Nat), i + r = p.length → ∀ (τ : St) (l : List Nat), MW τ l → Bs (ga τ 2 arr) o p → l.length + r ≤ 20000 → ∀ m, r < m → ∃ τ', f_X9_putBytes_3 m τ arr (nI o) (nI p.length) (nI i) = some (τ', ()) ∧ UW τ τ' ∧ MW τ' (l ++ p.drop i) := by
  intro r
  induction r with
  | zero =>
    intro i hi τ l h hb hl m hm
    obtain ⟨m, rfl⟩ : ∃ m', m = m' + 1 := ⟨m - 1, by omega⟩
    refine ⟨τ, ?_, UW.refl' τ, ?_⟩
    · rw [f_X9_putBytes_3.eq_2, if_pos (nI_le (by omega) (by omega))]
    · rw [List.drop_eq_nil_of_le (by omega), List.append_nil]
      exact h
  | succ r ih =>
    intro i hi τ l h hb hl m hm
    obtain ⟨m, rfl⟩ : ∃ m', m = m' + 1 := ⟨m - 1, by omega⟩
    have hc : el p i < 128 := by
      rw [el_t (by omega)]
      exact hp _ (List.getElem_mem _)
    obtain ⟨t1, p1, p2, p3, p4, p5⟩ := m_put h hc (by omega)
    obtain ⟨τ', g1, g2, g3⟩ := ih (i + 1) (by omega) t1 _ p3 (by
      by_cases e7 : arr = 7
      · subst e7
        rw [p4]
        exact hb
      · rw [p2.2 2 arr (by omega) (by omega)]
        exact hb) (by rw [List.length_append, List.length_singleton]; omega) m (by omega)
    refine ⟨τ', ?_, p2.trans g2, ?_⟩
    · rw [f_X9_putBytes_3.eq_2, if_neg (nI_ge (by omega) (by omega)), nI_add, ck_nI (by omega) (by omega), hb i (by omega), sB_asc hc, p1, cl_mk, nI_1, g1]
    · rw [drop_c (by omega)]
      simpa using g3
theorem m_putb (h : MW τ l) {arr o : Nat} {p : List Nat} (ha : arr ≠ 2) (hlen : o + p.length ≤ lenMb.getD arr 0) (hlm : lenMb.getD arr 0 ≤ 20000) (hp : ∀ c, c ∈ p → c < 128) (hb : Bs (ga τ 2 arr) o p) (hl : l.length + p.length ≤ 20000) : ∃ τ', f_X9_putBytes τ arr (nI o) (nI p.length) = some (τ', ()) ∧ UW τ τ' ∧ MW τ' (l ++ p) := by
  have g := m_putb_loop ha hlen hlm hp p.length 0 (by omega) τ l h hb hl fl (by have := fl_big; omega)
  exact g
/-! numbers -/
def dgl (v : Nat) : Nat → List Nat
  | 0 => []
  | e + 1 => (48 + v / 10 ^ e % 10) :: dgl v e
def nud (v : Nat) : Nat := if v < 10 then 0 else if v < 100 then 1 else if v < 1000 then 2 else if v < 10000 then 3 else if v < 100000 then 4 else 5
def nut (v : Nat) : List Nat := dgl v (nud v + 1)
theorem dgl_len (v : Nat) : ∀ e, (dgl v e).length = e := by
  intro e
  induction e with
  | zero => rfl
  | succ e ih => simp [dgl, ih]
theorem nut_len (v : Nat) : (nut v).length ≤ 6 := by
  unfold nut
  rw [dgl_len]
  unfold nud
  repeat' split
  all_goals omega
theorem p10 : ∀ e, e ≤ 5 → 0 < 10 ^ e ∧ 10 ^ e ≤ 100000 := by decide
theorem p10s (e : Nat) : 10 ^ (e + 1) / 10 = 10 ^ e := by rw [Nat.pow_succ, Nat.mul_div_cancel _ (by omega)]
/-- the unit that is begun with -/
theorem nud_is {v e : Nat} (hv : v < 1000000) (he : e ≤ 5) (h1 : v / 10 ^ e < 10) (h2 : e = 0 ∨ 10 ^ e ≤ v) : e = nud v := by
  unfold nud
  have h : e = 0 ∨ e = 1 ∨ e = 2 ∨ e = 3 ∨ e = 4 ∨ e = 5 := by omega
  rcases h with rfl | rfl | rfl | rfl | rfl | rfl
  all_goals simp at h1 h2
  all_goals repeat' split
  all_goals omega
theorem dig {v u : Nat} (hv : v < 1000000) (hu : 0 < u) (hu2 : u ≤ 100000) : (48 : Int32) + ((nI v / nI u) - (nI v / nI u) / 10 * 10) = nI (48 + v / u % 10) := by
  have : v / u ≤ v := Nat.div_le_self v u
  rw [pk_div (by omega) hu (by omega), show (10 : Int32) = nI 10 from rfl, pk_rem (by omega) (by omega) (by omega), show (48 : Int32) = nI 48 from rfl, nI_add]
theorem u10 {e : Nat} (he : e ≤ 5) : nI (10 ^ e) / 10 = nI (10 ^ e / 10) := by
  have := p10 e he
  rw [show (10 : Int32) = nI 10 from rfl, pk_div (by omega) (by omega) (by omega)]
theorem m_putn_d {v : Nat} (hv : v < 1000000) : ∀ (e : Nat), e ≤ 6 → ∀ (τ : St) (l : List Nat), MW τ l → l.length + e ≤ 20000 → ∀ m, e < m → ∃ τ', f_X9_putNumber_22 m τ (nI v) (nI (if e = 0 then 0 else 10 ^ (e - 1))) = some (τ', ()) ∧ UW τ τ' ∧ MW τ' (l ++ dgl v e) := by
  intro e
  induction e with
  | zero =>
    intro he τ l h hl m hm
    obtain ⟨m, rfl⟩ : ∃ m', m = m' + 1 := ⟨m - 1, by omega⟩
    refine ⟨τ, ?_, UW.refl' τ, by simpa [dgl] using h⟩
    rw [if_pos rfl, f_X9_putNumber_22.eq_2, if_pos (by decide)]
  | succ e ih =>
    intro he τ l h hl m hm
    obtain ⟨m, rfl⟩ : ∃ m', m = m' + 1 := ⟨m - 1, by omega⟩
    obtain ⟨q1, q2⟩ := p10 e (by omega)
    obtain ⟨t1, p1, p2, p3, _⟩ := m_put h (c := 48 + v / 10 ^ e % 10) (by omega) (by omega)
    obtain ⟨τ', g1, g2, g3⟩ := ih (by omega) t1 _ p3 (by rw [List.length_append, List.length_singleton]; omega) m (by omega)
    refine ⟨τ', ?_, p2.trans g2, by simpa [dgl] using g3⟩
    rw [if_neg (by omega), Nat.add_sub_cancel, f_X9_putNumber_22.eq_2, if_neg (fun x => by have := (ln_le0 (by omega)).mp x; omega), decide_eq_true (p := ¬ nI (10 ^ e) = 0) (fun x => by have := (ln_eq0 (by omega)).mp x; omega), cq_t, dig hv q1 q2, p1, cl_mk, u10 (by omega)]
    have : 10 ^ e / 10 = if e = 0 then 0 else 10 ^ (e - 1) := by
      by_cases c : e = 0
      · subst c
        rfl
      · obtain ⟨e', rfl⟩ : ∃ e', e = e' + 1 := ⟨e - 1, by omega⟩
        rw [p10s, if_neg c, Nat.add_sub_cancel]
    rw [this, g1]
theorem m_putn_u {v : Nat} (hv : v < 1000000) : ∀ (e : Nat), e ≤ 5 → v / 10 ^ e < 10 → ∀ m, e < m → f_X9_putNumber_4 m τ (nI v) (nI (10 ^ e)) = f_X9_putNumber_22 fl τ (nI v) (nI (10 ^ nud v)) := by
  intro e
  induction e with
  | zero =>
    intro he h1 m hm
    obtain ⟨m, rfl⟩ : ∃ m', m = m' + 1 := ⟨m - 1, by omega⟩
    rw [f_X9_putNumber_4.eq_2, if_pos (by decide), ← nud_is hv he h1 (Or.inl rfl)]
  | succ e ih =>
    intro he h1 m hm
    obtain ⟨m, rfl⟩ : ∃ m', m = m' + 1 := ⟨m - 1, by omega⟩
    obtain ⟨q1, q2⟩ := p10 (e + 1) he
    have q3 : 10 ≤ 10 ^ (e + 1) := by
      have := (p10 e (by omega)).1
      rw [Nat.pow_succ]
      omega
    rw [f_X9_putNumber_4.eq_2, if_neg (show ¬ nI (10 ^ (e + 1)) ≤ 1 from nI_ge (a := 1) (by omega) (by omega))]
    by_cases c : 10 ^ (e + 1) ≤ v
    · rw [if_pos (nI_le c (by omega)), ← nud_is hv he h1 (Or.inr c)]
    · rw [if_neg (nI_ge (by omega) (by omega)), u10 he, p10s]
      refine ih (by omega) ?_ m (by omega)
      have : v < 10 ^ e * 10 := by rw [← Nat.pow_succ]; omega
      exact Nat.div_lt_of_lt_mul this
theorem m_putn (h : MW τ l) {v : Nat} (hv : v < 1000000) (hl : l.length + (nut v).length ≤ 20000) : ∃ τ', f_X9_putNumber τ (nI v) = some (τ', ()) ∧ UW τ τ' ∧ MW τ' (l ++ nut v) := by
  unfold nut at hl
  rw [dgl_len] at hl
  have n5 : nud v ≤ 5 := by
    unfold nud
    repeat' split
    all_goals omega
  have g1 := m_putn_u (τ := τ) hv 5 (by omega) (by omega) fl (by have := fl_big; omega)
  obtain ⟨τ', k1, k2, k3⟩ := m_putn_d hv (nud v + 1) (by omega) τ l h hl fl (by have := fl_big; omega)
  rw [if_neg (by omega), Nat.add_sub_cancel] at k1
  exact ⟨τ', g1.trans k1, k2, k3⟩
end Pu
