/-! The tokens, the reference's side and both together. -/
/-- how many bytes go on -/
def gn (κ : Nat) (tx : List Nat) : Nat → Nat → Nat
  | 0, _ => 0
  | r + 1, e => if go κ (el tx e) = true then 1 + gn κ tx r (e + 1) else 0
theorem gn_le (κ : Nat) (tx : List Nat) : ∀ r e, gn κ tx r e ≤ r := by
  intro r
  induction r with
  | zero => exact fun _ => Nat.le_refl _
  | succ r ih =>
    intro e
    have := ih (e + 1)
    unfold gn
    split <;> omega
theorem gn_go (κ : Nat) (tx : List Nat) : ∀ r e i, e ≤ i → i < e + gn κ tx r e → go κ (el tx i) = true := by
  intro r
  induction r with
  | zero => exact fun e i h1 h2 => absurd h2 (by unfold gn; omega)
  | succ r ih =>
    intro e i h1 h2
    unfold gn at h2
    split at h2
    · by_cases c : i = e
      · rw [c]
        assumption
      · exact ih (e + 1) i (by omega) (by omega)
    · omega
theorem gn_stop (κ : Nat) (tx : List Nat) : ∀ r e, gn κ tx r e < r → go κ (el tx (e + gn κ tx r e)) = false := by
  intro r
  induction r with
  | zero => exact fun e h => absurd h (Nat.not_lt_zero _)
  | succ r ih =>
    intro e h
    unfold gn at h ⊢
    split at h
    · rename_i hg
      rw [if_pos hg]
      have := ih (e + 1) (by omega)
      rw [← this]
      congr 2
      omega
    · rename_i hg
      rw [if_neg hg]
      simpa using hg
def MT (τ : St) (tx : List Nat) : Prop := gi τ 804 0 = nI tx.length ∧ Bs (ga τ 2 0) 0 tx ∧ By tx ∧ tx.length ≤ 2000
section Lm
variable {σ τ : St} {tx : List Nat} {c p : Nat} {ks ps ls : Nat → Nat}
theorem MT.g (h : MT τ tx) {i : Nat} (hi : i < tx.length) : ga τ 2 0 i = sB (el tx i) := by
  have := h.2.1 i hi
  rwa [Nat.zero_add] at this
theorem m_scan1 (h : MT τ tx) (k : St → Int32 → Int32 → Int32 → Option (St × Int32)) (v1 v2 : Int32) : ∀ (r e : Nat), e + r = tx.length → ∀ m, r < m → f_X9_cut_64 k m τ v1 v2 (nI e) = k τ v1 v2 (nI (e + gn 1 tx r e)) := by
  have hlen := h.2.2.2
  intro r
  induction r with
  | zero =>
    intro e he m hm
    obtain ⟨m, rfl⟩ : ∃ m', m = m' + 1 := ⟨m - 1, by omega⟩
    rw [f_X9_cut_64.eq_2, h.1, if_pos (nI_le (by omega) (by omega))]
    rfl
  | succ r ih =>
    intro e he m hm
    obtain ⟨m, rfl⟩ : ∃ m', m = m' + 1 := ⟨m - 1, by omega⟩
    have hb := By_get h.2.2.1 e
    have e1 := h.g (i := e) (by omega)
    rw [f_X9_cut_64.eq_2, h.1, if_neg (nI_ge (by omega) (by omega)), ck_nI (by omega) (by omega), e1, m_letter hb, cl_mk]
    have ih' := ih (e + 1) (by omega) m (by omega)
    unfold f_X9_cut_107
    have e2 : e + 1 + gn 1 tx r (e + 1) = e + (1 + gn 1 tx r (e + 1)) := by omega
    simp (disch := omega) only [ck_nI, e1, m_digit hb, cl_mk, bI_0, (t_M2 _ hb).2.2.2.1, nI_1, ih', e2]
    rw [gn.eq_2]
    unfold go iN
    cases iL (el tx e) <;> cases iD (el tx e) <;> by_cases c3 : el tx e = 95 <;> simp [c3]
theorem m_scan2 (h : MT τ tx) (k : St → Int32 → Int32 → Int32 → Option (St × Int32)) (v1 v2 : Int32) : ∀ (r e : Nat), e + r = tx.length → ∀ m, r < m → f_X9_cut_120 k m τ v1 v2 (nI e) = k τ v1 v2 (nI (e + gn 2 tx r e)) := by
  have hlen := h.2.2.2
  intro r
  induction r with
  | zero =>
    intro e he m hm
    obtain ⟨m, rfl⟩ : ∃ m', m = m' + 1 := ⟨m - 1, by omega⟩
    rw [f_X9_cut_120.eq_2, h.1, if_pos (nI_le (by omega) (by omega))]
    rfl
  | succ r ih =>
    intro e he m hm
    obtain ⟨m, rfl⟩ : ∃ m', m = m' + 1 := ⟨m - 1, by omega⟩
    have hb := By_get h.2.2.1 e
    have e1 := h.g (i := e) (by omega)
    rw [f_X9_cut_120.eq_2, h.1, if_neg (nI_ge (by omega) (by omega)), ck_nI (by omega) (by omega), e1, m_digit hb, cl_mk]
    have ih' := ih (e + 1) (by omega) m (by omega)
    unfold gn go
    rw [nI_1, ih']
    have e2 : e + 1 + gn 2 tx r (e + 1) = e + (1 + gn 2 tx r (e + 1)) := by omega
    rw [e2]
    simp only [bI_0]
    cases iD (el tx e) <;> simp
theorem m_begin (h : TM τ c ks ps ls) (hc : c < 2000) (k : St → Int32 → Option (St × Int32)) (κ p e : Nat) (he : p ≤ e) : ∃ τ', f_X9_cut_228 k τ 14 (nI c) (nI κ) (nI p) (nI e) = k τ' (nI e) ∧ UTM τ τ' ∧ gi τ' 804 0 = gi τ 804 0 ∧ gi τ' 803 0 = gi τ 803 0 ∧ TM τ' (c + 1) (fun t => if t = c then κ else ks t) (fun t => if t = c then p else ps t) (fun t => if t = c then e - p else ls t) := by
  refine ⟨si (sa (sa (sa τ 1 14 c (nI κ)) 1 15 c (nI p)) 1 16 c (nI (e - p))) 830 0 (nI (c + 1)), ?_, ⟨fun f i hf => ?_, fun f i hf => ?_⟩, ?_, ?_, ?_, fun t ht => ?_⟩
  · unfold f_X9_cut_228
    rw [show lenMi.getD 14 0 = 2001 from rfl, ck_nI (by omega) (by omega)]
    simp only [bnd, gi_sa, h.1]
    rw [ck_nI (by omega) (by omega), ck_nI (by omega) (by omega), nI_1, ln_sub he]
  · simp only [gi_si, gi_sr, gi_sg, gi_sa, gr_si, rr_sr, gr_sg, gr_sa, ga_si, ga_sr, ga_sg, ga_sa, true_and, and_true, false_and, and_false, Nat.reduceEqDiff, ↓reduceIte]
    rw [if_neg (by omega)]
  · simp only [gi_si, gi_sr, gi_sg, gi_sa, gr_si, rr_sr, gr_sg, gr_sa, ga_si, ga_sr, ga_sg, ga_sa, true_and, and_true, false_and, and_false, Nat.reduceEqDiff, ↓reduceIte]
    rw [if_neg (by omega), if_neg (by omega), if_neg (by omega)]
  · simp [gi_si, gi_sr, gi_sg, gi_sa, gr_si, rr_sr, gr_sg, gr_sa, ga_si, ga_sr, ga_sg, ga_sa, true_and, and_true, false_and, and_false, Nat.reduceEqDiff, ↓reduceIte]
  · simp [gi_si, gi_sr, gi_sg, gi_sa, gr_si, rr_sr, gr_sg, gr_sa, ga_si, ga_sr, ga_sg, ga_sa, true_and, and_true, false_and, and_false, Nat.reduceEqDiff, ↓reduceIte]
  · simp [gi_si, gi_sr, gi_sg, gi_sa, gr_si, rr_sr, gr_sg, gr_sa, ga_si, ga_sr, ga_sg, ga_sa, true_and, and_true, false_and, and_false, Nat.reduceEqDiff, ↓reduceIte]
  · simp only [gi_si, gi_sr, gi_sg, gi_sa, gr_si, rr_sr, gr_sg, gr_sa, ga_si, ga_sr, ga_sg, ga_sa, true_and, and_true, false_and, and_false, Nat.reduceEqDiff, ↓reduceIte]
    unfold upd
    by_cases e : t = c
    · simp only [e, if_true]
      exact ⟨trivial, trivial, trivial⟩
    · simp only [e, if_false]
      exact h.2 t (by omega)
/-- a token of the reference is good, or not -/
theorem m_tok (h : TM τ c ks ps ls) (hc : c < 2000) (k : St → Int32 → Option (St × Int32)) {b e : Nat} (hb : b < 256) (hp : p < e) (he : e < 2147483648) :
    ((kb b = 1 ∧ e - p ≤ 12) ∨ (kb b = 2 ∧ e - p ≤ 6) ∨ 2 < kb b → f_X9_cut_146 k τ (nI p) (sB b) (nI e) = f_X9_cut_228 k τ 14 (nI c) (nI (kb b)) (nI p) (nI e)) ∧
    ((kb b = 1 ∧ 12 < e - p) ∨ (kb b = 2 ∧ 6 < e - p) ∨ kb b = 0 → f_X9_cut_146 k τ (nI p) (sB b) (nI e) = some (τ, nI p)) := by
  have e1 : nI e - nI p = nI (e - p) := ln_sub (by omega)
  have l12 : nI (e - p) ≤ 12 ↔ e - p ≤ 12 := ln_le (b := 12) (by omega) (by omega)
  have l6 : nI (e - p) ≤ 6 ↔ e - p ≤ 6 := ln_le (b := 6) (by omega) (by omega)
  obtain ⟨h128, hk⟩ := kb_ok b hb
  unfold f_X9_cut_146 f_X9_cut_161 f_X9_cut_176 f_X9_cut_183 f_X9_cut_188
  simp only [m_letter hb, m_digit hb, m_mark hb, cl_mk, bI_0, e1, l12, l6, h.1, i10, ↓reduceIte]
  rcases hk with ⟨a, k1⟩ | ⟨a, b1, k1⟩ | ⟨a, b1, c1, k1, k2, k3⟩ | ⟨a, b1, c1, k1⟩
  · simp only [a, k1]
    have : iM b = false := by
      unfold iL at a
      unfold iM
      simp at a ⊢
      omega
    have hD : iD b = false := by
      unfold iL at a
      unfold iD
      simp at a ⊢
      omega
    constructor
    · intro hh
      have : e - p ≤ 12 := by omega
      simp only [this, ↓reduceIte, Bool.true_eq_false, Bool.false_eq_true]
      rfl
    · intro hh
      have h12 : ¬ e - p ≤ 12 := by omega
      simp [h12, hD, this]
  · simp only [a, b1, k1]
    have : iM b = false := by
      unfold iD at b1
      unfold iM
      simp at b1 ⊢
      omega
    constructor
    · intro hh
      have : e - p ≤ 6 := by omega
      simp only [this, ↓reduceIte, Bool.true_eq_false, Bool.false_eq_true]
      rfl
    · intro hh
      have h12 : ¬ e - p ≤ 6 := by omega
      simp [h12, this]
  · simp only [a, b1, c1, k1]
    constructor
    · intro hh
      simp only [↓reduceIte, Bool.true_eq_false, Bool.false_eq_true]
      rw [sB_asc k3]
    · intro hh
      omega
  · simp only [a, b1, c1, k1]
    constructor
    · intro hh
      omega
    · intro hh
      simp
theorem el_mem_wrd {p l a : Nat} (h : a ∈ wrd tx p l) : ∃ i, p ≤ i ∧ i < p + l ∧ i < tx.length ∧ a = el tx i := by
  unfold wrd at h
  obtain ⟨i, hi, e⟩ := List.mem_iff_getElem.mp h
  rw [List.length_take, List.length_drop] at hi
  refine ⟨p + i, by omega, by omega, by omega, ?_⟩
  rw [← e, List.getElem_take, List.getElem_drop, el_t (by omega)]
/-- one token more -/
theorem TW_more (h : TW tx p c ks ps ls) {κ l : Nat} (hl : 0 < l) (hpl : p + l ≤ tx.length) (ht : (κ = 1 ∧ Nm (wrd tx p l)) ∨ (κ = 2 ∧ l ≤ 6 ∧ ∀ a, a ∈ wrd tx p l → iD a = true) ∨ (40 ≤ κ ∧ κ < 128 ∧ l = 1)) : TW tx (p + l) (c + 1) (fun t => if t = c then κ else ks t) (fun t => if t = c then p else ps t) (fun t => if t = c then l else ls t) := by
  refine ⟨by have := h.1; omega, hpl, fun t h1 => ?_⟩
  by_cases e : t = c
  · subst e
    simp only [if_true]
    exact ⟨hl, Nat.le_refl _, fun h2 => by omega, ht⟩
  · simp only [e, if_false]
    obtain ⟨a1, a2, a3, a4⟩ := h.2.2 t (by omega)
    refine ⟨a1, by omega, fun h2 => ?_, a4⟩
    by_cases e2 : t + 1 = c
    · rw [if_pos e2]
      omega
    · rw [if_neg e2]
      exact a3 (by omega)
def TE (τ : St) (tx : List Nat) (c : Nat) : Prop := ga τ 1 14 c = 0 ∧ ga τ 1 15 c = nI tx.length ∧ ga τ 1 16 c = 0
def LexR (tx : List Nat) (a b : Option (St × Int32)) (σ τ : St) : Prop := ∃ σ' τ', UTX σ σ' ∧ UTM τ τ' ∧ gi τ' 804 0 = gi τ 804 0 ∧ gi τ' 803 0 = gi τ 803 0 ∧ ((∃ c ks ps ls, a = some (σ', -1) ∧ b = some (τ', -1) ∧ TX σ' c ks ps ls ∧ TM τ' c ks ps ls ∧ TE τ' tx c ∧ TW tx tx.length c ks ps ls) ∨ (∃ q, q < tx.length ∧ a = some (σ', nI q) ∧ b = some (τ', nI q)))
theorem LexR.pre {a b : Option (St × Int32)} {σ1 τ1 : St} (h : LexR tx a b σ1 τ1) (u : UTX σ σ1) (u2 : UTM τ τ1) (e1 : gi τ1 804 0 = gi τ 804 0) (e2 : gi τ1 803 0 = gi τ 803 0) : LexR tx a b σ τ := by
  obtain ⟨σ', τ', h1, h2, h3, h4, h5⟩ := h
  exact ⟨σ', τ', u.trans h1, u2.trans h2, h3.trans e1, h4.trans e2, h5⟩
theorem MT.of {τ τ' : St} (h : MT τ tx) (u : UTM τ τ') (e : gi τ' 804 0 = gi τ 804 0) : MT τ' tx := ⟨by rw [e, h.1], by rw [u.2 2 0 (by omega)]; exact h.2.1, h.2.2⟩
theorem lex_main : ∀ (n p : Nat), p + n = tx.length → ∀ (σ τ : St) (c κ : Nat) (ks ps ls : Nat → Nat), LX σ 0 tx → MT τ tx → TX σ c ks ps ls → TM τ c ks ps ls → TW tx p c ks ps ls → κ < 128 → (p < tx.length → go κ (el tx p) = false) → ∀ m m', n < m → n < m' → LexR tx (f_X6_readAll_9 m σ (nI κ) (nI p)) (f_X9_cut_20 m' τ (nI p)) σ τ := by
  intro n
  induction n using Nat.strongRecOn with
  | ind n ih =>
  intro p hpn σ τ c κ ks ps ls hl hm hX hM hW hκ hgo m m' hm1 hm2
  obtain ⟨m, rfl⟩ : ∃ k, m = k + 1 := ⟨m - 1, by omega⟩
  obtain ⟨m', rfl⟩ : ∃ k, m' = k + 1 := ⟨m' - 1, by omega⟩
  have hlen := hm.2.2.2
  have hcp := hW.1
  by_cases hend : p = tx.length
  · rw [f_X6_readAll_9.eq_2, f_X9_cut_20.eq_2]
    unfold f_X3_length
    rw [cl_mk, hl.1, if_pos (nI_le (by omega) (by omega)), hm.1, if_pos (nI_le (by omega) (by omega)), hM.1, ck_nI (by omega) (by omega)]
    simp only [bnd, gi_sa, hM.1, hm.1]
    rw [ck_nI (by omega) (by omega), ck_nI (by omega) (by omega)]
    refine ⟨σ, _, UTX.refl' σ, ?_, ?_, ?_, Or.inl ⟨c, ks, ps, ls, rfl, rfl, hX, ?_, ?_, ?_⟩⟩
    · refine ⟨fun f i hf => rfl, fun f i hf => ?_⟩
      simp only [gi_si, gi_sr, gi_sg, gi_sa, gr_si, rr_sr, gr_sg, gr_sa, ga_si, ga_sr, ga_sg, ga_sa, true_and, and_true, false_and, and_false, Nat.reduceEqDiff, ↓reduceIte]
      rw [if_neg (by omega), if_neg (by omega), if_neg (by omega)]
    · rfl
    · rfl
    · refine ⟨hM.1, fun t ht => ?_⟩
      simp only [gi_si, gi_sr, gi_sg, gi_sa, gr_si, rr_sr, gr_sg, gr_sa, ga_si, ga_sr, ga_sg, ga_sa, true_and, and_true, false_and, and_false, Nat.reduceEqDiff, ↓reduceIte]
      unfold upd
      have : ¬ t = c := by omega
      simp only [this, if_false]
      exact hM.2 t ht
    · simp only [TE, gi_si, gi_sr, gi_sg, gi_sa, gr_si, rr_sr, gr_sg, gr_sa, ga_si, ga_sr, ga_sg, ga_sa, true_and, and_true, false_and, and_false, Nat.reduceEqDiff, ↓reduceIte]
      unfold upd
      simp only [if_true]
      exact ⟨trivial, trivial, trivial⟩
    · rw [← hend]
      exact hW
  have hp : p < tx.length := by omega
  have hb := By_get hm.2.2.1 p
  have hgp := hgo hp
  have e1 := hm.g hp
  rw [f_X6_readAll_9.eq_2, f_X9_cut_20.eq_2]
  unfold f_X3_length
  rw [cl_mk, hl.1, if_neg (nI_ge hp (by omega)), lx_at hl hp, cl_mk, x_go hb hκ, hgp, cl_mk, bI_f, if_pos rfl, hm.1, if_neg (nI_ge hp (by omega)), ck_nI (by omega) (by omega), e1]
  simp only [(t_M2 _ hb).2.1, (t_M2 _ hb).2.2.1, (t_M2 _ hb).2.2.2.2.1, (t_M2 _ hb).2.2.2.2.2.1]
  unfold f_X6_readAll_68 f_X6_readAll_90 f_X9_cut_47 f_X9_cut_263
  have hrec0 : LexR tx (f_X6_readAll_9 m σ 0 (nI p + 1)) (f_X9_cut_20 m' τ (nI p + 1)) σ τ := by
    rw [nI_1]
    exact ih (n - 1) (by omega) (p + 1) (by omega) σ τ c 0 ks ps ls hl hm hX hM ⟨by omega, by omega, fun t ht => by obtain ⟨a1, a2, a3, a4⟩ := hW.2.2 t ht; exact ⟨a1, by omega, a3, a4⟩⟩ (by omega) (fun _ => rfl) m m' (by omega) (by omega)
  by_cases c32 : el tx p = 32
  · simp only [c32, if_true, show ¬ (32 : Nat) = 10 by decide, if_false]
    exact hrec0
  by_cases c10 : el tx p = 10
  · simp only [c10, if_true, show ¬ (10 : Nat) = 32 by decide, if_false]
    exact hrec0
  rw [if_neg c32, if_neg c10, if_neg c10, if_neg c32, x_kb hb, cl_mk, m_letter hb, cl_mk, m_digit hb]
  obtain ⟨h128, hk⟩ := kb_ok (el tx p) hb
  have hc2 : c < 2000 := by omega
  -- a name or a number
  have hword : ∀ (κ' lim : Nat), (κ' = 1 ∧ lim = 12) ∨ (κ' = 2 ∧ lim = 6) → kb (el tx p) = κ' → ∀ e, e = p + 1 + gn κ' tx (tx.length - (p + 1)) (p + 1) → LexR tx (cl (f_X6_begin σ (nI κ') (nI p)) fun s10 _u87 => f_X6_readAll_9 m s10 (nI κ') (nI p + 1)) (f_X9_cut_146 (fun σ v1 => f_X9_cut_20 m' σ v1) τ (nI p) (sB (el tx p)) (nI e)) σ τ := by
    intro κ' lim hκ' hkb e he
    have g1 := gn_le κ' tx (tx.length - (p + 1)) (p + 1)
    have g2 := gn_go κ' tx (tx.length - (p + 1)) (p + 1)
    have g3 := gn_stop κ' tx (tx.length - (p + 1)) (p + 1)
    obtain ⟨σ1, b1, b2, b3⟩ := x_begin hX hc2 κ' p
    rw [b1, cl_mk, nI_1]
    obtain ⟨mt1, mt2⟩ := m_tok hM hc2 (fun σ v1 => f_X9_cut_20 m' σ v1) (e := e) (p := p) hb (by omega) (by omega)
    by_cases hlim : e - p ≤ lim
    · -- it is good
      rw [mt1 (by omega), hkb]
      obtain ⟨τ1, d1, d2, d3, d4, d5⟩ := m_begin hM hc2 (fun σ v1 => f_X9_cut_20 m' σ v1) κ' p e (by omega)
      rw [d1]
      obtain ⟨σ2, f1, f2, f3⟩ := x_more (p := p) hκ' (by omega) (e - p - 1) σ1 (fun t => if t = c then 1 else ls t) (p + 1) (b2.lx hl) b3 (by simp) hc2 (by simp; omega) (by omega) (fun i h1 h2 => g2 i h1 (by omega)) (by simp; omega) (m - (e - p - 1))
      have em : m - (e - p - 1) + (e - p - 1) = m := by omega
      rw [em] at f1
      rw [f1]
      have ep : p + 1 + (e - p - 1) = p + (e - p) := by omega
      rw [ep]
      have ee : nI e = nI (p + (e - p)) := by congr 1; omega
      rw [ee]
      have f3' : TX σ2 (c + 1) (fun t => if t = c then κ' else ks t) (fun t => if t = c then p else ps t) (fun t => if t = c then e - p else ls t) := by
        refine ⟨f3.1, fun t ht => ?_⟩
        obtain ⟨a1, a2, a3⟩ := f3.2 t ht
        refine ⟨a1, a2, ?_⟩
        rw [a3]
        by_cases et : t = c
        · simp only [et, if_true]
          congr 1
          omega
        · simp only [et, if_false]
      have hw : (κ' = 1 ∧ Nm (wrd tx p (e - p))) ∨ (κ' = 2 ∧ e - p ≤ 6 ∧ ∀ a, a ∈ wrd tx p (e - p) → iD a = true) ∨ (40 ≤ κ' ∧ κ' < 128 ∧ e - p = 1) := by
        rcases hκ' with ⟨rfl, rfl⟩ | ⟨rfl, rfl⟩
        · left
          refine ⟨rfl, ?_, ?_, ?_⟩
          · unfold wrd
            rw [List.length_take, List.length_drop]
            omega
          · unfold wrd
            rw [List.length_take, List.length_drop]
            omega
          · intro a ha
            obtain ⟨i, i1, i2, i3, rfl⟩ := el_mem_wrd ha
            by_cases ei : i = p
            · subst ei
              rcases hk with ⟨a, _⟩ | ⟨_, _, a⟩ | ⟨_, _, _, a, _⟩ | ⟨_, _, _, a⟩
              · exact iN_NC (by unfold iN; simp [a])
              · omega
              · omega
              · omega
            · have := g2 i (by omega) (by omega)
              unfold go at this
              simp at this
              exact iN_NC this
        · right
          left
          refine ⟨rfl, hlim, ?_⟩
          intro a ha
          obtain ⟨i, i1, i2, i3, rfl⟩ := el_mem_wrd ha
          by_cases ei : i = p
          · subst ei
            rcases hk with ⟨_, a⟩ | ⟨_, a, _⟩ | ⟨_, _, _, a, _⟩ | ⟨_, _, _, a⟩
            · omega
            · exact a
            · omega
            · omega
          · have := g2 i (by omega) (by omega)
            unfold go at this
            simpa using this
      refine LexR.pre (ih (n - (e - p)) (by omega) (p + (e - p)) (by omega) σ2 τ1 (c + 1) κ' _ _ _ (f2.lx (b2.lx hl)) (hm.of d2 d3) f3' d5 (TW_more hW (by omega) (by omega) hw) (by omega) (fun hlt => ?_) _ _ (by omega) (by omega)) (b2.trans f2) d2 d3 d4
      have := g3 (by omega)
      rw [← this]
      congr 2
      omega
    · -- it is too long
      rw [mt2 (by omega)]
      obtain ⟨σ2, f1, f2, f3⟩ := x_more (p := p) hκ' (by omega) (lim - 1) σ1 (fun t => if t = c then 1 else ls t) (p + 1) (b2.lx hl) b3 (by simp) hc2 (by simp; omega) (by omega) (fun i h1 h2 => g2 i h1 (by omega)) (by simp; omega) (m - (lim - 1))
      have em : m - (lim - 1) + (lim - 1) = m := by omega
      rw [em] at f1
      rw [f1]
      have ep : p + 1 + (lim - 1) = p + lim := by omega
      rw [ep]
      obtain ⟨σ3, k1, k2⟩ := x_long (p := p) hκ' (by omega) (f2.lx (b2.lx hl)) f3 (by simp) hc2 (by simp; omega) (by omega) (g2 (p + lim) (by omega) (by omega)) (m - (lim - 1) - 1)
      have em2 : m - (lim - 1) - 1 + 1 = m - (lim - 1) := by omega
      rw [em2] at k1
      rw [k1]
      exact ⟨σ3, τ, (b2.trans f2).trans k2, UTM.refl' τ, rfl, rfl, Or.inr ⟨p, hp, rfl, rfl⟩⟩
  rcases hk with ⟨a, k1⟩ | ⟨a, b1, k1⟩ | ⟨a, b1, c1, k1, k2, k3⟩ | ⟨a, b1, c1, k1⟩
  · rw [a, k1, bI_t, if_neg i10, if_neg (show ¬ nI 1 = 0 by decide), nI_1 p, m_scan1 hm _ _ _ (tx.length - (p + 1)) (p + 1) (by omega) fl (by have := fl_big; omega), ← nI_1 p]
    exact hword 1 12 (Or.inl ⟨rfl, rfl⟩) k1 _ rfl
  · rw [a, k1, bI_f, if_pos rfl, cl_mk, b1, bI_t, if_neg i10, if_neg (show ¬ nI 2 = 0 by decide), nI_1 p, m_scan2 hm _ _ _ (tx.length - (p + 1)) (p + 1) (by omega) fl (by have := fl_big; omega), ← nI_1 p]
    exact hword 2 6 (Or.inr ⟨rfl, rfl⟩) k1 _ rfl
  · rw [a, k1, bI_f, if_pos rfl, cl_mk, b1, bI_f, if_pos rfl, if_neg (fun h => by have := (ln_eq0 (by omega)).mp h; omega), nI_1 p]
    obtain ⟨σ1, x1, x2, x3⟩ := x_begin hX hc2 (el tx p) p
    rw [x1, cl_mk]
    obtain ⟨mt1, mt2⟩ := m_tok hM hc2 (fun σ v1 => f_X9_cut_20 m' σ v1) (e := p + 1) (p := p) hb (by omega) (by omega)
    rw [mt1 (by omega), k1]
    obtain ⟨τ1, d1, d2, d3, d4, d5⟩ := m_begin hM hc2 (fun σ v1 => f_X9_cut_20 m' σ v1) (el tx p) p (p + 1) (by omega)
    rw [d1]
    have e7 : p + 1 - p = 1 := by omega
    rw [e7] at d5
    refine LexR.pre (ih (n - 1) (by omega) (p + 1) (by omega) σ1 τ1 (c + 1) (el tx p) _ _ _ (x2.lx hl) (hm.of d2 d3) x3 d5 (TW_more hW (by omega) (by omega) (Or.inr (Or.inr ⟨k2, k3, rfl⟩))) k3 (fun _ => ?_) _ _ (by omega) (by omega)) x2 d2 d3 d4
    unfold go
    have n1 : ¬ el tx p = 1 := by omega
    have n2 : ¬ el tx p = 2 := by omega
    simp [n1, n2]
  · rw [a, k1, bI_f, if_pos rfl, cl_mk, b1, bI_f, if_pos rfl, if_pos n00]
    obtain ⟨mt1, mt2⟩ := m_tok hM hc2 (fun σ v1 => f_X9_cut_20 m' σ v1) (e := p + 1) (p := p) hb (by omega) (by omega)
    rw [nI_1, mt2 (by omega)]
    exact ⟨σ, τ, UTX.refl' σ, UTM.refl' τ, rfl, rfl, Or.inr ⟨p, hp, rfl, rfl⟩⟩
end Lm
