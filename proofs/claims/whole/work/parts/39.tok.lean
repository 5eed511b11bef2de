/-! Tokens as both sides use them. -/
def TKX (σ : St) (tx : List Nat) (c : Nat) (ks ps ls : Nat → Nat) : Prop := LX σ 0 tx ∧ gi σ 504 0 = nI c ∧ ∀ t, t < c → ga σ 8 8 t = nI (ks t) ∧ ga σ 8 9 t = nI (ps t) ∧ ga σ 8 10 t = nI (ls t)
def TKM (τ : St) (tx : List Nat) (c : Nat) (ks ps ls : Nat → Nat) : Prop := MT τ tx ∧ gi τ 830 0 = nI c ∧ ∀ t, t ≤ c → ga τ 1 14 t = nI (ks t) ∧ ga τ 1 15 t = nI (ps t) ∧ ga τ 1 16 t = nI (ls t)
def TKW (tx : List Nat) (c : Nat) (ks ps ls : Nat → Nat) : Prop := TW tx tx.length c ks ps ls ∧ ks c = 0 ∧ ps c = tx.length ∧ ls c = 0 ∧ tx.length ≤ 2000
theorem lex_top {σ τ : St} {tx : List Nat} (h : RT σ τ tx) : ∃ σ' τ', UTX σ σ' ∧ UTM τ τ' ∧ gi τ' 803 0 = 0 ∧ ((∃ c ks ps ls, f_X6_readAll σ = some (σ', -1) ∧ f_X9_cut τ = some (τ', -1) ∧ TKX σ' tx c ks ps ls ∧ TKM τ' tx c ks ps ls ∧ TKW tx c ks ps ls) ∨ (∃ q, q < tx.length ∧ f_X6_readAll σ = some (σ', nI q) ∧ f_X9_cut τ = some (τ', nI q))) := by
  have hl : tx.length ≤ 2000 := h.1.2.1
  unfold f_X6_readAll f_X9_cut
  simp only [bnd]
  have u1 : UTX σ (si σ 504 0 0) := ⟨rfl, fun f i hf => by simp only [gi_si, gi_sr, gi_sg, gi_sa, gr_si, rr_sr, gr_sg, gr_sa, ga_si, ga_sr, ga_sg, ga_sa, true_and, and_true, false_and, and_false, Nat.reduceEqDiff, ↓reduceIte]; rw [if_neg (by omega)], fun f i hf => rfl⟩
  have u2 : UTM τ (si (si (si τ 804 0 (gi τ 803 0)) 803 0 0) 830 0 0) := by
    refine ⟨fun f i hf => ?_, fun f i hf => rfl⟩
    simp only [gi_si, gi_sr, gi_sg, gi_sa, gr_si, rr_sr, gr_sg, gr_sa, ga_si, ga_sr, ga_sg, ga_sa, true_and, and_true, false_and, and_false, Nat.reduceEqDiff, ↓reduceIte]
    rw [if_neg (by omega), if_neg (by omega), if_neg (by omega)]
  have hm : MT (si (si (si τ 804 0 (gi τ 803 0)) 803 0 0) 830 0 0) tx := by
    refine ⟨?_, h.2.2, h.1.2.2.2, hl⟩
    simp only [gi_si, gi_sr, gi_sg, gi_sa, gr_si, rr_sr, gr_sg, gr_sa, ga_si, ga_sr, ga_sg, ga_sa, true_and, and_true, false_and, and_false, Nat.reduceEqDiff, ↓reduceIte]
    exact h.2.1
  obtain ⟨σ', τ', g1, g2, g3, g4, g5⟩ := lex_main tx.length 0 (by omega) (si σ 504 0 0) (si (si (si τ 804 0 (gi τ 803 0)) 803 0 0) 830 0 0) 0 0 (fun _ => 0) (fun _ => 0) (fun _ => 0) (u1.lx h.1) hm ⟨rfl, fun t ht => absurd ht (Nat.not_lt_zero _)⟩ ⟨rfl, fun t ht => absurd ht (Nat.not_lt_zero _)⟩ ⟨Nat.le_refl _, Nat.zero_le _, fun t ht => absurd ht (Nat.not_lt_zero _)⟩ (by omega) (fun _ => rfl) fl fl (by have := fl_big; omega) (by have := fl_big; omega)
  refine ⟨σ', τ', u1.trans g1, u2.trans g2, g4, ?_⟩
  rcases g5 with ⟨c, ks, ps, ls, e1, e2, e3, e4, e5, e6⟩ | g5
  · left
    refine ⟨c, fun t => if t < c then ks t else 0, fun t => if t < c then ps t else tx.length, fun t => if t < c then ls t else 0, e1, e2, ⟨g1.lx (u1.lx h.1), e3.1, fun t ht => ?_⟩, ⟨hm.of g2 g3, e4.1, fun t ht => ?_⟩, ⟨e6.1, Nat.le_refl _, fun t ht => ?_⟩, ?_, ?_, ?_, hl⟩
    · simp only [ht, if_true]
      exact e3.2 t ht
    · by_cases e : t < c
      · simp only [e, if_true]
        exact e4.2 t e
      · have : t = c := by omega
        subst this
        simp only [Nat.lt_irrefl, if_false]
        exact e5
    · simp only [ht, if_true]
      obtain ⟨a1, a2, a3, a4⟩ := e6.2.2 t ht
      refine ⟨a1, a2, fun h2 => ?_, a4⟩
      rw [if_pos h2]
      exact a3 h2
    · simp
    · simp
    · simp
  · exact Or.inr g5
section Tk
variable {σ τ : St} {tx : List Nat} {c : Nat} {ks ps ls : Nat → Nat}
theorem TKW.cc (w : TKW tx c ks ps ls) : c ≤ 2000 := Nat.le_trans w.1.1 w.2.2.2.2
theorem TKW.in (w : TKW tx c ks ps ls) {t : Nat} (ht : t ≤ c) : ps t + ls t ≤ tx.length := by
  by_cases e : t < c
  · exact (w.1.2.2 t e).2.1
  · have : t = c := by omega
    subst this
    rw [w.2.2.1, w.2.2.2.1]
    omega
theorem TKW.kk (w : TKW tx c ks ps ls) {t : Nat} (ht : t ≤ c) : ks t < 128 := by
  by_cases e : t < c
  · rcases (w.1.2.2 t e).2.2.2 with h | h | h <;> omega
  · have : t = c := by omega
    subst this
    rw [w.2.1]
    omega
theorem TKW.lt (w : TKW tx c ks ps ls) {t : Nat} (ht : t ≤ c) (h : ks t ≠ 0) : t < c := by
  by_cases e : t = c
  · rw [e, w.2.1] at h
    exact absurd rfl h
  · omega
theorem TKW.nm (w : TKW tx c ks ps ls) {t : Nat} (ht : t ≤ c) (h : ks t = 1) : Nm (wrd tx (ps t) (ls t)) := by
  have := w.lt ht (by omega)
  rcases (w.1.2.2 t this).2.2.2 with h | h | h
  · exact h.2
  · omega
  · omega
theorem TKW.len (w : TKW tx c ks ps ls) {t : Nat} (ht : t ≤ c) : (wrd tx (ps t) (ls t)).length = ls t := by
  unfold wrd
  have := w.in ht
  rw [List.length_take, List.length_drop]
  omega
theorem TKW.pp (w : TKW tx c ks ps ls) {t : Nat} (ht : t ≤ c) : ps t ≤ tx.length := by
  have := w.in ht
  omega
theorem TKW.mono (w : TKW tx c ks ps ls) {t : Nat} : ∀ u, t < u → u ≤ c → ps t < ps u := by
  intro u
  induction u with
  | zero => exact fun h => absurd h (Nat.not_lt_zero _)
  | succ u ih =>
    intro h1 h2
    have hu := w.1.2.2 u (by omega)
    have : ps u < ps (u + 1) := by
      by_cases e : u + 1 < c
      · have := hu.2.2.1 e
        omega
      · have e : u + 1 = c := by omega
        rw [e, w.2.2.1]
        omega
    by_cases e : t = u
    · subst e
      exact this
    · have := ih (by omega) (by omega)
      omega
theorem x_kind (h : TKX σ tx c ks ps ls) (w : TKW tx c ks ps ls) {t : Nat} (ht : t ≤ c) : f_X6_kindAt σ (nI t) = some (σ, nI (ks t)) := by
  have hc := w.cc
  unfold f_X6_kindAt
  rw [if_neg (nI_pos (by omega)), h.2.1]
  by_cases e : t < c
  · rw [if_neg (nI_ge e (by omega)), show lenX 8 = 2000 from rfl, ck_nI (by omega) (by omega), (h.2.2 t e).1]
  · have : t = c := by omega
    subst this
    rw [if_pos (nI_le (Nat.le_refl _) (by omega)), w.2.1]
    rfl
theorem x_place (h : TKX σ tx c ks ps ls) (w : TKW tx c ks ps ls) {t : Nat} (ht : t ≤ c) : f_X6_placeAt σ (nI t) = some (σ, nI (ps t)) := by
  have hc := w.cc
  unfold f_X6_placeAt f_X6_placeAt_21
  rw [if_neg (nI_pos (by omega)), h.2.1]
  by_cases e : t < c
  · rw [if_neg (nI_ge e (by omega)), show lenX 9 = 2000 from rfl, ck_nI (by omega) (by omega), (h.2.2 t e).2.1]
  · have : t = c := by omega
    subst this
    rw [if_pos (nI_le (Nat.le_refl _) (by omega)), w.2.2.1]
    unfold f_X3_length
    rw [cl_mk, h.1.1]
theorem x_word (h : TKX σ tx c ks ps ls) (w : TKW tx c ks ps ls) {t : Nat} (ht : t ≤ c) {k : Nat} (hk : k < nSt) : f_X6_isWord σ (nI t) k = some (σ, bI (decide (ks t = 1 ∧ sw k = wrd tx (ps t) (ls t)))) := by
  have hc := w.cc
  have h128 := w.kk ht
  unfold f_X6_isWord
  rw [x_kind h w ht, cl_mk]
  simp only [ln_1 (show ks t < 2147483648 by omega)]
  by_cases e : ks t = 1
  · have e2 := w.lt ht (by omega)
    have := w.in ht
    rw [if_pos e, show lenX 9 = 2000 from rfl, show lenX 10 = 2000 from rfl, ck_nI (by omega) (by omega), ck_nI (by omega) (by omega), (h.2.2 t e2).2.1, (h.2.2 t e2).2.2, lx_word h.1 hk (by omega), cl_mk, cl_bI]
    refine congrArg (fun b => some (σ, b)) (bI_c ?_)
    simp only [e, true_and]
    rfl
  · rw [if_neg e, bI_no (fun hh => e hh.1)]
/-- the number that digits are -/
def nvl (l : List Nat) : Nat := l.foldl (fun a b => a * 10 + (b - 48)) 0
theorem nvl_app (l : List Nat) (b : Nat) : nvl (l ++ [b]) = nvl l * 10 + (b - 48) := by
  unfold nvl
  rw [List.foldl_append]
  rfl
theorem take_s {l : List Nat} {i : Nat} (h : i < l.length) : l.take (i + 1) = l.take i ++ [el l i] := by
  rw [List.take_add_one, List.getElem?_eq_getElem h, el_t h]
  rfl
theorem nvl_lt {l : List Nat} (hd : ∀ a, a ∈ l → iD a = true) : ∀ i, i ≤ l.length → nvl (l.take i) < 10 ^ i := by
  intro i
  induction i with
  | zero => exact fun _ => by simp [nvl]
  | succ i ih =>
    intro hi
    have := ih (by omega)
    rw [take_s (by omega), nvl_app]
    have hb := hd (el l i) (by rw [el_t (by omega)]; exact List.getElem_mem _)
    unfold iD at hb
    simp at hb
    rw [Nat.pow_succ]
    omega
theorem el_wrd (w : TKW tx c ks ps ls) {t i : Nat} (ht : t ≤ c) (hi : i < ls t) : el (wrd tx (ps t) (ls t)) i = el tx (ps t + i) := el_sub hi
theorem x_num_loop (h : TKX σ tx c ks ps ls) (w : TKW tx c ks ps ls) {t : Nat} (ht : t < c) (hk : ks t = 2) : ∀ (r i : Nat), i + r = ls t → ∀ m, r < m → f_X6_numberAt_4 m σ (nI t) (nI (nvl ((wrd tx (ps t) (ls t)).take i))) (nI i) = some (σ, nI (nvl (wrd tx (ps t) (ls t)))) := by
  have hc := w.cc
  have hlen := w.len (t := t) (by omega)
  have hin := w.in (t := t) (by omega)
  have h2000 := w.2.2.2.2
  have hd : ∀ a, a ∈ wrd tx (ps t) (ls t) → iD a = true := by
    rcases (w.1.2.2 t ht).2.2.2 with h | h | h
    · omega
    · exact h.2.2
    · omega
  have h6 : ls t ≤ 6 := by
    rcases (w.1.2.2 t ht).2.2.2 with h | h | h
    · omega
    · exact h.2.1
    · omega
  intro r
  induction r with
  | zero =>
    intro i hi m hm
    obtain ⟨m, rfl⟩ : ∃ m', m = m' + 1 := ⟨m - 1, by omega⟩
    rw [f_X6_numberAt_4.eq_2, x_kind h w (by omega), cl_mk, hk, if_pos (by decide), show lenX 10 = 2000 from rfl, ck_nI (by omega) (by omega), (h.2.2 t ht).2.2, if_pos (nI_le (by omega) (by omega)), List.take_of_length_le (by omega)]
  | succ r ih =>
    intro i hi m hm
    obtain ⟨m, rfl⟩ : ∃ m', m = m' + 1 := ⟨m - 1, by omega⟩
    have hb := hd (el (wrd tx (ps t) (ls t)) i) (by rw [el_t (by omega)]; exact List.getElem_mem _)
    unfold iD at hb
    simp at hb
    rw [f_X6_numberAt_4.eq_2, x_kind h w (by omega), cl_mk, hk, if_pos (by decide), show lenX 10 = 2000 from rfl, show lenX 9 = 2000 from rfl, ck_nI (by omega) (by omega), (h.2.2 t ht).2.2, if_neg (nI_ge (by omega) (by omega)), ck_nI (by omega) (by omega), (h.2.2 t ht).2.1, nI_add, lx_at h.1 (by omega), cl_mk, ← el_wrd w (by omega) (by omega), ln_r10, nI_add, show (48 : Int32) = nI 48 from rfl, ln_sub (by omega), nI_1]
    have := ih (i + 1) (by omega) m (by omega)
    rw [take_s (by omega), nvl_app] at this
    rw [← this]
    congr 2
    omega
theorem x_num (h : TKX σ tx c ks ps ls) (w : TKW tx c ks ps ls) {t : Nat} (ht : t < c) (hk : ks t = 2) : f_X6_numberAt σ (nI t) = some (σ, nI (nvl (wrd tx (ps t) (ls t)))) := by
  have h6 : ls t ≤ 6 := by
    rcases (w.1.2.2 t ht).2.2.2 with h | h | h
    · omega
    · exact h.2.1
    · omega
  exact x_num_loop h w ht hk (ls t) 0 (by omega) fl (by have := fl_big; omega)
theorem num_lt (w : TKW tx c ks ps ls) {t : Nat} (ht : t < c) (hk : ks t = 2) : nvl (wrd tx (ps t) (ls t)) < 1000000 := by
  have hlen := w.len (t := t) (by omega)
  obtain ⟨h6, hd⟩ : ls t ≤ 6 ∧ ∀ a, a ∈ wrd tx (ps t) (ls t) → iD a = true := by
    rcases (w.1.2.2 t ht).2.2.2 with h | h | h
    · omega
    · exact ⟨h.2.1, h.2.2⟩
    · omega
  have := nvl_lt hd (ls t) (by omega)
  rw [List.take_of_length_le (by omega)] at this
  have : (10 : Nat) ^ ls t ≤ 10 ^ 6 := Nat.pow_le_pow_right (by omega) h6
  omega
theorem m_num_loop (h : TKM τ tx c ks ps ls) (w : TKW tx c ks ps ls) {t : Nat} (ht : t < c) (hk : ks t = 2) : ∀ (r i : Nat), i + r = ls t → ∀ m, r < m → f_X9_number_4 m τ (nI t) (nI (nvl ((wrd tx (ps t) (ls t)).take i))) (nI i) = some (τ, nI (nvl (wrd tx (ps t) (ls t)))) := by
  have hc := w.cc
  have hlen := w.len (t := t) (by omega)
  have hin := w.in (t := t) (by omega)
  have h2000 := w.2.2.2.2
  obtain ⟨h6, hd⟩ : ls t ≤ 6 ∧ ∀ a, a ∈ wrd tx (ps t) (ls t) → iD a = true := by
    rcases (w.1.2.2 t ht).2.2.2 with h | h | h
    · omega
    · exact ⟨h.2.1, h.2.2⟩
    · omega
  intro r
  induction r with
  | zero =>
    intro i hi m hm
    obtain ⟨m, rfl⟩ : ∃ m', m = m' + 1 := ⟨m - 1, by omega⟩
    rw [f_X9_number_4.eq_2, ck_nI (by omega) (by omega), (h.2.2 t (by omega)).2.2, if_pos (nI_le (by omega) (by omega)), List.take_of_length_le (by omega)]
  | succ r ih =>
    intro i hi m hm
    obtain ⟨m, rfl⟩ : ∃ m', m = m' + 1 := ⟨m - 1, by omega⟩
    have hb := hd (el (wrd tx (ps t) (ls t)) i) (by rw [el_t (by omega)]; exact List.getElem_mem _)
    unfold iD at hb
    simp at hb
    rw [f_X9_number_4.eq_2, ck_nI (by omega) (by omega), (h.2.2 t (by omega)).2.2, if_neg (nI_ge (by omega) (by omega)), ck_nI (by omega) (by omega), (h.2.2 t (by omega)).2.1, nI_add, ck_nI (by omega) (by omega), h.1.g (by omega), ← el_wrd w (by omega) (by omega), sB_asc (by omega), ln_10, nI_add, show (48 : Int32) = nI 48 from rfl, ln_sub (by omega), nI_1]
    have := ih (i + 1) (by omega) m (by omega)
    rw [take_s (by omega), nvl_app] at this
    simp only [bnd]
    rw [← this]
    congr 2
    omega
theorem m_num (h : TKM τ tx c ks ps ls) (w : TKW tx c ks ps ls) {t : Nat} (ht : t < c) (hk : ks t = 2) : f_X9_number τ (nI t) = some (τ, nI (nvl (wrd tx (ps t) (ls t)))) := by
  have h6 : ls t ≤ 6 := by
    rcases (w.1.2.2 t ht).2.2.2 with h | h | h
    · omega
    · exact h.2.1
    · omega
  exact m_num_loop h w ht hk (ls t) 0 (by omega) fl (by have := fl_big; omega)
end Tk
