/-! Words: letter by letter there, packed here. -/
def pkn (l : List Nat) : Nat := l.foldl (fun a b => a * 256 + b) 0
theorem pkn_app (l : List Nat) (b : Nat) : pkn (l ++ [b]) = pkn l * 256 + b := by
  unfold pkn
  rw [List.foldl_append]
  rfl
theorem pkn_inj : ∀ (n : Nat) (l m : List Nat), l.length = n → (∀ c, c ∈ l → 0 < c ∧ c < 256) → (∀ c, c ∈ m → 0 < c ∧ c < 256) → pkn l = pkn m → l = m := by
  intro n
  induction n with
  | zero =>
    intro l m hn hl hm e
    have : l = [] := List.eq_nil_of_length_eq_zero hn
    subst this
    rcases List.eq_nil_or_concat m with rfl | ⟨m', b, rfl⟩
    · rfl
    · rw [List.concat_eq_append] at e hm
      rw [pkn_app] at e
      have := hm b (by simp)
      have e0 : pkn [] = 0 := rfl
      omega
  | succ n ih =>
    intro l m hn hl hm e
    rcases List.eq_nil_or_concat l with rfl | ⟨l', a, rfl⟩
    · cases hn
    · rw [List.concat_eq_append] at e hl hn
      have ha := hl a (by simp)
      rcases List.eq_nil_or_concat m with rfl | ⟨m', b, rfl⟩
      · rw [pkn_app] at e
        have e0 : pkn [] = 0 := rfl
        omega
      · rw [List.concat_eq_append] at e hm
        rw [List.concat_eq_append, List.concat_eq_append]
        have hb := hm b (by simp)
        rw [pkn_app, pkn_app] at e
        have e1 : a = b := by omega
        have e2 : pkn l' = pkn m' := by omega
        rw [e1, ih l' m' (by simpa using hn) (fun c hc => hl c (by simp [hc])) (fun c hc => hm c (by simp [hc])) e2]
theorem pkn_lt {l : List Nat} (hl : ∀ c, c ∈ l → c < 256) : ∀ i, i ≤ l.length → pkn (l.take i) < 256 ^ i := by
  intro i
  induction i with
  | zero => exact fun _ => by simp [pkn]
  | succ i ih =>
    intro hi
    have := ih (by omega)
    rw [take_s (by omega), pkn_app]
    have hb := hl (el l i) (by rw [el_t (by omega)]; exact List.getElem_mem _)
    rw [Nat.pow_succ]
    omega
theorem lN_nat {n : Nat} (h : n < 2 ^ 64) : (lN n).toBitVec.toNat = n := by
  show (BitVec.ofNat 64 n).toNat = n
  rw [BitVec.toNat_ofNat, Nat.mod_eq_of_lt h]
theorem pk_step {n b : Nat} (hn : n < 2 ^ 48) (hb : b < 128) : (lN n <<< (Int32.toInt64 8 &&& 63)) ||| Int32.toInt64 (nI b) = lN (n * 256 + b) := by
  apply Int64.toBitVec_inj.mp
  apply BitVec.eq_of_toNat_eq
  rw [Int64.toBitVec_or, BitVec.toNat_or, lN_nat (by omega), nI_l (by omega), lN_nat (by omega), Int64.toBitVec_shiftLeft]
  have e : ((Int32.toInt64 8 &&& 63 : Int64).toBitVec.smod 64).toNat = 8 := by decide
  have e2 : ((Int32.toInt64 8 &&& 63 : Int64).toBitVec.smod 64) = BitVec.ofNat 64 8 := by decide
  rw [e2]
  show (((lN n).toBitVec <<< (BitVec.ofNat 64 8))).toNat ||| b = _
  rw [BitVec.shiftLeft_eq', BitVec.toNat_shiftLeft, lN_nat (by omega)]
  have e3 : (BitVec.ofNat 64 8).toNat = 8 := by decide
  rw [e3]
  have e4 : n <<< 8 = n * 256 := by rw [Nat.shiftLeft_eq]
  rw [e4, Nat.mod_eq_of_lt (by omega), ← e4, ← Nat.shiftLeft_add_eq_or_of_lt (by omega)]
section Wo
variable {σ τ : St} {tx : List Nat} {c : Nat} {ks ps ls : Nat → Nat}
theorem NC_lt {b : Nat} (h : NC b) : 0 < b ∧ b < 128 := by
  unfold NC at h
  omega
theorem m_word_loop (h : TKM τ tx c ks ps ls) (w : TKW tx c ks ps ls) {t : Nat} (ht : t < c) (hk : ks t = 1) (h7 : ls t ≤ 7) : ∀ (r i : Nat), i + r = ls t → ∀ m, r < m → f_X9_word_28 m τ (nI t) (lN (pkn ((wrd tx (ps t) (ls t)).take i))) (nI i) = some (τ, lN (pkn (wrd tx (ps t) (ls t)))) := by
  have hc := w.cc
  have hlen := w.len (t := t) (by omega)
  have hin := w.in (t := t) (by omega)
  have h2000 := w.2.2.2.2
  have hN := w.nm (t := t) (by omega) hk
  intro r
  induction r with
  | zero =>
    intro i hi m hm
    obtain ⟨m, rfl⟩ : ∃ m', m = m' + 1 := ⟨m - 1, by omega⟩
    rw [f_X9_word_28.eq_2, ck_nI (by omega) (by omega), (h.2.2 t (by omega)).2.2, if_pos (nI_le (by omega) (by omega)), List.take_of_length_le (by omega)]
  | succ r ih =>
    intro i hi m hm
    obtain ⟨m, rfl⟩ : ∃ m', m = m' + 1 := ⟨m - 1, by omega⟩
    have hb := NC_lt (hN.2.2 (el (wrd tx (ps t) (ls t)) i) (by rw [el_t (by omega)]; exact List.getElem_mem _))
    have hlt := pkn_lt (l := wrd tx (ps t) (ls t)) (fun c hc => by have := NC_lt (hN.2.2 c hc); omega) i (by omega)
    have hp : (256 : Nat) ^ i ≤ 256 ^ 6 := Nat.pow_le_pow_right (by omega) (by omega)
    rw [f_X9_word_28.eq_2, ck_nI (by omega) (by omega), (h.2.2 t (by omega)).2.2, if_neg (nI_ge (by omega) (by omega)), ck_nI (by omega) (by omega), (h.2.2 t (by omega)).2.1, nI_add, ck_nI (by omega) (by omega), h.1.g (by omega), ← el_wrd w (by omega) (by omega), sB_asc (by omega), pk_step (by omega) (by omega), nI_1]
    have := ih (i + 1) (by omega) m (by omega)
    rw [take_s (by omega), pkn_app] at this
    simp only [bnd]
    exact this
/-- the packed word of a token -/
def mw (tx : List Nat) (ks ps ls : Nat → Nat) (t : Nat) : Nat := if ks t = 1 ∧ ls t ≤ 7 then pkn (wrd tx (ps t) (ls t)) else 0
theorem m_word (h : TKM τ tx c ks ps ls) (w : TKW tx c ks ps ls) {t : Nat} (ht : t ≤ c) : f_X9_word τ (nI t) = some (τ, lN (mw tx ks ps ls t)) := by
  have hc := w.cc
  have h128 := w.kk ht
  have hin := w.in ht
  have h2000 := w.2.2.2.2
  unfold f_X9_word mw
  rw [ck_nI (by omega) (by omega), (h.2.2 t ht).1]
  simp only [ln_1 (show ks t < 2147483648 by omega)]
  by_cases e : ks t = 1
  · have e2 := w.lt ht (by omega)
    rw [if_pos e, ck_nI (by omega) (by omega), (h.2.2 t ht).2.2]
    by_cases e7 : ls t ≤ 7
    · rw [if_pos (show nI (ls t) ≤ 7 from nI_le (b := 7) e7 (by omega)), if_pos ⟨e, e7⟩]
      exact m_word_loop h w e2 e e7 (ls t) 0 (by omega) fl (by have := fl_big; omega)
    · rw [if_neg (show ¬ nI (ls t) ≤ 7 from nI_ge (a := 7) (by omega) (by omega)), if_neg (fun hh => e7 hh.2)]
      rfl
  · rw [if_neg e, if_neg (fun hh => e hh.1)]
    rfl
theorem mw_lt (w : TKW tx c ks ps ls) {t : Nat} (ht : t ≤ c) : mw tx ks ps ls t < 2 ^ 56 := by
  unfold mw
  split
  · rename_i hh
    have hlen := w.len (t := t) (by omega)
    have hN := w.nm (t := t) (by omega) hh.1
    have hlt := pkn_lt (l := wrd tx (ps t) (ls t)) (fun c hc => by have := NC_lt (hN.2.2 c hc); omega) (ls t) (by omega)
    rw [List.take_of_length_le (by omega)] at hlt
    have hp : (256 : Nat) ^ (ls t) ≤ 256 ^ 7 := Nat.pow_le_pow_right (by omega) (by omega)
    omega
  · decide
theorem sw_ch : ∀ k, k < 17 → 0 < (sw k).length ∧ (sw k).length ≤ 7 ∧ (∀ c, c ∈ sw k → 0 < c ∧ c < 256) ∧ 0 < pkn (sw k) ∧ pkn (sw k) < 2 ^ 56 := by decide +kernel
theorem mw_eq (w : TKW tx c ks ps ls) {t : Nat} (ht : t ≤ c) {k : Nat} (hk : k < 17) : mw tx ks ps ls t = pkn (sw k) ↔ ks t = 1 ∧ sw k = wrd tx (ps t) (ls t) := by
  obtain ⟨s1, s2, s3, s4, s5⟩ := sw_ch k hk
  have hlen := w.len ht
  unfold mw
  constructor
  · intro h
    by_cases e : ks t = 1 ∧ ls t ≤ 7
    · rw [if_pos e] at h
      have hN := w.nm ht e.1
      exact ⟨e.1, (pkn_inj _ _ _ rfl (fun c hc => by have := NC_lt (hN.2.2 c hc); omega) s3 h).symm⟩
    · rw [if_neg e] at h
      omega
  · rintro ⟨h1, h2⟩
    have : ls t ≤ 7 := by rw [← hlen, ← h2]; exact s2
    rw [if_pos ⟨h1, this⟩, h2]
theorem lN_eq' {a b : Nat} (ha : a < 2 ^ 64) (hb : b < 2 ^ 64) : lN a = lN b ↔ a = b := by
  constructor
  · intro h
    rw [← lN_nat ha, ← lN_nat hb, h]
  · rintro rfl
    rfl
theorem lg0 {x y : Int64} : lg_cmp x y = 0 ↔ x = y := by
  unfold lg_cmp
  by_cases c : x > y
  · rw [if_pos c]
    constructor
    · intro h
      exact absurd h (by decide)
    · rintro rfl
      exact absurd c Int64.lt_irrefl
  · rw [if_neg c]
    by_cases e : x = y
    · simp [e]
    · rw [if_neg e]
      constructor
      · intro h
        exact absurd h (by decide)
      · exact fun h => absurd h e
/-- the word rule, the word limit -/
theorem m_isW (w : TKW tx c ks ps ls) {t : Nat} (ht : t ≤ c) {k : Nat} (hk : k < 17) {z : Int64} (hz : z = lN (pkn (sw k))) : lg_cmp (lN (mw tx ks ps ls t)) z = 0 ↔ ks t = 1 ∧ sw k = wrd tx (ps t) (ls t) := by
  have h1 := mw_lt w ht
  obtain ⟨s1, s2, s3, s4, s5⟩ := sw_ch k hk
  rw [lg0, hz, lN_eq' (by omega) (by omega), mw_eq w ht hk]
theorem z_rule : (1920298085 : Int64) = lN (pkn (sw 0)) := by decide +kernel
theorem z_limit : (465625246068 : Int64) = lN (pkn (sw 1)) := by decide +kernel
theorem z_words : (∀ j, j < 8 → wdM 0 j = lN (pkn (sw (2 + j)))) ∧ (∀ j, j < 7 → wdM 1 j = lN (pkn (sw (10 + j)))) := by decide +kernel
/-- the first that is such -/
def fm (p : Nat → Bool) : Nat → Nat → Option Nat
  | 0, _ => none
  | r + 1, i => if p i = true then some i else fm p r (i + 1)
theorem fm_some {p : Nat → Bool} : ∀ r i j, fm p r i = some j → i ≤ j ∧ j < i + r ∧ p j = true ∧ ∀ k, i ≤ k → k < j → p k = false := by
  intro r
  induction r with
  | zero => exact fun i j h => nomatch h
  | succ r ih =>
    intro i j h
    unfold fm at h
    split at h
    · cases h
      exact ⟨Nat.le_refl _, by omega, by assumption, fun k h1 h2 => by omega⟩
    · rename_i hp
      obtain ⟨a, b, e, f⟩ := ih _ _ h
      refine ⟨by omega, by omega, e, fun k h1 h2 => ?_⟩
      by_cases ek : k = i
      · subst ek
        simpa using hp
      · exact f k (by omega) h2
theorem fm_none {p : Nat → Bool} : ∀ r i, fm p r i = none → ∀ j, i ≤ j → j < i + r → p j = false := by
  intro r
  induction r with
  | zero => exact fun i h j h1 h2 => by omega
  | succ r ih =>
    intro i h j h1 h2
    unfold fm at h
    split at h
    · cases h
    · rename_i hp
      by_cases ej : j = i
      · subst ej
        simpa using hp
      · exact ih _ h j (by omega) (by omega)
theorem fm_congr {p q : Nat → Bool} : ∀ r i, (∀ j, i ≤ j → j < i + r → p j = q j) → fm p r i = fm q r i := by
  intro r
  induction r with
  | zero => exact fun _ _ => rfl
  | succ r ih =>
    intro i h
    rw [fm.eq_2, fm.eq_2, h i (Nat.le_refl _) (by omega), ih (i + 1) (fun j h1 h2 => h j (by omega) (by omega))]
def isW (tx : List Nat) (ks ps ls : Nat → Nat) (t k : Nat) : Bool := decide (ks t = 1 ∧ sw k = wrd tx (ps t) (ls t))
theorem x_kw : ∀ j, j < 8 → ∀ σ : St, f_X2_kindWord σ (nI j) = some (σ, 2 + j) := by
  intro j hj σ
  match j, hj with
  | 0, _ => rfl
  | 1, _ => rfl
  | 2, _ => rfl
  | 3, _ => rfl
  | 4, _ => rfl
  | 5, _ => rfl
  | 6, _ => rfl
  | 7, _ => rfl
theorem x_ow : ∀ j, j < 7 → ∀ σ : St, f_X2_optionWord σ (nI j) = some (σ, 10 + j) := by
  intro j hj σ
  match j, hj with
  | 0, _ => rfl
  | 1, _ => rfl
  | 2, _ => rfl
  | 3, _ => rfl
  | 4, _ => rfl
  | 5, _ => rfl
  | 6, _ => rfl
theorem x_kof_loop (h : TKX σ tx c ks ps ls) (w : TKW tx c ks ps ls) {t : Nat} (ht : t ≤ c) : ∀ (r i : Nat), i + r = 8 → ∀ m, r < m → f_X5_kindOf_2 m σ (nI t) (nI i) = some (σ, oI (fm (fun j => isW tx ks ps ls t (2 + j)) r i)) := by
  intro r
  induction r with
  | zero =>
    intro i hi m hm
    obtain ⟨m, rfl⟩ : ∃ m', m = m' + 1 := ⟨m - 1, by omega⟩
    rw [f_X5_kindOf_2.eq_2, if_pos (show (8 : Int32) ≤ nI i from nI_le (a := 8) (by omega) (by omega))]
    rfl
  | succ r ih =>
    intro i hi m hm
    obtain ⟨m, rfl⟩ : ∃ m', m = m' + 1 := ⟨m - 1, by omega⟩
    rw [f_X5_kindOf_2.eq_2, if_neg (show ¬ (8 : Int32) ≤ nI i from nI_ge (b := 8) (by omega) (by omega)), x_kw i (by omega), cl_mk, x_word h w ht (show 2 + i < nSt by show 2 + i < 20; omega), cl_mk, nI_1, ih (i + 1) (by omega) m (by omega), fm.eq_2]
    unfold isW
    by_cases e : ks t = 1 ∧ sw (2 + i) = wrd tx (ps t) (ls t)
    · rw [bI_yes e, if_neg i10, if_pos (by simpa using e)]
      rfl
    · rw [bI_no e, if_pos rfl, if_neg (by simpa using e)]
theorem x_oof_loop (h : TKX σ tx c ks ps ls) (w : TKW tx c ks ps ls) {t : Nat} (ht : t ≤ c) : ∀ (r i : Nat), i + r = 7 → ∀ m, r < m → f_X5_optionOf_2 m σ (nI t) (nI i) = some (σ, oI (fm (fun j => isW tx ks ps ls t (10 + j)) r i)) := by
  intro r
  induction r with
  | zero =>
    intro i hi m hm
    obtain ⟨m, rfl⟩ : ∃ m', m = m' + 1 := ⟨m - 1, by omega⟩
    rw [f_X5_optionOf_2.eq_2, if_pos (show (7 : Int32) ≤ nI i from nI_le (a := 7) (by omega) (by omega))]
    rfl
  | succ r ih =>
    intro i hi m hm
    obtain ⟨m, rfl⟩ : ∃ m', m = m' + 1 := ⟨m - 1, by omega⟩
    rw [f_X5_optionOf_2.eq_2, if_neg (show ¬ (7 : Int32) ≤ nI i from nI_ge (b := 7) (by omega) (by omega)), x_ow i (by omega), cl_mk, x_word h w ht (show 10 + i < nSt by show 10 + i < 20; omega), cl_mk, nI_1, ih (i + 1) (by omega) m (by omega), fm.eq_2]
    unfold isW
    by_cases e : ks t = 1 ∧ sw (10 + i) = wrd tx (ps t) (ls t)
    · rw [bI_yes e, if_neg i10, if_pos (by simpa using e)]
      rfl
    · rw [bI_no e, if_pos rfl, if_neg (by simpa using e)]
def mI : Option Nat → Int32
  | none => -1
  | some j => nI j
theorem m_am_loop {wi n b : Nat} (hwi : lenMl.getD wi 0 = n) (hn : n < 20) (hb : b + n ≤ 17) (hz : ∀ j, j < n → wdM wi j = lN (pkn (sw (b + j)))) (w : TKW tx c ks ps ls) {t : Nat} (ht : t ≤ c) : ∀ (r i : Nat), i + r = n → ∀ m, r < m → f_X9_among_2 m τ wi (lN (mw tx ks ps ls t)) (nI i) = some (τ, mI (fm (fun j => isW tx ks ps ls t (b + j)) r i)) := by
  intro r
  induction r with
  | zero =>
    intro i hi m hm
    obtain ⟨m, rfl⟩ : ∃ m', m = m' + 1 := ⟨m - 1, by omega⟩
    rw [f_X9_among_2.eq_2, hwi, if_pos (nI_le (by omega) (by omega))]
    rfl
  | succ r ih =>
    intro i hi m hm
    obtain ⟨m, rfl⟩ : ∃ m', m = m' + 1 := ⟨m - 1, by omega⟩
    have h1 := mw_lt w ht
    obtain ⟨s1, s2, s3, s4, s5⟩ := sw_ch (b + i) (by omega)
    rw [f_X9_among_2.eq_2, hwi, if_neg (nI_ge (by omega) (by omega)), ck_nI (by omega) (by omega), hz i (by omega), nI_1, ih (i + 1) (by omega) m (by omega), fm.eq_2]
    have e0 : lg_cmp (lN (pkn (sw (b + i)))) (lN (mw tx ks ps ls t)) = 0 ↔ (ks t = 1 ∧ sw (b + i) = wrd tx (ps t) (ls t)) := by
      rw [lg0, eq_comm, lN_eq' (by omega) (by omega), mw_eq w ht (by omega)]
    unfold isW
    by_cases e : ks t = 1 ∧ sw (b + i) = wrd tx (ps t) (ls t)
    · rw [if_pos (e0.mpr e), if_pos (by simpa using e)]
      rfl
    · rw [if_neg (fun h => e (e0.mp h)), if_neg (by simpa using e)]
/-- which kind, which option a token names -/
def kOf (tx : List Nat) (ks ps ls : Nat → Nat) (t : Nat) : Option Nat := fm (fun j => isW tx ks ps ls t (2 + j)) 8 0
def oOf (tx : List Nat) (ks ps ls : Nat → Nat) (t : Nat) : Option Nat := fm (fun j => isW tx ks ps ls t (10 + j)) 7 0
theorem x_kof (h : TKX σ tx c ks ps ls) (w : TKW tx c ks ps ls) {t : Nat} (ht : t ≤ c) : f_X5_kindOf σ (nI t) = some (σ, oI (kOf tx ks ps ls t)) := x_kof_loop h w ht 8 0 (by omega) fl (by have := fl_big; omega)
theorem x_oof (h : TKX σ tx c ks ps ls) (w : TKW tx c ks ps ls) {t : Nat} (ht : t ≤ c) : f_X5_optionOf σ (nI t) = some (σ, oI (oOf tx ks ps ls t)) := x_oof_loop h w ht 7 0 (by omega) fl (by have := fl_big; omega)
theorem m_kof (w : TKW tx c ks ps ls) {t : Nat} (ht : t ≤ c) : f_X9_among τ 0 (lN (mw tx ks ps ls t)) = some (τ, mI (kOf tx ks ps ls t)) := m_am_loop (wi := 0) (n := 8) (b := 2) rfl (by omega) (by omega) z_words.1 w ht 8 0 (by omega) fl (by have := fl_big; omega)
theorem m_oof (w : TKW tx c ks ps ls) {t : Nat} (ht : t ≤ c) : f_X9_among τ 1 (lN (mw tx ks ps ls t)) = some (τ, mI (oOf tx ks ps ls t)) := m_am_loop (wi := 1) (n := 7) (b := 10) rfl (by omega) (by omega) z_words.2 w ht 7 0 (by omega) fl (by have := fl_big; omega)
theorem kOf_ok {t k : Nat} (h : kOf tx ks ps ls t = some k) : k < 8 ∧ ks t = 1 := by
  obtain ⟨a, b, e, _⟩ := fm_some 8 0 k h
  unfold isW at e
  simp at e
  exact ⟨by omega, e.1⟩
theorem oOf_ok {t k : Nat} (h : oOf tx ks ps ls t = some k) : k < 7 ∧ ks t = 1 := by
  obtain ⟨a, b, e, _⟩ := fm_some 7 0 k h
  unfold isW at e
  simp at e
  exact ⟨by omega, e.1⟩
end Wo
