/-! The tokens: both sides cut the tape alike. -/
def iL (b : Nat) : Bool := decide (97 ≤ b ∧ b ≤ 122)
def iD (b : Nat) : Bool := decide (48 ≤ b ∧ b ≤ 57)
def iM (b : Nat) : Bool := decide (b = 123 ∨ b = 125 ∨ b = 40 ∨ b = 41 ∨ b = 58 ∨ b = 59 ∨ b = 44 ∨ b = 61 ∨ b = 42 ∨ b = 46)
def iN (b : Nat) : Bool := iL b || (iD b || decide (b = 95))
def go (κ b : Nat) : Bool := (decide (κ = 1) && iN b) || (decide (κ = 2) && iD b)
def kb (b : Nat) : Nat := if iL b = true then 1 else if iD b = true then 2 else if iM b = true then b else 0
theorem iN_NC {b : Nat} (h : iN b = true) : NC b := by
  unfold iN iL iD at h
  simp at h
  unfold NC
  omega
theorem rng {σ : St} {x lo hi : Int32} : (if x < lo then some (σ, (0 : Int32)) else if hi < x then some (σ, 0) else some (σ, 1)) = some (σ, bI (decide (¬ x < lo ∧ ¬ hi < x))) := by
  by_cases c : x < lo
  · simp [c, bI]
  · by_cases c2 : hi < x
    · simp [c, c2, bI]
    · simp [c, c2, bI]
theorem t_L1 : ∀ b, b < 256 → decide (¬ nI b < 97 ∧ ¬ 122 < nI b) = iL b := by decide +kernel
theorem t_D1 : ∀ b, b < 256 → decide (¬ nI b < 48 ∧ ¬ 57 < nI b) = iD b := by decide +kernel
theorem t_L2 : ∀ b, b < 256 → decide (¬ sB b < 97 ∧ ¬ 122 < sB b) = iL b := by decide +kernel
theorem t_D2 : ∀ b, b < 256 → decide (¬ sB b < 48 ∧ ¬ 57 < sB b) = iD b := by decide +kernel
theorem t_M2 : ∀ b, b < 256 → (decide (sB b = 123 ∨ sB b = 125 ∨ sB b = 40 ∨ sB b = 41 ∨ sB b = 58 ∨ sB b = 59 ∨ sB b = 44 ∨ sB b = 61 ∨ sB b = 42 ∨ sB b = 46) = iM b) ∧ (sB b = 10 ↔ b = 10) ∧ (sB b = 32 ↔ b = 32) ∧ (sB b = 95 ↔ b = 95) ∧ (nI b = 10 ↔ b = 10) ∧ (nI b = 32 ↔ b = 32) ∧ (nI b = 95 ↔ b = 95) := by decide +kernel
theorem kb_ok : ∀ b, b < 256 → kb b < 128 ∧ ((iL b = true ∧ kb b = 1) ∨ (iL b = false ∧ iD b = true ∧ kb b = 2) ∨ (iL b = false ∧ iD b = false ∧ iM b = true ∧ kb b = b ∧ 40 ≤ b ∧ b < 128) ∨ (iL b = false ∧ iD b = false ∧ iM b = false ∧ kb b = 0)) := by decide +kernel
section Lx
variable {σ τ : St} {b : Nat}
theorem x_small (hb : b < 256) : f_X6_isSmall σ (nI b) = some (σ, bI (iL b)) := by
  unfold f_X6_isSmall
  rw [rng, t_L1 b hb]
theorem x_digit (hb : b < 256) : f_X6_isDigit σ (nI b) = some (σ, bI (iD b)) := by
  unfold f_X6_isDigit
  rw [rng, t_D1 b hb]
theorem m_letter (hb : b < 256) : f_X9_isLetter τ (sB b) = some (τ, bI (iL b)) := by
  unfold f_X9_isLetter f_X9_in
  rw [rng, t_L2 b hb, cl_mk, bI_01, cq_t]
theorem m_digit (hb : b < 256) : f_X9_isDigit τ (sB b) = some (τ, bI (iD b)) := by
  unfold f_X9_isDigit f_X9_in
  rw [rng, t_D2 b hb, cl_mk, bI_01, cq_t]
theorem if_or {P Q : Prop} [Decidable P] [Decidable Q] {α : Type} {x y : α} : (if P then x else if Q then x else y) = if P ∨ Q then x else y := by
  by_cases p : P
  · simp [p]
  · simp [p]
theorem m_mark (hb : b < 256) : f_X9_isMark τ (sB b) = some (τ, bI (iM b)) := by
  rw [← (t_M2 b hb).1]
  unfold f_X9_isMark f_X9_isMark_60
  simp only [if_or]
  by_cases p : (sB b = 123 ∨ sB b = 125 ∨ sB b = 40 ∨ sB b = 41 ∨ sB b = 58 ∨ sB b = 59 ∨ sB b = 44 ∨ sB b = 61 ∨ sB b = 42 ∨ sB b = 46)
  · rw [if_pos p, bI_yes p]
  · rw [if_neg p, bI_no p]
theorem ln_1 {κ : Nat} (h : κ < 2147483648) : nI κ = 1 ↔ κ = 1 := ln_eq (b := 1) h (by omega)
theorem ln_2' {κ : Nat} (h : κ < 2147483648) : nI κ = 2 ↔ κ = 2 := ln_eq (b := 2) h (by omega)
theorem x_go {κ : Nat} (hb : b < 256) (hκ : κ < 128) : f_X6_goesOn σ (nI κ) (nI b) = some (σ, bI (go κ b)) := by
  unfold f_X6_goesOn f_X6_goesOn_25 f_X6_goesOn_37
  simp only [x_small hb, x_digit hb, cl_mk, ln_1 (show κ < 2147483648 by omega), ln_2' (show κ < 2147483648 by omega), bI_0, (t_M2 b hb).2.2.2.2.2.2]
  unfold go iN
  by_cases c1 : κ = 1
  · subst c1
    cases iL b <;> cases iD b <;> by_cases c3 : b = 95 <;> simp [c3, bI]
  · by_cases c2 : κ = 2
    · subst c2
      cases iD b <;> simp [bI]
    · simp [c1, c2, bI]
theorem x_kb (hb : b < 256) : f_X6_kindBegunBy σ (nI b) = some (σ, nI (kb b)) := by
  unfold f_X6_kindBegunBy
  rw [x_small hb, cl_mk]
  unfold kb
  by_cases c1 : iL b = true
  · rw [c1]
    rfl
  · have c1' : iL b = false := by simpa using c1
    rw [c1', bI_f, if_pos rfl, x_digit hb, cl_mk]
    by_cases c2 : iD b = true
    · rw [c2]
      rfl
    · have c2' : iD b = false := by simpa using c2
      rw [c2', bI_f, if_pos rfl]
      simp only [bnd, if_or]
      have e : ∀ b, b < 256 → ((nI b = 40 ∨ nI b = 41 ∨ nI b = 42 ∨ nI b = 44 ∨ nI b = 46 ∨ nI b = 58 ∨ nI b = 59 ∨ nI b = 61 ∨ nI b = 123 ∨ nI b = 125) ↔ iM b = true) := by decide +kernel
      simp only [e b hb]
      cases iM b <;> rfl
end Lx
/-- the tokens of the class, of the reference; as they are meant -/
def TX (σ : St) (c : Nat) (ks ps ls : Nat → Nat) : Prop := gi σ 504 0 = nI c ∧ ∀ t, t < c → ga σ 8 8 t = nI (ks t) ∧ ga σ 8 9 t = nI (ps t) ∧ ga σ 8 10 t = nI (ls t)
def TM (τ : St) (c : Nat) (ks ps ls : Nat → Nat) : Prop := gi τ 830 0 = nI c ∧ ∀ t, t < c → ga τ 1 14 t = nI (ks t) ∧ ga τ 1 15 t = nI (ps t) ∧ ga τ 1 16 t = nI (ls t)
def wrd (tx : List Nat) (p l : Nat) : List Nat := (tx.drop p).take l
def TW (tx : List Nat) (p c : Nat) (ks ps ls : Nat → Nat) : Prop := c ≤ p ∧ p ≤ tx.length ∧ ∀ t, t < c → 0 < ls t ∧ ps t + ls t ≤ p ∧ (t + 1 < c → ps t + ls t ≤ ps (t + 1)) ∧ ((ks t = 1 ∧ Nm (wrd tx (ps t) (ls t))) ∨ (ks t = 2 ∧ ls t ≤ 6 ∧ ∀ a, a ∈ wrd tx (ps t) (ls t) → iD a = true) ∨ (40 ≤ ks t ∧ ks t < 128 ∧ ls t = 1))
def UTX (σ σ' : St) : Prop := σ'.2.1 = σ.2.1 ∧ (∀ f i, ¬ f = 504 → gi σ' f i = gi σ f i) ∧ (∀ f i, ¬ (f = 8 ∧ 8 ≤ i ∧ i ≤ 10) → ga σ' f i = ga σ f i)
def UTM (τ τ' : St) : Prop := (∀ f i, ¬ (f = 803 ∨ f = 804 ∨ f = 830) → gi τ' f i = gi τ f i) ∧ (∀ f i, ¬ (f = 1 ∧ 14 ≤ i ∧ i ≤ 16) → ga τ' f i = ga τ f i)
theorem UTX.refl' (σ : St) : UTX σ σ := ⟨rfl, fun _ _ _ => rfl, fun _ _ _ => rfl⟩
theorem UTX.trans {σ σ1 σ2 : St} (h : UTX σ σ1) (g : UTX σ1 σ2) : UTX σ σ2 := ⟨g.1.trans h.1, fun f i a => (g.2.1 f i a).trans (h.2.1 f i a), fun f i a => (g.2.2 f i a).trans (h.2.2 f i a)⟩
theorem UTM.refl' (τ : St) : UTM τ τ := ⟨fun _ _ _ => rfl, fun _ _ _ => rfl⟩
theorem UTM.trans {σ σ1 σ2 : St} (h : UTM σ σ1) (g : UTM σ1 σ2) : UTM σ σ2 := ⟨fun f i a => (g.1 f i a).trans (h.1 f i a), fun f i a => (g.2 f i a).trans (h.2 f i a)⟩
theorem UTX.lx {σ σ' : St} (h : UTX σ σ') {k : Nat} {l : List Nat} (hl : LX σ k l) : LX σ' k l := LX_of hl (h.2.1 201 k (by omega)) (h.2.2 2 k (by omega))
section Lc
variable {σ τ : St} {tx : List Nat} {c p : Nat} {ks ps ls : Nat → Nat}
/-- the class begins a token -/
theorem x_begin (h : TX σ c ks ps ls) (hc : c < 2000) (κ p : Nat) : ∃ σ', f_X6_begin σ (nI κ) (nI p) = some (σ', ()) ∧ UTX σ σ' ∧ TX σ' (c + 1) (fun t => if t = c then κ else ks t) (fun t => if t = c then p else ps t) (fun t => if t = c then 1 else ls t) := by
  refine ⟨si (sa (sa (sa σ 8 8 c (nI κ)) 8 9 c (nI p)) 8 10 c 1) 504 0 (nI (c + 1)), ?_, ⟨rfl, fun f i hf => ?_, fun f i hf => ?_⟩, ?_, fun t ht => ?_⟩
  · unfold f_X6_begin
    rw [h.1, if_neg (show ¬ (2000 : Int32) ≤ nI c from nI_ge (b := 2000) hc (by omega))]
    simp only [bnd, gi_sa, h.1, show lenX 8 = 2000 from rfl, show lenX 9 = 2000 from rfl, show lenX 10 = 2000 from rfl]
    rw [ck_nI hc (by omega), ck_nI hc (by omega), ck_nI hc (by omega), nI_1]
  · simp only [gi_si, gi_sr, gi_sg, gi_sa, gr_si, rr_sr, gr_sg, gr_sa, ga_si, ga_sr, ga_sg, ga_sa, true_and, and_true, false_and, and_false, Nat.reduceEqDiff, ↓reduceIte]
    rw [if_neg (by omega)]
  · simp only [gi_si, gi_sr, gi_sg, gi_sa, gr_si, rr_sr, gr_sg, gr_sa, ga_si, ga_sr, ga_sg, ga_sa, true_and, and_true, false_and, and_false, Nat.reduceEqDiff, ↓reduceIte]
    rw [if_neg (by omega), if_neg (by omega), if_neg (by omega)]
  · simp [gi_si, gi_sr, gi_sg, gi_sa, gr_si, rr_sr, gr_sg, gr_sa, ga_si, ga_sr, ga_sg, ga_sa, true_and, and_true, false_and, and_false, Nat.reduceEqDiff, ↓reduceIte]
  · simp only [gi_si, gi_sr, gi_sg, gi_sa, gr_si, rr_sr, gr_sg, gr_sa, ga_si, ga_sr, ga_sg, ga_sa, true_and, and_true, false_and, and_false, Nat.reduceEqDiff, ↓reduceIte]
    unfold upd
    by_cases e : t = c
    · simp only [e, if_true]
      exact ⟨trivial, trivial, rfl⟩
    · simp only [e, if_false]
      exact h.2 t (by omega)
/-- it goes on with a name or a number -/
theorem x_more {κ lim : Nat} (hκ : (κ = 1 ∧ lim = 12) ∨ (κ = 2 ∧ lim = 6)) (hp : p < 2000) : ∀ (r : Nat) (σ : St) (ls : Nat → Nat) (q : Nat), LX σ 0 tx → TX σ (c + 1) ks ps ls → ps c = p → c < 2000 → ls c + p = q → q + r ≤ tx.length → (∀ i, q ≤ i → i < q + r → go κ (el tx i) = true) → ls c + r ≤ lim → ∀ m, ∃ σ', f_X6_readAll_9 (m + r) σ (nI κ) (nI q) = f_X6_readAll_9 m σ' (nI κ) (nI (q + r)) ∧ UTX σ σ' ∧ TX σ' (c + 1) ks ps (fun t => if t = c then ls c + r else ls t) := by
  intro r
  induction r with
  | zero =>
    intro σ ls q hl h hpc hc hq hT hg hlim m
    refine ⟨σ, rfl, UTX.refl' σ, h.1, fun t ht => ?_⟩
    obtain ⟨a, b, e⟩ := h.2 t ht
    refine ⟨a, b, ?_⟩
    dsimp only
    by_cases et : t = c
    · rw [if_pos et, e, et]
      rfl
    · rw [if_neg et, e]
  | succ r ih =>
    intro σ ls q hl h hpc hc hq hT hg hlim m
    have hb := By_get hl.2.2.2 q
    have hlen : tx.length ≤ 2000 := hl.2.1
    have u0 : UTX σ (sa σ 8 10 c (nI (ls c + 1))) := by
      refine ⟨rfl, fun f i hf => rfl, fun f i hf => ?_⟩
      simp only [gi_si, gi_sr, gi_sg, gi_sa, gr_si, rr_sr, gr_sg, gr_sa, ga_si, ga_sr, ga_sg, ga_sa, true_and, and_true, false_and, and_false, Nat.reduceEqDiff, ↓reduceIte]
      rw [if_neg (by omega)]
    have h0 : TX (sa σ 8 10 c (nI (ls c + 1))) (c + 1) ks ps (fun t => if t = c then ls c + 1 else ls t) := by
      refine ⟨h.1, fun t ht => ?_⟩
      obtain ⟨a, b, e⟩ := h.2 t ht
      simp only [gi_si, gi_sr, gi_sg, gi_sa, gr_si, rr_sr, gr_sg, gr_sa, ga_si, ga_sr, ga_sg, ga_sa, true_and, and_true, false_and, and_false, Nat.reduceEqDiff, ↓reduceIte]
      unfold upd
      refine ⟨a, b, ?_⟩
      by_cases et : t = c
      · simp only [et, if_true]
      · simp only [et, if_false]
        exact e
    obtain ⟨σ', g1, g2, g3⟩ := ih (sa σ 8 10 c (nI (ls c + 1))) (fun t => if t = c then ls c + 1 else ls t) (q + 1) (u0.lx hl) h0 hpc hc (by simp only [if_true]; omega) (by omega) (fun i h1 h2 => hg i (by omega) (by omega)) (by simp only [if_true]; omega) m
    refine ⟨σ', ?_, u0.trans g2, ?_⟩
    · rw [← Nat.add_assoc]
      rw [f_X6_readAll_9.eq_2]
      unfold f_X3_length
      rw [cl_mk, hl.1, if_neg (nI_ge (by omega) (by omega)), lx_at hl (by omega), cl_mk, x_go hb (by omega), hg q (by omega) (by omega), cl_mk, bI_t, if_neg i10]
      unfold f_X6_lengthenLast
      rw [h.1, if_pos (show (1 : Int32) ≤ nI (c + 1) from nI_le (a := 1) (by omega) (by omega)), ln_pred (by omega), Nat.add_sub_cancel, show lenX 10 = 2000 from rfl, ck_nI hc (by omega), ck_nI hc (by omega), (h.2 c (by omega)).2.2, nI_1]
      simp only [bnd, gi_sa]
      rw [h.1, ln_pred (by omega), Nat.add_sub_cancel, ck_nI hc (by omega)]
      simp only [gi_si, gi_sr, gi_sg, gi_sa, gr_si, rr_sr, gr_sg, gr_sa, ga_si, ga_sr, ga_sg, ga_sa, true_and, and_true, false_and, and_false, Nat.reduceEqDiff, ↓reduceIte]
      unfold upd
      simp only [if_true]
      have e5 : q + 1 + r = q + (r + 1) := by omega
      rcases hκ with ⟨rfl, rfl⟩ | ⟨rfl, rfl⟩
      · rw [if_pos (show nI 1 = 1 from rfl)]
        unfold f_X6_lengthenLast_48
        rw [if_neg (show ¬ (12 : Int32) < nI (ls c + 1) from nI_nlt (a := 12) (by omega) (by omega)), cl_mk, if_neg i10]
        unfold f_X6_readAll_90
        rw [nI_1, g1, e5]
      · rw [if_neg (show ¬ nI 2 = 1 by decide)]
        unfold f_X6_lengthenLast_48
        rw [if_neg (show ¬ (6 : Int32) < nI (ls c + 1) from nI_nlt (a := 6) (by omega) (by omega)), cl_mk, if_neg i10]
        unfold f_X6_readAll_90
        rw [nI_1, g1, e5]
    · refine ⟨g3.1, fun t ht => ?_⟩
      obtain ⟨a, b, e⟩ := g3.2 t ht
      refine ⟨a, b, ?_⟩
      rw [e]
      by_cases et : t = c
      · simp only [et, if_true]
        congr 1
        omega
      · simp only [et, if_false]
/-- .. until it is too long -/
theorem x_long {κ lim : Nat} (hκ : (κ = 1 ∧ lim = 12) ∨ (κ = 2 ∧ lim = 6)) (hp : p < 2000) (hl : LX σ 0 tx) (h : TX σ (c + 1) ks ps ls) (hpc : ps c = p) (hc : c < 2000) (hlc : ls c = lim) (hq : p + lim < tx.length) (hg : go κ (el tx (p + lim)) = true) (m : Nat) : ∃ σ', f_X6_readAll_9 (m + 1) σ (nI κ) (nI (p + lim)) = some (σ', nI p) ∧ UTX σ σ' := by
  have hb := By_get hl.2.2.2 (p + lim)
  have hlen : tx.length ≤ 2000 := hl.2.1
  have u0 : UTX σ (sa σ 8 10 c (nI (ls c + 1))) := by
    refine ⟨rfl, fun f i hf => rfl, fun f i hf => ?_⟩
    simp only [gi_si, gi_sr, gi_sg, gi_sa, gr_si, rr_sr, gr_sg, gr_sa, ga_si, ga_sr, ga_sg, ga_sa, true_and, and_true, false_and, and_false, Nat.reduceEqDiff, ↓reduceIte]
    rw [if_neg (by omega)]
  refine ⟨_, ?_, u0⟩
  unfold f_X6_readAll_9
  unfold f_X3_length
  rw [cl_mk, hl.1, if_neg (nI_ge (by omega) (by omega)), lx_at hl (by omega), cl_mk, x_go hb (by omega), hg, cl_mk, bI_t, if_neg i10]
  unfold f_X6_lengthenLast
  rw [h.1, if_pos (show (1 : Int32) ≤ nI (c + 1) from nI_le (a := 1) (by omega) (by omega)), ln_pred (by omega), Nat.add_sub_cancel, show lenX 10 = 2000 from rfl, ck_nI hc (by omega), ck_nI hc (by omega), (h.2 c (by omega)).2.2, nI_1]
  simp only [bnd, gi_sa]
  rw [h.1, ln_pred (by omega), Nat.add_sub_cancel, ck_nI hc (by omega)]
  simp only [ga_sa, true_and, and_self, ↓reduceIte]
  unfold upd
  simp only [if_true]
  have e9 : f_X6_placeAt (sa σ 8 10 c (nI (ls c + 1))) (nI (c + 1) - 1) = some (sa σ 8 10 c (nI (ls c + 1)), nI p) := by
    unfold f_X6_placeAt
    rw [ln_pred (by omega), Nat.add_sub_cancel, if_neg (nI_pos (by omega)), gi_sa, h.1, if_neg (nI_ge (by omega) (by omega)), show lenX 9 = 2000 from rfl, ck_nI hc (by omega)]
    simp only [gi_si, gi_sr, gi_sg, gi_sa, gr_si, rr_sr, gr_sg, gr_sa, ga_si, ga_sr, ga_sg, ga_sa, true_and, and_true, false_and, and_false, Nat.reduceEqDiff, ↓reduceIte]
    rw [(h.2 c (by omega)).2.1, hpc]
  have e8 : gi (sa σ 8 10 c (nI (ls c + 1))) 504 0 = nI (c + 1) := h.1
  rcases hκ with ⟨rfl, rfl⟩ | ⟨rfl, rfl⟩
  · rw [if_pos (show nI 1 = 1 from rfl)]
    unfold f_X6_lengthenLast_48
    rw [if_pos (show (12 : Int32) < nI (ls c + 1) from nI_lt (a := 12) (by omega) (by omega)), cl_mk, if_pos rfl]
    rw [e8, e9, cl_mk]
  · rw [if_neg (show ¬ nI 2 = 1 by decide)]
    unfold f_X6_lengthenLast_48
    rw [if_pos (show (6 : Int32) < nI (ls c + 1) from nI_lt (a := 6) (by omega) (by omega)), cl_mk, if_pos rfl]
    rw [e8, e9, cl_mk]
end Lc
