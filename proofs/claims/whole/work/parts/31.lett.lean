/-! Reading the class's letters. -/
section Lt
variable {σ : St} {k m : Nat} {l p : List Nat}
theorem lx_at (h : LX σ k l) {i : Nat} (hi : i < l.length) : f_X3_at σ k (nI i) = some (σ, nI (el l i)) := by
  have := h.b
  have h2 := h.2.1
  have := capX_le k
  simp (disch := omega) only [f_X3_at, h.1, ln_le, ln_lt, ln_eq, ln_neg, ln_0le, ln_le0, ln_0lt, ln_eq0, nI_1, nI_add, ln_40, ln_12, ln_8, ck_nI, ck_0]
  rw [if_neg (by simp), if_neg (by omega), h.g hi, sB_and (By_get h.2.2.2 i)]
theorem lx_at_out (h : LX σ k l) {x : Int32} (hx : x < 0 ∨ nI l.length ≤ x) : f_X3_at σ k x = some (σ, -1) := by
  unfold f_X3_at
  by_cases h0 : x < 0
  · rw [if_pos h0]
  · rw [if_neg h0, h.1, if_pos (hx.resolve_left h0)]
theorem lx_holds_loop (h : LX σ k l) (hp : LX σ m p) {o : Nat} (ho : o + p.length ≤ l.length) : ∀ (d i : Nat), i + d = p.length → ∀ n, d < n → f_X3_holdsAt_21 n σ k (nI o) m (nI i) = some (σ, bI (decide (p.drop i <+: l.drop (o + i)))) := by
  have h1 := h.b
  have h2 := h.2.1
  have h3 := hp.b
  have h4 := hp.2.1
  have h5 := capX_le k
  have h6 := capX_le m
  intro d
  induction d with
  | zero =>
    intro i hi n hn
    obtain ⟨n, rfl⟩ : ∃ n', n = n' + 1 := ⟨n - 1, by omega⟩
    simp (disch := omega) only [f_X3_holdsAt_21, hp.1, ln_le, ln_lt, ln_eq, ln_neg, ln_0le, ln_le0, ln_0lt, ln_eq0, nI_1, nI_add, ln_40, ln_12, ln_8, ck_nI, ck_0]
    rw [if_pos (by omega), List.drop_eq_nil_of_le (by omega)]
    simp [bI]
  | succ d ih =>
    intro i hi n hn
    obtain ⟨n, rfl⟩ : ∃ n', n = n' + 1 := ⟨n - 1, by omega⟩
    simp (disch := omega) only [f_X3_holdsAt_21, hp.1, ln_le, ln_lt, ln_eq, ln_neg, ln_0le, ln_le0, ln_0lt, ln_eq0, nI_1, nI_add, ln_40, ln_12, ln_8, ck_nI, ck_0]
    rw [if_neg (by omega), h.g (by omega), hp.g (by omega), ih (i + 1) (by omega) n (by omega), drop_c (show i < p.length by omega), drop_c (show o + i < l.length by omega)]
    simp only [sB_inj (By_get h.2.2.2 _) (By_get hp.2.2.2 _), List.cons_prefix_cons]
    rw [if_bI]
    refine congrArg (fun b => some (σ, b)) (bI_c ?_)
    rw [eq_comm (a := el l (o + i)), ← Nat.add_assoc]
theorem fl_big : 20000 < fl := by decide
theorem lx_holds (h : LX σ k l) (hp : LX σ m p) {o : Nat} (ho : o ≤ l.length) : f_X3_holdsAt σ k (nI o) m = some (σ, bI (decide (p <+: l.drop o))) := by
  have h1 := h.b
  have h3 := hp.b
  unfold f_X3_holdsAt
  rw [if_neg (nI_pos (by omega)), h.1, hp.1]
  by_cases hc : o + p.length ≤ l.length
  · have := lx_holds_loop h hp hc p.length 0 (by omega) fl (by have := fl_big; omega)
    rw [ln_sub (by omega), if_pos ((ln_le (by omega) (by omega)).mpr (by omega))]
    exact this
  · have hn : ¬ p <+: l.drop o := by
      intro hh
      have := hh.length_le
      rw [List.length_drop] at this
      omega
    rw [if_neg]
    · rw [bI_no hn]
    · intro hle
      have hle := Int32.le_iff_toInt_le.mp hle
      rw [pk_sub_toInt (by omega) (by omega), ln_toInt (by omega)] at hle
      omega
theorem lx_holds0 (h : LX σ k l) (hp : LX σ m p) : f_X3_holdsAt σ k 0 m = some (σ, bI (decide (p <+: l))) := lx_holds h hp (Nat.zero_le _)
theorem lx_same (h : LX σ k l) (hp : LX σ m p) : f_X3_sameAs σ k m = some (σ, bI (decide (l = p))) := by
  have h1 := h.b
  have h3 := hp.b
  unfold f_X3_sameAs
  rw [h.1, hp.1]
  by_cases e : l.length = p.length
  · rw [if_pos (by rw [e]), lx_holds0 hp h, cl_mk, cl_bI]
    have : (l <+: p) ↔ l = p := ⟨fun hh => hh.eq_of_length e, fun hh => hh ▸ List.prefix_refl _⟩
    rw [bI_c this]
  · rw [if_neg (fun hh => e ((ln_eq (by omega) (by omega)).mp hh))]
    have : l ≠ p := fun hh => e (by rw [hh])
    rw [bI_no this]
theorem lx_start (h : LX σ k l) (hp : LX σ m p) {n : Nat} (hn : n ≤ p.length) : f_X3_isStartOf σ k m (nI n) = some (σ, bI (decide (l = p.take n))) := by
  have h1 := h.b
  have h3 := hp.b
  unfold f_X3_isStartOf
  rw [h.1]
  by_cases e : l.length = n
  · rw [if_pos (by rw [e]), lx_holds0 hp h, cl_mk, cl_bI]
    have : (l <+: p) ↔ l = p.take n := by
      rw [← e]
      exact ⟨fun hh => List.prefix_iff_eq_take.mp hh, fun hh => List.prefix_iff_eq_take.mpr hh⟩
    rw [bI_c this]
  · rw [if_neg (fun hh => e ((ln_eq (by omega) (by omega)).mp hh))]
    have : l ≠ p.take n := fun hh => e (by rw [hh, List.length_take]; omega)
    rw [bI_no this]
/-- the String constants, by their codes -/
def sw (k : Nat) : List Nat := (stTxt.getD k []).map (fun x => x.toInt.toNat)
theorem sw_ok : ∀ k, k < nSt → lenSt.getD k 0 = (sw k).length ∧ (sw k).length < 32 ∧ (∀ j, j < (sw k).length → stc k j = nI (el (sw k) j)) ∧ (∀ c, c ∈ sw k → c < 128) := by decide +kernel
theorem lx_word_loop (h : LX σ k l) {w : Nat} (hw : w < nSt) {o : Nat} (ho : o + (sw w).length ≤ l.length) : ∀ (d i : Nat), i + d = (sw w).length → ∀ n, d < n → f_X3_isWordAt_13 n σ k (nI o) (nI (sw w).length) w (nI i) = some (σ, bI (decide ((sw w).drop i <+: l.drop (o + i)))) := by
  have h1 := h.b
  obtain ⟨hl, hb, hs, hc⟩ := sw_ok w hw
  intro d
  induction d with
  | zero =>
    intro i hi n hn
    obtain ⟨n, rfl⟩ : ∃ n', n = n' + 1 := ⟨n - 1, by omega⟩
    simp (disch := omega) only [f_X3_isWordAt_13, ln_le, ln_lt, ln_eq, ln_neg, ln_0le, ln_le0, ln_0lt, ln_eq0, nI_1, nI_add, ln_40, ln_12, ln_8, ck_nI, ck_0]
    rw [if_pos (by omega), List.drop_eq_nil_of_le (by omega)]
    simp [bI]
  | succ d ih =>
    intro i hi n hn
    obtain ⟨n, rfl⟩ : ∃ n', n = n' + 1 := ⟨n - 1, by omega⟩
    simp (disch := omega) only [f_X3_isWordAt_13, hl, ln_le, ln_lt, ln_eq, ln_neg, ln_0le, ln_le0, ln_0lt, ln_eq0, nI_1, nI_add, ln_40, ln_12, ln_8, ck_nI, ck_0]
    rw [if_neg (by omega), lx_at h (by omega), cl_mk, hs i (by omega), ih (i + 1) (by omega) n (by omega), drop_c (show i < (sw w).length by omega), drop_c (show o + i < l.length by omega)]
    have b1 := By_get h.2.2.2 (o + i)
    have b2 : el (sw w) i < 256 := By_get (fun c hh => Nat.lt_trans (hc c hh) (by decide)) i
    simp (disch := omega) only [ln_eq, List.cons_prefix_cons]
    rw [if_bI]
    refine congrArg (fun b => some (σ, b)) (bI_c ?_)
    rw [eq_comm (a := el l (o + i)), ← Nat.add_assoc]
theorem lx_word (h : LX σ k l) {w : Nat} (hw : w < nSt) {o n : Nat} (ho : o + n ≤ l.length) : f_X3_isWordAt σ k (nI o) (nI n) w = some (σ, bI (decide (sw w = (l.drop o).take n))) := by
  have h1 := h.b
  obtain ⟨hl, hb, hs, hc⟩ := sw_ok w hw
  unfold f_X3_isWordAt
  rw [hl]
  by_cases e : n = (sw w).length
  · subst e
    rw [if_pos rfl]
    have := lx_word_loop h hw ho (sw w).length 0 (by omega) fl (by have := fl_big; omega)
    refine Eq.trans this ?_
    simp only [List.drop_zero, Nat.add_zero]
    have : (sw w <+: l.drop o) ↔ sw w = (l.drop o).take (sw w).length := List.prefix_iff_eq_take
    rw [bI_c this]
  · rw [if_neg (fun hh => e ((ln_eq (by omega) (by omega)).mp hh))]
    have : sw w ≠ (l.drop o).take n := fun hh => e (by rw [hh, List.length_take, List.length_drop]; omega)
    rw [bI_no this]
end Lt
