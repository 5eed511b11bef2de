/-! The pure side: words for states, numbers, bytes. -/
theorem gi_si (σ : St) (f i : Nat) (v : Int32) (g j : Nat) : gi (si σ f i v) g j = if g = f ∧ j = i then v else gi σ g j := rfl
theorem gi_sr (σ : St) (f i v g j : Nat) : gi (sr σ f i v) g j = gi σ g j := rfl
theorem gi_sg (σ : St) (f i : Nat) (h : Nat → Int32) (g j : Nat) : gi (sg σ f i h) g j = gi σ g j := rfl
theorem gi_sa (σ : St) (f i k : Nat) (v : Int32) (g j : Nat) : gi (sa σ f i k v) g j = gi σ g j := rfl
theorem gr_si (σ : St) (f i : Nat) (v : Int32) (g j : Nat) : gr (si σ f i v) g j = gr σ g j := rfl
theorem rr_sr (σ : St) (f i v g j : Nat) : gr (sr σ f i v) g j = if g = f ∧ j = i then v else gr σ g j := rfl
theorem gr_sg (σ : St) (f i : Nat) (h : Nat → Int32) (g j : Nat) : gr (sg σ f i h) g j = gr σ g j := rfl
theorem gr_sa (σ : St) (f i k : Nat) (v : Int32) (g j : Nat) : gr (sa σ f i k v) g j = gr σ g j := rfl
theorem ga_si (σ : St) (f i : Nat) (v : Int32) (g j : Nat) : ga (si σ f i v) g j = ga σ g j := rfl
theorem ga_sr (σ : St) (f i v g j : Nat) : ga (sr σ f i v) g j = ga σ g j := rfl
theorem ga_sg (σ : St) (f i : Nat) (h : Nat → Int32) (g j : Nat) : ga (sg σ f i h) g j = if g = f ∧ j = i then h else ga σ g j := rfl
theorem ga_sa (σ : St) (f i k : Nat) (v : Int32) (g j : Nat) : ga (sa σ f i k v) g j = if g = f ∧ j = i then upd (ga σ f i) k v else ga σ g j := rfl
theorem cl_mk {α β : Type} (s : St) (a : α) (K : St → α → Option β) : cl (some (s, a)) K = K s a := rfl
theorem cq_t {α : Type} (K : Option α) : cq true K = K := rfl
theorem ck_nI {α : Type} {j n : Nat} {K : Nat → Option α} (h : j < n) (hn : n < 2147483648) : ck (nI j) n K = K j := by
  unfold ck
  rw [nI_toInt (by omega), if_pos ⟨by omega, by omega⟩]
  rfl
theorem ck_0 {α : Type} {n : Nat} {K : Nat → Option α} (h : 0 < n) (hn : n < 2147483648) : ck 0 n K = K 0 := ck_nI (j := 0) h hn
theorem ck_e {α : Type} {x : Int32} {j n : Nat} {K : Nat → Option α} (e : x = nI j) (h : j < n) (hn : n < 2147483648) : ck x n K = K j := by
  rw [e, ck_nI h hn]
theorem ln_le {a b : Nat} (ha : a < 2147483648) (hb : b < 2147483648) : nI a ≤ nI b ↔ a ≤ b := nI_leI ha hb
theorem ln_lt {a b : Nat} (ha : a < 2147483648) (hb : b < 2147483648) : nI a < nI b ↔ a < b := nI_ltI ha hb
theorem ln_eq {a b : Nat} (ha : a < 2147483648) (hb : b < 2147483648) : nI a = nI b ↔ a = b := nI_eq ha hb
theorem ln_neg {a : Nat} (ha : a < 2147483648) : nI a < 0 ↔ False := iff_false_intro (nI_pos ha)
theorem ln_0le {a : Nat} (ha : a < 2147483648) : 0 ≤ nI a ↔ True := iff_true_intro (nI_pos' ha)
theorem ln_le0 {a : Nat} (ha : a < 2147483648) : nI a ≤ 0 ↔ a = 0 := (ln_le ha (by omega : 0 < 2147483648)).trans (by omega)
theorem ln_0lt {a : Nat} (ha : a < 2147483648) : 0 < nI a ↔ 0 < a := ln_lt (by omega : 0 < 2147483648) ha
theorem ln_eq0 {a : Nat} (ha : a < 2147483648) : nI a = 0 ↔ a = 0 := ln_eq ha (by omega : 0 < 2147483648)
theorem ln_sub {a b : Nat} (h : b ≤ a) : nI a - nI b = nI (a - b) := pk_sub h
theorem ln_pred {a : Nat} (h : 0 < a) : nI a - 1 = nI (a - 1) := by
  obtain ⟨b, rfl⟩ : ∃ b, a = b + 1 := ⟨a - 1, by omega⟩
  exact nI_pred b
theorem ln_m1 {a : Nat} (h : 0 < a) : nI a + (-1) = nI (a - 1) := by
  obtain ⟨b, rfl⟩ : ∃ b, a = b + 1 := ⟨a - 1, by omega⟩
  exact pk_m1 b
theorem ln_40 (v : Nat) : (40 : Int32) * nI v = nI (40 * v) := pk_mul 40 v
theorem ln_12 (v : Nat) : (12 : Int32) * nI v = nI (12 * v) := pk_mul 12 v
theorem ln_8 (v : Nat) : (8 : Int32) * nI v = nI (8 * v) := pk_mul 8 v
theorem ln_2 (v : Nat) : (2 : Int32) * nI v = nI (2 * v) := pk_mul 2 v
theorem ln_10 (v : Nat) : (10 : Int32) * nI v = nI (10 * v) := pk_mul 10 v
theorem ln_r10 (v : Nat) : nI v * (10 : Int32) = nI (v * 10) := pk_mul v 10
theorem ln_toInt {a : Nat} (ha : a < 2147483648) : (nI a).toInt = (a : Int) := nI_toInt ha
/-- minus two is none of the numbers -/
theorem ln_m2 {a : Nat} (ha : a < 2147483648) : ¬ nI a = -2 := by
  intro e
  have h := congrArg Int32.toInt e
  rw [nI_toInt ha] at h
  have : (-2 : Int32).toInt = -2 := by decide
  omega
theorem ln_m1n {a : Nat} (ha : a < 2147483648) : ¬ nI a = -1 := by
  intro e
  have h := congrArg Int32.toInt e
  rw [nI_toInt ha] at h
  have : (-1 : Int32).toInt = -1 := by decide
  omega
/-- none, or a number -/
def oI : Option Nat → Int32
  | none => -2
  | some j => nI j
def bI (b : Bool) : Int32 := if b = true then 1 else 0
theorem bI_t : bI true = 1 := rfl
theorem bI_f : bI false = 0 := rfl
theorem bI_0 (b : Bool) : bI b = 0 ↔ b = false := by cases b <;> decide
theorem bI_1 (b : Bool) : bI b = 1 ↔ b = true := by cases b <;> decide
theorem bI_01 (b : Bool) : decide (bI b = 0 ∨ bI b = 1) = true := by cases b <;> decide
/-- the byte of a code -/
def sB (c : Nat) : Int32 := (nI c).toInt8.toInt32
theorem sB_and {c : Nat} (h : c < 256) : sB c &&& 255 = nI c := sc_k8 c h
theorem sB_8 (c : Nat) : (sB c).toInt8.toInt32 = sB c := by
  unfold sB
  rw [Int8.toInt8_toInt32]
theorem sB_nar (c : Nat) : vp_nar .byte (sB c) = sB c := sB_8 c
theorem sB_add (c : Nat) : vp_nar .byte (Int8.toInt32 (Int32.toInt8 (nI c))) = sB c := sB_8 c
theorem sB_ascT : ∀ c, c < 128 → sB c = nI c := by decide +kernel
theorem sB_asc {c : Nat} (h : c < 128) : sB c = nI c := sB_ascT c h
theorem sB_inj {c d : Nat} (hc : c < 256) (hd : d < 256) : sB c = sB d ↔ c = d := by
  constructor
  · intro h
    have e : nI c = nI d := by rw [← sB_and hc, ← sB_and hd, h]
    exact (ln_eq (by omega) (by omega)).mp e
  · rintro rfl
    rfl
theorem sB_of (y : Int8) : ∃ c, c < 256 ∧ y.toInt32 = sB c := by
  refine ⟨y.toBitVec.toNat, y.toBitVec.isLt, ?_⟩
  unfold sB
  congr 1
  apply Int8.toBitVec_inj.mp
  show y.toBitVec = _
  rw [Int32.toBitVec_toInt8]
  show _ = BitVec.signExtend 8 (BitVec.ofNat 32 _)
  rw [BitVec.signExtend_eq_setWidth_of_le _ (by omega)]
  apply BitVec.eq_of_toNat_eq
  simp
def el (l : List Nat) (i : Nat) : Nat := l.getD i 0
theorem el_t {l : List Nat} {i : Nat} (h : i < l.length) : el l i = l[i] := by
  unfold el
  rw [List.getD_eq_getElem?_getD, List.getElem?_eq_getElem h]
  rfl
theorem el_o {l : List Nat} {i : Nat} (h : l.length ≤ i) : el l i = 0 := by
  unfold el
  rw [List.getD_eq_getElem?_getD, List.getElem?_eq_none h]
  rfl
theorem bI_c {P Q : Prop} [Decidable P] [Decidable Q] (h : P ↔ Q) : bI (decide P) = bI (decide Q) := by
  rw [decide_eq_decide.mpr h]
theorem if_bI {P Q : Prop} [Decidable P] [Decidable Q] {σ : St} : (if P then some (σ, bI (decide Q)) else some (σ, (0 : Int32))) = some (σ, bI (decide (P ∧ Q))) := by
  by_cases hp : P
  · simp [hp]
  · simp [hp, bI]
theorem cl_bI {b : Bool} {σ : St} : (if bI b = 0 then some (σ, (0 : Int32)) else some (σ, 1)) = some (σ, bI b) := by
  cases b <;> rfl
theorem bI_no {P : Prop} [Decidable P] (h : ¬ P) : bI (decide P) = 0 := by simp [h, bI]
theorem bI_yes {P : Prop} [Decidable P] (h : P) : bI (decide P) = 1 := by simp [h, bI]
/-- bytes in an array, from a place on -/
def Bs (a : Nat → Int32) (o : Nat) (l : List Nat) : Prop := ∀ i, i < l.length → a (o + i) = sB (el l i)
def By (l : List Nat) : Prop := ∀ c, c ∈ l → c < 256
theorem capX_le (k : Nat) : capX k ≤ 4000 := by
  unfold capX
  repeat' split
  all_goals omega
theorem By_get {l : List Nat} (h : By l) (i : Nat) : el l i < 256 := by
  by_cases hi : i < l.length
  · rw [el_t hi]
    exact h _ (List.getElem_mem hi)
  · rw [el_o (by omega)]
    decide
/-- the letters k of the class -/
def LX (σ : St) (k : Nat) (l : List Nat) : Prop := gi σ 201 k = nI l.length ∧ l.length ≤ capX k ∧ Bs (ga σ 2 k) 0 l ∧ By l
theorem LX.b {σ : St} {k : Nat} {l : List Nat} (h : LX σ k l) : l.length ≤ 4000 := Nat.le_trans h.2.1 (capX_le k)
theorem LX.g {σ : St} {k : Nat} {l : List Nat} (h : LX σ k l) {i : Nat} (hi : i < l.length) : ga σ 2 k i = sB (el l i) := by
  have := h.2.2.1 i hi
  rwa [Nat.zero_add] at this
theorem drop_c {l : List Nat} {i : Nat} (h : i < l.length) : l.drop i = el l i :: l.drop (i + 1) := by
  rw [List.drop_eq_getElem_cons h, el_t h]
theorem i10 : ¬ (1 : Int32) = 0 := by decide
theorem n00 : nI 0 = 0 := rfl
