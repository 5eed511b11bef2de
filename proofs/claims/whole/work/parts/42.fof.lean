/-! The reference compares names. -/
theorem cq_bI {b : Bool} {σ : St} : cq (decide (bI b = 0 ∨ bI b = 1)) (some (σ, bI b)) = some (σ, bI b) := by cases b <;> rfl
theorem cq_0 {σ : St} : cq (decide ((0 : Int32) = 0 ∨ (0 : Int32) = 1)) (some (σ, (0 : Int32))) = some (σ, (0 : Int32)) := rfl
theorem cq_1 {σ : St} : cq (decide ((1 : Int32) = 0 ∨ (1 : Int32) = 1)) (some (σ, (1 : Int32))) = some (σ, (1 : Int32)) := rfl
theorem m_sname_loop {τ : St} {g h : Nat} {N M : List Nat} (hg : g < 320) (hh : h < 320) (e1 : ga τ 1 3 g = nI N.length) (b1 : Bs (ga τ 2 3) (12 * g) N) (b2 : Bs (ga τ 2 3) (12 * h) M) (hN : N.length ≤ 12) (bN : By N) (bM : By M) (hl : N.length = M.length) : ∀ (r i : Nat), i + r = N.length → ∀ m, r + 1 < m → f_X9_isSameName_24 m τ (nI g) (nI h) 1 (nI i) = some (τ, bI (decide (N.drop i = M.drop i))) := by
  intro r
  induction r with
  | zero =>
    intro i hi m hm
    obtain ⟨m, rfl⟩ : ∃ m', m = m' + 1 := ⟨m - 1, by omega⟩
    rw [f_X9_isSameName_24.eq_2, ck_nI hg (by omega), e1, if_pos (nI_le (by omega) (by omega)), cq_1, List.drop_eq_nil_of_le (by omega), List.drop_eq_nil_of_le (by omega), bI_yes rfl]
  | succ r ih =>
    intro i hi m hm
    obtain ⟨m, rfl⟩ : ∃ m', m = m' + 2 := ⟨m - 2, by omega⟩
    have x1 := b1 i (by omega)
    have x2 := b2 i (by omega)
    rw [f_X9_isSameName_24.eq_2, ck_nI hg (by omega), e1, if_neg (nI_ge (by omega) (by omega)), if_neg i10, ln_12, ln_12, nI_add, nI_add, ck_nI (by omega) (by omega), ck_nI (by omega) (by omega), x1, x2]
    unfold f_X9_isSameName_71
    rw [nI_1, ih (i + 1) (by omega) (m + 1) (by omega), drop_c (show i < N.length by omega), drop_c (show i < M.length by omega)]
    simp only [sB_inj (By_get bN i) (By_get bM i), List.cons.injEq]
    by_cases e : el N i = el M i
    · rw [if_pos e]
      refine congrArg (fun b => some (τ, b)) (bI_c ?_)
      simp [e]
    · rw [if_neg e, bI_no (fun hh => e hh.1), f_X9_isSameName_24.eq_2, ck_nI hg (by omega), e1]
      split
      · rfl
      · rw [if_pos rfl]
        rfl
theorem m_sname {τ : St} {g h : Nat} {N M : List Nat} (hg : g < 320) (hh : h < 320) (e1 : ga τ 1 3 g = nI N.length) (e2 : ga τ 1 3 h = nI M.length) (b1 : Bs (ga τ 2 3) (12 * g) N) (b2 : Bs (ga τ 2 3) (12 * h) M) (hN : N.length ≤ 12) (hM : M.length ≤ 12) (bN : By N) (bM : By M) : f_X9_isSameName τ (nI g) (nI h) = some (τ, bI (decide (N = M))) := by
  unfold f_X9_isSameName f_X9_isSameName_20
  rw [ck_nI hg (by omega), ck_nI hh (by omega), e1, e2]
  by_cases e : N.length = M.length
  · rw [if_pos (by rw [e])]
    exact m_sname_loop hg hh e1 b1 b2 hN bN bM e N.length 0 (by omega) fl (by have := fl_big; omega)
  · rw [if_neg (fun x => e ((ln_eq (by omega) (by omega)).mp x)), bI_no (fun x => e (by rw [x])), show fl = 20099 + 1 from rfl, f_X9_isSameName_24.eq_2, ck_nI hg (by omega)]
    split
    · rfl
    · rw [if_pos rfl]
      rfl
theorem m_sby_loop {τ : St} {g h : Nat} {N M : List Nat} (hg : g < 320) (hh : h < 320) (e1 : ga τ 1 9 g = nI N.length) (b1 : Bs (ga τ 2 4) (12 * g) N) (b2 : Bs (ga τ 2 4) (12 * h) M) (hN : N.length ≤ 12) (bN : By N) (bM : By M) (hl : N.length = M.length) : ∀ (r i : Nat), i + r = N.length → ∀ m, r + 1 < m → f_X9_isSameBy_24 m τ (nI g) (nI h) 1 (nI i) = some (τ, bI (decide (N.drop i = M.drop i))) := by
  intro r
  induction r with
  | zero =>
    intro i hi m hm
    obtain ⟨m, rfl⟩ : ∃ m', m = m' + 1 := ⟨m - 1, by omega⟩
    rw [f_X9_isSameBy_24.eq_2, ck_nI hg (by omega), e1, if_pos (nI_le (by omega) (by omega)), cq_1, List.drop_eq_nil_of_le (by omega), List.drop_eq_nil_of_le (by omega), bI_yes rfl]
  | succ r ih =>
    intro i hi m hm
    obtain ⟨m, rfl⟩ : ∃ m', m = m' + 2 := ⟨m - 2, by omega⟩
    have x1 := b1 i (by omega)
    have x2 := b2 i (by omega)
    rw [f_X9_isSameBy_24.eq_2, ck_nI hg (by omega), e1, if_neg (nI_ge (by omega) (by omega)), if_neg i10, ln_12, ln_12, nI_add, nI_add, ck_nI (by omega) (by omega), ck_nI (by omega) (by omega), x1, x2]
    unfold f_X9_isSameBy_71
    rw [nI_1, ih (i + 1) (by omega) (m + 1) (by omega), drop_c (show i < N.length by omega), drop_c (show i < M.length by omega)]
    simp only [sB_inj (By_get bN i) (By_get bM i), List.cons.injEq]
    by_cases e : el N i = el M i
    · rw [if_pos e]
      refine congrArg (fun b => some (τ, b)) (bI_c ?_)
      simp [e]
    · rw [if_neg e, bI_no (fun hh => e hh.1), f_X9_isSameBy_24.eq_2, ck_nI hg (by omega), e1]
      split
      · rfl
      · rw [if_pos rfl]
        rfl
theorem m_sby {τ : St} {g h : Nat} {N M : List Nat} (hg : g < 320) (hh : h < 320) (e1 : ga τ 1 9 g = nI N.length) (e2 : ga τ 1 9 h = nI M.length) (b1 : Bs (ga τ 2 4) (12 * g) N) (b2 : Bs (ga τ 2 4) (12 * h) M) (hN : N.length ≤ 12) (hM : M.length ≤ 12) (bN : By N) (bM : By M) : f_X9_isSameBy τ (nI g) (nI h) = some (τ, bI (decide (N = M))) := by
  unfold f_X9_isSameBy f_X9_isSameBy_20
  rw [ck_nI hg (by omega), ck_nI hh (by omega), e1, e2]
  by_cases e : N.length = M.length
  · rw [if_pos (by rw [e])]
    exact m_sby_loop hg hh e1 b1 b2 hN bN bM e N.length 0 (by omega) fl (by have := fl_big; omega)
  · rw [if_neg (fun x => e ((ln_eq (by omega) (by omega)).mp x)), bI_no (fun x => e (by rw [x])), show fl = 20099 + 1 from rfl, f_X9_isSameBy_24.eq_2, ck_nI hg (by omega)]
    split
    · rfl
    · rw [if_pos rfl]
      rfl
section It
variable {τ : St} {tx : List Nat} {c : Nat} {ks ps ls : Nat → Nat}
theorem m_istok_loop (hT : TKM τ tx c ks ps ls) (w : TKW tx c ks ps ls) {g t : Nat} {N : List Nat} (hg : g < 320) (ht : t ≤ c) (e1 : ga τ 1 3 g = nI N.length) (b1 : Bs (ga τ 2 3) (12 * g) N) (hN : N.length ≤ 12) (bN : By N) (hl : N.length = ls t) : ∀ (r i : Nat), i + r = N.length → ∀ m, r + 1 < m → f_X9_isToken_24 m τ (nI g) (nI t) 1 (nI i) = some (τ, bI (decide (N.drop i = (wrd tx (ps t) (ls t)).drop i))) := by
  have hc := w.cc
  have hin := w.in ht
  have hlen := w.len ht
  have h2000 := w.2.2.2.2
  have bM : By (wrd tx (ps t) (ls t)) := By_sub hT.1.2.2.1 _ _
  intro r
  induction r with
  | zero =>
    intro i hi m hm
    obtain ⟨m, rfl⟩ : ∃ m', m = m' + 1 := ⟨m - 1, by omega⟩
    rw [f_X9_isToken_24.eq_2, ck_nI hg (by omega), e1, if_pos (nI_le (by omega) (by omega)), cq_1, List.drop_eq_nil_of_le (by omega), List.drop_eq_nil_of_le (by omega), bI_yes rfl]
  | succ r ih =>
    intro i hi m hm
    obtain ⟨m, rfl⟩ : ∃ m', m = m' + 2 := ⟨m - 2, by omega⟩
    have x1 := b1 i (by omega)
    rw [f_X9_isToken_24.eq_2, ck_nI hg (by omega), e1, if_neg (nI_ge (by omega) (by omega)), if_neg i10, ln_12, nI_add, ck_nI (by omega) (by omega), ck_nI (by omega) (by omega), (hT.2.2 t ht).2.1, nI_add, ck_nI (by omega) (by omega), x1, hT.1.g (by omega), ← el_wrd w ht (by omega)]
    unfold f_X9_isToken_73
    rw [nI_1, ih (i + 1) (by omega) (m + 1) (by omega), drop_c (show i < N.length by omega), drop_c (show i < (wrd tx (ps t) (ls t)).length by omega)]
    simp only [sB_inj (By_get bN i) (By_get bM i), List.cons.injEq]
    by_cases e : el N i = el (wrd tx (ps t) (ls t)) i
    · rw [if_pos e]
      refine congrArg (fun b => some (τ, b)) (bI_c ?_)
      simp [e]
    · rw [if_neg e, bI_no (fun hh => e hh.1), f_X9_isToken_24.eq_2, ck_nI hg (by omega), e1]
      split
      · rfl
      · rw [if_pos rfl]
        rfl
theorem m_istok (hT : TKM τ tx c ks ps ls) (w : TKW tx c ks ps ls) {g t : Nat} {N : List Nat} (hg : g < 320) (ht : t ≤ c) (e1 : ga τ 1 3 g = nI N.length) (b1 : Bs (ga τ 2 3) (12 * g) N) (hN : N.length ≤ 12) (bN : By N) : f_X9_isToken τ (nI g) (nI t) = some (τ, bI (decide (N = wrd tx (ps t) (ls t)))) := by
  have hc := w.cc
  have hin := w.in ht
  have hlen := w.len ht
  have h2000 := w.2.2.2.2
  unfold f_X9_isToken f_X9_isToken_20
  rw [ck_nI hg (by omega), ck_nI (by omega) (by omega), e1, (hT.2.2 t ht).2.2]
  by_cases e : N.length = ls t
  · rw [if_pos (by rw [e])]
    exact m_istok_loop hT w hg ht e1 b1 hN bN e N.length 0 (by omega) fl (by have := fl_big; omega)
  · rw [if_neg (fun x => e ((ln_eq (by omega) (by omega)).mp x)), bI_no (fun x => e (by rw [x, hlen])), show fl = 20099 + 1 from rfl, f_X9_isToken_24.eq_2, ck_nI hg (by omega)]
    split
    · rfl
    · rw [if_pos rfl]
      rfl
/-! which field has a path -/
def PX (σ : St) (v : Nat) (d : Vd) : Prop := gi σ 603 v = nI (vn d) ∧ ∀ j, j < vn d → LX σ (5 + 2 * (40 * v + j)) (nP d j)
def PM (τ : St) (v : Nat) (d : Vd) : Prop := ga τ 1 0 v = nI (vn d) ∧ ∀ j, j < vn d → ga τ 1 10 (40 * v + j) = oI (oH d j) ∧ ga τ 1 3 (40 * v + j) = nI (nN d j).length ∧ Bs (ga τ 2 3) (12 * (40 * v + j)) (nN d j)
theorem VX.px {σ : St} {v : Nat} {d : Vd} (h : VX σ v d) : PX σ v d := ⟨h.1, fun j hj => (h.2.2.2.1 j hj).1.2.2.2.2.2.1⟩
theorem VM.pm {τ : St} {v : Nat} {d : Vd} (h : VM τ v d) : PM τ v d := ⟨h.1, fun j hj => ⟨(h.2.2.2.1 j hj).1.2.2.2.1, (h.2.2.2.1 j hj).1.2.2.2.2.1, (h.2.2.2.1 j hj).1.2.2.2.2.2.1⟩⟩
theorem x_fof_loop {σ : St} {v k : Nat} {d : Vd} {p : List Nat} (hX : PX σ v d) (h40 : vn d ≤ 40) (hp : LX σ k p) {n : Nat} (hn : n ≤ p.length) : ∀ (r i : Nat), i + r = vn d → ∀ m, r < m → f_X7_fieldOf_2 m σ v k (nI n) (nI i) = some (σ, oI (fm (fun j => decide (nP d j = p.take n)) r i)) := by
  intro r
  induction r with
  | zero =>
    intro i hi m hm
    obtain ⟨m, rfl⟩ : ∃ m', m = m' + 1 := ⟨m - 1, by omega⟩
    rw [f_X7_fieldOf_2.eq_2, hX.1, if_pos (nI_le (by omega) (by omega))]
    rfl
  | succ r ih =>
    intro i hi m hm
    obtain ⟨m, rfl⟩ : ∃ m', m = m' + 1 := ⟨m - 1, by omega⟩
    rw [f_X7_fieldOf_2.eq_2, hX.1, if_neg (nI_ge (by omega) (by omega)), ck_nI (by omega) (by omega), lx_start (hX.2 i (by omega)) hp hn, cl_mk, nI_1, ih (i + 1) (by omega) m (by omega), fm.eq_2]
    by_cases e : nP d i = p.take n
    · rw [bI_yes e, if_neg i10, if_pos (by simpa using e)]
      rfl
    · rw [bI_no e, if_pos rfl, if_neg (by simpa using e)]
theorem x_fof {σ : St} {v k : Nat} {d : Vd} {p : List Nat} (hX : PX σ v d) (h40 : vn d ≤ 40) (hp : LX σ k p) {n : Nat} (hn : n ≤ p.length) : f_X7_fieldOf σ v k (nI n) = some (σ, oI (fm (fun j => decide (nP d j = p.take n)) (vn d) 0)) := x_fof_loop hX h40 hp hn (vn d) 0 (by omega) fl (by have := fl_big; omega)
/-- up from a field, the last r names -/
def mt (d : Vd) (tx : List Nat) (ps ls : Nat → Nat) (first : Nat) : Nat → Option Nat → Bool
  | 0, k => decide (k = none)
  | r + 1, k => match k with
    | none => false
    | some j => decide (nN d j = wrd tx (ps (first + 2 * r)) (ls (first + 2 * r))) && mt d tx ps ls first r (oH d j)
theorem m_fof_in {v : Nat} {d : Vd} (hv : v < 8) (hM : PM τ v d) (h40 : vn d ≤ 40) (wt : WT d) (hT : TKM τ tx c ks ps ls) (w : TKW tx c ks ps ls) {first n f : Nat} (hn : first + 2 * n ≤ c + 1) (k3 : St → Int32 → Int32 → Int32 → Int32 → Option (St × Int32)) : ∀ (r i : Nat), i + r = n → ∀ (k : Option Nat) (x : Int32), (∀ j, k = some j → j < vn d) → (0 < r → x = nI (first + 2 * (r - 1))) → ∀ m, r + 2 < m → f_X9_fieldOf_33 k3 m τ (nI v) (nI first) (nI n) (nI f) (oI k) x 1 (nI i) = if mt d tx ps ls first r k = true then some (τ, nI f) else k3 τ (nI v) (nI first) (nI n) (nI f + 1) := by
  have hc := w.cc
  intro r
  induction r with
  | zero =>
    intro i hi k x hk hx m hm
    obtain ⟨m, rfl⟩ : ∃ m', m = m' + 1 := ⟨m - 1, by omega⟩
    rw [f_X9_fieldOf_33.eq_2, if_pos (nI_le (by omega) (by omega))]
    unfold f_X9_fieldOf_107 f_X9_fieldOf_122 mt
    rw [if_neg i10]
    cases k with
    | none =>
      rw [if_pos (show oI none = -2 from rfl)]
      simp
    | some j =>
      have := hk j rfl
      rw [if_neg (show ¬ oI (some j) = -2 from ln_m2 (by omega))]
      simp
  | succ r ih =>
    intro i hi k x hk hx m hm
    obtain ⟨m, rfl⟩ : ∃ m', m = m' + 2 := ⟨m - 2, by omega⟩
    have dead : ∀ (y z : Int32), f_X9_fieldOf_33 k3 (m + 1) τ (nI v) (nI first) (nI n) (nI f) y z 0 (nI i + 1) = k3 τ (nI v) (nI first) (nI n) (nI f + 1) := by
      intro y z
      rw [f_X9_fieldOf_33.eq_2, if_pos (rfl : (0 : Int32) = 0)]
      unfold f_X9_fieldOf_107 f_X9_fieldOf_122
      rw [if_pos (rfl : (0 : Int32) = 0)]
      split <;> rfl
    rw [f_X9_fieldOf_33.eq_2, if_neg (nI_ge (by omega) (by omega)), if_neg i10]
    unfold mt
    cases k with
    | none =>
      rw [if_pos (show oI none = -2 from rfl)]
      unfold f_X9_fieldOf_71 f_X9_fieldOf_72 f_X9_fieldOf_96
      rw [if_pos rfl, dead]
      simp
    | some j =>
      have hj := hk j rfl
      obtain ⟨a1, a2, a3⟩ := hM.2 j hj
      rw [if_neg (show ¬ oI (some j) = -2 from ln_m2 (by omega)), show oI (some j) = nI j from rfl, ln_40, nI_add, hx (by omega), Nat.add_sub_cancel, m_istok hT w (by omega) (show first + 2 * r ≤ c by omega) a2 a3 (wt j hj).1.2.1 (wt j hj).1.by', cl_mk]
      by_cases e : nN d j = wrd tx (ps (first + 2 * r)) (ls (first + 2 * r))
      · rw [bI_yes e, if_neg i10]
        unfold f_X9_fieldOf_72 f_X9_fieldOf_96
        rw [if_neg i10, ln_40, nI_add, ck_nI (by omega) (by omega), a1, nI_1, ih (i + 1) (by omega) (oH d j) _ (fun q hq => by
          rcases (wt j hj).2.2 with ⟨a, _⟩ | ⟨p, a, b, _⟩
          · rw [a] at hq
            cases hq
          · rw [b] at hq
            cases hq
            omega) (fun h0 => by
          rw [show first + 2 * r = (first + 2 * (r - 1)) + 1 + 1 by omega]
          show nI _ + (-2 : Int32) = _
          rw [show (-2 : Int32) = (-1) + (-1) from by decide, ← Int32.add_assoc, pk_m1, pk_m1]) (m + 1) (by omega)]
        simp [e]
      · rw [bI_no e, if_pos rfl]
        unfold f_X9_fieldOf_71 f_X9_fieldOf_72 f_X9_fieldOf_96
        rw [if_pos rfl, dead]
        simp [e]
theorem m_fof_loop {v : Nat} {d : Vd} (hv : v < 8) (hM : PM τ v d) (h40 : vn d ≤ 40) (wt : WT d) (hT : TKM τ tx c ks ps ls) (w : TKW tx c ks ps ls) {first n : Nat} (h0 : 0 < n) (hn : first + 2 * n ≤ c + 1) : ∀ (r i : Nat), i + r = vn d → ∀ m, r < m → f_X9_fieldOf_3 m τ (nI v) (nI first) (nI n) (nI i) = some (τ, oI (fm (fun j => mt d tx ps ls first n (some j)) r i)) := by
  have hc := w.cc
  intro r
  induction r with
  | zero =>
    intro i hi m hm
    obtain ⟨m, rfl⟩ : ∃ m', m = m' + 1 := ⟨m - 1, by omega⟩
    rw [f_X9_fieldOf_3.eq_2, ck_nI (by omega) (by omega), hM.1, if_pos (nI_le (by omega) (by omega))]
    rfl
  | succ r ih =>
    intro i hi m hm
    obtain ⟨m, rfl⟩ : ∃ m', m = m' + 1 := ⟨m - 1, by omega⟩
    rw [f_X9_fieldOf_3.eq_2, ck_nI (by omega) (by omega), hM.1, if_neg (nI_ge (by omega) (by omega)), ln_pred h0, ln_2, nI_add]
    have := m_fof_in (f := i) hv hM h40 wt hT w hn (f_X9_fieldOf_3 m) n 0 (by omega) (some i) (nI (first + 2 * (n - 1))) (fun j hj => by cases hj; omega) (fun _ => rfl) fl (by have := fl_big; omega)
    refine Eq.trans this ?_
    rw [nI_1, ih (i + 1) (by omega) m (by omega), fm.eq_2]
    split <;> rfl
end It
