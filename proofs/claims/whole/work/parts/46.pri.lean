/-! Printing: the class's pieces. -/
theorem bitT : ∀ p, p < 128 → ∀ o, o < 7 → (nI p >>> (nI o &&& 31)) &&& 1 = nI (bt p o) ∧ bt p o < 2 := by decide +kernel
section Pc
variable {σ : St} {k : Nat} {l : List Nat}
theorem x_has {g p o : Nat} (h : gi σ 103 g = nI p) (hp : p < 128) (ho : o < 7) : f_X1_has σ g (nI o) = some (σ, bI (decide (bt p o = 1))) := by
  obtain ⟨a, b⟩ := bitT p hp o ho
  unfold f_X1_has
  rw [h, a]
  by_cases e : bt p o = 1
  · rw [e, if_neg (by decide), bI_yes rfl]
  · have : bt p o = 0 := by omega
    rw [this, if_pos n00, bI_no (by decide)]
theorem x_num_d {v : Nat} (hv : v < 1000000) : ∀ (e : Nat), e ≤ 6 → ∀ (σ : St) (l : List Nat), OW σ k l → ∀ m, e < m → ∃ σ', f_X3_addNumber_35 m σ k (nI v) (nI (if e = 0 then 0 else 10 ^ (e - 1))) = some (σ', ()) ∧ UL k σ σ' ∧ OW σ' k (l ++ dgl v e) := by
  intro e
  induction e with
  | zero =>
    intro he σ l h m hm
    obtain ⟨m, rfl⟩ : ∃ m', m = m' + 1 := ⟨m - 1, by omega⟩
    refine ⟨σ, ?_, UL.rfl', by simpa [dgl] using h⟩
    rw [if_pos rfl, f_X3_addNumber_35.eq_2, if_pos (by decide)]
  | succ e ih =>
    intro he σ l h m hm
    obtain ⟨m, rfl⟩ : ∃ m', m = m' + 1 := ⟨m - 1, by omega⟩
    obtain ⟨q1, q2⟩ := p10 e (by omega)
    obtain ⟨t1, p1, p2, p3⟩ := ow_add h (c := 48 + v / 10 ^ e % 10) (by omega)
    obtain ⟨σ', g1, g2, g3⟩ := ih (by omega) t1 _ p3 m (by omega)
    refine ⟨σ', ?_, p2.trans g2, by simpa [dgl] using g3⟩
    rw [if_neg (by omega), Nat.add_sub_cancel, f_X3_addNumber_35.eq_2, if_neg (fun x => by have := (ln_le0 (by omega)).mp x; omega), decide_eq_true (p := ¬ nI (10 ^ e) = 0) (fun x => by have := (ln_eq0 (by omega)).mp x; omega), cq_t, dig hv q1 q2, p1, cl_mk, u10 (by omega)]
    have : 10 ^ e / 10 = if e = 0 then 0 else 10 ^ (e - 1) := by
      by_cases c : e = 0
      · subst c
        rfl
      · obtain ⟨e', rfl⟩ : ∃ e', e = e' + 1 := ⟨e - 1, by omega⟩
        rw [p10s, if_neg c, Nat.add_sub_cancel]
    rw [this, g1]
theorem x_num_u {v : Nat} (hv : v < 1000000) : ∀ (s i : Nat), i + s = 6 → 1 ≤ i → ∀ (e : Nat), e + 1 ≤ i → (e + 1 = i ∨ v / 10 ^ e < 10) → (e = 0 ∨ 10 ^ e ≤ v) → ∀ m, s < m → f_X3_addNumber_4 m σ k (nI v) (nI (10 ^ e)) (nI i) = f_X3_addNumber_35 fl σ k (nI v) (nI (10 ^ nud v)) := by
  intro s
  induction s with
  | zero =>
    intro i hi h1 e he hc hd m hm
    obtain ⟨m, rfl⟩ : ∃ m', m = m' + 1 := ⟨m - 1, by omega⟩
    rw [f_X3_addNumber_4.eq_2, if_pos (show (6 : Int32) ≤ nI i from nI_le (a := 6) (by omega) (by omega)), ← nud_is hv (by omega) ?_ hd]
    rcases hc with hc | hc
    · have : e = 5 := by omega
      subst this
      omega
    · exact hc
  | succ s ih =>
    intro i hi h1 e he hc hd m hm
    obtain ⟨m, rfl⟩ : ∃ m', m = m' + 1 := ⟨m - 1, by omega⟩
    obtain ⟨q1, q2⟩ := p10 e (by omega)
    have hdiv : v / 10 ^ e ≤ v := Nat.div_le_self _ _
    rw [f_X3_addNumber_4.eq_2, if_neg (show ¬ (6 : Int32) ≤ nI i from nI_ge (b := 6) (by omega) (by omega)), decide_eq_true (p := ¬ nI (10 ^ e) = 0) (fun x => by have := (ln_eq0 (by omega)).mp x; omega), cq_t, pk_div (by omega) q1 (by omega)]
    unfold f_X3_addNumber_26
    rw [nI_1, ln_r10, ← Nat.pow_succ]
    by_cases c : v / 10 ^ e < 10
    · rw [if_pos (show nI (v / 10 ^ e) < 10 from nI_lt (b := 10) c (by omega))]
      exact ih (i + 1) (by omega) (by omega) e (by omega) (Or.inr c) hd m (by omega)
    · rw [if_neg (show ¬ nI (v / 10 ^ e) < 10 from nI_nlt (b := 10) (by omega) (by omega))]
      refine ih (i + 1) (by omega) (by omega) (e + 1) (by omega) (Or.inl (by omega)) (Or.inr ?_) m (by omega)
      rw [Nat.pow_succ]
      have := (Nat.le_div_iff_mul_le q1).mp (show 10 ≤ v / 10 ^ e by omega)
      omega
theorem ow_num (h : OW σ k l) {v : Nat} (hv : v < 1000000) : ∃ σ', f_X3_addNumber σ k (nI v) = some (σ', ()) ∧ UL k σ σ' ∧ OW σ' k (l ++ nut v) := by
  have n5 : nud v ≤ 5 := by
    unfold nud
    repeat' split
    all_goals omega
  have g1 := x_num_u (σ := σ) (k := k) hv 5 1 (by omega) (by omega) 0 (by omega) (Or.inl rfl) (Or.inl rfl) fl (by have := fl_big; omega)
  obtain ⟨σ', k1, k2, k3⟩ := x_num_d hv (nud v + 1) (by omega) σ l h fl (by have := fl_big; omega)
  rw [if_neg (by omega), Nat.add_sub_cancel] at k1
  exact ⟨σ', g1.trans k1, k2, k3⟩
theorem ow_all (h : OW σ k l) {m : Nat} {p : List Nat} (hp : LX σ m p) : ∃ σ', f_X3_addPart σ k m 0 (nI p.length) = some (σ', ()) ∧ UL k σ σ' ∧ OW σ' k (l ++ p) := by
  obtain ⟨s, g1, g2, g3⟩ := ow_part h hp (o := 0) (n := p.length) (by omega)
  exact ⟨s, g1, g2, by simpa using g3⟩
theorem ow_addAll (h : OW σ k l) {m : Nat} {p : List Nat} (hp : LX σ m p) : ∃ σ', f_X3_addAll σ k m = some (σ', ()) ∧ UL k σ σ' ∧ OW σ' k (l ++ p) := by
  obtain ⟨s1, e1, u1, o1⟩ := ow_all h hp
  refine ⟨s1, ?_, u1, o1⟩
  unfold f_X3_addAll
  rw [hp.1, e1, cl_mk]
end Pc
/-! the text -/
def opP (d : Vd) (o : Option Nat) : List Nat := match o with
  | none => []
  | some c => nP d c
def ov (d : Vd) (j o : Nat) : List Nat := if o = 3 then nut ((oZ d j).getD 0) else if o = 4 then opP d (oC d j) else if o = 5 then nB d j else opP d (oO d j)
def ot (d : Vd) (j o : Nat) : List Nat := sw (10 + o) ++ (if o < 3 then [] else 61 :: ov d j o)
def ops (d : Vd) (j : Nat) : Nat → Nat → Bool → List Nat
  | 0, _, f => if f = true then [] else [41]
  | r + 1, o, f => if bt (vo d j) o = 1 then (if f = true then 40 else 44) :: (ot d j o ++ ops d j r (o + 1) false) else ops d j r (o + 1) f
def hd (d : Vd) (j : Nat) : List Nat := nN d j ++ (58 :: (sw (2 + vk d j) ++ ops d j 7 0 true))
theorem lpt_no {b : List Nat} (h : 46 ∉ b) : ∀ n, n ≤ b.length → lpt b n = none := by
  intro n
  induction n with
  | zero => exact fun _ => rfl
  | succ n ih =>
    intro hn
    rw [lpt.eq_2, if_neg, ih (by omega)]
    intro e
    apply h
    rw [← e, el_t (by omega)]
    exact List.getElem_mem _
theorem lpt_app {a b : List Nat} (h : 46 ∉ b) : ∀ n, n ≤ b.length → lpt (a ++ 46 :: b) (a.length + 1 + n) = some a.length := by
  intro n
  induction n with
  | zero =>
    intro _
    rw [Nat.add_zero, lpt.eq_2, if_pos]
    rw [el_app, if_neg (by omega), Nat.sub_self]
    rfl
  | succ n ih =>
    intro hn
    rw [← Nat.add_assoc, lpt.eq_2, if_neg, ih (by omega)]
    intro e
    rw [el_app, if_neg (by omega), show a.length + 1 + n - a.length = n + 1 by omega] at e
    apply h
    have : el (46 :: b) (n + 1) = el b n := by
      unfold el
      simp
    rw [this] at e
    rw [← e, el_t (by omega)]
    exact List.getElem_mem _
theorem lpt_path {d : Vd} (w : WT d) {j : Nat} (hj : j < vn d) : lpt (nP d j) (nP d j).length = (match oH d j with | none => none | some h => some (nP d h).length) := by
  have hN := (w j hj).1.no
  rcases (w j hj).2.2 with ⟨a, _, b⟩ | ⟨h, a, b, _, e⟩
  · rw [a, b, lpt_no hN _ (Nat.le_refl _)]
  · rw [b, e]
    have := lpt_app (a := nP d h) hN (nN d j).length (Nat.le_refl _)
    rw [List.length_append, List.length_cons, show (nP d h).length + ((nN d j).length + 1) = (nP d h).length + 1 + (nN d j).length by omega, this]
theorem nst_path {d : Vd} (w : WT d) {j : Nat} (hj : j < vn d) : nst (nP d j) ≤ (nP d j).length ∧ (nP d j).drop (nst (nP d j)) = nN d j := by
  unfold nst
  rw [lpt_path w hj]
  rcases (w j hj).2.2 with ⟨a, _, b⟩ | ⟨h, a, b, _, e⟩
  · rw [a]
    exact ⟨Nat.zero_le _, b⟩
  · rw [b]
    show (nP d h).length + 1 ≤ _ ∧ List.drop ((nP d h).length + 1) _ = _
    rw [e]
    constructor
    · simp
    · rw [List.drop_append]
      simp
section Ph
variable {σ : St} {v k : Nat} {d : Vd} {l : List Nat}
theorem x_ppath (hv : v < 8) (hX : VX σ v d) (w : VW d) (h : OW σ k l) {o : Option Nat} (ho : ∀ c, o = some c → c < vn d) : ∃ σ', f_X7_printPath σ v k (oI o) = some (σ', ()) ∧ UL k σ σ' ∧ OW σ' k (l ++ opP d o) := by
  have w40 : vn d ≤ 40 := Nat.le_trans w.1.1 w.1.2.1
  unfold f_X7_printPath
  cases o with
  | none =>
    refine ⟨σ, ?_, UL.rfl', by simpa [opP] using h⟩
    rw [if_pos (by decide)]
  | some c =>
    have hc := ho c rfl
    have hl := hX.px.2 c hc
    obtain ⟨s1, e1, u1, o1⟩ := ow_all h hl
    refine ⟨s1, ?_, u1, o1⟩
    rw [show oI (some c) = nI c from rfl]
    rw [if_neg (nI_pos (by omega)), hX.1, if_neg (nI_ge hc (by omega)), ck_nI (by omega) (by omega), ck_nI (by omega) (by omega)]
    unfold f_X3_length
    rw [cl_mk, hl.1, e1, cl_mk]
theorem x_popt (hv : v < 8) (hk : k = 2 ∨ k = 3) (hX : VX σ v d) (w : VW d) (h : OW σ k l) {j : Nat} (hj : j < vn d) {o : Nat} (ho : o < 7) (hb : bt (vo d j) o = 1) : ∃ σ', f_X7_printOption σ v k (40 * v + j) (nI o) = some (σ', ()) ∧ UL k σ σ' ∧ OW σ' k (l ++ ot d j o) := by
  have w40 : vn d ≤ 40 := Nat.le_trans w.1.1 w.1.2.1
  have wf := w.2.2.2.2.1 j hj
  unfold f_X7_printOption
  obtain ⟨s1, e1, u1, o1⟩ := ow_word h (w := 10 + o) (show 10 + o < 20 by omega)
  rw [x_ow o ho, cl_mk, e1, cl_mk]
  have X1 := (KX_UL (v := v) u1 (by omega)).vx w.1 hX
  by_cases c3 : o < 3
  · rw [if_neg (show ¬ (3 : Int32) ≤ nI o from nI_ge (b := 3) c3 (by omega))]
    refine ⟨s1, rfl, u1, ?_⟩
    unfold ot
    rw [if_pos c3, List.append_nil]
    exact o1
  · rw [if_pos (show (3 : Int32) ≤ nI o from nI_le (a := 3) (by omega) (by omega))]
    obtain ⟨s2, e2, u2, o2⟩ := ow_add o1 (c := 61) (by omega)
    have e2 : f_X3_add s1 k 61 = _ := e2
    rw [e2, cl_mk]
    have X2 := (KX_UL (v := v) u2 (by omega)).vx w.1 X1
    have fx := X2.2.2.2.1 j hj
    simp only [bnd]
    have e0 : o = 3 ∨ o = 4 ∨ o = 5 ∨ o = 6 := by omega
    have fin : ∀ (s3 : St) (p : List Nat), ov d j o = p → UL k s2 s3 → OW s3 k (l ++ sw (10 + o) ++ [61] ++ p) → UL k σ s3 ∧ OW s3 k (l ++ ot d j o) := by
      intro s3 p hp u3 o3
      refine ⟨(u1.trans u2).trans u3, ?_⟩
      unfold ot
      rw [if_neg c3, hp]
      simpa using o3
    rcases e0 with rfl | rfl | rfl | rfl
    · rw [if_pos (by decide), fx.1.2.2.1]
      cases ez : oZ d j with
      | none => exact absurd ez (wf.2.2.2.2.2.2.1.mp hb)
      | some z =>
        have hz := wf.2.2.2.2.2.1 z ez
        obtain ⟨s3, e3, u3, o3⟩ := ow_num o2 hz
        have e3 : f_X3_addNumber s2 k (oI (some z)) = _ := e3
        rw [e3, cl_mk]
        exact ⟨s3, rfl, fin s3 (nut z) (by simp [ov, ez]) u3 o3⟩
    · rw [if_neg (by decide), if_pos (by decide), fx.2.1]
      obtain ⟨s3, e3, u3, o3⟩ := x_ppath hv X2 w o2 (wf.2.2.2.1)
      rw [e3, cl_mk]
      exact ⟨s3, rfl, fin s3 _ (by simp [ov]) u3 o3⟩
    · rw [if_neg (by decide), if_neg (by decide), if_pos (by decide)]
      obtain ⟨s3, e3, u3, o3⟩ := ow_addAll o2 fx.1.2.2.2.2.2.2
      rw [e3, cl_mk]
      exact ⟨s3, rfl, fin s3 _ (by simp [ov]) u3 o3⟩
    · rw [if_neg (by decide), if_neg (by decide), if_neg (by decide), fx.2.2]
      obtain ⟨s3, e3, u3, o3⟩ := x_ppath hv X2 w o2 (wf.2.2.2.2.1)
      rw [e3, cl_mk]
      exact ⟨s3, rfl, fin s3 _ (by simp [ov]) u3 o3⟩
theorem x_popts (hv : v < 8) (hk : k = 2 ∨ k = 3) (w : VW d) {j : Nat} (hj : j < vn d) : ∀ (r o : Nat), o + r = 7 → ∀ (σ : St) (l : List Nat) (f : Bool), VX σ v d → OW σ k l → ∀ m, r < m → ∃ σ', f_X7_printHead_50 m σ v k (40 * v + j) (nI (if f = true then 40 else 44)) (nI o) = some (σ', ()) ∧ UL k σ σ' ∧ OW σ' k (l ++ ops d j r o f) := by
  have w40 : vn d ≤ 40 := Nat.le_trans w.1.1 w.1.2.1
  have wf := w.2.2.2.2.1 j hj
  intro r
  induction r with
  | zero =>
    intro o ho σ l f hX h m hm
    obtain ⟨m, rfl⟩ : ∃ m', m = m' + 1 := ⟨m - 1, by omega⟩
    rw [f_X7_printHead_50.eq_2, if_pos (show (7 : Int32) ≤ nI o from nI_le (a := 7) (by omega) (by omega))]
    cases f with
    | true =>
      refine ⟨σ, ?_, UL.rfl', by simpa [ops] using h⟩
      rw [if_neg (by decide)]
    | false =>
      obtain ⟨s1, e1, u1, o1⟩ := ow_add h (c := 41) (by omega)
      have e1 : f_X3_add σ k 41 = _ := e1
      refine ⟨s1, ?_, u1, by simpa [ops] using o1⟩
      rw [if_pos (by decide), e1, cl_mk]
  | succ r ih =>
    intro o ho σ l f hX h m hm
    obtain ⟨m, rfl⟩ : ∃ m', m = m' + 1 := ⟨m - 1, by omega⟩
    have fx := (hX.2.2.2.1 j hj).1
    rw [f_X7_printHead_50.eq_2, if_neg (show ¬ (7 : Int32) ≤ nI o from nI_ge (b := 7) (by omega) (by omega)), x_has fx.2.1 wf.2.1 (by omega), cl_mk]
    unfold f_X7_printHead_84
    rw [nI_1, ops.eq_2]
    by_cases e : bt (vo d j) o = 1
    · rw [bI_yes e, if_neg i10, if_pos e]
      have hc : (if f = true then 40 else 44) < 256 := by split <;> omega
      obtain ⟨s1, e1, u1, o1⟩ := ow_add h hc
      have X1 := (KX_UL (v := v) u1 (by omega)).vx w.1 hX
      obtain ⟨s2, e2, u2, o2⟩ := x_popt hv hk X1 w o1 hj (show o < 7 by omega) e
      have X2 := (KX_UL (v := v) u2 (by omega)).vx w.1 X1
      obtain ⟨s3, e3, u3, o3⟩ := ih (o + 1) (by omega) s2 _ false X2 o2 m (by omega)
      have e3 : f_X7_printHead_50 m s2 v k (40 * v + j) 44 (nI (o + 1)) = _ := e3
      refine ⟨s3, ?_, (u1.trans u2).trans u3, by simpa using o3⟩
      rw [e1, cl_mk, e2, cl_mk]
      exact e3
    · rw [bI_no e, if_pos rfl, if_neg e]
      exact ih (o + 1) (by omega) σ l f hX h m (by omega)
theorem x_phead (hv : v < 8) (hk : k = 2 ∨ k = 3) (hX : VX σ v d) (w : VW d) (h : OW σ k l) {j : Nat} (hj : j < vn d) : ∃ σ', f_X7_printHead σ v k (40 * v + j) = some (σ', ()) ∧ UL k σ σ' ∧ OW σ' k (l ++ hd d j) := by
  have w40 : vn d ≤ 40 := Nat.le_trans w.1.1 w.1.2.1
  have hl := hX.px.2 j hj
  have wf := w.2.2.2.2.1 j hj
  obtain ⟨n1, n2⟩ := nst_path w.2.1 hj
  unfold f_X7_printHead f_X3_length
  rw [lx_nst hl, cl_mk, cl_mk, hl.1, ln_sub n1]
  obtain ⟨s1, e1, u1, o1⟩ := ow_part h hl (o := nst (nP d j)) (n := (nP d j).length - nst (nP d j)) (by omega)
  rw [n2, List.take_of_length_le (by rw [← n2, List.length_drop]; omega)] at o1
  rw [e1, cl_mk]
  obtain ⟨s2, e2, u2, o2⟩ := ow_add o1 (c := 58) (by omega)
  have e2 : f_X3_add s1 k 58 = _ := e2
  rw [e2, cl_mk]
  have X2 := (KX_UL (v := v) u2 (by omega)).vx w.1 ((KX_UL (v := v) u1 (by omega)).vx w.1 hX)
  rw [(X2.2.2.2.1 j hj).1.1, x_kw _ wf.1, cl_mk]
  obtain ⟨s3, e3, u3, o3⟩ := ow_word o2 (w := 2 + vk d j) (show 2 + vk d j < 20 by have := wf.1; omega)
  rw [e3, cl_mk]
  have X3 := (KX_UL (v := v) u3 (by omega)).vx w.1 X2
  obtain ⟨s4, e4, u4, o4⟩ := x_popts hv hk w hj 7 0 (by omega) s3 _ true X3 o3 fl (by have := fl_big; omega)
  refine ⟨s4, e4, ((u1.trans u2).trans u3).trans u4, ?_⟩
  unfold hd
  simpa using o4
end Ph
