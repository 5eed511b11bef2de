/-! print -/
def rp : Nat → List Nat
  | 0 => []
  | n + 1 => 125 :: 59 :: rp n
def btw (a b : Nat) : List Nat := if b ≤ a then 59 :: rp (a - b) else [123]
def nx (d : Vd) (f : Nat) : Nat := if f + 1 < vn d then vd d (f + 1) else 0
def mdl (d : Vd) : Nat → Nat → List Nat
  | 0, _ => []
  | r + 1, f => hd d f ++ (btw (vd d f) (nx d f) ++ mdl d r (f + 1))
def rlt (d : Vd) (q : Nat) : List Nat := sw 18 ++ (rF d q ++ ((if rs d q = 0 then [] else [42]) ++ (rT d q ++ (58 :: (sw (2 + rk d q) ++ [59])))))
def rls (d : Vd) : Nat → Nat → List Nat
  | 0, _ => if vl d = 40 then [] else sw 19 ++ (nut (vl d) ++ [59])
  | r + 1, q => rlt d q ++ rls d r (q + 1)
def ptx (d : Vd) : List Nat := mdl d (vn d) 0 ++ rls d (vr d) 0
section Pt
variable {σ : St} {v k : Nat} {d : Vd} {l : List Nat}
theorem ow_c (h : OW σ k l) {c : Nat} (hc : c < 256) {x : Int32} (hx : x = nI c) : ∃ σ', f_X3_add σ k x = some (σ', ()) ∧ UL k σ σ' ∧ OW σ' k (l ++ [c]) := by
  rw [hx]
  exact ow_add h hc
theorem x_btw_loop {a : Nat} (ha : a < 1000) : ∀ (r i : Nat), i + r = a → ∀ (σ : St) (l : List Nat), OW σ k l → ∀ m, r < m → ∃ σ', f_X7_printBetween_20 m σ k (nI a) (nI i) = some (σ', ()) ∧ UL k σ σ' ∧ OW σ' k (l ++ rp r) := by
  intro r
  induction r with
  | zero =>
    intro i hi σ l h m hm
    obtain ⟨m, rfl⟩ : ∃ m', m = m' + 1 := ⟨m - 1, by omega⟩
    refine ⟨σ, ?_, UL.rfl', by simpa [rp] using h⟩
    rw [f_X7_printBetween_20.eq_2, if_pos (nI_le (by omega) (by omega))]
  | succ r ih =>
    intro i hi σ l h m hm
    obtain ⟨m, rfl⟩ : ∃ m', m = m' + 1 := ⟨m - 1, by omega⟩
    obtain ⟨s1, e1, u1, o1⟩ := ow_word h (w := 17) (by decide)
    obtain ⟨s2, e2, u2, o2⟩ := ih (i + 1) (by omega) s1 _ o1 m (by omega)
    refine ⟨s2, ?_, u1.trans u2, ?_⟩
    · rw [f_X7_printBetween_20.eq_2, if_neg (nI_ge (by omega) (by omega)), e1, cl_mk, nI_1, e2]
    · have : sw 17 = [125, 59] := by decide
      rw [this] at o2
      simpa [rp] using o2
theorem x_btw (h : OW σ k l) {a b : Nat} (ha : a < 1000) (hb : b < 1000) : ∃ σ', f_X7_printBetween σ k (nI a) (nI b) = some (σ', ()) ∧ UL k σ σ' ∧ OW σ' k (l ++ btw a b) := by
  unfold f_X7_printBetween btw
  by_cases c : b ≤ a
  · rw [if_pos (nI_le c (by omega)), if_pos c]
    obtain ⟨s1, e1, u1, o1⟩ := ow_c h (c := 59) (by omega) (x := 59) rfl
    obtain ⟨s2, e2, u2, o2⟩ := x_btw_loop ha (a - b) b (by omega) s1 _ o1 fl (by have := fl_big; omega)
    refine ⟨s2, ?_, u1.trans u2, by simpa using o2⟩
    rw [e1, cl_mk, e2]
  · rw [if_neg (nI_ge (by omega) (by omega)), if_neg c]
    obtain ⟨s1, e1, u1, o1⟩ := ow_c h (c := 123) (by omega) (x := 123) rfl
    refine ⟨s1, ?_, u1, o1⟩
    rw [e1, cl_mk]
theorem x_prule (hv : v < 8) (hk : k = 2 ∨ k = 3) (hX : VX σ v d) (w : VW d) (h : OW σ k l) {q : Nat} (hq : q < vr d) : ∃ σ', f_X4_printTo σ (8 * v + q) k = some (σ', ()) ∧ UL k σ σ' ∧ OW σ' k (l ++ rlt d q) := by
  have w8 := w.1.2.2
  have wr := w.2.2.2.2.2.2.1 q hq
  have tr : ∀ {s s' : St}, VX s v d → UL k s s' → VX s' v d := fun hx u => (KX_UL (v := v) u (by omega)).vx w.1 hx
  unfold f_X4_printTo
  obtain ⟨s1, e1, u1, o1⟩ := ow_word h (w := 18) (by decide)
  have X1 := tr hX u1
  obtain ⟨s2, e2, u2, o2⟩ := ow_addAll o1 (X1.2.2.2.2.1 q hq).2.2.1
  have X2 := tr X1 u2
  rw [e1, cl_mk, e2, cl_mk, (X2.2.2.2.2.1 q hq).2.1]
  have tail : ∀ (s3 : St) (l3 : List Nat), VX s3 v d → OW s3 k l3 → ∃ σ', f_X4_printTo_27 s3 (8 * v + q) k = some (σ', ()) ∧ UL k s3 σ' ∧ OW σ' k (l3 ++ (rT d q ++ (58 :: (sw (2 + rk d q) ++ [59])))) := by
    intro s3 l3 X3 o3
    unfold f_X4_printTo_27
    obtain ⟨s4, e4, u4, o4⟩ := ow_addAll o3 (X3.2.2.2.2.1 q hq).2.2.2
    have X4 := tr X3 u4
    obtain ⟨s5, e5, u5, o5⟩ := ow_c o4 (c := 58) (by omega) (x := 58) rfl
    have X5 := tr X4 u5
    obtain ⟨s6, e6, u6, o6⟩ := ow_word o5 (w := 2 + rk d q) (show 2 + rk d q < 20 by have := wr.1; omega)
    obtain ⟨s7, e7, u7, o7⟩ := ow_c o6 (c := 59) (by omega) (x := 59) rfl
    refine ⟨s7, ?_, ((u4.trans u5).trans u6).trans u7, by simpa using o7⟩
    rw [e4, cl_mk, e5, cl_mk, (X5.2.2.2.2.1 q hq).1, x_kw _ wr.1, cl_mk, e6, cl_mk, e7, cl_mk]
  unfold rlt
  by_cases c : rs d q = 0
  · rw [c, if_pos n00]
    obtain ⟨s3, e3, u3, o3⟩ := tail s2 _ X2 o2
    exact ⟨s3, e3, (u1.trans u2).trans u3, by simpa using o3⟩
  · rw [if_neg (fun e => c ((ln_eq0 (by have := wr.2.1; omega)).mp e)), if_neg c]
    obtain ⟨s3, e3, u3, o3⟩ := ow_c o2 (c := 42) (by omega) (x := 42) rfl
    obtain ⟨s4, e4, u4, o4⟩ := tail s3 _ (tr X2 u3) o3
    refine ⟨s4, ?_, ((u1.trans u2).trans u3).trans u4, by simpa using o4⟩
    rw [e3, cl_mk, e4]
theorem x_prules (hv : v < 8) (hk : k = 2 ∨ k = 3) (w : VW d) : ∀ (r q : Nat), q + r = vr d → ∀ (σ : St) (l : List Nat), VX σ v d → OW σ k l → ∀ m, r < m → ∃ σ', f_X7_printTo_72 m σ v k (nI q) = some (σ', ()) ∧ UL k σ σ' ∧ OW σ' k (l ++ rls d r q) := by
  have w8 := w.1.2.2
  have w40 := w.1.2.1
  have tr : ∀ {s s' : St}, VX s v d → UL k s s' → VX s' v d := fun hx u => (KX_UL (v := v) u (by omega)).vx w.1 hx
  intro r
  induction r with
  | zero =>
    intro q hq σ l hX h m hm
    obtain ⟨m, rfl⟩ : ∃ m', m = m' + 1 := ⟨m - 1, by omega⟩
    rw [f_X7_printTo_72.eq_2, hX.2.1, if_pos (nI_le (by omega) (by omega)), hX.2.2.1]
    unfold rls
    by_cases c : vl d = 40
    · rw [if_pos c]
      refine ⟨σ, ?_, UL.rfl', by simpa using h⟩
      rw [c, if_pos (by decide)]
    · rw [if_neg c, if_neg (show ¬ nI (vl d) = 40 from fun e => c ((ln_eq (b := 40) (by omega) (by omega)).mp e))]
      obtain ⟨s1, e1, u1, o1⟩ := ow_word h (w := 19) (by decide)
      obtain ⟨s2, e2, u2, o2⟩ := ow_num o1 (v := vl d) (by omega)
      obtain ⟨s3, e3, u3, o3⟩ := ow_c o2 (c := 59) (by omega) (x := 59) rfl
      refine ⟨s3, ?_, (u1.trans u2).trans u3, by simpa using o3⟩
      rw [e1, cl_mk, (tr hX u1).2.2.1, e2, cl_mk, e3, cl_mk]
  | succ r ih =>
    intro q hq σ l hX h m hm
    obtain ⟨m, rfl⟩ : ∃ m', m = m' + 1 := ⟨m - 1, by omega⟩
    obtain ⟨s1, e1, u1, o1⟩ := x_prule hv hk hX w h (q := q) (by omega)
    obtain ⟨s2, e2, u2, o2⟩ := ih (q + 1) (by omega) s1 _ (tr hX u1) o1 m (by omega)
    refine ⟨s2, ?_, u1.trans u2, by simpa [rls] using o2⟩
    rw [f_X7_printTo_72.eq_2, hX.2.1, if_neg (nI_ge (by omega) (by omega)), ck_nI (by omega) (by omega), e1, cl_mk, nI_1, e2]
theorem x_pbody (hv : v < 8) (hk : k = 2 ∨ k = 3) (w : VW d) : ∀ (r i : Nat), i + r = vn d → 0 < i → ∀ (σ : St) (l : List Nat), VX σ v d → OW σ k l → ∀ m, r < m → ∃ σ', f_X7_printTo_4 m σ v k (nI (vd d (i - 1))) (nI i) = some (σ', ()) ∧ UL k σ σ' ∧ OW σ' k (l ++ (btw (vd d (i - 1)) (nx d (i - 1)) ++ (mdl d r i ++ rls d (vr d) 0))) := by
  have w8 := w.1.2.2
  have w40 : vn d ≤ 40 := Nat.le_trans w.1.1 w.1.2.1
  have tr : ∀ {s s' : St}, VX s v d → UL k s s' → VX s' v d := fun hx u => (KX_UL (v := v) u (by omega)).vx w.1 hx
  intro r
  induction r with
  | zero =>
    intro i hi h0 σ l hX h m hm
    obtain ⟨m, rfl⟩ : ∃ m', m = m' + 1 := ⟨m - 1, by omega⟩
    have d4 := (w.2.1 (i - 1) (by omega)).2.1
    have enx : nx d (i - 1) = 0 := by
      unfold nx
      rw [if_neg (by omega)]
    rw [f_X7_printTo_4.eq_2, hX.1, if_pos (nI_le (by omega) (by omega)), if_neg (fun e => by have := (ln_le0 (by omega)).mp e; omega), enx]
    obtain ⟨s1, e1, u1, o1⟩ := x_btw h (a := vd d (i - 1)) (b := 0) (by omega) (by omega)
    have e1 : f_X7_printBetween σ k (nI (vd d (i - 1))) 0 = _ := e1
    obtain ⟨s2, e2, u2, o2⟩ := x_prules hv hk w (vr d) 0 (by omega) s1 _ (tr hX u1) o1 fl (by have := fl_big; omega)
    refine ⟨s2, ?_, u1.trans u2, by simpa [mdl] using o2⟩
    rw [e1, cl_mk]
    exact e2
  | succ r ih =>
    intro i hi h0 σ l hX h m hm
    obtain ⟨m, rfl⟩ : ∃ m', m = m' + 1 := ⟨m - 1, by omega⟩
    have d4 := (w.2.1 (i - 1) (by omega)).2.1
    have d4' := (w.2.1 i (by omega)).2.1
    have enx : nx d (i - 1) = vd d i := by
      unfold nx
      rw [if_pos (by omega), show i - 1 + 1 = i by omega]
    have fx := (hX.2.2.2.1 i (by omega)).1
    rw [f_X7_printTo_4.eq_2, hX.1, if_neg (nI_ge (by omega) (by omega)), if_neg (fun e => by have := (ln_le0 (by omega)).mp e; omega), ck_nI (by omega) (by omega), fx.2.2.2.2.1, enx]
    obtain ⟨s1, e1, u1, o1⟩ := x_btw h (a := vd d (i - 1)) (b := vd d i) (by omega) (by omega)
    have X1 := tr hX u1
    obtain ⟨s2, e2, u2, o2⟩ := x_phead hv hk X1 w o1 (j := i) (by omega)
    obtain ⟨s3, e3, u3, o3⟩ := ih (i + 1) (by omega) (by omega) s2 _ (tr X1 u2) o2 m (by omega)
    rw [Nat.add_sub_cancel] at e3 o3
    refine ⟨s3, ?_, (u1.trans u2).trans u3, by simpa [mdl] using o3⟩
    rw [e1, cl_mk]
    unfold f_X7_printTo_30
    rw [ck_nI (by omega) (by omega), ck_nI (by omega) (by omega), e2, cl_mk, (X1.2.2.2.1 i (by omega)).1.2.2.2.2.1, nI_1, e3]
theorem d0 (w : VW d) (h : 0 < vn d) : vd d 0 = 0 := by
  rcases (w.2.1 0 h).2.2 with ⟨_, b, _⟩ | ⟨h, a, _⟩
  · exact b
  · omega
theorem x_print (hv : v < 8) (hk : k = 2 ∨ k = 3) (hX : VX σ v d) (w : VW d) (h : OW σ k []) : ∃ σ', f_X7_printTo σ v k = some (σ', ()) ∧ UL k σ σ' ∧ OW σ' k (ptx d) := by
  have w8 := w.1.2.2
  have w40 : vn d ≤ 40 := Nat.le_trans w.1.1 w.1.2.1
  have tr : ∀ {s s' : St}, VX s v d → UL k s s' → VX s' v d := fun hx u => (KX_UL (v := v) u (by omega)).vx w.1 hx
  unfold f_X7_printTo
  rw [show fl = 20099 + 1 from rfl, f_X7_printTo_4.eq_2, hX.1]
  unfold ptx
  by_cases c : vn d = 0
  · rw [c, if_pos (by decide), if_pos (by decide)]
    obtain ⟨s2, e2, u2, o2⟩ := x_prules hv hk w (vr d) 0 (by omega) σ _ hX h fl (by have := fl_big; omega)
    exact ⟨s2, e2, u2, o2⟩
  · rw [if_neg (fun e => by have := (ln_le (b := 0) (by omega) (by omega)).mp e; omega), if_pos (by decide)]
    obtain ⟨s2, e2, u2, o2⟩ := x_phead hv hk hX w h (j := 0) (by omega)
    obtain ⟨s3, e3, u3, o3⟩ := x_pbody hv hk w (vn d - 1) 1 (by omega) (by omega) s2 _ (tr hX u2) o2 20099 (by omega)
    refine ⟨s3, ?_, u2.trans u3, ?_⟩
    · unfold f_X7_printTo_30
      rw [ck_0 (by omega) (by omega), ck_0 (by omega) (by omega), e2, cl_mk, (hX.2.2.2.1 0 (by omega)).1.2.2.2.2.1]
      exact e3
    · have e5 : vn d = (vn d - 1) + 1 := by omega
      rw [e5, mdl.eq_2]
      simpa using o3
end Pt
