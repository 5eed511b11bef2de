/-! print, the reference; both. -/
theorem asc_Nm {p : List Nat} (h : p = [] ∨ Nm p) : ∀ c, c ∈ p → c < 128 := by
  rcases h with rfl | h
  · exact fun c hc => nomatch hc
  · exact fun c hc => (NC_lt (h.2.2 c hc)).2
section Qt
variable {τ : St} {v : Nat} {d : Vd} {l : List Nat}
theorem m_c (h : MW τ l) {c : Nat} (hc : c < 128) {x : Int32} (hx : x = nI c) (hl : l.length + 1 ≤ 20000) : ∃ τ', f_X9_put τ x = some (τ', ()) ∧ UW τ τ' ∧ MW τ' (l ++ [c]) := by
  obtain ⟨t, a, b, e, _⟩ := m_put h hc hl
  rw [hx]
  exact ⟨t, a, b, e⟩
theorem m_depth_loop (hv : v < 8) (hM : VM τ v d) (w : VW d) : ∀ (e : Nat) (o : Option Nat), (∀ h, o = some h → h < vn d ∧ vd d h < e) → ∀ cnt m, e < m → f_X9_depthOf_15 m τ (nI v) (nI cnt) (oI o) = some (τ, nI (cnt + (match o with | none => 0 | some h => vd d h + 1))) := by
  have w40 : vn d ≤ 40 := Nat.le_trans w.1.1 w.1.2.1
  intro e
  induction e with
  | zero =>
    intro o ho cnt m hm
    obtain ⟨m, rfl⟩ : ∃ m', m = m' + 1 := ⟨m - 1, by omega⟩
    cases o with
    | none =>
      rw [f_X9_depthOf_15.eq_2, if_pos (show oI none = -2 from rfl)]
      rfl
    | some h => exact absurd (ho h rfl).2 (Nat.not_lt_zero _)
  | succ e ih =>
    intro o ho cnt m hm
    obtain ⟨m, rfl⟩ : ∃ m', m = m' + 1 := ⟨m - 1, by omega⟩
    cases o with
    | none =>
      rw [f_X9_depthOf_15.eq_2, if_pos (show oI none = -2 from rfl)]
      rfl
    | some h =>
      obtain ⟨h1, h2⟩ := ho h rfl
      rw [f_X9_depthOf_15.eq_2, if_neg (show ¬ oI (some h) = -2 from ln_m2 (by omega)), show oI (some h) = nI h from rfl, ln_40, nI_add, ck_nI (by omega) (by omega), (hM.2.2.2.1 h h1).1.2.2.2.1, nI_1]
      rcases (w.2.1 h h1).2.2 with ⟨a, b, _⟩ | ⟨p, a, b, c, _⟩
      · rw [ih (oH d h) (fun x hx => by rw [a] at hx; cases hx) (cnt + 1) m (by omega), a]
        show some (τ, nI (cnt + 1 + 0)) = some (τ, nI (cnt + (vd d h + 1)))
        rw [b]
      · rw [ih (oH d h) (fun x hx => by rw [b] at hx; cases hx; exact ⟨by omega, by omega⟩) (cnt + 1) m (by omega), b]
        show some (τ, nI (cnt + 1 + (vd d p + 1))) = some (τ, nI (cnt + (vd d h + 1)))
        congr 3
        omega
theorem m_depth (hv : v < 8) (hM : VM τ v d) (w : VW d) {f : Nat} (hf : f < vn d) : f_X9_depthOf τ (nI v) (nI f) = some (τ, nI (vd d f)) := by
  have w40 : vn d ≤ 40 := Nat.le_trans w.1.1 w.1.2.1
  have d4 := (w.2.1 f hf).2.1
  unfold f_X9_depthOf
  rw [ln_40, nI_add, ck_nI (by omega) (by omega), (hM.2.2.2.1 f hf).1.2.2.2.1]
  rcases (w.2.1 f hf).2.2 with ⟨a, b, _⟩ | ⟨p, a, b, c, _⟩
  · have := m_depth_loop hv hM w 0 (oH d f) (fun x hx => by rw [a] at hx; cases hx) 0 fl (by have := fl_big; omega)
    rw [a] at this ⊢
    refine Eq.trans this ?_
    rw [b]
    rfl
  · have := m_depth_loop hv hM w (vd d f) (oH d f) (fun x hx => by rw [b] at hx; cases hx; exact ⟨by omega, by omega⟩) 0 fl (by have := fl_big; omega)
    rw [b] at this ⊢
    refine Eq.trans this ?_
    show some (τ, nI (0 + (vd d p + 1))) = _
    congr 3
    omega
theorem US.uw {τ τ' : St} (h : US 7 τ τ') : UW τ τ' := ⟨fun f i _ => h.1 f i, fun f i a b => h.2 f i a (by omega)⟩
theorem path_asc {d : Vd} (w : WT d) {f : Nat} (hf : f < vn d) : ∀ c, c ∈ nP d f → c < 128 := fun c hc => by
  have := path_ch w f hf c hc
  unfold PC NC at this
  omega
theorem m_ppath (hv : v < 8) (hM : VM τ v d) (w : VW d) (h : MW τ l) {c : Nat} (hc : c < vn d) (hl : l.length + (nP d c).length ≤ 20000) : ∃ τ', f_X9_putPath τ (nI v) (nI c) = some (τ', ()) ∧ UW τ τ' ∧ MW τ' (l ++ nP d c) := by
  obtain ⟨t1, g1, g2, g3⟩ := m_spell (arr := 7) (Or.inl rfl) hv w hM hc
  have h64 := path_len64 w.2.1 hc
  have u2 : UW t1 (si t1 850 0 (nI (nP d c).length)) := by
    refine ⟨fun f i hf => ?_, fun f i _ _ => rfl⟩
    simp only [gi_si, gi_sr, gi_sg, gi_sa, gr_si, rr_sr, gr_sg, gr_sa, ga_si, ga_sr, ga_sg, ga_sa, true_and, and_true, false_and, and_false, Nat.reduceEqDiff, ↓reduceIte]
    rw [if_neg (by omega)]
  have h2 : MW (si t1 850 0 (nI (nP d c).length)) l := by
    refine ⟨?_, ?_, h.2.2⟩
    · simp only [gi_si, gi_sr, gi_sg, gi_sa, gr_si, rr_sr, gr_sg, gr_sa, ga_si, ga_sr, ga_sg, ga_sa, true_and, and_true, false_and, and_false, Nat.reduceEqDiff, ↓reduceIte]
      rw [g2.1]
      exact h.1
    · simp only [gi_si, gi_sr, gi_sg, gi_sa, gr_si, rr_sr, gr_sg, gr_sa, ga_si, ga_sr, ga_sg, ga_sa, true_and, and_true, false_and, and_false, Nat.reduceEqDiff, ↓reduceIte]
      rw [g2.2 2 2 (by omega) (by omega)]
      exact h.2.1
  obtain ⟨t3, p1, p2, p3⟩ := m_putb h2 (arr := 7) (o := 0) (p := nP d c) (by omega) (by show 0 + _ ≤ 128; omega) (by decide) (path_asc w.2.1 hc) g3 hl
  refine ⟨t3, ?_, (g2.uw.trans u2).trans p2, p3⟩
  unfold f_X9_putPath
  rw [g1, cl_mk]
  simp only [bnd]
  have e5 : gi (si t1 850 0 (nI (nP d c).length)) 850 0 = nI (nP d c).length := by simp [gi_si, gi_sr, gi_sg, gi_sa, gr_si, rr_sr, gr_sg, gr_sa, ga_si, ga_sr, ga_sg, ga_sa, true_and, and_true, false_and, and_false, Nat.reduceEqDiff, ↓reduceIte]
  have p1 : f_X9_putBytes (si t1 850 0 (nI (nP d c).length)) 7 0 (nI (nP d c).length) = _ := p1
  rw [e5, p1, cl_mk]
theorem m_popt (hv : v < 8) (hM : VM τ v d) (w : VW d) (h : MW τ l) {j : Nat} (hj : j < vn d) {o : Nat} (ho : o < 7) (hb : bt (vo d j) o = 1) {x : Nat} (hx : x < 128) (k152 : St → Int32 → Int32 → Int32 → Int32 → Option (St × Unit)) (hl : l.length + 1 + (ot d j o).length ≤ 20000) : ∃ τ', f_X9_putOptions_39 k152 τ (nI x) (nI v) (nI (40 * v + j)) (nI o) = k152 τ' (nI v) (nI (40 * v + j)) 0 (nI o) ∧ UW τ τ' ∧ MW τ' (l ++ (x :: ot d j o)) := by
  have w40 : vn d ≤ 40 := Nat.le_trans w.1.1 w.1.2.1
  have wf := w.2.2.2.2.1 j hj
  have tr : ∀ {s s' : St}, VM s v d → UW s s' → VM s' v d := fun hx u => (KM_UM (v := v) u.um).vm w hx
  unfold f_X9_putOptions_39 f_X9_putOptions_67 f_X9_putOptions_99 f_X9_putOptions_122
  unfold ot at hl
  rw [List.length_append] at hl
  obtain ⟨t1, e1, u1, o1⟩ := m_c h hx (x := nI x) rfl (by omega)
  obtain ⟨t2, e2, u2, o2⟩ := m_putw o1 (k := 10 + o) (by omega) (z_words.2 o ho) (by rw [List.length_append, List.length_singleton]; omega)
  rw [e1, cl_mk, ck_nI (by omega) (by omega), e2, cl_mk]
  have M2 := tr (tr hM u1) u2
  by_cases c3 : o < 3
  · rw [if_pos (show nI o ≤ 2 from nI_le (b := 2) (by omega) (by omega))]
    rw [if_neg (show ¬ nI o = 3 from fun e => by have := (ln_eq (b := 3) (by omega) (by omega)).mp e; omega), if_neg (show ¬ nI o = 4 from fun e => by have := (ln_eq (b := 4) (by omega) (by omega)).mp e; omega), if_neg (show ¬ nI o = 6 from fun e => by have := (ln_eq (b := 6) (by omega) (by omega)).mp e; omega), if_neg (show ¬ nI o = 5 from fun e => by have := (ln_eq (b := 5) (by omega) (by omega)).mp e; omega)]
    refine ⟨t2, rfl, u1.trans u2, ?_⟩
    unfold ot
    rw [if_pos c3]
    simpa using o2
  · rw [if_neg (show ¬ nI o ≤ 2 from nI_ge (a := 2) (by omega) (by omega))]
    rw [if_neg c3, List.length_cons] at hl
    obtain ⟨t3, e3, u3, o3⟩ := m_c o2 (c := 61) (by omega) (x := 61) rfl (by simp only [List.length_append, List.length_singleton]; omega)
    rw [e3, cl_mk]
    have M3 := tr M2 u3
    have fm := M3.2.2.2.1 j hj
    have e0 : o = 3 ∨ o = 4 ∨ o = 5 ∨ o = 6 := by omega
    have fin : ∀ (t4 : St) (p : List Nat), ov d j o = p → UW t3 t4 → MW t4 (l ++ [x] ++ sw (10 + o) ++ [61] ++ p) → UW τ t4 ∧ MW t4 (l ++ (x :: ot d j o)) := by
      intro t4 p hp u4 o4
      refine ⟨((u1.trans u2).trans u3).trans u4, ?_⟩
      unfold ot
      rw [if_neg c3, hp]
      simpa using o4
    have hlen : ∀ p, ov d j o = p → (l ++ [x] ++ sw (10 + o) ++ [61]).length + p.length ≤ 20000 := by
      intro p hp
      rw [← hp]
      simp only [List.length_append, List.length_singleton]
      omega
    rcases e0 with rfl | rfl | rfl | rfl
    · rw [if_pos (by decide), ck_nI (by omega) (by omega), fm.1.2.2.1]
      cases ez : oZ d j with
      | none => exact absurd ez (wf.2.2.2.2.2.2.1.mp hb)
      | some z =>
        have hz := wf.2.2.2.2.2.1 z ez
        have hov : ov d j 3 = nut z := by simp [ov, ez]
        obtain ⟨t4, e4, u4, o4⟩ := m_putn o3 hz (hlen _ hov)
        have e4 : f_X9_putNumber t3 (oI (some z)) = _ := e4
        rw [e4, cl_mk]
        exact ⟨t4, rfl, fin t4 _ hov u4 o4⟩
    · rw [if_neg (by decide), if_pos (by decide), if_pos (by decide), ck_nI (by omega) (by omega), fm.2.1]
      cases ec : oC d j with
      | none => exact absurd ec (wf.2.2.2.2.2.2.2.1.mp hb)
      | some q =>
        have hq := wf.2.2.2.1 q ec
        have hov : ov d j 4 = nP d q := by simp [ov, ec, opP]
        obtain ⟨t4, e4, u4, o4⟩ := m_ppath hv M3 w o3 hq (hlen _ hov)
        have e4 : f_X9_putPath t3 (nI v) (oI (some q)) = _ := e4
        rw [e4, cl_mk]
        exact ⟨t4, rfl, fin t4 _ hov u4 o4⟩
    · rw [if_neg (by decide), if_neg (by decide), if_neg (by decide), if_pos (by decide), ck_nI (by omega) (by omega), fm.1.2.2.2.2.2.2.1, ln_12]
      have hov : ov d j 5 = nB d j := by simp [ov]
      have hle := Nm.le wf.2.2.1
      obtain ⟨t4, e4, u4, o4⟩ := m_putb o3 (arr := 4) (o := 12 * (40 * v + j)) (p := nB d j) (by omega) (by show _ ≤ 3840; omega) (by decide) (asc_Nm wf.2.2.1) fm.1.2.2.2.2.2.2.2 (hlen _ hov)
      rw [e4, cl_mk]
      exact ⟨t4, rfl, fin t4 _ hov u4 o4⟩
    · rw [if_neg (by decide), if_neg (by decide), if_pos (by decide), if_neg (by decide), ck_nI (by omega) (by omega), fm.2.2]
      cases ec : oO d j with
      | none => exact absurd ec (wf.2.2.2.2.2.2.2.2.2.1.mp hb)
      | some q =>
        have hq := wf.2.2.2.2.1 q ec
        have hov : ov d j 6 = nP d q := by simp [ov, ec, opP]
        obtain ⟨t4, e4, u4, o4⟩ := m_ppath hv M3 w o3 hq (hlen _ hov)
        have e4 : f_X9_putPath t3 (nI v) (oI (some q)) = _ := e4
        rw [e4, cl_mk]
        exact ⟨t4, rfl, fin t4 _ hov u4 o4⟩
theorem m_popts (hv : v < 8) (w : VW d) {j : Nat} (hj : j < vn d) : ∀ (r o : Nat), o + r = 7 → ∀ (τ : St) (l : List Nat) (f : Bool), VM τ v d → MW τ l → l.length + (ops d j r o f).length ≤ 20000 → ∀ m, r < m → ∃ τ', f_X9_putOptions_5 m τ (nI v) (nI (40 * v + j)) (bI f) (nI o) = some (τ', ()) ∧ UW τ τ' ∧ MW τ' (l ++ ops d j r o f) := by
  have w40 : vn d ≤ 40 := Nat.le_trans w.1.1 w.1.2.1
  have wf := w.2.2.2.2.1 j hj
  intro r
  induction r with
  | zero =>
    intro o ho τ l f hM h hl m hm
    obtain ⟨m, rfl⟩ : ∃ m', m = m' + 1 := ⟨m - 1, by omega⟩
    rw [f_X9_putOptions_5.eq_2, if_pos (show (7 : Int32) ≤ nI o from nI_le (a := 7) (by omega) (by omega))]
    cases f with
    | true =>
      refine ⟨τ, ?_, UW.refl' τ, by simpa [ops] using h⟩
      rw [if_neg (by decide)]
    | false =>
      obtain ⟨s1, e1, u1, o1⟩ := m_c h (c := 41) (by omega) (x := 41) rfl (by simpa [ops] using hl)
      refine ⟨s1, ?_, u1, by simpa [ops] using o1⟩
      rw [if_pos (by decide), e1, cl_mk]
  | succ r ih =>
    intro o ho τ l f hM h hl m hm
    obtain ⟨m, rfl⟩ : ∃ m', m = m' + 1 := ⟨m - 1, by omega⟩
    have fm := (hM.2.2.2.1 j hj).1
    obtain ⟨b1, b2⟩ := bitT (vo d j) wf.2.1 o (by omega)
    rw [f_X9_putOptions_5.eq_2, if_neg (show ¬ (7 : Int32) ≤ nI o from nI_ge (b := 7) (by omega) (by omega)), ck_nI (by omega) (by omega), fm.2.1, b1]
    rw [ops.eq_2] at hl ⊢
    by_cases e : bt (vo d j) o = 1
    · rw [if_pos e] at hl ⊢
      rw [List.length_cons, List.length_append] at hl
      rw [e, if_pos (by decide)]
      have hx : (if f = true then 40 else 44) < 128 := by split <;> omega
      obtain ⟨t1, e1, u1, o1⟩ := m_popt hv hM w h hj (show o < 7 by omega) e hx (f_X9_putOptions_152 (f_X9_putOptions_5 m)) (by omega)
      obtain ⟨t2, e2, u2, o2⟩ := ih (o + 1) (by omega) t1 _ false ((KM_UM (v := v) u1.um).vm w hM) o1 (by rw [List.length_append, List.length_cons]; omega) m (by omega)
      refine ⟨t2, ?_, u1.trans u2, by simpa using o2⟩
      have e2 : f_X9_putOptions_5 m t1 (nI v) (nI (40 * v + j)) 0 (nI (o + 1)) = _ := e2
      have e1' : f_X9_putOptions_152 (f_X9_putOptions_5 m) t1 (nI v) (nI (40 * v + j)) 0 (nI o) = some (t2, ()) := by
        unfold f_X9_putOptions_152
        rw [nI_1, e2]
      rw [e1'] at e1
      cases f with
      | true =>
        rw [if_neg (by decide)]
        exact e1
      | false =>
        rw [if_pos (by decide)]
        exact e1
    · rw [if_neg e] at hl ⊢
      have : bt (vo d j) o = 0 := by omega
      rw [this, if_neg (by decide)]
      unfold f_X9_putOptions_152
      rw [nI_1]
      exact ih (o + 1) (by omega) τ l f hM h hl m (by omega)
theorem m_close {a b : Nat} (ha : a < 1000) (hb : b ≤ a) (k : St → Int32 → Int32 → Int32 → Option (St × Int32)) (x y : Int32) : ∀ (r i : Nat), b + r = i → ∀ (τ : St) (l : List Nat), MW τ l → i ≤ a → l.length + 2 * r ≤ 20000 → ∀ m, r < m → ∃ τ', f_X9_print_149 k m τ x (nI i) y (nI b) = k τ' x (nI b) y ∧ UW τ τ' ∧ MW τ' (l ++ rp r) := by
  intro r
  induction r with
  | zero =>
    intro i hi τ l h hia hl m hm
    obtain ⟨m, rfl⟩ : ∃ m', m = m' + 1 := ⟨m - 1, by omega⟩
    have : i = b := by omega
    subst this
    refine ⟨τ, ?_, UW.refl' τ, by simpa [rp] using h⟩
    rw [f_X9_print_149.eq_2, if_pos (nI_le (by omega) (by omega))]
  | succ r ih =>
    intro i hi τ l h hia hl m hm
    obtain ⟨m, rfl⟩ : ∃ m', m = m' + 1 := ⟨m - 1, by omega⟩
    obtain ⟨s1, e1, u1, o1⟩ := m_c h (c := 125) (by omega) (x := 125) rfl (by omega)
    obtain ⟨s2, e2, u2, o2⟩ := m_c o1 (c := 59) (by omega) (x := 59) rfl (by rw [List.length_append, List.length_singleton]; omega)
    obtain ⟨s3, e3, u3, o3⟩ := ih (i - 1) (by omega) s2 _ o2 (by omega) (by simp only [List.length_append, List.length_singleton]; omega) m (by omega)
    refine ⟨s3, ?_, (u1.trans u2).trans u3, by simpa [rp] using o3⟩
    rw [f_X9_print_149.eq_2, if_neg (nI_ge (by omega) (by omega)), e1, cl_mk, e2, cl_mk, ln_m1 (by omega), e3]
theorem nx_le (w : VW d) {f : Nat} (hf : f < vn d) : nx d f ≤ vd d f + 1 ∧ nx d f ≤ 4 := by
  unfold nx
  split
  · rename_i h1
    refine ⟨?_, (w.2.1 (f + 1) h1).2.1⟩
    rcases (w.2.1 (f + 1) h1).2.2 with ⟨_, b, _⟩ | ⟨h, a, b, c, _⟩
    · omega
    · by_cases e : h = f
      · subst e
        omega
      · have := w.2.2.1 (f + 1) h1 h b f (by omega) (by omega)
        omega
  · omega
theorem rp_len : ∀ n, (rp n).length = 2 * n := by
  intro n
  induction n with
  | zero => rfl
  | succ n ih =>
    simp only [rp, List.length_cons, ih]
    omega
theorem m_prule (hv : v < 8) (hM : VM τ v d) (w : VW d) (h : MW τ l) {q : Nat} (hq : q < vr d) (hl : l.length + (rlt d q).length ≤ 20000) (n : Nat) : ∃ τ', (cl (f_X9_putWord τ (1920298085 : Int64)) fun s26 _u206 =>
      cl (f_X9_put s26 32) fun s27 _u212 =>
      ck ((8 * nI v) + nI q) 64 fun j28 =>
      cl (f_X9_putBytes s27 5 (12 * ((8 * nI v) + nI q)) (ga s27 1 11 j28)) fun s29 _u232 =>
      ck ((8 * nI v) + nI q) 64 fun j30 =>
      if (ga s29 4 0 j30) = 0 then (
        f_X9_print_251 (f_X9_print_182 n) s29 (nI v) (nI q) ((8 * nI v) + nI q)
      ) else (
        cl (f_X9_put s29 42) fun s31 _u248 =>
        f_X9_print_251 (f_X9_print_182 n) s31 (nI v) (nI q) ((8 * nI v) + nI q)
      )) = f_X9_print_182 n τ' (nI v) (nI (q + 1)) ∧ UW τ τ' ∧ MW τ' (l ++ rlt d q) := by
  have w8 := w.1.2.2
  have wr := w.2.2.2.2.2.2.1 q hq
  have tr : ∀ {s s' : St}, VM s v d → UW s s' → VM s' v d := fun hx u => (KM_UM (v := v) u.um).vm w hx
  have e18 : sw 18 = sw 0 ++ [32] := by decide
  unfold rlt at hl
  simp only [List.length_append, List.length_cons, e18, List.length_nil] at hl
  have lF := Nm.le wr.2.2.1
  have lT := Nm.le wr.2.2.2.1
  obtain ⟨t1, e1, u1, o1⟩ := m_putw h (k := 0) (by omega) z_rule (by omega)
  obtain ⟨t2, e2, u2, o2⟩ := m_c o1 (c := 32) (by omega) (x := 32) rfl (by simp only [List.length_append, List.length_singleton]; omega)
  have M2 := tr (tr hM u1) u2
  have rm2 := M2.2.2.2.2 q hq
  obtain ⟨t3, e3, u3, o3⟩ := m_putb o2 (arr := 5) (o := 12 * (8 * v + q)) (p := rF d q) (by omega) (by show _ ≤ 768; omega) (by decide) (asc_Nm wr.2.2.1) rm2.2.2.2.1 (by simp only [List.length_append, List.length_singleton]; omega)
  have M3 := tr M2 u3
  have rm3 := M3.2.2.2.2 q hq
  rw [e1, cl_mk, e2, cl_mk, ln_8, nI_add, ck_nI (by omega) (by omega), rm2.2.2.1, ln_12, e3, cl_mk, ck_nI (by omega) (by omega), rm3.2.1]
  have tail : ∀ (t4 : St) (l4 : List Nat), VM t4 v d → MW t4 l4 → l4.length + (rT d q).length + (sw (2 + rk d q)).length + 2 ≤ 20000 → ∃ τ', f_X9_print_251 (f_X9_print_182 n) t4 (nI v) (nI q) (nI (8 * v + q)) = f_X9_print_182 n τ' (nI v) (nI (q + 1)) ∧ UW t4 τ' ∧ MW τ' (l4 ++ (rT d q ++ (58 :: (sw (2 + rk d q) ++ [59])))) := by
    intro t4 l4 M4 o4 hl4
    have rm4 := M4.2.2.2.2 q hq
    unfold f_X9_print_251
    obtain ⟨t5, e5, u5, o5⟩ := m_putb o4 (arr := 6) (o := 12 * (8 * v + q)) (p := rT d q) (by omega) (by show _ ≤ 768; omega) (by decide) (asc_Nm wr.2.2.2.1) rm4.2.2.2.2.2 (by omega)
    obtain ⟨t6, e6, u6, o6⟩ := m_c o5 (c := 58) (by omega) (x := 58) rfl (by simp only [List.length_append, List.length_singleton]; omega)
    have rm6 := (tr (tr M4 u5) u6).2.2.2.2 q hq
    obtain ⟨t7, e7, u7, o7⟩ := m_putw o6 (k := 2 + rk d q) (by have := wr.1; omega) (z_words.1 _ wr.1) (by simp only [List.length_append, List.length_singleton]; omega)
    obtain ⟨t8, e8, u8, o8⟩ := m_c o7 (c := 59) (by omega) (x := 59) rfl (by simp only [List.length_append, List.length_singleton]; omega)
    refine ⟨t8, ?_, ((u5.trans u6).trans u7).trans u8, by simpa using o8⟩
    rw [ck_nI (by omega) (by omega), rm4.2.2.2.2.1, ln_12, e5, cl_mk, e6, cl_mk, ck_nI (by omega) (by omega), rm6.1, ck_nI wr.1 (by omega), e7, cl_mk, e8, cl_mk, nI_1]
  unfold rlt
  rw [e18]
  by_cases c : rs d q = 0
  · rw [if_pos c] at hl ⊢
    rw [c, if_pos n00]
    obtain ⟨t4, e4, u4, o4⟩ := tail t3 _ M3 o3 (by simp only [List.length_append, List.length_singleton, List.length_nil] at hl ⊢; omega)
    exact ⟨t4, e4, ((u1.trans u2).trans u3).trans u4, by simpa using o4⟩
  · rw [if_neg c] at hl ⊢
    rw [if_neg (fun e => c ((ln_eq0 (by have := wr.2.1; omega)).mp e))]
    obtain ⟨t4, e4, u4, o4⟩ := m_c o3 (c := 42) (by omega) (x := 42) rfl (by simp only [List.length_append, List.length_singleton] at hl ⊢; omega)
    obtain ⟨t5, e5, u5, o5⟩ := tail t4 _ (tr M3 u4) o4 (by simp only [List.length_append, List.length_singleton] at hl ⊢; omega)
    refine ⟨t5, ?_, (((u1.trans u2).trans u3).trans u4).trans u5, by simpa using o5⟩
    rw [e4, cl_mk, e5]
theorem m_prules (hv : v < 8) (w : VW d) : ∀ (r q : Nat), q + r = vr d → ∀ (τ : St) (l : List Nat), VM τ v d → MW τ l → l.length + (rls d r q).length ≤ 20000 → ∀ m, r < m → ∃ τ', f_X9_print_182 m τ (nI v) (nI q) = f_X9_print_345 τ' ∧ UW τ τ' ∧ MW τ' (l ++ rls d r q) := by
  have w8 := w.1.2.2
  have w40 := w.1.2.1
  have tr : ∀ {s s' : St}, VM s v d → UW s s' → VM s' v d := fun hx u => (KM_UM (v := v) u.um).vm w hx
  intro r
  induction r with
  | zero =>
    intro q hq τ l hM h hl m hm
    obtain ⟨m, rfl⟩ : ∃ m', m = m' + 1 := ⟨m - 1, by omega⟩
    rw [f_X9_print_182.eq_2, ck_nI (by omega) (by omega), hM.2.1, if_pos (nI_le (by omega) (by omega)), ck_nI (by omega) (by omega), hM.2.2.1]
    unfold rls at hl ⊢
    by_cases c : vl d = 40
    · rw [if_pos c]
      refine ⟨τ, ?_, UW.refl' τ, by simpa using h⟩
      rw [c, if_pos (by decide)]
    · rw [if_neg c] at hl ⊢
      have e19 : sw 19 = sw 1 ++ [32] := by decide
      rw [e19] at hl ⊢
      simp only [List.length_append, List.length_singleton] at hl
      rw [if_neg (show ¬ nI (vl d) = 40 from fun e => c ((ln_eq (b := 40) (by omega) (by omega)).mp e))]
      obtain ⟨s1, e1, u1, o1⟩ := m_putw h (k := 1) (by omega) z_limit (by omega)
      obtain ⟨s2, e2, u2, o2⟩ := m_c o1 (c := 32) (by omega) (x := 32) rfl (by simp only [List.length_append, List.length_singleton]; omega)
      obtain ⟨s3, e3, u3, o3⟩ := m_putn o2 (v := vl d) (by omega) (by simp only [List.length_append, List.length_singleton]; omega)
      obtain ⟨s4, e4, u4, o4⟩ := m_c o3 (c := 59) (by omega) (x := 59) rfl (by simp only [List.length_append, List.length_singleton]; omega)
      refine ⟨s4, ?_, ((u1.trans u2).trans u3).trans u4, by simpa using o4⟩
      rw [e1, cl_mk, e2, cl_mk, ck_nI (by omega) (by omega), (tr (tr hM u1) u2).2.2.1, e3, cl_mk, e4, cl_mk]
  | succ r ih =>
    intro q hq τ l hM h hl m hm
    obtain ⟨m, rfl⟩ : ∃ m', m = m' + 1 := ⟨m - 1, by omega⟩
    rw [rls.eq_2, List.length_append] at hl
    obtain ⟨s1, e1, u1, o1⟩ := m_prule hv hM w h (q := q) (by omega) (by omega) m
    obtain ⟨s2, e2, u2, o2⟩ := ih (q + 1) (by omega) s1 _ (tr hM u1) o1 (by rw [List.length_append]; omega) m (by omega)
    refine ⟨s2, ?_, u1.trans u2, by simpa [rls] using o2⟩
    rw [f_X9_print_182.eq_2, ck_nI (by omega) (by omega), hM.2.1, if_neg (nI_ge (by omega) (by omega))]
    refine Eq.trans e1 e2
theorem m_pbody (hv : v < 8) (w : VW d) : ∀ (r f : Nat), f + r = vn d → ∀ (τ : St) (l : List Nat) (x : Int32), VM τ v d → MW τ l → (0 < r → x = nI (vd d f)) → l.length + (mdl d r f).length + (rls d (vr d) 0).length ≤ 20000 → ∀ m, r < m → ∃ τ', f_X9_print_22 m τ (nI v) x (nI f) = f_X9_print_345 τ' ∧ UW τ τ' ∧ MW τ' (l ++ (mdl d r f ++ rls d (vr d) 0)) := by
  have w8 := w.1.2.2
  have w40 : vn d ≤ 40 := Nat.le_trans w.1.1 w.1.2.1
  have tr : ∀ {s s' : St}, VM s v d → UW s s' → VM s' v d := fun hx u => (KM_UM (v := v) u.um).vm w hx
  intro r
  induction r with
  | zero =>
    intro f hf τ l x hM h hx hl m hm
    obtain ⟨m, rfl⟩ : ∃ m', m = m' + 1 := ⟨m - 1, by omega⟩
    obtain ⟨s1, e1, u1, o1⟩ := m_prules hv w (vr d) 0 (by omega) τ l hM h (by simp only [mdl, List.length_nil] at hl; omega) fl (by have := fl_big; omega)
    refine ⟨s1, ?_, u1, by simpa [mdl] using o1⟩
    rw [f_X9_print_22.eq_2, ck_nI (by omega) (by omega), hM.1, if_pos (nI_le (by omega) (by omega))]
    exact e1
  | succ r ih =>
    intro f hf τ l x hM h hx hl m hm
    obtain ⟨m, rfl⟩ : ∃ m', m = m' + 1 := ⟨m - 1, by omega⟩
    have hff : f < vn d := by omega
    have wf := w.2.2.2.2.1 f hff
    have wt := w.2.1 f hff
    obtain ⟨nx1, nx2⟩ := nx_le w hff
    have lN := wt.1.2.1
    rw [mdl.eq_2] at hl
    unfold hd at hl
    simp only [List.length_append, List.length_cons] at hl
    have fm := (hM.2.2.2.1 f hff).1
    obtain ⟨t1, e1, u1, o1⟩ := m_putb h (arr := 3) (o := 12 * (40 * v + f)) (p := nN d f) (by omega) (by show _ ≤ 3840; omega) (by decide) (asc_Nm (Or.inr wt.1)) fm.2.2.2.2.2.1 (by omega)
    obtain ⟨t2, e2, u2, o2⟩ := m_c o1 (c := 58) (by omega) (x := 58) rfl (by simp only [List.length_append, List.length_singleton]; omega)
    have M2 := tr (tr hM u1) u2
    obtain ⟨t3, e3, u3, o3⟩ := m_putw o2 (k := 2 + vk d f) (by have := wf.1; omega) (z_words.1 _ wf.1) (by simp only [List.length_append, List.length_singleton]; omega)
    have M3 := tr M2 u3
    obtain ⟨t4, e4, u4, o4⟩ := m_popts hv w hff 7 0 (by omega) t3 _ true M3 o3 (by simp only [List.length_append, List.length_singleton]; omega) fl (by have := fl_big; omega)
    have M4 := tr M3 u4
    have e4' : f_X9_putOptions t3 (nI v) (nI (40 * v + f)) = some (t4, ()) := e4
    -- what comes between
    have key : f_X9_print_117 (f_X9_print_22 m) t4 (nI (nx d f)) (nI v) (nI (vd d f)) (nI f) = f_X9_print_117 (f_X9_print_22 m) t4 (nI (nx d f)) (nI v) (nI (vd d f)) (nI f) → ∃ τ', f_X9_print_117 (f_X9_print_22 m) t4 (nI (nx d f)) (nI v) (nI (vd d f)) (nI f) = f_X9_print_345 τ' ∧ UW t4 τ' ∧ MW τ' (l ++ nN d f ++ [58] ++ sw (2 + vk d f) ++ ops d f 7 0 true ++ (btw (vd d f) (nx d f) ++ (mdl d r (f + 1) ++ rls d (vr d) 0))) := by
      intro _
      have d4 := wt.2.1
      unfold f_X9_print_117 f_X9_print_173
      rw [m_depth hv M4 w hff, cl_mk]
      unfold btw at hl ⊢
      by_cases c : nx d f ≤ vd d f
      · rw [if_pos c] at hl ⊢
        rw [if_pos (nI_le c (by omega))]
        simp only [List.length_cons, rp_len] at hl
        obtain ⟨t5, e5, u5, o5⟩ := m_c o4 (c := 59) (by omega) (x := 59) rfl (by simp only [List.length_append, List.length_singleton]; omega)
        obtain ⟨t6, e6, u6, o6⟩ := m_close (a := vd d f) (b := nx d f) (by omega) c (f_X9_print_173 (f_X9_print_22 m)) (nI v) (nI f) (vd d f - nx d f) (vd d f) (by omega) t5 _ o5 (Nat.le_refl _) (by simp only [List.length_append, List.length_singleton]; omega) fl (by have := fl_big; omega)
        obtain ⟨t7, e7, u7, o7⟩ := ih (f + 1) (by omega) t6 _ (nI (nx d f)) (tr (tr M4 u5) u6) o6 (fun h0 => by unfold nx; rw [if_pos (by omega)]) (by simp only [List.length_append, List.length_singleton, rp_len]; omega) m (by omega)
        refine ⟨t7, ?_, (u5.trans u6).trans u7, by simpa using o7⟩
        rw [e5, cl_mk]
        refine Eq.trans e6 ?_
        unfold f_X9_print_173
        rw [nI_1, e7]
      · rw [if_neg c] at hl ⊢
        rw [if_neg (nI_ge (by omega) (by omega))]
        simp only [List.length_cons, List.length_nil] at hl
        obtain ⟨t5, e5, u5, o5⟩ := m_c o4 (c := 123) (by omega) (x := 123) rfl (by simp only [List.length_append, List.length_singleton]; omega)
        obtain ⟨t7, e7, u7, o7⟩ := ih (f + 1) (by omega) t5 _ (nI (vd d f + 1)) (tr M4 u5) o5 (fun h0 => by
          have : nx d f = vd d (f + 1) := by unfold nx; rw [if_pos (by omega)]
          congr 1
          omega) (by simp only [List.length_append, List.length_singleton]; omega) m (by omega)
        refine ⟨t7, ?_, u5.trans u7, by simpa using o7⟩
        rw [e5, cl_mk, nI_1, nI_1, e7]
    obtain ⟨t9, e9, u9, o9⟩ := key rfl
    refine ⟨t9, ?_, (((u1.trans u2).trans u3).trans u4).trans u9, ?_⟩
    · rw [f_X9_print_22.eq_2, ck_nI (by omega) (by omega), hM.1, if_neg (nI_ge hff (by omega)), ln_40, nI_add, ck_nI (by omega) (by omega), fm.2.2.2.2.1, ln_12, e1, cl_mk, e2, cl_mk, ck_nI (by omega) (by omega), (M2.2.2.2.1 f hff).1.1, ck_nI wf.1 (by omega), e3, cl_mk, e4', cl_mk, ck_nI (by omega) (by omega), M4.1, nI_1, hx (by omega)]
      by_cases c : f + 1 < vn d
      · rw [if_neg (nI_ge c (by omega)), m_depth hv M4 w c, cl_mk]
        have : nx d f = vd d (f + 1) := by unfold nx; rw [if_pos c]
        rw [← this]
        exact e9
      · rw [if_pos (nI_le (by omega) (by omega))]
        have : nx d f = 0 := by unfold nx; rw [if_neg c]
        rw [this] at e9
        exact e9
    · rw [mdl.eq_2]
      unfold hd
      simpa using o9
end Qt
