/-! A path is the same path on both sides; find. -/
theorem split46 {a a' b b' : List Nat} (h : a ++ 46 :: b = a' ++ 46 :: b') (hb : 46 ∉ b) (hb' : 46 ∉ b') : a = a' ∧ b = b' := by
  rcases List.append_eq_append_iff.mp h with ⟨t, h1, h2⟩ | ⟨t, h1, h2⟩
  · cases t with
    | nil =>
      simp at h1 h2
      exact ⟨h1.symm, h2⟩
    | cons x t =>
      simp at h2
      exact absurd (h2.2 ▸ List.mem_append_right t (List.mem_cons_self)) hb
  · cases t with
    | nil =>
      simp at h1 h2
      exact ⟨h1, h2.symm⟩
    | cons x t =>
      simp at h2
      exact absurd (h2.2 ▸ List.mem_append_right t (List.mem_cons_self)) hb'
theorem Nm.no {l : List Nat} (h : Nm l) : 46 ∉ l := fun hm => by
  have := h.2.2 46 hm
  unfold NC at this
  omega
section Fd
variable {σ τ : St} {tx : List Nat} {c : Nat} {ks ps ls : Nat → Nat}
theorem pj_snoc : ∀ (n : Nat), 0 < n → ∀ t, pj tx ps ls (n + 1) t = pj tx ps ls n t ++ 46 :: wrd tx (ps (t + 2 * n)) (ls (t + 2 * n)) := by
  intro n
  induction n with
  | zero => exact fun h => absurd h (Nat.lt_irrefl 0)
  | succ n ih =>
    intro _ t
    cases n with
    | zero => rfl
    | succ n =>
      have := ih (by omega) (t + 2)
      have e1 : pj tx ps ls (n + 1 + 1 + 1) t = wrd tx (ps t) (ls t) ++ 46 :: pj tx ps ls (n + 1 + 1) (t + 2) := rfl
      have e2 : pj tx ps ls (n + 1 + 1) t = wrd tx (ps t) (ls t) ++ 46 :: pj tx ps ls (n + 1) (t + 2) := rfl
      rw [e1, e2, this]
      have e3 : t + 2 + 2 * (n + 1) = t + 2 * (n + 1 + 1) := by omega
      rw [e3]
      simp only [List.append_assoc, List.cons_append]
theorem mt_eq {d : Vd} (wt : WT d) (w : TKW tx c ks ps ls) {first : Nat} : ∀ (n : Nat), 0 < n → isP c ks n first → ∀ j, j < vn d → (mt d tx ps ls first n (some j) = true ↔ nP d j = pj tx ps ls n first) := by
  intro n
  induction n with
  | zero => exact fun h => absurd h (Nat.lt_irrefl 0)
  | succ n ih =>
    intro _ hP j hj
    have hw := hP.1 n (by omega)
    have hN := (w.nm (t := first + 2 * n) (by omega) hw.2).no
    have hNj := (wt j hj).1.no
    unfold mt
    simp only [Bool.and_eq_true, decide_eq_true_eq]
    cases n with
    | zero =>
      unfold mt
      show _ ↔ nP d j = wrd tx (ps first) (ls first)
      rw [Nat.mul_zero, Nat.add_zero] at hN ⊢
      rcases (wt j hj).2.2 with ⟨a, _, b⟩ | ⟨h, a, b, _, e⟩
      · rw [b]
        simp [a]
      · rw [b, e]
        constructor
        · intro hh
          simp at hh
        · intro hh
          exact absurd (hh ▸ (by simp)) hN
    | succ n =>
      rw [pj_snoc (n + 1) (by omega)]
      rcases (wt j hj).2.2 with ⟨a, _, b⟩ | ⟨h, a, b, _, e⟩
      · rw [a, b]
        constructor
        · intro hh
          exact absurd hh.2 (by simp [mt])
        · intro hh
          exact absurd (hh ▸ (by simp)) hNj
      · rw [b, e, ih (by omega) ⟨fun i hi => hP.1 i (by omega), fun i hi => hP.2 i (by omega)⟩ h (by omega)]
        constructor
        · rintro ⟨x, y⟩
          rw [x, y]
        · intro hh
          have := split46 hh hNj hN
          exact ⟨this.2, this.1⟩
/-- the field of a path -/
def fop (d : Vd) (p : List Nat) : Option Nat := fm (fun j => decide (nP d j = p)) (vn d) 0
theorem m_fof {v : Nat} {d : Vd} (hv : v < 8) (hM : PM τ v d) (h40 : vn d ≤ 40) (wt : WT d) (hT : TKM τ tx c ks ps ls) (w : TKW tx c ks ps ls) {first n : Nat} (h0 : 0 < n) (hP : isP c ks n first) : f_X9_fieldOf τ (nI v) (nI first) (nI n) = some (τ, oI (fop d (pj tx ps ls n first))) := by
  have hc := w.cc
  have := hP.1 (n - 1) (by omega)
  have h := m_fof_loop hv hM h40 wt hT w h0 (show first + 2 * n ≤ c + 1 by omega) (vn d) 0 (by omega) fl (by have := fl_big; omega)
  unfold f_X9_fieldOf fop
  refine Eq.trans h ?_
  rw [fm_congr (q := fun j => decide (nP d j = pj tx ps ls n first))]
  intro j _ hj
  have := mt_eq wt w n h0 hP j (by omega)
  rw [Bool.eq_iff_iff, this]
  simp
theorem x_fofp {v k : Nat} {d : Vd} {p : List Nat} (hX : PX σ v d) (h40 : vn d ≤ 40) (hp : LX σ k p) : f_X7_fieldOf σ v k (nI p.length) = some (σ, oI (fop d p)) := by
  rw [x_fof hX h40 hp (Nat.le_refl _), List.take_length]
  rfl
/-- all but what a path on the tape uses -/
def UP (σ σ' : St) : Prop := σ'.2.1 = σ.2.1 ∧ (∀ f i, ¬ f = 504 → ¬ ((f = 201 ∨ f = 202) ∧ i ≤ 1) → gi σ' f i = gi σ f i) ∧ (∀ f i, ¬ (f = 8 ∧ 8 ≤ i ∧ i ≤ 10) → ¬ (f = 2 ∧ i ≤ 1) → ga σ' f i = ga σ f i)
theorem UP.utx {σ σ' : St} (h : UTX σ σ') : UP σ σ' := ⟨h.1, fun f i a _ => h.2.1 f i a, fun f i a _ => h.2.2 f i a⟩
theorem UP.ul {σ σ' : St} {k : Nat} (hk : k ≤ 1) (h : UL k σ σ') : UP σ σ' := ⟨h.1, fun f i _ b => h.2.1 f i (by omega), fun f i _ b => h.2.2 f i (by omega)⟩
theorem UP.trans {σ σ1 σ2 : St} (h : UP σ σ1) (g : UP σ1 σ2) : UP σ σ2 := ⟨g.1.trans h.1, fun f i a b => (g.2.1 f i a b).trans (h.2.1 f i a b), fun f i a b => (g.2.2 f i a b).trans (h.2.2 f i a b)⟩
theorem UP.kx {σ σ' : St} (h : UP σ σ') {v : Nat} (hv : v < 8) : KX v σ σ' :=
  ⟨fun f hf => h.2.1 f v (by omega) (by omega), fun f g h1 h2 h3 h4 => h.2.1 f g (by omega) (by omega), fun f q h1 h2 h3 => h.2.1 f q (by omega) (by omega), fun m hm => ⟨h.2.1 201 m (by omega) (by omega), h.2.2 2 m (by omega) (by omega)⟩, h.2.2 8 v (by omega) (by omega)⟩
theorem UTM.um {τ τ' : St} (h : UTM τ τ') : UM τ τ' := ⟨⟨h.1 _ _ (by omega), h.1 _ _ (by omega), h.1 _ _ (by omega)⟩, h.2 4 0 (by omega), fun i hi => h.2 1 i (by omega), fun i hi => h.2 2 i (by omega)⟩
/-- the path on the tape is taken -/
theorem take_path {ou : List Nat} {nv : Nat} {W : Nat → Vd} (h1 : RT σ τ tx) (h2 : RO σ τ ou) (h3 : gi σ 709 0 = gi τ 809 0) (h4 : RV σ τ nv W) :
    ∃ σ' τ', RT σ' τ' [] ∧ RO σ' τ' ou ∧ gi σ' 709 0 = gi τ' 809 0 ∧ RV σ' τ' nv W ∧
    ((f_X8_takePath σ = some (σ', 0) ∧ f_X9_tapePath τ = some (τ', 0)) ∨
     (∃ c ks ps ls n, 0 < n ∧ c + 1 = 2 * n ∧ f_X8_takePath σ = some (σ', bI (decide ((pj tx ps ls n 0).length ≤ 64))) ∧ f_X9_tapePath τ = some (τ', nI n) ∧ TKM τ' tx c ks ps ls ∧ TKW tx c ks ps ls ∧ isP c ks n 0 ∧ gi σ' 504 0 = nI c ∧ ((pj tx ps ls n 0).length ≤ 64 → LX σ' 1 (pj tx ps ls n 0)))) := by
  have hl : tx.length ≤ 2000 := h1.1.2.1
  have fin : ∀ σ' τ', UP σ σ' → UTM τ τ' → LX σ' 0 [] → gi τ' 803 0 = 0 → RT σ' τ' [] ∧ RO σ' τ' ou ∧ gi σ' 709 0 = gi τ' 809 0 ∧ RV σ' τ' nv W := by
    intro σ' τ' u ut l0 t0
    have hn := h4.1
    refine ⟨⟨l0, t0, fun i hi => absurd hi (Nat.not_lt_zero _)⟩, h2.of u.1 (fun k hk => ⟨u.2.1 201 k (by omega) (by omega), u.2.2 2 k (by omega) (by omega)⟩) (ut.1 _ _ (by omega)) (ut.2 _ _ (by omega)), ?_, h4.of (u.2.1 _ _ (by omega) (by omega)) (ut.1 _ _ (by omega)) (fun v hv => u.kx (by omega)) (fun v hv => KM_UM ut.um)⟩
    rw [u.2.1 709 0 (by omega) (by omega), ut.1 809 0 (by omega), h3]
  obtain ⟨s1, t1, u1, ut1, e803, hL⟩ := lex_top h1
  -- no path
  have none' : ∀ (s : St), UP σ s → ∃ σ', f_X8_takePath_25 f_X8_takePath_26 s = some (σ', 0) ∧ UP σ σ' ∧ LX σ' 0 [] := by
    intro s us
    obtain ⟨s2, e2, u2, _⟩ := lx_clear 1 s
    obtain ⟨s3, e3, u3, l3, _⟩ := lx_clear 0 s2
    refine ⟨s3, ?_, (us.trans (UP.ul (by omega) u2)).trans (UP.ul (by omega) u3), l3⟩
    unfold f_X8_takePath_25 f_X8_takePath_26 f_X8_takePath_50
    rw [e2, cl_mk, if_pos rfl, e3, cl_mk, if_pos rfl]
  unfold f_X8_takePath f_X9_tapePath
  rcases hL with ⟨c, ks, ps, ls, a1, a2, hX, hM, w⟩ | ⟨q, hq, a1, a2⟩
  · have hc := w.cc
    rw [a1, a2, cl_mk, cl_mk, if_pos rfl, if_neg (by decide)]
    have hloop := m_tp_loop hM hX w c 0 (by omega) fl (by have := fl_big; omega)
    have harep : f_X6_arePath s1 = f_X6_arePath_2 fl s1 (nI 0) := rfl
    rw [harep, hM.2.1, show (2 : Int32) = nI 2 from rfl, pk_rem (by omega) (by omega) (by omega)]
    by_cases ep : c % 2 = 1
    · rw [ep, if_neg (show ¬ nI 1 = 0 by decide)]
      rcases hloop with ⟨b1, b2, b3⟩ | ⟨b1, b2, b3⟩
      · rw [b3, bI_yes ep, cl_mk, if_neg i10]
        obtain ⟨n, hn⟩ : ∃ n, c + 1 = 2 * n := ⟨(c + 1) / 2, by omega⟩
        have hP : isP c ks n 0 := by
          constructor
          · intro i hi
            refine ⟨by omega, ?_⟩
            rw [b1 _ (by omega) (by omega), if_pos (by omega)]
          · intro i hi
            rw [b1 _ (by omega) (by omega), if_neg (by omega)]
        obtain ⟨s2, e2, u2, o2⟩ := ow_clear 1 s1
        obtain ⟨s3, e3, u3, o3⟩ := x_joinP w (k := 1) (by omega) (n := n) (t := 0) (by omega) hP (by rw [show 0 + 2 * n - 1 = c by omega, w.2.1]; omega) o2 (hX.ul u2 (by omega))
        obtain ⟨s4, e4, u4, l4, _⟩ := lx_clear 0 s3
        have o4 := o3.ul u4 (by omega)
        rw [List.nil_append] at o4
        have uu : UP σ s4 := (((UP.utx u1).trans (UP.ul (by omega) u2)).trans (UP.ul (by omega) u3)).trans (UP.ul (by omega) u4)
        obtain ⟨f1, f2, f3, f4⟩ := fin s4 t1 uu ut1 l4 e803
        refine ⟨s4, t1, f1, f2, f3, f4, Or.inr ⟨c, ks, ps, ls, n, by omega, hn, ?_, ?_, hM, w, hP, ?_, fun hle => o4.lx hle⟩⟩
        · unfold f_X8_takePath_26 f_X8_takePath_50
          have e3 : f_X6_joinPath s2 0 1 = _ := e3
          rw [e2, cl_mk, if_neg i10, e3, cl_mk, e4, cl_mk, if_neg i10, ow_over o4, cl_mk, show capX 1 = 64 from rfl]
          by_cases e : 64 < (pj tx ps ls n 0).length
          · rw [bI_yes e, if_neg i10, bI_no (by omega)]
          · rw [bI_no e, if_pos rfl, bI_yes (by omega)]
        · have : (c + 1) / 2 = n := by omega
          rw [this] at b2
          exact b2
        · rw [u4.2.1 504 0 (by omega), u3.2.1 504 0 (by omega), u2.2.1 504 0 (by omega), hX.2.1]
      · rw [b3, cl_mk, if_pos rfl]
        obtain ⟨s2, e2, u2, l2⟩ := none' s1 (UP.utx u1)
        obtain ⟨f1, f2, f3, f4⟩ := fin s2 t1 u2 ut1 l2 e803
        exact ⟨s2, t1, f1, f2, f3, f4, Or.inl ⟨e2, b2⟩⟩
    · have ep0 : c % 2 = 0 := by omega
      rw [ep0, if_pos n00]
      obtain ⟨s2, e2, u2, l2⟩ := none' s1 (UP.utx u1)
      obtain ⟨f1, f2, f3, f4⟩ := fin s2 t1 u2 ut1 l2 e803
      refine ⟨s2, t1, f1, f2, f3, f4, Or.inl ⟨?_, rfl⟩⟩
      rcases hloop with ⟨b1, b2, b3⟩ | ⟨b1, b2, b3⟩
      · rw [b3, bI_no ep, cl_mk, if_pos rfl, e2]
      · rw [b3, cl_mk, if_pos rfl, e2]
  · rw [a1, a2, cl_mk, cl_mk, if_neg (ln_m1n (by omega)), if_pos (nI_pos' (by omega))]
    obtain ⟨s2, e2, u2, l2⟩ := none' s1 (UP.utx u1)
    obtain ⟨f1, f2, f3, f4⟩ := fin s2 t1 u2 ut1 l2 e803
    exact ⟨s2, t1, f1, f2, f3, f4, Or.inl ⟨e2, rfl⟩⟩
theorem fop_long {d : Vd} (wt : WT d) {p : List Nat} (h : 64 < p.length) : fop d p = none := by
  unfold fop
  cases e : fm (fun j => decide (nP d j = p)) (vn d) 0 with
  | none => rfl
  | some j =>
    obtain ⟨_, a, b, _⟩ := fm_some _ _ _ e
    have := path_len64 wt (f := j) (by omega)
    simp at b
    rw [b] at this
    omega
theorem op_find (h : RR σ τ) (x : Int32) : OK (f_X8_find σ x) (f_X9_find τ x) := by
  obtain ⟨tx, ou, nv, W, h1, h2, h3, h4⟩ := h
  obtain ⟨σ', τ', r1, r2, r3, r4, hh⟩ := take_path h1 h2 h3 h4
  have hn := r4.1
  have hR : RR σ' τ' := ⟨[], ou, nv, W, r1, r2, r3, r4⟩
  unfold f_X8_find f_X9_find
  rcases hh with ⟨e1, e2⟩ | ⟨c, ks, ps, ls, n, n0, hn2, e1, e2, hM, w, hP, e5, hlx⟩
  · rw [e1, e2, cl_mk, cl_mk]
    rcases isV r4 x with ⟨v, hv, rfl, g1, g2⟩ | ⟨g1, g2⟩
    · rw [g1, g2, cl_mk, cl_mk, if_neg i10, if_neg i10, if_pos rfl, if_pos rfl]
      exact ⟨σ', τ', -2, rfl, rfl, hR⟩
    · rw [g1, g2, cl_mk, cl_mk, if_pos rfl, if_pos rfl]
      exact ⟨σ', τ', -1, rfl, rfl, hR⟩
  · have hc := w.cc
    rw [e1, e2, cl_mk, cl_mk]
    rcases isV r4 x with ⟨v, hv, rfl, g1, g2⟩ | ⟨g1, g2⟩
    · obtain ⟨a, b, wv⟩ := r4.2.2.2 v hv
      have w40 : vn (W v) ≤ 40 := Nat.le_trans wv.1.1 wv.1.2.1
      have g3 := m_fof (v := v) (by omega) b.pm w40 wv.2.1 hM w n0 hP
      have g3 : f_X9_fieldOf τ' (nI v) 0 (nI n) = _ := g3
      rw [g1, g2, cl_mk, cl_mk, if_neg i10, if_neg i10, if_neg (show ¬ nI n = 0 from fun e => by have := (ln_eq0 (by omega)).mp e; omega), g3, cl_mk, ck_nI (by omega) (by omega)]
      by_cases e : (pj tx ps ls n 0).length ≤ 64
      · rw [bI_yes e, if_neg i10]
        unfold f_X3_length
        rw [cl_mk, (hlx e).1, x_fofp a.px w40 (hlx e), cl_mk]
        exact ⟨σ', τ', _, rfl, rfl, hR⟩
      · rw [bI_no e, if_pos rfl, fop_long wv.2.1 (by omega)]
        exact ⟨σ', τ', -2, rfl, rfl, hR⟩
    · rw [g1, g2, cl_mk, cl_mk, if_pos rfl, if_pos rfl]
      exact ⟨σ', τ', -1, rfl, rfl, hR⟩
end Fd
