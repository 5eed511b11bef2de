/-! The reference's comparison. -/
theorem cmI_0 {l m : List Nat} (h1 : l.length < 1000) (h2 : m.length < 1000) (b1 : By l) (b2 : By m) : cmI l m = 0 ↔ l = m := by
  rw [← cmZ_0 l m, ← cmI_Z l m h1 h2 b1 b2]
  constructor
  · intro h
    rw [h]
    decide
  · intro h
    apply Int32.toInt_inj.mp
    rw [h]
    decide
def UD (τ τ' : St) : Prop := (∀ f i, ¬ (f = 850 ∨ f = 852) → gi τ' f i = gi τ f i) ∧ (∀ f i, ¬ (f = 1 ∧ i = 25) → ¬ (f = 2 ∧ (i = 7 ∨ i = 8)) → ga τ' f i = ga τ f i)
theorem UD.refl' (τ : St) : UD τ τ := ⟨fun _ _ _ => rfl, fun _ _ _ _ => rfl⟩
theorem UD.trans {τ τ1 τ2 : St} (h : UD τ τ1) (g : UD τ1 τ2) : UD τ τ2 := ⟨fun f i a => (g.1 f i a).trans (h.1 f i a), fun f i a b => (g.2 f i a b).trans (h.2 f i a b)⟩
theorem UD.um {τ τ' : St} (h : UD τ τ') : UM τ τ' := ⟨⟨h.1 _ _ (by omega), h.1 _ _ (by omega), h.1 _ _ (by omega)⟩, h.2 4 0 (by omega) (by omega), fun i hi => h.2 1 i (by omega) (by omega), fun i hi => h.2 2 i (by omega) (by omega)⟩
section Cm
variable {τ : St} {a b : Nat} {d e : Vd}
theorem m_comp_loop {l p : List Nat} (hl : l.length ≤ 64) (hp : p.length ≤ 64) (al : ∀ c, c ∈ l → c < 128) (ap : ∀ c, c ∈ p → c < 128) (h1 : gi τ 850 0 = nI l.length) (h2 : gi τ 852 0 = nI p.length) (b1 : Bs (ga τ 2 7) 0 l) (b2 : Bs (ga τ 2 8) 0 p) {c : Nat} (hc : c = min l.length p.length) : ∀ (r i : Nat), i + r = c → ∀ m, r < m → f_X9_compare_32 m τ (nI i) = some (τ, cmI (l.drop i) (p.drop i)) := by
  intro r
  induction r with
  | zero =>
    intro i hi m hm
    obtain ⟨m, rfl⟩ : ∃ m', m = m' + 1 := ⟨m - 1, by omega⟩
    have fin : f_X9_compare_89 τ = some (τ, cmI (l.drop i) (p.drop i)) := by
      unfold f_X9_compare_89
      rw [h1, h2, cmI_end l p i (by omega)]
    rw [f_X9_compare_32.eq_2, h1, h2]
    by_cases x : l.length ≤ i
    · rw [if_pos (nI_le x (by omega))]
      exact fin
    · rw [if_neg (nI_ge (by omega) (by omega)), if_pos (nI_le (by omega) (by omega))]
      exact fin
  | succ r ih =>
    intro i hi m hm
    obtain ⟨m, rfl⟩ : ∃ m', m = m' + 1 := ⟨m - 1, by omega⟩
    have x1 := b1 i (by omega)
    have x2 := b2 i (by omega)
    rw [Nat.zero_add] at x1 x2
    have y1 : el l i < 128 := by rw [el_t (by omega)]; exact al _ (List.getElem_mem _)
    have y2 : el p i < 128 := by rw [el_t (by omega)]; exact ap _ (List.getElem_mem _)
    rw [f_X9_compare_32.eq_2, h1, h2, if_neg (nI_ge (by omega) (by omega)), if_neg (nI_ge (by omega) (by omega)), ck_nI (by omega) (by omega), ck_nI (by omega) (by omega), ck_nI (by omega) (by omega), ck_nI (by omega) (by omega), x1, x2, nI_1, ih (i + 1) (by omega) m (by omega)]
    simp only [sB_inj (show el l i < 256 by omega) (show el p i < 256 by omega)]
    by_cases q : el l i = el p i
    · rw [if_pos q, cmI_stepE (by omega) (by omega) q]
    · rw [if_neg q, cmI_stepN (by omega) (by omega) q, sB_asc y1, sB_asc y2]
theorem m_comp (ha : a < 8) (hb : b < 8) (hd : VM τ a d) (he : VM τ b e) (wd : VW d) (we : VW e) {f g : Nat} (hf : f < vn d) (hg : g < vn e) : ∃ τ', f_X9_compare τ (nI a) (nI f) (nI b) (nI g) = some (τ', cmI (nP d f) (nP e g)) ∧ UD τ τ' := by
  obtain ⟨t1, e1, u1, b1⟩ := m_spell (arr := 7) (Or.inl rfl) ha wd hd hf
  have l1 := path_len64 wd.2.1 hf
  have l2 := path_len64 we.2.1 hg
  have v1 : UD τ (si t1 850 0 (nI (nP d f).length)) := by
    refine ⟨fun f i hf => ?_, fun f i x y => ?_⟩
    · simp only [gi_si, gi_sr, gi_sg, gi_sa, gr_si, rr_sr, gr_sg, gr_sa, ga_si, ga_sr, ga_sg, ga_sa, true_and, and_true, false_and, and_false, Nat.reduceEqDiff, ↓reduceIte]
      rw [if_neg (by omega)]
      exact u1.1 _ _
    · simp only [gi_si, gi_sr, gi_sg, gi_sa, gr_si, rr_sr, gr_sg, gr_sa, ga_si, ga_sr, ga_sg, ga_sa, true_and, and_true, false_and, and_false, Nat.reduceEqDiff, ↓reduceIte]
      exact u1.2 f i x (by omega)
  obtain ⟨t2, e2, u2, b2⟩ := m_spell (arr := 8) (Or.inr rfl) hb we ((KM_UM v1.um).vm we he) hg
  have v2 : UD (si t1 850 0 (nI (nP d f).length)) (si t2 852 0 (nI (nP e g).length)) := by
    refine ⟨fun f i hf => ?_, fun f i x y => ?_⟩
    · simp only [gi_si, gi_sr, gi_sg, gi_sa, gr_si, rr_sr, gr_sg, gr_sa, ga_si, ga_sr, ga_sg, ga_sa, true_and, and_true, false_and, and_false, Nat.reduceEqDiff, ↓reduceIte]
      rw [if_neg (by omega), u2.1]
      rfl
    · simp only [gi_si, gi_sr, gi_sg, gi_sa, gr_si, rr_sr, gr_sg, gr_sa, ga_si, ga_sr, ga_sg, ga_sa, true_and, and_true, false_and, and_false, Nat.reduceEqDiff, ↓reduceIte]
      rw [u2.2 f i x (by omega)]
      rfl
  refine ⟨si t2 852 0 (nI (nP e g).length), ?_, v1.trans v2⟩
  unfold f_X9_compare
  rw [e1, cl_mk]
  simp only [bnd]
  rw [e2, cl_mk]
  refine m_comp_loop (τ := si t2 852 0 (nI (nP e g).length)) l1 l2 (path_asc wd.2.1 hf) (path_asc we.2.1 hg) ?_ ?_ ?_ ?_ rfl (min (nP d f).length (nP e g).length) 0 (by omega) fl (by have := fl_big; omega)
  · simp only [gi_si, gi_sr, gi_sg, gi_sa, gr_si, rr_sr, gr_sg, gr_sa, ga_si, ga_sr, ga_sg, ga_sa, true_and, and_true, false_and, and_false, Nat.reduceEqDiff, ↓reduceIte]
    rw [u2.1]
    simp [gi_si, gi_sr, gi_sg, gi_sa, gr_si, rr_sr, gr_sg, gr_sa, ga_si, ga_sr, ga_sg, ga_sa, true_and, and_true, false_and, and_false, Nat.reduceEqDiff, ↓reduceIte]
  · simp [gi_si, gi_sr, gi_sg, gi_sa, gr_si, rr_sr, gr_sg, gr_sa, ga_si, ga_sr, ga_sg, ga_sa, true_and, and_true, false_and, and_false, Nat.reduceEqDiff, ↓reduceIte]
  · simp only [gi_si, gi_sr, gi_sg, gi_sa, gr_si, rr_sr, gr_sg, gr_sa, ga_si, ga_sr, ga_sg, ga_sa, true_and, and_true, false_and, and_false, Nat.reduceEqDiff, ↓reduceIte]
    rw [u2.2 2 7 (by omega) (by omega)]
    exact b1
  · simp only [gi_si, gi_sr, gi_sg, gi_sa, gr_si, rr_sr, gr_sg, gr_sa, ga_si, ga_sr, ga_sg, ga_sa, true_and, and_true, false_and, and_false, Nat.reduceEqDiff, ↓reduceIte]
    exact b2
theorem pth_b (w : VW d) {f : Nat} (hf : f < vn d) : (nP d f).length < 1000 ∧ By (nP d f) := ⟨by have := path_len64 w.2.1 hf; omega, path_by w.2.1 hf⟩
theorem m_twin_loop (ha : a < 8) (hb : b < 8) (wd : VW d) (we : VW e) {f : Nat} (hf : f < vn d) : ∀ (r i : Nat), i + r = vn e → ∀ (τ : St), VM τ a d → VM τ b e → ∀ m, r < m → ∃ τ', f_X9_twin_3 m τ (nI a) (nI f) (nI b) (nI i) = some (τ', oI (fm (fun j => decide (nP e j = nP d f)) r i)) ∧ UD τ τ' := by
  have w2 : vn e ≤ 40 := Nat.le_trans we.1.1 we.1.2.1
  intro r
  induction r with
  | zero =>
    intro i hi τ hd he m hm
    obtain ⟨m, rfl⟩ : ∃ m', m = m' + 1 := ⟨m - 1, by omega⟩
    refine ⟨τ, ?_, UD.refl' τ⟩
    rw [f_X9_twin_3.eq_2, ck_nI hb (by omega), he.1, if_pos (nI_le (by omega) (by omega))]
    rfl
  | succ r ih =>
    intro i hi τ hd he m hm
    obtain ⟨m, rfl⟩ : ∃ m', m = m' + 1 := ⟨m - 1, by omega⟩
    obtain ⟨t1, e1, u1⟩ := m_comp ha hb hd he wd we hf (g := i) (by omega)
    have p1 := pth_b wd hf
    have p2 := pth_b we (f := i) (by omega)
    have c0 := cmI_0 p1.1 p2.1 p1.2 p2.2
    rw [f_X9_twin_3.eq_2, ck_nI hb (by omega), he.1, if_neg (nI_ge (by omega) (by omega)), e1, cl_mk, fm.eq_2]
    by_cases c : nP d f = nP e i
    · rw [if_pos (c0.mpr c), if_pos (by simp [c])]
      exact ⟨t1, rfl, u1⟩
    · rw [if_neg (fun h => c (c0.mp h)), if_neg (by simp; exact fun h => c h.symm), nI_1]
      obtain ⟨t2, e2, u2⟩ := ih (i + 1) (by omega) t1 ((KM_UM u1.um).vm wd hd) ((KM_UM u1.um).vm we he) m (by omega)
      exact ⟨t2, e2, u1.trans u2⟩
theorem m_twin (ha : a < 8) (hb : b < 8) (hd : VM τ a d) (he : VM τ b e) (wd : VW d) (we : VW e) {f : Nat} (hf : f < vn d) : ∃ τ', f_X9_twin τ (nI a) (nI f) (nI b) = some (τ', oI (fop e (nP d f))) ∧ UD τ τ' := by
  have w2 : vn e ≤ 40 := Nat.le_trans we.1.1 we.1.2.1
  exact m_twin_loop ha hb wd we hf (vn e) 0 (by omega) τ hd he fl (by have := fl_big; omega)
theorem m_spath (ha : a < 8) (hb : b < 8) (hd : VM τ a d) (he : VM τ b e) (wd : VW d) (we : VW e) {x y : Option Nat} (hx : ∀ c, x = some c → c < vn d) (hy : ∀ c, y = some c → c < vn e) : ∃ τ', f_X9_isSamePath τ (nI a) (oI x) (nI b) (oI y) = some (τ', bI (spv d e x y)) ∧ UD τ τ' := by
  have w1 : vn d ≤ 40 := Nat.le_trans wd.1.1 wd.1.2.1
  have w2 : vn e ≤ 40 := Nat.le_trans we.1.1 we.1.2.1
  unfold f_X9_isSamePath f_X9_isSamePath_13
  cases x with
  | none =>
    rw [if_pos (show oI none = -2 from rfl)]
    cases y with
    | none => exact ⟨τ, rfl, UD.refl' τ⟩
    | some q =>
      have := hy q rfl
      rw [if_neg]
      · exact ⟨τ, rfl, UD.refl' τ⟩
      · intro h
        exact ln_m2 (by omega) h.symm
  | some p =>
    have hp := hx p rfl
    rw [if_neg (show ¬ oI (some p) = -2 from ln_m2 (by omega))]
    cases y with
    | none =>
      rw [if_pos (show oI none = -2 from rfl), if_neg]
      · exact ⟨τ, rfl, UD.refl' τ⟩
      · exact ln_m2 (by omega)
    | some q =>
      have hq := hy q rfl
      rw [if_neg (show ¬ oI (some q) = -2 from ln_m2 (by omega))]
      obtain ⟨t1, e1, u1⟩ := m_comp ha hb hd he wd we hp hq
      have p1 := pth_b wd hp
      have p2 := pth_b we hq
      have c0 := cmI_0 p1.1 p2.1 p1.2 p2.2
      have e1 : f_X9_compare τ (nI a) (oI (some p)) (nI b) (oI (some q)) = _ := e1
      rw [e1, cl_mk]
      refine ⟨t1, ?_, u1⟩
      unfold spv
      by_cases c : nP d p = nP e q
      · rw [if_pos (c0.mpr c), bI_yes c]
      · rw [if_neg (fun h => c (c0.mp h)), bI_no c]
theorem m_code (ha : a < 8) (hb : b < 8) (hd : VM τ a d) (he : VM τ b e) (wd : VW d) (we : VW e) {f g : Nat} (hf : f < vn d) (hg : g < vn e) : ∃ τ', f_X9_code τ (nI a) (nI f) (nI b) (nI g) = some (τ', nI (cdv d f e g)) ∧ UD τ τ' := by
  have w1 : vn d ≤ 40 := Nat.le_trans wd.1.1 wd.1.2.1
  have w2 : vn e ≤ 40 := Nat.le_trans we.1.1 we.1.2.1
  have fd := hd.2.2.2.1 f hf
  have fe := he.2.2.2.1 g hg
  have xd := wd.2.2.2.2.1 f hf
  have xe := we.2.2.2.2.1 g hg
  have k8 := xd.1
  have k8' := xe.1
  obtain ⟨_, _, a6, a1, an⟩ := bt_x _ xd.2.1
  obtain ⟨_, _, b6, b1, bn⟩ := bt_x _ xe.2.1
  have eZ : oI (oZ d f) = oI (oZ e g) ↔ oZ d f = oZ e g := by
    cases ez : oZ e g with
    | none =>
      cases ez2 : oZ d f with
      | none => simp
      | some z =>
        have := xd.2.2.2.2.2.1 z ez2
        simp
        exact ln_m2 (by omega)
    | some z => exact oI_eq (fun c hc => by have := xd.2.2.2.2.2.1 c hc; omega) (by have := xe.2.2.2.2.2.1 z ez; omega)
  unfold f_X9_code f_X9_code_112 f_X9_code_113
  rw [ln_40, ln_40, nI_add, nI_add]
  simp only [ck_nI (show 40 * a + f < 320 by omega) (by omega : 320 < 2147483648), ck_nI (show 40 * b + g < 320 by omega) (by omega : 320 < 2147483648)]
  rw [fd.1.1, fe.1.1, fd.1.2.1, fe.1.2.1, a6, b6, m_sby (by omega) (by omega) fd.1.2.2.2.2.2.2.1 fe.1.2.2.2.2.2.2.1 fd.1.2.2.2.2.2.2.2 fe.1.2.2.2.2.2.2.2 (Nm.le xd.2.2.1) (Nm.le xe.2.2.1) (Nm.by'' xd.2.2.1) (Nm.by'' xe.2.2.1), cl_mk, fd.1.2.1, fe.1.2.1, a1, b1, fd.1.2.2.1, fe.1.2.2.1, fd.2.1, fe.2.1]
  unfold cdv
  by_cases c1 : vk d f = vk e g
  · rw [if_pos (by rw [c1])]
    by_cases c2 : bt (vo d f) 1 = bt (vo e g) 1 ∧ bt (vo d f) 2 = bt (vo e g) 2
    · rw [if_pos (by rw [c2.1, c2.2])]
      by_cases c3 : nB d f = nB e g
      · rw [bI_yes c3, if_neg i10, if_neg (show ¬ (vk d f ≠ vk e g ∨ bt (vo d f) 1 ≠ bt (vo e g) 1 ∨ bt (vo d f) 2 ≠ bt (vo e g) 2 ∨ nB d f ≠ nB e g) by simp [c1, c2, c3])]
        by_cases c4 : bt (vo d f) 0 = bt (vo e g) 0
        · rw [if_pos (by rw [c4])]
          by_cases c5 : oZ d f = oZ e g
          · rw [if_pos (eZ.mpr c5), if_neg i10]
            obtain ⟨t1, e1, u1⟩ := m_spath ha hb hd he wd we xd.2.2.2.1 xe.2.2.2.1
            rw [e1, cl_mk]
            have D1 := (KM_UM (v := a) u1.um).vm wd hd
            have E1 := (KM_UM (v := b) u1.um).vm we he
            cases s1 : spv d e (oC d f) (oC e g)
            · refine ⟨t1, ?_, u1⟩
              simp [bI]
              rfl
            · rw [bI_t, if_neg i10, (D1.2.2.2.1 f hf).2.2, (E1.2.2.2.1 g hg).2.2]
              obtain ⟨t2, e2, u2⟩ := m_spath ha hb D1 E1 wd we xd.2.2.2.2.1 xe.2.2.2.2.1
              rw [e2, cl_mk]
              refine ⟨t2, ?_, u1.trans u2⟩
              cases s2 : spv d e (oO d f) (oO e g)
              · simp [bI]
                rfl
              · simp [bI, c4, c5]
                rfl
          · rw [if_neg (fun h => c5 (eZ.mp h)), if_pos trivial, if_neg (fun h => c5 h.2.1)]
            exact ⟨τ, rfl, UD.refl' τ⟩
        · rw [if_neg (fun h => c4 ((ln_eq (by omega) (by omega)).mp h)), if_pos trivial, if_neg (fun h => c4 h.1)]
          exact ⟨τ, rfl, UD.refl' τ⟩
      · rw [bI_no c3, if_pos rfl, if_pos (Or.inr (Or.inr (Or.inr c3)))]
        exact ⟨τ, rfl, UD.refl' τ⟩
    · rw [if_neg (fun h => c2 (by have := (ln_eq (by omega) (by omega)).mp h; omega)), if_pos (show _ ∨ _ ∨ _ ∨ _ from by
        by_cases y1 : bt (vo d f) 1 = bt (vo e g) 1
        · exact Or.inr (Or.inr (Or.inl (fun y2 => c2 ⟨y1, y2⟩)))
        · exact Or.inr (Or.inl y1))]
      exact ⟨τ, rfl, UD.refl' τ⟩
  · rw [if_neg (fun h => c1 ((ln_eq (by omega) (by omega)).mp h)), if_pos (Or.inl c1)]
    exact ⟨τ, rfl, UD.refl' τ⟩
/-! its rows -/
def DR (τ : St) (L : List Rw) : Prop := gi τ 854 0 = nI L.length ∧ ∀ i, i < L.length → ga τ 1 26 i = nI (rwg L i).1 ∧ ga τ 1 27 i = oI (rwg L i).2.1 ∧ ga τ 1 28 i = oI (rwg L i).2.2
def UE (τ τ' : St) : Prop := (∀ f i, ¬ (f = 850 ∨ f = 852 ∨ f = 854) → gi τ' f i = gi τ f i) ∧ (∀ f i, ¬ (f = 1 ∧ 25 ≤ i ∧ i ≤ 28) → ¬ (f = 2 ∧ (i = 7 ∨ i = 8)) → ga τ' f i = ga τ f i)
theorem UE.refl' (τ : St) : UE τ τ := ⟨fun _ _ _ => rfl, fun _ _ _ _ => rfl⟩
theorem UE.trans {τ τ1 τ2 : St} (h : UE τ τ1) (g : UE τ1 τ2) : UE τ τ2 := ⟨fun f i a => (g.1 f i a).trans (h.1 f i a), fun f i a b => (g.2 f i a b).trans (h.2 f i a b)⟩
theorem UE.um {τ τ' : St} (h : UE τ τ') : UM τ τ' := ⟨⟨h.1 _ _ (by omega), h.1 _ _ (by omega), h.1 _ _ (by omega)⟩, h.2 4 0 (by omega) (by omega), fun i hi => h.2 1 i (by omega) (by omega), fun i hi => h.2 2 i (by omega) (by omega)⟩
theorem UD.ue {τ τ' : St} (h : UD τ τ') : UE τ τ' := ⟨fun f i x => h.1 f i (by omega), fun f i x y => h.2 f i (by omega) y⟩
theorem UD.dr {τ τ' : St} (h : UD τ τ') {L : List Rw} (r : DR τ L) : DR τ' L := ⟨by rw [h.1 854 0 (by omega)]; exact r.1, fun i hi => by rw [h.2 1 26 (by omega) (by omega), h.2 1 27 (by omega) (by omega), h.2 1 28 (by omega) (by omega)]; exact r.2 i hi⟩
theorem m_row {L : List Rw} (h : DR τ L) (hL : L.length < 80) (x : Rw) : ∃ τ', (ck (gi τ 854 0) 80 fun j7 =>
    bnd (sa τ 1 26 j7 (nI x.1)) fun s8 =>
    ck (gi s8 854 0) 80 fun j9 =>
    bnd (sa s8 1 27 j9 (oI x.2.1)) fun s10 =>
    ck (gi s10 854 0) 80 fun j11 =>
    bnd (sa s10 1 28 j11 (oI x.2.2)) fun s12 =>
    bnd (si s12 854 0 ((gi s12 854 0) + 1)) fun s13 => some (s13, ())) = some (τ', ()) ∧ (∀ (k : St → Option (St × Unit)), (ck (gi τ 854 0) 80 fun j7 =>
    bnd (sa τ 1 26 j7 (nI x.1)) fun s8 =>
    ck (gi s8 854 0) 80 fun j9 =>
    bnd (sa s8 1 27 j9 (oI x.2.1)) fun s10 =>
    ck (gi s10 854 0) 80 fun j11 =>
    bnd (sa s10 1 28 j11 (oI x.2.2)) fun s12 =>
    bnd (si s12 854 0 ((gi s12 854 0) + 1)) fun s13 => k s13) = k τ') ∧ UE τ τ' ∧ DR τ' (L ++ [x]) := by
  refine ⟨si (sa (sa (sa τ 1 26 L.length (nI x.1)) 1 27 L.length (oI x.2.1)) 1 28 L.length (oI x.2.2)) 854 0 (nI (L.length + 1)), ?_, fun k => ?_, ⟨fun f i hf => ?_, fun f i hf hg => ?_⟩, ?_, fun i hi => ?_⟩
  · rw [h.1, ck_nI hL (by omega)]
    simp only [bnd, gi_sa, h.1]
    rw [ck_nI hL (by omega), ck_nI hL (by omega), nI_1]
  · rw [h.1, ck_nI hL (by omega)]
    simp only [bnd, gi_sa, h.1]
    rw [ck_nI hL (by omega), ck_nI hL (by omega), nI_1]
  · simp only [gi_si, gi_sr, gi_sg, gi_sa, gr_si, rr_sr, gr_sg, gr_sa, ga_si, ga_sr, ga_sg, ga_sa, true_and, and_true, false_and, and_false, Nat.reduceEqDiff, ↓reduceIte]
    rw [if_neg (by omega)]
  · simp only [gi_si, gi_sr, gi_sg, gi_sa, gr_si, rr_sr, gr_sg, gr_sa, ga_si, ga_sr, ga_sg, ga_sa, true_and, and_true, false_and, and_false, Nat.reduceEqDiff, ↓reduceIte]
    rw [if_neg (by omega), if_neg (by omega), if_neg (by omega)]
  · simp [gi_si, gi_sr, gi_sg, gi_sa, gr_si, rr_sr, gr_sg, gr_sa, ga_si, ga_sr, ga_sg, ga_sa, true_and, and_true, false_and, and_false, Nat.reduceEqDiff, ↓reduceIte]
  · rw [rwg_app]
    simp only [gi_si, gi_sr, gi_sg, gi_sa, gr_si, rr_sr, gr_sg, gr_sa, ga_si, ga_sr, ga_sg, ga_sa, true_and, and_true, false_and, and_false, Nat.reduceEqDiff, ↓reduceIte]
    unfold upd
    by_cases c1 : i = L.length
    · subst c1
      simp
    · have : i < L.length := by simp at hi; omega
      rw [if_pos this]
      simp only [c1, if_false]
      exact h.2 i this
def la (d e : Vd) : Nat → Nat → List Rw
  | 0, _ => []
  | r + 1, f => (if (rwA d e f).1 = 0 then [] else [rwA d e f]) ++ la d e r (f + 1)
def lb (d e : Vd) : Nat → Nat → List Rw
  | 0, _ => []
  | r + 1, g => (if fop d (nP e g) = none then [(1, none, some g)] else []) ++ lb d e r (g + 1)
theorem m_dif_b (ha : a < 8) (hb : b < 8) (wd : VW d) (we : VW e) : ∀ (r g : Nat), g + r = vn e → ∀ (τ : St) (L : List Rw), VM τ a d → VM τ b e → DR τ L → L.length + r ≤ 80 → ∀ m, r < m → ∃ τ', f_X9_differ_103 m τ (nI a) (nI b) (nI g) = some (τ', ()) ∧ UE τ τ' ∧ DR τ' (L ++ lb d e r g) := by
  have w2 : vn e ≤ 40 := Nat.le_trans we.1.1 we.1.2.1
  intro r
  induction r with
  | zero =>
    intro g hg τ L hd he hD hL m hm
    obtain ⟨m, rfl⟩ : ∃ m', m = m' + 1 := ⟨m - 1, by omega⟩
    refine ⟨τ, ?_, UE.refl' τ, by simpa [lb] using hD⟩
    rw [f_X9_differ_103.eq_2, ck_nI hb (by omega), he.1, if_pos (nI_le (by omega) (by omega))]
  | succ r ih =>
    intro g hg τ L hd he hD hL m hm
    obtain ⟨m, rfl⟩ : ∃ m', m = m' + 1 := ⟨m - 1, by omega⟩
    obtain ⟨t1, e1, u1⟩ := m_twin hb ha he hd we wd (f := g) (by omega)
    have D1 := u1.dr hD
    have hd1 := (KM_UM (v := a) u1.um).vm wd hd
    have he1 := (KM_UM (v := b) u1.um).vm we he
    rw [f_X9_differ_103.eq_2, ck_nI hb (by omega), he.1, if_neg (nI_ge (by omega) (by omega)), e1, cl_mk, lb.eq_2]
    unfold f_X9_differ_166
    rw [nI_1]
    cases c : fop d (nP e g) with
    | none =>
      rw [if_pos (show oI none = -2 from rfl), if_pos rfl]
      obtain ⟨t2, _, e2, u2, r2⟩ := m_row D1 (by omega) (1, none, some g)
      obtain ⟨t3, e3, u3, r3⟩ := ih (g + 1) (by omega) t2 _ ((KM_UM (v := a) u2.um).vm wd hd1) ((KM_UM (v := b) u2.um).vm we he1) r2 (by simp; omega) m (by omega)
      refine ⟨t3, ?_, (u1.ue.trans u2).trans u3, by simpa using r3⟩
      exact (e2 (fun s => f_X9_differ_103 m s (nI a) (nI b) (nI (g + 1)))).trans e3
    | some q =>
      have hq := (fop_some c).1
      have w1 : vn d ≤ 40 := Nat.le_trans wd.1.1 wd.1.2.1
      rw [if_neg (show ¬ oI (some q) = -2 from ln_m2 (by omega)), if_neg (by simp), List.nil_append]
      obtain ⟨t3, e3, u3, r3⟩ := ih (g + 1) (by omega) t1 _ hd1 he1 D1 (by omega) m (by omega)
      exact ⟨t3, e3, u1.ue.trans u3, r3⟩
theorem m_dif_a (ha : a < 8) (hb : b < 8) (wd : VW d) (we : VW e) : ∀ (r f : Nat), f + r = vn d → ∀ (τ : St) (L : List Rw), VM τ a d → VM τ b e → DR τ L → L.length + r + vn e ≤ 80 → ∀ m, r < m → ∃ τ', f_X9_differ_7 m τ (nI a) (nI b) (nI f) = some (τ', ()) ∧ UE τ τ' ∧ DR τ' (L ++ (la d e r f ++ lb d e (vn e) 0)) := by
  have w1 : vn d ≤ 40 := Nat.le_trans wd.1.1 wd.1.2.1
  have w2 : vn e ≤ 40 := Nat.le_trans we.1.1 we.1.2.1
  intro r
  induction r with
  | zero =>
    intro f hf τ L hd he hD hL m hm
    obtain ⟨m, rfl⟩ : ∃ m', m = m' + 1 := ⟨m - 1, by omega⟩
    rw [f_X9_differ_7.eq_2, ck_nI ha (by omega), hd.1, if_pos (nI_le (by omega) (by omega))]
    obtain ⟨t1, e1, u1, r1⟩ := m_dif_b ha hb wd we (vn e) 0 (by omega) τ L hd he hD (by omega) fl (by have := fl_big; omega)
    exact ⟨t1, e1, u1, by simpa [la] using r1⟩
  | succ r ih =>
    intro f hf τ L hd he hD hL m hm
    obtain ⟨m, rfl⟩ : ∃ m', m = m' + 1 := ⟨m - 1, by omega⟩
    obtain ⟨t1, e1, u1⟩ := m_twin ha hb hd he wd we (f := f) (by omega)
    have D1 := u1.dr hD
    have hd1 := (KM_UM (v := a) u1.um).vm wd hd
    have he1 := (KM_UM (v := b) u1.um).vm we he
    rw [f_X9_differ_7.eq_2, ck_nI ha (by omega), hd.1, if_neg (nI_ge (by omega) (by omega)), e1, cl_mk, la.eq_2]
    have step : ∀ (t2 : St) (x : Rw), rwA d e f = x → x.2.1 = some f → x.1 < 10 → UE τ t2 → VM t2 a d → VM t2 b e → DR t2 L → ∃ τ', f_X9_differ_46 (f_X9_differ_7 m) t2 (nI x.1) (nI a) (nI b) (nI f) (oI x.2.2) = some (τ', ()) ∧ UE τ τ' ∧ DR τ' (L ++ ((if (rwA d e f).1 = 0 then [] else [rwA d e f]) ++ la d e r (f + 1) ++ lb d e (vn e) 0)) := by
      intro t2 x hx hxf hx10 u2 hd2 he2 D2
      unfold f_X9_differ_46 f_X9_differ_95
      rw [hx, nI_1]
      by_cases c : x.1 = 0
      · rw [c, if_pos n00, if_pos rfl, List.nil_append]
        obtain ⟨t3, e3, u3, r3⟩ := ih (f + 1) (by omega) t2 _ hd2 he2 D2 (by omega) m (by omega)
        exact ⟨t3, e3, u2.trans u3, r3⟩
      · rw [if_neg (fun h => c ((ln_eq0 (by omega)).mp h)), if_neg c]
        obtain ⟨t3, _, e3, u3, r3⟩ := m_row D2 (by omega) x
        obtain ⟨t4, e4, u4, r4⟩ := ih (f + 1) (by omega) t3 _ ((KM_UM (v := a) u3.um).vm wd hd2) ((KM_UM (v := b) u3.um).vm we he2) r3 (by simp; omega) m (by omega)
        refine ⟨t4, ?_, (u2.trans u3).trans u4, by simpa using r4⟩
        have := e3 (fun s => f_X9_differ_7 m s (nI a) (nI b) (nI (f + 1)))
        rw [hxf] at this
        exact this.trans e4
    cases c : fop e (nP d f) with
    | none =>
      rw [if_pos (show oI none = -2 from rfl)]
      exact step t1 (2, some f, none) (by unfold rwA; rw [c]) rfl (by show 2 < 10; omega) u1.ue hd1 he1 D1
    | some q =>
      have hq := (fop_some c).1
      rw [if_neg (show ¬ oI (some q) = -2 from ln_m2 (by omega))]
      obtain ⟨t2, e2, u2⟩ := m_code ha hb hd1 he1 wd we (f := f) (by omega) hq
      have e2 : f_X9_code t1 (nI a) (nI f) (nI b) (oI (some q)) = _ := e2
      rw [e2, cl_mk]
      exact step t2 (cdv d f e q, some f, some q) (by unfold rwA; rw [c]) rfl (cdv_lt _ _ _ _) (u1.ue.trans u2.ue) ((KM_UM (v := a) u2.um).vm wd hd1) ((KM_UM (v := b) u2.um).vm we he1) (u2.dr D1)
def mlr (d e : Vd) : List Rw := la d e (vn d) 0 ++ lb d e (vn e) 0
theorem m_differ (ha : a < 8) (hb : b < 8) (hd : VM τ a d) (he : VM τ b e) (wd : VW d) (we : VW e) : ∃ τ', f_X9_differ τ (nI a) (nI b) = some (τ', ()) ∧ UE τ τ' ∧ DR τ' (mlr d e) := by
  have w1 : vn d ≤ 40 := Nat.le_trans wd.1.1 wd.1.2.1
  have w2 : vn e ≤ 40 := Nat.le_trans we.1.1 we.1.2.1
  have u0 : UE τ (si τ 854 0 0) := ⟨fun f i hf => by simp only [gi_si, gi_sr, gi_sg, gi_sa, gr_si, rr_sr, gr_sg, gr_sa, ga_si, ga_sr, ga_sg, ga_sa, true_and, and_true, false_and, and_false, Nat.reduceEqDiff, ↓reduceIte]; rw [if_neg (by omega)], fun f i _ _ => rfl⟩
  obtain ⟨t1, e1, u1, r1⟩ := m_dif_a ha hb wd we (vn d) 0 (by omega) (si τ 854 0 0) [] ((KM_UM (v := a) u0.um).vm wd hd) ((KM_UM (v := b) u0.um).vm we he) ⟨by simp [gi_si, gi_sr, gi_sg, gi_sa, gr_si, rr_sr, gr_sg, gr_sa, ga_si, ga_sr, ga_sg, ga_sa, true_and, and_true, false_and, and_false, Nat.reduceEqDiff, ↓reduceIte]; rfl, fun i hi => absurd hi (Nat.not_lt_zero _)⟩ (by simp; omega) fl (by have := fl_big; omega)
  exact ⟨t1, e1, u0.trans u1, r1⟩
end Cm
