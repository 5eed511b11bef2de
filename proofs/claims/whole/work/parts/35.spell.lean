/-! The reference spells a path. -/
def an (d : Vd) : Nat → Nat → Nat
  | 0, f => f
  | k + 1, f => (oH d (an d k f)).getD 0
theorem an_ok {d : Vd} (w : WT d) {f : Nat} (hf : f < vn d) : ∀ k, k ≤ vd d f → an d k f < vn d ∧ vd d (an d k f) = vd d f - k := by
  intro k
  induction k with
  | zero => exact fun _ => ⟨hf, rfl⟩
  | succ k ih =>
    intro hk
    obtain ⟨h1, h2⟩ := ih (by omega)
    rcases (w _ h1).2.2 with ⟨a, b, _⟩ | ⟨h, a, b, c, _⟩
    · omega
    · show (oH d (an d k f)).getD 0 < vn d ∧ vd d ((oH d (an d k f)).getD 0) = _
      rw [b]
      exact ⟨Nat.lt_trans a h1, by show vd d h = _; omega⟩
theorem an_up {d : Vd} (w : WT d) {f : Nat} (hf : f < vn d) {k : Nat} (hk : k < vd d f) : oH d (an d k f) = some (an d (k + 1) f) ∧ nP d (an d k f) = nP d (an d (k + 1) f) ++ 46 :: nN d (an d k f) := by
  obtain ⟨h1, h2⟩ := an_ok w hf k (by omega)
  rcases (w _ h1).2.2 with ⟨a, b, _⟩ | ⟨h, a, b, c, e⟩
  · omega
  · have : an d (k + 1) f = h := by show (oH d (an d k f)).getD 0 = h; rw [b]; rfl
    rw [this]
    exact ⟨b, e⟩
theorem an_top {d : Vd} (w : WT d) {f : Nat} (hf : f < vn d) : oH d (an d (vd d f) f) = none ∧ nP d (an d (vd d f) f) = nN d (an d (vd d f) f) := by
  obtain ⟨h1, h2⟩ := an_ok w hf (vd d f) (Nat.le_refl _)
  rcases (w _ h1).2.2 with ⟨a, b, c⟩ | ⟨h, a, b, c, e⟩
  · exact ⟨a, c⟩
  · omega
theorem an_sh {d : Vd} {f h : Nat} (e : oH d f = some h) : ∀ k, an d (k + 1) f = an d k h := by
  intro k
  induction k with
  | zero =>
    show (oH d f).getD 0 = h
    rw [e]
    rfl
  | succ k ih =>
    show (oH d (an d (k + 1) f)).getD 0 = (oH d (an d k h)).getD 0
    rw [ih]
theorem path_len {d : Vd} (w : WT d) : ∀ f, f < vn d → (nP d f).length ≤ 13 * vd d f + 12 := by
  intro f
  induction f using Nat.strongRecOn with
  | ind f ih =>
    intro hf
    have hn := (w f hf).1.2.1
    rcases (w f hf).2.2 with ⟨a, b, c⟩ | ⟨h, a, b, c, e⟩
    · rw [c]
      omega
    · have := ih h a (by omega)
      rw [e, List.length_append, List.length_cons]
      omega
theorem path_len64 {d : Vd} (w : WT d) {f : Nat} (hf : f < vn d) : (nP d f).length ≤ 64 := by
  have := path_len w f hf
  have := (w f hf).2.1
  omega
/-- bytes of names and points -/
def PC (c : Nat) : Prop := NC c ∨ c = 46
theorem path_ch {d : Vd} (w : WT d) : ∀ f, f < vn d → ∀ c, c ∈ nP d f → PC c := by
  intro f
  induction f using Nat.strongRecOn with
  | ind f ih =>
    intro hf c hc
    have hn := (w f hf).1.2.2
    rcases (w f hf).2.2 with ⟨_, _, e⟩ | ⟨h, a, b, _, e⟩
    · rw [e] at hc
      exact Or.inl (hn c hc)
    · rw [e] at hc
      rcases List.mem_append.mp hc with hc | hc
      · exact ih h a (by omega) c hc
      · rcases List.mem_cons.mp hc with rfl | hc
        · exact Or.inr rfl
        · exact Or.inl (hn c hc)
/-- all but the spelling's own rows stays -/
def US (arr : Nat) (τ τ' : St) : Prop := (∀ f i, gi τ' f i = gi τ f i) ∧ (∀ f i, ¬ (f = 1 ∧ i = 25) → ¬ (f = 2 ∧ i = arr) → ga τ' f i = ga τ f i)
theorem US.refl' {arr : Nat} (τ : St) : US arr τ τ := ⟨fun _ _ => rfl, fun _ _ _ _ => rfl⟩
theorem US.trans {arr : Nat} {τ τ1 τ2 : St} (h : US arr τ τ1) (g : US arr τ1 τ2) : US arr τ τ2 := ⟨fun f i => (g.1 f i).trans (h.1 f i), fun f i a b => (g.2 f i a b).trans (h.2 f i a b)⟩
theorem US.um {arr : Nat} {τ τ' : St} (h : US arr τ τ') (ha : arr = 7 ∨ arr = 8) : UM τ τ' := ⟨⟨h.1 _ _, h.1 _ _, h.1 _ _⟩, h.2 4 0 (by omega) (by omega), fun i hi => h.2 1 i (by omega) (by omega), fun i hi => h.2 2 i (by omega) (by omega)⟩
section Sp
variable {τ : St} {v arr : Nat} {d : Vd}
theorem sp_up (ha : arr = 7 ∨ arr = 8) (hv : v < 8) (w : VW d) : ∀ (e : Nat) (τ : St), VM τ v d → ∀ (f c : Nat), f < vn d → vd d f = e → c + e ≤ 5 → ∀ m, e + 1 < m → ∃ τ1, f_X9_spell_6 m τ (nI v) arr (nI c) (nI f) = f_X9_spell_51 fl τ1 (nI v) arr 0 (nI (c + e + 1) - 1) ∧ US arr τ τ1 ∧ (∀ i, i < c → ga τ1 1 25 i = ga τ 1 25 i) ∧ (∀ i, i ≤ e → ga τ1 1 25 (c + i) = nI (an d i f)) ∧ ga τ1 2 arr = ga τ 2 arr := by
  intro e
  have w40 : vn d ≤ 40 := Nat.le_trans w.1.1 w.1.2.1
  induction e with
  | zero =>
    intro τ h f c hf he hc m hm
    obtain ⟨m, rfl⟩ : ∃ m', m = m' + 2 := ⟨m - 2, by omega⟩
    have hh : oH d f = none := by
      rcases (w.2.1 f hf).2.2 with ⟨a, b, c⟩ | ⟨h, a, b, c, _⟩
      · exact a
      · omega
    have hF := (h.2.2.2.1 f hf).1.2.2.2.1
    rw [hh] at hF
    refine ⟨sa τ 1 25 c (nI f), ?_, ⟨fun _ _ => rfl, fun g i h1 h2 => ?_⟩, fun i hi => ?_, fun i hi => ?_, ?_⟩
    · unfold f_X9_spell_6
      rw [if_neg (ln_m2 (by omega)), ck_nI (by omega) (by omega)]
      simp (disch := omega) only [bnd, gi_si, gi_sr, gi_sg, gi_sa, gr_si, rr_sr, gr_sg, gr_sa, ga_si, ga_sr, ga_sg, ga_sa, true_and, and_true, false_and, and_false, Nat.reduceEqDiff, ↓reduceIte, ln_le, ln_lt, ln_eq, ln_neg, ln_0le, ln_le0, ln_0lt, ln_eq0, nI_1, nI_add, ln_40, ln_12, ln_8, ck_nI, ck_0]
      rw [hF]
      unfold f_X9_spell_6
      rw [if_pos (show oI none = -2 from rfl)]
    · simp only [gi_si, gi_sr, gi_sg, gi_sa, gr_si, rr_sr, gr_sg, gr_sa, ga_si, ga_sr, ga_sg, ga_sa, true_and, and_true, false_and, and_false, Nat.reduceEqDiff, ↓reduceIte]
      rw [if_neg h1]
    · simp only [gi_si, gi_sr, gi_sg, gi_sa, gr_si, rr_sr, gr_sg, gr_sa, ga_si, ga_sr, ga_sg, ga_sa, true_and, and_true, false_and, and_false, Nat.reduceEqDiff, ↓reduceIte]
      unfold upd
      rw [if_neg (by omega)]
    · have : i = 0 := by omega
      subst this
      simp only [gi_si, gi_sr, gi_sg, gi_sa, gr_si, rr_sr, gr_sg, gr_sa, ga_si, ga_sr, ga_sg, ga_sa, true_and, and_true, false_and, and_false, Nat.reduceEqDiff, ↓reduceIte]
      unfold upd
      rw [if_pos (by omega)]
      rfl
    · simp only [gi_si, gi_sr, gi_sg, gi_sa, gr_si, rr_sr, gr_sg, gr_sa, ga_si, ga_sr, ga_sg, ga_sa, true_and, and_true, false_and, and_false, Nat.reduceEqDiff, ↓reduceIte]
  | succ e ih =>
    intro τ h f c hf he hc m hm
    obtain ⟨m, rfl⟩ : ∃ m', m = m' + 1 := ⟨m - 1, by omega⟩
    obtain ⟨p, hp, hh, hd, _⟩ : ∃ h, h < f ∧ oH d f = some h ∧ vd d f = vd d h + 1 ∧ nP d f = nP d h ++ 46 :: nN d f := by
      rcases (w.2.1 f hf).2.2 with ⟨a, b, c⟩ | h
      · omega
      · exact h
    have hF := (h.2.2.2.1 f hf).1.2.2.2.1
    rw [hh] at hF
    have u0 : US arr τ (sa τ 1 25 c (nI f)) := by
      refine ⟨fun _ _ => rfl, fun g i h1 h2 => ?_⟩
      simp only [gi_si, gi_sr, gi_sg, gi_sa, gr_si, rr_sr, gr_sg, gr_sa, ga_si, ga_sr, ga_sg, ga_sa, true_and, and_true, false_and, and_false, Nat.reduceEqDiff, ↓reduceIte]
      rw [if_neg h1]
    obtain ⟨τ1, g1, g2, g3, g4, g5⟩ := ih (sa τ 1 25 c (nI f)) ((KM_UM (u0.um ha)).vm w h) p (c + 1) (by omega) (by omega) (by omega) m (by omega)
    refine ⟨τ1, ?_, u0.trans g2, fun i hi => ?_, fun i hi => ?_, ?_⟩
    · unfold f_X9_spell_6
      rw [if_neg (ln_m2 (by omega)), ck_nI (by omega) (by omega)]
      simp (disch := omega) only [bnd, gi_si, gi_sr, gi_sg, gi_sa, gr_si, rr_sr, gr_sg, gr_sa, ga_si, ga_sr, ga_sg, ga_sa, true_and, and_true, false_and, and_false, Nat.reduceEqDiff, ↓reduceIte, ln_le, ln_lt, ln_eq, ln_neg, ln_0le, ln_le0, ln_0lt, ln_eq0, nI_1, nI_add, ln_40, ln_12, ln_8, ck_nI, ck_0]
      rw [hF]
      show f_X9_spell_6 m _ _ _ (nI (c + 1)) (nI p) = _
      rw [g1]
      congr 2
      congr 1
      omega
    · rw [g3 i (by omega)]
      simp only [gi_si, gi_sr, gi_sg, gi_sa, gr_si, rr_sr, gr_sg, gr_sa, ga_si, ga_sr, ga_sg, ga_sa, true_and, and_true, false_and, and_false, Nat.reduceEqDiff, ↓reduceIte]
      unfold upd
      rw [if_neg (by omega)]
    · by_cases hi0 : i = 0
      · subst hi0
        rw [g3 (c + 0) (by omega)]
        simp only [gi_si, gi_sr, gi_sg, gi_sa, gr_si, rr_sr, gr_sg, gr_sa, ga_si, ga_sr, ga_sg, ga_sa, true_and, and_true, false_and, and_false, Nat.reduceEqDiff, ↓reduceIte]
        unfold upd
        rw [if_pos (by omega)]
        rfl
      · obtain ⟨i, rfl⟩ : ∃ i', i = i' + 1 := ⟨i - 1, by omega⟩
        rw [an_sh hh, ← g4 i (by omega)]
        congr 1
        omega
    · rw [g5]
      simp only [gi_si, gi_sr, gi_sg, gi_sa, gr_si, rr_sr, gr_sg, gr_sa, ga_si, ga_sr, ga_sg, ga_sa, true_and, and_true, false_and, and_false, Nat.reduceEqDiff, ↓reduceIte]
theorem lb_arr (ha : arr = 7 ∨ arr = 8) : lenMb.getD arr 0 = 128 := by rcases ha with rfl | rfl <;> rfl
theorem sp_name (ha : arr = 7 ∨ arr = 8) {g : Nat} (hg : g < 320) {N : List Nat} (k51 : St → Int32 → Nat → Int32 → Int32 → Option (St × Int32)) (q : Nat) (hN : N.length ≤ 12) : ∀ (r i : Nat), i + r = N.length → ∀ (τ : St) (l : List Nat), ga τ 1 3 g = nI N.length → Bs (ga τ 2 3) (12 * g) N → Bs (ga τ 2 arr) 0 l → l.length + r < 128 → q < 100 → ∀ m, r < m → ∃ τ1, f_X9_spell_73 k51 m τ (nI v) arr (nI l.length) (nI q) (nI g) (nI i) = k51 τ1 (nI v) arr (nI (l ++ N.drop i ++ (if q = 0 then [] else [46])).length) (nI q + (-1)) ∧ US arr τ τ1 ∧ ga τ1 1 25 = ga τ 1 25 ∧ Bs (ga τ1 2 arr) 0 (l ++ N.drop i ++ (if q = 0 then [] else [46])) := by
  have hl := lb_arr ha
  intro r
  induction r with
  | zero =>
    intro i hi τ l h1 h2 h3 h4 hq m hm
    obtain ⟨m, rfl⟩ : ∃ m', m = m' + 1 := ⟨m - 1, by omega⟩
    rw [List.drop_eq_nil_of_le (by omega), List.append_nil]
    by_cases e : q = 0
    · subst e
      refine ⟨τ, ?_, US.refl' τ, rfl, by simpa using h3⟩
      unfold f_X9_spell_73
      rw [ck_nI hg (by omega), h1, if_pos ((ln_le (by omega) (by omega)).mpr (by omega)), if_pos ((ln_le0 (by omega)).mpr rfl)]
      simp [f_X9_spell_125]
    · rw [if_neg e]
      refine ⟨sa τ 2 arr l.length (sB 46), ?_, ⟨fun _ _ => rfl, fun f i h1 h2 => ?_⟩, ?_, Bs_app (fun i hi => ?_) (fun i hi => ?_)⟩
      · unfold f_X9_spell_73
        rw [ck_nI hg (by omega), h1, if_pos ((ln_le (by omega) (by omega)).mpr (by omega)), if_neg (fun hh => e ((ln_le0 (by omega)).mp hh)), hl, ck_nI (by omega) (by omega)]
        simp only [bnd, f_X9_spell_125, nI_1, List.length_append, List.length_singleton]
        rfl
      · simp only [gi_si, gi_sr, gi_sg, gi_sa, gr_si, rr_sr, gr_sg, gr_sa, ga_si, ga_sr, ga_sg, ga_sa, true_and, and_true, false_and, and_false, Nat.reduceEqDiff, ↓reduceIte]
        rw [if_neg h2]
      · simp only [gi_si, gi_sr, gi_sg, gi_sa, gr_si, rr_sr, gr_sg, gr_sa, ga_si, ga_sr, ga_sg, ga_sa, true_and, and_true, false_and, and_false, Nat.reduceEqDiff, ↓reduceIte]
      · simp only [gi_si, gi_sr, gi_sg, gi_sa, gr_si, rr_sr, gr_sg, gr_sa, ga_si, ga_sr, ga_sg, ga_sa, true_and, and_true, false_and, and_false, Nat.reduceEqDiff, ↓reduceIte]
        unfold upd
        rw [if_neg (by omega)]
        exact h3 i hi
      · have : i = 0 := by simpa using hi
        subst this
        simp only [gi_si, gi_sr, gi_sg, gi_sa, gr_si, rr_sr, gr_sg, gr_sa, ga_si, ga_sr, ga_sg, ga_sa, true_and, and_true, false_and, and_false, Nat.reduceEqDiff, ↓reduceIte]
        unfold upd
        rw [if_pos (by omega)]
        rfl
  | succ r ih =>
    intro i hi τ l h1 h2 h3 h4 hq m hm
    obtain ⟨m, rfl⟩ : ∃ m', m = m' + 1 := ⟨m - 1, by omega⟩
    have hb := h2 i (by omega)
    have u0 : US arr τ (sa τ 2 arr l.length (sB (el N i))) := by
      refine ⟨fun _ _ => rfl, fun g i h1 h2 => ?_⟩
      simp only [gi_si, gi_sr, gi_sg, gi_sa, gr_si, rr_sr, gr_sg, gr_sa, ga_si, ga_sr, ga_sg, ga_sa, true_and, and_true, false_and, and_false, Nat.reduceEqDiff, ↓reduceIte]
      rw [if_neg h2]
    obtain ⟨τ1, g1, g2, g3, g4⟩ := ih (i + 1) (by omega) (sa τ 2 arr l.length (sB (el N i))) (l ++ [el N i]) (by rw [u0.2 1 3 (by omega) (by omega)]; exact h1) (by rw [u0.2 2 3 (by omega) (by omega)]; exact h2) (by
      refine Bs_app (fun i hi => ?_) (fun i hi => ?_)
      · simp only [gi_si, gi_sr, gi_sg, gi_sa, gr_si, rr_sr, gr_sg, gr_sa, ga_si, ga_sr, ga_sg, ga_sa, true_and, and_true, false_and, and_false, Nat.reduceEqDiff, ↓reduceIte]
        unfold upd
        rw [if_neg (by omega)]
        exact h3 i hi
      · have : i = 0 := by simpa using hi
        subst this
        simp only [gi_si, gi_sr, gi_sg, gi_sa, gr_si, rr_sr, gr_sg, gr_sa, ga_si, ga_sr, ga_sg, ga_sa, true_and, and_true, false_and, and_false, Nat.reduceEqDiff, ↓reduceIte]
        unfold upd
        rw [if_pos (by omega)]
        rfl) (by simp; omega) hq m (by omega)
    have ed : l ++ N.drop i = l ++ [el N i] ++ N.drop (i + 1) := by
      rw [drop_c (by omega)]
      simp
    rw [ed]
    refine ⟨τ1, ?_, u0.trans g2, ?_, g4⟩
    · unfold f_X9_spell_73
      rw [ck_nI hg (by omega), h1, if_neg (nI_ge (by omega) (by omega))]
      simp (disch := omega) only [bnd, hl, ln_le, ln_lt, ln_eq, ln_neg, ln_0le, ln_le0, ln_0lt, ln_eq0, nI_1, nI_add, ln_40, ln_12, ln_8, ck_nI, ck_0]
      rw [hb, sB_nar]
      rw [← g1, List.length_append, List.length_singleton]
    · rw [g3]
      simp only [gi_si, gi_sr, gi_sg, gi_sa, gr_si, rr_sr, gr_sg, gr_sa, ga_si, ga_sr, ga_sg, ga_sa, true_and, and_true, false_and, and_false, Nat.reduceEqDiff, ↓reduceIte]
theorem sp_down (ha : arr = 7 ∨ arr = 8) (hv : v < 8) (w : VW d) {f : Nat} (hf : f < vn d) : ∀ (q : Nat), q ≤ vd d f + 1 → ∀ (τ : St) (l : List Nat), VM τ v d → (∀ i, i ≤ vd d f → ga τ 1 25 i = nI (an d i f)) → Bs (ga τ 2 arr) 0 l → l = (if q = vd d f + 1 then [] else if q = 0 then nP d f else nP d (an d q f) ++ [46]) → ∀ m, q < m → ∃ τ1, f_X9_spell_51 m τ (nI v) arr (nI l.length) (nI q - 1) = some (τ1, nI (nP d f).length) ∧ US arr τ τ1 ∧ Bs (ga τ1 2 arr) 0 (nP d f) := by
  have w40 : vn d ≤ 40 := Nat.le_trans w.1.1 w.1.2.1
  have hd4 := (w.2.1 f hf).2.1
  intro q
  induction q with
  | zero =>
    intro hq τ l h1 h2 h3 h4 m hm
    obtain ⟨m, rfl⟩ : ∃ m', m = m' + 1 := ⟨m - 1, by omega⟩
    rw [if_neg (by omega), if_pos rfl] at h4
    subst h4
    refine ⟨τ, ?_, US.refl' τ, h3⟩
    unfold f_X9_spell_51
    rw [if_pos (by decide)]
  | succ q ih =>
    intro hq τ l h1 h2 h3 h4 m hm
    obtain ⟨m, rfl⟩ : ∃ m', m = m' + 1 := ⟨m - 1, by omega⟩
    obtain ⟨a1, a2⟩ := an_ok w.2.1 hf q (by omega)
    have e1 : l ++ nN d (an d q f) = nP d (an d q f) := by
      by_cases c : q = vd d f
      · rw [if_pos (by omega)] at h4
        rw [h4, c, (an_top w.2.1 hf).2]
        rfl
      · rw [if_neg (by omega), if_neg (by omega)] at h4
        rw [h4, (an_up w.2.1 hf (k := q) (by omega)).2]
        simp
    have hlen : (l ++ nN d (an d q f)).length ≤ 64 := by
      rw [e1]
      exact path_len64 w.2.1 a1
    rw [List.length_append] at hlen
    obtain ⟨fm, _, _⟩ := h1.2.2.2.1 _ a1
    obtain ⟨τ1, g1, g2, g3, g4⟩ := sp_name (v := v) ha (show 40 * v + an d q f < 320 by omega) (f_X9_spell_51 m) q (w.2.1 _ a1).1.2.1 (nN d (an d q f)).length 0 (by omega) τ l fm.2.2.2.2.1 fm.2.2.2.2.2.1 h3 (by omega) (by omega) fl (by have := fl_big; omega)
    rw [List.drop_zero, e1] at g1 g4
    obtain ⟨τ2, k1, k2, k3⟩ := ih (by omega) τ1 (nP d (an d q f) ++ (if q = 0 then [] else [46])) ((KM_UM (g2.um ha)).vm w h1) (fun i hi => by rw [g3]; exact h2 i hi) g4 (by
      rw [if_neg (show ¬ q = vd d f + 1 by omega)]
      by_cases c : q = 0
      · subst c
        simp [an]
      · rw [if_neg c, if_neg c]) m (by omega)
    refine ⟨τ2, ?_, g2.trans k2, k3⟩
    unfold f_X9_spell_51
    rw [ln_pred (by omega), Nat.add_sub_cancel, if_neg (nI_pos (by omega)), ck_nI (by omega) (by omega), h2 q (by omega), ln_40, nI_add]
    refine Eq.trans g1 ?_
    rw [← k1, ← Int32.sub_eq_add_neg]
/-- the path of a field -/
theorem m_spell (ha : arr = 7 ∨ arr = 8) (hv : v < 8) (w : VW d) (h : VM τ v d) {f : Nat} (hf : f < vn d) : ∃ τ1, f_X9_spell τ (nI v) (nI f) arr = some (τ1, nI (nP d f).length) ∧ US arr τ τ1 ∧ Bs (ga τ1 2 arr) 0 (nP d f) := by
  have hd4 := (w.2.1 f hf).2.1
  obtain ⟨τ1, g1, g2, g3, g4, g5⟩ := sp_up ha hv w (vd d f) τ h f 0 hf rfl (by omega) fl (by have := fl_big; omega)
  obtain ⟨τ2, k1, k2, k3⟩ := sp_down ha hv w hf (vd d f + 1) (Nat.le_refl _) τ1 [] ((KM_UM (g2.um ha)).vm w h) (fun i hi => by have := g4 i hi; rwa [Nat.zero_add] at this) (fun i hi => absurd hi (Nat.not_lt_zero _)) (by rw [if_pos rfl]) fl (by have := fl_big; omega)
  refine ⟨τ2, ?_, g2.trans k2, k3⟩
  unfold f_X9_spell
  refine Eq.trans g1 ?_
  rw [Nat.zero_add]
  exact k1
end Sp
