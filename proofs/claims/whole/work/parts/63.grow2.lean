/-! grow, both sides. -/
section Gp
variable {σ τ : St} {tx : List Nat} {c : Nat} {ks ps ls : Nat → Nat}
theorem op_grow (h : RR σ τ) (x y : Int32) : OK (f_X8_grow σ x y) (f_X9_grow τ x y) := by
  obtain ⟨tx, ou, nv, W, h1, h2, h3, h4⟩ := h
  obtain ⟨σ', τ', r1, r2, r3, r4, hh⟩ := take_path h1 h2 h3 h4
  have hn := r4.1
  have hR : RR σ' τ' := ⟨[], ou, nv, W, r1, r2, r3, r4⟩
  unfold f_X8_grow f_X9_grow
  rcases hh with ⟨e1, e2⟩ | ⟨c, ks, ps, ls, n, n0, hn2, e1, e2, hM, w, hP, e5, hlx⟩
  · rw [e1, e2, cl_mk, cl_mk]
    rcases isV r4 x with ⟨v, hv, rfl, g1, g2⟩ | ⟨g1, g2⟩
    · rw [g1, g2, cl_mk, cl_mk, if_neg i10, if_neg i10]
      rcases isMet (σ := σ') (τ := τ') y with ⟨met, hm, rfl, m1, m2⟩ | ⟨m1, m2⟩
      · rw [m1, m2, cl_mk, cl_mk, if_neg i10, if_neg i10, if_pos rfl, if_pos rfl]
        exact ⟨σ', τ', -2, rfl, rfl, hR⟩
      · rw [m1, m2, cl_mk, cl_mk, if_pos rfl, if_pos rfl]
        exact ⟨σ', τ', -1, rfl, rfl, hR⟩
    · rw [g1, g2, cl_mk, cl_mk, if_pos rfl, if_pos rfl]
      exact ⟨σ', τ', -1, rfl, rfl, hR⟩
  have hc := w.cc
  rw [e1, e2, cl_mk, cl_mk]
  rcases isV r4 x with ⟨v, hv, rfl, g1, g2⟩ | ⟨g1, g2⟩
  rotate_left
  · rw [g1, g2, cl_mk, cl_mk, if_pos rfl, if_pos rfl]
    exact ⟨σ', τ', -1, rfl, rfl, hR⟩
  rw [g1, g2, cl_mk, cl_mk, if_neg i10, if_neg i10]
  rcases isMet (σ := σ') (τ := τ') y with ⟨met, hm, rfl, m1, m2⟩ | ⟨m1, m2⟩
  rotate_left
  · rw [m1, m2, cl_mk, cl_mk, if_pos rfl, if_pos rfl]
    exact ⟨σ', τ', -1, rfl, rfl, hR⟩
  rw [m1, m2, cl_mk, cl_mk, if_neg i10, if_neg i10]
  obtain ⟨a, b, wv⟩ := r4.2.2.2 v hv
  have w40 : vn (W v) ≤ 40 := Nat.le_trans wv.1.1 wv.1.2.1
  have wl := wv.1.2.1
  have g3 := m_fof (v := v) (by omega) b.pm w40 wv.2.1 hM w n0 hP
  have g3 : f_X9_fieldOf τ' (nI v) 0 (nI n) = _ := g3
  rw [if_neg (show ¬ nI n = 0 from fun e => by have := (ln_eq0 (by omega)).mp e; omega), g3, cl_mk]
  obtain ⟨hnm, ht, hk1⟩ := last_nm w n0 hP
  have h12 := hnm.2.1
  -- the class, by the length of the path
  have cls : (pj tx ps ls n 0).length ≤ 64 → ∀ K, f_X8_growByPath σ' (nI v) (nI met) = K → (if bI (decide ((pj tx ps ls n 0).length ≤ 64)) = 0 then some (σ', (-2 : Int32)) else cl (f_X8_growByPath σ' (nI v) (nI met)) fun s7 x8 => some (s7, x8)) = K := by
    intro e K hK
    rw [bI_yes e, if_neg i10, hK]
    cases K <;> rfl
  have gbp : ∀ (e : (pj tx ps ls n 0).length ≤ 64), f_X8_growByPath σ' (nI v) (nI met) = _ := fun e => by
    unfold f_X8_growByPath f_X3_length
    rw [ck_nI (by omega) (by omega), cl_mk, (hlx e).1, x_fofp a.px w40 (hlx e), cl_mk]
  cases ef : fop (W v) (pj tx ps ls n 0) with
  | some f =>
    have e : (pj tx ps ls n 0).length ≤ 64 := by
      apply Classical.byContradiction
      intro hh
      rw [fop_long wv.2.1 (by omega)] at ef
      cases ef
    have hf : f < vn (W v) := by
      have := (fm_some _ _ _ ef).2.1
      omega
    rw [cls e _ (gbp e), ef, show oI (some f) = nI f from rfl, if_neg (nI_pos (by omega)), if_neg (ln_m2 (by omega))]
    exact ⟨σ', τ', _, rfl, rfl, hR⟩
  | none =>
    rw [if_pos (show oI none = -2 from rfl)]
    -- the field above
    have eabv : (if nI n = 1 then f_X9_grow_64 τ' (-2) (nI v) (nI met) (nI n) else cl (f_X9_fieldOf τ' (nI v) 0 (nI n - 1)) fun s9 x10 => f_X9_grow_64 s9 x10 (nI v) (nI met) (nI n)) = f_X9_grow_64 τ' (oI (abv (W v) tx ps ls n)) (nI v) (nI met) (nI n) := by
      unfold abv
      by_cases c1 : n = 1
      · subst c1
        rw [if_pos (show nI 1 = 1 from rfl), if_pos rfl]
        rfl
      · rw [if_neg (show ¬ nI n = (1 : Int32) from fun e => c1 ((ln_eq (b := 1) (by omega) (by omega)).mp e)), if_neg c1, ln_pred n0]
        have hP' : isP c ks (n - 1) 0 := ⟨fun i hi => hP.1 i (by omega), fun i hi => hP.2 i (by omega)⟩
        have g4 := m_fof (v := v) (by omega) b.pm w40 wv.2.1 hM w (n := n - 1) (by omega) hP'
        have g4 : f_X9_fieldOf τ' (nI v) 0 (nI (n - 1)) = _ := g4
        rw [g4, cl_mk]
    rw [eabv]
    have hlt : ∀ h, abv (W v) tx ps ls n = some h → n ≠ 1 ∧ h < vn (W v) ∧ nP (W v) h = pj tx ps ls (n - 1) 0 := by
      intro h e
      unfold abv at e
      by_cases c1 : n = 1
      · rw [if_pos c1] at e
        cases e
      · rw [if_neg c1] at e
        have := fm_some _ _ _ e
        exact ⟨c1, by omega, by simpa using this.2.2.1⟩
    -- when the class says no
    have xno : ((pj tx ps ls n 0).length ≤ 64 → ktc (W v) tx ps ls n met = none) → (if bI (decide ((pj tx ps ls n 0).length ≤ 64)) = 0 then some (σ', (-2 : Int32)) else cl (f_X8_growByPath σ' (nI v) (nI met)) fun s7 x8 => some (s7, x8)) = some (σ', -2) := by
      intro hk
      by_cases e : (pj tx ps ls n 0).length ≤ 64
      · rw [cls e _ (gbp e), ef, if_pos (show oI none < 0 from m2_neg), x_ktc a wv w n0 hP (hlx e) hm, cl_mk, hk e, if_neg (show ¬ (0 : Int32) ≤ oI none by decide)]
      · rw [bI_no e, if_pos rfl]
    have no : ((pj tx ps ls n 0).length ≤ 64 → ktc (W v) tx ps ls n met = none) → f_X9_grow_64 τ' (oI (abv (W v) tx ps ls n)) (nI v) (nI met) (nI n) = some (τ', -2) → OK (if bI (decide ((pj tx ps ls n 0).length ≤ 64)) = 0 then some (σ', (-2 : Int32)) else cl (f_X8_growByPath σ' (nI v) (nI met)) fun s7 x8 => some (s7, x8)) (f_X9_grow_64 τ' (oI (abv (W v) tx ps ls n)) (nI v) (nI met) (nI n)) := by
      intro p q
      rw [xno p, q]
      exact ⟨σ', τ', _, rfl, rfl, hR⟩
    -- may a field come there
    by_cases cA : n = 1 ∨ ∃ h, abv (W v) tx ps ls n = some h ∧ (vk (W v) h = 5 ∨ vk (W v) h = 6)
    rotate_left
    · refine no (fun _ => ?_) ?_
      · unfold ktc hpl
        have : hpl (W v) n (abv (W v) tx ps ls n) = false := by
          unfold hpl
          cases e : abv (W v) tx ps ls n with
          | none => rw [decide_eq_false (fun h => cA (Or.inl h))]; rfl
          | some h =>
            have : ¬ (vk (W v) h = 5 ∨ vk (W v) h = 6) := fun hk => cA (Or.inr ⟨h, e, hk⟩)
            simp only [decide_eq_false this, Bool.false_and, Bool.or_false]
            exact decide_eq_false (fun h => cA (Or.inl h))
        unfold hpl at this
        rw [this]
        split
        · rfl
        · split
          · rfl
          · exact if_pos rfl
      · unfold f_X9_grow_64
        rw [if_neg (show ¬ nI n ≤ 1 from nI_ge (a := 1) (by omega) (by omega))]
        cases e : abv (W v) tx ps ls n with
        | none => rw [if_pos (show oI none = -2 from rfl)]
        | some h =>
          obtain ⟨_, hh, _⟩ := hlt h e
          have hk := (wv.2.2.2.2.1 h hh).1
          have hnk : ¬ (vk (W v) h = 5 ∨ vk (W v) h = 6) := fun hk => cA (Or.inr ⟨h, e, hk⟩)
          rw [show oI (some h) = nI h from rfl, if_neg (ln_m2 (by omega)), ln_40, nI_add, ck_nI (by omega) (by omega), (b.2.2.2.1 h hh).1.1, if_neg (show ¬ nI (vk (W v) h) = (5 : Int32) from fun e => hnk (Or.inl ((ln_eq (b := 5) (by omega) (by omega)).mp e))), ck_nI (by omega) (by omega), (b.2.2.2.1 h hh).1.1, if_neg (show ¬ nI (vk (W v) h) = (6 : Int32) from fun e => hnk (Or.inr ((ln_eq (b := 6) (by omega) (by omega)).mp e)))]
    · have r114 : f_X9_grow_64 τ' (oI (abv (W v) tx ps ls n)) (nI v) (nI met) (nI n) = f_X9_grow_114 τ' (nI v) (nI met) (oI (abv (W v) tx ps ls n)) := by
        unfold f_X9_grow_64
        by_cases c1 : n = 1
        · rw [if_pos (show nI n ≤ 1 from nI_le (b := 1) (by omega) (by omega))]
        · obtain ⟨h, e, hk'⟩ := cA.resolve_left c1
          obtain ⟨_, hh, _⟩ := hlt h e
          have hk := (wv.2.2.2.2.1 h hh).1
          rw [if_neg (show ¬ nI n ≤ 1 from nI_ge (a := 1) (by omega) (by omega)), e, show oI (some h) = nI h from rfl, if_neg (ln_m2 (by omega)), ln_40, nI_add, ck_nI (by omega) (by omega), (b.2.2.2.1 h hh).1.1]
          rcases hk' with hk' | hk'
          · rw [hk', if_pos (show nI 5 = (5 : Int32) from rfl)]
          · rw [hk', if_neg (show ¬ nI 6 = (5 : Int32) by decide), ck_nI (by omega) (by omega), (b.2.2.2.1 h hh).1.1, hk', if_pos (show nI 6 = (6 : Int32) from rfl)]
      have m830 : gi τ' 830 0 - 1 = nI (2 * (n - 1)) := by
        rw [hM.2.1, ln_pred (by omega)]
        congr 1
        omega
      have k1 := m_rules (t := 2 * (n - 1)) (by omega) b wv hm hM w (by omega)
      have k2 := m_word (t := 2 * (n - 1)) hM w (by omega)
      have z0 := m_isW w (t := 2 * (n - 1)) (by omega) (k := 0) (by decide) z_rule
      have z1 := m_isW w (t := 2 * (n - 1)) (by omega) (k := 1) (by decide) z_limit
      have r163 : f_X9_grow_114 τ' (nI v) (nI met) (oI (abv (W v) tx ps ls n)) = f_X9_grow_163 τ' (bI (decide (sw 0 = wrd tx (ps (2 * (n - 1))) (ls (2 * (n - 1))) ∨ sw 1 = wrd tx (ps (2 * (n - 1))) (ls (2 * (n - 1)))))) (nI v) (oI (abv (W v) tx ps ls n)) (nI (2 * (n - 1))) (oI (frl (W v) (wrd tx (ps (2 * (n - 1))) (ls (2 * (n - 1)))) met)) := by
        unfold f_X9_grow_114
        rw [m830, k1, cl_mk, k2, cl_mk]
        by_cases q0 : sw 0 = wrd tx (ps (2 * (n - 1))) (ls (2 * (n - 1)))
        · rw [if_pos (z0.mpr ⟨hk1, q0⟩), bI_yes (Or.inl q0)]
          rfl
        · rw [if_neg (fun e => q0 (z0.mp e).2), k2, cl_mk]
          by_cases q1 : sw 1 = wrd tx (ps (2 * (n - 1))) (ls (2 * (n - 1)))
          · rw [if_pos (z1.mpr ⟨hk1, q1⟩), bI_yes (Or.inr q1)]
            rfl
          · rw [if_neg (fun e => q1 (z1.mp e).2), bI_no (fun h => h.elim q0 q1)]
      rw [r114, r163] at no ⊢
      unfold f_X9_grow_163 at no ⊢
      by_cases q : sw 0 = wrd tx (ps (2 * (n - 1))) (ls (2 * (n - 1))) ∨ sw 1 = wrd tx (ps (2 * (n - 1))) (ls (2 * (n - 1)))
      · refine no (fun _ => ?_) ?_
        · unfold ktc
          rw [if_pos q]
        · rw [bI_yes q, if_neg i10]
      · rw [bI_no q, if_pos rfl] at no ⊢
        have ktc' : ktc (W v) tx ps ls n met = if vl (W v) ≤ vn (W v) then none else if hpl (W v) n (abv (W v) tx ps ls n) = false then none else (frl (W v) (wrd tx (ps (2 * (n - 1))) (ls (2 * (n - 1)))) met).map (rk (W v)) := by
          unfold ktc
          rw [if_neg q]
        cases er : frl (W v) (wrd tx (ps (2 * (n - 1))) (ls (2 * (n - 1)))) met with
        | none =>
          rw [er] at no ktc'
          refine no (fun _ => ?_) ?_
          · rw [ktc']
            split
            · rfl
            · split <;> rfl
          · rw [if_pos (show oI none = -2 from rfl)]
        | some r =>
          have hr : r < vr (W v) := by
            have := (fm_some _ _ _ er).2.1
            omega
          have w8 := wv.1.2.2
          rw [er] at no ktc'
          rw [show oI (some r) = nI r from rfl, if_neg (ln_m2 (by omega))] at no ⊢
          -- the depth
          by_cases cd : ∃ h, abv (W v) tx ps ls n = some h ∧ vd (W v) h = 4
          · obtain ⟨h, e, hd⟩ := cd
            obtain ⟨hn1, hh, _⟩ := hlt h e
            have hpf : hpl (W v) n (abv (W v) tx ps ls n) = false := by
              unfold hpl
              rw [e]
              simp [hn1, hd]
            refine no (fun _ => ?_) ?_
            · rw [ktc', hpf]
              split
              · rfl
              · exact if_pos rfl
            · rw [e, show oI (some h) = nI h from rfl, if_neg (ln_m2 (by omega)), m_depth (by omega) b wv hh, cl_mk, hd, if_pos (show nI 4 = (4 : Int32) from rfl)]
          · have hpt : hpl (W v) n (abv (W v) tx ps ls n) = true := by
              unfold hpl
              rcases cA with c1 | ⟨h, e, hk'⟩
              · rw [decide_eq_true c1]
                rfl
              · obtain ⟨_, hh, _⟩ := hlt h e
                have h4 := (wv.2.1 h hh).2.1
                have : vd (W v) h ≠ 4 := fun e' => cd ⟨h, e, e'⟩
                rw [e]
                dsimp only
                rw [decide_eq_true hk', decide_eq_true (show vd (W v) h < 4 by omega)]
                simp
            have r195 : (if oI (abv (W v) tx ps ls n) = -2 then f_X9_grow_195 τ' (nI v) (oI (abv (W v) tx ps ls n)) (nI (2 * (n - 1))) (nI r) else cl (f_X9_depthOf τ' (nI v) (oI (abv (W v) tx ps ls n))) fun s19 x20 => if x20 = 4 then some (s19, -2) else f_X9_grow_195 s19 (nI v) (oI (abv (W v) tx ps ls n)) (nI (2 * (n - 1))) (nI r)) = f_X9_grow_195 τ' (nI v) (oI (abv (W v) tx ps ls n)) (nI (2 * (n - 1))) (nI r) := by
              cases e : abv (W v) tx ps ls n with
              | none => rw [if_pos (show oI none = -2 from rfl)]
              | some h =>
                obtain ⟨_, hh, _⟩ := hlt h e
                have h4 := (wv.2.1 h hh).2.1
                rw [show oI (some h) = nI h from rfl, if_neg (ln_m2 (by omega)), m_depth (by omega) b wv hh, cl_mk, if_neg (show ¬ nI (vd (W v) h) = (4 : Int32) from fun e' => cd ⟨h, e, (ln_eq (b := 4) (by omega) (by omega)).mp e'⟩)]
            rw [r195] at no ⊢
            unfold f_X9_grow_195 at no ⊢
            have lb := b.2.2.1
            rw [ck_nI (show v < 8 by omega) (by omega), ck_nI (show v < 8 by omega) (by omega), b.1, b.2.2.1] at no ⊢
            by_cases cl' : vn (W v) = vl (W v)
            · refine no (fun _ => ?_) ?_
              · rw [ktc', if_pos (by omega)]
              · rw [if_pos (by rw [cl'])]
            · have hlv := wv.1.1
              rw [if_neg (fun e => cl' ((ln_eq (by omega) (by omega)).mp e)), r4.2.2.1]
              -- the path fits
              have e64 : (pj tx ps ls n 0).length ≤ 64 := by
                by_cases c1 : n = 1
                · subst c1
                  have : (pj tx ps ls 1 0) = wrd tx (ps (2 * (1 - 1))) (ls (2 * (1 - 1))) := rfl
                  rw [this]
                  omega
                · obtain ⟨h, e, hk'⟩ := cA.resolve_left c1
                  obtain ⟨_, hh, hp⟩ := hlt h e
                  have h4 := (wv.2.1 h hh).2.1
                  have : vd (W v) h ≠ 4 := fun e' => cd ⟨h, e, e'⟩
                  have hl := path_len wv.2.1 h hh
                  rw [pj_last n0 c1, ← hp, List.length_append, List.length_cons]
                  omega
              have hkt : ktc (W v) tx ps ls n met = some (rk (W v) r) := by
                rw [ktc', if_neg (by omega), hpt, if_neg (by decide)]
                rfl
              have hrk := (wv.2.2.2.2.2.2.1 r hr).1
              rw [cls e64 _ (gbp e64), ef, if_pos (show oI none < 0 from m2_neg), x_ktc a wv w n0 hP (hlx e64) hm, cl_mk, hkt, show oI (some (rk (W v) r)) = nI (rk (W v) r) from rfl, if_pos (nI_pos' (by omega)), r4.2.1]
              by_cases c8 : nv = 8
              · rw [if_neg (show ¬ nI nv < (8 : Int32) from fun e => by have := (ln_lt (b := 8) (by omega) (by omega)).mp e; omega), if_pos (show nI nv = (8 : Int32) by rw [c8]; rfl)]
                exact ⟨σ', τ', _, rfl, rfl, hR⟩
              · have h8 : nv < 8 := by omega
                rw [if_pos (show nI nv < (8 : Int32) from (ln_lt (b := 8) (by omega) (by omega)).mpr h8), if_neg (show ¬ nI nv = (8 : Int32) from fun e => c8 ((ln_eq (b := 8) (by omega) (by omega)).mp e)), ck_nI h8 (by omega), ln_8, nI_add, ck_nI (by omega) (by omega), (b.2.2.2.2 r hr).1]
                -- where it stands
                have hend : ∃ e, f_X7_endOf σ' v (oI (abv (W v) tx ps ls n)) = some (σ', nI e) ∧ f_X9_grown τ' (nI v) (oI (abv (W v) tx ps ls n)) (nI (2 * (n - 1))) (nI (rk (W v) r)) = f_X9_grown_53 τ' (nI v) (oI (abv (W v) tx ps ls n)) (nI (2 * (n - 1))) (nI (rk (W v) r)) (nI nv) (nI e) ∧ PE (W v) (abv (W v) tx ps ls n) e := by
                  unfold f_X7_endOf f_X9_grown
                  rw [ck_nI (show v < 8 by omega) (by omega), r4.2.2.1, b.1, a.1]
                  cases eo : abv (W v) tx ps ls n with
                  | none =>
                    rw [if_pos (show oI none < 0 from m2_neg), if_pos (show oI none = -2 from rfl)]
                    exact ⟨_, rfl, rfl, Or.inl ⟨rfl, rfl⟩⟩
                  | some h =>
                    obtain ⟨_, hh, hp⟩ := hlt h eo
                    rw [show oI (some h) = nI h from rfl, if_neg (nI_pos (by omega)), if_pos ((ln_lt (by omega) (by omega)).mpr hh), if_neg (ln_m2 (by omega)), nI_1]
                    exact both_end (by omega) a b wv hh f_X9_grown_53 _ _ _ (vn (W v) - (h + 1)) (h + 1) (by omega) (by omega) (fun j p q => by omega) fl (by have := fl_big; omega)
                obtain ⟨e, q1, q2, q3⟩ := hend
                obtain ⟨D0, hD⟩ : ∃ D0, D0 = (match abv (W v) tx ps ls n with | none => 0 | some h => vd (W v) h + 1) := ⟨_, rfl⟩
                have hDD : (abv (W v) tx ps ls n = none ∧ D0 = 0 ∧ pj tx ps ls n 0 = wrd tx (ps (2 * (n - 1))) (ls (2 * (n - 1)))) ∨ ∃ h, abv (W v) tx ps ls n = some h ∧ D0 = vd (W v) h + 1 ∧ D0 ≤ 4 ∧ pj tx ps ls n 0 = nP (W v) h ++ 46 :: wrd tx (ps (2 * (n - 1))) (ls (2 * (n - 1))) := by
                  rcases cA with c1 | ⟨h, e, hk'⟩
                  · subst c1
                    refine Or.inl ⟨?_, ?_, rfl⟩
                    · unfold abv
                      rw [if_pos rfl]
                    · rw [hD]
                      unfold abv
                      rw [if_pos rfl]
                  · obtain ⟨c1, hh, hp⟩ := hlt h e
                    have h4 := (wv.2.1 h hh).2.1
                    have : vd (W v) h ≠ 4 := fun e' => cd ⟨h, e, e'⟩
                    rw [e] at hD
                    have hD : D0 = vd (W v) h + 1 := hD
                    exact Or.inr ⟨h, e, hD, by omega, by rw [hp, pj_last n0 c1]⟩
                have dx0 : DX nv σ' (si σ' 603 nv (nI (vn (W v) + 1))) := DX.s6 (by omega) σ' _
                obtain ⟨s1, x1, x2, x3⟩ := x_growF (k0 := rk (W v) r) (D0 := D0) (N0 := wrd tx (ps (2 * (n - 1))) (ls (2 * (n - 1)))) (s := fun _ => 0) (show v < 8 by omega) h8 (by omega) wv (by omega) q3 (by
                  rcases hDD with ⟨p1, p2, _⟩ | ⟨h, p1, p2, p3, _⟩
                  · exact Or.inl ⟨p1, p2⟩
                  · obtain ⟨_, hh, _⟩ := hlt h p1
                    have hl := path_len wv.2.1 h hh
                    exact Or.inr ⟨h, p1, p2, by omega⟩) e64 (vn (W v) + 1) 0 (by omega) (si σ' 603 nv (nI (vn (W v) + 1))) ((dx0.kx (by omega) h8 (by omega)).vx wv.1 a) (dx0.lx (by unfold DL; omega) (hlx e64)) (by simp only [gi_si, gi_sr, gi_sg, gi_sa, gr_si, rr_sr, gr_sg, gr_sa, ga_si, ga_sr, ga_sg, ga_sa, true_and, and_true, false_and, and_false, Nat.reduceEqDiff, ↓reduceIte]) (fun j hj => absurd hj (Nat.not_lt_zero _)) fl (by have := fl_big; omega)
                have x1 : f_X7_growFrom_37 fl (si σ' 603 nv (nI (vn (W v) + 1))) nv v 1 (nI (rk (W v) r)) (oI (abv (W v) tx ps ls n)) (nI e) 0 = some (s1, ()) := x1
                obtain ⟨t1, y1, y2, y3⟩ := m_grown53 (k0 := rk (W v) r) (D0 := D0) (P0 := pj tx ps ls n 0) (H0 := abv (W v) tx ps ls n) (s := fun _ => 0) (show v < 8 by omega) h8 (by omega) wv (by omega) q3.le w (show 2 * (n - 1) ≤ c by omega) hk1 b hM
                have w7 : W7 (gv (W v) e (rk (W v) r) D0 (wrd tx (ps (2 * (n - 1))) (ls (2 * (n - 1)))) (pj tx ps ls n 0) (abv (W v) tx ps ls n) (fun _ => 0)) := gv_W7 wv q3 (by omega) hrk hnm hDD ef
                have xg : f_X7_growFrom σ' nv v 1 (nI (rk (W v) r)) = some (s1, ()) := by
                  unfold f_X7_growFrom
                  rw [lx_last (hlx e64), cl_mk, x_abv a.px w40 w n0 hP (hlx e64), cl_mk, q1, cl_mk, a.1, nI_1, if_neg (show ¬ (40 : Int32) < nI (vn (W v) + 1) from fun e => by have := (ln_lt (a := 40) (by omega) (by omega)).mp e; omega)]
                  simp only [bnd]
                  exact x1
                have dxx := dx0.trans x2
                obtain ⟨s2, s, z1', z2, z3, z4, z5, z6, z7⟩ := x_keep h8 (by rw [dxx.2.1 _ _ (by unfold DL; omega), r4.2.1]) x3 w7
                rw [xg, cl_mk, z1', cl_mk, q2, y1, cl_mk]
                simp only [bnd]
                have e810 : gi t1 810 0 + 1 = nI (nv + 1) := by rw [y2.1, r4.2.2.1, nI_1]
                rw [e810]
                simp only [gi_si, gi_sr, gi_sg, gi_sa, gr_si, rr_sr, gr_sg, gr_sa, ga_si, ga_sr, ga_sg, ga_sa, true_and, and_true, false_and, and_false, Nat.reduceEqDiff, ↓reduceIte]
                refine ⟨s2, _, _, rfl, rfl, [], ou, nv + 1, _, ?_, ?_, ?_, RV_new r4 h8 z5 (by simp only [gi_si, gi_sr, gi_sg, gi_sa, gr_si, rr_sr, gr_sg, gr_sa, ga_si, ga_sr, ga_sg, ga_sa, true_and, and_true, false_and, and_false, Nat.reduceEqDiff, ↓reduceIte]) (fun v' hv' => ?_) (fun v' hv' => ?_) z7 (withS_VM (VM_si y3)) (withS_VW w7 z6)⟩
                · refine ⟨LX_of (dxx.lx (by unfold DL; omega) r1.1) (z3 _ _ (by omega)) (z4 _ _ (by omega)), ?_, fun i hi => absurd hi (Nat.not_lt_zero _)⟩
                  simp only [gi_si, gi_sr, gi_sg, gi_sa, gr_si, rr_sr, gr_sg, gr_sa, ga_si, ga_sr, ga_sg, ga_sa, true_and, and_true, false_and, and_false, Nat.reduceEqDiff, ↓reduceIte]
                  rw [y2.1]
                  exact r1.2.1
                · refine r2.of (z2.trans dxx.1) (fun k hk => ⟨?_, ?_⟩) ?_ ?_
                  · rw [z3 _ _ (by omega), dxx.2.1 _ _ (by unfold DL; omega)]
                  · rw [z4 _ _ (by omega), dxx.2.2 _ _ (by unfold DL; omega) (by omega)]
                  · simp only [gi_si, gi_sr, gi_sg, gi_sa, gr_si, rr_sr, gr_sg, gr_sa, ga_si, ga_sr, ga_sg, ga_sa, true_and, and_true, false_and, and_false, Nat.reduceEqDiff, ↓reduceIte]
                    rw [y2.1]
                  · funext i
                    simp only [gi_si, gi_sr, gi_sg, gi_sa, gr_si, rr_sr, gr_sg, gr_sa, ga_si, ga_sr, ga_sg, ga_sa, true_and, and_true, false_and, and_false, Nat.reduceEqDiff, ↓reduceIte]
                    rw [y2.2 _ _ _ (by unfold dM; omega)]
                · rw [z3 _ _ (by omega), dxx.2.1 _ _ (by unfold DL; omega)]
                  simp only [gi_si, gi_sr, gi_sg, gi_sa, gr_si, rr_sr, gr_sg, gr_sa, ga_si, ga_sr, ga_sg, ga_sa, true_and, and_true, false_and, and_false, Nat.reduceEqDiff, ↓reduceIte]
                  rw [y2.1, r3]
                · have k := dxx.kx (u := v') (by omega) h8 (by omega)
                  refine ⟨fun f hf => ?_, fun f g p1 p2 p3 p4 => ?_, fun f q p1 p2 p3 => ?_, fun k' hk' => ⟨?_, ?_⟩, ?_⟩
                  · rw [z3 _ _ (by omega), k.1 f hf]
                  · rw [z3 _ _ (by omega), k.2.1 f g p1 p2 p3 p4]
                  · rw [z3 _ _ (by omega), k.2.2.1 f q p1 p2 p3]
                  · rw [z3 _ _ (by omega), (k.2.2.2.1 k' hk').1]
                  · rw [z4 _ _ (by omega), (k.2.2.2.1 k' hk').2]
                  · rw [z4 _ _ (by omega), k.2.2.2.2]
                · have k := y2.km (u := v') (by omega)
                  exact k
end Gp
