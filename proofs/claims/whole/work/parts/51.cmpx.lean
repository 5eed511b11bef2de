/-! The class's comparison goes along both orders. -/
theorem bt_tb (x b : Nat) : bt x b = (x.testBit b).toNat := (Nat.toNat_testBit x b).symm
theorem bt_xor (p q b : Nat) : bt (p ^^^ q) b = 0 ↔ bt p b = bt q b := by
  rw [bt_tb, bt_tb, bt_tb, Nat.testBit_xor]
  cases p.testBit b <;> cases q.testBit b <;> decide
theorem nI_xor {p q : Nat} (hp : p < 128) (hq : q < 128) : nI p ^^^ nI q = nI (p ^^^ q) ∧ p ^^^ q < 128 := by
  have h : p ^^^ q < 128 := Nat.xor_lt_two_pow (n := 7) hp hq
  refine ⟨?_, h⟩
  apply Int32.toBitVec_inj.mp
  apply BitVec.eq_of_toNat_eq
  rw [Int32.toBitVec_xor, BitVec.toNat_xor, pk_tn (by omega), pk_tn (by omega), pk_tn (by omega)]
theorem bt_x : ∀ x, x < 128 → (nI x &&& 38 = 0 ↔ bt x 1 = 0 ∧ bt x 2 = 0 ∧ bt x 5 = 0) ∧ (nI x = 0 ↔ bt x 0 = 0 ∧ bt x 1 = 0 ∧ bt x 2 = 0 ∧ bt x 3 = 0 ∧ bt x 4 = 0 ∧ bt x 5 = 0 ∧ bt x 6 = 0) ∧ nI x &&& 6 = nI (2 * bt x 1 + 4 * bt x 2) ∧ nI x &&& 1 = nI (bt x 0) ∧ (bt x 0 < 2 ∧ bt x 1 < 2 ∧ bt x 2 < 2) := by decide +kernel
theorem bt_lt (x b : Nat) : bt x b < 2 := by
  unfold bt
  omega
section Cx
variable {σ : St} {a b : Nat} {d e : Vd}
theorem x_spath (ha : a < 8) (hb : b < 8) (hd : VX σ a d) (he : VX σ b e) (wd : VW d) (we : VW e) {x y : Option Nat} (hx : ∀ c, x = some c → c < vn d) (hy : ∀ c, y = some c → c < vn e) : f_X0_isSamePath σ a (oI x) b (oI y) = some (σ, bI (spv d e x y)) := by
  have w1 : vn d ≤ 40 := Nat.le_trans wd.1.1 wd.1.2.1
  have w2 : vn e ≤ 40 := Nat.le_trans we.1.1 we.1.2.1
  unfold f_X0_isSamePath f_X0_isSamePath_8
  cases x with
  | none =>
    rw [if_pos (by decide)]
    cases y with
    | none => rfl
    | some q =>
      have := hy q rfl
      rw [if_neg]
      · rfl
      · intro h
        exact ln_m2 (by omega) h.symm
  | some p =>
    have hp := hx p rfl
    rw [if_neg (show ¬ oI (some p) < 0 from nI_pos (by omega))]
    cases y with
    | none =>
      rw [if_neg (by decide), if_neg]
      · rfl
      · exact ln_m2 (by omega)
    | some q =>
      have hq := hy q rfl
      rw [if_pos (show 0 ≤ oI (some q) from nI_pos' (by omega)), show oI (some p) = nI p from rfl, show oI (some q) = nI q from rfl, ck_nI (by omega) (by omega), ck_nI (by omega) (by omega), lx_same (hd.px.2 p hp) (he.px.2 q hq), cl_mk, cq_bI]
      rfl
theorem x_code (ha : a < 8) (hb : b < 8) (hd : VX σ a d) (he : VX σ b e) (wd : VW d) (we : VW e) {f g : Nat} (hf : f < vn d) (hg : g < vn e) : f_X0_codeOf σ a (nI f) b (nI g) = some (σ, nI (cdv d f e g)) := by
  have w1 : vn d ≤ 40 := Nat.le_trans wd.1.1 wd.1.2.1
  have w2 : vn e ≤ 40 := Nat.le_trans we.1.1 we.1.2.1
  have fd := hd.2.2.2.1 f hf
  have fe := he.2.2.2.1 g hg
  have xd := wd.2.2.2.2.1 f hf
  have xe := we.2.2.2.2.1 g hg
  obtain ⟨z1, z2⟩ := nI_xor xd.2.1 xe.2.1
  obtain ⟨t1, t2, _⟩ := bt_x _ z2
  simp only [bt_xor] at t1 t2
  unfold f_X0_codeOf f_X0_codeOf_138 f_X0_codeOf_143
  rw [if_pos (nI_pos' (by omega)), if_pos (nI_pos' (by omega)), ck_nI (by omega) (by omega), ck_nI (by omega) (by omega)]
  simp only [bnd]
  rw [fd.1.2.1, fe.1.2.1, z1, fd.1.1, fe.1.1]
  have k8 := xd.1
  have k8' := xe.1
  unfold cdv
  by_cases c1 : vk d f = vk e g
  · rw [if_pos (by rw [c1])]
    by_cases c2 : bt (vo d f) 1 = bt (vo e g) 1 ∧ bt (vo d f) 2 = bt (vo e g) 2 ∧ bt (vo d f) 5 = bt (vo e g) 5
    · rw [if_pos (t1.mpr c2), lx_same fd.1.2.2.2.2.2.2 fe.1.2.2.2.2.2.2, cl_mk]
      by_cases c3 : nB d f = nB e g
      · rw [bI_yes c3, if_neg i10, if_neg (show ¬ (vk d f ≠ vk e g ∨ bt (vo d f) 1 ≠ bt (vo e g) 1 ∨ bt (vo d f) 2 ≠ bt (vo e g) 2 ∨ nB d f ≠ nB e g) by simp [c1, c2, c3])]
        rw [fd.1.2.2.1, fe.1.2.2.1, fd.2.1, fe.2.1, x_spath ha hb hd he wd we xd.2.2.2.1 xe.2.2.2.1, cl_mk, fd.2.2, fe.2.2, x_spath ha hb hd he wd we xd.2.2.2.2.1 xe.2.2.2.2.1, cl_mk]
        have eZ : oI (oZ d f) = oI (oZ e g) ↔ oZ d f = oZ e g := by
          cases ez : oZ e g with
          | none =>
            cases ez2 : oZ d f with
            | none => simp
            | some z =>
              have := xd.2.2.2.2.2.1 z ez2
              simp
              exact ln_m2 (by omega)
          | some z => exact oI_eq (fun c hc => by have := xd.2.2.2.2.2.1 c hc; omega) (by have := xe.2.2.2.2.2.1 z ez; omega)
        by_cases c4 : nI (vo d f ^^^ vo e g) = 0
        · rw [if_pos c4]
          have b0 := (t2.mp c4).1
          by_cases c5 : oZ d f = oZ e g
          · rw [if_pos (eZ.mpr c5)]
            cases s1 : spv d e (oC d f) (oC e g) <;> cases s2 : spv d e (oO d f) (oO e g)
            · simp [bI]
              rfl
            · simp [bI]
              rfl
            · simp [bI]
              rfl
            · simp [bI, b0, c5]
              rfl
          · rw [if_neg (fun h => c5 (eZ.mp h)), if_neg i10, if_neg (fun h => c5 h.2.1)]
            rfl
        · rw [if_neg c4, if_neg i10]
          rw [if_neg]
          · rfl
          · rintro ⟨h1, h2, h3, h4⟩
            apply c4
            rw [t2]
            have q3 : bt (vo d f) 3 = bt (vo e g) 3 := by
              have m1 := xd.2.2.2.2.2.2.1
              have m2 := xe.2.2.2.2.2.2.1
              rw [h2] at m1
              have n1 := bt_lt (vo d f) 3
              have n2 := bt_lt (vo e g) 3
              by_cases y : oZ e g = none
              · simp only [y, ne_eq, not_true_eq_false, iff_false] at m1 m2
                omega
              · simp only [y, ne_eq, not_false_eq_true, iff_true] at m1 m2
                omega
            have q4 : bt (vo d f) 4 = bt (vo e g) 4 := by
              have m1 := xd.2.2.2.2.2.2.2.1
              have m2 := xe.2.2.2.2.2.2.2.1
              have n1 := bt_lt (vo d f) 4
              have n2 := bt_lt (vo e g) 4
              cases y1 : oC d f <;> cases y2 : oC e g <;> rw [y1, y2] at h3 <;> simp [spv] at h3 <;> simp [y1] at m1 <;> simp [y2] at m2 <;> omega
            have q6 : bt (vo d f) 6 = bt (vo e g) 6 := by
              have m1 := xd.2.2.2.2.2.2.2.2.2.1
              have m2 := xe.2.2.2.2.2.2.2.2.2.1
              have n1 := bt_lt (vo d f) 6
              have n2 := bt_lt (vo e g) 6
              cases y1 : oO d f <;> cases y2 : oO e g <;> rw [y1, y2] at h4 <;> simp [spv] at h4 <;> simp [y1] at m1 <;> simp [y2] at m2 <;> omega
            exact ⟨h1, c2.1, c2.2.1, q3, q4, c2.2.2, q6⟩
      · rw [bI_no c3, if_pos rfl, if_pos (Or.inr (Or.inr (Or.inr c3)))]
        rfl
    · rw [if_neg (fun h => c2 (t1.mp h)), if_pos]
      · rfl
      · by_cases c3 : nB d f = nB e g
        · have q5 : bt (vo d f) 5 = bt (vo e g) 5 := by
            have m1 := xd.2.2.2.2.2.2.2.2.1
            have m2 := xe.2.2.2.2.2.2.2.2.1
            have n1 := bt_lt (vo d f) 5
            have n2 := bt_lt (vo e g) 5
            rw [c3] at m1
            by_cases y : nB e g = []
            · simp only [y, ne_eq, not_true_eq_false, iff_false] at m1 m2
              omega
            · simp only [y, ne_eq, not_false_eq_true, iff_true] at m1 m2
              omega
          by_cases y1 : bt (vo d f) 1 = bt (vo e g) 1
          · by_cases y2 : bt (vo d f) 2 = bt (vo e g) 2
            · exact absurd ⟨y1, y2, q5⟩ c2
            · exact Or.inr (Or.inr (Or.inl y2))
          · exact Or.inr (Or.inl y1)
        · exact Or.inr (Or.inr (Or.inr c3))
  · rw [if_neg (fun h => c1 ((ln_eq (by omega) (by omega)).mp h)), if_pos (Or.inl c1)]
    rfl
def rwg (L : List Rw) (i : Nat) : Rw := L.getD i (0, none, none)
def CR (σ : St) (L : List Rw) : Prop := gi σ 3 0 = nI L.length ∧ ∀ i, i < L.length → ga σ 8 15 i = nI (rwg L i).1 ∧ ga σ 8 16 i = oI (rwg L i).2.1 ∧ ga σ 8 17 i = oI (rwg L i).2.2
def UC (σ σ' : St) : Prop := σ'.2.1 = σ.2.1 ∧ (∀ f i, ¬ f = 3 → gi σ' f i = gi σ f i) ∧ (∀ f i, ¬ (f = 8 ∧ 15 ≤ i ∧ i ≤ 17) → ga σ' f i = ga σ f i)
theorem UC.refl' (σ : St) : UC σ σ := ⟨rfl, fun _ _ _ => rfl, fun _ _ _ => rfl⟩
theorem UC.trans {σ σ1 σ2 : St} (h : UC σ σ1) (g : UC σ1 σ2) : UC σ σ2 := ⟨g.1.trans h.1, fun f i a => (g.2.1 f i a).trans (h.2.1 f i a), fun f i a => (g.2.2 f i a).trans (h.2.2 f i a)⟩
theorem UC.kx {σ σ' : St} (h : UC σ σ') {v : Nat} (hv : v < 8) : KX v σ σ' :=
  ⟨fun f hf => h.2.1 f v (by omega), fun f g h1 h2 h3 h4 => h.2.1 f g (by omega), fun f q h1 h2 h3 => h.2.1 f q (by omega), fun m hm => ⟨h.2.1 201 m (by omega), h.2.2 2 m (by omega)⟩, h.2.2 8 v (by omega)⟩
theorem rwg_app {L : List Rw} {x : Rw} {i : Nat} : rwg (L ++ [x]) i = if i < L.length then rwg L i else if i = L.length then x else (0, none, none) := by
  unfold rwg
  simp only [List.getD_eq_getElem?_getD]
  by_cases c : i < L.length
  · rw [if_pos c, List.getElem?_append_left c]
  · rw [if_neg c, List.getElem?_append_right (by omega)]
    by_cases c2 : i = L.length
    · rw [if_pos c2, c2, Nat.sub_self]
      rfl
    · rw [if_neg c2, List.getElem?_eq_none (by simp; omega)]
      rfl
theorem x_row {L : List Rw} (h : CR σ L) (hL : L.length < 80) {x : Rw} (hx : x.1 < 10) : ∃ σ', f_X0_addRow σ (nI x.1) (oI x.2.1) (oI x.2.2) = some (σ', ()) ∧ UC σ σ' ∧ CR σ' (L ++ (if x.1 = 0 then [] else [x])) := by
  unfold f_X0_addRow
  by_cases c : x.1 = 0
  · rw [if_pos c, List.append_nil, c, if_pos n00]
    exact ⟨σ, rfl, UC.refl' σ, h⟩
  · rw [if_neg c, if_neg (fun e => c ((ln_eq0 (by omega)).mp e)), h.1, show lenX 15 = 80 from rfl, show lenX 16 = 80 from rfl, show lenX 17 = 80 from rfl, if_neg (nI_ge hL (by omega)), ck_nI hL (by omega)]
    simp only [bnd, gi_sa, h.1]
    rw [ck_nI hL (by omega), ck_nI hL (by omega), nI_1]
    refine ⟨_, rfl, ⟨rfl, fun f i hf => ?_, fun f i hf => ?_⟩, ?_, fun i hi => ?_⟩
    · simp only [gi_si, gi_sr, gi_sg, gi_sa, gr_si, rr_sr, gr_sg, gr_sa, ga_si, ga_sr, ga_sg, ga_sa, true_and, and_true, false_and, and_false, Nat.reduceEqDiff, ↓reduceIte]
      rw [if_neg (by omega)]
    · simp only [gi_si, gi_sr, gi_sg, gi_sa, gr_si, rr_sr, gr_sg, gr_sa, ga_si, ga_sr, ga_sg, ga_sa, true_and, and_true, false_and, and_false, Nat.reduceEqDiff, ↓reduceIte]
      rw [if_neg (by omega), if_neg (by omega), if_neg (by omega)]
    · simp [gi_si, gi_sr, gi_sg, gi_sa, gr_si, rr_sr, gr_sg, gr_sa, ga_si, ga_sr, ga_sg, ga_sa, true_and, and_true, false_and, and_false, Nat.reduceEqDiff, ↓reduceIte]
    · rw [rwg_app]
      simp only [gi_si, gi_sr, gi_sg, gi_sa, gr_si, rr_sr, gr_sg, gr_sa, ga_si, ga_sr, ga_sg, ga_sa, true_and, and_true, false_and, and_false, Nat.reduceEqDiff, ↓reduceIte]
      unfold upd
      by_cases c1 : i = L.length
      · subst c1
        simp
      · have : i < L.length := by simp at hi; omega
        rw [if_pos this]
        simp only [c1, if_false]
        exact h.2 i this
theorem x_side (ha : a < 8) (hb : b < 8) (hd : VX σ a d) (he : VX σ b e) (wd : VW d) (we : VW e) {i j : Nat} (hi : i ≤ vn d) (hj : j ≤ vn e) : ∃ s : Int32, f_X0_sideOfNext σ a (nI i) b (nI j) = some (σ, s) ∧ s.toInt = sd d e i j := by
  have w1 : vn d ≤ 40 := Nat.le_trans wd.1.1 wd.1.2.1
  have w2 : vn e ≤ 40 := Nat.le_trans we.1.1 we.1.2.1
  unfold f_X0_sideOfNext sd
  rw [hd.1, he.1]
  by_cases c1 : vn d ≤ i
  · rw [if_neg (nI_nlt (by omega) (by omega)), if_pos c1]
    exact ⟨1, rfl, by decide⟩
  · rw [if_pos (nI_lt (by omega) (by omega)), if_neg c1]
    by_cases c2 : vn e ≤ j
    · rw [if_neg (nI_nlt (by omega) (by omega)), if_pos c2]
      exact ⟨-1, rfl, by decide⟩
    · have l1 : lenX a = 40 := by unfold lenX; rw [if_pos ha]
      have l2 : lenX b = 40 := by unfold lenX; rw [if_pos hb]
      have o1 := wd.2.2.2.2.2.2.2.1 i (by omega)
      have o2 := we.2.2.2.2.2.2.2.1 j (by omega)
      have q1 := path_len64 wd.2.1 o1
      have q2 := path_len64 we.2.1 o2
      rw [if_pos (nI_lt (by omega) (by omega)), if_neg c2, l1, l2, ck_nI (by omega) (by omega), hd.2.2.2.2.2 i (by omega), ck_nI (by omega) (by omega), ck_nI (by omega) (by omega), he.2.2.2.2.2 j (by omega), ck_nI (by omega) (by omega), lx_comp (hd.px.2 _ o1) (he.px.2 _ o2), cl_mk]
      exact ⟨_, rfl, cmI_Z _ _ (by omega) (by omega) (path_by wd.2.1 o1) (path_by we.2.1 o2)⟩
theorem cdv_lt (d : Vd) (f : Nat) (e : Vd) (g : Nat) : cdv d f e g < 10 := by
  unfold cdv
  repeat' split
  all_goals omega
theorem x_cmp_loop (ha : a < 8) (hb : b < 8) (wd : VW d) (we : VW e) : ∀ (r k : Nat), k + r = vn d + vn e → ∀ (σ : St) (i j : Nat) (L : List Rw), VX σ a d → VX σ b e → i ≤ vn d → j ≤ vn e → CR σ L → L.length + r ≤ 80 → ∀ m, r < m → ∃ σ', f_X0_compare_24 m σ a b (nI i) (nI j) (nI (vn d + vn e)) (nI k) = some (σ', ()) ∧ UC σ σ' ∧ CR σ' (L ++ mg d e r i j) := by
  have w1 : vn d ≤ 40 := Nat.le_trans wd.1.1 wd.1.2.1
  have w2 : vn e ≤ 40 := Nat.le_trans we.1.1 we.1.2.1
  intro r
  induction r with
  | zero =>
    intro k hk σ i j L hd he hi hj hC hL m hm
    obtain ⟨m, rfl⟩ : ∃ m', m = m' + 1 := ⟨m - 1, by omega⟩
    refine ⟨σ, ?_, UC.refl' σ, by simpa [mg] using hC⟩
    rw [f_X0_compare_24.eq_2, if_pos (nI_le (by omega) (by omega))]
  | succ r ih =>
    intro k hk σ i j L hd he hi hj hC hL m hm
    obtain ⟨m, rfl⟩ : ∃ m', m = m' + 1 := ⟨m - 1, by omega⟩
    rw [f_X0_compare_24.eq_2, if_neg (nI_ge (by omega) (by omega)), hd.1, he.1, mg.eq_2]
    by_cases c : vn d ≤ i ∧ vn e ≤ j
    · rw [if_pos c, if_neg (nI_nlt (by omega) (by omega)), if_pos (nI_le (by omega) (by omega)), List.append_nil]
      exact ⟨σ, rfl, UC.refl' σ, hC⟩
    · rw [if_neg c]
      have main : ∃ σ', f_X0_compare_48 (f_X0_compare_24 m) σ a b (nI i) (nI j) (nI (vn d + vn e)) (nI k) = some (σ', ()) ∧ UC σ σ' ∧ CR σ' (L ++ ((if (mgr d e i j).1 = 0 then [] else [mgr d e i j]) ++ mg d e r (i + (if sd d e i j ≤ 0 then 1 else 0)) (j + (if 0 ≤ sd d e i j then 1 else 0)))) := by
        obtain ⟨s, es, hs⟩ := x_side ha hb hd he wd we hi hj
        have l1 : lenX a = 40 := by unfold lenX; rw [if_pos ha]
        have l2 : lenX b = 40 := by unfold lenX; rw [if_pos hb]
        have z0 : (0 : Int32).toInt = 0 := by decide
        have s_neg : s < 0 ↔ sd d e i j < 0 := by rw [pr_lt, hs, z0]
        have s_pos : 0 < s ↔ 0 < sd d e i j := by rw [pr_lt, hs, z0]
        have fin : ∀ (x : Rw), x.1 < 10 → mgr d e i j = x → i + (if sd d e i j ≤ 0 then 1 else 0) ≤ vn d → j + (if 0 ≤ sd d e i j then 1 else 0) ≤ vn e → f_X0_codeOf σ a (oI x.2.1) b (oI x.2.2) = some (σ, nI x.1) → ∃ σ', f_X0_compare_93 (f_X0_compare_24 m) σ (oI x.2.2) a b (nI i) (nI j) (nI (vn d + vn e)) (nI k) s (oI x.2.1) = some (σ', ()) ∧ UC σ σ' ∧ CR σ' (L ++ ((if (mgr d e i j).1 = 0 then [] else [mgr d e i j]) ++ mg d e r (i + (if sd d e i j ≤ 0 then 1 else 0)) (j + (if 0 ≤ sd d e i j then 1 else 0)))) := by
          intro x hx hm hi' hj' hcode
          obtain ⟨s1, e1, u1, r1⟩ := x_row hC (by omega) hx
          have hlen : (L ++ (if x.1 = 0 then [] else [x])).length ≤ L.length + 1 := by
            rw [List.length_append]
            split <;> simp
          obtain ⟨s2, e2, u2, r2⟩ := ih (k + 1) (by omega) s1 (i + (if sd d e i j ≤ 0 then 1 else 0)) (j + (if 0 ≤ sd d e i j then 1 else 0)) _ ((u1.kx ha).vx wd.1 hd) ((u1.kx hb).vx we.1 he) hi' hj' r1 (by omega) m (by omega)
          refine ⟨s2, ?_, u1.trans u2, ?_⟩
          · unfold f_X0_compare_93 f_X0_compare_123 f_X0_compare_137
            rw [hcode, cl_mk, e1, cl_mk, nI_1, nI_1, nI_1, Int32.add_zero, Int32.add_zero]
            rw [← e2]
            by_cases p1 : 0 < sd d e i j
            · have p2 : ¬ sd d e i j < 0 := by omega
              have p3 : ¬ sd d e i j ≤ 0 := by omega
              have p4 : 0 ≤ sd d e i j := by omega
              rw [if_pos (s_pos.mpr p1), if_neg (fun h => p2 (s_neg.mp h)), if_neg p3, if_pos p4]
              simp only [Nat.add_zero]
            · rw [if_neg (fun h => p1 (s_pos.mp h))]
              by_cases p2 : sd d e i j < 0
              · have p3 : sd d e i j ≤ 0 := by omega
                have p4 : ¬ 0 ≤ sd d e i j := by omega
                rw [if_pos (s_neg.mpr p2), if_pos p3, if_neg p4]
                simp only [Nat.add_zero]
              · have p3 : sd d e i j ≤ 0 := by omega
                have p4 : 0 ≤ sd d e i j := by omega
                rw [if_neg (fun h => p2 (s_neg.mp h)), if_pos p3, if_pos p4]
          · rw [hm]
            simpa using r2
        unfold f_X0_compare_48
        rw [es, cl_mk]
        unfold f_X0_compare_74
        by_cases p1 : 0 < sd d e i j
        · have hj2 : j < vn e := by
            unfold sd at p1
            by_cases ci : vn d ≤ i
            · omega
            · rw [if_neg ci] at p1
              split at p1 <;> omega
          rw [if_pos (s_pos.mpr p1), if_neg (fun h => by have := s_neg.mp h; omega), l2, ck_nI (by omega) (by omega), he.2.2.2.2.2 j hj2]
          refine fin (1, none, some (vs e j)) (by show 1 < 10; omega) (by unfold mgr; rw [if_neg (by omega), if_neg (by omega)]) (by rw [if_neg (by omega)]; omega) (by rw [if_pos (by omega)]; omega) ?_
          unfold f_X0_codeOf
          dsimp only
          rw [if_neg (by decide)]
          rfl
        · rw [if_neg (fun h => p1 (s_pos.mp h)), l1]
          have hi2 : i < vn d := by
            unfold sd at p1
            split at p1
            · omega
            · omega
          rw [ck_nI (by omega) (by omega), hd.2.2.2.2.2 i hi2]
          have oi := wd.2.2.2.2.2.2.2.1 i hi2
          by_cases p2 : sd d e i j < 0
          · rw [if_pos (s_neg.mpr p2)]
            refine fin (2, some (vs d i), none) (by show 2 < 10; omega) (by unfold mgr; rw [if_pos p2]) (by rw [if_pos (by omega)]; omega) (by rw [if_neg (by omega)]; omega) ?_
            unfold f_X0_codeOf
            dsimp only
            rw [if_pos (show 0 ≤ oI (some (vs d i)) from nI_pos' (by omega)), if_neg (by decide)]
            rfl
          · have hj2 : j < vn e := by
              have p0 : sd d e i j = 0 := by omega
              unfold sd at p0
              rw [if_neg (by omega)] at p0
              split at p0 <;> omega
            have oj := we.2.2.2.2.2.2.2.1 j hj2
            rw [if_neg (fun h => p2 (s_neg.mp h)), l2, ck_nI (by omega) (by omega), he.2.2.2.2.2 j hj2]
            exact fin (cdv d (vs d i) e (vs e j), some (vs d i), some (vs e j)) (cdv_lt _ _ _ _) (by unfold mgr; rw [if_neg p2, if_pos (by omega)]) (by rw [if_pos (by omega)]; omega) (by rw [if_pos (by omega)]; omega) (x_code ha hb hd he wd we oi oj)
      by_cases c1 : i < vn d
      · rw [if_pos (nI_lt c1 (by omega))]
        exact main
      · rw [if_neg (nI_nlt (by omega) (by omega)), if_neg (nI_ge (by omega) (by omega))]
        exact main
theorem x_cmp (ha : a < 8) (hb : b < 8) (hd : VX σ a d) (he : VX σ b e) (wd : VW d) (we : VW e) : ∃ σ', f_X0_compare σ a b = some (σ', ()) ∧ UC σ σ' ∧ CR σ' (mg d e (vn d + vn e) 0 0) := by
  have w1 : vn d ≤ 40 := Nat.le_trans wd.1.1 wd.1.2.1
  have w2 : vn e ≤ 40 := Nat.le_trans we.1.1 we.1.2.1
  have u0 : UC σ (si σ 3 0 0) := ⟨rfl, fun f i hf => by simp only [gi_si, gi_sr, gi_sg, gi_sa, gr_si, rr_sr, gr_sg, gr_sa, ga_si, ga_sr, ga_sg, ga_sa, true_and, and_true, false_and, and_false, Nat.reduceEqDiff, ↓reduceIte]; rw [if_neg (by omega)], fun f i _ => rfl⟩
  obtain ⟨s1, e1, u1, r1⟩ := x_cmp_loop (a := a) (b := b) ha hb wd we (vn d + vn e) 0 (by omega) (si σ 3 0 0) 0 0 [] ((u0.kx ha).vx wd.1 hd) ((u0.kx hb).vx we.1 he) (Nat.zero_le _) (Nat.zero_le _) ⟨by simp [gi_si, gi_sr, gi_sg, gi_sa, gr_si, rr_sr, gr_sg, gr_sa, ga_si, ga_sr, ga_sg, ga_sa, true_and, and_true, false_and, and_false, Nat.reduceEqDiff, ↓reduceIte]; rfl, fun i hi => absurd hi (Nat.not_lt_zero _)⟩ (by simp; omega) fl (by have := fl_big; omega)
  refine ⟨s1, ?_, u0.trans u1, r1⟩
  unfold f_X0_compare
  simp only [bnd]
  have q1 : gi (si σ 3 0 0) 603 a = nI (vn d) := by simp only [gi_si, gi_sr, gi_sg, gi_sa, gr_si, rr_sr, gr_sg, gr_sa, ga_si, ga_sr, ga_sg, ga_sa, true_and, and_true, false_and, and_false, Nat.reduceEqDiff, ↓reduceIte]; exact hd.1
  have q2 : gi (si σ 3 0 0) 603 b = nI (vn e) := by simp only [gi_si, gi_sr, gi_sg, gi_sa, gr_si, rr_sr, gr_sg, gr_sa, ga_si, ga_sr, ga_sg, ga_sa, true_and, and_true, false_and, and_false, Nat.reduceEqDiff, ↓reduceIte]; exact he.1
  rw [q1, q2, nI_add]
  exact e1
end Cx
