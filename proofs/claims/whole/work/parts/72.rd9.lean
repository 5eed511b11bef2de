/-! Reading: an option's word, the reference; a field's data change. -/
section Ra
variable {σ τ σ' τ' : St} {v t : Nat} {d : Vd} {q q' : Nat → Nat → Nat} {tx : List Nat} {c : Nat} {ks ps ls : Nat → Nat}
theorem m_opt1 (hv : v < 8) (w : TKW tx c ks ps ls) (h : CM τ v d q) (cw : CW c ks ps t d q) (hT : TKM τ tx c ks ps ls) (h4 : gi τ 834 0 = nI t) (ht : t < c) {j o : Nat} (hj : j + 1 = vn d) (ho : oOf tx ks ps ls t = some o) : ∃ τ', f_X9_option τ (nI (40 * v + j)) (nI j) = mO93 τ' (nI (40 * v + j)) (nI j) (nI o) (nI t) ∧ ZFm v (40 * v + j) τ τ' ∧ gi τ' 834 0 = nI (t + 1) ∧ (∀ f i, ¬ (f = 834 ∨ f = 836 ∨ f = 837) → gi τ' f i = gi τ f i) ∧ (∀ i, i ≠ 5 → ga τ' 1 i = ga τ 1 i) ∧ KMn τ' (ok5 d q j o (ps t)) ∧ FMc τ' (40 * v + j) (vk d j) (vo d j ||| 2 ^ o) (oZ d j) (oH d j) (nN d j) (nB d j) (oC d j) (oO d j) := by
  obtain ⟨a1, a2, a3, a4, a5, a6, a7, a8, a9, a10⟩ := h
  obtain ⟨⟨d1, _, _, d4⟩, wt, _, _, _, fw, _, hz, _⟩ := cw
  obtain ⟨ho7, hk1⟩ := oOf_ok ho
  obtain ⟨f1, f2, _⟩ := fw j (by omega)
  have hc := w.cc
  have hps := w.pp (t := t) (by omega)
  have hx := w.2.2.2.2
  have fj := a1.2.2.1 j (by omega)
  have hg : 40 * v + j < 320 := by omega
  obtain ⟨or1, or2⟩ := orT (vo d j) f2 o ho7
  obtain ⟨bt1, bt2⟩ := bitT (vo d j) f2 o ho7
  -- with or without a note
  have e5 : ∃ s5, f_X9_option τ (nI (40 * v + j)) (nI j) = f_X9_option_93 s5 (nI (40 * v + j)) (nI j) (nI o) (nI t) ∧ KMn s5 (ok5 d q j o (ps t)) ∧ (∀ f i, ¬ (f = 836 ∨ f = 837) → gi s5 f i = gi τ f i) ∧ (∀ f i, ga s5 f i = ga τ f i) := by
    obtain ⟨s5, b1, b2, b4, b5⟩ := m_note (e := 5) (p := ps t) a6 hz (by omega) (by omega) (by omega)
    have b1 : f_X9_note _ 5 (nI (ps t)) = _ := b1
    have e81 : f_X9_option_81 f_X9_option_93 τ (nI (40 * v + j)) (nI j) (nI o) (nI t) = f_X9_option_93 s5 (nI (40 * v + j)) (nI j) (nI o) (nI t) := by
      unfold f_X9_option_81
      rw [ck_nI (by omega) (by omega), (hT.2.2 t (by omega)).2.1, b1, cl_mk]
    have bad : f_X9_option τ (nI (40 * v + j)) (nI j) = f_X9_option_81 f_X9_option_93 τ (nI (40 * v + j)) (nI j) (nI o) (nI t) → (bt (vo d j) o = 1 ∨ mayH (vk d j) o = false) → ∃ s5, f_X9_option τ (nI (40 * v + j)) (nI j) = f_X9_option_93 s5 (nI (40 * v + j)) (nI j) (nI o) (nI t) ∧ KMn s5 (ok5 d q j o (ps t)) ∧ (∀ f i, ¬ (f = 836 ∨ f = 837) → gi s5 f i = gi τ f i) ∧ (∀ f i, ga s5 f i = ga τ f i) := by
      intro e hw
      refine ⟨s5, e.trans e81, ?_, b4, b5⟩
      unfold ok5
      rw [if_pos hw]
      exact b2
    have e0 : f_X9_option τ (nI (40 * v + j)) (nI j) = if bt (vo d j) o = 1 then f_X9_option_60 τ 1 (nI (40 * v + j)) (nI j) (nI o) (nI t) else f_X9_option_60 τ 0 (nI (40 * v + j)) (nI j) (nI o) (nI t) := by
      unfold f_X9_option
      rw [h4, m_word hT w (by omega), cl_mk, m_oof w (by omega), cl_mk, ho, if_pos (show (0 : Int32) ≤ mI (some o) from nI_pos' (by omega)), ck_nI hg (by omega), fj.1.2.1, show mI (some o) = nI o from rfl, bt1]
      by_cases c1 : bt (vo d j) o = 1
      · rw [c1, if_pos (show nI 1 = (1 : Int32) from rfl), if_pos rfl, h4]
      · rw [if_neg (show ¬ nI (bt (vo d j) o) = (1 : Int32) from fun e => c1 ((ln_eq (b := 1) (by omega) (by omega)).mp e)), if_neg c1, h4]
    by_cases c1 : bt (vo d j) o = 1
    · rw [if_pos c1] at e0
      unfold f_X9_option_60 at e0
      rw [if_neg i10] at e0
      exact bad e0 (Or.inl c1)
    · rw [if_neg c1] at e0
      unfold f_X9_option_60 at e0
      rw [if_pos rfl, ck_nI hg (by omega), fj.1.1, m_may τ f1 ho7, cl_mk] at e0
      cases c2 : mayH (vk d j) o with
      | false =>
        rw [c2, if_pos (show bI false = 0 from rfl)] at e0
        exact bad e0 (Or.inr c2)
      | true =>
        rw [c2, if_neg (show ¬ bI true = 0 from i10)] at e0
        refine ⟨τ, e0, ?_, fun _ _ _ => rfl, fun _ _ => rfl⟩
        unfold ok5
        rw [if_neg (fun h => h.elim c1 (fun h => by rw [c2] at h; cases h))]
        exact a6
  obtain ⟨s5, b1, b2, b4, b5⟩ := e5
  have zz : ZFm v (40 * v + j) s5 (si (sa s5 1 5 (40 * v + j) (nI (vo d j ||| 2 ^ o))) 834 0 (nI (t + 1))) := (ZFm.ug (UG.s1 (by omega) rfl _ _)).trans (ZFm.sm (SM.si (by omega) _ _))
  refine ⟨si (sa s5 1 5 (40 * v + j) (nI (vo d j ||| 2 ^ o))) 834 0 (nI (t + 1)), ?_, (ZFm.sm (SM.nt b4 b5)).trans zz, by simp only [gi_si, gi_sr, gi_sg, gi_sa, gr_si, rr_sr, gr_sg, gr_sa, ga_si, ga_sr, ga_sg, ga_sa, true_and, and_true, false_and, and_false, Nat.reduceEqDiff, ↓reduceIte], fun f i hh => ?_, fun i hh => ?_, ?_, ?_⟩
  · rw [b1]
    unfold f_X9_option_93
    rw [ck_nI hg (by omega), ck_nI hg (by omega), b5, fj.1.2.1, or1]
    simp only [bnd]
    rw [show gi (sa s5 1 5 (40 * v + j) (nI (vo d j ||| 2 ^ o))) 834 0 + 1 = nI (t + 1) by simp only [gi_si, gi_sr, gi_sg, gi_sa, gr_si, rr_sr, gr_sg, gr_sa, ga_si, ga_sr, ga_sg, ga_sa, true_and, and_true, false_and, and_false, Nat.reduceEqDiff, ↓reduceIte]; rw [b4 _ _ (by omega), h4, nI_1]]
    rfl
  · simp only [gi_si, gi_sr, gi_sg, gi_sa, gr_si, rr_sr, gr_sg, gr_sa, ga_si, ga_sr, ga_sg, ga_sa, true_and, and_true, false_and, and_false, Nat.reduceEqDiff, ↓reduceIte]
    rw [if_neg (by omega), b4 _ _ (by omega)]
  · simp only [gi_si, gi_sr, gi_sg, gi_sa, gr_si, rr_sr, gr_sg, gr_sa, ga_si, ga_sr, ga_sg, ga_sa, true_and, and_true, false_and, and_false, Nat.reduceEqDiff, ↓reduceIte]
    rw [if_neg (by omega), b5]
  · unfold KMn
    simp only [gi_si, gi_sr, gi_sg, gi_sa, gr_si, rr_sr, gr_sg, gr_sa, ga_si, ga_sr, ga_sg, ga_sa, true_and, and_true, false_and, and_false, Nat.reduceEqDiff, ↓reduceIte]
    exact b2
  · obtain ⟨⟨c1, c2, c3, c4, c5, c6, c7, c8⟩, c9, c10⟩ := fj
    have ga' : ∀ r x, r ≠ 5 → ga (si (sa s5 1 5 (40 * v + j) (nI (vo d j ||| 2 ^ o))) 834 0 (nI (t + 1))) 1 r x = ga τ 1 r x := by
      intro r x hr
      show ga (sa s5 1 5 (40 * v + j) (nI (vo d j ||| 2 ^ o))) 1 r x = _
      rw [a1_oth (Or.inl hr), b5]
    refine ⟨⟨?_, ?_, ?_, ?_, ?_, Bs_of c6 (fun i hi => ?_), ?_, Bs_of c8 (fun i hi => ?_)⟩, ?_, ?_⟩
    · rw [ga' _ _ (by omega), c1]
    · show ga (sa s5 1 5 (40 * v + j) (nI (vo d j ||| 2 ^ o))) 1 5 _ = _
      rw [a1_get]
    · rw [ga' _ _ (by omega), c3]
    · rw [ga' _ _ (by omega), c4]
    · rw [ga' _ _ (by omega), c5]
    · simp only [gi_si, gi_sr, gi_sg, gi_sa, gr_si, rr_sr, gr_sg, gr_sa, ga_si, ga_sr, ga_sg, ga_sa, true_and, and_true, false_and, and_false, Nat.reduceEqDiff, ↓reduceIte]
      rw [b5]
    · rw [ga' _ _ (by omega), c7]
    · simp only [gi_si, gi_sr, gi_sg, gi_sa, gr_si, rr_sr, gr_sg, gr_sa, ga_si, ga_sr, ga_sg, ga_sa, true_and, and_true, false_and, and_false, Nat.reduceEqDiff, ↓reduceIte]
      rw [b5]
    · rw [ga' _ _ (by omega), c9]
    · rw [ga' _ _ (by omega), c10]
/-! the data of the field that is being read -/
theorem CX_sF {j k o : Nat} {z : Option Nat} {B : List Nat} (hv : v < 8) (hn : vn d ≤ 40) (hj : j < vn d) (h : CX σ v d q) (u : ZF v (40 * v + j) σ σ') (g : ∀ f i, f = 603 ∨ f = 410 ∨ f = 414 → gi σ' f i = gi σ f i) (g11 : ga σ' 8 11 = ga σ 8 11) (f : FXc σ' (40 * v + j) k o z (oH d j) (vd d j) (nP d j) B (oC d j) (oO d j)) (hq : ∀ r i, r = 5 ∨ r = 6 ∨ (r = 7 ∧ i ≤ 1) → q' r i = q r i) (hk : KXn σ' (q' 7 3)) (he : EX σ' q') : CX σ' v (sF d j k o z B) q' := by
  obtain ⟨a1, a2, a3, a4, a5, a6, a7⟩ := h
  refine ⟨by rw [u.1 2 0 (by omega), a1], VX0_sF hv hn hj a2 u (g _ _ (by omega)) f, ?_, ?_, ?_, hk, he⟩
  · rw [g _ _ (by omega), hq 7 0 (by omega), a3]
  · intro i hi
    rw [hq 7 0 (by omega)] at hi
    rw [g11, hq 6 i (by omega), a4 i hi]
  · unfold lmq
    rw [g _ _ (by omega), hq 7 1 (by omega), hq 5 0 (by omega), a5]
    rfl
theorem CM_sF {j k o : Nat} {z : Option Nat} {B : List Nat} (hn : vn d ≤ 40) (hj : j < vn d) (l : LW d) (h : CM τ v d q) (u : ZFm v (40 * v + j) τ τ') (g : ∀ f i, f = 847 ∨ f = 844 ∨ f = 809 ∨ f = 835 → gi τ' f i = gi τ f i) (ga0 : ∀ i, i = 0 ∨ i = 22 ∨ i = 24 → ga τ' 1 i = ga τ 1 i) (f : FMc τ' (40 * v + j) k o z (oH d j) (nN d j) B (oC d j) (oO d j)) (hq : ∀ r i, r = 5 ∨ r = 6 ∨ (r = 7 ∧ i ≤ 1) → q' r i = q r i) (hk : KMn τ' (q' 7 3)) (h8 : gi τ' 838 0 = nI (q' 7 2)) (he : ∀ i, i < q' 7 2 → ∀ r, r < 5 → ga τ' 1 (17 + r) i = nI (q' r i)) : CM τ' v (sF d j k o z B) q' := by
  obtain ⟨a1, a2, a3, a4, a5, a6, a7, a8, a9, a10⟩ := h
  refine ⟨VM0_sF hn hj l a1 u (by rw [ga0 0 (by omega)]) f, ?_, ?_, ?_, ?_, hk, h8, he, ?_, ?_⟩
  · rw [g _ _ (by omega), hq 7 0 (by omega), a2]
  · intro i hi
    rw [hq 7 0 (by omega)] at hi
    rw [ga0 24 (by omega), hq 6 i (by omega), a3 i hi]
  · rw [g _ _ (by omega), hq 7 1 (by omega), a4]
  · intro i hi
    rw [hq 7 1 (by omega)] at hi
    rw [ga0 22 (by omega), hq 5 i (by omega), a5 i hi]
  · rw [g _ _ (by omega), a9]
  · rw [g _ _ (by omega), a10]
theorem CW_sF {j k o t' : Nat} {z : Option Nat} {B : List Nat} (h : CW c ks ps t d q) (ht : t ≤ t') (hj : j < vn d) (hq : ∀ r i, r = 5 ∨ r = 6 ∨ (r = 7 ∧ i ≤ 1) → q' r i = q r i) (hk : q' 7 3 ≤ q 7 3) (hz : kz (q' 7 3)) (h4 : 4 * q' 7 2 ≤ t') (hF : FW (sF d j k o z B) q' j) (ho : ∀ j' b, j' ≠ j → ((∃ i, i < q' 7 2 ∧ q' 0 i = j' ∧ q' 1 i = b) ↔ (∃ i, i < q 7 2 ∧ q 0 i = j' ∧ q 1 i = b))) (he : CWe c ks ps d q') (h6 : 100000 ≤ q' 7 3 → bt o 6 = 1 → k = 7) : CW c ks ps t' (sF d j k o z B) q' := by
  obtain ⟨a1, a2, a3, a4, a5, a6, a7, a8, a9, a10, a11⟩ := h
  have dK : ∀ i, vk (sF d j k o z B) i = if i = j then k else vk d i := fun i => rfl
  have dO : ∀ i, vo (sF d j k o z B) i = if i = j then o else vo d i := fun i => rfl
  have dB : ∀ i, nB (sF d j k o z B) i = if i = j then B else nB d i := fun i => rfl
  have dZ : ∀ i, oZ (sF d j k o z B) i = if i = j then z else oZ d i := fun i => rfl
  refine ⟨⟨a1.1, a1.2.1, a1.2.2.1, by rw [hq 7 0 (by omega)]; exact a1.2.2.2⟩, a2, a3, a4, fun k' hk' => ?_, fun i hi => ?_, fun hb => ⟨(a7 (by omega)).1, fun i hi => ?_⟩, hz, ⟨h4, ?_⟩, he, fun i hi => ?_⟩
  · rw [hq 7 0 (by omega)] at hk'
    rw [hq 6 k' (by omega)]
    exact a5 k' hk'
  · by_cases e : i = j
    · rw [e]
      exact hF
    · have hi : i < vn d := hi
      obtain ⟨b1, b2, b3, b4, b5, b6, b7, b8, b9, b10⟩ := a6 i hi
      unfold FW
      rw [dK, dO, dB, dZ, if_neg e, if_neg e, if_neg e, if_neg e]
      exact ⟨b1, b2, b3, b4, b5, b6, b7, b8, b9.trans (ho i 4 e).symm, b10.trans (ho i 6 e).symm⟩
  · rw [dK, dO]
    by_cases e : i = j
    · rw [if_pos e, if_pos e]
      exact h6 hb
    · rw [if_neg e, if_neg e]
      exact (a7 (by omega)).2 i hi
  · rw [hq 7 1 (by omega)]
    omega
  · rw [hq 7 1 (by omega)] at hi
    rw [hq 5 i (by omega)]
    obtain ⟨b1, b2, b3⟩ := a11 i hi
    exact ⟨b1, b2, fun hh => by have := b3 hh; omega⟩
end Ra
