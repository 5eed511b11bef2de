/-! Reading: the relation of both readers at a token. -/
def qs (q : Nat → Nat → Nat) (r0 i0 x : Nat) : Nat → Nat → Nat := fun r i => if r = r0 ∧ i = i0 then x else q r i
theorem qs_o {q : Nat → Nat → Nat} {r0 i0 x r i : Nat} (h : ¬ (r = r0 ∧ i = i0)) : qs q r0 i0 x r i = q r i := if_neg h
theorem qs_s {q : Nat → Nat → Nat} {r0 i0 x : Nat} : qs q r0 i0 x r0 i0 = x := if_pos ⟨rfl, rfl⟩
def lmq (q : Nat → Nat → Nat) : Option Nat := if q 7 1 = 0 then none else some (q 5 0)
/-- the first such option of its field -/
def fstE (q : Nat → Nat → Nat) (i : Nat) : Prop := ∀ i', i' < i → ¬ (q 0 i' = q 0 i ∧ q 1 i' = q 1 i)
def EX (σ : St) (q : Nat → Nat → Nat) : Prop := ∀ i, i < q 7 2 → fstE q i → (q 1 i = 4 → ga σ 8 13 (q 0 i) = nI (q 2 i) ∧ ga σ 8 12 (q 0 i) = nI (q 4 i)) ∧ (q 1 i = 6 → ga σ 8 14 (q 0 i) = nI (q 2 i))
def CX (σ : St) (v : Nat) (d : Vd) (q : Nat → Nat → Nat) : Prop := gr σ 2 0 = v ∧ VX0 σ v d ∧ gi σ 410 0 = nI (q 7 0) ∧ (∀ i, i < q 7 0 → ga σ 8 11 i = nI (q 6 i)) ∧ gi σ 414 0 = oI (lmq q) ∧ KXn σ (q 7 3) ∧ EX σ q
def CM (τ : St) (v : Nat) (d : Vd) (q : Nat → Nat → Nat) : Prop := VM0 τ v d ∧ gi τ 847 0 = nI (q 7 0) ∧ (∀ i, i < q 7 0 → ga τ 1 24 i = nI (q 6 i)) ∧ gi τ 844 0 = nI (q 7 1) ∧ (∀ i, i < q 7 1 → ga τ 1 22 i = nI (q 5 i)) ∧ KMn τ (q 7 3) ∧ gi τ 838 0 = nI (q 7 2) ∧ (∀ i, i < q 7 2 → ∀ r, r < 5 → ga τ 1 (17 + r) i = nI (q r i)) ∧ gi τ 809 0 = -2 ∧ gi τ 835 0 = 0
def FW (d : Vd) (q : Nat → Nat → Nat) (j : Nat) : Prop := vk d j < 8 ∧ vo d j < 128 ∧ (nB d j = [] ∨ Nm (nB d j)) ∧ oC d j = none ∧ oO d j = none ∧ (∀ z, oZ d j = some z → z < 1000000) ∧ (bt (vo d j) 3 = 1 ↔ oZ d j ≠ none) ∧ (bt (vo d j) 5 = 1 ↔ nB d j ≠ []) ∧ (bt (vo d j) 4 = 1 ↔ ∃ i, i < q 7 2 ∧ q 0 i = j ∧ q 1 i = 4) ∧ (bt (vo d j) 6 = 1 ↔ ∃ i, i < q 7 2 ∧ q 0 i = j ∧ q 1 i = 6)
def CWs (d : Vd) (q : Nat → Nat → Nat) : Prop := ∀ k, k < q 7 0 → q 6 k < vn d ∧ vd d (q 6 k) = k ∧ ∀ i, q 6 k < i → i < vn d → k < vd d i
def CWu (d : Vd) (q : Nat → Nat → Nat) : Prop := 100000 ≤ q 7 3 → (∀ i j, i < j → j < vn d → oH d i = oH d j → nN d i ≠ nN d j) ∧ (∀ j, j < vn d → bt (vo d j) 6 = 1 → vk d j = 7)
def CWe (c : Nat) (ks ps : Nat → Nat) (d : Vd) (q : Nat → Nat → Nat) : Prop := ∀ i, i < q 7 2 → q 0 i < vn d ∧ (q 1 i = 4 ∨ q 1 i = 6) ∧ 0 < q 3 i ∧ isP c ks (q 3 i) (q 2 i) ∧ ks (q 2 i + 2 * q 3 i - 1) ≠ 46 ∧ q 4 i < q 2 i ∧ q 2 i < c ∧ (¬ fstE q i → q 7 3 ≤ 16 * ps (q 4 i) + 15)
def CWl (c : Nat) (ks ps : Nat → Nat) (q : Nat → Nat → Nat) : Prop := ∀ i, i < q 7 1 → q 5 i < c ∧ ks (q 5 i) = 2 ∧ (1 ≤ i → q 7 3 < 16 * ps (q 5 i))
def CW (c : Nat) (ks ps : Nat → Nat) (t : Nat) (d : Vd) (q : Nat → Nat → Nat) : Prop := (vn d ≤ 40 ∧ vr d ≤ 8 ∧ vl d = 40 ∧ q 7 0 ≤ 4) ∧ WT d ∧ WP d ∧ WR d ∧ CWs d q ∧ (∀ j, j < vn d → FW d q j) ∧ CWu d q ∧ kz (q 7 3) ∧ (4 * q 7 2 ≤ t ∧ 3 * q 7 1 ≤ t) ∧ CWe c ks ps d q ∧ CWl c ks ps q
section R4
variable {σ τ σ' τ' : St} {v t c : Nat} {ks ps : Nat → Nat} {d : Vd} {q : Nat → Nat → Nat}
theorem CW.mono {t' : Nat} (h : CW c ks ps t d q) (ht : t ≤ t') : CW c ks ps t' d q := by
  obtain ⟨a1, a2, a3, a4, a5, a6, a7, a8, a9, a10, a11⟩ := h
  exact ⟨a1, a2, a3, a4, a5, a6, a7, a8, by omega, a10, a11⟩
theorem CW.lw (h : CW c ks ps t d q) : LW d := ⟨fun j hj => ⟨(h.2.1 j hj).1.2.1, Nm.le (h.2.2.2.2.2.1 j hj).2.2.1⟩, fun r hr => ⟨Nm.le (h.2.2.2.1 r hr).2.2.1, Nm.le (h.2.2.2.1 r hr).2.2.2.1⟩⟩
/-- a note -/
theorem CW_k {k : Nat} (h : CW c ks ps t d q) (hk : k ≤ q 7 3) (hz : kz k) : CW c ks ps t d (qs q 7 3 k) := by
  obtain ⟨a1, a2, a3, a4, a5, a6, a7, a8, a9, a10, a11⟩ := h
  unfold CW CWs CWu CWe CWl FW fstE
  simp (disch := omega) only [qs_o, qs_s]
  unfold CWs CWu CWe CWl FW fstE at *
  refine ⟨a1, a2, a3, a4, a5, a6, fun hh => a7 (by omega), hz, a9, fun i hi => ?_, fun i hi => ?_⟩
  · obtain ⟨b1, b2, b3, b4, b5, b6, b7, b8⟩ := a10 i hi
    exact ⟨b1, b2, b3, b4, b5, b6, b7, fun hh => by have := b8 hh; omega⟩
  · obtain ⟨b1, b2, b3⟩ := a11 i hi
    exact ⟨b1, b2, fun hh => by have := b3 hh; omega⟩
theorem CX_k {k : Nat} (h : CX σ v d q) (h1 : KXn σ' k) (h2 : σ'.2.1 = σ.2.1) (h3 : ∀ f i, ¬ (f = 415 ∨ f = 416) → gi σ' f i = gi σ f i) (h4 : ∀ f i, ga σ' f i = ga σ f i) : CX σ' v d (qs q 7 3 k) := by
  obtain ⟨a1, a2, a3, a4, a5, a6, a7⟩ := h
  unfold CX EX lmq fstE
  simp (disch := omega) only [qs_o, qs_s]
  unfold EX fstE at a7
  unfold lmq at a5
  refine ⟨?_, a2.sx (SX.bl h2 h3 h4), ?_, ?_, ?_, h1, ?_⟩
  · show σ'.2.1 2 0 = v
    rw [h2]
    exact a1
  · rw [h3 _ _ (by omega), a3]
  · rw [h4]
    exact a4
  · rw [h3 _ _ (by omega), a5]
  · rw [h4, h4, h4]
    exact a7
theorem CM_k {k : Nat} (l : LW d) (h : CM τ v d q) (h1 : KMn τ' k) (h3 : ∀ f i, ¬ (f = 836 ∨ f = 837) → gi τ' f i = gi τ f i) (h4 : ∀ f i, ga τ' f i = ga τ f i) : CM τ' v d (qs q 7 3 k) := by
  obtain ⟨a1, a2, a3, a4, a5, a6, a7, a8, a9, a10⟩ := h
  unfold CM
  simp (disch := omega) only [qs_o, qs_s]
  refine ⟨a1.sm (SM.nt h3 h4) l, ?_, ?_, ?_, ?_, h1, ?_, ?_, ?_, ?_⟩
  · rw [h3 _ _ (by omega), a2]
  · rw [h4]
    exact a3
  · rw [h3 _ _ (by omega), a4]
  · rw [h4]
    exact a5
  · rw [h3 _ _ (by omega), a7]
  · intro i hi r hr
    rw [h4, qs_o (by omega)]
    exact a8 i hi r hr
  · rw [h3 _ _ (by omega), a9]
  · rw [h3 _ _ (by omega), a10]
/-- frames that change nothing of it -/
theorem CX.fr (h : CX σ v d q) (h1 : gr σ' 2 0 = gr σ 2 0) (h2 : ∀ f i, ¬ (f = 409 ∨ (411 ≤ f ∧ f ≤ 413)) → gi σ' f i = gi σ f i) (h3 : ∀ f i, ga σ' f i = ga σ f i) : CX σ' v d q := by
  obtain ⟨a1, a2, a3, a4, a5, a6, a7⟩ := h
  have b2 : VX0 σ' v d := by
    obtain ⟨p1, p2, p3, p4, p5⟩ := a2
    refine ⟨?_, ?_, ?_, fun j hj => ?_, fun r hr => RX.of' (fun f hf => h2 _ _ (by omega)) (fun i hi => ⟨h2 _ _ (by omega), h3 _ _⟩) (p5 r hr)⟩
    · rw [h2 _ _ (by omega), p1]
    · rw [h2 _ _ (by omega), p2]
    · rw [h2 _ _ (by omega), p3]
    · obtain ⟨⟨c1, c2, c3, c4, c5, c6, c7⟩, c8, c9⟩ := p4 j hj
      refine ⟨⟨?_, ?_, ?_, ?_, ?_, LX_of c6 (h2 _ _ (by omega)) (h3 _ _), LX_of c7 (h2 _ _ (by omega)) (h3 _ _)⟩, ?_, ?_⟩
      · rw [h2 _ _ (by omega), c1]
      · rw [h2 _ _ (by omega), c2]
      · rw [h2 _ _ (by omega), c3]
      · rw [h2 _ _ (by omega), c4]
      · rw [h2 _ _ (by omega), c5]
      · rw [h2 _ _ (by omega), c8]
      · rw [h2 _ _ (by omega), c9]
  refine ⟨h1.trans a1, b2, ?_, ?_, ?_, ?_, ?_⟩
  · rw [h2 _ _ (by omega), a3]
  · rw [h3]
    exact a4
  · rw [h2 _ _ (by omega), a5]
  · unfold KXn
    rw [h2 _ _ (by omega), h2 _ _ (by omega)]
    exact a6
  · unfold EX
    rw [h3, h3, h3]
    exact a7
theorem CX.s9 {f : Nat} (hf : f = 409 ∨ (411 ≤ f ∧ f ≤ 413)) (x : Int32) (h : CX σ v d q) : CX (si σ f 0 x) v d q := h.fr rfl (fun f' i a => by
  simp only [gi_si, gi_sr, gi_sg, gi_sa, gr_si, rr_sr, gr_sg, gr_sa, ga_si, ga_sr, ga_sg, ga_sa, true_and, and_true, false_and, and_false, Nat.reduceEqDiff, ↓reduceIte]
  rw [if_neg (by omega)]) (fun _ _ => rfl)
theorem CX.sr {f x : Nat} (hf : 3 ≤ f) (h : CX σ v d q) : CX (sr σ f 0 x) v d q := h.fr (by
  simp only [gi_si, gi_sr, gi_sg, gi_sa, gr_si, rr_sr, gr_sg, gr_sa, ga_si, ga_sr, ga_sg, ga_sa, true_and, and_true, false_and, and_false, Nat.reduceEqDiff, ↓reduceIte]
  rw [if_neg (by omega)]) (fun _ _ _ => rfl) (fun _ _ => rfl)
theorem CM.s4 (x : Int32) (h : CM τ v d q) : CM (si τ 834 0 x) v d q := h
end R4
