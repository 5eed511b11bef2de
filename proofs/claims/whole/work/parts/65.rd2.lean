/-! Reading: what is being read, as it is meant. -/
def aF (d : Vd) (k : Nat) (N P : List Nat) (H : Option Nat) (D : Nat) : Vd :=
  (fun r i => match r with
    | 0 => if i = vn d then k else vk d i
    | 1 => if i = vn d then 0 else vo d i
    | 2 => if i = vn d then D else vd d i
    | 3 => rk d i
    | 4 => rs d i
    | 5 => vs d i
    | _ => match i with
      | 0 => vn d + 1
      | 1 => vr d
      | _ => vl d,
   fun r i => match r with
    | 0 => if i = vn d then N else nN d i
    | 1 => if i = vn d then P else nP d i
    | 2 => if i = vn d then [] else nB d i
    | 3 => rF d i
    | _ => rT d i,
   fun r i => match r with
    | 0 => if i = vn d then H else oH d i
    | 1 => if i = vn d then none else oC d i
    | 2 => if i = vn d then none else oO d i
    | _ => if i = vn d then none else oZ d i)
def sF (d : Vd) (j k o : Nat) (z : Option Nat) (B : List Nat) : Vd :=
  (fun r i => match r with
    | 0 => if i = j then k else vk d i
    | 1 => if i = j then o else vo d i
    | 2 => vd d i
    | 3 => rk d i
    | 4 => rs d i
    | 5 => vs d i
    | _ => match i with
      | 0 => vn d
      | 1 => vr d
      | _ => vl d,
   fun r i => match r with
    | 0 => nN d i
    | 1 => nP d i
    | 2 => if i = j then B else nB d i
    | 3 => rF d i
    | _ => rT d i,
   fun r i => match r with
    | 0 => oH d i
    | 1 => oC d i
    | 2 => oO d i
    | _ => if i = j then z else oZ d i)
def aR (d : Vd) (k s : Nat) (F T : List Nat) : Vd :=
  (fun r i => match r with
    | 0 => vk d i
    | 1 => vo d i
    | 2 => vd d i
    | 3 => if i = vr d then k else rk d i
    | 4 => if i = vr d then s else rs d i
    | 5 => vs d i
    | _ => match i with
      | 0 => vn d
      | 1 => vr d + 1
      | _ => vl d,
   fun r i => match r with
    | 0 => nN d i
    | 1 => nP d i
    | 2 => nB d i
    | 3 => if i = vr d then F else rF d i
    | _ => if i = vr d then T else rT d i,
   d.2.2)
/-! class frames -/
def SX (σ σ' : St) : Prop := (∀ i j, i ≤ 2 → gr σ' i j = gr σ i j) ∧ (∀ f i, ¬ (409 ≤ f ∧ f ≤ 416) → gi σ' f i = gi σ f i) ∧ (∀ f i, ¬ (f = 8 ∧ 11 ≤ i ∧ i ≤ 14) → ga σ' f i = ga σ f i)
def ZF (v g : Nat) (σ σ' : St) : Prop := (∀ i j, i ≤ 2 → gr σ' i j = gr σ i j) ∧ (∀ f i, ¬ ((102 ≤ f ∧ f ≤ 108 ∧ i = g) ∨ ((f = 201 ∨ f = 202) ∧ (i = 5 + 2 * g ∨ i = 6 + 2 * g)) ∨ (f = 603 ∧ i = v) ∨ (409 ≤ f ∧ f ≤ 416)) → gi σ' f i = gi σ f i) ∧ (∀ f i, ¬ (f = 2 ∧ (i = 5 + 2 * g ∨ i = 6 + 2 * g)) → ¬ (f = 8 ∧ 11 ≤ i ∧ i ≤ 14) → ga σ' f i = ga σ f i)
def ZR (v g : Nat) (σ σ' : St) : Prop := (∀ i j, i ≤ 2 → gr σ' i j = gr σ i j) ∧ (∀ f i, ¬ (((f = 302 ∨ f = 303) ∧ i = g) ∨ ((f = 201 ∨ f = 202) ∧ (i = 645 + 2 * g ∨ i = 646 + 2 * g)) ∨ (f = 604 ∧ i = v) ∨ f = 409) → gi σ' f i = gi σ f i) ∧ (∀ f i, ¬ (f = 2 ∧ (i = 645 + 2 * g ∨ i = 646 + 2 * g)) → ga σ' f i = ga σ f i)
theorem SX.trans {σ σ1 σ2 : St} (h : SX σ σ1) (k : SX σ1 σ2) : SX σ σ2 := ⟨fun i j a => (k.1 i j a).trans (h.1 i j a), fun f i a => (k.2.1 f i a).trans (h.2.1 f i a), fun f i a => (k.2.2 f i a).trans (h.2.2 f i a)⟩
theorem SX.refl' (σ : St) : SX σ σ := ⟨fun _ _ _ => rfl, fun _ _ _ => rfl, fun _ _ _ => rfl⟩
theorem ZF.trans {v g : Nat} {σ σ1 σ2 : St} (h : ZF v g σ σ1) (k : ZF v g σ1 σ2) : ZF v g σ σ2 := ⟨fun i j a => (k.1 i j a).trans (h.1 i j a), fun f i a => (k.2.1 f i a).trans (h.2.1 f i a), fun f i a b => (k.2.2 f i a b).trans (h.2.2 f i a b)⟩
theorem ZR.trans {v g : Nat} {σ σ1 σ2 : St} (h : ZR v g σ σ1) (k : ZR v g σ1 σ2) : ZR v g σ σ2 := ⟨fun i j a => (k.1 i j a).trans (h.1 i j a), fun f i a => (k.2.1 f i a).trans (h.2.1 f i a), fun f i a => (k.2.2 f i a).trans (h.2.2 f i a)⟩
theorem SX.si {f : Nat} (hf : 409 ≤ f ∧ f ≤ 416) (σ : St) (x : Int32) : SX σ (si σ f 0 x) := ⟨fun _ _ _ => rfl, fun f' i b => by
  simp only [gi_si, gi_sr, gi_sg, gi_sa, gr_si, rr_sr, gr_sg, gr_sa, ga_si, ga_sr, ga_sg, ga_sa, true_and, and_true, false_and, and_false, Nat.reduceEqDiff, ↓reduceIte]
  rw [if_neg (by omega)], fun _ _ _ => rfl⟩
theorem SX.sr {f x : Nat} (hf : 3 ≤ f) (σ : St) : SX σ (sr σ f 0 x) := ⟨fun i j a => by
  simp only [gi_si, gi_sr, gi_sg, gi_sa, gr_si, rr_sr, gr_sg, gr_sa, ga_si, ga_sr, ga_sg, ga_sa, true_and, and_true, false_and, and_false, Nat.reduceEqDiff, ↓reduceIte]
  rw [if_neg (by omega)], fun _ _ _ => rfl, fun _ _ _ => rfl⟩
theorem SX.sa {a k : Nat} (ha : 11 ≤ a ∧ a ≤ 14) (σ : St) (x : Int32) : SX σ (sa σ 8 a k x) := ⟨fun _ _ _ => rfl, fun _ _ _ => rfl, fun f i b => by
  simp only [gi_si, gi_sr, gi_sg, gi_sa, gr_si, rr_sr, gr_sg, gr_sa, ga_si, ga_sr, ga_sg, ga_sa, true_and, and_true, false_and, and_false, Nat.reduceEqDiff, ↓reduceIte]
  rw [if_neg (by omega)]⟩
theorem SX.bl {σ σ' : St} (h1 : σ'.2.1 = σ.2.1) (h2 : ∀ f i, ¬ (f = 415 ∨ f = 416) → gi σ' f i = gi σ f i) (h3 : ∀ f i, ga σ' f i = ga σ f i) : SX σ σ' := ⟨fun i j _ => by show σ'.2.1 i j = σ.2.1 i j; rw [h1], fun f i a => h2 f i (by omega), fun f i _ => h3 f i⟩
theorem ZF.sx {v g : Nat} {σ σ' : St} (h : SX σ σ') : ZF v g σ σ' := ⟨h.1, fun f i a => h.2.1 f i (by omega), fun f i _ b => h.2.2 f i b⟩
theorem ZF.uf {v g : Nat} {σ σ' : St} (h : UF g σ σ') : ZF v g σ σ' := ⟨fun i j _ => by show σ'.2.1 i j = σ.2.1 i j; rw [h.1], fun f i a => h.2.1 f i (by omega), fun f i a _ => h.2.2 f i a⟩
theorem ZF.s3 {v g : Nat} (σ : St) (x : Int32) : ZF v g σ (si σ 603 v x) := ⟨fun _ _ _ => rfl, fun f' i a => by
  simp only [gi_si, gi_sr, gi_sg, gi_sa, gr_si, rr_sr, gr_sg, gr_sa, ga_si, ga_sr, ga_sg, ga_sa, true_and, and_true, false_and, and_false, Nat.reduceEqDiff, ↓reduceIte]
  rw [if_neg (by omega)], fun _ _ _ _ => rfl⟩
theorem ZR.uq {v g : Nat} {σ σ' : St} (h : UQ g σ σ') : ZR v g σ σ' := ⟨fun i j _ => by show σ'.2.1 i j = σ.2.1 i j; rw [h.1], fun f i a => h.2.1 f i (by omega), fun f i a => h.2.2 f i a⟩
theorem ZR.s4 {v g : Nat} (σ : St) (x : Int32) : ZR v g σ (si σ 604 v x) := ⟨fun _ _ _ => rfl, fun f' i a => by
  simp only [gi_si, gi_sr, gi_sg, gi_sa, gr_si, rr_sr, gr_sg, gr_sa, ga_si, ga_sr, ga_sg, ga_sa, true_and, and_true, false_and, and_false, Nat.reduceEqDiff, ↓reduceIte]
  rw [if_neg (by omega)], fun _ _ _ => rfl⟩
theorem ZR.s9 {v g : Nat} (σ : St) (x : Int32) : ZR v g σ (si σ 409 0 x) := ⟨fun _ _ _ => rfl, fun f' i a => by
  simp only [gi_si, gi_sr, gi_sg, gi_sa, gr_si, rr_sr, gr_sg, gr_sa, ga_si, ga_sr, ga_sg, ga_sa, true_and, and_true, false_and, and_false, Nat.reduceEqDiff, ↓reduceIte]
  rw [if_neg (by omega)], fun _ _ _ => rfl⟩
theorem ZR.sr {v g x : Nat} (σ : St) : ZR v g σ (sr σ 4 0 x) := ⟨fun i j a => by
  simp only [gi_si, gi_sr, gi_sg, gi_sa, gr_si, rr_sr, gr_sg, gr_sa, ga_si, ga_sr, ga_sg, ga_sa, true_and, and_true, false_and, and_false, Nat.reduceEqDiff, ↓reduceIte]
  rw [if_neg (by omega)], fun _ _ _ => rfl, fun _ _ _ => rfl⟩
theorem ZR.si {v g f : Nat} (hf : f = 302 ∨ f = 303) (σ : St) (x : Int32) : ZR v g σ (si σ f g x) := ⟨fun _ _ _ => rfl, fun f' i a => by
  simp only [gi_si, gi_sr, gi_sg, gi_sa, gr_si, rr_sr, gr_sg, gr_sa, ga_si, ga_sr, ga_sg, ga_sa, true_and, and_true, false_and, and_false, Nat.reduceEqDiff, ↓reduceIte]
  rw [if_neg (by omega)], fun _ _ _ => rfl⟩
theorem QX.sx {v : Nat} {σ σ' : St} (h : SX σ σ') : QX v σ σ' := ⟨h.1, fun f i _ b _ => h.2.1 f i b, fun f i _ b => h.2.2 f i b⟩
theorem QX.zf {v j : Nat} (hj : j < 40) {σ σ' : St} (h : ZF v (40 * v + j) σ σ') : QX v σ σ' := ⟨h.1, fun f i a b _ => h.2.1 f i (by unfold dXp DL at a; omega), fun f i a b => h.2.2 f i (by unfold DL at a; omega) b⟩
theorem QX.zr {v j : Nat} (hj : j < 8) {σ σ' : St} (h : ZR v (8 * v + j) σ σ') : QX v σ σ' := ⟨h.1, fun f i a b _ => h.2.1 f i (by unfold dXp DL at a; omega), fun f i a b => h.2.2 f i (by unfold DL at a; omega)⟩
section R2
variable {σ τ σ' τ' : St} {v g g' k o D s : Nat} {z h cp fo : Option Nat} {P B N F T : List Nat} {d : Vd} {H : Option Nat}
theorem FXc.sx (u : SX σ σ') (a : FXc σ g k o z h D P B cp fo) : FXc σ' g k o z h D P B cp fo := by
  obtain ⟨⟨a1, a2, a3, a4, a5, a6, a7⟩, a8, a9⟩ := a
  refine ⟨⟨?_, ?_, ?_, ?_, ?_, LX_of a6 (u.2.1 _ _ (by omega)) (u.2.2 _ _ (by omega)), LX_of a7 (u.2.1 _ _ (by omega)) (u.2.2 _ _ (by omega))⟩, ?_, ?_⟩
  · rw [u.2.1 _ _ (by omega), a1]
  · rw [u.2.1 _ _ (by omega), a2]
  · rw [u.2.1 _ _ (by omega), a3]
  · rw [u.2.1 _ _ (by omega), a4]
  · rw [u.2.1 _ _ (by omega), a5]
  · rw [u.2.1 _ _ (by omega), a8]
  · rw [u.2.1 _ _ (by omega), a9]
theorem FXc.zf (u : ZF v g σ σ') (hne : g' ≠ g) (hg : g < 320) (hg' : g' < 320) (a : FXc σ g' k o z h D P B cp fo) : FXc σ' g' k o z h D P B cp fo := by
  obtain ⟨⟨a1, a2, a3, a4, a5, a6, a7⟩, a8, a9⟩ := a
  refine ⟨⟨?_, ?_, ?_, ?_, ?_, LX_of a6 (u.2.1 _ _ (by omega)) (u.2.2 _ _ (by omega) (by omega)), LX_of a7 (u.2.1 _ _ (by omega)) (u.2.2 _ _ (by omega) (by omega))⟩, ?_, ?_⟩
  · rw [u.2.1 _ _ (by omega), a1]
  · rw [u.2.1 _ _ (by omega), a2]
  · rw [u.2.1 _ _ (by omega), a3]
  · rw [u.2.1 _ _ (by omega), a4]
  · rw [u.2.1 _ _ (by omega), a5]
  · rw [u.2.1 _ _ (by omega), a8]
  · rw [u.2.1 _ _ (by omega), a9]
theorem FXc.zr (u : ZR v g σ σ') (hg' : g' < 320) (a : FXc σ g' k o z h D P B cp fo) : FXc σ' g' k o z h D P B cp fo := by
  obtain ⟨⟨a1, a2, a3, a4, a5, a6, a7⟩, a8, a9⟩ := a
  refine ⟨⟨?_, ?_, ?_, ?_, ?_, LX_of a6 (u.2.1 _ _ (by omega)) (u.2.2 _ _ (by omega)), LX_of a7 (u.2.1 _ _ (by omega)) (u.2.2 _ _ (by omega))⟩, ?_, ?_⟩
  · rw [u.2.1 _ _ (by omega), a1]
  · rw [u.2.1 _ _ (by omega), a2]
  · rw [u.2.1 _ _ (by omega), a3]
  · rw [u.2.1 _ _ (by omega), a4]
  · rw [u.2.1 _ _ (by omega), a5]
  · rw [u.2.1 _ _ (by omega), a8]
  · rw [u.2.1 _ _ (by omega), a9]
theorem RX.of' {q : Nat} (h1 : ∀ f, f = 302 ∨ f = 303 → gi σ' f q = gi σ f q) (h2 : ∀ i, i = 645 + 2 * q ∨ i = 646 + 2 * q → gi σ' 201 i = gi σ 201 i ∧ ga σ' 2 i = ga σ 2 i) (a : RX σ q k s F T) : RX σ' q k s F T := by
  obtain ⟨a1, a2, a3, a4⟩ := a
  refine ⟨?_, ?_, LX_of a3 (h2 _ (by omega)).1 (h2 _ (by omega)).2, LX_of a4 (h2 _ (by omega)).1 (h2 _ (by omega)).2⟩
  · rw [h1 _ (by omega), a1]
  · rw [h1 _ (by omega), a2]
theorem VX0.sx (u : SX σ σ') (a : VX0 σ v d) : VX0 σ' v d := by
  obtain ⟨h1, h2, h3, h4, h5⟩ := a
  refine ⟨?_, ?_, ?_, fun j hj => (h4 j hj).sx u, fun r hr => RX.of' (fun f hf => u.2.1 _ _ (by omega)) (fun i hi => ⟨u.2.1 _ _ (by omega), u.2.2 _ _ (by omega)⟩) (h5 r hr)⟩
  · rw [u.2.1 _ _ (by omega), h1]
  · rw [u.2.1 _ _ (by omega), h2]
  · rw [u.2.1 _ _ (by omega), h3]
theorem VX0_aF (hv : v < 8) (hn : vn d < 40) (a : VX0 σ v d) (u : ZF v (40 * v + vn d) σ σ') (h603 : gi σ' 603 v = nI (vn d + 1)) (f : FXc σ' (40 * v + vn d) k 0 none H D P [] none none) : VX0 σ' v (aF d k N P H D) := by
  obtain ⟨h1, h2, h3, h4, h5⟩ := a
  refine ⟨h603, ?_, ?_, fun j hj => ?_, fun r hr => RX.of' (fun f hf => u.2.1 _ _ (by omega)) (fun i hi => ⟨u.2.1 _ _ (by omega), u.2.2 _ _ (by omega) (by omega)⟩) (h5 r hr)⟩
  · rw [u.2.1 _ _ (by omega), h2]
    rfl
  · rw [u.2.1 _ _ (by omega), h3]
    rfl
  · have hj : j < vn d + 1 := hj
    show FXc σ' (40 * v + j) (if j = vn d then k else vk d j) (if j = vn d then 0 else vo d j) (if j = vn d then none else oZ d j) (if j = vn d then H else oH d j) (if j = vn d then D else vd d j) (if j = vn d then P else nP d j) (if j = vn d then [] else nB d j) (if j = vn d then none else oC d j) (if j = vn d then none else oO d j)
    by_cases c : j = vn d
    · simp only [c, if_true]
      exact f
    · simp only [c, if_false]
      exact (h4 j (by omega)).zf u (by omega) (by omega) (by omega)
theorem VX0_sF {j : Nat} (hv : v < 8) (hn : vn d ≤ 40) (hj : j < vn d) (a : VX0 σ v d) (u : ZF v (40 * v + j) σ σ') (h603 : gi σ' 603 v = gi σ 603 v) (f : FXc σ' (40 * v + j) k o z (oH d j) (vd d j) (nP d j) B (oC d j) (oO d j)) : VX0 σ' v (sF d j k o z B) := by
  obtain ⟨h1, h2, h3, h4, h5⟩ := a
  refine ⟨h603.trans h1, ?_, ?_, fun i hi => ?_, fun r hr => RX.of' (fun f hf => u.2.1 _ _ (by omega)) (fun i hi => ⟨u.2.1 _ _ (by omega), u.2.2 _ _ (by omega) (by omega)⟩) (h5 r hr)⟩
  · rw [u.2.1 _ _ (by omega), h2]
    rfl
  · rw [u.2.1 _ _ (by omega), h3]
    rfl
  · have hi : i < vn d := hi
    show FXc σ' (40 * v + i) (if i = j then k else vk d i) (if i = j then o else vo d i) (if i = j then z else oZ d i) (oH d i) (vd d i) (nP d i) (if i = j then B else nB d i) (oC d i) (oO d i)
    by_cases c : i = j
    · simp only [c, if_true]
      exact f
    · simp only [c, if_false]
      exact (h4 i hi).zf u (by omega) (by omega) (by omega)
theorem VX0_aR (hv : v < 8) (hn : vn d ≤ 40) (a : VX0 σ v d) (u : ZR v (8 * v + vr d) σ σ') (h604 : gi σ' 604 v = nI (vr d + 1)) (f : RX σ' (8 * v + vr d) k s F T) : VX0 σ' v (aR d k s F T) := by
  obtain ⟨h1, h2, h3, h4, h5⟩ := a
  refine ⟨?_, h604, ?_, fun j hj => ?_, fun r hr => ?_⟩
  · rw [u.2.1 _ _ (by omega), h1]
    rfl
  · rw [u.2.1 _ _ (by omega), h3]
    rfl
  · have hj : j < vn d := hj
    exact (h4 j hj).zr u (by omega)
  · have hr : r < vr d + 1 := hr
    show RX σ' (8 * v + r) (if r = vr d then k else rk d r) (if r = vr d then s else rs d r) (if r = vr d then F else rF d r) (if r = vr d then T else rT d r)
    by_cases c : r = vr d
    · simp only [c, if_true]
      exact f
    · simp only [c, if_false]
      exact RX.of' (fun f hf => u.2.1 _ _ (by omega)) (fun i hi => ⟨u.2.1 _ _ (by omega), u.2.2 _ _ (by omega)⟩) (h5 r (by omega))
end R2
/-! reference frames -/
def SM (τ τ' : St) : Prop := (∀ f i, ¬ (f = 809 ∨ (834 ≤ f ∧ f ≤ 847)) → gi τ' f i = gi τ f i) ∧ (∀ f i x, ¬ (f = 1 ∧ 17 ≤ i) → ga τ' f i x = ga τ f i x)
def ZFm (v g : Nat) (τ τ' : St) : Prop := (∀ f i, ¬ (f = 809 ∨ (834 ≤ f ∧ f ≤ 847)) → gi τ' f i = gi τ f i) ∧ (∀ f i x, ¬ ((f = 1 ∧ 3 ≤ i ∧ i ≤ 10 ∧ x = g) ∨ (f = 2 ∧ (i = 3 ∨ i = 4) ∧ 12 * g ≤ x ∧ x < 12 * g + 12) ∨ (f = 1 ∧ i = 0 ∧ x = v) ∨ (f = 1 ∧ 17 ≤ i)) → ga τ' f i x = ga τ f i x)
def ZRm (v g : Nat) (τ τ' : St) : Prop := (∀ f i, ¬ (f = 809 ∨ (834 ≤ f ∧ f ≤ 847)) → gi τ' f i = gi τ f i) ∧ (∀ f i x, ¬ ((f = 1 ∧ 11 ≤ i ∧ i ≤ 13 ∧ x = g) ∨ (f = 4 ∧ i = 0 ∧ x = g) ∨ (f = 2 ∧ (i = 5 ∨ i = 6) ∧ 12 * g ≤ x ∧ x < 12 * g + 12) ∨ (f = 1 ∧ i = 1 ∧ x = v)) → ga τ' f i x = ga τ f i x)
theorem SM.trans {σ σ1 σ2 : St} (h : SM σ σ1) (k : SM σ1 σ2) : SM σ σ2 := ⟨fun f i a => (k.1 f i a).trans (h.1 f i a), fun f i x a => (k.2 f i x a).trans (h.2 f i x a)⟩
theorem SM.refl' (τ : St) : SM τ τ := ⟨fun _ _ _ => rfl, fun _ _ _ _ => rfl⟩
theorem ZFm.trans {v g : Nat} {σ σ1 σ2 : St} (h : ZFm v g σ σ1) (k : ZFm v g σ1 σ2) : ZFm v g σ σ2 := ⟨fun f i a => (k.1 f i a).trans (h.1 f i a), fun f i x a => (k.2 f i x a).trans (h.2 f i x a)⟩
theorem ZRm.trans {v g : Nat} {σ σ1 σ2 : St} (h : ZRm v g σ σ1) (k : ZRm v g σ1 σ2) : ZRm v g σ σ2 := ⟨fun f i a => (k.1 f i a).trans (h.1 f i a), fun f i x a => (k.2 f i x a).trans (h.2 f i x a)⟩
theorem SM.si {f : Nat} (hf : f = 809 ∨ (834 ≤ f ∧ f ≤ 847)) (τ : St) (x : Int32) : SM τ (si τ f 0 x) := ⟨fun f' i a => by
  simp only [gi_si, gi_sr, gi_sg, gi_sa, gr_si, rr_sr, gr_sg, gr_sa, ga_si, ga_sr, ga_sg, ga_sa, true_and, and_true, false_and, and_false, Nat.reduceEqDiff, ↓reduceIte]
  rw [if_neg (fun e => a (by omega))], fun _ _ _ _ => rfl⟩
theorem SM.sa {a k : Nat} (ha : 17 ≤ a) (τ : St) (x : Int32) : SM τ (sa τ 1 a k x) := ⟨fun _ _ _ => rfl, fun f i x' b => by
  simp only [gi_si, gi_sr, gi_sg, gi_sa, gr_si, rr_sr, gr_sg, gr_sa, ga_si, ga_sr, ga_sg, ga_sa, true_and, and_true, false_and, and_false, Nat.reduceEqDiff, ↓reduceIte]
  rw [if_neg (fun e => b (by omega))]⟩
theorem SM.nt {τ τ' : St} (h2 : ∀ f i, ¬ (f = 836 ∨ f = 837) → gi τ' f i = gi τ f i) (h3 : ∀ f i, ga τ' f i = ga τ f i) : SM τ τ' := ⟨fun f i a => h2 f i (by omega), fun f i x _ => by rw [h3]⟩
theorem ZFm.sm {v g : Nat} {τ τ' : St} (h : SM τ τ') : ZFm v g τ τ' := ⟨h.1, fun f i x a => h.2 f i x (by omega)⟩
theorem ZRm.s3 {v g : Nat} (τ : St) (x : Int32) : ZRm v g τ (si τ 834 0 x) := ⟨fun f' i a => by
  simp only [gi_si, gi_sr, gi_sg, gi_sa, gr_si, rr_sr, gr_sg, gr_sa, ga_si, ga_sr, ga_sg, ga_sa, true_and, and_true, false_and, and_false, Nat.reduceEqDiff, ↓reduceIte]
  rw [if_neg (fun e => a (by omega))], fun _ _ _ _ => rfl⟩
theorem ZFm.ug {v g : Nat} {τ τ' : St} (h : UG g τ τ') : ZFm v g τ τ' := ⟨fun f i _ => h.1 f i, fun f i x a => h.2 f i x (by omega)⟩
theorem ZFm.s0 {v g : Nat} (τ : St) (x : Int32) : ZFm v g τ (sa τ 1 0 v x) := ⟨fun _ _ _ => rfl, fun f i x' a => by
  simp only [gi_si, gi_sr, gi_sg, gi_sa, gr_si, rr_sr, gr_sg, gr_sa, ga_si, ga_sr, ga_sg, ga_sa, true_and, and_true, false_and, and_false, Nat.reduceEqDiff, ↓reduceIte]
  split
  · rename_i h
    obtain ⟨rfl, rfl⟩ := h
    unfold upd
    rw [if_neg (by omega)]
  · rfl⟩
theorem ZRm.ur {v g : Nat} {τ τ' : St} (h : UR g τ τ') : ZRm v g τ τ' := ⟨fun f i _ => h.1 f i, fun f i x a => h.2 f i x (by omega)⟩
theorem ZRm.s1 {v g : Nat} (τ : St) (x : Int32) : ZRm v g τ (sa τ 1 1 v x) := ⟨fun _ _ _ => rfl, fun f i x' a => by
  simp only [gi_si, gi_sr, gi_sg, gi_sa, gr_si, rr_sr, gr_sg, gr_sa, ga_si, ga_sr, ga_sg, ga_sa, true_and, and_true, false_and, and_false, Nat.reduceEqDiff, ↓reduceIte]
  split
  · rename_i h
    obtain ⟨rfl, rfl⟩ := h
    unfold upd
    rw [if_neg (by omega)]
  · rfl⟩
theorem QM.sm {v : Nat} {τ τ' : St} (h : SM τ τ') : QM v τ τ' := ⟨h.1, fun f i x _ b => h.2 f i x b⟩
theorem QM.zf {v j : Nat} (hj : j < 40) {τ τ' : St} (h : ZFm v (40 * v + j) τ τ') : QM v τ τ' := ⟨h.1, fun f i x a b => h.2 f i x (by unfold dM at a; omega)⟩
theorem QM.zr {v j : Nat} (hj : j < 8) {τ τ' : St} (h : ZRm v (8 * v + j) τ τ') : QM v τ τ' := ⟨h.1, fun f i x a b => h.2 f i x (by unfold dM at a; omega)⟩
/-- a version as the reference has it, but for its limit -/
def VM0 (τ : St) (v : Nat) (d : Vd) : Prop :=
  ga τ 1 0 v = nI (vn d) ∧ ga τ 1 1 v = nI (vr d) ∧
  (∀ j, j < vn d → FMc τ (40 * v + j) (vk d j) (vo d j) (oZ d j) (oH d j) (nN d j) (nB d j) (oC d j) (oO d j)) ∧
  (∀ r, r < vr d → RM τ (8 * v + r) (rk d r) (rs d r) (rF d r) (rT d r))
section R3
variable {σ τ σ' τ' : St} {v g g' k o D s : Nat} {z h cp fo : Option Nat} {P B N F T : List Nat} {d : Vd} {H : Option Nat}
theorem FMc.of' (h1 : ∀ i, 3 ≤ i → i ≤ 10 → ga τ' 1 i g = ga τ 1 i g) (h2 : ∀ i x, i = 3 ∨ i = 4 → 12 * g ≤ x → x < 12 * g + 12 → ga τ' 2 i x = ga τ 2 i x) (hN : N.length ≤ 12) (hB : B.length ≤ 12) (a : FMc τ g k o z h N B cp fo) : FMc τ' g k o z h N B cp fo := by
  obtain ⟨⟨a1, a2, a3, a4, a5, a6, a7, a8⟩, a9, a10⟩ := a
  refine ⟨⟨?_, ?_, ?_, ?_, ?_, Bs_of a6 (fun i hi => h2 _ _ (by omega) (by omega) (by omega)), ?_, Bs_of a8 (fun i hi => h2 _ _ (by omega) (by omega) (by omega))⟩, ?_, ?_⟩
  · rw [h1 _ (by omega) (by omega), a1]
  · rw [h1 _ (by omega) (by omega), a2]
  · rw [h1 _ (by omega) (by omega), a3]
  · rw [h1 _ (by omega) (by omega), a4]
  · rw [h1 _ (by omega) (by omega), a5]
  · rw [h1 _ (by omega) (by omega), a7]
  · rw [h1 _ (by omega) (by omega), a9]
  · rw [h1 _ (by omega) (by omega), a10]
theorem RM.of' {q : Nat} (h1 : ∀ i, 11 ≤ i → i ≤ 13 → ga τ' 1 i q = ga τ 1 i q) (h4 : ga τ' 4 0 q = ga τ 4 0 q) (h2 : ∀ i x, i = 5 ∨ i = 6 → 12 * q ≤ x → x < 12 * q + 12 → ga τ' 2 i x = ga τ 2 i x) (hF : F.length ≤ 12) (hT : T.length ≤ 12) (a : RM τ q k s F T) : RM τ' q k s F T := by
  obtain ⟨a1, a2, a3, a4, a5, a6⟩ := a
  refine ⟨?_, ?_, ?_, Bs_of a4 (fun i hi => h2 _ _ (by omega) (by omega) (by omega)), ?_, Bs_of a6 (fun i hi => h2 _ _ (by omega) (by omega) (by omega))⟩
  · rw [h1 _ (by omega) (by omega), a1]
  · rw [h4, a2]
  · rw [h1 _ (by omega) (by omega), a3]
  · rw [h1 _ (by omega) (by omega), a5]
/-- names are short -/
def LW (d : Vd) : Prop := (∀ j, j < vn d → (nN d j).length ≤ 12 ∧ (nB d j).length ≤ 12) ∧ (∀ r, r < vr d → (rF d r).length ≤ 12 ∧ (rT d r).length ≤ 12)
theorem VM0.sm (u : SM τ τ') (l : LW d) (a : VM0 τ v d) : VM0 τ' v d := by
  obtain ⟨h1, h2, h3, h4⟩ := a
  refine ⟨?_, ?_, fun j hj => (h3 j hj).of' (fun i _ _ => u.2 _ _ _ (by omega)) (fun i x _ _ _ => u.2 _ _ _ (by omega)) (l.1 j hj).1 (l.1 j hj).2, fun r hr => RM.of' (fun i _ _ => u.2 _ _ _ (by omega)) (u.2 _ _ _ (by omega)) (fun i x _ _ _ => u.2 _ _ _ (by omega)) (l.2 r hr).1 (l.2 r hr).2 (h4 r hr)⟩
  · rw [u.2 _ _ _ (by omega), h1]
  · rw [u.2 _ _ _ (by omega), h2]
theorem VM0_aF (hn : vn d < 40) (l : LW d) (a : VM0 τ v d) (u : ZFm v (40 * v + vn d) τ τ') (h0 : ga τ' 1 0 v = nI (vn d + 1)) (f : FMc τ' (40 * v + vn d) k 0 none H N [] none none) : VM0 τ' v (aF d k N P H D) := by
  obtain ⟨h1, h2, h3, h4⟩ := a
  refine ⟨h0, ?_, fun j hj => ?_, fun r hr => RM.of' (fun i _ _ => u.2 _ _ _ (by omega)) (u.2 _ _ _ (by omega)) (fun i x _ _ _ => u.2 _ _ _ (by omega)) (l.2 r hr).1 (l.2 r hr).2 (h4 r hr)⟩
  · rw [u.2 _ _ _ (by omega), h2]
    rfl
  · have hj : j < vn d + 1 := hj
    show FMc τ' (40 * v + j) (if j = vn d then k else vk d j) (if j = vn d then 0 else vo d j) (if j = vn d then none else oZ d j) (if j = vn d then H else oH d j) (if j = vn d then N else nN d j) (if j = vn d then [] else nB d j) (if j = vn d then none else oC d j) (if j = vn d then none else oO d j)
    by_cases c : j = vn d
    · simp only [c, if_true]
      exact f
    · simp only [c, if_false]
      exact (h3 j (by omega)).of' (fun i _ _ => u.2 _ _ _ (by omega)) (fun i x _ _ _ => u.2 _ _ _ (by omega)) (l.1 j (by omega)).1 (l.1 j (by omega)).2
theorem VM0_sF {j : Nat} (hn : vn d ≤ 40) (hj : j < vn d) (l : LW d) (a : VM0 τ v d) (u : ZFm v (40 * v + j) τ τ') (h0 : ga τ' 1 0 v = ga τ 1 0 v) (f : FMc τ' (40 * v + j) k o z (oH d j) (nN d j) B (oC d j) (oO d j)) : VM0 τ' v (sF d j k o z B) := by
  obtain ⟨h1, h2, h3, h4⟩ := a
  refine ⟨h0.trans h1, ?_, fun i hi => ?_, fun r hr => RM.of' (fun i _ _ => u.2 _ _ _ (by omega)) (u.2 _ _ _ (by omega)) (fun i x _ _ _ => u.2 _ _ _ (by omega)) (l.2 r hr).1 (l.2 r hr).2 (h4 r hr)⟩
  · rw [u.2 _ _ _ (by omega), h2]
    rfl
  · have hi : i < vn d := hi
    show FMc τ' (40 * v + i) (if i = j then k else vk d i) (if i = j then o else vo d i) (if i = j then z else oZ d i) (oH d i) (nN d i) (if i = j then B else nB d i) (oC d i) (oO d i)
    by_cases c : i = j
    · simp only [c, if_true]
      exact f
    · simp only [c, if_false]
      exact (h3 i hi).of' (fun i _ _ => u.2 _ _ _ (by omega)) (fun i x _ _ _ => u.2 _ _ _ (by omega)) (l.1 i hi).1 (l.1 i hi).2
theorem VM0_aR (l : LW d) (a : VM0 τ v d) (u : ZRm v (8 * v + vr d) τ τ') (h0 : ga τ' 1 1 v = nI (vr d + 1)) (f : RM τ' (8 * v + vr d) k s F T) : VM0 τ' v (aR d k s F T) := by
  obtain ⟨h1, h2, h3, h4⟩ := a
  refine ⟨?_, h0, fun j hj => ?_, fun r hr => ?_⟩
  · rw [u.2 _ _ _ (by omega), h1]
    rfl
  · have hj : j < vn d := hj
    exact (h3 j hj).of' (fun i _ _ => u.2 _ _ _ (by omega)) (fun i x _ _ _ => u.2 _ _ _ (by omega)) (l.1 j hj).1 (l.1 j hj).2
  · have hr : r < vr d + 1 := hr
    show RM τ' (8 * v + r) (if r = vr d then k else rk d r) (if r = vr d then s else rs d r) (if r = vr d then F else rF d r) (if r = vr d then T else rT d r)
    by_cases c : r = vr d
    · simp only [c, if_true]
      exact f
    · simp only [c, if_false]
      exact RM.of' (fun i _ _ => u.2 _ _ _ (by omega)) (u.2 _ _ _ (by omega)) (fun i x _ _ _ => u.2 _ _ _ (by omega)) (l.2 r (by omega)).1 (l.2 r (by omega)).2 (h4 r (by omega))
end R3
