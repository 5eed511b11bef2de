/-! A new object of the class is a world; so is one of the reference. -/
def lX (i : Nat) : Nat := if i = 0 then 1 else if i = 1 then 3 else if i = 2 then 14 else if i = 3 then 16 else if i = 4 then 1971 else if i < 645 then 18 + 244 * ((i - 5) / 2 / 40) + (4 + 5 * ((i - 5) / 2 % 40) + (1 + 2 * ((i - 5) % 2))) else 18 + 244 * ((i - 645) / 2 / 8) + (204 + 5 * ((i - 645) / 2 % 8) + (1 + 2 * ((i - 645) % 2)))
def offX (f i : Nat) : Nat := match f with
  | 0 => 0
  | 1 => lX i
  | 2 => lX i + 1
  | 3 => 18 + 244 * i
  | 4 => 18 + 244 * (i / 40) + (4 + 5 * (i % 40))
  | 5 => 18 + 244 * (i / 8) + (204 + 5 * (i % 8))
  | 6 => 18 + 244 * i + 1
  | 7 => 18 + 244 * i + 2
  | 8 => if i < 8 then 18 + 244 * i + 3 else if i < 11 then i - 2 else if i < 15 then 1962 + i else i - 4
  | 9 => 5
  | 10 => 1970
  | 11 => 10
  | _ => 9
def adX (B f i : Nat) : Nat := B + offX f i
def decX (o : Nat) : Nat × Nat :=
  if o < 18 then [(0, 0), (1, 0), (2, 0), (1, 1), (2, 1), (9, 0), (8, 8), (8, 9), (8, 10), (12, 0), (11, 0), (8, 15), (8, 16), (8, 17), (1, 2), (2, 2), (1, 3), (2, 3)].getD o (0, 0)
  else if o < 1970 then
    if (o - 18) % 244 < 4 then ([3, 6, 7, 8].getD ((o - 18) % 244) 0, (o - 18) / 244)
    else if (o - 18) % 244 < 204 then
      let k := 40 * ((o - 18) / 244) + ((o - 18) % 244 - 4) / 5
      [(4, k), (1, 5 + 2 * k), (2, 5 + 2 * k), (1, 6 + 2 * k), (2, 6 + 2 * k)].getD (((o - 18) % 244 - 4) % 5) (0, 0)
    else
      let k := 8 * ((o - 18) / 244) + ((o - 18) % 244 - 204) / 5
      [(5, k), (1, 645 + 2 * k), (2, 645 + 2 * k), (1, 646 + 2 * k), (2, 646 + 2 * k)].getD (((o - 18) % 244 - 204) % 5) (0, 0)
  else [(10, 0), (1, 4), (2, 4), (8, 11), (8, 12), (8, 13), (8, 14)].getD (o - 1970) (0, 0)
set_option maxRecDepth 100000 in
theorem decX_ok : (enumL cntX).all (fun q => decX (offX q.1 q.2) == q && Nat.blt (offX q.1 q.2) 1977) = true := by decide +kernel
theorem enumL_in {cnt : List Nat} {k : Nat} {q : Nat × Nat} (h : (enumL cnt)[k]? = some q) : q.2 < cnt.getD q.1 0 := by
  obtain ⟨f, hf, h2⟩ := List.mem_flatMap.mp (List.mem_of_getElem? h)
  obtain ⟨i, hi, rfl⟩ := List.mem_map.mp h2
  exact List.mem_range.mp hi
theorem enumL_nodup {cnt : List Nat} {i j : Nat} {q : Nat × Nat} (hi : (enumL cnt)[i]? = some q) (hj : (enumL cnt)[j]? = some q) : i = j := by
  have hn : (enumL cnt).Nodup := by
    unfold enumL
    rw [List.nodup_iff_pairwise_ne, List.pairwise_flatMap]
    refine ⟨fun f _ => ?_, ?_⟩
    · rw [List.pairwise_map]
      exact (List.nodup_iff_pairwise_ne.mp List.nodup_range).imp (fun h e => h (by cases e; rfl))
    · refine (List.nodup_iff_pairwise_ne.mp List.nodup_range).imp (fun {f g} h x hx y hy e => ?_)
      obtain ⟨_, _, rfl⟩ := List.mem_map.mp hx
      obtain ⟨_, _, rfl⟩ := List.mem_map.mp hy
      cases e
      exact h rfl
  obtain ⟨h1, e1⟩ := List.getElem?_eq_some_iff.mp hi
  obtain ⟨h2, e2⟩ := List.getElem?_eq_some_iff.mp hj
  exact (List.getElem_inj hn).mp (e1.trans e2.symm)
/-- a world out of a list of cells: where they lie, that they are apart -/
theorem PP_of {Ω : Wd} {cnt : List Nat} {off : Nat → Nat → Nat} {dec : Nat → Nat × Nat} {N B : Nat} {A : Nat → Prop} {E : Nat → Nat → va_E} {H : Heap} (hdec : (enumL cnt).all (fun q => dec (off q.1 q.2) == q && Nat.blt (off q.1 q.2) N) = true) (hA : ∀ q, B ≤ q → q < B + N → A q) (hE : ∀ f i, i < cnt.getD f 0 → va_at Ω.1 vwCl (B + off f i, E f i) H) : PP Ω cnt (fun f i => B + off f i) A E H := by
  have hd : ∀ (k : Nat) (q : Nat × Nat), (enumL cnt)[k]? = some q → dec (off q.1 q.2) = q ∧ off q.1 q.2 < N := by
    intro k q hk
    have h := List.all_eq_true.mp hdec q (List.mem_of_getElem? hk)
    rw [Bool.and_eq_true] at h
    exact ⟨eq_of_beq h.1, Nat.lt_of_succ_le (Nat.le_of_ble_eq_true h.2)⟩
  have key : ∀ (k : Nat) (x : Nat × va_E), (wsE cnt (fun f i => B + off f i) E)[k]? = some x → ∃ q : Nat × Nat, (enumL cnt)[k]? = some q ∧ x = (B + off q.1 q.2, E q.1 q.2) := by
    intro k x hx
    unfold wsE at hx
    rw [List.getElem?_map] at hx
    cases hq : (enumL cnt)[k]? with
    | none => rw [hq] at hx; cases hx
    | some q => rw [hq] at hx; exact ⟨q, rfl, (Option.some.inj hx).symm⟩
  refine ⟨fun k x hx => ?_, fun i j x y hx hy hxy => ?_, fun k x hx => ?_⟩
  · obtain ⟨q, hq, rfl⟩ := key k x hx
    exact hE _ _ (enumL_in hq)
  · obtain ⟨q, hq, rfl⟩ := key i x hx
    obtain ⟨q2, hq2, rfl⟩ := key j y hy
    have e : off q.1 q.2 = off q2.1 q2.2 := Nat.add_left_cancel hxy
    have e2 : q = q2 := by rw [← (hd i q hq).1, e, (hd j q2 hq2).1]
    subst e2
    exact enumL_nodup hq hq2
  · obtain ⟨q, hq, rfl⟩ := key k x hx
    exact hA _ (Nat.le_add_right _ _) (Nat.add_lt_add_left (hd k q hq).2 B)
theorem fm_at {α : Type} {F : Nat → List α} {m n k r : Nat} (h : ∀ k, (F k).length = m) (hk : k < n) (hr : r < m) : ((List.range n).flatMap F)[m * k + r]? = (F k)[r]? := by
  induction n with
  | zero => omega
  | succ n ih =>
    rw [fm_succ]
    by_cases e : k = n
    · subst e
      rw [app_at (fm_len h k) r rfl]
    · have hk2 : k < n := by omega
      rw [List.getElem?_append_left ?_, ih hk2]
      rw [fm_len h]
      have h1 : m * (k + 1) ≤ m * n := Nat.mul_le_mul_left m hk2
      rw [Nat.mul_succ] at h1
      omega
theorem vat {Ω : Wd} {B v r : Nat} {x : va_E} (hv : v < 8) (hr : r < 244) (h : (cV Ω (B + (18 + 244 * v)))[r]? = some x) : (cX Ω B)[18 + 244 * v + r]? = some x := by
  unfold cX
  rw [app_at (n := 18) rfl (244 * v + r) (by omega), List.getElem?_append_left (by rw [vcs_len]; omega)]
  unfold vcs
  rw [fm_at (F := fun k => cV Ω (B + (18 + 244 * k))) (fun _ => cV_len) hv hr]
  exact h
theorem fat {Ω : Wd} {q j t : Nat} {x : va_E} (hj : j < 40) (ht : t < 5) (h : (cF Ω (q + (4 + 5 * j)))[t]? = some x) : (cV Ω q)[4 + 5 * j + t]? = some x := by
  unfold cV
  rw [app_at (n := 4) rfl (5 * j + t) (by omega), List.getElem?_append_left (by rw [fcs_len]; omega)]
  unfold fcs
  rw [fm_at (F := fun k => cF Ω (q + (4 + 5 * k))) (fun _ => rfl) hj ht]
  exact h
theorem rat {Ω : Wd} {q j t : Nat} {x : va_E} (hj : j < 8) (ht : t < 5) (h : (cRu Ω (q + (204 + 5 * j)))[t]? = some x) : (cV Ω q)[204 + 5 * j + t]? = some x := by
  unfold cV
  rw [app_at (n := 4) rfl (200 + (5 * j + t)) (by omega), app_at (n := 200) fcs_len (5 * j + t) rfl]
  unfold rcs
  rw [fm_at (F := fun k => cRu Ω (q + (204 + 5 * k))) (fun _ => rfl) hj ht]
  exact h
theorem tat {Ω : Wd} {B t : Nat} {x : va_E} (h : (cT Ω (B + 1970) (B + 5) (B + 18) (B + 22) (B + 222))[t]? = some x) : (cX Ω B)[1970 + t]? = some x := by
  unfold cX
  rw [app_at (n := 18) rfl (1952 + t) (by omega), app_at (n := 1952) vcs_len t rfl]
  exact h
def sg0I (f _i : Nat) : Int32 := if f = 104 ∨ f = 105 ∨ f = 106 ∨ f = 107 ∨ f = 709 ∨ f = 414 ∨ f = 416 then -2 else if f = 605 then 40 else 0
/-- the class's state at the start -/
def sig0 : St := (sg0I, fun f _ => if f = 0 then 2 else if f = 1 then 3 else 0, fun _ _ _ => 0)
theorem lt_at {L : List va_E} {k k' : Nat} {x y : va_E} (h : L[k]? = some x) (hk : k' = k) (hx : y = x) : L[k']? = some y := by rw [hk, hx]; exact h
set_option maxRecDepth 100000 in
set_option maxHeartbeats 4000000 in
/-- rows of letters: their objects and their bytes -/
theorem let_at {Ω : Wd} {B i : Nat} (hi : i < 773) : (cX Ω B)[lX i]? = some (.inr (2, [.ref (B + (lX i + 1)), .int 0, .int 0])) ∧ (cX Ω B)[lX i + 1]? = some (.inl (Ω.2.1 1, capX i, .inl (fun _ => 0))) := by
  rcases Nat.lt_or_ge i 5 with h5 | h5
  · match i, h5 with
    | 0, _ => exact ⟨rfl, rfl⟩
    | 1, _ => exact ⟨rfl, rfl⟩
    | 2, _ => exact ⟨rfl, rfl⟩
    | 3, _ => exact ⟨rfl, rfl⟩
    | 4, _ => exact ⟨tat (t := 1) rfl, tat (t := 2) rfl⟩
    | _ + 5, h => omega
  · rcases Nat.lt_or_ge i 645 with h6 | h6
    · have e : lX i = 18 + 244 * ((i - 5) / 2 / 40) + (4 + 5 * ((i - 5) / 2 % 40) + (1 + 2 * ((i - 5) % 2))) := by
        unfold lX
        rw [if_neg (by omega), if_neg (by omega), if_neg (by omega), if_neg (by omega), if_neg (by omega), if_pos h6]
      have hv : (i - 5) / 2 / 40 < 8 := by omega
      have hj : (i - 5) / 2 % 40 < 40 := by omega
      rcases Nat.mod_two_eq_zero_or_one (i - 5) with hm | hm
      · have hc : capX i = 64 := by
          unfold capX
          rw [if_neg (by omega), if_neg (by omega), if_neg (by omega), if_pos (by omega)]
        rw [hm] at e
        refine ⟨lt_at (vat hv (by omega) (fat hj (t := 1) (by omega) rfl)) e ?_, lt_at (vat hv (by omega) (fat hj (t := 2) (by omega) rfl)) (by rw [e]; omega) (by rw [hc])⟩
        rw [e]
        simp only [Nat.add_assoc]
      · have hc : capX i = 12 := by
          unfold capX
          rw [if_neg (by omega), if_neg (by omega), if_neg (by omega), if_neg (by omega)]
        rw [hm] at e
        refine ⟨lt_at (vat hv (by omega) (fat hj (t := 3) (by omega) rfl)) e ?_, lt_at (vat hv (by omega) (fat hj (t := 4) (by omega) rfl)) (by rw [e]; omega) (by rw [hc])⟩
        rw [e]
        simp only [Nat.add_assoc]
    · have e : lX i = 18 + 244 * ((i - 645) / 2 / 8) + (204 + 5 * ((i - 645) / 2 % 8) + (1 + 2 * ((i - 645) % 2))) := by
        unfold lX
        rw [if_neg (by omega), if_neg (by omega), if_neg (by omega), if_neg (by omega), if_neg (by omega), if_neg (by omega)]
      have hv : (i - 645) / 2 / 8 < 8 := by omega
      have hj : (i - 645) / 2 % 8 < 8 := by omega
      have hc : capX i = 12 := by
        unfold capX
        rw [if_neg (by omega), if_neg (by omega), if_neg (by omega), if_neg (by omega)]
      rcases Nat.mod_two_eq_zero_or_one (i - 645) with hm | hm
      · rw [hm] at e
        refine ⟨lt_at (vat hv (by omega) (rat hj (t := 1) (by omega) rfl)) e ?_, lt_at (vat hv (by omega) (rat hj (t := 2) (by omega) rfl)) (by rw [e]; omega) (by rw [hc])⟩
        rw [e]
        simp only [Nat.add_assoc]
      · rw [hm] at e
        refine ⟨lt_at (vat hv (by omega) (rat hj (t := 3) (by omega) rfl)) e ?_, lt_at (vat hv (by omega) (rat hj (t := 4) (by omega) rfl)) (by rw [e]; omega) (by rw [hc])⟩
        rw [e]
        simp only [Nat.add_assoc]
set_option maxRecDepth 100000 in
theorem lX_f {i : Nat} (h : i < 320) : lX (5 + 2 * i) = 18 + 244 * (i / 40) + (4 + 5 * (i % 40)) + 1 ∧ lX (6 + 2 * i) = 18 + 244 * (i / 40) + (4 + 5 * (i % 40)) + 3 := by
  unfold lX
  rw [if_neg (by omega), if_neg (by omega), if_neg (by omega), if_neg (by omega), if_neg (by omega), if_pos (by omega), if_neg (by omega), if_neg (by omega), if_neg (by omega), if_neg (by omega), if_neg (by omega), if_pos (by omega)]
  have e1 : (5 + 2 * i - 5) / 2 = i := by omega
  have e2 : (5 + 2 * i - 5) % 2 = 0 := by omega
  have e3 : (6 + 2 * i - 5) / 2 = i := by omega
  have e4 : (6 + 2 * i - 5) % 2 = 1 := by omega
  rw [e1, e2, e3, e4]
  omega
set_option maxRecDepth 100000 in
theorem lX_r {i : Nat} (h : i < 64) : lX (645 + 2 * i) = 18 + 244 * (i / 8) + (204 + 5 * (i % 8)) + 1 ∧ lX (646 + 2 * i) = 18 + 244 * (i / 8) + (204 + 5 * (i % 8)) + 3 := by
  unfold lX
  rw [if_neg (by omega), if_neg (by omega), if_neg (by omega), if_neg (by omega), if_neg (by omega), if_neg (by omega), if_neg (by omega), if_neg (by omega), if_neg (by omega), if_neg (by omega), if_neg (by omega), if_neg (by omega)]
  have e1 : (645 + 2 * i - 645) / 2 = i := by omega
  have e2 : (645 + 2 * i - 645) % 2 = 0 := by omega
  have e3 : (646 + 2 * i - 645) / 2 = i := by omega
  have e4 : (646 + 2 * i - 645) % 2 = 1 := by omega
  rw [e1, e2, e3, e4]
  omega
theorem arr_congr {cI : ClassId} {N : Nat} {f f' : Nat → Value} (h : ∀ j, j < N → f j = f' j) : arrV cI N f = arrV cI N f' := by
  unfold arrV
  congr 2
  funext j
  exact h j.val j.isLt
theorem at_ref {D : va_G} {H : Heap} {q n : Nat} {cA : ClassId} {f f' : Nat → Option Nat} (h : va_at D vwCl (q, .inl (cA, n, .inr (.inr (.inr (.inr f))))) H) (hf : ∀ j, j < n → f j = f' j) : va_at D vwCl (q, .inl (cA, n, .inr (.inr (.inr (.inr f'))))) H := by
  have h : H[q]? = some (arrV cA n (fun j => va_rf (f j))) := h
  show H[q]? = some (arrV cA n (fun j => va_rf (f' j)))
  rw [h, arr_congr (fun j hj => by rw [hf j hj])]
/-- the cells of a list, one behind the other -/
def HL (Ω : Wd) (B : Nat) (L : List va_E) (H : Heap) : Prop := ∀ (k : Nat) (x : va_E), L[k]? = some x → va_at Ω.1 vwCl (B + k, x) H
theorem HL.at {Ω : Wd} {B k : Nat} {L : List va_E} {H : Heap} {x : va_E} (h : HL Ω B L H) (hk : L[k]? = some x) : va_at Ω.1 vwCl (B + k, x) H := h k x hk
theorem HL.of {Ω : Wd} {g : Nat → Option va_E} {B : Nat} {L : List va_E} {H : Heap} (h : ZB Ω g B L H) : HL Ω B L H := fun _ _ hk => h.1 _ _ (blk_at hk)
theorem HL.left {Ω : Wd} {B : Nat} {L M : List va_E} {H : Heap} (h : HL Ω B (L ++ M) H) : HL Ω B L H := fun k x hk => h k x (by rw [List.getElem?_append_left (List.getElem?_eq_some_iff.mp hk).1]; exact hk)
theorem HL.right {Ω : Wd} {B n : Nat} {L M : List va_E} {H : Heap} (h : HL Ω B (L ++ M) H) (hn : L.length = n) : HL Ω (B + n) M H := fun k x hk => by
  have h1 := h (n + k) x (by rw [app_at hn k rfl]; exact hk)
  rw [← Nat.add_assoc] at h1
  exact h1
set_option maxRecDepth 100000 in
set_option maxHeartbeats 8000000 in
/-- the new object's world -/
theorem newX {Ω : Wd} {B : Nat} {A : Nat → Prop} {H : Heap} (hz : HL Ω B (cX Ω B) H) (hA : ∀ q, B ≤ q → q < B + 1977 → A q) : PicX Ω (adX B) A sig0 H := by
  refine ⟨PP_of (N := 1977) (off := offX) (dec := decX) decX_ok hA ?_, ?_⟩
  · intro f i hi
    match f, hi with
    | 0, hi =>
      have hi : i < 1 := hi
      have e : i = 0 := by omega
      subst e
      exact hz.at rfl
    | 1, hi => exact hz.at (let_at hi).1
    | 2, hi => exact hz.at (let_at hi).2
    | 3, hi =>
      have hi : i < 8 := hi
      exact hz.at (lt_at (vat (v := i) hi (r := 0) (by decide) rfl) rfl (by simp only [encX, adX, offX, Nat.add_assoc]; rw [if_pos hi]; rfl))
    | 4, hi =>
      have hi : i < 320 := hi
      refine hz.at (lt_at (vat (v := i / 40) (by omega) (by omega) (fat (j := i % 40) (by omega) (t := 0) (by omega) rfl)) rfl ?_)
      simp only [encX, adX, offX, (lX_f hi).1, (lX_f hi).2, Nat.add_assoc]
      rfl
    | 5, hi =>
      have hi : i < 64 := hi
      refine hz.at (lt_at (vat (v := i / 8) (by omega) (by omega) (rat (j := i % 8) (by omega) (t := 0) (by omega) rfl)) rfl ?_)
      simp only [encX, adX, offX, (lX_r hi).1, (lX_r hi).2, Nat.add_assoc]
      rfl
    | 6, hi =>
      have hi : i < 8 := hi
      refine at_ref (hz.at (lt_at (vat (v := i) hi (r := 1) (by decide) rfl) rfl rfl)) (fun j hj => ?_)
      show (if j < 40 then _ else _) = _
      rw [if_pos hj]
      show _ = some (B + (18 + 244 * ((40 * i + j) / 40) + (4 + 5 * ((40 * i + j) % 40))))
      congr 1
      omega
    | 7, hi =>
      have hi : i < 8 := hi
      refine at_ref (hz.at (lt_at (vat (v := i) hi (r := 2) (by decide) rfl) rfl rfl)) (fun j hj => ?_)
      show (if j < 8 then _ else _) = _
      rw [if_pos hj]
      show _ = some (B + (18 + 244 * ((8 * i + j) / 8) + (204 + 5 * ((8 * i + j) % 8))))
      congr 1
      omega
    | 8, hi =>
      have hi : i < 18 := hi
      rcases Nat.lt_or_ge i 8 with h8 | h8
      · have e1 : offX 8 i = 18 + 244 * i + 3 := if_pos h8
        have e2 : lenX i = 40 := if_pos h8
        exact hz.at (lt_at (vat (v := i) h8 (r := 3) (by decide) rfl) e1 (by show Sum.inl (_, lenX i, _) = _; rw [e2]; rfl))
      · match i, hi, h8 with
        | 8, _, _ => exact hz.at rfl
        | 9, _, _ => exact hz.at rfl
        | 10, _, _ => exact hz.at rfl
        | 11, _, _ => exact hz.at (tat (t := 3) rfl)
        | 12, _, _ => exact hz.at (tat (t := 4) rfl)
        | 13, _, _ => exact hz.at (tat (t := 5) rfl)
        | 14, _, _ => exact hz.at (tat (t := 6) rfl)
        | 15, _, _ => exact hz.at rfl
        | 16, _, _ => exact hz.at rfl
        | 17, _, _ => exact hz.at rfl
        | n + 18, h, _ => omega
    | 9, hi =>
      have hi : i < 1 := hi
      have e : i = 0 := by omega
      subst e
      exact hz.at rfl
    | 10, hi =>
      have hi : i < 1 := hi
      have e : i = 0 := by omega
      subst e
      exact hz.at (tat (t := 0) rfl)
    | 11, hi =>
      have hi : i < 1 := hi
      have e : i = 0 := by omega
      subst e
      exact hz.at rfl
    | 12, hi =>
      have hi : i < 1 := hi
      have e : i = 0 := by omega
      subst e
      refine at_ref (hz.at (k := 9) rfl) (fun j hj => ?_)
      show (if j < 8 then _ else _) = _
      rw [if_pos hj]
      rfl
    | f + 13, hi =>
      rw [List.getD_eq_getElem?_getD, List.getElem?_eq_none (Nat.le_add_left 13 f)] at hi
      exact absurd hi (Nat.not_lt_zero _)
  · exact ⟨fun _ => (show 2 < 773 by decide), fun _ => (show 3 < 773 by decide), fun _ => (show 0 < 8 by decide), fun _ => (show 0 < 320 by decide), fun _ => (show 0 < 64 by decide), fun _ _ => rfl⟩
def cM (Ω : Wd) (a : Nat) : List va_E := [.inr (8, [.ref (a + 1), .ref (a + 2), .ref (a + 3), .int 0, .int 0, .ref (a + 4), .int 0, .ref (a + 5), .int 0, .int (-2), .int 0, .ref (a + 6), .ref (a + 7), .ref (a + 8), .ref (a + 9), .ref (a + 10), .ref (a + 11), .ref (a + 12), .ref (a + 13), .ref (a + 14), .ref (a + 15), .ref (a + 16), .ref (a + 17), .ref (a + 18), .ref (a + 19), .ref (a + 20), .ref (a + 21), .ref (a + 22), .ref (a + 23), .ref (a + 24), .int 0, .ref (a + 25), .ref (a + 26), .ref (a + 27), .int 0, .int 0, .int 0, .int 0, .int 0, .ref (a + 28), .ref (a + 29), .ref (a + 30), .ref (a + 31), .ref (a + 32), .int 0, .ref (a + 33), .ref (a + 34), .int 0, .ref (a + 35), .ref (a + 36), .int 0, .ref (a + 37), .int 0, .ref (a + 38), .int 0, .ref (a + 39), .ref (a + 40), .ref (a + 41)]), .inl (Ω.2.1 2, 8, .inr (.inl (vp_updL (vp_updL (vp_updL (vp_updL (vp_updL (vp_updL (vp_updL (vp_updL (fun _ => 0) (Int32.toNatClampNeg 0) (2003792484 : Int64)) (Int32.toNatClampNeg 1) (1952807028 : Int64)) (Int32.toNatClampNeg 2) (1819242087 : Int64)) (Int32.toNatClampNeg 3) (1684108389 : Int64)) (Int32.toNatClampNeg 4) (1651470188 : Int64)) (Int32.toNatClampNeg 5) (122468482507636 : Int64)) (Int32.toNatClampNeg 6) (121382007760228 : Int64)) (Int32.toNatClampNeg 7) (418430673267 : Int64)))), .inl (Ω.2.1 2, 7, .inr (.inl (vp_updL (vp_updL (vp_updL (vp_updL (vp_updL (vp_updL (vp_updL (fun _ => 0) (Int32.toNatClampNeg 0) (126943923168612 : Int64)) (Int32.toNatClampNeg 1) (109317377451364 : Int64)) (Int32.toNatClampNeg 2) (474316172659 : Int64)) (Int32.toNatClampNeg 3) (1853189228 : Int64)) (Int32.toNatClampNeg 4) (1668247673 : Int64)) (Int32.toNatClampNeg 5) (25209 : Int64)) (Int32.toNatClampNeg 6) (28518 : Int64)))), .inl (Ω.2.1 1, 2000, .inl (fun _ => 0)), .inl (Ω.2.1 1, 4000, .inl (fun _ => 0)), .inl (Ω.2.1 1, 20000, .inl (fun _ => 0)), .inl (Ω.2.1 0, 8, .inl (fun _ => 0)), .inl (Ω.2.1 0, 8, .inl (fun _ => 0)), .inl (Ω.2.1 0, 8, .inl (fun _ => 0)), .inl (Ω.2.1 0, 320, .inl (fun _ => 0)), .inl (Ω.2.1 1, 3840, .inl (fun _ => 0)), .inl (Ω.2.1 0, 320, .inl (fun _ => 0)), .inl (Ω.2.1 0, 320, .inl (fun _ => 0)), .inl (Ω.2.1 0, 320, .inl (fun _ => 0)), .inl (Ω.2.1 0, 320, .inl (fun _ => 0)), .inl (Ω.2.1 0, 320, .inl (fun _ => 0)), .inl (Ω.2.1 0, 320, .inl (fun _ => 0)), .inl (Ω.2.1 1, 3840, .inl (fun _ => 0)), .inl (Ω.2.1 0, 320, .inl (fun _ => 0)), .inl (Ω.2.1 0, 64, .inl (fun _ => 0)), .inl (Ω.2.1 1, 768, .inl (fun _ => 0)), .inl (Ω.2.1 3, 64, .inl (fun _ => 0)), .inl (Ω.2.1 0, 64, .inl (fun _ => 0)), .inl (Ω.2.1 1, 768, .inl (fun _ => 0)), .inl (Ω.2.1 0, 64, .inl (fun _ => 0)), .inl (Ω.2.1 0, 2001, .inl (fun _ => 0)), .inl (Ω.2.1 0, 2001, .inl (fun _ => 0)), .inl (Ω.2.1 0, 2001, .inl (fun _ => 0)), .inl (Ω.2.1 0, 700, .inl (fun _ => 0)), .inl (Ω.2.1 0, 700, .inl (fun _ => 0)), .inl (Ω.2.1 0, 700, .inl (fun _ => 0)), .inl (Ω.2.1 0, 700, .inl (fun _ => 0)), .inl (Ω.2.1 0, 700, .inl (fun _ => 0)), .inl (Ω.2.1 0, 700, .inl (fun _ => 0)), .inl (Ω.2.1 0, 40, .inl (fun _ => 0)), .inl (Ω.2.1 0, 5, .inl (fun _ => 0)), .inl (Ω.2.1 1, 128, .inl (fun _ => 0)), .inl (Ω.2.1 1, 128, .inl (fun _ => 0)), .inl (Ω.2.1 0, 6, .inl (fun _ => 0)), .inl (Ω.2.1 0, 80, .inl (fun _ => 0)), .inl (Ω.2.1 0, 80, .inl (fun _ => 0)), .inl (Ω.2.1 0, 80, .inl (fun _ => 0))]
def offM (f i : Nat) : Nat := match f with
  | 0 => 0
  | 1 => ([6, 7, 8, 9, 11, 12, 13, 14, 15, 16, 18, 19, 22, 24, 25, 26, 27, 28, 29, 30, 31, 32, 33, 34, 35, 38, 39, 40, 41] : List Nat).getD i 0
  | 2 => ([3, 4, 5, 10, 17, 20, 23, 36, 37] : List Nat).getD i 0
  | 3 => ([1, 2] : List Nat).getD i 0
  | 4 => ([21] : List Nat).getD i 0
  | _ => 0
def adM (B f i : Nat) : Nat := B + offM f i
def decM (o : Nat) : Nat × Nat := ([(0, 0), (3, 0), (3, 1), (2, 0), (2, 1), (2, 2), (1, 0), (1, 1), (1, 2), (1, 3), (2, 3), (1, 4), (1, 5), (1, 6), (1, 7), (1, 8), (1, 9), (2, 4), (1, 10), (1, 11), (2, 5), (4, 0), (1, 12), (2, 6), (1, 13), (1, 14), (1, 15), (1, 16), (1, 17), (1, 18), (1, 19), (1, 20), (1, 21), (1, 22), (1, 23), (1, 24), (2, 7), (2, 8), (1, 25), (1, 26), (1, 27), (1, 28)] : List (Nat × Nat)).getD o (0, 0)
theorem decM_ok : (enumL cntM).all (fun q => decM (offM q.1 q.2) == q && Nat.blt (offM q.1 q.2) 42) = true := by decide +kernel
/-- the reference's state at the start -/
def tau0 : St := (fun f _ => if f = 809 then -2 else 0, fun _ _ => 0, fun _ _ _ => 0)
theorem at_long {D : va_G} {H : Heap} {q n : Nat} {cA : ClassId} {f f' : Nat → Int64} (h : va_at D vwCl (q, .inl (cA, n, .inr (.inl f))) H) (hf : ∀ j, j < n → f j = f' j) : va_at D vwCl (q, .inl (cA, n, .inr (.inl f'))) H := by
  have h : H[q]? = some (arrV cA n (fun j => .long (f j))) := h
  show H[q]? = some (arrV cA n (fun j => .long (f' j)))
  rw [h, arr_congr (fun j hj => by rw [hf j hj])]
set_option maxRecDepth 100000 in
set_option maxHeartbeats 8000000 in
theorem newM {Ω : Wd} {B : Nat} {A : Nat → Prop} {H : Heap} (hz : HL Ω B (cM Ω B) H) (hA : ∀ q, B ≤ q → q < B + 42 → A q) : PicM Ω (adM B) A tau0 H := by
  refine ⟨PP_of (N := 42) (off := offM) (dec := decM) decM_ok hA ?_, trivial⟩
  intro f i hi
  match f, hi with
  | 0, hi =>
    have hi : i < 1 := hi
    have e : i = 0 := by omega
    subst e
    exact hz.at rfl
  | 1, hi =>
    have hi : i < 29 := hi
    match i, hi with
    | 0, _ => exact hz.at (k := 6) rfl
    | 1, _ => exact hz.at (k := 7) rfl
    | 2, _ => exact hz.at (k := 8) rfl
    | 3, _ => exact hz.at (k := 9) rfl
    | 4, _ => exact hz.at (k := 11) rfl
    | 5, _ => exact hz.at (k := 12) rfl
    | 6, _ => exact hz.at (k := 13) rfl
    | 7, _ => exact hz.at (k := 14) rfl
    | 8, _ => exact hz.at (k := 15) rfl
    | 9, _ => exact hz.at (k := 16) rfl
    | 10, _ => exact hz.at (k := 18) rfl
    | 11, _ => exact hz.at (k := 19) rfl
    | 12, _ => exact hz.at (k := 22) rfl
    | 13, _ => exact hz.at (k := 24) rfl
    | 14, _ => exact hz.at (k := 25) rfl
    | 15, _ => exact hz.at (k := 26) rfl
    | 16, _ => exact hz.at (k := 27) rfl
    | 17, _ => exact hz.at (k := 28) rfl
    | 18, _ => exact hz.at (k := 29) rfl
    | 19, _ => exact hz.at (k := 30) rfl
    | 20, _ => exact hz.at (k := 31) rfl
    | 21, _ => exact hz.at (k := 32) rfl
    | 22, _ => exact hz.at (k := 33) rfl
    | 23, _ => exact hz.at (k := 34) rfl
    | 24, _ => exact hz.at (k := 35) rfl
    | 25, _ => exact hz.at (k := 38) rfl
    | 26, _ => exact hz.at (k := 39) rfl
    | 27, _ => exact hz.at (k := 40) rfl
    | 28, _ => exact hz.at (k := 41) rfl
    | n + 29, h => omega
  | 2, hi =>
    have hi : i < 9 := hi
    match i, hi with
    | 0, _ => exact hz.at (k := 3) rfl
    | 1, _ => exact hz.at (k := 4) rfl
    | 2, _ => exact hz.at (k := 5) rfl
    | 3, _ => exact hz.at (k := 10) rfl
    | 4, _ => exact hz.at (k := 17) rfl
    | 5, _ => exact hz.at (k := 20) rfl
    | 6, _ => exact hz.at (k := 23) rfl
    | 7, _ => exact hz.at (k := 36) rfl
    | 8, _ => exact hz.at (k := 37) rfl
    | n + 9, h => omega
  | 3, hi =>
    have hi : i < 2 := hi
    match i, hi with
    | 0, _ => exact at_long (hz.at (k := 1) rfl) (by decide +kernel)
    | 1, _ => exact at_long (hz.at (k := 2) rfl) (by decide +kernel)
    | n + 2, h => omega
  | 4, hi =>
    have hi : i < 1 := hi
    match i, hi with
    | 0, _ => exact hz.at (k := 21) rfl
    | n + 1, h => omega
  | f + 5, hi =>
    rw [List.getD_eq_getElem?_getD, List.getElem?_eq_none (Nat.le_add_left 5 f)] at hi
    exact absurd hi (Nat.not_lt_zero _)
