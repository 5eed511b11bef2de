/-! The constructors with loops: Version, MappingTexts. -/
def cF (Ω : Wd) (a : Nat) : List va_E := [.inr (1, [.ref (a + 1), .ref (a + 3), .int 0, .int 0, .int (-2), .int (-2), .int (-2), .int (-2), .int 0]), .inr (2, [.ref (a + 2), .int 0, .int 0]), .inl (Ω.2.1 1, 64, .inl (fun _ => 0)), .inr (2, [.ref (a + 4), .int 0, .int 0]), .inl (Ω.2.1 1, 12, .inl (fun _ => 0))]
def cRu (Ω : Wd) (a : Nat) : List va_E := [.inr (3, [.ref (a + 1), .ref (a + 3), .int 0, .int 0]), .inr (2, [.ref (a + 2), .int 0, .int 0]), .inl (Ω.2.1 1, 12, .inl (fun _ => 0)), .inr (2, [.ref (a + 4), .int 0, .int 0]), .inl (Ω.2.1 1, 12, .inl (fun _ => 0))]
/-- addresses, n of them, d apart -/
def fR (q c d n : Nat) : Nat → Option Nat := fun j => if j < n then some (q + (c + d * j)) else none
theorem fR_0 {q c d : Nat} : fR q c d 0 = fun _ => none := rfl
theorem fR_succ {q c d n : Nat} : va_up (fR q c d n) n (some (q + (c + d * n))) = fR q c d (n + 1) := by
  funext j
  by_cases e : j = n
  · subst e
    rw [va_up_self]
    unfold fR
    rw [if_pos (Nat.lt_succ_self _)]
  · rw [va_up_ne _ _ e]
    unfold fR
    by_cases h : j < n
    · rw [if_pos h, if_pos (by omega)]
    · rw [if_neg h, if_neg (by omega)]
def fcs (Ω : Wd) (q n : Nat) : List va_E := (List.range n).flatMap fun k => cF Ω (q + (4 + 5 * k))
def rcs (Ω : Wd) (q n : Nat) : List va_E := (List.range n).flatMap fun k => cRu Ω (q + (204 + 5 * k))
theorem fm_succ {α : Type} (F : Nat → List α) (n : Nat) : (List.range (n + 1)).flatMap F = (List.range n).flatMap F ++ F n := by
  rw [List.range_succ, List.flatMap_append]
  simp
theorem fm_len {α : Type} {F : Nat → List α} {m : Nat} (h : ∀ k, (F k).length = m) : ∀ n, ((List.range n).flatMap F).length = m * n := by
  intro n
  induction n with
  | zero => rfl
  | succ n ih => rw [fm_succ, List.length_append, ih, h, Nat.mul_succ]
theorem fcs_len {Ω : Wd} {q n : Nat} : (fcs Ω q n).length = 5 * n := fm_len (F := fun k => cF Ω (q + (4 + 5 * k))) (m := 5) (fun _ => rfl) n
theorem rcs_len {Ω : Wd} {q n : Nat} : (rcs Ω q n).length = 5 * n := fm_len (F := fun k => cRu Ω (q + (204 + 5 * k))) (m := 5) (fun _ => rfl) n
def vH (Ω : Wd) (q n m : Nat) : List va_E := [.inr (6, [.ref (q + 1), .ref (q + 2), .ref (q + 3), .int 0, .int 0, .int 40]), .inl (Ω.2.1 4, 40, .inr (.inr (.inr (.inr (fR q 4 5 n))))), .inl (Ω.2.1 5, 8, .inr (.inr (.inr (.inr (fR q 204 5 m))))), .inl (Ω.2.1 0, 40, .inl (fun _ => 0))]
def cV (Ω : Wd) (q : Nat) : List va_E := vH Ω q 40 8 ++ (fcs Ω q 40 ++ rcs Ω q 8)
theorem cV_len {Ω : Wd} {q : Nat} : (cV Ω q).length = 244 := by
  unfold cV
  rw [List.length_append, List.length_append, fcs_len, rcs_len]
  rfl
theorem app_at {α : Type} {L M : List α} {k n : Nat} (h : L.length = n) (r : Nat) (hk : k = n + r) : (L ++ M)[k]? = M[r]? := by
  subst hk
  rw [List.getElem?_append_right (by omega)]
  congr 1
  omega
theorem q_X7_init : yX7_init.cls ≠ "java/lang/invoke/MethodHandle" ∧ yX7_init.cls ≠ "java/lang/invoke/VarHandle" ∧ (parseMethodDescriptor yX7_init.desc).map (fun d => d.parameters.length) = some 0 := ⟨by decide +kernel, by decide +kernel, by decide +kernel⟩
def rm_X7_init : Room := { frames := 3, cells := 243, slots := 4000, locals := 81 }
set_option maxHeartbeats 8000000 in
set_option maxRecDepth 100000 in
theorem lpF {Γ : Cx} {Q : State → Prop} {Ω : Wd} {A : Nat → Prop} {g : Nat → Option va_E} {a : Nat} (X : Fx Γ Ω A cX7_init 2 "MappingTexts$Version" rm_X7_init none) (hA : ∀ q, a ≤ q → A q)
    (hK : V Γ (203, 3728) Q A 2 (ZB Ω g a (vH Ω a 40 0 ++ fcs Ω a 40)) 73 [(1, .int (nI 40)), (0, .ref a)] []) :
    ∀ (k n : Nat), n + k = 40 → V Γ (3 + 5 * n, 88 + 91 * n) Q A 2 (ZB Ω g a (vH Ω a n 0 ++ fcs Ω a n)) 48 [(1, .int (nI n)), (0, .ref a)] [] := by
  intro k
  induction k with
  | zero =>
    intro n hn
    have hn : n = 40 := by omega
    subst hn
    refine tv_iload_n X dX7_init_48 rfl 0 rfl ?_
    refine tv_bipush X 40 dX7_init_49 (by decide) ?_
    exact tv_icmp_ge X 73 dX7_init_51 (by decide) (if_pos (by decide) : (if (40 : Int32) ≤ nI 40 then some () else none) = some ()) (fun _ => hK) (fun h => nomatch h)
  | succ k ih =>
    intro n hn
    have hlt : n < 40 := by omega
    have hlen : (vH Ω a n 0 ++ fcs Ω a n).length = 4 + 5 * n := by rw [List.length_append, fcs_len]; rfl
    refine tv_iload_n X dX7_init_48 rfl 0 rfl ?_
    refine tv_bipush X 40 dX7_init_49 (by decide) ?_
    refine tv_icmp_ge X 73 dX7_init_51 (by decide) (if_neg (nI_ge (b := 40) hlt (by decide)) : (if (40 : Int32) ≤ nI n then none else some ()) = some ()) (fun h => nomatch h) (fun _ => ?_)
    refine tv_aload_n X dX7_init_54 rfl 1 rfl ?_
    refine tb_get (k0 := 0) (k := 0) X rfl rfl rfl inG7 (by decide) gw_1_193 rfl dX7_init_55 ?_
    refine tv_iload_n X dX7_init_58 rfl 0 rfl ?_
    refine tb_new (ci := 1) (cs' := (3 + 5 * n + 1, 88 + 91 * n + 9)) X (4 + 5 * n) hlen rfl inG1 tyX1_ok gw_1_98 gw_1_102 gw_1_7 dfl1 rfl ⟨(by show 3 + 5 * n + 1 ≤ 243; omega), (by show 88 + 91 * n + 9 ≤ 4000; omega)⟩ dX7_init_59 ?_
    refine tv_dup X dX7_init_62 rfl ?_
    refine tb_callN (host := "MappingTexts") (M := cF Ω (a + (4 + 5 * n))) (cs' := (3 + 5 * (n + 1), 88 + 91 * (n + 1))) (st := [.ref (a + (4 + 5 * n)), .int (nI n), .ref (a + 1)]) X hlen (n_X1_init Γ.2.1 Ω A _ (a + (4 + 5 * n)) (fun q h => hA q (by omega))) ⟨gw_1_105, gw_1_7, q_X1_init, rfl, gw_1_104, rfl, rfl, (Nat.le_of_ble_eq_true rfl), (Nat.le_of_ble_eq_true rfl)⟩ (by decide) rfl rfl (Nat.le_of_ble_eq_true rfl) (by rw [Prod.mk.injEq]; constructor <;> omega) ⟨(by show 3 + 5 * (n + 1) ≤ 243; omega), (by show 88 + 91 * (n + 1) ≤ 4000; omega)⟩ dX7_init_63 ?_
    refine tb_aast (k0 := 1) (k1 := 4 + 5 * n) X hA 4 1 rfl rfl rfl ((app_at hlen 0 rfl).trans rfl) rfl rfl (vp_in_nI hlt (by decide)) dX7_init_66 (L' := vH Ω a (n + 1) 0 ++ fcs Ω a (n + 1)) (by
      rw [nI_clamp (by omega), fR_succ, show fcs Ω a (n + 1) = fcs Ω a n ++ cF Ω (a + (4 + 5 * n)) from fm_succ _ n]
      rfl) ?_
    refine tv_iinc X (nI (n + 1)) dX7_init_67 0 rfl (by rw [nI_succ]; rfl) (by decide) [(1, .int (nI (n + 1))), (0, .ref a)] rfl ?_
    refine tv_goto X 48 dX7_init_70 (by decide) ?_
    exact ih (n + 1) (by omega)
set_option maxHeartbeats 8000000 in
set_option maxRecDepth 100000 in
theorem lpR {Γ : Cx} {Q : State → Prop} {Ω : Wd} {A : Nat → Prop} {g : Nat → Option va_E} {a : Nat} (X : Fx Γ Ω A cX7_init 2 "MappingTexts$Version" rm_X7_init none) (hA : ∀ q, a ≤ q → A q)
    (hK : V Γ (243, 4000) Q A 2 (ZB Ω g a (vH Ω a 40 8 ++ (fcs Ω a 40 ++ rcs Ω a 8))) 100 [(1, .int (nI 8)), (0, .ref a)] []) :
    ∀ (k n : Nat), n + k = 8 → V Γ (203 + 5 * n, 3728 + 34 * n) Q A 2 (ZB Ω g a (vH Ω a 40 n ++ (fcs Ω a 40 ++ rcs Ω a n))) 75 [(1, .int (nI n)), (0, .ref a)] [] := by
  intro k
  induction k with
  | zero =>
    intro n hn
    have hn : n = 8 := by omega
    subst hn
    refine tv_iload_n X dX7_init_75 rfl 0 rfl ?_
    refine tv_bipush X 8 dX7_init_76 (by decide) ?_
    exact tv_icmp_ge X 100 dX7_init_78 (by decide) (if_pos (by decide) : (if (8 : Int32) ≤ nI 8 then some () else none) = some ()) (fun _ => hK) (fun h => nomatch h)
  | succ k ih =>
    intro n hn
    have hlt : n < 8 := by omega
    have hlen : (vH Ω a 40 n ++ (fcs Ω a 40 ++ rcs Ω a n)).length = 204 + 5 * n := by
      rw [List.length_append, List.length_append, fcs_len, rcs_len, ← Nat.add_assoc]; rfl
    refine tv_iload_n X dX7_init_75 rfl 0 rfl ?_
    refine tv_bipush X 8 dX7_init_76 (by decide) ?_
    refine tv_icmp_ge X 100 dX7_init_78 (by decide) (if_neg (nI_ge (b := 8) hlt (by decide)) : (if (8 : Int32) ≤ nI n then none else some ()) = some ()) (fun h => nomatch h) (fun _ => ?_)
    refine tv_aload_n X dX7_init_81 rfl 1 rfl ?_
    refine tb_get (k0 := 0) (k := 1) X rfl rfl rfl inG7 (by decide) gw_1_197 rfl dX7_init_82 ?_
    refine tv_iload_n X dX7_init_85 rfl 0 rfl ?_
    refine tb_new (ci := 3) (cs' := (203 + 5 * n + 1, 3728 + 34 * n + 4)) X (204 + 5 * n) hlen rfl inG4 tyX4_ok gw_1_100 gw_1_168 gw_1_8 dfl4 rfl ⟨(by show 203 + 5 * n + 1 ≤ 243; omega), (by show 3728 + 34 * n + 4 ≤ 4000; omega)⟩ dX7_init_86 ?_
    refine tv_dup X dX7_init_89 rfl ?_
    refine tb_callN (host := "MappingTexts") (M := cRu Ω (a + (204 + 5 * n))) (cs' := (203 + 5 * (n + 1), 3728 + 34 * (n + 1))) (st := [.ref (a + (204 + 5 * n)), .int (nI n), .ref (a + 2)]) X hlen (n_X4_init Γ.2.1 Ω A _ (a + (204 + 5 * n)) (fun q h => hA q (by omega))) ⟨gw_1_171, gw_1_8, q_X4_init, rfl, gw_1_170, rfl, rfl, (Nat.le_of_ble_eq_true rfl), (Nat.le_of_ble_eq_true rfl)⟩ (by decide) rfl rfl (Nat.le_of_ble_eq_true rfl) (by rw [Prod.mk.injEq]; constructor <;> omega) ⟨(by show 203 + 5 * (n + 1) ≤ 243; omega), (by show 3728 + 34 * (n + 1) ≤ 4000; omega)⟩ dX7_init_90 ?_
    refine tb_aast (k0 := 2) (k1 := 204 + 5 * n) X hA 5 3 rfl rfl rfl ((app_at hlen 0 rfl).trans rfl) rfl rfl (vp_in_nI hlt (by decide)) dX7_init_93 (L' := vH Ω a 40 (n + 1) ++ (fcs Ω a 40 ++ rcs Ω a (n + 1))) (by
      rw [nI_clamp (by omega), fR_succ, show rcs Ω a (n + 1) = rcs Ω a n ++ cRu Ω (a + (204 + 5 * n)) from fm_succ _ n, ← List.append_assoc (fcs Ω a 40)]
      rfl) ?_
    refine tv_iinc X (nI (n + 1)) dX7_init_94 0 rfl (by rw [nI_succ]; rfl) (by decide) [(1, .int (nI (n + 1))), (0, .ref a)] rfl ?_
    refine tv_goto X 75 dX7_init_97 (by decide) ?_
    exact ih (n + 1) (by omega)
set_option maxHeartbeats 8000000 in
set_option maxRecDepth 100000 in
theorem n_X7_init (l : Launch) (Ω : Wd) (A : Nat → Prop) (g : Nat → Option va_E) (a : Nat) (hA : ∀ q, a ≤ q → A q) : Met l yX7_init (wsO yX7_init cX7_init 2 none) rm_X7_init (PcZ Ω A (ZB Ω g a [.inr (6, [.null, .null, .null, .int 0, .int 0, .int 0])]) [.ref a]) (QcG Ω (blk g a (cV Ω a)) (a + (cV Ω a).length) A) 243 4000 A := by
  refine Met.ofVc (by decide) rfl (fun Γ hΓ hid X => ?_)
  have X : Fx Γ Ω A cX7_init 2 "MappingTexts$Version" rm_X7_init none := X
  show V Γ (0, 0) _ A 2 _ 0 [(0, .ref a)] []
  refine tv_aload_n X dX7_init_0 rfl 0 rfl ?_
  refine tg_objInit X gw_1_97 gw_1_23 gw_1_24 (Nat.le_of_ble_eq_true rfl) (Nat.le_of_ble_eq_true rfl) dX7_init_1 ?_
  refine tv_aload_n X dX7_init_4 rfl 0 rfl ?_
  refine tv_bipush X 40 dX7_init_5 (by decide) ?_
  refine tb_anew (N := 40) (cs' := (1, 40)) X 4 1 rfl gw_1_98 (by decide) rfl (by decide) (by decide) (by decide) rfl ⟨(Nat.le_of_ble_eq_true rfl), (Nat.le_of_ble_eq_true rfl)⟩ dX7_init_7 ?_
  refine tb_putF (k0 := 0) (k := 0) X hA hid rfl rfl rfl inG7 tyX7_ok nmX7 (by decide) gw_1_193 rfl rfl rfl rfl rfl rfl dX7_init_10 (L' := [.inr (6, [.ref (a + 1), .null, .null, .int 0, .int 0, .int 0]), .inl (Ω.2.1 4, 40, .inr (.inr (.inr (.inr (fun _ => none)))))]) rfl ?_
  refine tv_aload_n X dX7_init_13 rfl 0 rfl ?_
  refine tv_bipush X 8 dX7_init_14 (by decide) ?_
  refine tb_anew (N := 8) (cs' := (2, 48)) X 5 2 rfl gw_1_100 (by decide) rfl (by decide) (by decide) (by decide) rfl ⟨(Nat.le_of_ble_eq_true rfl), (Nat.le_of_ble_eq_true rfl)⟩ dX7_init_16 ?_
  refine tb_putF (k0 := 0) (k := 1) X hA hid rfl rfl rfl inG7 tyX7_ok nmX7 (by decide) gw_1_197 rfl rfl rfl rfl rfl rfl dX7_init_19 (L' := [.inr (6, [.ref (a + 1), .ref (a + 2), .null, .int 0, .int 0, .int 0]), .inl (Ω.2.1 4, 40, .inr (.inr (.inr (.inr (fun _ => none))))), .inl (Ω.2.1 5, 8, .inr (.inr (.inr (.inr (fun _ => none)))))]) rfl ?_
  refine tv_aload_n X dX7_init_22 rfl 0 rfl ?_
  refine tv_bipush X 40 dX7_init_23 (by decide) ?_
  refine tb_newa (atype := .int) (x := (40, .inl (fun _ => 0))) (cs' := (3, 88)) X 0 3 rfl gw_1_67 rfl (fun _ _ => rfl) (fun _ => rfl) (by decide) (by decide) (by decide) rfl ⟨(Nat.le_of_ble_eq_true rfl), (Nat.le_of_ble_eq_true rfl)⟩ dX7_init_25 ?_
  refine tb_putF (k0 := 0) (k := 2) X hA hid rfl rfl rfl inG7 tyX7_ok nmX7 (by decide) gw_1_199 rfl rfl rfl rfl rfl rfl dX7_init_27 (L' := [.inr (6, [.ref (a + 1), .ref (a + 2), .ref (a + 3), .int 0, .int 0, .int 0]), .inl (Ω.2.1 4, 40, .inr (.inr (.inr (.inr (fun _ => none))))), .inl (Ω.2.1 5, 8, .inr (.inr (.inr (.inr (fun _ => none))))), .inl (Ω.2.1 0, 40, .inl (fun _ => 0))]) rfl ?_
  refine tv_aload_n X dX7_init_30 rfl 0 rfl ?_
  refine tv_iconst X 0 dX7_init_31 (by decide) ?_
  refine tb_put (k0 := 0) (k := 3) X hA rfl rfl rfl inG7 tyX7_ok nmX7 (by decide) gw_1_201 rfl rfl rfl rfl rfl dX7_init_32 (L' := [.inr (6, [.ref (a + 1), .ref (a + 2), .ref (a + 3), .int 0, .int 0, .int 0]), .inl (Ω.2.1 4, 40, .inr (.inr (.inr (.inr (fun _ => none))))), .inl (Ω.2.1 5, 8, .inr (.inr (.inr (.inr (fun _ => none))))), .inl (Ω.2.1 0, 40, .inl (fun _ => 0))]) rfl ?_
  refine tv_aload_n X dX7_init_35 rfl 0 rfl ?_
  refine tv_iconst X 0 dX7_init_36 (by decide) ?_
  refine tb_put (k0 := 0) (k := 4) X hA rfl rfl rfl inG7 tyX7_ok nmX7 (by decide) gw_1_205 rfl rfl rfl rfl rfl dX7_init_37 (L' := [.inr (6, [.ref (a + 1), .ref (a + 2), .ref (a + 3), .int 0, .int 0, .int 0]), .inl (Ω.2.1 4, 40, .inr (.inr (.inr (.inr (fun _ => none))))), .inl (Ω.2.1 5, 8, .inr (.inr (.inr (.inr (fun _ => none))))), .inl (Ω.2.1 0, 40, .inl (fun _ => 0))]) rfl ?_
  refine tv_aload_n X dX7_init_40 rfl 0 rfl ?_
  refine tv_bipush X 40 dX7_init_41 (by decide) ?_
  refine tb_put (k0 := 0) (k := 5) X hA rfl rfl rfl inG7 tyX7_ok nmX7 (by decide) gw_1_208 rfl rfl rfl rfl rfl dX7_init_43 (L' := [.inr (6, [.ref (a + 1), .ref (a + 2), .ref (a + 3), .int 0, .int 0, .int 40]), .inl (Ω.2.1 4, 40, .inr (.inr (.inr (.inr (fun _ => none))))), .inl (Ω.2.1 5, 8, .inr (.inr (.inr (.inr (fun _ => none))))), .inl (Ω.2.1 0, 40, .inl (fun _ => 0))]) rfl ?_
  refine tv_iconst X 0 dX7_init_46 (by decide) ?_
  refine tv_istore_n X dX7_init_47 rfl (by decide) [(1, .int 0), (0, .ref a)] rfl ?_
  refine lpF (Q := Qe Γ (243, 4000) A _) X hA ?_ 40 0 rfl
  refine tv_iconst X 0 dX7_init_73 (by decide) ?_
  refine tv_istore_n X dX7_init_74 rfl (by decide) [(1, .int 0), (0, .ref a)] rfl ?_
  refine V.to (Z' := ZB Ω g a (vH Ω a 40 0 ++ (fcs Ω a 40 ++ rcs Ω a 0))) (fun H h => by rw [show rcs Ω a 0 = [] from rfl, List.append_nil]; exact h) ?_
  refine lpR X hA ?_ 8 0 rfl
  exact tb_vret (L := cV Ω a) X dX7_init_100
def mH (Ω : Wd) (a n : Nat) (rd : Value) : List va_E := [.inr (7, [.ref (a + 1), .ref (a + 3), .ref (a + 5), .ref (a + 9), rd, .ref (a + 10), .ref (a + 14), .ref (a + 16), .int 0, .int (-2)]), .inr (2, [.ref (a + 2), .int 0, .int 0]), .inl (Ω.2.1 1, 2000, .inl (fun _ => 0)), .inr (2, [.ref (a + 4), .int 0, .int 0]), .inl (Ω.2.1 1, 64, .inl (fun _ => 0)), .inr (5, [.ref (a + 1), .ref (a + 6), .ref (a + 7), .ref (a + 8), .int 0]), .inl (Ω.2.1 0, 2000, .inl (fun _ => 0)), .inl (Ω.2.1 0, 2000, .inl (fun _ => 0)), .inl (Ω.2.1 0, 2000, .inl (fun _ => 0)), .inl (Ω.2.1 6, 8, .inr (.inr (.inr (.inr (fR a 18 244 n))))), .inr (0, [.ref (a + 11), .ref (a + 12), .ref (a + 13), .int 0]), .inl (Ω.2.1 0, 80, .inl (fun _ => 0)), .inl (Ω.2.1 0, 80, .inl (fun _ => 0)), .inl (Ω.2.1 0, 80, .inl (fun _ => 0)), .inr (2, [.ref (a + 15), .int 0, .int 0]), .inl (Ω.2.1 1, 4000, .inl (fun _ => 0)), .inr (2, [.ref (a + 17), .int 0, .int 0]), .inl (Ω.2.1 1, 4000, .inl (fun _ => 0))]
def vcs (Ω : Wd) (q n : Nat) : List va_E := (List.range n).flatMap fun k => cV Ω (q + (18 + 244 * k))
theorem vcs_len {Ω : Wd} {q n : Nat} : (vcs Ω q n).length = 244 * n := fm_len (F := fun k => cV Ω (q + (18 + 244 * k))) (m := 244) (fun _ => cV_len) n
def cT (Ω : Wd) (a tk vv f0 r0 : Nat) : List va_E := [.inr (4, [.ref tk, .ref (a + 1), .ref (a + 3), .ref (a + 4), .ref (a + 5), .ref (a + 6), .ref vv, .ref f0, .ref r0, .int 0, .int 0, .int 0, .int 0, .int 0, .int (-2), .int 0, .int (-2)]), .inr (2, [.ref (a + 2), .int 0, .int 0]), .inl (Ω.2.1 1, 64, .inl (fun _ => 0)), .inl (Ω.2.1 0, 4, .inl (fun _ => 0)), .inl (Ω.2.1 0, 40, .inl (fun _ => 0)), .inl (Ω.2.1 0, 40, .inl (fun _ => 0)), .inl (Ω.2.1 0, 40, .inl (fun _ => 0))]
theorem q_X8_init : yX8_init.cls ≠ "java/lang/invoke/MethodHandle" ∧ yX8_init.cls ≠ "java/lang/invoke/VarHandle" ∧ (parseMethodDescriptor yX8_init.desc).map (fun d => d.parameters.length) = some 0 := ⟨by decide +kernel, by decide +kernel, by decide +kernel⟩
def rm_X8_init : Room := { frames := 4, cells := 1976, slots := 48589, locals := 102 }
set_option maxHeartbeats 8000000 in
set_option maxRecDepth 100000 in
theorem lpV {Γ : Cx} {Q : State → Prop} {Ω : Wd} {A : Nat → Prop} {g : Nat → Option va_E} {a : Nat} (X : Fx Γ Ω A cX8_init 2 "MappingTexts" rm_X8_init none) (hA : ∀ q, a ≤ q → A q)
    (hK : V Γ (1969, 48381) Q A 2 (ZB Ω g a (mH Ω a 8 .null ++ vcs Ω a 8)) 132 [(1, .int (nI 8)), (0, .ref a)] []) :
    ∀ (k n : Nat), n + k = 8 → V Γ (17 + 244 * n, 16333 + 4006 * n) Q A 2 (ZB Ω g a (mH Ω a n .null ++ vcs Ω a n)) 107 [(1, .int (nI n)), (0, .ref a)] [] := by
  intro k
  induction k with
  | zero =>
    intro n hn
    have hn : n = 8 := by omega
    subst hn
    refine tv_iload_n X dX8_init_107 rfl 0 rfl ?_
    refine tv_bipush X 8 dX8_init_108 (by decide) ?_
    exact tv_icmp_ge X 132 dX8_init_110 (by decide) (if_pos (by decide) : (if (8 : Int32) ≤ nI 8 then some () else none) = some ()) (fun _ => hK) (fun h => nomatch h)
  | succ k ih =>
    intro n hn
    have hlt : n < 8 := by omega
    have hlen : (mH Ω a n .null ++ vcs Ω a n).length = 18 + 244 * n := by rw [List.length_append, vcs_len]; rfl
    refine tv_iload_n X dX8_init_107 rfl 0 rfl ?_
    refine tv_bipush X 8 dX8_init_108 (by decide) ?_
    refine tv_icmp_ge X 132 dX8_init_110 (by decide) (if_neg (nI_ge (b := 8) hlt (by decide)) : (if (8 : Int32) ≤ nI n then none else some ()) = some ()) (fun h => nomatch h) (fun _ => ?_)
    refine tv_aload_n X dX8_init_113 rfl 1 rfl ?_
    refine tb_get (k0 := 0) (k := 3) X rfl rfl rfl inG8 (by decide) gw_2_47 rfl dX8_init_114 ?_
    refine tv_iload_n X dX8_init_117 rfl 0 rfl ?_
    refine tb_new (ci := 6) (cs' := (17 + 244 * n + 1, 16333 + 4006 * n + 6)) X (18 + 244 * n) hlen rfl inG7 tyX7_ok gw_1_68 gw_1_93 gw_1_6 dfl7 rfl ⟨(by show 17 + 244 * n + 1 ≤ 1976; omega), (by show 16333 + 4006 * n + 6 ≤ 48589; omega)⟩ dX8_init_118 ?_
    refine tv_dup X dX8_init_121 rfl ?_
    refine tb_callI (M := cV Ω (a + (18 + 244 * n))) (cs' := (17 + 244 * (n + 1), 16333 + 4006 * (n + 1))) (st := [.ref (a + (18 + 244 * n)), .int (nI n), .ref (a + 9)]) X hlen (n_X7_init Γ.2.1 Ω A _ (a + (18 + 244 * n)) (fun q h => hA q (by omega))) ⟨gw_1_96, gw_1_6, q_X7_init, rfl, gw_1_95, rfl, rfl, (Nat.le_of_ble_eq_true rfl), (Nat.le_of_ble_eq_true rfl)⟩ gw_1_94 rfl rfl (Nat.le_of_ble_eq_true rfl) (by rw [Prod.mk.injEq]; constructor <;> omega) ⟨(by show 17 + 244 * (n + 1) ≤ 1976; omega), (by show 16333 + 4006 * (n + 1) ≤ 48589; omega)⟩ dX8_init_122 ?_
    refine tb_aast (k0 := 9) (k1 := 18 + 244 * n) X hA 6 6 rfl rfl rfl ((app_at hlen 0 rfl).trans rfl) rfl rfl (vp_in_nI hlt (by decide)) dX8_init_125 (L' := mH Ω a (n + 1) .null ++ vcs Ω a (n + 1)) (by
      rw [nI_clamp (by omega), fR_succ, show vcs Ω a (n + 1) = vcs Ω a n ++ cV Ω (a + (18 + 244 * n)) from fm_succ _ n]
      rfl) ?_
    refine tv_iinc X (nI (n + 1)) dX8_init_126 0 rfl (by rw [nI_succ]; rfl) (by decide) [(1, .int (nI (n + 1))), (0, .ref a)] rfl ?_
    refine tv_goto X 107 dX8_init_129 (by decide) ?_
    exact ih (n + 1) (by omega)
/-- all cells of a new object of the class -/
def cX (Ω : Wd) (a : Nat) : List va_E := mH Ω a 8 (.ref (a + 1970)) ++ (vcs Ω a 8 ++ cT Ω (a + 1970) (a + 5) (a + 18) (a + 22) (a + 222))
set_option maxHeartbeats 8000000 in
set_option maxRecDepth 100000 in
theorem n_X8_init (l : Launch) (Ω : Wd) (A : Nat → Prop) (g : Nat → Option va_E) (a : Nat) (hA : ∀ q, a ≤ q → A q) : Met l yX8_init (wsO yX8_init cX8_init 2 none) rm_X8_init (PcZ Ω A (ZB Ω g a [.inr (7, [.null, .null, .null, .null, .null, .null, .null, .null, .int 0, .int 0])]) [.ref a]) (QcG Ω (blk g a (cX Ω a)) (a + (cX Ω a).length) A) 1976 48589 A := by
  refine Met.ofVc (by decide) rfl (fun Γ hΓ hid X => ?_)
  have X : Fx Γ Ω A cX8_init 2 "MappingTexts" rm_X8_init none := X
  show V Γ (0, 0) _ A 2 _ 0 [(0, .ref a)] []
  refine tv_aload_n X dX8_init_0 rfl 0 rfl ?_
  refine tg_objInit X gw_1_22 gw_1_23 gw_1_24 (Nat.le_of_ble_eq_true rfl) (Nat.le_of_ble_eq_true rfl) dX8_init_1 ?_
  refine tv_aload_n X dX8_init_4 rfl 0 rfl ?_
  refine tb_new (ci := 2) (cs' := (1, 3)) X 1 rfl rfl inG3 tyX3_ok gw_1_25 gw_1_26 gw_1_2 dfl3 rfl ⟨(Nat.le_of_ble_eq_true rfl), (Nat.le_of_ble_eq_true rfl)⟩ dX8_init_5 ?_
  refine tv_dup X dX8_init_8 rfl ?_
  refine tv_sipush X 2000 dX8_init_9 (by decide) ?_
  refine tb_callI (M := [.inr (2, [.ref (a + 2), .int 0, .int 0]), .inl (Ω.2.1 1, 2000, .inl (fun _ => 0))]) (cs' := (2, 2003)) (st := [.ref (a + 1), .ref a]) X rfl (n_X3_init Γ.2.1 Ω A _ (a + 1) 2000 (fun q h => hA q (by omega)) (by decide)) ⟨gw_1_29, gw_1_2, q_X3_init, rfl, gw_1_28, rfl, rfl, (Nat.le_of_ble_eq_true rfl), (Nat.le_of_ble_eq_true rfl)⟩ gw_1_27 rfl rfl (Nat.le_of_ble_eq_true rfl) rfl ⟨(Nat.le_of_ble_eq_true rfl), (Nat.le_of_ble_eq_true rfl)⟩ dX8_init_12 ?_
  refine tb_putF (k0 := 0) (k := 0) X hA hid rfl rfl rfl inG8 tyX8_ok nmX8 (by decide) gw_2_44 rfl rfl rfl rfl rfl rfl dX8_init_15 (L' := [.inr (7, [.ref (a + 1), .null, .null, .null, .null, .null, .null, .null, .int 0, .int 0]), .inr (2, [.ref (a + 2), .int 0, .int 0]), .inl (Ω.2.1 1, 2000, .inl (fun _ => 0))]) rfl ?_
  refine tv_aload_n X dX8_init_18 rfl 0 rfl ?_
  refine tb_new (ci := 2) (cs' := (3, 2006)) X 3 rfl rfl inG3 tyX3_ok gw_1_25 gw_1_26 gw_1_2 dfl3 rfl ⟨(Nat.le_of_ble_eq_true rfl), (Nat.le_of_ble_eq_true rfl)⟩ dX8_init_19 ?_
  refine tv_dup X dX8_init_22 rfl ?_
  refine tv_bipush X 64 dX8_init_23 (by decide) ?_
  refine tb_callI (M := [.inr (2, [.ref (a + 4), .int 0, .int 0]), .inl (Ω.2.1 1, 64, .inl (fun _ => 0))]) (cs' := (4, 2070)) (st := [.ref (a + 3), .ref a]) X rfl (n_X3_init Γ.2.1 Ω A _ (a + 3) 64 (fun q h => hA q (by omega)) (by decide)) ⟨gw_1_29, gw_1_2, q_X3_init, rfl, gw_1_28, rfl, rfl, (Nat.le_of_ble_eq_true rfl), (Nat.le_of_ble_eq_true rfl)⟩ gw_1_27 rfl rfl (Nat.le_of_ble_eq_true rfl) rfl ⟨(Nat.le_of_ble_eq_true rfl), (Nat.le_of_ble_eq_true rfl)⟩ dX8_init_25 ?_
  refine tb_putF (k0 := 0) (k := 1) X hA hid rfl rfl rfl inG8 tyX8_ok nmX8 (by decide) gw_2_45 rfl rfl rfl rfl rfl rfl dX8_init_28 (L' := [.inr (7, [.ref (a + 1), .ref (a + 3), .null, .null, .null, .null, .null, .null, .int 0, .int 0]), .inr (2, [.ref (a + 2), .int 0, .int 0]), .inl (Ω.2.1 1, 2000, .inl (fun _ => 0)), .inr (2, [.ref (a + 4), .int 0, .int 0]), .inl (Ω.2.1 1, 64, .inl (fun _ => 0))]) rfl ?_
  refine tv_aload_n X dX8_init_31 rfl 0 rfl ?_
  refine tb_new (ci := 5) (cs' := (5, 2075)) X 5 rfl rfl inG6 tyX6_ok gw_1_45 gw_1_46 gw_1_4 dfl6 rfl ⟨(Nat.le_of_ble_eq_true rfl), (Nat.le_of_ble_eq_true rfl)⟩ dX8_init_32 ?_
  refine tv_dup X dX8_init_35 rfl ?_
  refine tv_aload_n X dX8_init_36 rfl 0 rfl ?_
  refine tb_get (k0 := 0) (k := 0) X rfl rfl rfl inG8 (by decide) gw_2_44 rfl dX8_init_37 ?_
  refine tb_callI (M := [.inr (5, [.ref (a + 1), .ref (a + 6), .ref (a + 7), .ref (a + 8), .int 0]), .inl (Ω.2.1 0, 2000, .inl (fun _ => 0)), .inl (Ω.2.1 0, 2000, .inl (fun _ => 0)), .inl (Ω.2.1 0, 2000, .inl (fun _ => 0))]) (cs' := (8, 8075)) (st := [.ref (a + 5), .ref a]) X rfl (n_X6_init Γ.2.1 Ω A _ (a + 5) (a + 1) (fun q h => hA q (by omega))) ⟨gw_1_49, gw_1_4, q_X6_init, rfl, gw_1_48, rfl, rfl, (Nat.le_of_ble_eq_true rfl), (Nat.le_of_ble_eq_true rfl)⟩ gw_1_47 rfl rfl (Nat.le_of_ble_eq_true rfl) rfl ⟨(Nat.le_of_ble_eq_true rfl), (Nat.le_of_ble_eq_true rfl)⟩ dX8_init_40 ?_
  refine tb_putF (k0 := 0) (k := 2) X hA hid rfl rfl rfl inG8 tyX8_ok nmX8 (by decide) gw_2_46 rfl rfl rfl rfl rfl rfl dX8_init_43 (L' := [.inr (7, [.ref (a + 1), .ref (a + 3), .ref (a + 5), .null, .null, .null, .null, .null, .int 0, .int 0]), .inr (2, [.ref (a + 2), .int 0, .int 0]), .inl (Ω.2.1 1, 2000, .inl (fun _ => 0)), .inr (2, [.ref (a + 4), .int 0, .int 0]), .inl (Ω.2.1 1, 64, .inl (fun _ => 0)), .inr (5, [.ref (a + 1), .ref (a + 6), .ref (a + 7), .ref (a + 8), .int 0]), .inl (Ω.2.1 0, 2000, .inl (fun _ => 0)), .inl (Ω.2.1 0, 2000, .inl (fun _ => 0)), .inl (Ω.2.1 0, 2000, .inl (fun _ => 0))]) rfl ?_
  refine tv_aload_n X dX8_init_46 rfl 0 rfl ?_
  refine tv_bipush X 8 dX8_init_47 (by decide) ?_
  refine tb_anew (N := 8) (cs' := (9, 8083)) X 6 9 rfl gw_1_68 (by decide) rfl (by decide) (by decide) (by decide) rfl ⟨(Nat.le_of_ble_eq_true rfl), (Nat.le_of_ble_eq_true rfl)⟩ dX8_init_49 ?_
  refine tb_putF (k0 := 0) (k := 3) X hA hid rfl rfl rfl inG8 tyX8_ok nmX8 (by decide) gw_2_47 rfl rfl rfl rfl rfl rfl dX8_init_52 (L' := [.inr (7, [.ref (a + 1), .ref (a + 3), .ref (a + 5), .ref (a + 9), .null, .null, .null, .null, .int 0, .int 0]), .inr (2, [.ref (a + 2), .int 0, .int 0]), .inl (Ω.2.1 1, 2000, .inl (fun _ => 0)), .inr (2, [.ref (a + 4), .int 0, .int 0]), .inl (Ω.2.1 1, 64, .inl (fun _ => 0)), .inr (5, [.ref (a + 1), .ref (a + 6), .ref (a + 7), .ref (a + 8), .int 0]), .inl (Ω.2.1 0, 2000, .inl (fun _ => 0)), .inl (Ω.2.1 0, 2000, .inl (fun _ => 0)), .inl (Ω.2.1 0, 2000, .inl (fun _ => 0)), .inl (Ω.2.1 6, 8, .inr (.inr (.inr (.inr (fun _ => none)))))]) rfl ?_
  refine tv_aload_n X dX8_init_55 rfl 0 rfl ?_
  refine tb_new (ci := 0) (cs' := (10, 8087)) X 10 rfl rfl inG0 tyX0_ok gw_1_70 gw_1_71 gw_1_5 dfl0 rfl ⟨(Nat.le_of_ble_eq_true rfl), (Nat.le_of_ble_eq_true rfl)⟩ dX8_init_56 ?_
  refine tv_dup X dX8_init_59 rfl ?_
  refine tb_callN (host := "MappingTexts") (M := [.inr (0, [.ref (a + 11), .ref (a + 12), .ref (a + 13), .int 0]), .inl (Ω.2.1 0, 80, .inl (fun _ => 0)), .inl (Ω.2.1 0, 80, .inl (fun _ => 0)), .inl (Ω.2.1 0, 80, .inl (fun _ => 0))]) (cs' := (13, 8327)) (st := [.ref (a + 10), .ref a]) X rfl (n_X0_init Γ.2.1 Ω A _ (a + 10) (fun q h => hA q (by omega))) ⟨gw_1_74, gw_1_5, q_X0_init, rfl, gw_1_73, rfl, rfl, (Nat.le_of_ble_eq_true rfl), (Nat.le_of_ble_eq_true rfl)⟩ (by decide) rfl rfl (Nat.le_of_ble_eq_true rfl) rfl ⟨(Nat.le_of_ble_eq_true rfl), (Nat.le_of_ble_eq_true rfl)⟩ dX8_init_60 ?_
  refine tb_putF (k0 := 0) (k := 5) X hA hid rfl rfl rfl inG8 tyX8_ok nmX8 (by decide) gw_2_49 rfl rfl rfl rfl rfl rfl dX8_init_63 (L' := [.inr (7, [.ref (a + 1), .ref (a + 3), .ref (a + 5), .ref (a + 9), .null, .ref (a + 10), .null, .null, .int 0, .int 0]), .inr (2, [.ref (a + 2), .int 0, .int 0]), .inl (Ω.2.1 1, 2000, .inl (fun _ => 0)), .inr (2, [.ref (a + 4), .int 0, .int 0]), .inl (Ω.2.1 1, 64, .inl (fun _ => 0)), .inr (5, [.ref (a + 1), .ref (a + 6), .ref (a + 7), .ref (a + 8), .int 0]), .inl (Ω.2.1 0, 2000, .inl (fun _ => 0)), .inl (Ω.2.1 0, 2000, .inl (fun _ => 0)), .inl (Ω.2.1 0, 2000, .inl (fun _ => 0)), .inl (Ω.2.1 6, 8, .inr (.inr (.inr (.inr (fun _ => none))))), .inr (0, [.ref (a + 11), .ref (a + 12), .ref (a + 13), .int 0]), .inl (Ω.2.1 0, 80, .inl (fun _ => 0)), .inl (Ω.2.1 0, 80, .inl (fun _ => 0)), .inl (Ω.2.1 0, 80, .inl (fun _ => 0))]) rfl ?_
  refine tv_aload_n X dX8_init_66 rfl 0 rfl ?_
  refine tb_new (ci := 2) (cs' := (14, 8330)) X 14 rfl rfl inG3 tyX3_ok gw_1_25 gw_1_26 gw_1_2 dfl3 rfl ⟨(Nat.le_of_ble_eq_true rfl), (Nat.le_of_ble_eq_true rfl)⟩ dX8_init_67 ?_
  refine tv_dup X dX8_init_70 rfl ?_
  refine tv_sipush X 4000 dX8_init_71 (by decide) ?_
  refine tb_callI (M := [.inr (2, [.ref (a + 15), .int 0, .int 0]), .inl (Ω.2.1 1, 4000, .inl (fun _ => 0))]) (cs' := (15, 12330)) (st := [.ref (a + 14), .ref a]) X rfl (n_X3_init Γ.2.1 Ω A _ (a + 14) 4000 (fun q h => hA q (by omega)) (by decide)) ⟨gw_1_29, gw_1_2, q_X3_init, rfl, gw_1_28, rfl, rfl, (Nat.le_of_ble_eq_true rfl), (Nat.le_of_ble_eq_true rfl)⟩ gw_1_27 rfl rfl (Nat.le_of_ble_eq_true rfl) rfl ⟨(Nat.le_of_ble_eq_true rfl), (Nat.le_of_ble_eq_true rfl)⟩ dX8_init_74 ?_
  refine tb_put (k0 := 0) (k := 6) X hA rfl rfl rfl inG8 tyX8_ok nmX8 (by decide) gw_2_50 rfl rfl rfl rfl rfl dX8_init_77 (L' := [.inr (7, [.ref (a + 1), .ref (a + 3), .ref (a + 5), .ref (a + 9), .null, .ref (a + 10), .ref (a + 14), .null, .int 0, .int 0]), .inr (2, [.ref (a + 2), .int 0, .int 0]), .inl (Ω.2.1 1, 2000, .inl (fun _ => 0)), .inr (2, [.ref (a + 4), .int 0, .int 0]), .inl (Ω.2.1 1, 64, .inl (fun _ => 0)), .inr (5, [.ref (a + 1), .ref (a + 6), .ref (a + 7), .ref (a + 8), .int 0]), .inl (Ω.2.1 0, 2000, .inl (fun _ => 0)), .inl (Ω.2.1 0, 2000, .inl (fun _ => 0)), .inl (Ω.2.1 0, 2000, .inl (fun _ => 0)), .inl (Ω.2.1 6, 8, .inr (.inr (.inr (.inr (fun _ => none))))), .inr (0, [.ref (a + 11), .ref (a + 12), .ref (a + 13), .int 0]), .inl (Ω.2.1 0, 80, .inl (fun _ => 0)), .inl (Ω.2.1 0, 80, .inl (fun _ => 0)), .inl (Ω.2.1 0, 80, .inl (fun _ => 0)), .inr (2, [.ref (a + 15), .int 0, .int 0]), .inl (Ω.2.1 1, 4000, .inl (fun _ => 0))]) rfl ?_
  refine tv_aload_n X dX8_init_80 rfl 0 rfl ?_
  refine tb_new (ci := 2) (cs' := (16, 12333)) X 16 rfl rfl inG3 tyX3_ok gw_1_25 gw_1_26 gw_1_2 dfl3 rfl ⟨(Nat.le_of_ble_eq_true rfl), (Nat.le_of_ble_eq_true rfl)⟩ dX8_init_81 ?_
  refine tv_dup X dX8_init_84 rfl ?_
  refine tv_sipush X 4000 dX8_init_85 (by decide) ?_
  refine tb_callI (M := [.inr (2, [.ref (a + 17), .int 0, .int 0]), .inl (Ω.2.1 1, 4000, .inl (fun _ => 0))]) (cs' := (17, 16333)) (st := [.ref (a + 16), .ref a]) X rfl (n_X3_init Γ.2.1 Ω A _ (a + 16) 4000 (fun q h => hA q (by omega)) (by decide)) ⟨gw_1_29, gw_1_2, q_X3_init, rfl, gw_1_28, rfl, rfl, (Nat.le_of_ble_eq_true rfl), (Nat.le_of_ble_eq_true rfl)⟩ gw_1_27 rfl rfl (Nat.le_of_ble_eq_true rfl) rfl ⟨(Nat.le_of_ble_eq_true rfl), (Nat.le_of_ble_eq_true rfl)⟩ dX8_init_88 ?_
  refine tb_put (k0 := 0) (k := 7) X hA rfl rfl rfl inG8 tyX8_ok nmX8 (by decide) gw_2_51 rfl rfl rfl rfl rfl dX8_init_91 (L' := [.inr (7, [.ref (a + 1), .ref (a + 3), .ref (a + 5), .ref (a + 9), .null, .ref (a + 10), .ref (a + 14), .ref (a + 16), .int 0, .int 0]), .inr (2, [.ref (a + 2), .int 0, .int 0]), .inl (Ω.2.1 1, 2000, .inl (fun _ => 0)), .inr (2, [.ref (a + 4), .int 0, .int 0]), .inl (Ω.2.1 1, 64, .inl (fun _ => 0)), .inr (5, [.ref (a + 1), .ref (a + 6), .ref (a + 7), .ref (a + 8), .int 0]), .inl (Ω.2.1 0, 2000, .inl (fun _ => 0)), .inl (Ω.2.1 0, 2000, .inl (fun _ => 0)), .inl (Ω.2.1 0, 2000, .inl (fun _ => 0)), .inl (Ω.2.1 6, 8, .inr (.inr (.inr (.inr (fun _ => none))))), .inr (0, [.ref (a + 11), .ref (a + 12), .ref (a + 13), .int 0]), .inl (Ω.2.1 0, 80, .inl (fun _ => 0)), .inl (Ω.2.1 0, 80, .inl (fun _ => 0)), .inl (Ω.2.1 0, 80, .inl (fun _ => 0)), .inr (2, [.ref (a + 15), .int 0, .int 0]), .inl (Ω.2.1 1, 4000, .inl (fun _ => 0)), .inr (2, [.ref (a + 17), .int 0, .int 0]), .inl (Ω.2.1 1, 4000, .inl (fun _ => 0))]) rfl ?_
  refine tv_aload_n X dX8_init_94 rfl 0 rfl ?_
  refine tv_iconst X 0 dX8_init_95 (by decide) ?_
  refine tb_put (k0 := 0) (k := 8) X hA rfl rfl rfl inG8 tyX8_ok nmX8 (by decide) gw_2_52 rfl rfl rfl rfl rfl dX8_init_96 (L' := [.inr (7, [.ref (a + 1), .ref (a + 3), .ref (a + 5), .ref (a + 9), .null, .ref (a + 10), .ref (a + 14), .ref (a + 16), .int 0, .int 0]), .inr (2, [.ref (a + 2), .int 0, .int 0]), .inl (Ω.2.1 1, 2000, .inl (fun _ => 0)), .inr (2, [.ref (a + 4), .int 0, .int 0]), .inl (Ω.2.1 1, 64, .inl (fun _ => 0)), .inr (5, [.ref (a + 1), .ref (a + 6), .ref (a + 7), .ref (a + 8), .int 0]), .inl (Ω.2.1 0, 2000, .inl (fun _ => 0)), .inl (Ω.2.1 0, 2000, .inl (fun _ => 0)), .inl (Ω.2.1 0, 2000, .inl (fun _ => 0)), .inl (Ω.2.1 6, 8, .inr (.inr (.inr (.inr (fun _ => none))))), .inr (0, [.ref (a + 11), .ref (a + 12), .ref (a + 13), .int 0]), .inl (Ω.2.1 0, 80, .inl (fun _ => 0)), .inl (Ω.2.1 0, 80, .inl (fun _ => 0)), .inl (Ω.2.1 0, 80, .inl (fun _ => 0)), .inr (2, [.ref (a + 15), .int 0, .int 0]), .inl (Ω.2.1 1, 4000, .inl (fun _ => 0)), .inr (2, [.ref (a + 17), .int 0, .int 0]), .inl (Ω.2.1 1, 4000, .inl (fun _ => 0))]) rfl ?_
  refine tv_aload_n X dX8_init_99 rfl 0 rfl ?_
  refine tv_bipush X (-2) dX8_init_100 (by decide) ?_
  refine tb_put (k0 := 0) (k := 9) X hA rfl rfl rfl inG8 tyX8_ok nmX8 (by decide) gw_2_53 rfl rfl rfl rfl rfl dX8_init_102 (L' := [.inr (7, [.ref (a + 1), .ref (a + 3), .ref (a + 5), .ref (a + 9), .null, .ref (a + 10), .ref (a + 14), .ref (a + 16), .int 0, .int (-2)]), .inr (2, [.ref (a + 2), .int 0, .int 0]), .inl (Ω.2.1 1, 2000, .inl (fun _ => 0)), .inr (2, [.ref (a + 4), .int 0, .int 0]), .inl (Ω.2.1 1, 64, .inl (fun _ => 0)), .inr (5, [.ref (a + 1), .ref (a + 6), .ref (a + 7), .ref (a + 8), .int 0]), .inl (Ω.2.1 0, 2000, .inl (fun _ => 0)), .inl (Ω.2.1 0, 2000, .inl (fun _ => 0)), .inl (Ω.2.1 0, 2000, .inl (fun _ => 0)), .inl (Ω.2.1 6, 8, .inr (.inr (.inr (.inr (fun _ => none))))), .inr (0, [.ref (a + 11), .ref (a + 12), .ref (a + 13), .int 0]), .inl (Ω.2.1 0, 80, .inl (fun _ => 0)), .inl (Ω.2.1 0, 80, .inl (fun _ => 0)), .inl (Ω.2.1 0, 80, .inl (fun _ => 0)), .inr (2, [.ref (a + 15), .int 0, .int 0]), .inl (Ω.2.1 1, 4000, .inl (fun _ => 0)), .inr (2, [.ref (a + 17), .int 0, .int 0]), .inl (Ω.2.1 1, 4000, .inl (fun _ => 0))]) rfl ?_
  refine tv_iconst X 0 dX8_init_105 (by decide) ?_
  refine tv_istore_n X dX8_init_106 rfl (by decide) [(1, .int 0), (0, .ref a)] rfl ?_
  refine lpV (Q := Qe Γ (1976, 48589) A _) X hA ?_ 8 0 rfl
  have hlen : (mH Ω a 8 .null ++ vcs Ω a 8).length = 1970 := by rw [List.length_append, vcs_len]; rfl
  have hv0 : ∀ (r : Nat) (x : va_E), (vcs Ω a 8)[r]? = some x → (mH Ω a 8 .null ++ vcs Ω a 8)[18 + r]? = some x := fun r x h => by rw [app_at (n := 18) rfl r rfl]; exact h
  refine tv_aload_n X dX8_init_132 rfl 1 rfl ?_
  refine tb_new (ci := 4) (cs' := (1970, 48398)) X 1970 hlen rfl inG5 tyX5_ok gw_1_224 gw_1_225 gw_1_9 dfl5 rfl ⟨(Nat.le_of_ble_eq_true rfl), (Nat.le_of_ble_eq_true rfl)⟩ dX8_init_133 ?_
  refine tv_dup X dX8_init_136 rfl ?_
  refine tv_aload_n X dX8_init_137 rfl 1 rfl ?_
  refine tb_get (k0 := 0) (k := 2) X rfl rfl rfl inG8 (by decide) gw_2_46 rfl dX8_init_138 ?_
  refine tv_aload_n X dX8_init_141 rfl 1 rfl ?_
  refine tb_get (k0 := 0) (k := 3) X rfl rfl rfl inG8 (by decide) gw_2_47 rfl dX8_init_142 ?_
  refine tv_iconst X 0 dX8_init_145 (by decide) ?_
  refine tg_aald (q := a + 18) X 6 (blk_at (k := 9) rfl) rfl (vp_in_iff.mpr (by decide)) rfl dX8_init_146 ?_
  refine tb_callI (M := cT Ω (a + 1970) (a + 5) (a + 18) (a + 22) (a + 222)) (cs' := (1976, 48589)) (st := [.ref (a + 1970), .ref a]) X hlen (n_X5_init Γ.2.1 Ω A _ (a + 1970) (a + 5) (a + 18) (a + 18 + 1) (a + 18 + 2) (a + 18 + 3) (a + 22) (a + 222) 0 0 40 (fR (a + 18) 4 5 40) (fR (a + 18) 204 5 8) (fun q h => hA q (by omega)) (by omega) (by omega) (by omega) (blk_at (hv0 0 _ rfl)) (blk_at (hv0 1 _ rfl)) (blk_at (hv0 2 _ rfl)) rfl rfl) ⟨gw_1_228, gw_1_9, q_X5_init, rfl, gw_1_227, rfl, rfl, (Nat.le_of_ble_eq_true rfl), (Nat.le_of_ble_eq_true rfl)⟩ gw_1_226 rfl rfl (Nat.le_of_ble_eq_true rfl) rfl ⟨(Nat.le_of_ble_eq_true rfl), (Nat.le_of_ble_eq_true rfl)⟩ dX8_init_147 ?_
  refine tb_putF (k0 := 0) (k := 4) X hA hid rfl rfl rfl inG8 tyX8_ok nmX8 (by decide) gw_2_48 rfl rfl rfl rfl rfl rfl dX8_init_150 (L' := cX Ω a) (by rw [List.append_assoc]; rfl) ?_
  exact tb_vret (L := cX Ω a) X dX8_init_153
