/-! CONSTRUCTORS: the tree and the desk -/
/-- the rows of references that a loop has filled so far -/
def kq_rf (L : List (Nat → Nat)) : Nat → Option Nat := fun j => (L[j]?).map (fun b => b 0)
theorem kq_rf_nil : kq_rf [] = fun _ => none := funext fun j => by simp [kq_rf]
theorem kq_rf_up {L : List (Nat → Nat)} {u : Nat → Nat} {k : Nat} (hk : L.length = k) (h : k < 2147483648) : va_up (kq_rf L) (nI k).toNatClampNeg (some (u 0)) = kq_rf (L ++ [u]) := funext fun j => by
  rw [in_c h]
  unfold va_up kq_rf
  by_cases hj : j = k
  · rw [if_pos hj, hj, ← hk]
    simp
  · rw [if_neg hj]
    by_cases h2 : j < L.length
    · rw [List.getElem?_append_left h2]
    · rw [List.getElem?_eq_none (by omega), List.getElem?_eq_none (by rw [List.length_append]; simp; omega)]
theorem kq_fm {f : (Nat → Nat) → va_W} {L : List (Nat → Nat)} {u : Nat → Nat} : (L ++ [u]).flatMap f = L.flatMap f ++ f u := by simp [List.flatMap_append]
theorem kq_last {w : va_W} {x : Nat × va_E} {xs : va_W} : (w ++ x :: xs)[w.length]? = some x := by simp
theorem kq_vin {k n : Nat} (h : k < n) (h2 : n < 2147483648) : vp_in (nI k) n := by
  intro h9
  rcases h9 with h9 | h9
  · rw [in_lt, in_n (by omega), in_0] at h9; omega
  · rw [in_c (by omega)] at h9; omega
def wTreeG (C : Cc) (a : Nat → Nat) (f : Nat → Option Nat) (T : va_W) : va_W := [(a 0, .inr (5, [.ref (a 1), .int 0, .ref (a 2), .ref (a 3), .ref (a 4), .int 0])), (a 1, .inl (C.2.2 11, 41, .inr (.inr (.inr (.inr f))))), (a 2, .inl (C.2.1, 82, .inl (fun _ => 0))), (a 3, .inl (C.2.1, 82, .inl (fun _ => 0))), (a 4, .inl (C.2.1, 82, .inl (fun _ => 0)))] ++ T
def wTreeP (C : Cc) (a : Nat → Nat) (L : List (Nat → Nat)) : va_W := wTreeG C a (kq_rf L) (L.flatMap (wNode C))
def wDesk (C : Cc) (d : Nat → Nat) (fr fc : Nat → Option Nat) (T : va_W) : va_W := [(d 0, .inr (6, [.ref (d 1), .int 0, .ref (d 2), .int 0, .int 0, .int 0, .int 0, .ref (d 3), .int 0, .ref (d 4), .ref (d 5), .ref (d 6)])), (d 1, .inl (C.2.2 12, 4, .inr (.inr (.inr (.inr fr))))), (d 2, .inl (C.2.2 9, 12, .inr (.inr (.inr (.inr fc)))))] ++ T
abbrev rk_X5 : Room := { frames := 3, cells := 127, slots := 2050, locals := 61 }
abbrev rk_X6 : Room := { frames := 4, cells := 252, slots := 3174, locals := 82 }
set_option maxHeartbeats 8000000 in
set_option maxRecDepth 100000 in
theorem k_X5_L (l : Launch) {p : Program} {e : Env} {s : State} {m : MethodId} {args : Array Value} {below : List Frame} {meth : Method} {c : Code} {C : Cc} {A : Nat → Prop} {Q : State → Prop} (X : kq_X p s m args meth c C cX5_init 2 RX5 A) (a : Nat → Nat) (hx : ∀ L : List (Nat → Nat), L.length = 41 → kq_G p l e rk_X5 s m args below meth c C A 2 Q 64 [(1, .int (nI 41)), (0, .ref (a 0))] [] (4 + 3 * 41) (287 + 43 * 41) (wTreeG C a (kq_rf L) (L.flatMap (wNode C)))) : ∀ (r k : Nat) (L : List (Nat → Nat)), k + r = 41 → L.length = k → kq_G p l e rk_X5 s m args below meth c C A 2 Q 39 [(1, .int (nI k)), (0, .ref (a 0))] [] (4 + 3 * k) (287 + 43 * k) (wTreeG C a (kq_rf L) (L.flatMap (wNode C))) := by
  intro r
  induction r with
  | zero =>
    intro k L hk hL
    obtain rfl : k = 41 := by omega
    refine kq_iload_n X 0 dX5_init_39 rfl rfl ?_
    refine kq_bipush (v := (40 : Int32)) X dX5_init_40 (by decide) ?_
    refine kq_icmp_gt (tgt := 64) X dX5_init_42 (by decide) (fun _ => hx L hL) (fun h => absurd (by decide) h)
  | succ r ih =>
    intro k L hk hL
    have hkn : k < 41 := by omega
    refine kq_iload_n X 0 dX5_init_39 rfl rfl ?_
    refine kq_bipush (v := (40 : Int32)) X dX5_init_40 (by decide) ?_
    refine kq_icmp_gt (tgt := 64) X dX5_init_42 (by decide) (fun h => absurd h (by rw [in_lt, in_n (by omega)]; show ¬ (((40 : Int32).toInt) < _); rw [show (40 : Int32).toInt = 40 by decide]; omega)) (fun _ => ?_)
    refine kq_aload_n X 1 dX5_init_45 rfl rfl ?_
    refine kq_get (ci := 5) (j := 0) (v := .ref (a 1)) X 0 kc_5 rfl (by decide) rfl kw_83 rfl dX5_init_46 ?_
    refine kq_iload_n X 0 dX5_init_49 rfl rfl ?_
    refine kq_new (ci := 3) (fs := [.int 0, .int 0, .int 0, .int 0, .null]) X tyX3 tyX3_ok kc_3 kr_35 kr_37 kr_3 (by decide +kernel) (by show 4 + 3 * k + 1 ≤ 127; omega) (by show 287 + 43 * k + 5 ≤ 2050; omega) dX5_init_50 (fun q => ?_)
    refine kq_dup X dX5_init_53 rfl ?_
    refine kq_initN (host := RX6) (q := q) X (fun sz => k_X3 l C q sz) kj_X3 (fun h => h.2.2.1) rfl ⟨by decide, by decide, by decide +kernel⟩ rfl rfl ⟨by decide, by decide⟩ (Nat.le_of_ble_eq_true rfl) (by show 4 + 3 * k + 1 + 2 ≤ 127; omega) (by show 287 + 43 * k + 5 + 38 ≤ 2050; omega) dX5_init_54 (fun u hu => ?_)
    subst hu
    refine kq_ast (ci := 3) (cA := C.2.2 11) (f := kq_rf L) (ws' := wTreeG C a (kq_rf (L ++ [u])) ((L ++ [u]).flatMap (wNode C))) X 1 3 (wTreeG C a (kq_rf L) (L.flatMap (wNode C))).length kc_3 rfl rfl kq_last (kq_vin hkn (by omega)) ?_ dX5_init_57 ?_
    · rw [kq_fm, ← kq_rf_up hL (by omega)]; rfl
    refine kq_iinc0 (v := nI (k + 1)) (lv' := [(1, .int (nI (k + 1))), (0, .ref (a 0))]) X 0 dX5_init_58 rfl in_s (by decide) rfl ?_
    refine kq_goto (tgt := 39) X dX5_init_61 (by decide) ?_
    exact kq_w (by show 4 + 3 * k + 1 + 2 = 4 + 3 * (k + 1); omega) (by show 287 + 43 * k + 5 + 38 = 287 + 43 * (k + 1); omega) rfl (ih (k + 1) (L ++ [u]) (by omega) (by rw [List.length_append, hL]; rfl))
set_option maxHeartbeats 8000000 in
set_option maxRecDepth 100000 in
theorem k_X5 (l : Launch) (C : Cc) (h0 sz : Nat) : kq_M l yX5_init cX5_init 2 rk_X5 C 5 [.null, .int 0, .null, .null, .null, .int 0] h0 sz 127 2050 (fun u : (Nat → Nat) × List (Nat → Nat) => u.1 0 = h0 ∧ u.2.length = 41) (fun u => wTreeP C u.1 u.2) := by
  refine kq_met (by decide) rfl (by decide) ?_
  intro p e s m args below meth c A X hr hi
  have X : kq_X p s m args meth c C cX5_init 2 RX5 A := X
  refine kq_aload_n X 0 dX5_init_0 rfl rfl ?_
  refine kq_obj X kr_34 ⟨kr_23, kr_24⟩ (by decide) (by decide) dX5_init_1 ?_
  refine kq_aload_n X 0 dX5_init_4 rfl rfl ?_
  refine kq_bipush (v := (41 : Int32)) X dX5_init_5 (by decide) ?_
  refine kq_newq (N := 41) (kd := 11) X 3 (by decide) rfl kr_35 (fun h => h.2.2.2.2.2.1) (by decide) (by decide) (by decide) (Nat.le_of_ble_eq_true rfl) (Nat.le_of_ble_eq_true rfl) dX5_init_7 (fun q1 => ?_)
  refine kq_w (kn' := 1) (zn' := 41) (ws' := [(h0, .inr (5, [.null, .int 0, .null, .null, .null, .int 0])), (q1, .inl (C.2.2 11, 41, .inr (.inr (.inr (.inr (fun _ => none))))))]) rfl rfl rfl ?_
  refine kq_put (ci := 5) (j := 0) (ty := tyX5 0) (ws' := [(h0, .inr (5, [.ref q1, .int 0, .null, .null, .null, .int 0])), (q1, .inl (C.2.2 11, 41, .inr (.inr (.inr (.inr (fun _ => none))))))]) X hi 0 tyX5 tyX5_ok nmX5 kc_5 rfl (by decide) rfl kw_83 (by decide +kernel) rfl rfl (Nat.le_of_ble_eq_true rfl) rfl dX5_init_10 ?_
  refine kq_aload_n X 0 dX5_init_13 rfl rfl ?_
  refine kq_bipush (v := (82 : Int32)) X dX5_init_14 (by decide) ?_
  refine kq_newi (N := 82) X kr_61 (by decide) (by decide) (by decide) (Nat.le_of_ble_eq_true rfl) (Nat.le_of_ble_eq_true rfl) dX5_init_16 (fun q2 => ?_)
  refine kq_w (kn' := 2) (zn' := 123) (ws' := [(h0, .inr (5, [.ref q1, .int 0, .null, .null, .null, .int 0])), (q1, .inl (C.2.2 11, 41, .inr (.inr (.inr (.inr (fun _ => none)))))), (q2, .inl (C.2.1, 82, .inl (fun _ => 0)))]) rfl rfl rfl ?_
  refine kq_put (ci := 5) (j := 2) (ty := tyX5 2) (ws' := [(h0, .inr (5, [.ref q1, .int 0, .ref q2, .null, .null, .int 0])), (q1, .inl (C.2.2 11, 41, .inr (.inr (.inr (.inr (fun _ => none)))))), (q2, .inl (C.2.1, 82, .inl (fun _ => 0)))]) X hi 0 tyX5 tyX5_ok nmX5 kc_5 rfl (by decide) rfl kw_87 (by decide +kernel) rfl rfl (Nat.le_of_ble_eq_true rfl) rfl dX5_init_18 ?_
  refine kq_aload_n X 0 dX5_init_21 rfl rfl ?_
  refine kq_bipush (v := (82 : Int32)) X dX5_init_22 (by decide) ?_
  refine kq_newi (N := 82) X kr_61 (by decide) (by decide) (by decide) (Nat.le_of_ble_eq_true rfl) (Nat.le_of_ble_eq_true rfl) dX5_init_24 (fun q3 => ?_)
  refine kq_w (kn' := 3) (zn' := 205) (ws' := [(h0, .inr (5, [.ref q1, .int 0, .ref q2, .null, .null, .int 0])), (q1, .inl (C.2.2 11, 41, .inr (.inr (.inr (.inr (fun _ => none)))))), (q2, .inl (C.2.1, 82, .inl (fun _ => 0))), (q3, .inl (C.2.1, 82, .inl (fun _ => 0)))]) rfl rfl rfl ?_
  refine kq_put (ci := 5) (j := 3) (ty := tyX5 3) (ws' := [(h0, .inr (5, [.ref q1, .int 0, .ref q2, .ref q3, .null, .int 0])), (q1, .inl (C.2.2 11, 41, .inr (.inr (.inr (.inr (fun _ => none)))))), (q2, .inl (C.2.1, 82, .inl (fun _ => 0))), (q3, .inl (C.2.1, 82, .inl (fun _ => 0)))]) X hi 0 tyX5 tyX5_ok nmX5 kc_5 rfl (by decide) rfl kw_89 (by decide +kernel) rfl rfl (Nat.le_of_ble_eq_true rfl) rfl dX5_init_26 ?_
  refine kq_aload_n X 0 dX5_init_29 rfl rfl ?_
  refine kq_bipush (v := (82 : Int32)) X dX5_init_30 (by decide) ?_
  refine kq_newi (N := 82) X kr_61 (by decide) (by decide) (by decide) (Nat.le_of_ble_eq_true rfl) (Nat.le_of_ble_eq_true rfl) dX5_init_32 (fun q4 => ?_)
  refine kq_w (kn' := 4) (zn' := 287) (ws' := [(h0, .inr (5, [.ref q1, .int 0, .ref q2, .ref q3, .null, .int 0])), (q1, .inl (C.2.2 11, 41, .inr (.inr (.inr (.inr (fun _ => none)))))), (q2, .inl (C.2.1, 82, .inl (fun _ => 0))), (q3, .inl (C.2.1, 82, .inl (fun _ => 0))), (q4, .inl (C.2.1, 82, .inl (fun _ => 0)))]) rfl rfl rfl ?_
  refine kq_put (ci := 5) (j := 4) (ty := tyX5 4) (ws' := [(h0, .inr (5, [.ref q1, .int 0, .ref q2, .ref q3, .ref q4, .int 0])), (q1, .inl (C.2.2 11, 41, .inr (.inr (.inr (.inr (fun _ => none)))))), (q2, .inl (C.2.1, 82, .inl (fun _ => 0))), (q3, .inl (C.2.1, 82, .inl (fun _ => 0))), (q4, .inl (C.2.1, 82, .inl (fun _ => 0)))]) X hi 0 tyX5 tyX5_ok nmX5 kc_5 rfl (by decide) rfl kw_91 (by decide +kernel) rfl rfl (Nat.le_of_ble_eq_true rfl) rfl dX5_init_34 ?_
  refine kq_iconst (v := (0 : Int32)) X dX5_init_37 (by decide) ?_
  refine kq_istore_n (lv' := [(1, .int 0), (0, .ref h0)]) X dX5_init_38 rfl (by decide) rfl ?_
  refine kq_w (kn' := 4 + 3 * 0) (zn' := 287 + 43 * 0) (ws' := wTreeG C (fun k => [h0, q1, q2, q3, q4].getD k 0) (kq_rf []) (([] : List (Nat → Nat)).flatMap (wNode C))) rfl rfl (by rw [kq_rf_nil]; rfl) ?_
  exact k_X5_L l X (fun k => [h0, q1, q2, q3, q4].getD k 0) (fun L hL => kq_ret X ((fun k => [h0, q1, q2, q3, q4].getD k 0), L) hr ⟨rfl, hL⟩ (Nat.le_of_ble_eq_true rfl) (Nat.le_of_ble_eq_true rfl) dX5_init_64 rfl) 41 0 [] rfl rfl
set_option maxHeartbeats 8000000 in
set_option maxRecDepth 100000 in
theorem k_X6_L1 (l : Launch) {p : Program} {e : Env} {s : State} {m : MethodId} {args : Array Value} {below : List Frame} {meth : Method} {c : Code} {C : Cc} {A : Nat → Prop} {Q : State → Prop} {fr fc : Nat → Option Nat} {T : va_W} (X : kq_X p s m args meth c C cX6_init 2 RX6 A) (a : Nat → Nat) (hx : ∀ L : List (Nat → Nat), L.length = 4 → kq_G p l e rk_X6 s m args below meth c C A 2 Q 91 [(1, .int (nI 4)), (0, .ref (a 0))] [] (136 + 8 * 4) (2186 + 85 * 4) (wDesk C a (kq_rf L) fc (T ++ L.flatMap (wRel C)))) : ∀ (r k : Nat) (L : List (Nat → Nat)), k + r = 4 → L.length = k → kq_G p l e rk_X6 s m args below meth c C A 2 Q 67 [(1, .int (nI k)), (0, .ref (a 0))] [] (136 + 8 * k) (2186 + 85 * k) (wDesk C a (kq_rf L) fc (T ++ L.flatMap (wRel C))) := by
  intro r
  induction r with
  | zero =>
    intro k L hk hL
    obtain rfl : k = 4 := by omega
    refine kq_iload_n X 0 dX6_init_67 rfl rfl ?_
    refine kq_iconst (v := (4 : Int32)) X dX6_init_68 (by decide) ?_
    refine kq_icmp_ge (tgt := 91) X dX6_init_69 (by decide) (fun _ => hx L hL) (fun h => absurd (by decide) h)
  | succ r ih =>
    intro k L hk hL
    have hkn : k < 4 := by omega
    refine kq_iload_n X 0 dX6_init_67 rfl rfl ?_
    refine kq_iconst (v := (4 : Int32)) X dX6_init_68 (by decide) ?_
    refine kq_icmp_ge (tgt := 91) X dX6_init_69 (by decide) (fun h => absurd h (by rw [in_le, in_n (by omega)]; show ¬ (((4 : Int32).toInt) ≤ _); rw [show (4 : Int32).toInt = 4 by decide]; omega)) (fun _ => ?_)
    refine kq_aload_n X 1 dX6_init_72 rfl rfl ?_
    refine kq_get (ci := 6) (j := 0) (v := .ref (a 1)) X 0 kc_6 rfl (by decide) rfl kw_199 rfl dX6_init_73 ?_
    refine kq_iload_n X 0 dX6_init_76 rfl rfl ?_
    refine kq_new (ci := 4) (fs := [.int 0, .int 0, .null, .null, .null, .null, .null, .null, .null]) X tyX4 tyX4_ok kc_4 kr_25 kr_110 kr_5 (by decide +kernel) (by show 136 + 8 * k + 1 ≤ 252; omega) (by show 2186 + 85 * k + 9 ≤ 3174; omega) dX6_init_77 (fun q => ?_)
    refine kq_dup X dX6_init_80 rfl ?_
    refine kq_initN (host := RX6) (q := q) X (fun sz => k_X4 l C q sz) kj_X4 (fun h => h.1) rfl ⟨by decide, by decide, by decide +kernel⟩ rfl rfl ⟨by decide, by decide⟩ (Nat.le_of_ble_eq_true rfl) (by show 136 + 8 * k + 1 + 7 ≤ 252; omega) (by show 2186 + 85 * k + 9 + 76 ≤ 3174; omega) dX6_init_81 (fun u hu => ?_)
    subst hu
    refine kq_ast (ci := 4) (cA := C.2.2 12) (f := kq_rf L) (ws' := wDesk C a (kq_rf (L ++ [u])) fc (T ++ (L ++ [u]).flatMap (wRel C))) X 1 4 (wDesk C a (kq_rf L) fc (T ++ L.flatMap (wRel C))).length kc_4 rfl rfl kq_last (kq_vin hkn (by omega)) ?_ dX6_init_84 ?_
    · rw [kq_fm, ← List.append_assoc, ← kq_rf_up hL (by omega)]; rfl
    refine kq_iinc0 (v := nI (k + 1)) (lv' := [(1, .int (nI (k + 1))), (0, .ref (a 0))]) X 0 dX6_init_85 rfl in_s (by decide) rfl ?_
    refine kq_goto (tgt := 67) X dX6_init_88 (by decide) ?_
    exact kq_w (by show 136 + 8 * k + 1 + 7 = 136 + 8 * (k + 1); omega) (by show 2186 + 85 * k + 9 + 76 = 2186 + 85 * (k + 1); omega) rfl (ih (k + 1) (L ++ [u]) (by omega) (by rw [List.length_append, hL]; rfl))
set_option maxHeartbeats 8000000 in
set_option maxRecDepth 100000 in
theorem k_X6_L2 (l : Launch) {p : Program} {e : Env} {s : State} {m : MethodId} {args : Array Value} {below : List Frame} {meth : Method} {c : Code} {C : Cc} {A : Nat → Prop} {Q : State → Prop} {fr fc : Nat → Option Nat} {T : va_W} (X : kq_X p s m args meth c C cX6_init 2 RX6 A) (a : Nat → Nat) (hx : ∀ L : List (Nat → Nat), L.length = 12 → kq_G p l e rk_X6 s m args below meth c C A 2 Q 118 [(1, .int (nI 12)), (0, .ref (a 0))] [] (168 + 7 * 12) (2526 + 54 * 12) (wDesk C a fr (kq_rf L) (T ++ L.flatMap (wCla C)))) : ∀ (r k : Nat) (L : List (Nat → Nat)), k + r = 12 → L.length = k → kq_G p l e rk_X6 s m args below meth c C A 2 Q 93 [(1, .int (nI k)), (0, .ref (a 0))] [] (168 + 7 * k) (2526 + 54 * k) (wDesk C a fr (kq_rf L) (T ++ L.flatMap (wCla C))) := by
  intro r
  induction r with
  | zero =>
    intro k L hk hL
    obtain rfl : k = 12 := by omega
    refine kq_iload_n X 0 dX6_init_93 rfl rfl ?_
    refine kq_bipush (v := (12 : Int32)) X dX6_init_94 (by decide) ?_
    refine kq_icmp_ge (tgt := 118) X dX6_init_96 (by decide) (fun _ => hx L hL) (fun h => absurd (by decide) h)
  | succ r ih =>
    intro k L hk hL
    have hkn : k < 12 := by omega
    refine kq_iload_n X 0 dX6_init_93 rfl rfl ?_
    refine kq_bipush (v := (12 : Int32)) X dX6_init_94 (by decide) ?_
    refine kq_icmp_ge (tgt := 118) X dX6_init_96 (by decide) (fun h => absurd h (by rw [in_le, in_n (by omega)]; show ¬ (((12 : Int32).toInt) ≤ _); rw [show (12 : Int32).toInt = 12 by decide]; omega)) (fun _ => ?_)
    refine kq_aload_n X 1 dX6_init_99 rfl rfl ?_
    refine kq_get (ci := 6) (j := 2) (v := .ref (a 2)) X 0 kc_6 rfl (by decide) rfl kw_201 rfl dX6_init_100 ?_
    refine kq_iload_n X 0 dX6_init_103 rfl rfl ?_
    refine kq_new (ci := 1) (fs := [.null, .null, .int 0, .null, .int 0]) X tyX1 tyX1_ok kc_1 kr_27 kr_152 kr_6 (by decide +kernel) (by show 168 + 7 * k + 1 ≤ 252; omega) (by show 2526 + 54 * k + 5 ≤ 3174; omega) dX6_init_104 (fun q => ?_)
    refine kq_dup X dX6_init_107 rfl ?_
    refine kq_init (q := q) X (fun sz => k_X1 l C q sz) kj_X1 kw_153 rfl ⟨by decide, by decide, by decide +kernel⟩ rfl rfl ⟨by decide, by decide⟩ (Nat.le_of_ble_eq_true rfl) (by show 168 + 7 * k + 1 + 6 ≤ 252; omega) (by show 2526 + 54 * k + 5 + 49 ≤ 3174; omega) dX6_init_108 (fun u hu => ?_)
    subst hu
    refine kq_ast (ci := 1) (cA := C.2.2 9) (f := kq_rf L) (ws' := wDesk C a fr (kq_rf (L ++ [u])) (T ++ (L ++ [u]).flatMap (wCla C))) X 2 1 (wDesk C a fr (kq_rf L) (T ++ L.flatMap (wCla C))).length kc_1 rfl rfl kq_last (kq_vin hkn (by omega)) ?_ dX6_init_111 ?_
    · rw [kq_fm, ← List.append_assoc, ← kq_rf_up hL (by omega)]; rfl
    refine kq_iinc0 (v := nI (k + 1)) (lv' := [(1, .int (nI (k + 1))), (0, .ref (a 0))]) X 0 dX6_init_112 rfl in_s (by decide) rfl ?_
    refine kq_goto (tgt := 93) X dX6_init_115 (by decide) ?_
    exact kq_w (by show 168 + 7 * k + 1 + 6 = 168 + 7 * (k + 1); omega) (by show 2526 + 54 * k + 5 + 49 = 2526 + 54 * (k + 1); omega) rfl (ih (k + 1) (L ++ [u]) (by omega) (by rw [List.length_append, hL]; rfl))
def wDeskF (C : Cc) (d a : Nat → Nat) (Ln : List (Nat → Nat)) (b1 b2 b3 : Nat → Nat) (Lr Lc : List (Nat → Nat)) : va_W := [(d 0, .inr (6, [.ref (d 1), .int 0, .ref (d 2), .int 0, .int 0, .int 0, .int (-1), .ref (a 0), .int 0, .ref (b1 0), .ref (b2 0), .ref (b3 0)])), (d 1, .inl (C.2.2 12, 4, .inr (.inr (.inr (.inr (kq_rf Lr)))))), (d 2, .inl (C.2.2 9, 12, .inr (.inr (.inr (.inr (kq_rf Lc))))))] ++ (((((wTreeP C a Ln ++ wBS C b1) ++ wBS C b2) ++ wBS C b3) ++ Lr.flatMap (wRel C)) ++ Lc.flatMap (wCla C))
abbrev dS : Type := (Nat → Nat) × (Nat → Nat) × List (Nat → Nat) × (Nat → Nat) × (Nat → Nat) × (Nat → Nat) × List (Nat → Nat) × List (Nat → Nat)
def dS_p (h0 : Nat) (u : dS) : Prop := u.1 0 = h0 ∧ u.2.2.1.length = 41 ∧ u.2.2.2.2.2.2.1.length = 4 ∧ u.2.2.2.2.2.2.2.length = 12
def dS_w (C : Cc) (u : dS) : va_W := wDeskF C u.1 u.2.1 u.2.2.1 u.2.2.2.1 u.2.2.2.2.1 u.2.2.2.2.2.1 u.2.2.2.2.2.2.1 u.2.2.2.2.2.2.2
set_option maxHeartbeats 8000000 in
set_option maxRecDepth 100000 in
theorem k_X6 (l : Launch) (C : Cc) (h0 sz : Nat) : kq_M l yX6_init cX6_init 2 rk_X6 C 6 [.null, .int 0, .null, .int 0, .int 0, .int 0, .int 0, .null, .int 0, .null, .null, .null] h0 sz 252 3174 (dS_p h0) (dS_w C) := by
  refine kq_met (by decide) rfl (by decide) ?_
  intro p e s m args below meth c A X hr hi
  have X : kq_X p s m args meth c C cX6_init 2 RX6 A := X
  refine kq_aload_n X 0 dX6_init_0 rfl rfl ?_
  refine kq_obj X kr_22 ⟨kr_23, kr_24⟩ (by decide) (by decide) dX6_init_1 ?_
  refine kq_aload_n X 0 dX6_init_4 rfl rfl ?_
  refine kq_iconst (v := (4 : Int32)) X dX6_init_5 (by decide) ?_
  refine kq_newq (N := 4) (kd := 12) X 4 (by decide) rfl kr_25 (fun h => h.2.2.2.2.2.2) (by decide) (by decide) (by decide) (Nat.le_of_ble_eq_true rfl) (Nat.le_of_ble_eq_true rfl) dX6_init_6 (fun q1 => ?_)
  refine kq_w (kn' := 1) (zn' := 4) (ws' := [(h0, .inr (6, [.null, .int 0, .null, .int 0, .int 0, .int 0, .int 0, .null, .int 0, .null, .null, .null])), (q1, .inl (C.2.2 12, 4, .inr (.inr (.inr (.inr (fun _ => none))))))]) rfl rfl rfl ?_
  refine kq_put (ci := 6) (j := 0) (ty := tyX6 0) (ws' := [(h0, .inr (6, [.ref q1, .int 0, .null, .int 0, .int 0, .int 0, .int 0, .null, .int 0, .null, .null, .null])), (q1, .inl (C.2.2 12, 4, .inr (.inr (.inr (.inr (fun _ => none))))))]) X hi 0 tyX6 tyX6_ok nmX6 kc_6 rfl (by decide) rfl kw_199 (by decide +kernel) rfl rfl (Nat.le_of_ble_eq_true rfl) rfl dX6_init_9 ?_
  refine kq_aload_n X 0 dX6_init_12 rfl rfl ?_
  refine kq_bipush (v := (12 : Int32)) X dX6_init_13 (by decide) ?_
  refine kq_newq (N := 12) (kd := 9) X 1 (by decide) rfl kr_27 (fun h => h.2.2.2.1) (by decide) (by decide) (by decide) (Nat.le_of_ble_eq_true rfl) (Nat.le_of_ble_eq_true rfl) dX6_init_15 (fun q2 => ?_)
  refine kq_w (kn' := 2) (zn' := 16) (ws' := [(h0, .inr (6, [.ref q1, .int 0, .null, .int 0, .int 0, .int 0, .int 0, .null, .int 0, .null, .null, .null])), (q1, .inl (C.2.2 12, 4, .inr (.inr (.inr (.inr (fun _ => none)))))), (q2, .inl (C.2.2 9, 12, .inr (.inr (.inr (.inr (fun _ => none))))))]) rfl rfl rfl ?_
  refine kq_put (ci := 6) (j := 2) (ty := tyX6 2) (ws' := [(h0, .inr (6, [.ref q1, .int 0, .ref q2, .int 0, .int 0, .int 0, .int 0, .null, .int 0, .null, .null, .null])), (q1, .inl (C.2.2 12, 4, .inr (.inr (.inr (.inr (fun _ => none)))))), (q2, .inl (C.2.2 9, 12, .inr (.inr (.inr (.inr (fun _ => none))))))]) X hi 0 tyX6 tyX6_ok nmX6 kc_6 rfl (by decide) rfl kw_201 (by decide +kernel) rfl rfl (Nat.le_of_ble_eq_true rfl) rfl dX6_init_18 ?_
  refine kq_aload_n X 0 dX6_init_21 rfl rfl ?_
  refine kq_new (ci := 5) (fs := [.null, .int 0, .null, .null, .null, .int 0]) X tyX5 tyX5_ok kc_5 kr_29 kr_30 kr_2 (by decide +kernel) (Nat.le_of_ble_eq_true rfl) (Nat.le_of_ble_eq_true rfl) dX6_init_22 (fun q3 => ?_)
  refine kq_dup X dX6_init_25 rfl ?_
  refine kq_init (q := q3) X (fun sz => k_X5 l C q3 sz) kj_X5 kw_31 rfl ⟨by decide, by decide, by decide +kernel⟩ rfl rfl ⟨by decide, by decide⟩ (Nat.le_of_ble_eq_true rfl) (Nat.le_of_ble_eq_true rfl) (Nat.le_of_ble_eq_true rfl) dX6_init_26 (fun u4 hu => ?_)
  obtain ⟨rfl, hT⟩ := hu
  refine kq_w (kn' := 130) (zn' := 2072) (ws' := [(h0, .inr (6, [.ref q1, .int 0, .ref q2, .int 0, .int 0, .int 0, .int 0, .null, .int 0, .null, .null, .null])), (q1, .inl (C.2.2 12, 4, .inr (.inr (.inr (.inr (fun _ => none)))))), (q2, .inl (C.2.2 9, 12, .inr (.inr (.inr (.inr (fun _ => none))))))] ++ wTreeP C u4.1 u4.2) rfl rfl rfl ?_
  refine kq_put (ci := 6) (j := 7) (ty := tyX6 7) (ws' := [(h0, .inr (6, [.ref q1, .int 0, .ref q2, .int 0, .int 0, .int 0, .int 0, .ref (u4.1 0), .int 0, .null, .null, .null])), (q1, .inl (C.2.2 12, 4, .inr (.inr (.inr (.inr (fun _ => none)))))), (q2, .inl (C.2.2 9, 12, .inr (.inr (.inr (.inr (fun _ => none))))))] ++ wTreeP C u4.1 u4.2) X hi 0 tyX6 tyX6_ok nmX6 kc_6 rfl (by decide) rfl kw_206 (by decide +kernel) rfl rfl (Nat.le_of_ble_eq_true rfl) rfl dX6_init_29 ?_
  refine kq_aload_n X 0 dX6_init_32 rfl rfl ?_
  refine kq_new (ci := 0) (fs := [.null, .int 0]) X tyX0 tyX0_ok kc_0 kr_108 kr_43 kr_4 (by decide +kernel) (Nat.le_of_ble_eq_true rfl) (Nat.le_of_ble_eq_true rfl) dX6_init_33 (fun q5 => ?_)
  refine kq_dup X dX6_init_36 rfl ?_
  refine kq_init (q := q5) X (fun sz => k_X0 l C q5 sz) kj_X0 kw_109 rfl ⟨by decide, by decide, by decide +kernel⟩ rfl rfl ⟨by decide, by decide⟩ (Nat.le_of_ble_eq_true rfl) (Nat.le_of_ble_eq_true rfl) (Nat.le_of_ble_eq_true rfl) dX6_init_37 (fun u6 hu => ?_)
  subst hu
  refine kq_w (kn' := 132) (zn' := 2110) (ws' := [(h0, .inr (6, [.ref q1, .int 0, .ref q2, .int 0, .int 0, .int 0, .int 0, .ref (u4.1 0), .int 0, .null, .null, .null])), (q1, .inl (C.2.2 12, 4, .inr (.inr (.inr (.inr (fun _ => none)))))), (q2, .inl (C.2.2 9, 12, .inr (.inr (.inr (.inr (fun _ => none))))))] ++ (wTreeP C u4.1 u4.2 ++ wBS C u6)) rfl rfl rfl ?_
  refine kq_put (ci := 6) (j := 9) (ty := tyX6 9) (ws' := [(h0, .inr (6, [.ref q1, .int 0, .ref q2, .int 0, .int 0, .int 0, .int 0, .ref (u4.1 0), .int 0, .ref (u6 0), .null, .null])), (q1, .inl (C.2.2 12, 4, .inr (.inr (.inr (.inr (fun _ => none)))))), (q2, .inl (C.2.2 9, 12, .inr (.inr (.inr (.inr (fun _ => none))))))] ++ (wTreeP C u4.1 u4.2 ++ wBS C u6)) X hi 0 tyX6 tyX6_ok nmX6 kc_6 rfl (by decide) rfl kw_208 (by decide +kernel) rfl rfl (Nat.le_of_ble_eq_true rfl) rfl dX6_init_40 ?_
  refine kq_aload_n X 0 dX6_init_43 rfl rfl ?_
  refine kq_new (ci := 0) (fs := [.null, .int 0]) X tyX0 tyX0_ok kc_0 kr_108 kr_43 kr_4 (by decide +kernel) (Nat.le_of_ble_eq_true rfl) (Nat.le_of_ble_eq_true rfl) dX6_init_44 (fun q7 => ?_)
  refine kq_dup X dX6_init_47 rfl ?_
  refine kq_init (q := q7) X (fun sz => k_X0 l C q7 sz) kj_X0 kw_109 rfl ⟨by decide, by decide, by decide +kernel⟩ rfl rfl ⟨by decide, by decide⟩ (Nat.le_of_ble_eq_true rfl) (Nat.le_of_ble_eq_true rfl) (Nat.le_of_ble_eq_true rfl) dX6_init_48 (fun u8 hu => ?_)
  subst hu
  refine kq_w (kn' := 134) (zn' := 2148) (ws' := [(h0, .inr (6, [.ref q1, .int 0, .ref q2, .int 0, .int 0, .int 0, .int 0, .ref (u4.1 0), .int 0, .ref (u6 0), .null, .null])), (q1, .inl (C.2.2 12, 4, .inr (.inr (.inr (.inr (fun _ => none)))))), (q2, .inl (C.2.2 9, 12, .inr (.inr (.inr (.inr (fun _ => none))))))] ++ ((wTreeP C u4.1 u4.2 ++ wBS C u6) ++ wBS C u8)) rfl rfl rfl ?_
  refine kq_put (ci := 6) (j := 10) (ty := tyX6 10) (ws' := [(h0, .inr (6, [.ref q1, .int 0, .ref q2, .int 0, .int 0, .int 0, .int 0, .ref (u4.1 0), .int 0, .ref (u6 0), .ref (u8 0), .null])), (q1, .inl (C.2.2 12, 4, .inr (.inr (.inr (.inr (fun _ => none)))))), (q2, .inl (C.2.2 9, 12, .inr (.inr (.inr (.inr (fun _ => none))))))] ++ ((wTreeP C u4.1 u4.2 ++ wBS C u6) ++ wBS C u8)) X hi 0 tyX6 tyX6_ok nmX6 kc_6 rfl (by decide) rfl kw_209 (by decide +kernel) rfl rfl (Nat.le_of_ble_eq_true rfl) rfl dX6_init_51 ?_
  refine kq_aload_n X 0 dX6_init_54 rfl rfl ?_
  refine kq_new (ci := 0) (fs := [.null, .int 0]) X tyX0 tyX0_ok kc_0 kr_108 kr_43 kr_4 (by decide +kernel) (Nat.le_of_ble_eq_true rfl) (Nat.le_of_ble_eq_true rfl) dX6_init_55 (fun q9 => ?_)
  refine kq_dup X dX6_init_58 rfl ?_
  refine kq_init (q := q9) X (fun sz => k_X0 l C q9 sz) kj_X0 kw_109 rfl ⟨by decide, by decide, by decide +kernel⟩ rfl rfl ⟨by decide, by decide⟩ (Nat.le_of_ble_eq_true rfl) (Nat.le_of_ble_eq_true rfl) (Nat.le_of_ble_eq_true rfl) dX6_init_59 (fun u10 hu => ?_)
  subst hu
  refine kq_w (kn' := 136) (zn' := 2186) (ws' := [(h0, .inr (6, [.ref q1, .int 0, .ref q2, .int 0, .int 0, .int 0, .int 0, .ref (u4.1 0), .int 0, .ref (u6 0), .ref (u8 0), .null])), (q1, .inl (C.2.2 12, 4, .inr (.inr (.inr (.inr (fun _ => none)))))), (q2, .inl (C.2.2 9, 12, .inr (.inr (.inr (.inr (fun _ => none))))))] ++ (((wTreeP C u4.1 u4.2 ++ wBS C u6) ++ wBS C u8) ++ wBS C u10)) rfl rfl rfl ?_
  refine kq_put (ci := 6) (j := 11) (ty := tyX6 11) (ws' := [(h0, .inr (6, [.ref q1, .int 0, .ref q2, .int 0, .int 0, .int 0, .int 0, .ref (u4.1 0), .int 0, .ref (u6 0), .ref (u8 0), .ref (u10 0)])), (q1, .inl (C.2.2 12, 4, .inr (.inr (.inr (.inr (fun _ => none)))))), (q2, .inl (C.2.2 9, 12, .inr (.inr (.inr (.inr (fun _ => none))))))] ++ (((wTreeP C u4.1 u4.2 ++ wBS C u6) ++ wBS C u8) ++ wBS C u10)) X hi 0 tyX6 tyX6_ok nmX6 kc_6 rfl (by decide) rfl kw_210 (by decide +kernel) rfl rfl (Nat.le_of_ble_eq_true rfl) rfl dX6_init_62 ?_
  refine kq_iconst (v := (0 : Int32)) X dX6_init_65 (by decide) ?_
  refine kq_istore_n (lv' := [(1, .int 0), (0, .ref h0)]) X dX6_init_66 rfl (by decide) rfl ?_
  refine kq_w (kn' := 136 + 8 * 0) (zn' := 2186 + 85 * 0) (ws' := wDesk C (fun k => [h0, q1, q2, (u4.1 0), (u6 0), (u8 0), (u10 0)].getD k 0) (kq_rf []) (fun _ => none) ((((wTreeP C u4.1 u4.2 ++ wBS C u6) ++ wBS C u8) ++ wBS C u10) ++ ([] : List (Nat → Nat)).flatMap (wRel C))) rfl rfl (by rw [kq_rf_nil, List.flatMap_nil, List.append_nil]; rfl) ?_
  refine k_X6_L1 l (fr := fun _ => none) (fc := fun _ => none) (T := (((wTreeP C u4.1 u4.2 ++ wBS C u6) ++ wBS C u8) ++ wBS C u10)) X (fun k => [h0, q1, q2, (u4.1 0), (u6 0), (u8 0), (u10 0)].getD k 0) (fun Lr hLr => ?_) 4 0 [] rfl rfl
  refine kq_iconst (v := (0 : Int32)) X dX6_init_91 (by decide) ?_
  refine kq_istore_n (lv' := [(1, .int (nI 0)), (0, .ref h0)]) X dX6_init_92 rfl (by decide) rfl ?_
  refine kq_w (kn' := 168 + 7 * 0) (zn' := 2526 + 54 * 0) (ws' := wDesk C (fun k => [h0, q1, q2, (u4.1 0), (u6 0), (u8 0), (u10 0)].getD k 0) (kq_rf Lr) (kq_rf []) (((((wTreeP C u4.1 u4.2 ++ wBS C u6) ++ wBS C u8) ++ wBS C u10) ++ Lr.flatMap (wRel C)) ++ ([] : List (Nat → Nat)).flatMap (wCla C))) rfl rfl (by rw [kq_rf_nil, List.flatMap_nil, List.append_nil]) ?_
  refine k_X6_L2 l (fr := kq_rf Lr) (fc := fun _ => none) (T := (((wTreeP C u4.1 u4.2 ++ wBS C u6) ++ wBS C u8) ++ wBS C u10) ++ Lr.flatMap (wRel C)) X (fun k => [h0, q1, q2, (u4.1 0), (u6 0), (u8 0), (u10 0)].getD k 0) (fun Lc hLc => ?_) 12 0 [] rfl rfl
  refine kq_aload_n (x := h0) X 1 dX6_init_118 rfl rfl ?_
  refine kq_iconst (v := (-1 : Int32)) X dX6_init_119 (by decide) ?_
  refine kq_put (ci := 6) (j := 6) (ty := tyX6 6) (ws' := [(h0, .inr (6, [.ref q1, .int 0, .ref q2, .int 0, .int 0, .int 0, .int (-1), .ref (u4.1 0), .int 0, .ref (u6 0), .ref (u8 0), .ref (u10 0)])), (q1, .inl (C.2.2 12, 4, .inr (.inr (.inr (.inr (kq_rf Lr)))))), (q2, .inl (C.2.2 9, 12, .inr (.inr (.inr (.inr (kq_rf Lc))))))] ++ (((((wTreeP C u4.1 u4.2 ++ wBS C u6) ++ wBS C u8) ++ wBS C u10) ++ Lr.flatMap (wRel C)) ++ Lc.flatMap (wCla C))) X hi 0 tyX6 tyX6_ok nmX6 kc_6 rfl (by decide) rfl kw_205 (by decide +kernel) rfl rfl (Nat.le_of_ble_eq_true rfl) rfl dX6_init_120 ?_
  refine kq_aload_n (x := h0) X 1 dX6_init_123 rfl rfl ?_
  refine kq_iconst (v := (0 : Int32)) X dX6_init_124 (by decide) ?_
  refine kq_put (ci := 6) (j := 5) (ty := tyX6 5) (ws' := [(h0, .inr (6, [.ref q1, .int 0, .ref q2, .int 0, .int 0, .int 0, .int (-1), .ref (u4.1 0), .int 0, .ref (u6 0), .ref (u8 0), .ref (u10 0)])), (q1, .inl (C.2.2 12, 4, .inr (.inr (.inr (.inr (kq_rf Lr)))))), (q2, .inl (C.2.2 9, 12, .inr (.inr (.inr (.inr (kq_rf Lc))))))] ++ (((((wTreeP C u4.1 u4.2 ++ wBS C u6) ++ wBS C u8) ++ wBS C u10) ++ Lr.flatMap (wRel C)) ++ Lc.flatMap (wCla C))) X hi 0 tyX6 tyX6_ok nmX6 kc_6 rfl (by decide) rfl kw_204 (by decide +kernel) rfl rfl (Nat.le_of_ble_eq_true rfl) rfl dX6_init_125 ?_
  exact kq_ret X ((fun k => [h0, q1, q2, (u4.1 0), (u6 0), (u8 0), (u10 0)].getD k 0), u4.1, u4.2, u6, u8, u10, Lr, Lc) hr ⟨rfl, hT, hLr, hLc⟩ (Nat.le_of_ble_eq_true rfl) (Nat.le_of_ble_eq_true rfl) dX6_init_128 rfl
