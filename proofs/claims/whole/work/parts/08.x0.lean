abbrev rm_X0_clear : Room := { frames := 0, cells := 0, slots := 0, locals := 0 }
section
variable {p : Program} {l : Launch} {e : Env} {s : State} {m : MethodId} {args : Array Value} {below : List Frame} {meth : Method} {c : Code} {C : Cc} {Y : Ly} {A : Nat → Prop}
def w_X0_clear_L7 (Y : Ly) (post : Mm → Prop) (ex_42 : Mm → Prop) : Nat → Nat → Int32 → Mm → Prop
  | 0, _, _, _ => False
  | n7 + 1, k0, v1, I => (((36 : Int32) ≤ v1 → ex_42 I) ∧ (¬ (36 : Int32) ≤ v1 → (ky_is Y k0 0 ∧ ((¬ (v1 / (6 : Int32)) = (v1 - v1 / (6 : Int32) * (6 : Int32)) → (ky_is Y (ky_rp Y k0 0) 8 ∧ (vp_in v1 (ky_ln Y (ky_rp Y k0 0)) ∧ (∀ I6 : Mm, I6 = ky_up I (ky_rp Y k0 0) v1.toNatClampNeg (1000000000 : Int32) → (∀ x7 : Int32, x7 = v1 + (1 : Int32) → w_X0_clear_L7 Y post ex_42 n7 k0 x7 I6))))) ∧ ((v1 / (6 : Int32)) = (v1 - v1 / (6 : Int32) * (6 : Int32)) → (ky_is Y (ky_rp Y k0 0) 8 ∧ (vp_in v1 (ky_ln Y (ky_rp Y k0 0)) ∧ (∀ I10 : Mm, I10 = ky_up I (ky_rp Y k0 0) v1.toNatClampNeg (0 : Int32) → (∀ x11 : Int32, x11 = v1 + (1 : Int32) → w_X0_clear_L7 Y post ex_42 n7 k0 x11 I10)))))))))
set_option maxHeartbeats 4000000 in
set_option maxRecDepth 100000 in
theorem s_X0_clear_L7 (X : ky_X p s m args meth c C cX0_clear 2 RX0) (hr : meth.sig.returnType = none) (post : Mm → Prop) (ex_42 : Mm → Prop) (hx_42 : ∀ (J : Mm), ex_42 J → ky_G p l e rm_X0_clear s m args below meth c C Y A 2 (MQ below (va_Qv post (ky_B C Y A) A) args s 0 0 A) 42 [] [] J) : ∀ (n7 : Nat) (k0 : Nat) (v1 : Int32) (I : Mm), w_X0_clear_L7 Y post ex_42 n7 k0 v1 I → ky_G p l e rm_X0_clear s m args below meth c C Y A 2 (MQ below (va_Qv post (ky_B C Y A) A) args s 0 0 A) 7 [(0, .ref (Y.2.1 k0)), (1, .int v1)] [] I := by
  intro n7
  induction n7 with
  | zero => intro k0 v1 I hw; exact False.elim hw
  | succ n7 ih =>
    intro k0 v1 I hw
    refine kg_iload_n X 1 dX0_clear_7 rfl rfl ?_
    refine kg_bipush (v := (36 : Int32)) X dX0_clear_8 (by decide) ?_
    refine kg_icmp_ge (tgt := 42) X dX0_clear_10 (by decide) (fun h13 => ?_) (fun h13 => ?_)
    · have hw := hw.1 h13
      refine kg_sub [] rfl ?_
      exact hx_42 _  hw
    · have hw := hw.2 h13
      refine kg_aload_n X 0 dX0_clear_13 rfl rfl ?_
      obtain ⟨h3, hw⟩ := hw
      refine kg_getR (j := 0) X kc_0 h3 (by decide) (by decide) rfl kw_53 dX0_clear_14 ?_
      refine kg_iload_n X 1 dX0_clear_17 rfl rfl ?_
      refine kg_iload_n X 1 dX0_clear_18 rfl rfl ?_
      refine kg_bipush (v := (6 : Int32)) X dX0_clear_19 (by decide) ?_
      refine kg_idiv X dX0_clear_21 (by decide) ?_
      refine kg_iload_n X 1 dX0_clear_22 rfl rfl ?_
      refine kg_bipush (v := (6 : Int32)) X dX0_clear_23 (by decide) ?_
      refine kg_irem X dX0_clear_25 (by decide) ?_
      refine kg_icmp_ne (tgt := 33) X dX0_clear_26 (by decide) (fun h12 => ?_) (fun h12 => ?_)
      · have hw := hw.1 h12
        refine kg_ldc (v := (1000000000 : Int32)) X kw_52 dX0_clear_33 ?_
        obtain ⟨h4, hw⟩ := hw
        obtain ⟨h5, hw⟩ := hw
        refine kg_iast X h4 h5 dX0_clear_35 ?_
        refine kg_topm (fun I6 eI6 => ?_)
        have hw := hw I6 eI6
        refine kg_iinc (dd := (1 : Int32)) (lvf := fun x7 => [(1, .int x7), (0, .ref (Y.2.1 k0))]) X 1 dX0_clear_36 rfl (by decide) (by decide) (fun _ => rfl) (fun x7 ex7 => ?_)
        have hw := hw x7 ex7
        refine kg_goto (tgt := 7) X dX0_clear_39 (by decide) ?_
        refine kg_sub [1, 0] rfl ?_
        exact ih _ _ _  hw
      · have hw := hw.2 h12
        refine kg_iconst (v := (0 : Int32)) X dX0_clear_29 (by decide) ?_
        refine kg_goto (tgt := 35) X dX0_clear_30 (by decide) ?_
        obtain ⟨h8, hw⟩ := hw
        obtain ⟨h9, hw⟩ := hw
        refine kg_iast X h8 h9 dX0_clear_35 ?_
        refine kg_topm (fun I10 eI10 => ?_)
        have hw := hw I10 eI10
        refine kg_iinc (dd := (1 : Int32)) (lvf := fun x11 => [(1, .int x11), (0, .ref (Y.2.1 k0))]) X 1 dX0_clear_36 rfl (by decide) (by decide) (fun _ => rfl) (fun x11 ex11 => ?_)
        have hw := hw x11 ex11
        refine kg_goto (tgt := 7) X dX0_clear_39 (by decide) ?_
        refine kg_sub [1, 0] rfl ?_
        exact ih _ _ _  hw
def w_X0_clear (Y : Ly) (I : Mm) (k0 : Nat) (post : Mm → Prop) : Prop := (ky_is Y k0 0 ∧ (∀ I2 : Mm, I2 = ky_up I k0 1 (1 : Int32) → (∃ n7 : Nat, w_X0_clear_L7 Y post (fun I14 => post I14) n7 k0 (0 : Int32) I2)))
set_option maxHeartbeats 4000000 in
set_option maxRecDepth 100000 in
theorem c_X0_clear (l : Launch) (C : Cc) (Y : Ly) (A : Nat → Prop) (I : Mm) (k0 : Nat) (post : Mm → Prop) (hw : w_X0_clear Y I k0 post) : ky_MV l yX0_clear cX0_clear 2 rm_X0_clear C Y A I [.ref (Y.2.1 k0)] post := by
  refine ky_met (by decide) (Nat.le_of_ble_eq_true rfl) ?_
  intro p e s m args below meth c X hr
  have X : ky_X p s m args meth c C cX0_clear 2 RX0 := X
  show ky_G p l e rm_X0_clear s m args below meth c C Y A 2 (MQ below (va_Qv post (ky_B C Y A) A) args s 0 0 A) 0 [(0, .ref (Y.2.1 k0))] [] I
  refine kg_aload_n X 0 dX0_clear_0 rfl rfl ?_
  refine kg_iconst (v := (1 : Int32)) X dX0_clear_1 (by decide) ?_
  obtain ⟨h1, hw⟩ := hw
  refine kg_putI (ci := 0) (Tn := TX0) (j := 1) (ty := .boolean) X tyX0 tyX0_ok nmX0 kc_0 h1 (by decide) (by decide) rfl kw_54 (by decide +kernel) (ky_nb (by decide)).1 (ky_nb (by decide)).2 dX0_clear_2 ?_
  refine kg_topm (fun I2 eI2 => ?_)
  have hw := hw I2 eI2
  refine kg_iconst (v := (0 : Int32)) X dX0_clear_5 (by decide) ?_
  refine kg_istore_n (lv' := [(1, .int (0 : Int32)), (0, .ref (Y.2.1 k0))]) X dX0_clear_6 rfl (by decide) rfl ?_
  obtain ⟨n7, hw⟩ := hw
  refine kg_sub [1, 0] rfl ?_
  refine s_X0_clear_L7 X hr post _ ?_ n7 _ _ _  hw
  · intro I14 hw
    exact kg_vret X hr hw dX0_clear_42
end

abbrev rm_X0_copyFrom : Room := { frames := 1, cells := 0, slots := 0, locals := 60 }
section
variable {p : Program} {l : Launch} {e : Env} {s : State} {m : MethodId} {args : Array Value} {below : List Frame} {meth : Method} {c : Code} {C : Cc} {Y : Ly} {A : Nat → Prop}
def w_X0_copyFrom (Y : Ly) (I : Mm) (k0 : Nat) (k1 : Nat) (post : Mm → Prop) : Prop := (ky_is Y k1 0 ∧ (ky_is Y k0 0 ∧ ((I k1 1 = 0 ∨ I k1 1 = 1) ∧ (∀ I4 : Mm, I4 = ky_up I k0 1 (I k1 1) → (ky_is Y (ky_rp Y k0 0) 8 ∧ (ky_is Y (ky_rp Y k1 0) 8 ∧ ((0 : Int32).toNatClampNeg + (36 : Int32).toNatClampNeg ≤ ky_ln Y (ky_rp Y k1 0) ∧ ((0 : Int32).toNatClampNeg + (36 : Int32).toNatClampNeg ≤ ky_ln Y (ky_rp Y k0 0) ∧ (∀ I9 : Mm, I9 = ky_cp I4 (ky_rp Y k1 0) (ky_rp Y k0 0) (0 : Int32).toNatClampNeg (0 : Int32).toNatClampNeg (36 : Int32).toNatClampNeg → post I9)))))))))
set_option maxHeartbeats 4000000 in
set_option maxRecDepth 100000 in
theorem c_X0_copyFrom (l : Launch) (C : Cc) (Y : Ly) (A : Nat → Prop) (I : Mm) (k0 : Nat) (k1 : Nat) (post : Mm → Prop) (hw : w_X0_copyFrom Y I k0 k1 post) : ky_MV l yX0_copyFrom cX0_copyFrom 2 rm_X0_copyFrom C Y A I [.ref (Y.2.1 k0), .ref (Y.2.1 k1)] post := by
  refine ky_met (by decide) (Nat.le_of_ble_eq_true rfl) ?_
  intro p e s m args below meth c X hr
  have X : ky_X p s m args meth c C cX0_copyFrom 2 RX0 := X
  show ky_G p l e rm_X0_copyFrom s m args below meth c C Y A 2 (MQ below (va_Qv post (ky_B C Y A) A) args s 0 0 A) 0 [(0, .ref (Y.2.1 k0)), (1, .ref (Y.2.1 k1))] [] I
  refine kg_aload_n X 0 dX0_copyFrom_0 rfl rfl ?_
  refine kg_aload_n X 1 dX0_copyFrom_1 rfl rfl ?_
  obtain ⟨h1, hw⟩ := hw
  refine kg_getI (j := 1) X kc_0 h1 (by decide) (by decide) rfl kw_54 dX0_copyFrom_2 ?_
  obtain ⟨h2, hw⟩ := hw
  obtain ⟨h3, hw⟩ := hw
  refine kg_putI (ci := 0) (Tn := TX0) (j := 1) (ty := .boolean) X tyX0 tyX0_ok nmX0 kc_0 h2 (by decide) (by decide) rfl kw_54 (by decide +kernel) (ky_nb h3).1 (ky_nb h3).2 dX0_copyFrom_5 ?_
  refine kg_topm (fun I4 eI4 => ?_)
  have hw := hw I4 eI4
  refine kg_aload_n X 1 dX0_copyFrom_8 rfl rfl ?_
  refine kg_getR (j := 0) X kc_0 h1 (by decide) (by decide) rfl kw_53 dX0_copyFrom_9 ?_
  refine kg_iconst (v := (0 : Int32)) X dX0_copyFrom_12 (by decide) ?_
  refine kg_aload_n X 0 dX0_copyFrom_13 rfl rfl ?_
  refine kg_getR (j := 0) X kc_0 h2 (by decide) (by decide) rfl kw_53 dX0_copyFrom_14 ?_
  refine kg_iconst (v := (0 : Int32)) X dX0_copyFrom_17 (by decide) ?_
  refine kg_bipush (v := (36 : Int32)) X dX0_copyFrom_18 (by decide) ?_
  obtain ⟨h5, hw⟩ := hw
  obtain ⟨h6, hw⟩ := hw
  obtain ⟨h7, hw⟩ := hw
  obtain ⟨h8, hw⟩ := hw
  refine kg_copy X kw_276 kw_arraycopy h5 h6 (by decide) (by decide) (by decide) h7 h8 (by decide) (by decide) dX0_copyFrom_20 ?_
  refine kg_topm (fun I9 eI9 => ?_)
  have hw := hw I9 eI9
  exact kg_vret X hr hw dX0_copyFrom_23
end

abbrev rm_X0_leastOf : Room := { frames := 0, cells := 0, slots := 0, locals := 0 }
section
variable {p : Program} {l : Launch} {e : Env} {s : State} {m : MethodId} {args : Array Value} {below : List Frame} {meth : Method} {c : Code} {C : Cc} {Y : Ly} {A : Nat → Prop}
def w_X0_leastOf (Y : Ly) (I : Mm) (k0 : Nat) (v1 : Int32) (v2 : Int32) (post : Int32 → Mm → Prop) : Prop := (ky_is Y k0 0 ∧ (ky_is Y (ky_rp Y k0 0) 8 ∧ (vp_in ((v1 * (6 : Int32)) + v2) (ky_ln Y (ky_rp Y k0 0)) ∧ post (I (ky_rp Y k0 0) ((v1 * (6 : Int32)) + v2).toNatClampNeg) I)))
set_option maxHeartbeats 4000000 in
set_option maxRecDepth 100000 in
theorem c_X0_leastOf (l : Launch) (C : Cc) (Y : Ly) (A : Nat → Prop) (I : Mm) (k0 : Nat) (v1 : Int32) (v2 : Int32) (post : Int32 → Mm → Prop) (hw : w_X0_leastOf Y I k0 v1 v2 post) : ky_MI l yX0_leastOf cX0_leastOf 3 (some .int) rm_X0_leastOf C Y A I [.ref (Y.2.1 k0), .int v1, .int v2] post := by
  refine ky_met (by decide) (Nat.le_of_ble_eq_true rfl) ?_
  intro p e s m args below meth c X hr
  have X : ky_X p s m args meth c C cX0_leastOf 3 RX0 := X
  show ky_G p l e rm_X0_leastOf s m args below meth c C Y A 3 (MQ below (va_Qi post (ky_B C Y A) A) args s 0 0 A) 0 [(0, .ref (Y.2.1 k0)), (1, .int v1), (2, .int v2)] [] I
  refine kg_aload_n X 0 dX0_leastOf_0 rfl rfl ?_
  obtain ⟨h1, hw⟩ := hw
  refine kg_getR (j := 0) X kc_0 h1 (by decide) (by decide) rfl kw_53 dX0_leastOf_1 ?_
  refine kg_iload_n X 1 dX0_leastOf_4 rfl rfl ?_
  refine kg_bipush (v := (6 : Int32)) X dX0_leastOf_5 (by decide) ?_
  refine kg_imul X dX0_leastOf_7 ?_
  refine kg_iload_n X 2 dX0_leastOf_8 rfl rfl ?_
  refine kg_iadd X dX0_leastOf_9 ?_
  obtain ⟨h2, hw⟩ := hw
  obtain ⟨h3, hw⟩ := hw
  refine kg_iald X h2 h3 dX0_leastOf_10 ?_
  exact kg_iret X hr hw dX0_leastOf_11
end

abbrev rm_X0_add : Room := { frames := 0, cells := 0, slots := 0, locals := 0 }
section
variable {p : Program} {l : Launch} {e : Env} {s : State} {m : MethodId} {args : Array Value} {below : List Frame} {meth : Method} {c : Code} {C : Cc} {Y : Ly} {A : Nat → Prop}
def w_X0_add_L80 (Y : Ly) (post : Mm → Prop) (ex_158 : Nat → Int32 → Int32 → Int32 → Int32 → Mm → Prop) : Nat → Nat → Int32 → Int32 → Int32 → Int32 → Int32 → Int32 → Mm → Prop
  | 0, _, _, _, _, _, _, _, _ => False
  | n80 + 1, k0, v1, v2, v3, v5, v6, v7, I => (((6 : Int32) ≤ v7 → ex_158 k0 v1 v2 v3 v5 I) ∧ (¬ (6 : Int32) ≤ v7 → ((v6 = (1000000000 : Int32) → ex_158 k0 v1 v2 v3 v5 I) ∧ (¬ v6 = (1000000000 : Int32) → (ky_is Y k0 0 ∧ (ky_is Y (ky_rp Y k0 0) 8 ∧ (vp_in ((v2 * (6 : Int32)) + v7) (ky_ln Y (ky_rp Y k0 0)) ∧ (∀ x13 : Int32, x13 = I (ky_rp Y k0 0) ((v2 * (6 : Int32)) + v7).toNatClampNeg → ((x13 = (1000000000 : Int32) → (∀ x14 : Int32, x14 = v7 + (1 : Int32) → w_X0_add_L80 Y post ex_158 n80 k0 v1 v2 v3 v5 v6 x14 I)) ∧ (¬ x13 = (1000000000 : Int32) → (vp_in (v5 + v7) (ky_ln Y (ky_rp Y k0 0)) ∧ (((I (ky_rp Y k0 0) (v5 + v7).toNatClampNeg) ≤ ((v6 + v3) + x13) → (∀ x16 : Int32, x16 = v7 + (1 : Int32) → w_X0_add_L80 Y post ex_158 n80 k0 v1 v2 v3 v5 v6 x16 I)) ∧ (¬ (I (ky_rp Y k0 0) (v5 + v7).toNatClampNeg) ≤ ((v6 + v3) + x13) → (∀ I17 : Mm, I17 = ky_up I (ky_rp Y k0 0) (v5 + v7).toNatClampNeg ((v6 + v3) + x13) → (∀ x18 : Int32, x18 = v7 + (1 : Int32) → w_X0_add_L80 Y post ex_158 n80 k0 v1 v2 v3 v5 v6 x18 I17)))))))))))))))
set_option maxHeartbeats 4000000 in
set_option maxRecDepth 100000 in
theorem s_X0_add_L80 (X : ky_X p s m args meth c C cX0_add 9 RX0) (hr : meth.sig.returnType = none) (post : Mm → Prop) (ex_158 : Nat → Int32 → Int32 → Int32 → Int32 → Mm → Prop) (hx_158 : ∀ (k0 : Nat) (v1 : Int32) (v2 : Int32) (v3 : Int32) (v5 : Int32) (J : Mm), ex_158 k0 v1 v2 v3 v5 J → ky_G p l e rm_X0_add s m args below meth c C Y A 9 (MQ below (va_Qv post (ky_B C Y A) A) args s 0 0 A) 158 [(0, .ref (Y.2.1 k0)), (1, .int v1), (2, .int v2), (3, .int v3), (5, .int v5)] [] J) : ∀ (n80 : Nat) (k0 : Nat) (v1 : Int32) (v2 : Int32) (v3 : Int32) (v5 : Int32) (v6 : Int32) (v7 : Int32) (I : Mm), w_X0_add_L80 Y post ex_158 n80 k0 v1 v2 v3 v5 v6 v7 I → ky_G p l e rm_X0_add s m args below meth c C Y A 9 (MQ below (va_Qv post (ky_B C Y A) A) args s 0 0 A) 80 [(0, .ref (Y.2.1 k0)), (1, .int v1), (2, .int v2), (3, .int v3), (5, .int v5), (6, .int v6), (7, .int v7)] [] I := by
  intro n80
  induction n80 with
  | zero => intro k0 v1 v2 v3 v5 v6 v7 I hw; exact False.elim hw
  | succ n80 ih =>
    intro k0 v1 v2 v3 v5 v6 v7 I hw
    refine kg_iload X 6 dX0_add_80 rfl ?_
    refine kg_bipush (v := (6 : Int32)) X dX0_add_82 (by decide) ?_
    refine kg_icmp_ge (tgt := 158) X dX0_add_84 (by decide) (fun h22 => ?_) (fun h22 => ?_)
    · have hw := hw.1 h22
      refine kg_sub [0, 1, 2, 3, 4] rfl ?_
      exact hx_158 _ _ _ _ _ _  hw
    · have hw := hw.2 h22
      refine kg_iload X 5 dX0_add_87 rfl ?_
      refine kg_ldc (v := (1000000000 : Int32)) X kw_52 dX0_add_89 ?_
      refine kg_icmp_eq (tgt := 158) X dX0_add_91 (by decide) (fun h21 => ?_) (fun h21 => ?_)
      · have hw := hw.1 h21
        refine kg_sub [0, 1, 2, 3, 4] rfl ?_
        exact hx_158 _ _ _ _ _ _  hw
      · have hw := hw.2 h21
        refine kg_aload_n X 0 dX0_add_94 rfl rfl ?_
        obtain ⟨h10, hw⟩ := hw
        refine kg_getR (j := 0) X kc_0 h10 (by decide) (by decide) rfl kw_53 dX0_add_95 ?_
        refine kg_iload_n X 2 dX0_add_98 rfl rfl ?_
        refine kg_bipush (v := (6 : Int32)) X dX0_add_99 (by decide) ?_
        refine kg_imul X dX0_add_101 ?_
        refine kg_iload X 6 dX0_add_102 rfl ?_
        refine kg_iadd X dX0_add_104 ?_
        obtain ⟨h11, hw⟩ := hw
        obtain ⟨h12, hw⟩ := hw
        refine kg_iald X h11 h12 dX0_add_105 ?_
        refine kg_topi (fun x13 ex13 => ?_)
        have hw := hw x13 ex13
        refine kg_istore (lv' := [(8, .int x13), (0, .ref (Y.2.1 k0)), (1, .int v1), (2, .int v2), (3, .int v3), (5, .int v5), (6, .int v6), (7, .int v7)]) X dX0_add_106 (by decide) rfl ?_
        refine kg_iload X 0 dX0_add_108 rfl ?_
        refine kg_ldc (v := (1000000000 : Int32)) X kw_52 dX0_add_110 ?_
        refine kg_icmp_eq (tgt := 152) X dX0_add_112 (by decide) (fun h20 => ?_) (fun h20 => ?_)
        · have hw := hw.1 h20
          refine kg_iinc (dd := (1 : Int32)) (lvf := fun x14 => [(7, .int x14), (8, .int x13), (0, .ref (Y.2.1 k0)), (1, .int v1), (2, .int v2), (3, .int v3), (5, .int v5), (6, .int v6)]) X 7 dX0_add_152 rfl (by decide) (by decide) (fun _ => rfl) (fun x14 ex14 => ?_)
          have hw := hw x14 ex14
          refine kg_goto (tgt := 80) X dX0_add_155 (by decide) ?_
          refine kg_sub [2, 3, 4, 5, 6, 7, 0] rfl ?_
          exact ih _ _ _ _ _ _ _ _  hw
        · have hw := hw.2 h20
          refine kg_iload X 6 dX0_add_115 rfl ?_
          refine kg_iload_n X 4 dX0_add_117 rfl rfl ?_
          refine kg_iadd X dX0_add_118 ?_
          refine kg_iload X 0 dX0_add_119 rfl ?_
          refine kg_iadd X dX0_add_121 ?_
          refine kg_aload_n X 1 dX0_add_122 rfl rfl ?_
          refine kg_getR (j := 0) X kc_0 h10 (by decide) (by decide) rfl kw_53 dX0_add_123 ?_
          refine kg_iload X 5 dX0_add_126 rfl ?_
          refine kg_iload X 7 dX0_add_128 rfl ?_
          refine kg_iadd X dX0_add_130 ?_
          obtain ⟨h15, hw⟩ := hw
          refine kg_iald X h11 h15 dX0_add_131 ?_
          refine kg_icmp_ge (tgt := 152) X dX0_add_132 (by decide) (fun h19 => ?_) (fun h19 => ?_)
          · have hw := hw.1 h19
            refine kg_iinc (dd := (1 : Int32)) (lvf := fun x16 => [(7, .int x16), (8, .int x13), (0, .ref (Y.2.1 k0)), (1, .int v1), (2, .int v2), (3, .int v3), (5, .int v5), (6, .int v6)]) X 7 dX0_add_152 rfl (by decide) (by decide) (fun _ => rfl) (fun x16 ex16 => ?_)
            have hw := hw x16 ex16
            refine kg_goto (tgt := 80) X dX0_add_155 (by decide) ?_
            refine kg_sub [2, 3, 4, 5, 6, 7, 0] rfl ?_
            exact ih _ _ _ _ _ _ _ _  hw
          · have hw := hw.2 h19
            refine kg_aload_n X 1 dX0_add_135 rfl rfl ?_
            refine kg_getR (j := 0) X kc_0 h10 (by decide) (by decide) rfl kw_53 dX0_add_136 ?_
            refine kg_iload X 5 dX0_add_139 rfl ?_
            refine kg_iload X 7 dX0_add_141 rfl ?_
            refine kg_iadd X dX0_add_143 ?_
            refine kg_iload X 6 dX0_add_144 rfl ?_
            refine kg_iload_n X 4 dX0_add_146 rfl rfl ?_
            refine kg_iadd X dX0_add_147 ?_
            refine kg_iload X 0 dX0_add_148 rfl ?_
            refine kg_iadd X dX0_add_150 ?_
            refine kg_iast X h11 h15 dX0_add_151 ?_
            refine kg_topm (fun I17 eI17 => ?_)
            have hw := hw I17 eI17
            refine kg_iinc (dd := (1 : Int32)) (lvf := fun x18 => [(7, .int x18), (8, .int x13), (0, .ref (Y.2.1 k0)), (1, .int v1), (2, .int v2), (3, .int v3), (5, .int v5), (6, .int v6)]) X 7 dX0_add_152 rfl (by decide) (by decide) (fun _ => rfl) (fun x18 ex18 => ?_)
            have hw := hw x18 ex18
            refine kg_goto (tgt := 80) X dX0_add_155 (by decide) ?_
            refine kg_sub [2, 3, 4, 5, 6, 7, 0] rfl ?_
            exact ih _ _ _ _ _ _ _ _  hw
def w_X0_add_L59 (Y : Ly) (post : Mm → Prop) (ex_164 : Mm → Prop) : Nat → Nat → Int32 → Int32 → Int32 → Int32 → Mm → Prop
  | 0, _, _, _, _, _, _ => False
  | n59 + 1, k0, v1, v2, v3, v5, I => (((36 : Int32) ≤ v5 → ex_164 I) ∧ (¬ (36 : Int32) ≤ v5 → (ky_is Y k0 0 ∧ (ky_is Y (ky_rp Y k0 0) 8 ∧ (vp_in (v5 + v1) (ky_ln Y (ky_rp Y k0 0)) ∧ (∀ x9 : Int32, x9 = I (ky_rp Y k0 0) (v5 + v1).toNatClampNeg → (∃ n80 : Nat, w_X0_add_L80 Y post (fun k24 v25 v26 v27 v28 I23 => (∀ x29 : Int32, x29 = v28 + (6 : Int32) → w_X0_add_L59 Y post ex_164 n59 k24 v25 v26 v27 x29 I23)) n80 k0 v1 v2 v3 v5 x9 (0 : Int32) I)))))))
set_option maxHeartbeats 4000000 in
set_option maxRecDepth 100000 in
theorem s_X0_add_L59 (X : ky_X p s m args meth c C cX0_add 9 RX0) (hr : meth.sig.returnType = none) (post : Mm → Prop) (ex_164 : Mm → Prop) (hx_164 : ∀ (J : Mm), ex_164 J → ky_G p l e rm_X0_add s m args below meth c C Y A 9 (MQ below (va_Qv post (ky_B C Y A) A) args s 0 0 A) 164 [] [] J) : ∀ (n59 : Nat) (k0 : Nat) (v1 : Int32) (v2 : Int32) (v3 : Int32) (v5 : Int32) (I : Mm), w_X0_add_L59 Y post ex_164 n59 k0 v1 v2 v3 v5 I → ky_G p l e rm_X0_add s m args below meth c C Y A 9 (MQ below (va_Qv post (ky_B C Y A) A) args s 0 0 A) 59 [(0, .ref (Y.2.1 k0)), (1, .int v1), (2, .int v2), (3, .int v3), (5, .int v5)] [] I := by
  intro n59
  induction n59 with
  | zero => intro k0 v1 v2 v3 v5 I hw; exact False.elim hw
  | succ n59 ih =>
    intro k0 v1 v2 v3 v5 I hw
    refine kg_iload X 4 dX0_add_59 rfl ?_
    refine kg_bipush (v := (36 : Int32)) X dX0_add_61 (by decide) ?_
    refine kg_icmp_ge (tgt := 164) X dX0_add_63 (by decide) (fun h30 => ?_) (fun h30 => ?_)
    · have hw := hw.1 h30
      refine kg_sub [] rfl ?_
      exact hx_164 _  hw
    · have hw := hw.2 h30
      refine kg_aload_n X 0 dX0_add_66 rfl rfl ?_
      obtain ⟨h6, hw⟩ := hw
      refine kg_getR (j := 0) X kc_0 h6 (by decide) (by decide) rfl kw_53 dX0_add_67 ?_
      refine kg_iload X 4 dX0_add_70 rfl ?_
      refine kg_iload_n X 1 dX0_add_72 rfl rfl ?_
      refine kg_iadd X dX0_add_73 ?_
      obtain ⟨h7, hw⟩ := hw
      obtain ⟨h8, hw⟩ := hw
      refine kg_iald X h7 h8 dX0_add_74 ?_
      refine kg_topi (fun x9 ex9 => ?_)
      have hw := hw x9 ex9
      refine kg_istore (lv' := [(6, .int x9), (0, .ref (Y.2.1 k0)), (1, .int v1), (2, .int v2), (3, .int v3), (5, .int v5)]) X dX0_add_75 (by decide) rfl ?_
      refine kg_iconst (v := (0 : Int32)) X dX0_add_77 (by decide) ?_
      refine kg_istore (lv' := [(7, .int (0 : Int32)), (6, .int x9), (0, .ref (Y.2.1 k0)), (1, .int v1), (2, .int v2), (3, .int v3), (5, .int v5)]) X dX0_add_78 (by decide) rfl ?_
      obtain ⟨n80, hw⟩ := hw
      refine kg_sub [2, 3, 4, 5, 6, 1, 0] rfl ?_
      refine s_X0_add_L80 X hr post _ ?_ n80 _ _ _ _ _ _ _ _  hw
      · intro k24 v25 v26 v27 v28 I23 hw
        refine kg_iinc (dd := (6 : Int32)) (lvf := fun x29 => [(5, .int x29), (0, .ref (Y.2.1 k24)), (1, .int v25), (2, .int v26), (3, .int v27)]) X 4 dX0_add_158 rfl (by decide) (by decide) (fun _ => rfl) (fun x29 ex29 => ?_)
        have hw := hw x29 ex29
        refine kg_goto (tgt := 59) X dX0_add_161 (by decide) ?_
        refine kg_sub [1, 2, 3, 4, 0] rfl ?_
        exact ih _ _ _ _ _ _  hw
def w_X0_add (Y : Ly) (I : Mm) (k0 : Nat) (v1 : Int32) (v2 : Int32) (v3 : Int32) (post : Mm → Prop) : Prop := (ky_is Y k0 0 ∧ (((I k0 1) = 0 → post I) ∧ (¬ (I k0 1) = 0 → (ky_is Y (ky_rp Y k0 0) 8 ∧ (vp_in ((v1 * (6 : Int32)) + v2) (ky_ln Y (ky_rp Y k0 0)) ∧ ((v3 < (I (ky_rp Y k0 0) ((v1 * (6 : Int32)) + v2).toNatClampNeg) → (vp_in ((v2 * (6 : Int32)) + v1) (ky_ln Y (ky_rp Y k0 0)) ∧ (∀ x5 : Int32, x5 = I (ky_rp Y k0 0) ((v2 * (6 : Int32)) + v1).toNatClampNeg → ((x5 = (1000000000 : Int32) → (∃ n59 : Nat, w_X0_add_L59 Y post (fun I31 => post I31) n59 k0 v1 v2 v3 (0 : Int32) I)) ∧ (¬ x5 = (1000000000 : Int32) → ((0 ≤ (x5 + v3) → (∃ n59 : Nat, w_X0_add_L59 Y post (fun I32 => post I32) n59 k0 v1 v2 v3 (0 : Int32) I)) ∧ (¬ 0 ≤ (x5 + v3) → (∀ I33 : Mm, I33 = ky_up I k0 1 (0 : Int32) → post I33)))))))) ∧ (¬ v3 < (I (ky_rp Y k0 0) ((v1 * (6 : Int32)) + v2).toNatClampNeg) → post I)))))))
set_option maxHeartbeats 4000000 in
set_option maxRecDepth 100000 in
theorem c_X0_add (l : Launch) (C : Cc) (Y : Ly) (A : Nat → Prop) (I : Mm) (k0 : Nat) (v1 : Int32) (v2 : Int32) (v3 : Int32) (post : Mm → Prop) (hw : w_X0_add Y I k0 v1 v2 v3 post) : ky_MV l yX0_add cX0_add 9 rm_X0_add C Y A I [.ref (Y.2.1 k0), .int v1, .int v2, .int v3] post := by
  refine ky_met (by decide) (Nat.le_of_ble_eq_true rfl) ?_
  intro p e s m args below meth c X hr
  have X : ky_X p s m args meth c C cX0_add 9 RX0 := X
  show ky_G p l e rm_X0_add s m args below meth c C Y A 9 (MQ below (va_Qv post (ky_B C Y A) A) args s 0 0 A) 0 [(0, .ref (Y.2.1 k0)), (1, .int v1), (2, .int v2), (3, .int v3)] [] I
  refine kg_aload_n X 0 dX0_add_0 rfl rfl ?_
  obtain ⟨h1, hw⟩ := hw
  refine kg_getI (j := 1) X kc_0 h1 (by decide) (by decide) rfl kw_54 dX0_add_1 ?_
  refine kg_if_eq (tgt := 22) X dX0_add_4 (by decide) (fun h37 => ?_) (fun h37 => ?_)
  · have hw := hw.1 h37
    exact kg_vret X hr hw dX0_add_22
  · have hw := hw.2 h37
    refine kg_iload_n X 3 dX0_add_7 rfl rfl ?_
    refine kg_aload_n X 0 dX0_add_8 rfl rfl ?_
    refine kg_getR (j := 0) X kc_0 h1 (by decide) (by decide) rfl kw_53 dX0_add_9 ?_
    refine kg_iload_n X 1 dX0_add_12 rfl rfl ?_
    refine kg_bipush (v := (6 : Int32)) X dX0_add_13 (by decide) ?_
    refine kg_imul X dX0_add_15 ?_
    refine kg_iload_n X 2 dX0_add_16 rfl rfl ?_
    refine kg_iadd X dX0_add_17 ?_
    obtain ⟨h2, hw⟩ := hw
    obtain ⟨h3, hw⟩ := hw
    refine kg_iald X h2 h3 dX0_add_18 ?_
    refine kg_icmp_lt (tgt := 23) X dX0_add_19 (by decide) (fun h36 => ?_) (fun h36 => ?_)
    · have hw := hw.1 h36
      refine kg_aload_n X 0 dX0_add_23 rfl rfl ?_
      refine kg_getR (j := 0) X kc_0 h1 (by decide) (by decide) rfl kw_53 dX0_add_24 ?_
      refine kg_iload_n X 2 dX0_add_27 rfl rfl ?_
      refine kg_bipush (v := (6 : Int32)) X dX0_add_28 (by decide) ?_
      refine kg_imul X dX0_add_30 ?_
      refine kg_iload_n X 1 dX0_add_31 rfl rfl ?_
      refine kg_iadd X dX0_add_32 ?_
      obtain ⟨h4, hw⟩ := hw
      refine kg_iald X h2 h4 dX0_add_33 ?_
      refine kg_topi (fun x5 ex5 => ?_)
      have hw := hw x5 ex5
      refine kg_istore (lv' := [(4, .int x5), (0, .ref (Y.2.1 k0)), (1, .int v1), (2, .int v2), (3, .int v3)]) X dX0_add_34 (by decide) rfl ?_
      refine kg_iload X 0 dX0_add_36 rfl ?_
      refine kg_ldc (v := (1000000000 : Int32)) X kw_52 dX0_add_38 ?_
      refine kg_icmp_eq (tgt := 56) X dX0_add_40 (by decide) (fun h35 => ?_) (fun h35 => ?_)
      · have hw := hw.1 h35
        refine kg_iconst (v := (0 : Int32)) X dX0_add_56 (by decide) ?_
        refine kg_istore (lv' := [(5, .int (0 : Int32)), (4, .int x5), (0, .ref (Y.2.1 k0)), (1, .int v1), (2, .int v2), (3, .int v3)]) X dX0_add_57 (by decide) rfl ?_
        obtain ⟨n59, hw⟩ := hw
        refine kg_sub [2, 3, 4, 5, 0] rfl ?_
        refine s_X0_add_L59 X hr post _ ?_ n59 _ _ _ _ _ _  hw
        · intro I31 hw
          exact kg_vret X hr hw dX0_add_164
      · have hw := hw.2 h35
        refine kg_iload X 0 dX0_add_43 rfl ?_
        refine kg_iload_n X 4 dX0_add_45 rfl rfl ?_
        refine kg_iadd X dX0_add_46 ?_
        refine kg_if_ge (tgt := 56) X dX0_add_47 (by decide) (fun h34 => ?_) (fun h34 => ?_)
        · have hw := hw.1 h34
          refine kg_iconst (v := (0 : Int32)) X dX0_add_56 (by decide) ?_
          refine kg_istore (lv' := [(5, .int (0 : Int32)), (4, .int x5), (0, .ref (Y.2.1 k0)), (1, .int v1), (2, .int v2), (3, .int v3)]) X dX0_add_57 (by decide) rfl ?_
          obtain ⟨n59, hw⟩ := hw
          refine kg_sub [2, 3, 4, 5, 0] rfl ?_
          refine s_X0_add_L59 X hr post _ ?_ n59 _ _ _ _ _ _  hw
          · intro I32 hw
            exact kg_vret X hr hw dX0_add_164
        · have hw := hw.2 h34
          refine kg_aload_n X 1 dX0_add_50 rfl rfl ?_
          refine kg_iconst (v := (0 : Int32)) X dX0_add_51 (by decide) ?_
          refine kg_putI (ci := 0) (Tn := TX0) (j := 1) (ty := .boolean) X tyX0 tyX0_ok nmX0 kc_0 h1 (by decide) (by decide) rfl kw_54 (by decide +kernel) (ky_nb (by decide)).1 (ky_nb (by decide)).2 dX0_add_52 ?_
          refine kg_topm (fun I33 eI33 => ?_)
          have hw := hw I33 eI33
          exact kg_vret X hr hw dX0_add_55
    · have hw := hw.2 h36
      exact kg_vret X hr hw dX0_add_22
end

abbrev rm_X6_isLimit : Room := { frames := 0, cells := 0, slots := 0, locals := 0 }
section
variable {p : Program} {l : Launch} {e : Env} {s : State} {m : MethodId} {args : Array Value} {below : List Frame} {meth : Method} {c : Code} {C : Cc} {Y : Ly} {A : Nat → Prop}
def w_X6_isLimit (Y : Ly) (I : Mm) (v0 : Int32) (post : Int32 → Mm → Prop) : Prop := ((v0 < (-1000 : Int32) → post (0 : Int32) I) ∧ (¬ v0 < (-1000 : Int32) → (((1000 : Int32) < v0 → post (0 : Int32) I) ∧ (¬ (1000 : Int32) < v0 → post (1 : Int32) I))))
set_option maxHeartbeats 4000000 in
set_option maxRecDepth 100000 in
theorem c_X6_isLimit (l : Launch) (C : Cc) (Y : Ly) (A : Nat → Prop) (I : Mm) (v0 : Int32) (post : Int32 → Mm → Prop) (hw : w_X6_isLimit Y I v0 post) : ky_MI l yX6_isLimit cX6_isLimit 1 (some .boolean) rm_X6_isLimit C Y A I [.int v0] post := by
  refine ky_met (by decide) (Nat.le_of_ble_eq_true rfl) ?_
  intro p e s m args below meth c X hr
  have X : ky_X p s m args meth c C cX6_isLimit 1 RX6 := X
  show ky_G p l e rm_X6_isLimit s m args below meth c C Y A 1 (MQ below (va_Qi post (ky_B C Y A) A) args s 0 0 A) 0 [(0, .int v0)] [] I
  refine kg_iload_n X 0 dX6_isLimit_0 rfl rfl ?_
  refine kg_sipush (v := (-1000 : Int32)) X dX6_isLimit_1 (by decide) ?_
  refine kg_icmp_lt (tgt := 18) X dX6_isLimit_4 (by decide) (fun h2 => ?_) (fun h2 => ?_)
  · have hw := hw.1 h2
    refine kg_iconst (v := (0 : Int32)) X dX6_isLimit_18 (by decide) ?_
    exact kg_zret X hr (by decide) hw dX6_isLimit_19
  · have hw := hw.2 h2
    refine kg_iload_n X 0 dX6_isLimit_7 rfl rfl ?_
    refine kg_sipush (v := (1000 : Int32)) X dX6_isLimit_8 (by decide) ?_
    refine kg_icmp_gt (tgt := 18) X dX6_isLimit_11 (by decide) (fun h1 => ?_) (fun h1 => ?_)
    · have hw := hw.1 h1
      refine kg_iconst (v := (0 : Int32)) X dX6_isLimit_18 (by decide) ?_
      exact kg_zret X hr (by decide) hw dX6_isLimit_19
    · have hw := hw.2 h1
      refine kg_iconst (v := (1 : Int32)) X dX6_isLimit_14 (by decide) ?_
      refine kg_goto (tgt := 19) X dX6_isLimit_15 (by decide) ?_
      exact kg_zret X hr (by decide) hw dX6_isLimit_19
end

abbrev rm_X6_pointAt : Room := { frames := 0, cells := 0, slots := 0, locals := 0 }
section
variable {p : Program} {l : Launch} {e : Env} {s : State} {m : MethodId} {args : Array Value} {below : List Frame} {meth : Method} {c : Code} {C : Cc} {Y : Ly} {A : Nat → Prop}
def w_X6_pointAt (Y : Ly) (I : Mm) (v0 : Int32) (v1 : Int32) (v2 : Int32) (post : Int32 → Mm → Prop) : Prop := ((¬ v0 = (2 : Int32) → ((¬ v0 = 0 → post v2 I) ∧ (v0 = 0 → post v1 I))) ∧ (v0 = (2 : Int32) → post (5 : Int32) I))
set_option maxHeartbeats 4000000 in
set_option maxRecDepth 100000 in
theorem c_X6_pointAt (l : Launch) (C : Cc) (Y : Ly) (A : Nat → Prop) (I : Mm) (v0 : Int32) (v1 : Int32) (v2 : Int32) (post : Int32 → Mm → Prop) (hw : w_X6_pointAt Y I v0 v1 v2 post) : ky_MI l yX6_pointAt cX6_pointAt 3 (some .int) rm_X6_pointAt C Y A I [.int v0, .int v1, .int v2] post := by
  refine ky_met (by decide) (Nat.le_of_ble_eq_true rfl) ?_
  intro p e s m args below meth c X hr
  have X : ky_X p s m args meth c C cX6_pointAt 3 RX6 := X
  show ky_G p l e rm_X6_pointAt s m args below meth c C Y A 3 (MQ below (va_Qi post (ky_B C Y A) A) args s 0 0 A) 0 [(0, .int v0), (1, .int v1), (2, .int v2)] [] I
  refine kg_iload_n X 0 dX6_pointAt_0 rfl rfl ?_
  refine kg_iconst (v := (2 : Int32)) X dX6_pointAt_1 (by decide) ?_
  refine kg_icmp_ne (tgt := 7) X dX6_pointAt_2 (by decide) (fun h2 => ?_) (fun h2 => ?_)
  · have hw := hw.1 h2
    refine kg_iload_n X 0 dX6_pointAt_7 rfl rfl ?_
    refine kg_if_ne (tgt := 15) X dX6_pointAt_8 (by decide) (fun h1 => ?_) (fun h1 => ?_)
    · have hw := hw.1 h1
      refine kg_iload_n X 2 dX6_pointAt_15 rfl rfl ?_
      exact kg_iret X hr hw dX6_pointAt_16
    · have hw := hw.2 h1
      refine kg_iload_n X 1 dX6_pointAt_11 rfl rfl ?_
      refine kg_goto (tgt := 16) X dX6_pointAt_12 (by decide) ?_
      exact kg_iret X hr hw dX6_pointAt_16
  · have hw := hw.2 h2
    refine kg_iconst (v := (5 : Int32)) X dX6_pointAt_5 (by decide) ?_
    exact kg_iret X hr hw dX6_pointAt_6
end

