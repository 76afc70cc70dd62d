abbrev rm_X0_clear : Room := { frames := 0, cells := 0, slots := 0, locals := 0 }
section
variable {p : Program} {l : Launch} {e : Env} {s : State} {m : MethodId} {args : Array Value} {below : List Frame} {meth : Method} {c : Code} {C : Cc} {Y : Ly} {A : Nat → Prop}
def w_X0_clear_L7 (Y : Ly) (post : Mm → Prop) (ex_42 : Mm → Prop) : Nat → Nat → Int32 → Mm → Prop
  | 0, _, _, _ => False
  | n7 + 1, k0, v1, I => (((36 : Int32) ≤ v1 → ex_42 I) ∧ (¬ (36 : Int32) ≤ v1 → (ky_is Y k0 0 ∧ ((¬ (v1 / (6 : Int32)) = (v1 - v1 / (6 : Int32) * (6 : Int32)) → (ky_is Y (ky_rp Y k0 0) 8 ∧ (vp_in v1 (ky_ln Y (ky_rp Y k0 0)) ∧ (∀ I6 : Mm, I6 = ky_up I (ky_rp Y k0 0) v1.toNatClampNeg (1000000000 : Int32) → (∀ x7 : Int32, x7 = v1 + (1 : Int32) → w_X0_clear_L7 Y post ex_42 n7 k0 x7 I6))))) ∧ ((v1 / (6 : Int32)) = (v1 - v1 / (6 : Int32) * (6 : Int32)) → (ky_is Y (ky_rp Y k0 0) 8 ∧ (vp_in v1 (ky_ln Y (ky_rp Y k0 0)) ∧ (∀ I10 : Mm, I10 = ky_up I (ky_rp Y k0 0) v1.toNatClampNeg (0 : Int32) → (∀ x11 : Int32, x11 = v1 + (1 : Int32) → w_X0_clear_L7 Y post ex_42 n7 k0 x11 I10)))))))))
set_option maxHeartbeats 4000000 in
set_option maxRecDepth 100000 in
theorem s_X0_clear_L7 (X : ky_X p s m args meth c C cX0_clear 2 RX0) (hr : meth.sig.returnType = none) (post : Mm → Prop) (ex_42 : Mm → Prop) (hx_42 : ∀ (J : Mm), ex_42 J → ky_G p l e rm_X0_clear s m args below meth c C Y A 2 (MQ below (va_Qv post (ky_B C Y A) A) args s 0 0 A) 42 [] [] J) : ∀ (n7 : Nat) (k0 : Nat) (v1 : Int32) (I : Mm), w_X0_clear_L7 Y post ex_42 n7 k0 v1 I → ky_G p l e rm_X0_clear s m args below meth c C Y A 2 (MQ below (va_Qv post (ky_B C Y A) A) args s 0 0 A) 7 [(0, .ref (Y.2.1 k0)), (1, .int v1)] [] I := by
  intro n7
  induction n7 with
  | zero => intro k0 v1 I hw; exact False.elim hw
  | succ n7 ih =>
    intro k0 v1 I hw
    refine kg_iload_n X 1 dX0_clear_7 rfl rfl ?_
    refine kg_bipush (v := (36 : Int32)) X dX0_clear_8 (by decide) ?_
    refine kg_icmp_ge (tgt := 42) X dX0_clear_10 (by decide) (fun h13 => ?_) (fun h13 => ?_)
    · have hw := hw.1 h13
      refine kg_sub [] rfl ?_
      exact hx_42 _  hw
    · have hw := hw.2 h13
      refine kg_aload_n X 0 dX0_clear_13 rfl rfl ?_
      obtain ⟨h3, hw⟩ := hw
      refine kg_getR (j := 0) X kc_0 h3 (by decide) (by decide) rfl kw_53 dX0_clear_14 ?_
      refine kg_iload_n X 1 dX0_clear_17 rfl rfl ?_
      refine kg_iload_n X 1 dX0_clear_18 rfl rfl ?_
      refine kg_bipush (v := (6 : Int32)) X dX0_clear_19 (by decide) ?_
      refine kg_idiv X dX0_clear_21 (by decide) ?_
      refine kg_iload_n X 1 dX0_clear_22 rfl rfl ?_
      refine kg_bipush (v := (6 : Int32)) X dX0_clear_23 (by decide) ?_
      refine kg_irem X dX0_clear_25 (by decide) ?_
      refine kg_icmp_ne (tgt := 33) X dX0_clear_26 (by decide) (fun h12 => ?_) (fun h12 => ?_)
      · have hw := hw.1 h12
        refine kg_ldc (v := (1000000000 : Int32)) X kw_52 dX0_clear_33 ?_
        obtain ⟨h4, hw⟩ := hw
        obtain ⟨h5, hw⟩ := hw
        refine kg_iast X h4 h5 dX0_clear_35 ?_
        refine kg_topm (fun I6 eI6 => ?_)
        have hw := hw I6 eI6
        refine kg_iinc (dd := (1 : Int32)) (lvf := fun x7 => [(1, .int x7), (0, .ref (Y.2.1 k0))]) X 1 dX0_clear_36 rfl (by decide) (by decide) (fun _ => rfl) (fun x7 ex7 => ?_)
        have hw := hw x7 ex7
        refine kg_goto (tgt := 7) X dX0_clear_39 (by decide) ?_
        refine kg_sub [1, 0] rfl ?_
        exact ih _ _ _  hw
      · have hw := hw.2 h12
        refine kg_iconst (v := (0 : Int32)) X dX0_clear_29 (by decide) ?_
        refine kg_goto (tgt := 35) X dX0_clear_30 (by decide) ?_
        obtain ⟨h8, hw⟩ := hw
        obtain ⟨h9, hw⟩ := hw
        refine kg_iast X h8 h9 dX0_clear_35 ?_
        refine kg_topm (fun I10 eI10 => ?_)
        have hw := hw I10 eI10
        refine kg_iinc (dd := (1 : Int32)) (lvf := fun x11 => [(1, .int x11), (0, .ref (Y.2.1 k0))]) X 1 dX0_clear_36 rfl (by decide) (by decide) (fun _ => rfl) (fun x11 ex11 => ?_)
        have hw := hw x11 ex11
        refine kg_goto (tgt := 7) X dX0_clear_39 (by decide) ?_
        refine kg_sub [1, 0] rfl ?_
        exact ih _ _ _  hw
def w_X0_clear (Y : Ly) (I : Mm) (k0 : Nat) (post : Mm → Prop) : Prop := (ky_is Y k0 0 ∧ (∀ I2 : Mm, I2 = ky_up I k0 1 (1 : Int32) → (∃ n7 : Nat, w_X0_clear_L7 Y post (fun I14 => post I14) n7 k0 (0 : Int32) I2)))
set_option maxHeartbeats 4000000 in
set_option maxRecDepth 100000 in
theorem c_X0_clear (l : Launch) (C : Cc) (Y : Ly) (A : Nat → Prop) (I : Mm) (k0 : Nat) (post : Mm → Prop) (hw : w_X0_clear Y I k0 post) : ky_MV l yX0_clear cX0_clear 2 rm_X0_clear C Y A I [.ref (Y.2.1 k0)] post := by
  refine ky_met (by decide) (Nat.le_of_ble_eq_true rfl) ?_
  intro p e s m args below meth c X hr
  have X : ky_X p s m args meth c C cX0_clear 2 RX0 := X
  show ky_G p l e rm_X0_clear s m args below meth c C Y A 2 (MQ below (va_Qv post (ky_B C Y A) A) args s 0 0 A) 0 [(0, .ref (Y.2.1 k0))] [] I
  refine kg_aload_n X 0 dX0_clear_0 rfl rfl ?_
  refine kg_iconst (v := (1 : Int32)) X dX0_clear_1 (by decide) ?_
  obtain ⟨h1, hw⟩ := hw
  refine kg_putI (ci := 0) (Tn := TX0) (j := 1) (ty := .boolean) X tyX0 tyX0_ok nmX0 kc_0 h1 (by decide) (by decide) rfl kw_54 (by decide +kernel) (ky_nb (by decide)).1 (ky_nb (by decide)).2 dX0_clear_2 ?_
  refine kg_topm (fun I2 eI2 => ?_)
  have hw := hw I2 eI2
  refine kg_iconst (v := (0 : Int32)) X dX0_clear_5 (by decide) ?_
  refine kg_istore_n (lv' := [(1, .int (0 : Int32)), (0, .ref (Y.2.1 k0))]) X dX0_clear_6 rfl (by decide) rfl ?_
  obtain ⟨n7, hw⟩ := hw
  refine kg_sub [1, 0] rfl ?_
  refine s_X0_clear_L7 X hr post _ ?_ n7 _ _ _  hw
  · intro I14 hw
    exact kg_vret X hr hw dX0_clear_42
end
abbrev rm_X4_forgetStates : Room := { frames := 0, cells := 0, slots := 0, locals := 0 }
section
variable {p : Program} {l : Launch} {e : Env} {s : State} {m : MethodId} {args : Array Value} {below : List Frame} {meth : Method} {c : Code} {C : Cc} {Y : Ly} {A : Nat → Prop}
def w_X4_forgetStates_L2 (Y : Ly) (post : Mm → Prop) (ex_21 : Mm → Prop) : Nat → Nat → Int32 → Mm → Prop
  | 0, _, _, _ => False
  | n2 + 1, k0, v1, I => (((16 : Int32) ≤ v1 → ex_21 I) ∧ (¬ (16 : Int32) ≤ v1 → (ky_is Y k0 4 ∧ (ky_is Y (ky_rp Y k0 5) 8 ∧ (vp_in v1 (ky_ln Y (ky_rp Y k0 5)) ∧ (∀ I4 : Mm, I4 = ky_up I (ky_rp Y k0 5) v1.toNatClampNeg (0 : Int32) → (∀ x5 : Int32, x5 = v1 + (1 : Int32) → w_X4_forgetStates_L2 Y post ex_21 n2 k0 x5 I4)))))))
set_option maxHeartbeats 4000000 in
set_option maxRecDepth 100000 in
theorem s_X4_forgetStates_L2 (X : ky_X p s m args meth c C cX4_forgetStates 2 RX4) (hr : meth.sig.returnType = none) (post : Mm → Prop) (ex_21 : Mm → Prop) (hx_21 : ∀ (J : Mm), ex_21 J → ky_G p l e rm_X4_forgetStates s m args below meth c C Y A 2 (MQ below (va_Qv post (ky_B C Y A) A) args s 0 0 A) 21 [] [] J) : ∀ (n2 : Nat) (k0 : Nat) (v1 : Int32) (I : Mm), w_X4_forgetStates_L2 Y post ex_21 n2 k0 v1 I → ky_G p l e rm_X4_forgetStates s m args below meth c C Y A 2 (MQ below (va_Qv post (ky_B C Y A) A) args s 0 0 A) 2 [(0, .ref (Y.2.1 k0)), (1, .int v1)] [] I := by
  intro n2
  induction n2 with
  | zero => intro k0 v1 I hw; exact False.elim hw
  | succ n2 ih =>
    intro k0 v1 I hw
    refine kg_iload_n X 1 dX4_forgetStates_2 rfl rfl ?_
    refine kg_bipush (v := (16 : Int32)) X dX4_forgetStates_3 (by decide) ?_
    refine kg_icmp_ge (tgt := 21) X dX4_forgetStates_5 (by decide) (fun h6 => ?_) (fun h6 => ?_)
    · have hw := hw.1 h6
      refine kg_sub [] rfl ?_
      exact hx_21 _  hw
    · have hw := hw.2 h6
      refine kg_aload_n X 0 dX4_forgetStates_8 rfl rfl ?_
      obtain ⟨h1, hw⟩ := hw
      refine kg_getR (j := 5) X kc_4 h1 (by decide) (by decide) rfl kw_125 dX4_forgetStates_9 ?_
      refine kg_iload_n X 1 dX4_forgetStates_12 rfl rfl ?_
      refine kg_iconst (v := (0 : Int32)) X dX4_forgetStates_13 (by decide) ?_
      obtain ⟨h2, hw⟩ := hw
      obtain ⟨h3, hw⟩ := hw
      refine kg_iast X h2 h3 dX4_forgetStates_14 ?_
      refine kg_topm (fun I4 eI4 => ?_)
      have hw := hw I4 eI4
      refine kg_iinc (dd := (1 : Int32)) (lvf := fun x5 => [(1, .int x5), (0, .ref (Y.2.1 k0))]) X 1 dX4_forgetStates_15 rfl (by decide) (by decide) (fun _ => rfl) (fun x5 ex5 => ?_)
      have hw := hw x5 ex5
      refine kg_goto (tgt := 2) X dX4_forgetStates_18 (by decide) ?_
      refine kg_sub [1, 0] rfl ?_
      exact ih _ _ _  hw
def w_X4_forgetStates (Y : Ly) (I : Mm) (k0 : Nat) (post : Mm → Prop) : Prop := (∃ n2 : Nat, w_X4_forgetStates_L2 Y post (fun I7 => post I7) n2 k0 (0 : Int32) I)
set_option maxHeartbeats 4000000 in
set_option maxRecDepth 100000 in
theorem c_X4_forgetStates (l : Launch) (C : Cc) (Y : Ly) (A : Nat → Prop) (I : Mm) (k0 : Nat) (post : Mm → Prop) (hw : w_X4_forgetStates Y I k0 post) : ky_MV l yX4_forgetStates cX4_forgetStates 2 rm_X4_forgetStates C Y A I [.ref (Y.2.1 k0)] post := by
  refine ky_met (by decide) (Nat.le_of_ble_eq_true rfl) ?_
  intro p e s m args below meth c X hr
  have X : ky_X p s m args meth c C cX4_forgetStates 2 RX4 := X
  show ky_G p l e rm_X4_forgetStates s m args below meth c C Y A 2 (MQ below (va_Qv post (ky_B C Y A) A) args s 0 0 A) 0 [(0, .ref (Y.2.1 k0))] [] I
  refine kg_iconst (v := (0 : Int32)) X dX4_forgetStates_0 (by decide) ?_
  refine kg_istore_n (lv' := [(1, .int (0 : Int32)), (0, .ref (Y.2.1 k0))]) X dX4_forgetStates_1 rfl (by decide) rfl ?_
  obtain ⟨n2, hw⟩ := hw
  refine kg_sub [1, 0] rfl ?_
  refine s_X4_forgetStates_L2 X hr post _ ?_ n2 _ _ _  hw
  · intro I7 hw
    exact kg_vret X hr hw dX4_forgetStates_21
end
abbrev rm_X6_startAfresh : Room := { frames := 1, cells := 0, slots := 0, locals := 21 }
section
variable {p : Program} {l : Launch} {e : Env} {s : State} {m : MethodId} {args : Array Value} {below : List Frame} {meth : Method} {c : Code} {C : Cc} {Y : Ly} {A : Nat → Prop}
def w_X6_startAfresh_L2 (Y : Ly) (post : Mm → Prop) (ex_25 : Nat → Mm → Prop) : Nat → Nat → Int32 → Mm → Prop
  | 0, _, _, _ => False
  | n2 + 1, k0, v1, I => (ky_is Y k0 6 ∧ (((I k0 1) ≤ v1 → ex_25 k0 I) ∧ (¬ (I k0 1) ≤ v1 → (ky_is Y (ky_rp Y k0 0) 12 ∧ (vp_in v1 (ky_ln Y (ky_rp Y k0 0)) ∧ (ky_is Y (ky_rp Y (ky_rp Y k0 0) v1.toNatClampNeg) 4 ∧ w_X4_forgetStates Y I (ky_rp Y (ky_rp Y k0 0) v1.toNatClampNeg) (fun I4 => (∀ x6 : Int32, x6 = v1 + (1 : Int32) → w_X6_startAfresh_L2 Y post ex_25 n2 k0 x6 I4))))))))
set_option maxHeartbeats 4000000 in
set_option maxRecDepth 100000 in
theorem s_X6_startAfresh_L2 (X : ky_X p s m args meth c C cX6_startAfresh 2 RX6) (hr : meth.sig.returnType = none) (post : Mm → Prop) (ex_25 : Nat → Mm → Prop) (hx_25 : ∀ (k0 : Nat) (J : Mm), ex_25 k0 J → ky_G p l e rm_X6_startAfresh s m args below meth c C Y A 2 (MQ below (va_Qv post (ky_B C Y A) A) args s 0 0 A) 25 [(0, .ref (Y.2.1 k0))] [] J) : ∀ (n2 : Nat) (k0 : Nat) (v1 : Int32) (I : Mm), w_X6_startAfresh_L2 Y post ex_25 n2 k0 v1 I → ky_G p l e rm_X6_startAfresh s m args below meth c C Y A 2 (MQ below (va_Qv post (ky_B C Y A) A) args s 0 0 A) 2 [(0, .ref (Y.2.1 k0)), (1, .int v1)] [] I := by
  intro n2
  induction n2 with
  | zero => intro k0 v1 I hw; exact False.elim hw
  | succ n2 ih =>
    intro k0 v1 I hw
    refine kg_iload_n X 1 dX6_startAfresh_2 rfl rfl ?_
    refine kg_aload_n X 0 dX6_startAfresh_3 rfl rfl ?_
    obtain ⟨h1, hw⟩ := hw
    refine kg_getI (j := 1) X kc_6 h1 (by decide) (by decide) rfl kw_200 dX6_startAfresh_4 ?_
    refine kg_icmp_ge (tgt := 25) X dX6_startAfresh_7 (by decide) (fun h7 => ?_) (fun h7 => ?_)
    · have hw := hw.1 h7
      refine kg_sub [0] rfl ?_
      exact hx_25 _ _  hw
    · have hw := hw.2 h7
      refine kg_aload_n X 0 dX6_startAfresh_10 rfl rfl ?_
      refine kg_getR (j := 0) X kc_6 h1 (by decide) (by decide) rfl kw_199 dX6_startAfresh_11 ?_
      refine kg_iload_n X 1 dX6_startAfresh_14 rfl rfl ?_
      obtain ⟨h2, hw⟩ := hw
      obtain ⟨h3, hw⟩ := hw
      refine kg_aald (kc := 12) X 4 rfl (by decide) h2 h3 dX6_startAfresh_15 ?_
      obtain ⟨h5, hw⟩ := hw
      refine kg_callVv (n := 0) (As := []) X (c_X4_forgetStates l C Y A I (ky_rp Y (ky_rp Y k0 0) v1.toNatClampNeg) _ hw) kc_4 h5 rfl iv_X4_forgetStates kw_244 (by decide +kernel) (by decide) rfl rfl (Nat.le_of_ble_eq_true rfl) dX6_startAfresh_16 (fun I4 hw => ?_)
      refine kg_iinc (dd := (1 : Int32)) (lvf := fun x6 => [(1, .int x6), (0, .ref (Y.2.1 k0))]) X 1 dX6_startAfresh_19 rfl (by decide) (by decide) (fun _ => rfl) (fun x6 ex6 => ?_)
      have hw := hw x6 ex6
      refine kg_goto (tgt := 2) X dX6_startAfresh_22 (by decide) ?_
      refine kg_sub [1, 0] rfl ?_
      exact ih _ _ _  hw
def w_X6_startAfresh (Y : Ly) (I : Mm) (k0 : Nat) (post : Mm → Prop) : Prop := (∃ n2 : Nat, w_X6_startAfresh_L2 Y post (fun k9 I8 => (ky_is Y k9 6 ∧ (∀ I11 : Mm, I11 = ky_up I8 k9 4 (0 : Int32) → (∀ I12 : Mm, I12 = ky_up I11 k9 6 (-1 : Int32) → (ky_is Y (ky_rp Y k9 7) 5 ∧ (∀ I14 : Mm, I14 = ky_up I12 (ky_rp Y k9 7) 1 (0 : Int32) → (∀ I15 : Mm, I15 = ky_up I14 k9 5 (0 : Int32) → post I15))))))) n2 k0 (0 : Int32) I)
set_option maxHeartbeats 4000000 in
set_option maxRecDepth 100000 in
theorem c_X6_startAfresh (l : Launch) (C : Cc) (Y : Ly) (A : Nat → Prop) (I : Mm) (k0 : Nat) (post : Mm → Prop) (hw : w_X6_startAfresh Y I k0 post) : ky_MV l yX6_startAfresh cX6_startAfresh 2 rm_X6_startAfresh C Y A I [.ref (Y.2.1 k0)] post := by
  refine ky_met (by decide) (Nat.le_of_ble_eq_true rfl) ?_
  intro p e s m args below meth c X hr
  have X : ky_X p s m args meth c C cX6_startAfresh 2 RX6 := X
  show ky_G p l e rm_X6_startAfresh s m args below meth c C Y A 2 (MQ below (va_Qv post (ky_B C Y A) A) args s 0 0 A) 0 [(0, .ref (Y.2.1 k0))] [] I
  refine kg_iconst (v := (0 : Int32)) X dX6_startAfresh_0 (by decide) ?_
  refine kg_istore_n (lv' := [(1, .int (0 : Int32)), (0, .ref (Y.2.1 k0))]) X dX6_startAfresh_1 rfl (by decide) rfl ?_
  obtain ⟨n2, hw⟩ := hw
  refine kg_sub [1, 0] rfl ?_
  refine s_X6_startAfresh_L2 X hr post _ ?_ n2 _ _ _  hw
  · intro k9 I8 hw
    refine kg_aload_n X 0 dX6_startAfresh_25 rfl rfl ?_
    refine kg_iconst (v := (0 : Int32)) X dX6_startAfresh_26 (by decide) ?_
    obtain ⟨h10, hw⟩ := hw
    refine kg_putI (ci := 6) (Tn := TX6) (j := 4) (ty := .int) X tyX6 tyX6_ok nmX6 kc_6 h10 (by decide) (by decide) rfl kw_203 (by decide +kernel) rfl rfl dX6_startAfresh_27 ?_
    refine kg_topm (fun I11 eI11 => ?_)
    have hw := hw I11 eI11
    refine kg_aload_n X 0 dX6_startAfresh_30 rfl rfl ?_
    refine kg_iconst (v := (-1 : Int32)) X dX6_startAfresh_31 (by decide) ?_
    refine kg_putI (ci := 6) (Tn := TX6) (j := 6) (ty := .int) X tyX6 tyX6_ok nmX6 kc_6 h10 (by decide) (by decide) rfl kw_205 (by decide +kernel) rfl rfl dX6_startAfresh_32 ?_
    refine kg_topm (fun I12 eI12 => ?_)
    have hw := hw I12 eI12
    refine kg_aload_n X 0 dX6_startAfresh_35 rfl rfl ?_
    refine kg_getR (j := 7) X kc_6 h10 (by decide) (by decide) rfl kw_206 dX6_startAfresh_36 ?_
    refine kg_iconst (v := (0 : Int32)) X dX6_startAfresh_39 (by decide) ?_
    obtain ⟨h13, hw⟩ := hw
    refine kg_putI (ci := 5) (Tn := TX5) (j := 1) (ty := .int) X tyX5 tyX5_ok nmX5 kc_5 h13 (by decide) (by decide) rfl kw_86 (by decide +kernel) rfl rfl dX6_startAfresh_40 ?_
    refine kg_topm (fun I14 eI14 => ?_)
    have hw := hw I14 eI14
    refine kg_aload_n X 0 dX6_startAfresh_43 rfl rfl ?_
    refine kg_iconst (v := (0 : Int32)) X dX6_startAfresh_44 (by decide) ?_
    refine kg_putI (ci := 6) (Tn := TX6) (j := 5) (ty := .int) X tyX6 tyX6_ok nmX6 kc_6 h10 (by decide) (by decide) rfl kw_204 (by decide +kernel) rfl rfl dX6_startAfresh_45 ?_
    refine kg_topm (fun I15 eI15 => ?_)
    have hw := hw I15 eI15
    exact kg_vret X hr hw dX6_startAfresh_48
end
abbrev rm_X6_start : Room := { frames := 2, cells := 0, slots := 0, locals := 42 }
section
variable {p : Program} {l : Launch} {e : Env} {s : State} {m : MethodId} {args : Array Value} {below : List Frame} {meth : Method} {c : Code} {C : Cc} {Y : Ly} {A : Nat → Prop}
def w_X6_start (Y : Ly) (I : Mm) (k0 : Nat) (post : Mm → Prop) : Prop := (ky_is Y k0 6 ∧ w_X6_startAfresh Y I k0 (fun I1 => post I1))
set_option maxHeartbeats 4000000 in
set_option maxRecDepth 100000 in
theorem c_X6_start (l : Launch) (C : Cc) (Y : Ly) (A : Nat → Prop) (I : Mm) (k0 : Nat) (post : Mm → Prop) (hw : w_X6_start Y I k0 post) : ky_MV l yX6_start cX6_start 1 rm_X6_start C Y A I [.ref (Y.2.1 k0)] post := by
  refine ky_met (by decide) (Nat.le_of_ble_eq_true rfl) ?_
  intro p e s m args below meth c X hr
  have X : ky_X p s m args meth c C cX6_start 1 RX6 := X
  show ky_G p l e rm_X6_start s m args below meth c C Y A 1 (MQ below (va_Qv post (ky_B C Y A) A) args s 0 0 A) 0 [(0, .ref (Y.2.1 k0))] [] I
  refine kg_aload_n X 0 dX6_start_0 rfl rfl ?_
  obtain ⟨h2, hw⟩ := hw
  refine kg_callVv (n := 0) (As := []) X (c_X6_startAfresh l C Y A I k0 _ hw) kc_6 h2 rfl iv_X6_startAfresh kw_240 (by decide +kernel) (by decide) rfl rfl (Nat.le_of_ble_eq_true rfl) dX6_start_1 (fun I1 hw => ?_)
  exact kg_vret X hr hw dX6_start_4
end
abbrev rm_X4_cubes : Room := { frames := 0, cells := 0, slots := 0, locals := 0 }
section
variable {p : Program} {l : Launch} {e : Env} {s : State} {m : MethodId} {args : Array Value} {below : List Frame} {meth : Method} {c : Code} {C : Cc} {Y : Ly} {A : Nat → Prop}
def w_X4_cubes (Y : Ly) (I : Mm) (k0 : Nat) (post : Int32 → Mm → Prop) : Prop := (ky_is Y k0 4 ∧ post ((1 : Int32) <<< ((I k0 1) &&& 31)) I)
set_option maxHeartbeats 4000000 in
set_option maxRecDepth 100000 in
theorem c_X4_cubes (l : Launch) (C : Cc) (Y : Ly) (A : Nat → Prop) (I : Mm) (k0 : Nat) (post : Int32 → Mm → Prop) (hw : w_X4_cubes Y I k0 post) : ky_MI l yX4_cubes cX4_cubes 1 (some .int) rm_X4_cubes C Y A I [.ref (Y.2.1 k0)] post := by
  refine ky_met (by decide) (Nat.le_of_ble_eq_true rfl) ?_
  intro p e s m args below meth c X hr
  have X : ky_X p s m args meth c C cX4_cubes 1 RX4 := X
  show ky_G p l e rm_X4_cubes s m args below meth c C Y A 1 (MQ below (va_Qi post (ky_B C Y A) A) args s 0 0 A) 0 [(0, .ref (Y.2.1 k0))] [] I
  refine kg_iconst (v := (1 : Int32)) X dX4_cubes_0 (by decide) ?_
  refine kg_aload_n X 0 dX4_cubes_1 rfl rfl ?_
  obtain ⟨h1, hw⟩ := hw
  refine kg_getI (j := 1) X kc_4 h1 (by decide) (by decide) rfl kw_117 dX4_cubes_2 ?_
  refine kg_ishl X dX4_cubes_5 ?_
  exact kg_iret X hr hw dX4_cubes_6
end
abbrev rm_X6_choices : Room := { frames := 1, cells := 0, slots := 0, locals := 20 }
section
variable {p : Program} {l : Launch} {e : Env} {s : State} {m : MethodId} {args : Array Value} {below : List Frame} {meth : Method} {c : Code} {C : Cc} {Y : Ly} {A : Nat → Prop}
def w_X6_choices (Y : Ly) (I : Mm) (k0 : Nat) (k1 : Nat) (v2 : Int32) (post : Int32 → Mm → Prop) : Prop := (ky_is Y k1 1 ∧ (((I k1 2) ≤ v2 → post (1 : Int32) I) ∧ (¬ (I k1 2) ≤ v2 → (ky_is Y k0 6 ∧ (ky_is Y (ky_rp Y k1 1) 10 ∧ (vp_in v2 (ky_ln Y (ky_rp Y k1 1)) ∧ (ky_is Y (ky_rp Y (ky_rp Y k1 1) v2.toNatClampNeg) 2 ∧ (ky_is Y (ky_rp Y k0 0) 12 ∧ (vp_in (I (ky_rp Y (ky_rp Y k1 1) v2.toNatClampNeg) 0) (ky_ln Y (ky_rp Y k0 0)) ∧ (ky_is Y (ky_rp Y (ky_rp Y k0 0) (I (ky_rp Y (ky_rp Y k1 1) v2.toNatClampNeg) 0).toNatClampNeg) 4 ∧ w_X4_cubes Y I (ky_rp Y (ky_rp Y k0 0) (I (ky_rp Y (ky_rp Y k1 1) v2.toNatClampNeg) 0).toNatClampNeg) (fun r9 I8 => post r9 I8)))))))))))
set_option maxHeartbeats 4000000 in
set_option maxRecDepth 100000 in
theorem c_X6_choices (l : Launch) (C : Cc) (Y : Ly) (A : Nat → Prop) (I : Mm) (k0 : Nat) (k1 : Nat) (v2 : Int32) (post : Int32 → Mm → Prop) (hw : w_X6_choices Y I k0 k1 v2 post) : ky_MI l yX6_choices cX6_choices 3 (some .int) rm_X6_choices C Y A I [.ref (Y.2.1 k0), .ref (Y.2.1 k1), .int v2] post := by
  refine ky_met (by decide) (Nat.le_of_ble_eq_true rfl) ?_
  intro p e s m args below meth c X hr
  have X : ky_X p s m args meth c C cX6_choices 3 RX6 := X
  show ky_G p l e rm_X6_choices s m args below meth c C Y A 3 (MQ below (va_Qi post (ky_B C Y A) A) args s 0 0 A) 0 [(0, .ref (Y.2.1 k0)), (1, .ref (Y.2.1 k1)), (2, .int v2)] [] I
  refine kg_iload_n X 2 dX6_choices_0 rfl rfl ?_
  refine kg_aload_n X 1 dX6_choices_1 rfl rfl ?_
  obtain ⟨h1, hw⟩ := hw
  refine kg_getI (j := 2) X kc_1 h1 (by decide) (by decide) rfl kw_184 dX6_choices_2 ?_
  refine kg_icmp_ge (tgt := 28) X dX6_choices_5 (by decide) (fun h11 => ?_) (fun h11 => ?_)
  · have hw := hw.1 h11
    refine kg_iconst (v := (1 : Int32)) X dX6_choices_28 (by decide) ?_
    exact kg_iret X hr hw dX6_choices_29
  · have hw := hw.2 h11
    refine kg_aload_n X 0 dX6_choices_8 rfl rfl ?_
    obtain ⟨h2, hw⟩ := hw
    refine kg_getR (j := 0) X kc_6 h2 (by decide) (by decide) rfl kw_199 dX6_choices_9 ?_
    refine kg_aload_n X 1 dX6_choices_12 rfl rfl ?_
    refine kg_getR (j := 1) X kc_1 h1 (by decide) (by decide) rfl kw_181 dX6_choices_13 ?_
    refine kg_iload_n X 2 dX6_choices_16 rfl rfl ?_
    obtain ⟨h3, hw⟩ := hw
    obtain ⟨h4, hw⟩ := hw
    refine kg_aald (kc := 10) X 2 rfl (by decide) h3 h4 dX6_choices_17 ?_
    obtain ⟨h5, hw⟩ := hw
    refine kg_getI (j := 0) X kc_2 h5 (by decide) (by decide) rfl kw_163 dX6_choices_18 ?_
    obtain ⟨h6, hw⟩ := hw
    obtain ⟨h7, hw⟩ := hw
    refine kg_aald (kc := 12) X 4 rfl (by decide) h6 h7 dX6_choices_21 ?_
    obtain ⟨h10, hw⟩ := hw
    refine kg_callVi (n := 0) (As := []) X (c_X4_cubes l C Y A I (ky_rp Y (ky_rp Y k0 0) (I (ky_rp Y (ky_rp Y k1 1) v2.toNatClampNeg) 0).toNatClampNeg) _ hw) kc_4 h10 rfl iv_X4_cubes kw_264 (by decide +kernel) (by decide) rfl rfl (Nat.le_of_ble_eq_true rfl) dX6_choices_22 (fun r9 I8 hw => ?_)
    refine kg_goto (tgt := 29) X dX6_choices_25 (by decide) ?_
    exact kg_iret X hr hw dX6_choices_29
end
abbrev rm_X0_copyFrom : Room := { frames := 1, cells := 0, slots := 0, locals := 60 }
section
variable {p : Program} {l : Launch} {e : Env} {s : State} {m : MethodId} {args : Array Value} {below : List Frame} {meth : Method} {c : Code} {C : Cc} {Y : Ly} {A : Nat → Prop}
def w_X0_copyFrom (Y : Ly) (I : Mm) (k0 : Nat) (k1 : Nat) (post : Mm → Prop) : Prop := (ky_is Y k1 0 ∧ (ky_is Y k0 0 ∧ ((I k1 1 = 0 ∨ I k1 1 = 1) ∧ (∀ I4 : Mm, I4 = ky_up I k0 1 (I k1 1) → (ky_is Y (ky_rp Y k0 0) 8 ∧ (ky_is Y (ky_rp Y k1 0) 8 ∧ ((0 : Int32).toNatClampNeg + (36 : Int32).toNatClampNeg ≤ ky_ln Y (ky_rp Y k1 0) ∧ ((0 : Int32).toNatClampNeg + (36 : Int32).toNatClampNeg ≤ ky_ln Y (ky_rp Y k0 0) ∧ (∀ I9 : Mm, I9 = ky_cp I4 (ky_rp Y k1 0) (ky_rp Y k0 0) (0 : Int32).toNatClampNeg (0 : Int32).toNatClampNeg (36 : Int32).toNatClampNeg → post I9)))))))))
set_option maxHeartbeats 4000000 in
set_option maxRecDepth 100000 in
theorem c_X0_copyFrom (l : Launch) (C : Cc) (Y : Ly) (A : Nat → Prop) (I : Mm) (k0 : Nat) (k1 : Nat) (post : Mm → Prop) (hw : w_X0_copyFrom Y I k0 k1 post) : ky_MV l yX0_copyFrom cX0_copyFrom 2 rm_X0_copyFrom C Y A I [.ref (Y.2.1 k0), .ref (Y.2.1 k1)] post := by
  refine ky_met (by decide) (Nat.le_of_ble_eq_true rfl) ?_
  intro p e s m args below meth c X hr
  have X : ky_X p s m args meth c C cX0_copyFrom 2 RX0 := X
  show ky_G p l e rm_X0_copyFrom s m args below meth c C Y A 2 (MQ below (va_Qv post (ky_B C Y A) A) args s 0 0 A) 0 [(0, .ref (Y.2.1 k0)), (1, .ref (Y.2.1 k1))] [] I
  refine kg_aload_n X 0 dX0_copyFrom_0 rfl rfl ?_
  refine kg_aload_n X 1 dX0_copyFrom_1 rfl rfl ?_
  obtain ⟨h1, hw⟩ := hw
  refine kg_getI (j := 1) X kc_0 h1 (by decide) (by decide) rfl kw_54 dX0_copyFrom_2 ?_
  obtain ⟨h2, hw⟩ := hw
  obtain ⟨h3, hw⟩ := hw
  refine kg_putI (ci := 0) (Tn := TX0) (j := 1) (ty := .boolean) X tyX0 tyX0_ok nmX0 kc_0 h2 (by decide) (by decide) rfl kw_54 (by decide +kernel) (ky_nb h3).1 (ky_nb h3).2 dX0_copyFrom_5 ?_
  refine kg_topm (fun I4 eI4 => ?_)
  have hw := hw I4 eI4
  refine kg_aload_n X 1 dX0_copyFrom_8 rfl rfl ?_
  refine kg_getR (j := 0) X kc_0 h1 (by decide) (by decide) rfl kw_53 dX0_copyFrom_9 ?_
  refine kg_iconst (v := (0 : Int32)) X dX0_copyFrom_12 (by decide) ?_
  refine kg_aload_n X 0 dX0_copyFrom_13 rfl rfl ?_
  refine kg_getR (j := 0) X kc_0 h2 (by decide) (by decide) rfl kw_53 dX0_copyFrom_14 ?_
  refine kg_iconst (v := (0 : Int32)) X dX0_copyFrom_17 (by decide) ?_
  refine kg_bipush (v := (36 : Int32)) X dX0_copyFrom_18 (by decide) ?_
  obtain ⟨h5, hw⟩ := hw
  obtain ⟨h6, hw⟩ := hw
  obtain ⟨h7, hw⟩ := hw
  obtain ⟨h8, hw⟩ := hw
  refine kg_copy X kw_276 kw_arraycopy h5 h6 (by decide) (by decide) (by decide) h7 h8 (by decide) (by decide) dX0_copyFrom_20 ?_
  refine kg_topm (fun I9 eI9 => ?_)
  have hw := hw I9 eI9
  exact kg_vret X hr hw dX0_copyFrom_23
end
abbrev rm_X6_pointAt : Room := { frames := 0, cells := 0, slots := 0, locals := 0 }
section
variable {p : Program} {l : Launch} {e : Env} {s : State} {m : MethodId} {args : Array Value} {below : List Frame} {meth : Method} {c : Code} {C : Cc} {Y : Ly} {A : Nat → Prop}
def w_X6_pointAt (Y : Ly) (I : Mm) (v0 : Int32) (v1 : Int32) (v2 : Int32) (post : Int32 → Mm → Prop) : Prop := ((¬ v0 = (2 : Int32) → ((¬ v0 = 0 → post v2 I) ∧ (v0 = 0 → post v1 I))) ∧ (v0 = (2 : Int32) → post (5 : Int32) I))
set_option maxHeartbeats 4000000 in
set_option maxRecDepth 100000 in
theorem c_X6_pointAt (l : Launch) (C : Cc) (Y : Ly) (A : Nat → Prop) (I : Mm) (v0 : Int32) (v1 : Int32) (v2 : Int32) (post : Int32 → Mm → Prop) (hw : w_X6_pointAt Y I v0 v1 v2 post) : ky_MI l yX6_pointAt cX6_pointAt 3 (some .int) rm_X6_pointAt C Y A I [.int v0, .int v1, .int v2] post := by
  refine ky_met (by decide) (Nat.le_of_ble_eq_true rfl) ?_
  intro p e s m args below meth c X hr
  have X : ky_X p s m args meth c C cX6_pointAt 3 RX6 := X
  show ky_G p l e rm_X6_pointAt s m args below meth c C Y A 3 (MQ below (va_Qi post (ky_B C Y A) A) args s 0 0 A) 0 [(0, .int v0), (1, .int v1), (2, .int v2)] [] I
  refine kg_iload_n X 0 dX6_pointAt_0 rfl rfl ?_
  refine kg_iconst (v := (2 : Int32)) X dX6_pointAt_1 (by decide) ?_
  refine kg_icmp_ne (tgt := 7) X dX6_pointAt_2 (by decide) (fun h2 => ?_) (fun h2 => ?_)
  · have hw := hw.1 h2
    refine kg_iload_n X 0 dX6_pointAt_7 rfl rfl ?_
    refine kg_if_ne (tgt := 15) X dX6_pointAt_8 (by decide) (fun h1 => ?_) (fun h1 => ?_)
    · have hw := hw.1 h1
      refine kg_iload_n X 2 dX6_pointAt_15 rfl rfl ?_
      exact kg_iret X hr hw dX6_pointAt_16
    · have hw := hw.2 h1
      refine kg_iload_n X 1 dX6_pointAt_11 rfl rfl ?_
      refine kg_goto (tgt := 16) X dX6_pointAt_12 (by decide) ?_
      exact kg_iret X hr hw dX6_pointAt_16
  · have hw := hw.2 h2
    refine kg_iconst (v := (5 : Int32)) X dX6_pointAt_5 (by decide) ?_
    exact kg_iret X hr hw dX6_pointAt_6
end
abbrev rm_X0_add : Room := { frames := 0, cells := 0, slots := 0, locals := 0 }
section
variable {p : Program} {l : Launch} {e : Env} {s : State} {m : MethodId} {args : Array Value} {below : List Frame} {meth : Method} {c : Code} {C : Cc} {Y : Ly} {A : Nat → Prop}
def w_X0_add_L80 (Y : Ly) (post : Mm → Prop) (ex_158 : Nat → Int32 → Int32 → Int32 → Int32 → Mm → Prop) : Nat → Nat → Int32 → Int32 → Int32 → Int32 → Int32 → Int32 → Mm → Prop
  | 0, _, _, _, _, _, _, _, _ => False
  | n80 + 1, k0, v1, v2, v3, v5, v6, v7, I => (((6 : Int32) ≤ v7 → ex_158 k0 v1 v2 v3 v5 I) ∧ (¬ (6 : Int32) ≤ v7 → ((v6 = (1000000000 : Int32) → ex_158 k0 v1 v2 v3 v5 I) ∧ (¬ v6 = (1000000000 : Int32) → (ky_is Y k0 0 ∧ (ky_is Y (ky_rp Y k0 0) 8 ∧ (vp_in ((v2 * (6 : Int32)) + v7) (ky_ln Y (ky_rp Y k0 0)) ∧ (∀ x13 : Int32, x13 = I (ky_rp Y k0 0) ((v2 * (6 : Int32)) + v7).toNatClampNeg → ((x13 = (1000000000 : Int32) → (∀ x14 : Int32, x14 = v7 + (1 : Int32) → w_X0_add_L80 Y post ex_158 n80 k0 v1 v2 v3 v5 v6 x14 I)) ∧ (¬ x13 = (1000000000 : Int32) → (vp_in (v5 + v7) (ky_ln Y (ky_rp Y k0 0)) ∧ (((I (ky_rp Y k0 0) (v5 + v7).toNatClampNeg) ≤ ((v6 + v3) + x13) → (∀ x16 : Int32, x16 = v7 + (1 : Int32) → w_X0_add_L80 Y post ex_158 n80 k0 v1 v2 v3 v5 v6 x16 I)) ∧ (¬ (I (ky_rp Y k0 0) (v5 + v7).toNatClampNeg) ≤ ((v6 + v3) + x13) → (∀ I17 : Mm, I17 = ky_up I (ky_rp Y k0 0) (v5 + v7).toNatClampNeg ((v6 + v3) + x13) → (∀ x18 : Int32, x18 = v7 + (1 : Int32) → w_X0_add_L80 Y post ex_158 n80 k0 v1 v2 v3 v5 v6 x18 I17)))))))))))))))
set_option maxHeartbeats 4000000 in
set_option maxRecDepth 100000 in
theorem s_X0_add_L80 (X : ky_X p s m args meth c C cX0_add 9 RX0) (hr : meth.sig.returnType = none) (post : Mm → Prop) (ex_158 : Nat → Int32 → Int32 → Int32 → Int32 → Mm → Prop) (hx_158 : ∀ (k0 : Nat) (v1 : Int32) (v2 : Int32) (v3 : Int32) (v5 : Int32) (J : Mm), ex_158 k0 v1 v2 v3 v5 J → ky_G p l e rm_X0_add s m args below meth c C Y A 9 (MQ below (va_Qv post (ky_B C Y A) A) args s 0 0 A) 158 [(0, .ref (Y.2.1 k0)), (1, .int v1), (2, .int v2), (3, .int v3), (5, .int v5)] [] J) : ∀ (n80 : Nat) (k0 : Nat) (v1 : Int32) (v2 : Int32) (v3 : Int32) (v5 : Int32) (v6 : Int32) (v7 : Int32) (I : Mm), w_X0_add_L80 Y post ex_158 n80 k0 v1 v2 v3 v5 v6 v7 I → ky_G p l e rm_X0_add s m args below meth c C Y A 9 (MQ below (va_Qv post (ky_B C Y A) A) args s 0 0 A) 80 [(0, .ref (Y.2.1 k0)), (1, .int v1), (2, .int v2), (3, .int v3), (5, .int v5), (6, .int v6), (7, .int v7)] [] I := by
  intro n80
  induction n80 with
  | zero => intro k0 v1 v2 v3 v5 v6 v7 I hw; exact False.elim hw
  | succ n80 ih =>
    intro k0 v1 v2 v3 v5 v6 v7 I hw
    refine kg_iload X 6 dX0_add_80 rfl ?_
    refine kg_bipush (v := (6 : Int32)) X dX0_add_82 (by decide) ?_
    refine kg_icmp_ge (tgt := 158) X dX0_add_84 (by decide) (fun h22 => ?_) (fun h22 => ?_)
    · have hw := hw.1 h22
      refine kg_sub [0, 1, 2, 3, 4] rfl ?_
      exact hx_158 _ _ _ _ _ _  hw
    · have hw := hw.2 h22
      refine kg_iload X 5 dX0_add_87 rfl ?_
      refine kg_ldc (v := (1000000000 : Int32)) X kw_52 dX0_add_89 ?_
      refine kg_icmp_eq (tgt := 158) X dX0_add_91 (by decide) (fun h21 => ?_) (fun h21 => ?_)
      · have hw := hw.1 h21
        refine kg_sub [0, 1, 2, 3, 4] rfl ?_
        exact hx_158 _ _ _ _ _ _  hw
      · have hw := hw.2 h21
        refine kg_aload_n X 0 dX0_add_94 rfl rfl ?_
        obtain ⟨h10, hw⟩ := hw
        refine kg_getR (j := 0) X kc_0 h10 (by decide) (by decide) rfl kw_53 dX0_add_95 ?_
        refine kg_iload_n X 2 dX0_add_98 rfl rfl ?_
        refine kg_bipush (v := (6 : Int32)) X dX0_add_99 (by decide) ?_
        refine kg_imul X dX0_add_101 ?_
        refine kg_iload X 6 dX0_add_102 rfl ?_
        refine kg_iadd X dX0_add_104 ?_
        obtain ⟨h11, hw⟩ := hw
        obtain ⟨h12, hw⟩ := hw
        refine kg_iald X h11 h12 dX0_add_105 ?_
        refine kg_topi (fun x13 ex13 => ?_)
        have hw := hw x13 ex13
        refine kg_istore (lv' := [(8, .int x13), (0, .ref (Y.2.1 k0)), (1, .int v1), (2, .int v2), (3, .int v3), (5, .int v5), (6, .int v6), (7, .int v7)]) X dX0_add_106 (by decide) rfl ?_
        refine kg_iload X 0 dX0_add_108 rfl ?_
        refine kg_ldc (v := (1000000000 : Int32)) X kw_52 dX0_add_110 ?_
        refine kg_icmp_eq (tgt := 152) X dX0_add_112 (by decide) (fun h20 => ?_) (fun h20 => ?_)
        · have hw := hw.1 h20
          refine kg_iinc (dd := (1 : Int32)) (lvf := fun x14 => [(7, .int x14), (8, .int x13), (0, .ref (Y.2.1 k0)), (1, .int v1), (2, .int v2), (3, .int v3), (5, .int v5), (6, .int v6)]) X 7 dX0_add_152 rfl (by decide) (by decide) (fun _ => rfl) (fun x14 ex14 => ?_)
          have hw := hw x14 ex14
          refine kg_goto (tgt := 80) X dX0_add_155 (by decide) ?_
          refine kg_sub [2, 3, 4, 5, 6, 7, 0] rfl ?_
          exact ih _ _ _ _ _ _ _ _  hw
        · have hw := hw.2 h20
          refine kg_iload X 6 dX0_add_115 rfl ?_
          refine kg_iload_n X 4 dX0_add_117 rfl rfl ?_
          refine kg_iadd X dX0_add_118 ?_
          refine kg_iload X 0 dX0_add_119 rfl ?_
          refine kg_iadd X dX0_add_121 ?_
          refine kg_aload_n X 1 dX0_add_122 rfl rfl ?_
          refine kg_getR (j := 0) X kc_0 h10 (by decide) (by decide) rfl kw_53 dX0_add_123 ?_
          refine kg_iload X 5 dX0_add_126 rfl ?_
          refine kg_iload X 7 dX0_add_128 rfl ?_
          refine kg_iadd X dX0_add_130 ?_
          obtain ⟨h15, hw⟩ := hw
          refine kg_iald X h11 h15 dX0_add_131 ?_
          refine kg_icmp_ge (tgt := 152) X dX0_add_132 (by decide) (fun h19 => ?_) (fun h19 => ?_)
          · have hw := hw.1 h19
            refine kg_iinc (dd := (1 : Int32)) (lvf := fun x16 => [(7, .int x16), (8, .int x13), (0, .ref (Y.2.1 k0)), (1, .int v1), (2, .int v2), (3, .int v3), (5, .int v5), (6, .int v6)]) X 7 dX0_add_152 rfl (by decide) (by decide) (fun _ => rfl) (fun x16 ex16 => ?_)
            have hw := hw x16 ex16
            refine kg_goto (tgt := 80) X dX0_add_155 (by decide) ?_
            refine kg_sub [2, 3, 4, 5, 6, 7, 0] rfl ?_
            exact ih _ _ _ _ _ _ _ _  hw
          · have hw := hw.2 h19
            refine kg_aload_n X 1 dX0_add_135 rfl rfl ?_
            refine kg_getR (j := 0) X kc_0 h10 (by decide) (by decide) rfl kw_53 dX0_add_136 ?_
            refine kg_iload X 5 dX0_add_139 rfl ?_
            refine kg_iload X 7 dX0_add_141 rfl ?_
            refine kg_iadd X dX0_add_143 ?_
            refine kg_iload X 6 dX0_add_144 rfl ?_
            refine kg_iload_n X 4 dX0_add_146 rfl rfl ?_
            refine kg_iadd X dX0_add_147 ?_
            refine kg_iload X 0 dX0_add_148 rfl ?_
            refine kg_iadd X dX0_add_150 ?_
            refine kg_iast X h11 h15 dX0_add_151 ?_
            refine kg_topm (fun I17 eI17 => ?_)
            have hw := hw I17 eI17
            refine kg_iinc (dd := (1 : Int32)) (lvf := fun x18 => [(7, .int x18), (8, .int x13), (0, .ref (Y.2.1 k0)), (1, .int v1), (2, .int v2), (3, .int v3), (5, .int v5), (6, .int v6)]) X 7 dX0_add_152 rfl (by decide) (by decide) (fun _ => rfl) (fun x18 ex18 => ?_)
            have hw := hw x18 ex18
            refine kg_goto (tgt := 80) X dX0_add_155 (by decide) ?_
            refine kg_sub [2, 3, 4, 5, 6, 7, 0] rfl ?_
            exact ih _ _ _ _ _ _ _ _  hw
def w_X0_add_L59 (Y : Ly) (post : Mm → Prop) (ex_164 : Mm → Prop) : Nat → Nat → Int32 → Int32 → Int32 → Int32 → Mm → Prop
  | 0, _, _, _, _, _, _ => False
  | n59 + 1, k0, v1, v2, v3, v5, I => (((36 : Int32) ≤ v5 → ex_164 I) ∧ (¬ (36 : Int32) ≤ v5 → (ky_is Y k0 0 ∧ (ky_is Y (ky_rp Y k0 0) 8 ∧ (vp_in (v5 + v1) (ky_ln Y (ky_rp Y k0 0)) ∧ (∀ x9 : Int32, x9 = I (ky_rp Y k0 0) (v5 + v1).toNatClampNeg → (∃ n80 : Nat, w_X0_add_L80 Y post (fun k24 v25 v26 v27 v28 I23 => (∀ x29 : Int32, x29 = v28 + (6 : Int32) → w_X0_add_L59 Y post ex_164 n59 k24 v25 v26 v27 x29 I23)) n80 k0 v1 v2 v3 v5 x9 (0 : Int32) I)))))))
set_option maxHeartbeats 4000000 in
set_option maxRecDepth 100000 in
theorem s_X0_add_L59 (X : ky_X p s m args meth c C cX0_add 9 RX0) (hr : meth.sig.returnType = none) (post : Mm → Prop) (ex_164 : Mm → Prop) (hx_164 : ∀ (J : Mm), ex_164 J → ky_G p l e rm_X0_add s m args below meth c C Y A 9 (MQ below (va_Qv post (ky_B C Y A) A) args s 0 0 A) 164 [] [] J) : ∀ (n59 : Nat) (k0 : Nat) (v1 : Int32) (v2 : Int32) (v3 : Int32) (v5 : Int32) (I : Mm), w_X0_add_L59 Y post ex_164 n59 k0 v1 v2 v3 v5 I → ky_G p l e rm_X0_add s m args below meth c C Y A 9 (MQ below (va_Qv post (ky_B C Y A) A) args s 0 0 A) 59 [(0, .ref (Y.2.1 k0)), (1, .int v1), (2, .int v2), (3, .int v3), (5, .int v5)] [] I := by
  intro n59
  induction n59 with
  | zero => intro k0 v1 v2 v3 v5 I hw; exact False.elim hw
  | succ n59 ih =>
    intro k0 v1 v2 v3 v5 I hw
    refine kg_iload X 4 dX0_add_59 rfl ?_
    refine kg_bipush (v := (36 : Int32)) X dX0_add_61 (by decide) ?_
    refine kg_icmp_ge (tgt := 164) X dX0_add_63 (by decide) (fun h30 => ?_) (fun h30 => ?_)
    · have hw := hw.1 h30
      refine kg_sub [] rfl ?_
      exact hx_164 _  hw
    · have hw := hw.2 h30
      refine kg_aload_n X 0 dX0_add_66 rfl rfl ?_
      obtain ⟨h6, hw⟩ := hw
      refine kg_getR (j := 0) X kc_0 h6 (by decide) (by decide) rfl kw_53 dX0_add_67 ?_
      refine kg_iload X 4 dX0_add_70 rfl ?_
      refine kg_iload_n X 1 dX0_add_72 rfl rfl ?_
      refine kg_iadd X dX0_add_73 ?_
      obtain ⟨h7, hw⟩ := hw
      obtain ⟨h8, hw⟩ := hw
      refine kg_iald X h7 h8 dX0_add_74 ?_
      refine kg_topi (fun x9 ex9 => ?_)
      have hw := hw x9 ex9
      refine kg_istore (lv' := [(6, .int x9), (0, .ref (Y.2.1 k0)), (1, .int v1), (2, .int v2), (3, .int v3), (5, .int v5)]) X dX0_add_75 (by decide) rfl ?_
      refine kg_iconst (v := (0 : Int32)) X dX0_add_77 (by decide) ?_
      refine kg_istore (lv' := [(7, .int (0 : Int32)), (6, .int x9), (0, .ref (Y.2.1 k0)), (1, .int v1), (2, .int v2), (3, .int v3), (5, .int v5)]) X dX0_add_78 (by decide) rfl ?_
      obtain ⟨n80, hw⟩ := hw
      refine kg_sub [2, 3, 4, 5, 6, 1, 0] rfl ?_
      refine s_X0_add_L80 X hr post _ ?_ n80 _ _ _ _ _ _ _ _  hw
      · intro k24 v25 v26 v27 v28 I23 hw
        refine kg_iinc (dd := (6 : Int32)) (lvf := fun x29 => [(5, .int x29), (0, .ref (Y.2.1 k24)), (1, .int v25), (2, .int v26), (3, .int v27)]) X 4 dX0_add_158 rfl (by decide) (by decide) (fun _ => rfl) (fun x29 ex29 => ?_)
        have hw := hw x29 ex29
        refine kg_goto (tgt := 59) X dX0_add_161 (by decide) ?_
        refine kg_sub [1, 2, 3, 4, 0] rfl ?_
        exact ih _ _ _ _ _ _  hw
def w_X0_add (Y : Ly) (I : Mm) (k0 : Nat) (v1 : Int32) (v2 : Int32) (v3 : Int32) (post : Mm → Prop) : Prop := (ky_is Y k0 0 ∧ (((I k0 1) = 0 → post I) ∧ (¬ (I k0 1) = 0 → (ky_is Y (ky_rp Y k0 0) 8 ∧ (vp_in ((v1 * (6 : Int32)) + v2) (ky_ln Y (ky_rp Y k0 0)) ∧ ((v3 < (I (ky_rp Y k0 0) ((v1 * (6 : Int32)) + v2).toNatClampNeg) → (vp_in ((v2 * (6 : Int32)) + v1) (ky_ln Y (ky_rp Y k0 0)) ∧ (∀ x5 : Int32, x5 = I (ky_rp Y k0 0) ((v2 * (6 : Int32)) + v1).toNatClampNeg → ((x5 = (1000000000 : Int32) → (∃ n59 : Nat, w_X0_add_L59 Y post (fun I31 => post I31) n59 k0 v1 v2 v3 (0 : Int32) I)) ∧ (¬ x5 = (1000000000 : Int32) → ((0 ≤ (x5 + v3) → (∃ n59 : Nat, w_X0_add_L59 Y post (fun I32 => post I32) n59 k0 v1 v2 v3 (0 : Int32) I)) ∧ (¬ 0 ≤ (x5 + v3) → (∀ I33 : Mm, I33 = ky_up I k0 1 (0 : Int32) → post I33)))))))) ∧ (¬ v3 < (I (ky_rp Y k0 0) ((v1 * (6 : Int32)) + v2).toNatClampNeg) → post I)))))))
set_option maxHeartbeats 4000000 in
set_option maxRecDepth 100000 in
theorem c_X0_add (l : Launch) (C : Cc) (Y : Ly) (A : Nat → Prop) (I : Mm) (k0 : Nat) (v1 : Int32) (v2 : Int32) (v3 : Int32) (post : Mm → Prop) (hw : w_X0_add Y I k0 v1 v2 v3 post) : ky_MV l yX0_add cX0_add 9 rm_X0_add C Y A I [.ref (Y.2.1 k0), .int v1, .int v2, .int v3] post := by
  refine ky_met (by decide) (Nat.le_of_ble_eq_true rfl) ?_
  intro p e s m args below meth c X hr
  have X : ky_X p s m args meth c C cX0_add 9 RX0 := X
  show ky_G p l e rm_X0_add s m args below meth c C Y A 9 (MQ below (va_Qv post (ky_B C Y A) A) args s 0 0 A) 0 [(0, .ref (Y.2.1 k0)), (1, .int v1), (2, .int v2), (3, .int v3)] [] I
  refine kg_aload_n X 0 dX0_add_0 rfl rfl ?_
  obtain ⟨h1, hw⟩ := hw
  refine kg_getI (j := 1) X kc_0 h1 (by decide) (by decide) rfl kw_54 dX0_add_1 ?_
  refine kg_if_eq (tgt := 22) X dX0_add_4 (by decide) (fun h37 => ?_) (fun h37 => ?_)
  · have hw := hw.1 h37
    exact kg_vret X hr hw dX0_add_22
  · have hw := hw.2 h37
    refine kg_iload_n X 3 dX0_add_7 rfl rfl ?_
    refine kg_aload_n X 0 dX0_add_8 rfl rfl ?_
    refine kg_getR (j := 0) X kc_0 h1 (by decide) (by decide) rfl kw_53 dX0_add_9 ?_
    refine kg_iload_n X 1 dX0_add_12 rfl rfl ?_
    refine kg_bipush (v := (6 : Int32)) X dX0_add_13 (by decide) ?_
    refine kg_imul X dX0_add_15 ?_
    refine kg_iload_n X 2 dX0_add_16 rfl rfl ?_
    refine kg_iadd X dX0_add_17 ?_
    obtain ⟨h2, hw⟩ := hw
    obtain ⟨h3, hw⟩ := hw
    refine kg_iald X h2 h3 dX0_add_18 ?_
    refine kg_icmp_lt (tgt := 23) X dX0_add_19 (by decide) (fun h36 => ?_) (fun h36 => ?_)
    · have hw := hw.1 h36
      refine kg_aload_n X 0 dX0_add_23 rfl rfl ?_
      refine kg_getR (j := 0) X kc_0 h1 (by decide) (by decide) rfl kw_53 dX0_add_24 ?_
      refine kg_iload_n X 2 dX0_add_27 rfl rfl ?_
      refine kg_bipush (v := (6 : Int32)) X dX0_add_28 (by decide) ?_
      refine kg_imul X dX0_add_30 ?_
      refine kg_iload_n X 1 dX0_add_31 rfl rfl ?_
      refine kg_iadd X dX0_add_32 ?_
      obtain ⟨h4, hw⟩ := hw
      refine kg_iald X h2 h4 dX0_add_33 ?_
      refine kg_topi (fun x5 ex5 => ?_)
      have hw := hw x5 ex5
      refine kg_istore (lv' := [(4, .int x5), (0, .ref (Y.2.1 k0)), (1, .int v1), (2, .int v2), (3, .int v3)]) X dX0_add_34 (by decide) rfl ?_
      refine kg_iload X 0 dX0_add_36 rfl ?_
      refine kg_ldc (v := (1000000000 : Int32)) X kw_52 dX0_add_38 ?_
      refine kg_icmp_eq (tgt := 56) X dX0_add_40 (by decide) (fun h35 => ?_) (fun h35 => ?_)
      · have hw := hw.1 h35
        refine kg_iconst (v := (0 : Int32)) X dX0_add_56 (by decide) ?_
        refine kg_istore (lv' := [(5, .int (0 : Int32)), (4, .int x5), (0, .ref (Y.2.1 k0)), (1, .int v1), (2, .int v2), (3, .int v3)]) X dX0_add_57 (by decide) rfl ?_
        obtain ⟨n59, hw⟩ := hw
        refine kg_sub [2, 3, 4, 5, 0] rfl ?_
        refine s_X0_add_L59 X hr post _ ?_ n59 _ _ _ _ _ _  hw
        · intro I31 hw
          exact kg_vret X hr hw dX0_add_164
      · have hw := hw.2 h35
        refine kg_iload X 0 dX0_add_43 rfl ?_
        refine kg_iload_n X 4 dX0_add_45 rfl rfl ?_
        refine kg_iadd X dX0_add_46 ?_
        refine kg_if_ge (tgt := 56) X dX0_add_47 (by decide) (fun h34 => ?_) (fun h34 => ?_)
        · have hw := hw.1 h34
          refine kg_iconst (v := (0 : Int32)) X dX0_add_56 (by decide) ?_
          refine kg_istore (lv' := [(5, .int (0 : Int32)), (4, .int x5), (0, .ref (Y.2.1 k0)), (1, .int v1), (2, .int v2), (3, .int v3)]) X dX0_add_57 (by decide) rfl ?_
          obtain ⟨n59, hw⟩ := hw
          refine kg_sub [2, 3, 4, 5, 0] rfl ?_
          refine s_X0_add_L59 X hr post _ ?_ n59 _ _ _ _ _ _  hw
          · intro I32 hw
            exact kg_vret X hr hw dX0_add_164
        · have hw := hw.2 h34
          refine kg_aload_n X 1 dX0_add_50 rfl rfl ?_
          refine kg_iconst (v := (0 : Int32)) X dX0_add_51 (by decide) ?_
          refine kg_putI (ci := 0) (Tn := TX0) (j := 1) (ty := .boolean) X tyX0 tyX0_ok nmX0 kc_0 h1 (by decide) (by decide) rfl kw_54 (by decide +kernel) (ky_nb (by decide)).1 (ky_nb (by decide)).2 dX0_add_52 ?_
          refine kg_topm (fun I33 eI33 => ?_)
          have hw := hw I33 eI33
          exact kg_vret X hr hw dX0_add_55
    · have hw := hw.2 h36
      exact kg_vret X hr hw dX0_add_22
end
abbrev rm_X4_restrict : Room := { frames := 1, cells := 0, slots := 0, locals := 28 }
section
variable {p : Program} {l : Launch} {e : Env} {s : State} {m : MethodId} {args : Array Value} {below : List Frame} {meth : Method} {c : Code} {C : Cc} {Y : Ly} {A : Nat → Prop}
def w_X4_restrict_L3 (Y : Ly) (post : Mm → Prop) (ex_94 : Mm → Prop) : Nat → Nat → Nat → Int32 → Int32 → Int32 → Int32 → Mm → Prop
  | 0, _, _, _, _, _, _, _ => False
  | n3 + 1, k0, k1, v2, v3, v4, v5, I => (ky_is Y k0 4 ∧ (((I k0 1) ≤ v5 → ex_94 I) ∧ (¬ (I k0 1) ≤ v5 → (ky_is Y (ky_rp Y k0 2) 8 ∧ (vp_in v5 (ky_ln Y (ky_rp Y k0 2)) ∧ w_X6_pointAt Y I (I (ky_rp Y k0 2) v5.toNatClampNeg) v3 v4 (fun r5 I4 => (ky_is Y (ky_rp Y k0 3) 8 ∧ (vp_in v5 (ky_ln Y (ky_rp Y k0 3)) ∧ w_X6_pointAt Y I4 (I4 (ky_rp Y k0 3) v5.toNatClampNeg) v3 v4 (fun r9 I8 => ((¬ ((v2 >>> (v5 &&& 31)) &&& (1 : Int32)) = (1 : Int32) → (ky_is Y (ky_rp Y k0 4) 8 ∧ (vp_in v5 (ky_ln Y (ky_rp Y k0 4)) ∧ (ky_is Y k1 0 ∧ w_X0_add Y I8 k1 r9 r5 ((-(I8 (ky_rp Y k0 4) v5.toNatClampNeg)) - (1 : Int32)) (fun I12 => (∀ x14 : Int32, x14 = v5 + (1 : Int32) → w_X4_restrict_L3 Y post ex_94 n3 k0 k1 v2 v3 v4 x14 I12)))))) ∧ (((v2 >>> (v5 &&& 31)) &&& (1 : Int32)) = (1 : Int32) → (ky_is Y (ky_rp Y k0 4) 8 ∧ (vp_in v5 (ky_ln Y (ky_rp Y k0 4)) ∧ (ky_is Y k1 0 ∧ w_X0_add Y I8 k1 r5 r9 (I8 (ky_rp Y k0 4) v5.toNatClampNeg) (fun I17 => (∀ x19 : Int32, x19 = v5 + (1 : Int32) → w_X4_restrict_L3 Y post ex_94 n3 k0 k1 v2 v3 v4 x19 I17))))))))))))))))
set_option maxHeartbeats 4000000 in
set_option maxRecDepth 100000 in
theorem s_X4_restrict_L3 (X : ky_X p s m args meth c C cX4_restrict 8 RX4) (hr : meth.sig.returnType = none) (post : Mm → Prop) (ex_94 : Mm → Prop) (hx_94 : ∀ (J : Mm), ex_94 J → ky_G p l e rm_X4_restrict s m args below meth c C Y A 8 (MQ below (va_Qv post (ky_B C Y A) A) args s 0 0 A) 94 [] [] J) : ∀ (n3 : Nat) (k0 : Nat) (k1 : Nat) (v2 : Int32) (v3 : Int32) (v4 : Int32) (v5 : Int32) (I : Mm), w_X4_restrict_L3 Y post ex_94 n3 k0 k1 v2 v3 v4 v5 I → ky_G p l e rm_X4_restrict s m args below meth c C Y A 8 (MQ below (va_Qv post (ky_B C Y A) A) args s 0 0 A) 3 [(0, .ref (Y.2.1 k0)), (1, .ref (Y.2.1 k1)), (2, .int v2), (3, .int v3), (4, .int v4), (5, .int v5)] [] I := by
  intro n3
  induction n3 with
  | zero => intro k0 k1 v2 v3 v4 v5 I hw; exact False.elim hw
  | succ n3 ih =>
    intro k0 k1 v2 v3 v4 v5 I hw
    refine kg_iload X 5 dX4_restrict_3 rfl ?_
    refine kg_aload_n X 0 dX4_restrict_5 rfl rfl ?_
    obtain ⟨h1, hw⟩ := hw
    refine kg_getI (j := 1) X kc_4 h1 (by decide) (by decide) rfl kw_117 dX4_restrict_6 ?_
    refine kg_icmp_ge (tgt := 94) X dX4_restrict_9 (by decide) (fun h21 => ?_) (fun h21 => ?_)
    · have hw := hw.1 h21
      refine kg_sub [] rfl ?_
      exact hx_94 _  hw
    · have hw := hw.2 h21
      refine kg_aload_n X 0 dX4_restrict_12 rfl rfl ?_
      refine kg_getR (j := 2) X kc_4 h1 (by decide) (by decide) rfl kw_119 dX4_restrict_13 ?_
      refine kg_iload X 5 dX4_restrict_16 rfl ?_
      obtain ⟨h2, hw⟩ := hw
      obtain ⟨h3, hw⟩ := hw
      refine kg_iald X h2 h3 dX4_restrict_18 ?_
      refine kg_iload_n X 3 dX4_restrict_19 rfl rfl ?_
      refine kg_iload X 4 dX4_restrict_20 rfl ?_
      refine kg_callNi (n := 3) (As := [.int (I (ky_rp Y k0 2) v5.toNatClampNeg), .int v3, .int v4]) (host := RX6) X (c_X6_pointAt l C Y A I (I (ky_rp Y k0 2) v5.toNatClampNeg) v3 v4 _ hw) is_X6_pointAt (fun h9 => h9.2.2) (by decide +kernel) (by decide) rfl rfl (Nat.le_of_ble_eq_true rfl) dX4_restrict_22 (fun r5 I4 hw => ?_)
      refine kg_istore (lv' := [(6, .int r5), (0, .ref (Y.2.1 k0)), (1, .ref (Y.2.1 k1)), (2, .int v2), (3, .int v3), (4, .int v4), (5, .int v5)]) X dX4_restrict_25 (by decide) rfl ?_
      refine kg_aload_n X 1 dX4_restrict_27 rfl rfl ?_
      refine kg_getR (j := 3) X kc_4 h1 (by decide) (by decide) rfl kw_121 dX4_restrict_28 ?_
      refine kg_iload X 6 dX4_restrict_31 rfl ?_
      obtain ⟨h6, hw⟩ := hw
      obtain ⟨h7, hw⟩ := hw
      refine kg_iald X h6 h7 dX4_restrict_33 ?_
      refine kg_iload_n X 4 dX4_restrict_34 rfl rfl ?_
      refine kg_iload X 5 dX4_restrict_35 rfl ?_
      refine kg_callNi (n := 3) (As := [.int (I4 (ky_rp Y k0 3) v5.toNatClampNeg), .int v3, .int v4]) (host := RX6) X (c_X6_pointAt l C Y A I4 (I4 (ky_rp Y k0 3) v5.toNatClampNeg) v3 v4 _ hw) is_X6_pointAt (fun h9 => h9.2.2) (by decide +kernel) (by decide) rfl rfl (Nat.le_of_ble_eq_true rfl) dX4_restrict_37 (fun r9 I8 hw => ?_)
      refine kg_istore (lv' := [(7, .int r9), (6, .int r5), (0, .ref (Y.2.1 k0)), (1, .ref (Y.2.1 k1)), (2, .int v2), (3, .int v3), (4, .int v4), (5, .int v5)]) X dX4_restrict_40 (by decide) rfl ?_
      refine kg_iload_n X 4 dX4_restrict_42 rfl rfl ?_
      refine kg_iload X 7 dX4_restrict_43 rfl ?_
      refine kg_ishr X dX4_restrict_45 ?_
      refine kg_iconst (v := (1 : Int32)) X dX4_restrict_46 (by decide) ?_
      refine kg_iand X dX4_restrict_47 ?_
      refine kg_iconst (v := (1 : Int32)) X dX4_restrict_48 (by decide) ?_
      refine kg_icmp_ne (tgt := 70) X dX4_restrict_49 (by decide) (fun h20 => ?_) (fun h20 => ?_)
      · have hw := hw.1 h20
        refine kg_aload_n X 3 dX4_restrict_70 rfl rfl ?_
        refine kg_iload X 0 dX4_restrict_71 rfl ?_
        refine kg_iload X 1 dX4_restrict_73 rfl ?_
        refine kg_aload_n X 2 dX4_restrict_75 rfl rfl ?_
        refine kg_getR (j := 4) X kc_4 h1 (by decide) (by decide) rfl kw_123 dX4_restrict_76 ?_
        refine kg_iload X 7 dX4_restrict_79 rfl ?_
        obtain ⟨h10, hw⟩ := hw
        obtain ⟨h11, hw⟩ := hw
        refine kg_iald X h10 h11 dX4_restrict_81 ?_
        refine kg_ineg X dX4_restrict_82 ?_
        refine kg_iconst (v := (1 : Int32)) X dX4_restrict_83 (by decide) ?_
        refine kg_isub X dX4_restrict_84 ?_
        obtain ⟨h13, hw⟩ := hw
        refine kg_callVv (n := 3) (As := [.int r9, .int r5, .int ((-(I8 (ky_rp Y k0 4) v5.toNatClampNeg)) - (1 : Int32))]) X (c_X0_add l C Y A I8 k1 r9 r5 ((-(I8 (ky_rp Y k0 4) v5.toNatClampNeg)) - (1 : Int32)) _ hw) kc_0 h13 rfl iv_X0_add kw_286 (by decide +kernel) (by decide) rfl rfl (Nat.le_of_ble_eq_true rfl) dX4_restrict_85 (fun I12 hw => ?_)
        refine kg_iinc (dd := (1 : Int32)) (lvf := fun x14 => [(5, .int x14), (7, .int r9), (6, .int r5), (0, .ref (Y.2.1 k0)), (1, .ref (Y.2.1 k1)), (2, .int v2), (3, .int v3), (4, .int v4)]) X 7 dX4_restrict_88 rfl (by decide) (by decide) (fun _ => rfl) (fun x14 ex14 => ?_)
        have hw := hw x14 ex14
        refine kg_goto (tgt := 3) X dX4_restrict_91 (by decide) ?_
        refine kg_sub [3, 4, 5, 6, 7, 0] rfl ?_
        exact ih _ _ _ _ _ _ _  hw
      · have hw := hw.2 h20
        refine kg_aload_n X 3 dX4_restrict_52 rfl rfl ?_
        refine kg_iload X 1 dX4_restrict_53 rfl ?_
        refine kg_iload X 0 dX4_restrict_55 rfl ?_
        refine kg_aload_n X 2 dX4_restrict_57 rfl rfl ?_
        refine kg_getR (j := 4) X kc_4 h1 (by decide) (by decide) rfl kw_123 dX4_restrict_58 ?_
        refine kg_iload X 7 dX4_restrict_61 rfl ?_
        obtain ⟨h15, hw⟩ := hw
        obtain ⟨h16, hw⟩ := hw
        refine kg_iald X h15 h16 dX4_restrict_63 ?_
        obtain ⟨h18, hw⟩ := hw
        refine kg_callVv (n := 3) (As := [.int r5, .int r9, .int (I8 (ky_rp Y k0 4) v5.toNatClampNeg)]) X (c_X0_add l C Y A I8 k1 r5 r9 (I8 (ky_rp Y k0 4) v5.toNatClampNeg) _ hw) kc_0 h18 rfl iv_X0_add kw_286 (by decide +kernel) (by decide) rfl rfl (Nat.le_of_ble_eq_true rfl) dX4_restrict_64 (fun I17 hw => ?_)
        refine kg_goto (tgt := 88) X dX4_restrict_67 (by decide) ?_
        refine kg_iinc (dd := (1 : Int32)) (lvf := fun x19 => [(5, .int x19), (7, .int r9), (6, .int r5), (0, .ref (Y.2.1 k0)), (1, .ref (Y.2.1 k1)), (2, .int v2), (3, .int v3), (4, .int v4)]) X 7 dX4_restrict_88 rfl (by decide) (by decide) (fun _ => rfl) (fun x19 ex19 => ?_)
        have hw := hw x19 ex19
        refine kg_goto (tgt := 3) X dX4_restrict_91 (by decide) ?_
        refine kg_sub [3, 4, 5, 6, 7, 0] rfl ?_
        exact ih _ _ _ _ _ _ _  hw
def w_X4_restrict (Y : Ly) (I : Mm) (k0 : Nat) (k1 : Nat) (v2 : Int32) (v3 : Int32) (v4 : Int32) (post : Mm → Prop) : Prop := (∃ n3 : Nat, w_X4_restrict_L3 Y post (fun I22 => post I22) n3 k0 k1 v2 v3 v4 (0 : Int32) I)
set_option maxHeartbeats 4000000 in
set_option maxRecDepth 100000 in
theorem c_X4_restrict (l : Launch) (C : Cc) (Y : Ly) (A : Nat → Prop) (I : Mm) (k0 : Nat) (k1 : Nat) (v2 : Int32) (v3 : Int32) (v4 : Int32) (post : Mm → Prop) (hw : w_X4_restrict Y I k0 k1 v2 v3 v4 post) : ky_MV l yX4_restrict cX4_restrict 8 rm_X4_restrict C Y A I [.ref (Y.2.1 k0), .ref (Y.2.1 k1), .int v2, .int v3, .int v4] post := by
  refine ky_met (by decide) (Nat.le_of_ble_eq_true rfl) ?_
  intro p e s m args below meth c X hr
  have X : ky_X p s m args meth c C cX4_restrict 8 RX4 := X
  show ky_G p l e rm_X4_restrict s m args below meth c C Y A 8 (MQ below (va_Qv post (ky_B C Y A) A) args s 0 0 A) 0 [(0, .ref (Y.2.1 k0)), (1, .ref (Y.2.1 k1)), (2, .int v2), (3, .int v3), (4, .int v4)] [] I
  refine kg_iconst (v := (0 : Int32)) X dX4_restrict_0 (by decide) ?_
  refine kg_istore (lv' := [(5, .int (0 : Int32)), (0, .ref (Y.2.1 k0)), (1, .ref (Y.2.1 k1)), (2, .int v2), (3, .int v3), (4, .int v4)]) X dX4_restrict_1 (by decide) rfl ?_
  obtain ⟨n3, hw⟩ := hw
  refine kg_sub [1, 2, 3, 4, 5, 0] rfl ?_
  refine s_X4_restrict_L3 X hr post _ ?_ n3 _ _ _ _ _ _ _  hw
  · intro I22 hw
    exact kg_vret X hr hw dX4_restrict_94
end
abbrev rm_X6_lay : Room := { frames := 2, cells := 0, slots := 0, locals := 81 }
section
variable {p : Program} {l : Launch} {e : Env} {s : State} {m : MethodId} {args : Array Value} {below : List Frame} {meth : Method} {c : Code} {C : Cc} {Y : Ly} {A : Nat → Prop}
def w_X6_lay (Y : Ly) (I : Mm) (k0 : Nat) (k1 : Nat) (k2 : Nat) (k3 : Nat) (v4 : Int32) (v5 : Int32) (post : Int32 → Mm → Prop) : Prop := (ky_is Y k3 1 ∧ ((v4 < (I k3 2) → (ky_is Y (ky_rp Y k3 1) 10 ∧ (vp_in v4 (ky_ln Y (ky_rp Y k3 1)) ∧ (∀ q4 : Nat, q4 = ky_rp Y (ky_rp Y k3 1) v4.toNatClampNeg → (ky_is Y k0 6 ∧ (ky_is Y q4 2 ∧ (ky_is Y (ky_rp Y k0 0) 12 ∧ (vp_in (I q4 0) (ky_ln Y (ky_rp Y k0 0)) ∧ (∀ q9 : Nat, q9 = ky_rp Y (ky_rp Y k0 0) (I q4 0).toNatClampNeg → (ky_is Y q9 4 ∧ (ky_is Y (ky_rp Y q9 5) 8 ∧ (vp_in v5 (ky_ln Y (ky_rp Y q9 5)) ∧ (∀ x13 : Int32, x13 = I (ky_rp Y q9 5) v5.toNatClampNeg → ((x13 = 0 → post (0 : Int32) I) ∧ (¬ x13 = 0 → ((x13 ≤ (I k0 4) → (ky_is Y k1 0 ∧ w_X0_copyFrom Y I k1 k2 (fun I14 => w_X4_restrict Y I14 q9 k1 v5 (I14 q4 1) (I14 q4 2) (fun I16 => ((I16 k1 1 = 0 ∨ I16 k1 1 = 1) ∧ post (I16 k1 1) I16))))) ∧ (¬ x13 ≤ (I k0 4) → post (0 : Int32) I))))))))))))))))) ∧ (¬ v4 < (I k3 2) → (ky_is Y k1 0 ∧ w_X0_copyFrom Y I k1 k2 (fun I20 => ((I20 k1 1 = 0 ∨ I20 k1 1 = 1) ∧ post (I20 k1 1) I20))))))
set_option maxHeartbeats 4000000 in
set_option maxRecDepth 100000 in
theorem c_X6_lay (l : Launch) (C : Cc) (Y : Ly) (A : Nat → Prop) (I : Mm) (k0 : Nat) (k1 : Nat) (k2 : Nat) (k3 : Nat) (v4 : Int32) (v5 : Int32) (post : Int32 → Mm → Prop) (hw : w_X6_lay Y I k0 k1 k2 k3 v4 v5 post) : ky_MI l yX6_lay cX6_lay 9 (some .boolean) rm_X6_lay C Y A I [.ref (Y.2.1 k0), .ref (Y.2.1 k1), .ref (Y.2.1 k2), .ref (Y.2.1 k3), .int v4, .int v5] post := by
  refine ky_met (by decide) (Nat.le_of_ble_eq_true rfl) ?_
  intro p e s m args below meth c X hr
  have X : ky_X p s m args meth c C cX6_lay 9 RX6 := X
  show ky_G p l e rm_X6_lay s m args below meth c C Y A 9 (MQ below (va_Qi post (ky_B C Y A) A) args s 0 0 A) 0 [(0, .ref (Y.2.1 k0)), (1, .ref (Y.2.1 k1)), (2, .ref (Y.2.1 k2)), (3, .ref (Y.2.1 k3)), (4, .int v4), (5, .int v5)] [] I
  refine kg_iload X 4 dX6_lay_0 rfl ?_
  refine kg_aload_n X 3 dX6_lay_2 rfl rfl ?_
  obtain ⟨h1, hw⟩ := hw
  refine kg_getI (j := 2) X kc_1 h1 (by decide) (by decide) rfl kw_184 dX6_lay_3 ?_
  refine kg_icmp_lt (tgt := 19) X dX6_lay_6 (by decide) (fun h23 => ?_) (fun h23 => ?_)
  · have hw := hw.1 h23
    refine kg_aload_n X 3 dX6_lay_19 rfl rfl ?_
    refine kg_getR (j := 1) X kc_1 h1 (by decide) (by decide) rfl kw_181 dX6_lay_20 ?_
    refine kg_iload X 4 dX6_lay_23 rfl ?_
    obtain ⟨h2, hw⟩ := hw
    obtain ⟨h3, hw⟩ := hw
    refine kg_aald (kc := 10) X 2 rfl (by decide) h2 h3 dX6_lay_25 ?_
    refine kg_topr (fun q4 eq4 => ?_)
    have hw := hw q4 eq4
    refine kg_astore (lv' := [(6, .ref (Y.2.1 q4)), (0, .ref (Y.2.1 k0)), (1, .ref (Y.2.1 k1)), (2, .ref (Y.2.1 k2)), (3, .ref (Y.2.1 k3)), (4, .int v4), (5, .int v5)]) X dX6_lay_26 (by decide) rfl ?_
    refine kg_aload_n X 1 dX6_lay_28 rfl rfl ?_
    obtain ⟨h5, hw⟩ := hw
    refine kg_getR (j := 0) X kc_6 h5 (by decide) (by decide) rfl kw_199 dX6_lay_29 ?_
    refine kg_aload X 0 dX6_lay_32 rfl ?_
    obtain ⟨h6, hw⟩ := hw
    refine kg_getI (j := 0) X kc_2 h6 (by decide) (by decide) rfl kw_163 dX6_lay_34 ?_
    obtain ⟨h7, hw⟩ := hw
    obtain ⟨h8, hw⟩ := hw
    refine kg_aald (kc := 12) X 4 rfl (by decide) h7 h8 dX6_lay_37 ?_
    refine kg_topr (fun q9 eq9 => ?_)
    have hw := hw q9 eq9
    refine kg_astore (lv' := [(7, .ref (Y.2.1 q9)), (6, .ref (Y.2.1 q4)), (0, .ref (Y.2.1 k0)), (1, .ref (Y.2.1 k1)), (2, .ref (Y.2.1 k2)), (3, .ref (Y.2.1 k3)), (4, .int v4), (5, .int v5)]) X dX6_lay_38 (by decide) rfl ?_
    refine kg_aload X 0 dX6_lay_40 rfl ?_
    obtain ⟨h10, hw⟩ := hw
    refine kg_getR (j := 5) X kc_4 h10 (by decide) (by decide) rfl kw_126 dX6_lay_42 ?_
    refine kg_iload X 7 dX6_lay_45 rfl ?_
    obtain ⟨h11, hw⟩ := hw
    obtain ⟨h12, hw⟩ := hw
    refine kg_iald X h11 h12 dX6_lay_47 ?_
    refine kg_topi (fun x13 ex13 => ?_)
    have hw := hw x13 ex13
    refine kg_istore (lv' := [(8, .int x13), (7, .ref (Y.2.1 q9)), (6, .ref (Y.2.1 q4)), (0, .ref (Y.2.1 k0)), (1, .ref (Y.2.1 k1)), (2, .ref (Y.2.1 k2)), (3, .ref (Y.2.1 k3)), (4, .int v4), (5, .int v5)]) X dX6_lay_48 (by decide) rfl ?_
    refine kg_iload X 0 dX6_lay_50 rfl ?_
    refine kg_if_eq (tgt := 64) X dX6_lay_52 (by decide) (fun h19 => ?_) (fun h19 => ?_)
    · have hw := hw.1 h19
      refine kg_iconst (v := (0 : Int32)) X dX6_lay_64 (by decide) ?_
      exact kg_zret X hr (by decide) hw dX6_lay_65
    · have hw := hw.2 h19
      refine kg_iload X 0 dX6_lay_55 rfl ?_
      refine kg_aload_n X 3 dX6_lay_57 rfl rfl ?_
      refine kg_getI (j := 4) X kc_6 h5 (by decide) (by decide) rfl kw_203 dX6_lay_58 ?_
      refine kg_icmp_le (tgt := 66) X dX6_lay_61 (by decide) (fun h18 => ?_) (fun h18 => ?_)
      · have hw := hw.1 h18
        refine kg_aload_n X 4 dX6_lay_66 rfl rfl ?_
        refine kg_aload_n X 5 dX6_lay_67 rfl rfl ?_
        obtain ⟨h15, hw⟩ := hw
        refine kg_callVv (n := 1) (As := [.ref (Y.2.1 k2)]) X (c_X0_copyFrom l C Y A I k1 k2 _ hw) kc_0 h15 rfl iv_X0_copyFrom kw_272 (by decide +kernel) (by decide) rfl rfl (Nat.le_of_ble_eq_true rfl) dX6_lay_68 (fun I14 hw => ?_)
        refine kg_aload X 1 dX6_lay_71 rfl ?_
        refine kg_aload_n X 4 dX6_lay_73 rfl rfl ?_
        refine kg_iload X 8 dX6_lay_74 rfl ?_
        refine kg_aload X 2 dX6_lay_76 rfl ?_
        refine kg_getI (j := 1) X kc_2 h6 (by decide) (by decide) rfl kw_165 dX6_lay_78 ?_
        refine kg_aload X 2 dX6_lay_81 rfl ?_
        refine kg_getI (j := 2) X kc_2 h6 (by decide) (by decide) rfl kw_167 dX6_lay_83 ?_
        refine kg_callVv (n := 4) (As := [.ref (Y.2.1 k1), .int v5, .int (I14 q4 1), .int (I14 q4 2)]) X (c_X4_restrict l C Y A I14 q9 k1 v5 (I14 q4 1) (I14 q4 2) _ hw) kc_4 h10 rfl iv_X4_restrict kw_279 (by decide +kernel) (by decide) rfl rfl (Nat.le_of_ble_eq_true rfl) dX6_lay_86 (fun I16 hw => ?_)
        refine kg_aload_n X 4 dX6_lay_89 rfl rfl ?_
        refine kg_getI (j := 1) X kc_0 h15 (by decide) (by decide) rfl kw_55 dX6_lay_90 ?_
        obtain ⟨h17, hw⟩ := hw
        exact kg_zret X hr h17 hw dX6_lay_93
      · have hw := hw.2 h18
        refine kg_iconst (v := (0 : Int32)) X dX6_lay_64 (by decide) ?_
        exact kg_zret X hr (by decide) hw dX6_lay_65
  · have hw := hw.2 h23
    refine kg_aload_n X 1 dX6_lay_9 rfl rfl ?_
    refine kg_aload_n X 2 dX6_lay_10 rfl rfl ?_
    obtain ⟨h21, hw⟩ := hw
    refine kg_callVv (n := 1) (As := [.ref (Y.2.1 k2)]) X (c_X0_copyFrom l C Y A I k1 k2 _ hw) kc_0 h21 rfl iv_X0_copyFrom kw_272 (by decide +kernel) (by decide) rfl rfl (Nat.le_of_ble_eq_true rfl) dX6_lay_11 (fun I20 hw => ?_)
    refine kg_aload_n X 1 dX6_lay_14 rfl rfl ?_
    refine kg_getI (j := 1) X kc_0 h21 (by decide) (by decide) rfl kw_55 dX6_lay_15 ?_
    obtain ⟨h22, hw⟩ := hw
    exact kg_zret X hr h22 hw dX6_lay_18
end
abbrev rm_X6_nextPremises : Room := { frames := 3, cells := 0, slots := 0, locals := 109 }
section
variable {p : Program} {l : Launch} {e : Env} {s : State} {m : MethodId} {args : Array Value} {below : List Frame} {meth : Method} {c : Code} {C : Cc} {Y : Ly} {A : Nat → Prop}
def w_X6_nextPremises_L52 (Y : Ly) (post : Int32 → Mm → Prop) (ex_78 : Int32 → Int32 → Mm → Prop) (ex_93 : Nat → Nat → Int32 → Int32 → Int32 → Mm → Prop) : Nat → Nat → Nat → Int32 → Int32 → Int32 → Int32 → Mm → Prop
  | 0, _, _, _, _, _, _, _ => False
  | n52 + 1, k0, k1, v3, v4, v5, v6, I => ((v4 ≤ v5 → ex_93 k0 k1 v3 v4 v6 I) ∧ (¬ v4 ≤ v5 → (ky_is Y k0 6 ∧ w_X6_lay Y I k0 (ky_rp Y k0 10) (ky_rp Y k0 9) k1 (1 : Int32) v5 (fun r15 I14 => ((r15 = 0 → (∀ x16 : Int32, x16 = v5 + (1 : Int32) → w_X6_nextPremises_L52 Y post ex_78 ex_93 n52 k0 k1 v3 v4 x16 v6 I14)) ∧ (¬ r15 = 0 → ex_78 v5 v6 I14))))))
set_option maxHeartbeats 4000000 in
set_option maxRecDepth 100000 in
theorem s_X6_nextPremises_L52 (X : ky_X p s m args meth c C cX6_nextPremises 7 RX6) (hr : meth.sig.returnType = some .int) (post : Int32 → Mm → Prop) (ex_78 : Int32 → Int32 → Mm → Prop) (ex_93 : Nat → Nat → Int32 → Int32 → Int32 → Mm → Prop) (hx_78 : ∀ (v5 : Int32) (v6 : Int32) (J : Mm), ex_78 v5 v6 J → ky_G p l e rm_X6_nextPremises s m args below meth c C Y A 7 (MQ below (va_Qi post (ky_B C Y A) A) args s 0 0 A) 78 [(5, .int v5), (6, .int v6)] [] J) (hx_93 : ∀ (k0 : Nat) (k1 : Nat) (v3 : Int32) (v4 : Int32) (v6 : Int32) (J : Mm), ex_93 k0 k1 v3 v4 v6 J → ky_G p l e rm_X6_nextPremises s m args below meth c C Y A 7 (MQ below (va_Qi post (ky_B C Y A) A) args s 0 0 A) 93 [(0, .ref (Y.2.1 k0)), (1, .ref (Y.2.1 k1)), (3, .int v3), (4, .int v4), (6, .int v6)] [] J) : ∀ (n52 : Nat) (k0 : Nat) (k1 : Nat) (v3 : Int32) (v4 : Int32) (v5 : Int32) (v6 : Int32) (I : Mm), w_X6_nextPremises_L52 Y post ex_78 ex_93 n52 k0 k1 v3 v4 v5 v6 I → ky_G p l e rm_X6_nextPremises s m args below meth c C Y A 7 (MQ below (va_Qi post (ky_B C Y A) A) args s 0 0 A) 52 [(0, .ref (Y.2.1 k0)), (1, .ref (Y.2.1 k1)), (3, .int v3), (4, .int v4), (5, .int v5), (6, .int v6)] [] I := by
  intro n52
  induction n52 with
  | zero => intro k0 k1 v3 v4 v5 v6 I hw; exact False.elim hw
  | succ n52 ih =>
    intro k0 k1 v3 v4 v5 v6 I hw
    refine kg_iload X 4 dX6_nextPremises_52 rfl ?_
    refine kg_iload X 3 dX6_nextPremises_54 rfl ?_
    refine kg_icmp_ge (tgt := 93) X dX6_nextPremises_56 (by decide) (fun h18 => ?_) (fun h18 => ?_)
    · have hw := hw.1 h18
      refine kg_sub [0, 1, 2, 3, 5] rfl ?_
      exact hx_93 _ _ _ _ _ _  hw
    · have hw := hw.2 h18
      refine kg_aload_n X 0 dX6_nextPremises_59 rfl rfl ?_
      refine kg_aload_n X 0 dX6_nextPremises_60 rfl rfl ?_
      obtain ⟨h13, hw⟩ := hw
      refine kg_getR (j := 10) X kc_6 h13 (by decide) (by decide) rfl kw_209 dX6_nextPremises_61 ?_
      refine kg_aload_n X 0 dX6_nextPremises_64 rfl rfl ?_
      refine kg_getR (j := 9) X kc_6 h13 (by decide) (by decide) rfl kw_208 dX6_nextPremises_65 ?_
      refine kg_aload_n X 1 dX6_nextPremises_68 rfl rfl ?_
      refine kg_iconst (v := (1 : Int32)) X dX6_nextPremises_69 (by decide) ?_
      refine kg_iload X 4 dX6_nextPremises_70 rfl ?_
      refine kg_callVi (n := 5) (As := [.ref (Y.2.1 (ky_rp Y k0 10)), .ref (Y.2.1 (ky_rp Y k0 9)), .ref (Y.2.1 k1), .int (1 : Int32), .int v5]) X (c_X6_lay l C Y A I k0 (ky_rp Y k0 10) (ky_rp Y k0 9) k1 (1 : Int32) v5 _ hw) kc_6 h13 rfl iv_X6_lay kw_268 (by decide +kernel) (by decide) rfl rfl (Nat.le_of_ble_eq_true rfl) dX6_nextPremises_72 (fun r15 I14 hw => ?_)
      refine kg_if_eq (tgt := 87) X dX6_nextPremises_75 (by decide) (fun h17 => ?_) (fun h17 => ?_)
      · have hw := hw.1 h17
        refine kg_iinc (dd := (1 : Int32)) (lvf := fun x16 => [(5, .int x16), (0, .ref (Y.2.1 k0)), (1, .ref (Y.2.1 k1)), (3, .int v3), (4, .int v4), (6, .int v6)]) X 4 dX6_nextPremises_87 rfl (by decide) (by decide) (fun _ => rfl) (fun x16 ex16 => ?_)
        have hw := hw x16 ex16
        refine kg_goto (tgt := 52) X dX6_nextPremises_90 (by decide) ?_
        refine kg_sub [1, 2, 3, 4, 0, 5] rfl ?_
        exact ih _ _ _ _ _ _ _  hw
      · have hw := hw.2 h17
        refine kg_sub [4, 5] rfl ?_
        exact hx_78 _ _ _  hw
def w_X6_nextPremises_L27 (Y : Ly) (post : Int32 → Mm → Prop) (ex_78 : Int32 → Int32 → Mm → Prop) (ex_102 : Mm → Prop) : Nat → Nat → Nat → Int32 → Int32 → Int32 → Int32 → Mm → Prop
  | 0, _, _, _, _, _, _, _ => False
  | n27 + 1, k0, k1, v3, v4, v5, v6, I => ((v3 ≤ v6 → ex_102 I) ∧ (¬ v3 ≤ v6 → (ky_is Y k0 6 ∧ (ky_is Y k1 1 ∧ w_X6_lay Y I k0 (ky_rp Y k0 9) (ky_rp Y k1 3) k1 (0 : Int32) v6 (fun r11 I10 => ((r11 = 0 → (∀ x12 : Int32, x12 = v6 + (1 : Int32) → w_X6_nextPremises_L27 Y post ex_78 ex_102 n27 k0 k1 v3 v4 (0 : Int32) x12 I10)) ∧ (¬ r11 = 0 → (∃ n52 : Nat, w_X6_nextPremises_L52 Y post (fun v20 v21 I19 => ex_78 v20 v21 I19) (fun k23 k24 v25 v26 v27 I22 => (∀ x28 : Int32, x28 = v27 + (1 : Int32) → w_X6_nextPremises_L27 Y post ex_78 ex_102 n27 k23 k24 v25 v26 (0 : Int32) x28 I22)) n52 k0 k1 v3 v4 v5 v6 I10))))))))
set_option maxHeartbeats 4000000 in
set_option maxRecDepth 100000 in
theorem s_X6_nextPremises_L27 (X : ky_X p s m args meth c C cX6_nextPremises 7 RX6) (hr : meth.sig.returnType = some .int) (post : Int32 → Mm → Prop) (ex_78 : Int32 → Int32 → Mm → Prop) (ex_102 : Mm → Prop) (hx_78 : ∀ (v5 : Int32) (v6 : Int32) (J : Mm), ex_78 v5 v6 J → ky_G p l e rm_X6_nextPremises s m args below meth c C Y A 7 (MQ below (va_Qi post (ky_B C Y A) A) args s 0 0 A) 78 [(5, .int v5), (6, .int v6)] [] J) (hx_102 : ∀ (J : Mm), ex_102 J → ky_G p l e rm_X6_nextPremises s m args below meth c C Y A 7 (MQ below (va_Qi post (ky_B C Y A) A) args s 0 0 A) 102 [] [] J) : ∀ (n27 : Nat) (k0 : Nat) (k1 : Nat) (v3 : Int32) (v4 : Int32) (v5 : Int32) (v6 : Int32) (I : Mm), w_X6_nextPremises_L27 Y post ex_78 ex_102 n27 k0 k1 v3 v4 v5 v6 I → ky_G p l e rm_X6_nextPremises s m args below meth c C Y A 7 (MQ below (va_Qi post (ky_B C Y A) A) args s 0 0 A) 27 [(0, .ref (Y.2.1 k0)), (1, .ref (Y.2.1 k1)), (3, .int v3), (4, .int v4), (5, .int v5), (6, .int v6)] [] I := by
  intro n27
  induction n27 with
  | zero => intro k0 k1 v3 v4 v5 v6 I hw; exact False.elim hw
  | succ n27 ih =>
    intro k0 k1 v3 v4 v5 v6 I hw
    refine kg_iload X 5 dX6_nextPremises_27 rfl ?_
    refine kg_iload_n X 2 dX6_nextPremises_29 rfl rfl ?_
    refine kg_icmp_ge (tgt := 102) X dX6_nextPremises_30 (by decide) (fun h30 => ?_) (fun h30 => ?_)
    · have hw := hw.1 h30
      refine kg_sub [] rfl ?_
      exact hx_102 _  hw
    · have hw := hw.2 h30
      refine kg_aload_n X 0 dX6_nextPremises_33 rfl rfl ?_
      refine kg_aload_n X 0 dX6_nextPremises_34 rfl rfl ?_
      obtain ⟨h8, hw⟩ := hw
      refine kg_getR (j := 9) X kc_6 h8 (by decide) (by decide) rfl kw_208 dX6_nextPremises_35 ?_
      refine kg_aload_n X 1 dX6_nextPremises_38 rfl rfl ?_
      obtain ⟨h9, hw⟩ := hw
      refine kg_getR (j := 3) X kc_1 h9 (by decide) (by decide) rfl kw_186 dX6_nextPremises_39 ?_
      refine kg_aload_n X 1 dX6_nextPremises_42 rfl rfl ?_
      refine kg_iconst (v := (0 : Int32)) X dX6_nextPremises_43 (by decide) ?_
      refine kg_iload X 5 dX6_nextPremises_44 rfl ?_
      refine kg_callVi (n := 5) (As := [.ref (Y.2.1 (ky_rp Y k0 9)), .ref (Y.2.1 (ky_rp Y k1 3)), .ref (Y.2.1 k1), .int (0 : Int32), .int v6]) X (c_X6_lay l C Y A I k0 (ky_rp Y k0 9) (ky_rp Y k1 3) k1 (0 : Int32) v6 _ hw) kc_6 h8 rfl iv_X6_lay kw_268 (by decide +kernel) (by decide) rfl rfl (Nat.le_of_ble_eq_true rfl) dX6_nextPremises_46 (fun r11 I10 hw => ?_)
      refine kg_if_eq (tgt := 93) X dX6_nextPremises_49 (by decide) (fun h29 => ?_) (fun h29 => ?_)
      · have hw := hw.1 h29
        refine kg_iconst (v := (0 : Int32)) X dX6_nextPremises_93 (by decide) ?_
        refine kg_istore (lv' := [(5, .int (0 : Int32)), (0, .ref (Y.2.1 k0)), (1, .ref (Y.2.1 k1)), (3, .int v3), (4, .int v4), (6, .int v6)]) X dX6_nextPremises_94 (by decide) rfl ?_
        refine kg_iinc (dd := (1 : Int32)) (lvf := fun x12 => [(6, .int x12), (5, .int (0 : Int32)), (0, .ref (Y.2.1 k0)), (1, .ref (Y.2.1 k1)), (3, .int v3), (4, .int v4)]) X 5 dX6_nextPremises_96 rfl (by decide) (by decide) (fun _ => rfl) (fun x12 ex12 => ?_)
        have hw := hw x12 ex12
        refine kg_goto (tgt := 27) X dX6_nextPremises_99 (by decide) ?_
        refine kg_sub [2, 3, 4, 5, 1, 0] rfl ?_
        exact ih _ _ _ _ _ _ _  hw
      · have hw := hw.2 h29
        obtain ⟨n52, hw⟩ := hw
        refine kg_sub [0, 1, 2, 3, 4, 5] rfl ?_
        refine s_X6_nextPremises_L52 X hr post _ _ ?_ ?_ n52 _ _ _ _ _ _ _  hw
        · intro v20 v21 I19 hw
          refine kg_sub [0, 1] rfl ?_
          exact hx_78 _ _ _  hw
        · intro k23 k24 v25 v26 v27 I22 hw
          refine kg_iconst (v := (0 : Int32)) X dX6_nextPremises_93 (by decide) ?_
          refine kg_istore (lv' := [(5, .int (0 : Int32)), (0, .ref (Y.2.1 k23)), (1, .ref (Y.2.1 k24)), (3, .int v25), (4, .int v26), (6, .int v27)]) X dX6_nextPremises_94 (by decide) rfl ?_
          refine kg_iinc (dd := (1 : Int32)) (lvf := fun x28 => [(6, .int x28), (5, .int (0 : Int32)), (0, .ref (Y.2.1 k23)), (1, .ref (Y.2.1 k24)), (3, .int v25), (4, .int v26)]) X 5 dX6_nextPremises_96 rfl (by decide) (by decide) (fun _ => rfl) (fun x28 ex28 => ?_)
          have hw := hw x28 ex28
          refine kg_goto (tgt := 27) X dX6_nextPremises_99 (by decide) ?_
          refine kg_sub [2, 3, 4, 5, 1, 0] rfl ?_
          exact ih _ _ _ _ _ _ _  hw
def w_X6_nextPremises (Y : Ly) (I : Mm) (k0 : Nat) (k1 : Nat) (v2 : Int32) (post : Int32 → Mm → Prop) : Prop := (ky_is Y k0 6 ∧ w_X6_choices Y I k0 k1 (0 : Int32) (fun r2 I1 => w_X6_choices Y I1 k0 k1 (1 : Int32) (fun r5 I4 => (∀ x6 : Int32, x6 = v2 - v2 / (16 : Int32) * (16 : Int32) → (∀ x7 : Int32, x7 = v2 / (16 : Int32) → (∃ n27 : Nat, w_X6_nextPremises_L27 Y post (fun v32 v33 I31 => post ((v33 * (16 : Int32)) + v32) I31) (fun I34 => post (256 : Int32) I34) n27 k0 k1 r2 r5 x6 x7 I4))))))
set_option maxHeartbeats 4000000 in
set_option maxRecDepth 100000 in
theorem c_X6_nextPremises (l : Launch) (C : Cc) (Y : Ly) (A : Nat → Prop) (I : Mm) (k0 : Nat) (k1 : Nat) (v2 : Int32) (post : Int32 → Mm → Prop) (hw : w_X6_nextPremises Y I k0 k1 v2 post) : ky_MI l yX6_nextPremises cX6_nextPremises 7 (some .int) rm_X6_nextPremises C Y A I [.ref (Y.2.1 k0), .ref (Y.2.1 k1), .int v2] post := by
  refine ky_met (by decide) (Nat.le_of_ble_eq_true rfl) ?_
  intro p e s m args below meth c X hr
  have X : ky_X p s m args meth c C cX6_nextPremises 7 RX6 := X
  show ky_G p l e rm_X6_nextPremises s m args below meth c C Y A 7 (MQ below (va_Qi post (ky_B C Y A) A) args s 0 0 A) 0 [(0, .ref (Y.2.1 k0)), (1, .ref (Y.2.1 k1)), (2, .int v2)] [] I
  refine kg_aload_n X 0 dX6_nextPremises_0 rfl rfl ?_
  refine kg_aload_n X 1 dX6_nextPremises_1 rfl rfl ?_
  refine kg_iconst (v := (0 : Int32)) X dX6_nextPremises_2 (by decide) ?_
  obtain ⟨h3, hw⟩ := hw
  refine kg_callVi (n := 2) (As := [.ref (Y.2.1 k1), .int (0 : Int32)]) X (c_X6_choices l C Y A I k0 k1 (0 : Int32) _ hw) kc_6 h3 rfl iv_X6_choices kw_260 (by decide +kernel) (by decide) rfl rfl (Nat.le_of_ble_eq_true rfl) dX6_nextPremises_3 (fun r2 I1 hw => ?_)
  refine kg_istore_n (lv' := [(3, .int r2), (0, .ref (Y.2.1 k0)), (1, .ref (Y.2.1 k1)), (2, .int v2)]) X dX6_nextPremises_6 rfl (by decide) rfl ?_
  refine kg_aload_n X 1 dX6_nextPremises_7 rfl rfl ?_
  refine kg_aload_n X 2 dX6_nextPremises_8 rfl rfl ?_
  refine kg_iconst (v := (1 : Int32)) X dX6_nextPremises_9 (by decide) ?_
  refine kg_callVi (n := 2) (As := [.ref (Y.2.1 k1), .int (1 : Int32)]) X (c_X6_choices l C Y A I1 k0 k1 (1 : Int32) _ hw) kc_6 h3 rfl iv_X6_choices kw_260 (by decide +kernel) (by decide) rfl rfl (Nat.le_of_ble_eq_true rfl) dX6_nextPremises_10 (fun r5 I4 hw => ?_)
  refine kg_istore (lv' := [(4, .int r5), (3, .int r2), (0, .ref (Y.2.1 k0)), (1, .ref (Y.2.1 k1)), (2, .int v2)]) X dX6_nextPremises_13 (by decide) rfl ?_
  refine kg_iload_n X 4 dX6_nextPremises_15 rfl rfl ?_
  refine kg_bipush (v := (16 : Int32)) X dX6_nextPremises_16 (by decide) ?_
  refine kg_irem X dX6_nextPremises_18 (by decide) ?_
  refine kg_topi (fun x6 ex6 => ?_)
  have hw := hw x6 ex6
  refine kg_istore (lv' := [(5, .int x6), (4, .int r5), (3, .int r2), (0, .ref (Y.2.1 k0)), (1, .ref (Y.2.1 k1)), (2, .int v2)]) X dX6_nextPremises_19 (by decide) rfl ?_
  refine kg_iload_n X 5 dX6_nextPremises_21 rfl rfl ?_
  refine kg_bipush (v := (16 : Int32)) X dX6_nextPremises_22 (by decide) ?_
  refine kg_idiv X dX6_nextPremises_24 (by decide) ?_
  refine kg_topi (fun x7 ex7 => ?_)
  have hw := hw x7 ex7
  refine kg_istore (lv' := [(6, .int x7), (5, .int x6), (4, .int r5), (3, .int r2), (0, .ref (Y.2.1 k0)), (1, .ref (Y.2.1 k1)), (2, .int v2)]) X dX6_nextPremises_25 (by decide) rfl ?_
  obtain ⟨n27, hw⟩ := hw
  refine kg_sub [4, 5, 3, 2, 1, 0] rfl ?_
  refine s_X6_nextPremises_L27 X hr post _ _ ?_ ?_ n27 _ _ _ _ _ _ _  hw
  · intro v32 v33 I31 hw
    refine kg_iload X 1 dX6_nextPremises_78 rfl ?_
    refine kg_bipush (v := (16 : Int32)) X dX6_nextPremises_80 (by decide) ?_
    refine kg_imul X dX6_nextPremises_82 ?_
    refine kg_iload X 0 dX6_nextPremises_83 rfl ?_
    refine kg_iadd X dX6_nextPremises_85 ?_
    exact kg_iret X hr hw dX6_nextPremises_86
  · intro I34 hw
    refine kg_sipush (v := (256 : Int32)) X dX6_nextPremises_102 (by decide) ?_
    exact kg_iret X hr hw dX6_nextPremises_105
end
abbrev rm_X6_isMissing : Room := { frames := 2, cells := 0, slots := 0, locals := 81 }
section
variable {p : Program} {l : Launch} {e : Env} {s : State} {m : MethodId} {args : Array Value} {below : List Frame} {meth : Method} {c : Code} {C : Cc} {Y : Ly} {A : Nat → Prop}
def w_X6_isMissing (Y : Ly) (I : Mm) (k0 : Nat) (k1 : Nat) (v2 : Int32) (post : Int32 → Mm → Prop) : Prop := (ky_is Y k0 6 ∧ (ky_is Y k1 2 ∧ (ky_is Y (ky_rp Y k0 0) 12 ∧ (vp_in (I k1 0) (ky_ln Y (ky_rp Y k0 0)) ∧ (∀ q5 : Nat, q5 = ky_rp Y (ky_rp Y k0 0) (I k1 0).toNatClampNeg → (ky_is Y q5 4 ∧ (ky_is Y (ky_rp Y q5 5) 8 ∧ (vp_in v2 (ky_ln Y (ky_rp Y q5 5)) ∧ (((I (ky_rp Y q5 5) v2.toNatClampNeg) = 0 → (ky_is Y (ky_rp Y k0 11) 0 ∧ w_X0_copyFrom Y I (ky_rp Y k0 11) (ky_rp Y k0 10) (fun I9 => w_X4_restrict Y I9 q5 (ky_rp Y k0 11) v2 (I9 k1 1) (I9 k1 2) (fun I11 => ((I11 (ky_rp Y k0 11) 1 = 0 ∨ I11 (ky_rp Y k0 11) 1 = 1) ∧ post (I11 (ky_rp Y k0 11) 1) I11))))) ∧ (¬ (I (ky_rp Y q5 5) v2.toNatClampNeg) = 0 → post (0 : Int32) I))))))))))
set_option maxHeartbeats 4000000 in
set_option maxRecDepth 100000 in
theorem c_X6_isMissing (l : Launch) (C : Cc) (Y : Ly) (A : Nat → Prop) (I : Mm) (k0 : Nat) (k1 : Nat) (v2 : Int32) (post : Int32 → Mm → Prop) (hw : w_X6_isMissing Y I k0 k1 v2 post) : ky_MI l yX6_isMissing cX6_isMissing 4 (some .boolean) rm_X6_isMissing C Y A I [.ref (Y.2.1 k0), .ref (Y.2.1 k1), .int v2] post := by
  refine ky_met (by decide) (Nat.le_of_ble_eq_true rfl) ?_
  intro p e s m args below meth c X hr
  have X : ky_X p s m args meth c C cX6_isMissing 4 RX6 := X
  show ky_G p l e rm_X6_isMissing s m args below meth c C Y A 4 (MQ below (va_Qi post (ky_B C Y A) A) args s 0 0 A) 0 [(0, .ref (Y.2.1 k0)), (1, .ref (Y.2.1 k1)), (2, .int v2)] [] I
  refine kg_aload_n X 0 dX6_isMissing_0 rfl rfl ?_
  obtain ⟨h1, hw⟩ := hw
  refine kg_getR (j := 0) X kc_6 h1 (by decide) (by decide) rfl kw_199 dX6_isMissing_1 ?_
  refine kg_aload_n X 1 dX6_isMissing_4 rfl rfl ?_
  obtain ⟨h2, hw⟩ := hw
  refine kg_getI (j := 0) X kc_2 h2 (by decide) (by decide) rfl kw_163 dX6_isMissing_5 ?_
  obtain ⟨h3, hw⟩ := hw
  obtain ⟨h4, hw⟩ := hw
  refine kg_aald (kc := 12) X 4 rfl (by decide) h3 h4 dX6_isMissing_8 ?_
  refine kg_topr (fun q5 eq5 => ?_)
  have hw := hw q5 eq5
  refine kg_astore_n (lv' := [(3, .ref (Y.2.1 q5)), (0, .ref (Y.2.1 k0)), (1, .ref (Y.2.1 k1)), (2, .int v2)]) X dX6_isMissing_9 rfl (by decide) rfl ?_
  refine kg_aload_n X 0 dX6_isMissing_10 rfl rfl ?_
  obtain ⟨h6, hw⟩ := hw
  refine kg_getR (j := 5) X kc_4 h6 (by decide) (by decide) rfl kw_126 dX6_isMissing_11 ?_
  refine kg_iload_n X 3 dX6_isMissing_14 rfl rfl ?_
  obtain ⟨h7, hw⟩ := hw
  obtain ⟨h8, hw⟩ := hw
  refine kg_iald X h7 h8 dX6_isMissing_15 ?_
  refine kg_if_eq (tgt := 21) X dX6_isMissing_16 (by decide) (fun h13 => ?_) (fun h13 => ?_)
  · have hw := hw.1 h13
    refine kg_aload_n X 1 dX6_isMissing_21 rfl rfl ?_
    refine kg_getR (j := 11) X kc_6 h1 (by decide) (by decide) rfl kw_210 dX6_isMissing_22 ?_
    refine kg_aload_n X 1 dX6_isMissing_25 rfl rfl ?_
    refine kg_getR (j := 10) X kc_6 h1 (by decide) (by decide) rfl kw_209 dX6_isMissing_26 ?_
    obtain ⟨h10, hw⟩ := hw
    refine kg_callVv (n := 1) (As := [.ref (Y.2.1 (ky_rp Y k0 10))]) X (c_X0_copyFrom l C Y A I (ky_rp Y k0 11) (ky_rp Y k0 10) _ hw) kc_0 h10 rfl iv_X0_copyFrom kw_272 (by decide +kernel) (by decide) rfl rfl (Nat.le_of_ble_eq_true rfl) dX6_isMissing_29 (fun I9 hw => ?_)
    refine kg_aload_n X 0 dX6_isMissing_32 rfl rfl ?_
    refine kg_aload_n X 1 dX6_isMissing_33 rfl rfl ?_
    refine kg_getR (j := 11) X kc_6 h1 (by decide) (by decide) rfl kw_210 dX6_isMissing_34 ?_
    refine kg_iload_n X 3 dX6_isMissing_37 rfl rfl ?_
    refine kg_aload_n X 2 dX6_isMissing_38 rfl rfl ?_
    refine kg_getI (j := 1) X kc_2 h2 (by decide) (by decide) rfl kw_165 dX6_isMissing_39 ?_
    refine kg_aload_n X 2 dX6_isMissing_42 rfl rfl ?_
    refine kg_getI (j := 2) X kc_2 h2 (by decide) (by decide) rfl kw_167 dX6_isMissing_43 ?_
    refine kg_callVv (n := 4) (As := [.ref (Y.2.1 (ky_rp Y k0 11)), .int v2, .int (I9 k1 1), .int (I9 k1 2)]) X (c_X4_restrict l C Y A I9 q5 (ky_rp Y k0 11) v2 (I9 k1 1) (I9 k1 2) _ hw) kc_4 h6 rfl iv_X4_restrict kw_279 (by decide +kernel) (by decide) rfl rfl (Nat.le_of_ble_eq_true rfl) dX6_isMissing_46 (fun I11 hw => ?_)
    refine kg_aload_n X 1 dX6_isMissing_49 rfl rfl ?_
    refine kg_getR (j := 11) X kc_6 h1 (by decide) (by decide) rfl kw_210 dX6_isMissing_50 ?_
    refine kg_getI (j := 1) X kc_0 h10 (by decide) (by decide) rfl kw_55 dX6_isMissing_53 ?_
    obtain ⟨h12, hw⟩ := hw
    exact kg_zret X hr h12 hw dX6_isMissing_56
  · have hw := hw.2 h13
    refine kg_iconst (v := (0 : Int32)) X dX6_isMissing_19 (by decide) ?_
    exact kg_zret X hr (by decide) hw dX6_isMissing_20
end
abbrev rm_X6_isAnyMissing : Room := { frames := 3, cells := 0, slots := 0, locals := 104 }
section
variable {p : Program} {l : Launch} {e : Env} {s : State} {m : MethodId} {args : Array Value} {below : List Frame} {meth : Method} {c : Code} {C : Cc} {Y : Ly} {A : Nat → Prop}
def w_X6_isAnyMissing_L15 (Y : Ly) (post : Int32 → Mm → Prop) (ex_29 : Mm → Prop) (ex_37 : Mm → Prop) : Nat → Nat → Nat → Int32 → Int32 → Mm → Prop
  | 0, _, _, _, _, _ => False
  | n15 + 1, k0, k1, v2, v3, I => ((v2 ≤ v3 → ex_37 I) ∧ (¬ v2 ≤ v3 → (ky_is Y k0 6 ∧ w_X6_isMissing Y I k0 k1 v3 (fun r9 I8 => ((r9 = 0 → (∀ x11 : Int32, x11 = v3 + (1 : Int32) → w_X6_isAnyMissing_L15 Y post ex_29 ex_37 n15 k0 k1 v2 x11 I8)) ∧ (¬ r9 = 0 → ex_29 I8))))))
set_option maxHeartbeats 4000000 in
set_option maxRecDepth 100000 in
theorem s_X6_isAnyMissing_L15 (X : ky_X p s m args meth c C cX6_isAnyMissing 4 RX6) (hr : meth.sig.returnType = some .boolean) (post : Int32 → Mm → Prop) (ex_29 : Mm → Prop) (ex_37 : Mm → Prop) (hx_29 : ∀ (J : Mm), ex_29 J → ky_G p l e rm_X6_isAnyMissing s m args below meth c C Y A 4 (MQ below (va_Qi post (ky_B C Y A) A) args s 0 0 A) 29 [] [] J) (hx_37 : ∀ (J : Mm), ex_37 J → ky_G p l e rm_X6_isAnyMissing s m args below meth c C Y A 4 (MQ below (va_Qi post (ky_B C Y A) A) args s 0 0 A) 37 [] [] J) : ∀ (n15 : Nat) (k0 : Nat) (k1 : Nat) (v2 : Int32) (v3 : Int32) (I : Mm), w_X6_isAnyMissing_L15 Y post ex_29 ex_37 n15 k0 k1 v2 v3 I → ky_G p l e rm_X6_isAnyMissing s m args below meth c C Y A 4 (MQ below (va_Qi post (ky_B C Y A) A) args s 0 0 A) 15 [(0, .ref (Y.2.1 k0)), (1, .ref (Y.2.1 k1)), (2, .int v2), (3, .int v3)] [] I := by
  intro n15
  induction n15 with
  | zero => intro k0 k1 v2 v3 I hw; exact False.elim hw
  | succ n15 ih =>
    intro k0 k1 v2 v3 I hw
    refine kg_iload_n X 3 dX6_isAnyMissing_15 rfl rfl ?_
    refine kg_iload_n X 2 dX6_isAnyMissing_16 rfl rfl ?_
    refine kg_icmp_ge (tgt := 37) X dX6_isAnyMissing_17 (by decide) (fun h13 => ?_) (fun h13 => ?_)
    · have hw := hw.1 h13
      refine kg_sub [] rfl ?_
      exact hx_37 _  hw
    · have hw := hw.2 h13
      refine kg_aload_n X 0 dX6_isAnyMissing_20 rfl rfl ?_
      refine kg_aload_n X 1 dX6_isAnyMissing_21 rfl rfl ?_
      refine kg_iload_n X 3 dX6_isAnyMissing_22 rfl rfl ?_
      obtain ⟨h10, hw⟩ := hw
      refine kg_callVi (n := 2) (As := [.ref (Y.2.1 k1), .int v3]) X (c_X6_isMissing l C Y A I k0 k1 v3 _ hw) kc_6 h10 rfl iv_X6_isMissing kw_294 (by decide +kernel) (by decide) rfl rfl (Nat.le_of_ble_eq_true rfl) dX6_isAnyMissing_23 (fun r9 I8 hw => ?_)
      refine kg_if_eq (tgt := 31) X dX6_isAnyMissing_26 (by decide) (fun h12 => ?_) (fun h12 => ?_)
      · have hw := hw.1 h12
        refine kg_iinc (dd := (1 : Int32)) (lvf := fun x11 => [(3, .int x11), (0, .ref (Y.2.1 k0)), (1, .ref (Y.2.1 k1)), (2, .int v2)]) X 3 dX6_isAnyMissing_31 rfl (by decide) (by decide) (fun _ => rfl) (fun x11 ex11 => ?_)
        have hw := hw x11 ex11
        refine kg_goto (tgt := 15) X dX6_isAnyMissing_34 (by decide) ?_
        refine kg_sub [1, 2, 3, 0] rfl ?_
        exact ih _ _ _ _ _  hw
      · have hw := hw.2 h12
        refine kg_sub [] rfl ?_
        exact hx_29 _  hw
def w_X6_isAnyMissing (Y : Ly) (I : Mm) (k0 : Nat) (k1 : Nat) (post : Int32 → Mm → Prop) : Prop := (ky_is Y k0 6 ∧ (ky_is Y k1 2 ∧ (ky_is Y (ky_rp Y k0 0) 12 ∧ (vp_in (I k1 0) (ky_ln Y (ky_rp Y k0 0)) ∧ (ky_is Y (ky_rp Y (ky_rp Y k0 0) (I k1 0).toNatClampNeg) 4 ∧ w_X4_cubes Y I (ky_rp Y (ky_rp Y k0 0) (I k1 0).toNatClampNeg) (fun r6 I5 => (∃ n15 : Nat, w_X6_isAnyMissing_L15 Y post (fun I14 => post (1 : Int32) I14) (fun I15 => post (0 : Int32) I15) n15 k0 k1 r6 (0 : Int32) I5)))))))
set_option maxHeartbeats 4000000 in
set_option maxRecDepth 100000 in
theorem c_X6_isAnyMissing (l : Launch) (C : Cc) (Y : Ly) (A : Nat → Prop) (I : Mm) (k0 : Nat) (k1 : Nat) (post : Int32 → Mm → Prop) (hw : w_X6_isAnyMissing Y I k0 k1 post) : ky_MI l yX6_isAnyMissing cX6_isAnyMissing 4 (some .boolean) rm_X6_isAnyMissing C Y A I [.ref (Y.2.1 k0), .ref (Y.2.1 k1)] post := by
  refine ky_met (by decide) (Nat.le_of_ble_eq_true rfl) ?_
  intro p e s m args below meth c X hr
  have X : ky_X p s m args meth c C cX6_isAnyMissing 4 RX6 := X
  show ky_G p l e rm_X6_isAnyMissing s m args below meth c C Y A 4 (MQ below (va_Qi post (ky_B C Y A) A) args s 0 0 A) 0 [(0, .ref (Y.2.1 k0)), (1, .ref (Y.2.1 k1))] [] I
  refine kg_aload_n X 0 dX6_isAnyMissing_0 rfl rfl ?_
  obtain ⟨h1, hw⟩ := hw
  refine kg_getR (j := 0) X kc_6 h1 (by decide) (by decide) rfl kw_199 dX6_isAnyMissing_1 ?_
  refine kg_aload_n X 1 dX6_isAnyMissing_4 rfl rfl ?_
  obtain ⟨h2, hw⟩ := hw
  refine kg_getI (j := 0) X kc_2 h2 (by decide) (by decide) rfl kw_163 dX6_isAnyMissing_5 ?_
  obtain ⟨h3, hw⟩ := hw
  obtain ⟨h4, hw⟩ := hw
  refine kg_aald (kc := 12) X 4 rfl (by decide) h3 h4 dX6_isAnyMissing_8 ?_
  obtain ⟨h7, hw⟩ := hw
  refine kg_callVi (n := 0) (As := []) X (c_X4_cubes l C Y A I (ky_rp Y (ky_rp Y k0 0) (I k1 0).toNatClampNeg) _ hw) kc_4 h7 rfl iv_X4_cubes kw_264 (by decide +kernel) (by decide) rfl rfl (Nat.le_of_ble_eq_true rfl) dX6_isAnyMissing_9 (fun r6 I5 hw => ?_)
  refine kg_istore_n (lv' := [(2, .int r6), (0, .ref (Y.2.1 k0)), (1, .ref (Y.2.1 k1))]) X dX6_isAnyMissing_12 rfl (by decide) rfl ?_
  refine kg_iconst (v := (0 : Int32)) X dX6_isAnyMissing_13 (by decide) ?_
  refine kg_istore_n (lv' := [(3, .int (0 : Int32)), (2, .int r6), (0, .ref (Y.2.1 k0)), (1, .ref (Y.2.1 k1))]) X dX6_isAnyMissing_14 rfl (by decide) rfl ?_
  obtain ⟨n15, hw⟩ := hw
  refine kg_sub [2, 3, 1, 0] rfl ?_
  refine s_X6_isAnyMissing_L15 X hr post _ _ ?_ ?_ n15 _ _ _ _ _  hw
  · intro I14 hw
    refine kg_iconst (v := (1 : Int32)) X dX6_isAnyMissing_29 (by decide) ?_
    exact kg_zret X hr (by decide) hw dX6_isAnyMissing_30
  · intro I15 hw
    refine kg_iconst (v := (0 : Int32)) X dX6_isAnyMissing_37 (by decide) ?_
    exact kg_zret X hr (by decide) hw dX6_isAnyMissing_38
end
abbrev rm_X6_isObeyed : Room := { frames := 4, cells := 0, slots := 0, locals := 135 }
section
variable {p : Program} {l : Launch} {e : Env} {s : State} {m : MethodId} {args : Array Value} {below : List Frame} {meth : Method} {c : Code} {C : Cc} {Y : Ly} {A : Nat → Prop}
def w_X6_isObeyed_L7 (Y : Ly) (post : Int32 → Mm → Prop) (ex_36 : Mm → Prop) (ex_50 : Mm → Prop) : Nat → Nat → Nat → Int32 → Mm → Prop
  | 0, _, _, _, _ => False
  | n7 + 1, k0, k1, v2, I => (((256 : Int32) ≤ v2 → ex_50 I) ∧ (¬ (256 : Int32) ≤ v2 → (ky_is Y k1 1 ∧ (ky_is Y (ky_rp Y k1 0) 2 ∧ (((I (ky_rp Y k1 0) 0) = (-1 : Int32) → ex_36 I) ∧ (¬ (I (ky_rp Y k1 0) 0) = (-1 : Int32) → (ky_is Y k0 6 ∧ w_X6_isAnyMissing Y I k0 (ky_rp Y k1 0) (fun r7 I6 => ((r7 = 0 → w_X6_nextPremises Y I6 k0 k1 (v2 + (1 : Int32)) (fun r10 I9 => w_X6_isObeyed_L7 Y post ex_36 ex_50 n7 k0 k1 r10 I9)) ∧ (¬ r7 = 0 → ex_36 I6))))))))))
set_option maxHeartbeats 4000000 in
set_option maxRecDepth 100000 in
theorem s_X6_isObeyed_L7 (X : ky_X p s m args meth c C cX6_isObeyed 3 RX6) (hr : meth.sig.returnType = some .boolean) (post : Int32 → Mm → Prop) (ex_36 : Mm → Prop) (ex_50 : Mm → Prop) (hx_36 : ∀ (J : Mm), ex_36 J → ky_G p l e rm_X6_isObeyed s m args below meth c C Y A 3 (MQ below (va_Qi post (ky_B C Y A) A) args s 0 0 A) 36 [] [] J) (hx_50 : ∀ (J : Mm), ex_50 J → ky_G p l e rm_X6_isObeyed s m args below meth c C Y A 3 (MQ below (va_Qi post (ky_B C Y A) A) args s 0 0 A) 50 [] [] J) : ∀ (n7 : Nat) (k0 : Nat) (k1 : Nat) (v2 : Int32) (I : Mm), w_X6_isObeyed_L7 Y post ex_36 ex_50 n7 k0 k1 v2 I → ky_G p l e rm_X6_isObeyed s m args below meth c C Y A 3 (MQ below (va_Qi post (ky_B C Y A) A) args s 0 0 A) 7 [(0, .ref (Y.2.1 k0)), (1, .ref (Y.2.1 k1)), (2, .int v2)] [] I := by
  intro n7
  induction n7 with
  | zero => intro k0 k1 v2 I hw; exact False.elim hw
  | succ n7 ih =>
    intro k0 k1 v2 I hw
    refine kg_iload_n X 2 dX6_isObeyed_7 rfl rfl ?_
    refine kg_sipush (v := (256 : Int32)) X dX6_isObeyed_8 (by decide) ?_
    refine kg_icmp_ge (tgt := 50) X dX6_isObeyed_11 (by decide) (fun h13 => ?_) (fun h13 => ?_)
    · have hw := hw.1 h13
      refine kg_sub [] rfl ?_
      exact hx_50 _  hw
    · have hw := hw.2 h13
      refine kg_aload_n X 1 dX6_isObeyed_14 rfl rfl ?_
      obtain ⟨h4, hw⟩ := hw
      refine kg_getR (j := 0) X kc_1 h4 (by decide) (by decide) rfl kw_179 dX6_isObeyed_15 ?_
      obtain ⟨h5, hw⟩ := hw
      refine kg_getI (j := 0) X kc_2 h5 (by decide) (by decide) rfl kw_163 dX6_isObeyed_18 ?_
      refine kg_iconst (v := (-1 : Int32)) X dX6_isObeyed_21 (by decide) ?_
      refine kg_icmp_eq (tgt := 36) X dX6_isObeyed_22 (by decide) (fun h12 => ?_) (fun h12 => ?_)
      · have hw := hw.1 h12
        refine kg_sub [] rfl ?_
        exact hx_36 _  hw
      · have hw := hw.2 h12
        refine kg_aload_n X 0 dX6_isObeyed_25 rfl rfl ?_
        refine kg_aload_n X 1 dX6_isObeyed_26 rfl rfl ?_
        refine kg_getR (j := 0) X kc_1 h4 (by decide) (by decide) rfl kw_179 dX6_isObeyed_27 ?_
        obtain ⟨h8, hw⟩ := hw
        refine kg_callVi (n := 1) (As := [.ref (Y.2.1 (ky_rp Y k1 0))]) X (c_X6_isAnyMissing l C Y A I k0 (ky_rp Y k1 0) _ hw) kc_6 h8 rfl iv_X6_isAnyMissing kw_290 (by decide +kernel) (by decide) rfl rfl (Nat.le_of_ble_eq_true rfl) dX6_isObeyed_30 (fun r7 I6 hw => ?_)
        refine kg_if_eq (tgt := 38) X dX6_isObeyed_33 (by decide) (fun h11 => ?_) (fun h11 => ?_)
        · have hw := hw.1 h11
          refine kg_aload_n X 0 dX6_isObeyed_38 rfl rfl ?_
          refine kg_aload_n X 1 dX6_isObeyed_39 rfl rfl ?_
          refine kg_iload_n X 2 dX6_isObeyed_40 rfl rfl ?_
          refine kg_iconst (v := (1 : Int32)) X dX6_isObeyed_41 (by decide) ?_
          refine kg_iadd X dX6_isObeyed_42 ?_
          refine kg_callVi (n := 2) (As := [.ref (Y.2.1 k1), .int (v2 + (1 : Int32))]) X (c_X6_nextPremises l C Y A I6 k0 k1 (v2 + (1 : Int32)) _ hw) kc_6 h8 rfl iv_X6_nextPremises kw_256 (by decide +kernel) (by decide) rfl rfl (Nat.le_of_ble_eq_true rfl) dX6_isObeyed_43 (fun r10 I9 hw => ?_)
          refine kg_istore_n (lv' := [(2, .int r10), (0, .ref (Y.2.1 k0)), (1, .ref (Y.2.1 k1))]) X dX6_isObeyed_46 rfl (by decide) rfl ?_
          refine kg_goto (tgt := 7) X dX6_isObeyed_47 (by decide) ?_
          refine kg_sub [1, 2, 0] rfl ?_
          exact ih _ _ _ _  hw
        · have hw := hw.2 h11
          refine kg_sub [] rfl ?_
          exact hx_36 _  hw
def w_X6_isObeyed (Y : Ly) (I : Mm) (k0 : Nat) (k1 : Nat) (post : Int32 → Mm → Prop) : Prop := (ky_is Y k0 6 ∧ w_X6_nextPremises Y I k0 k1 (0 : Int32) (fun r2 I1 => (∃ n7 : Nat, w_X6_isObeyed_L7 Y post (fun I14 => post (0 : Int32) I14) (fun I15 => post (1 : Int32) I15) n7 k0 k1 r2 I1)))
set_option maxHeartbeats 4000000 in
set_option maxRecDepth 100000 in
theorem c_X6_isObeyed (l : Launch) (C : Cc) (Y : Ly) (A : Nat → Prop) (I : Mm) (k0 : Nat) (k1 : Nat) (post : Int32 → Mm → Prop) (hw : w_X6_isObeyed Y I k0 k1 post) : ky_MI l yX6_isObeyed cX6_isObeyed 3 (some .boolean) rm_X6_isObeyed C Y A I [.ref (Y.2.1 k0), .ref (Y.2.1 k1)] post := by
  refine ky_met (by decide) (Nat.le_of_ble_eq_true rfl) ?_
  intro p e s m args below meth c X hr
  have X : ky_X p s m args meth c C cX6_isObeyed 3 RX6 := X
  show ky_G p l e rm_X6_isObeyed s m args below meth c C Y A 3 (MQ below (va_Qi post (ky_B C Y A) A) args s 0 0 A) 0 [(0, .ref (Y.2.1 k0)), (1, .ref (Y.2.1 k1))] [] I
  refine kg_aload_n X 0 dX6_isObeyed_0 rfl rfl ?_
  refine kg_aload_n X 1 dX6_isObeyed_1 rfl rfl ?_
  refine kg_iconst (v := (0 : Int32)) X dX6_isObeyed_2 (by decide) ?_
  obtain ⟨h3, hw⟩ := hw
  refine kg_callVi (n := 2) (As := [.ref (Y.2.1 k1), .int (0 : Int32)]) X (c_X6_nextPremises l C Y A I k0 k1 (0 : Int32) _ hw) kc_6 h3 rfl iv_X6_nextPremises kw_256 (by decide +kernel) (by decide) rfl rfl (Nat.le_of_ble_eq_true rfl) dX6_isObeyed_3 (fun r2 I1 hw => ?_)
  refine kg_istore_n (lv' := [(2, .int r2), (0, .ref (Y.2.1 k0)), (1, .ref (Y.2.1 k1))]) X dX6_isObeyed_6 rfl (by decide) rfl ?_
  obtain ⟨n7, hw⟩ := hw
  refine kg_sub [1, 2, 0] rfl ?_
  refine s_X6_isObeyed_L7 X hr post _ _ ?_ ?_ n7 _ _ _ _  hw
  · intro I14 hw
    refine kg_iconst (v := (0 : Int32)) X dX6_isObeyed_36 (by decide) ?_
    exact kg_zret X hr (by decide) hw dX6_isObeyed_37
  · intro I15 hw
    refine kg_iconst (v := (1 : Int32)) X dX6_isObeyed_50 (by decide) ?_
    exact kg_zret X hr (by decide) hw dX6_isObeyed_51
end
abbrev rm_X6_check : Room := { frames := 5, cells := 0, slots := 0, locals := 157 }
section
variable {p : Program} {l : Launch} {e : Env} {s : State} {m : MethodId} {args : Array Value} {below : List Frame} {meth : Method} {c : Code} {C : Cc} {Y : Ly} {A : Nat → Prop}
def w_X6_check_L2 (Y : Ly) (post : Int32 → Mm → Prop) (ex_23 : Int32 → Mm → Prop) (ex_31 : Mm → Prop) : Nat → Nat → Int32 → Mm → Prop
  | 0, _, _, _ => False
  | n2 + 1, k0, v1, I => (ky_is Y k0 6 ∧ (((I k0 3) ≤ v1 → ex_31 I) ∧ (¬ (I k0 3) ≤ v1 → (ky_is Y (ky_rp Y k0 2) 9 ∧ (vp_in v1 (ky_ln Y (ky_rp Y k0 2)) ∧ w_X6_isObeyed Y I k0 (ky_rp Y (ky_rp Y k0 2) v1.toNatClampNeg) (fun r5 I4 => ((¬ r5 = 0 → (∀ x6 : Int32, x6 = v1 + (1 : Int32) → w_X6_check_L2 Y post ex_23 ex_31 n2 k0 x6 I4)) ∧ (r5 = 0 → ex_23 v1 I4))))))))
set_option maxHeartbeats 4000000 in
set_option maxRecDepth 100000 in
theorem s_X6_check_L2 (X : ky_X p s m args meth c C cX6_check 2 RX6) (hr : meth.sig.returnType = some .int) (post : Int32 → Mm → Prop) (ex_23 : Int32 → Mm → Prop) (ex_31 : Mm → Prop) (hx_23 : ∀ (v1 : Int32) (J : Mm), ex_23 v1 J → ky_G p l e rm_X6_check s m args below meth c C Y A 2 (MQ below (va_Qi post (ky_B C Y A) A) args s 0 0 A) 23 [(1, .int v1)] [] J) (hx_31 : ∀ (J : Mm), ex_31 J → ky_G p l e rm_X6_check s m args below meth c C Y A 2 (MQ below (va_Qi post (ky_B C Y A) A) args s 0 0 A) 31 [] [] J) : ∀ (n2 : Nat) (k0 : Nat) (v1 : Int32) (I : Mm), w_X6_check_L2 Y post ex_23 ex_31 n2 k0 v1 I → ky_G p l e rm_X6_check s m args below meth c C Y A 2 (MQ below (va_Qi post (ky_B C Y A) A) args s 0 0 A) 2 [(0, .ref (Y.2.1 k0)), (1, .int v1)] [] I := by
  intro n2
  induction n2 with
  | zero => intro k0 v1 I hw; exact False.elim hw
  | succ n2 ih =>
    intro k0 v1 I hw
    refine kg_iload_n X 1 dX6_check_2 rfl rfl ?_
    refine kg_aload_n X 0 dX6_check_3 rfl rfl ?_
    obtain ⟨h1, hw⟩ := hw
    refine kg_getI (j := 3) X kc_6 h1 (by decide) (by decide) rfl kw_202 dX6_check_4 ?_
    refine kg_icmp_ge (tgt := 31) X dX6_check_7 (by decide) (fun h8 => ?_) (fun h8 => ?_)
    · have hw := hw.1 h8
      refine kg_sub [] rfl ?_
      exact hx_31 _  hw
    · have hw := hw.2 h8
      refine kg_aload_n X 0 dX6_check_10 rfl rfl ?_
      refine kg_aload_n X 0 dX6_check_11 rfl rfl ?_
      refine kg_getR (j := 2) X kc_6 h1 (by decide) (by decide) rfl kw_201 dX6_check_12 ?_
      refine kg_iload_n X 1 dX6_check_15 rfl rfl ?_
      obtain ⟨h2, hw⟩ := hw
      obtain ⟨h3, hw⟩ := hw
      refine kg_aald (kc := 9) X 1 rfl (by decide) h2 h3 dX6_check_16 ?_
      refine kg_callVi (n := 1) (As := [.ref (Y.2.1 (ky_rp Y (ky_rp Y k0 2) v1.toNatClampNeg))]) X (c_X6_isObeyed l C Y A I k0 (ky_rp Y (ky_rp Y k0 2) v1.toNatClampNeg) _ hw) kc_6 h1 rfl iv_X6_isObeyed kw_252 (by decide +kernel) (by decide) rfl rfl (Nat.le_of_ble_eq_true rfl) dX6_check_17 (fun r5 I4 hw => ?_)
      refine kg_if_ne (tgt := 25) X dX6_check_20 (by decide) (fun h7 => ?_) (fun h7 => ?_)
      · have hw := hw.1 h7
        refine kg_iinc (dd := (1 : Int32)) (lvf := fun x6 => [(1, .int x6), (0, .ref (Y.2.1 k0))]) X 1 dX6_check_25 rfl (by decide) (by decide) (fun _ => rfl) (fun x6 ex6 => ?_)
        have hw := hw x6 ex6
        refine kg_goto (tgt := 2) X dX6_check_28 (by decide) ?_
        refine kg_sub [1, 0] rfl ?_
        exact ih _ _ _  hw
      · have hw := hw.2 h7
        refine kg_sub [1] rfl ?_
        exact hx_23 _ _  hw
def w_X6_check (Y : Ly) (I : Mm) (k0 : Nat) (post : Int32 → Mm → Prop) : Prop := (∃ n2 : Nat, w_X6_check_L2 Y post (fun v10 I9 => post v10 I9) (fun I11 => post (-1 : Int32) I11) n2 k0 (0 : Int32) I)
set_option maxHeartbeats 4000000 in
set_option maxRecDepth 100000 in
theorem c_X6_check (l : Launch) (C : Cc) (Y : Ly) (A : Nat → Prop) (I : Mm) (k0 : Nat) (post : Int32 → Mm → Prop) (hw : w_X6_check Y I k0 post) : ky_MI l yX6_check cX6_check 2 (some .int) rm_X6_check C Y A I [.ref (Y.2.1 k0)] post := by
  refine ky_met (by decide) (Nat.le_of_ble_eq_true rfl) ?_
  intro p e s m args below meth c X hr
  have X : ky_X p s m args meth c C cX6_check 2 RX6 := X
  show ky_G p l e rm_X6_check s m args below meth c C Y A 2 (MQ below (va_Qi post (ky_B C Y A) A) args s 0 0 A) 0 [(0, .ref (Y.2.1 k0))] [] I
  refine kg_iconst (v := (0 : Int32)) X dX6_check_0 (by decide) ?_
  refine kg_istore_n (lv' := [(1, .int (0 : Int32)), (0, .ref (Y.2.1 k0))]) X dX6_check_1 rfl (by decide) rfl ?_
  obtain ⟨n2, hw⟩ := hw
  refine kg_sub [1, 0] rfl ?_
  refine s_X6_check_L2 X hr post _ _ ?_ ?_ n2 _ _ _  hw
  · intro v10 I9 hw
    refine kg_iload_n X 0 dX6_check_23 rfl rfl ?_
    exact kg_iret X hr hw dX6_check_24
  · intro I11 hw
    refine kg_iconst (v := (-1 : Int32)) X dX6_check_31 (by decide) ?_
    exact kg_iret X hr hw dX6_check_32
end
abbrev rm_X6_state : Room := { frames := 0, cells := 0, slots := 0, locals := 0 }
section
variable {p : Program} {l : Launch} {e : Env} {s : State} {m : MethodId} {args : Array Value} {below : List Frame} {meth : Method} {c : Code} {C : Cc} {Y : Ly} {A : Nat → Prop}
def w_X6_state (Y : Ly) (I : Mm) (k0 : Nat) (v1 : Int32) (post : Int32 → Mm → Prop) : Prop := (((v1.toInt < 0 ∨ 6 < v1.toInt) → post (-1 : Int32) I) ∧ (v1.toInt = 0 → (ky_is Y k0 6 ∧ post (I k0 1) I)) ∧ (v1.toInt = 1 → (ky_is Y k0 6 ∧ post (I k0 3) I)) ∧ (v1.toInt = 2 → (ky_is Y k0 6 ∧ post (I k0 5) I)) ∧ (v1.toInt = 3 → (ky_is Y k0 6 ∧ post (I k0 4) I)) ∧ (v1.toInt = 4 → (ky_is Y k0 6 ∧ post (I k0 6) I)) ∧ (v1.toInt = 5 → (ky_is Y k0 6 ∧ (ky_is Y (ky_rp Y k0 7) 5 ∧ post (I (ky_rp Y k0 7) 1) I))) ∧ (v1.toInt = 6 → (ky_is Y k0 6 ∧ post (I k0 8) I)))
set_option maxHeartbeats 4000000 in
set_option maxRecDepth 100000 in
theorem c_X6_state (l : Launch) (C : Cc) (Y : Ly) (A : Nat → Prop) (I : Mm) (k0 : Nat) (v1 : Int32) (post : Int32 → Mm → Prop) (hw : w_X6_state Y I k0 v1 post) : ky_MI l yX6_state cX6_state 2 (some .int) rm_X6_state C Y A I [.ref (Y.2.1 k0), .int v1] post := by
  refine ky_met (by decide) (Nat.le_of_ble_eq_true rfl) ?_
  intro p e s m args below meth c X hr
  have X : ky_X p s m args meth c C cX6_state 2 RX6 := X
  show ky_G p l e rm_X6_state s m args below meth c C Y A 2 (MQ below (va_Qi post (ky_B C Y A) A) args s 0 0 A) 0 [(0, .ref (Y.2.1 k0)), (1, .int v1)] [] I
  refine kg_iload_n X 1 dX6_state_0 rfl rfl ?_
  by_cases h9 : v1.toInt < 0 ∨ 6 < v1.toInt
  · have hw := hw.1 h9
    refine kg_tabOut (tgt := 82) X dX6_state_1 h9 (by decide) ?_
    refine kg_iconst (v := (-1 : Int32)) X dX6_state_82 (by decide) ?_
    exact kg_iret X hr hw dX6_state_83
  · rcases (show v1.toInt = 0 ∨ v1.toInt = 1 ∨ v1.toInt = 2 ∨ v1.toInt = 3 ∨ v1.toInt = 4 ∨ v1.toInt = 5 ∨ v1.toInt = 6 by omega) with h9 | h9 | h9 | h9 | h9 | h9 | h9
    · have hw := hw.2.1 h9
      refine kg_tabIn (off := 43) (tgt := 44) X dX6_state_1 (by omega) (by omega) (by rw [h9]; rfl) (by decide) ?_
      refine kg_aload_n X 0 dX6_state_44 rfl rfl ?_
      obtain ⟨h1, hw⟩ := hw
      refine kg_getI (j := 1) X kc_6 h1 (by decide) (by decide) rfl kw_200 dX6_state_45 ?_
      exact kg_iret X hr hw dX6_state_48
    · have hw := hw.2.2.1 h9
      refine kg_tabIn (off := 48) (tgt := 49) X dX6_state_1 (by omega) (by omega) (by rw [h9]; rfl) (by decide) ?_
      refine kg_aload_n X 0 dX6_state_49 rfl rfl ?_
      obtain ⟨h2, hw⟩ := hw
      refine kg_getI (j := 3) X kc_6 h2 (by decide) (by decide) rfl kw_202 dX6_state_50 ?_
      exact kg_iret X hr hw dX6_state_53
    · have hw := hw.2.2.2.1 h9
      refine kg_tabIn (off := 53) (tgt := 54) X dX6_state_1 (by omega) (by omega) (by rw [h9]; rfl) (by decide) ?_
      refine kg_aload_n X 0 dX6_state_54 rfl rfl ?_
      obtain ⟨h3, hw⟩ := hw
      refine kg_getI (j := 5) X kc_6 h3 (by decide) (by decide) rfl kw_204 dX6_state_55 ?_
      exact kg_iret X hr hw dX6_state_58
    · have hw := hw.2.2.2.2.1 h9
      refine kg_tabIn (off := 58) (tgt := 59) X dX6_state_1 (by omega) (by omega) (by rw [h9]; rfl) (by decide) ?_
      refine kg_aload_n X 0 dX6_state_59 rfl rfl ?_
      obtain ⟨h4, hw⟩ := hw
      refine kg_getI (j := 4) X kc_6 h4 (by decide) (by decide) rfl kw_203 dX6_state_60 ?_
      exact kg_iret X hr hw dX6_state_63
    · have hw := hw.2.2.2.2.2.1 h9
      refine kg_tabIn (off := 63) (tgt := 64) X dX6_state_1 (by omega) (by omega) (by rw [h9]; rfl) (by decide) ?_
      refine kg_aload_n X 0 dX6_state_64 rfl rfl ?_
      obtain ⟨h5, hw⟩ := hw
      refine kg_getI (j := 6) X kc_6 h5 (by decide) (by decide) rfl kw_205 dX6_state_65 ?_
      exact kg_iret X hr hw dX6_state_68
    · have hw := hw.2.2.2.2.2.2.1 h9
      refine kg_tabIn (off := 68) (tgt := 69) X dX6_state_1 (by omega) (by omega) (by rw [h9]; rfl) (by decide) ?_
      refine kg_aload_n X 0 dX6_state_69 rfl rfl ?_
      obtain ⟨h6, hw⟩ := hw
      refine kg_getR (j := 7) X kc_6 h6 (by decide) (by decide) rfl kw_206 dX6_state_70 ?_
      obtain ⟨h7, hw⟩ := hw
      refine kg_getI (j := 1) X kc_5 h7 (by decide) (by decide) rfl kw_86 dX6_state_73 ?_
      exact kg_iret X hr hw dX6_state_76
    · have hw := hw.2.2.2.2.2.2.2 h9
      refine kg_tabIn (off := 76) (tgt := 77) X dX6_state_1 (by omega) (by omega) (by rw [h9]; rfl) (by decide) ?_
      refine kg_aload_n X 0 dX6_state_77 rfl rfl ?_
      obtain ⟨h8, hw⟩ := hw
      refine kg_getI (j := 8) X kc_6 h8 (by decide) (by decide) rfl kw_207 dX6_state_78 ?_
      exact kg_iret X hr hw dX6_state_81
end
abbrev rm_X6_isRelation : Room := { frames := 0, cells := 0, slots := 0, locals := 0 }
section
variable {p : Program} {l : Launch} {e : Env} {s : State} {m : MethodId} {args : Array Value} {below : List Frame} {meth : Method} {c : Code} {C : Cc} {Y : Ly} {A : Nat → Prop}
def w_X6_isRelation (Y : Ly) (I : Mm) (k0 : Nat) (v1 : Int32) (post : Int32 → Mm → Prop) : Prop := ((v1 < 0 → post (0 : Int32) I) ∧ (¬ v1 < 0 → (ky_is Y k0 6 ∧ (((I k0 1) ≤ v1 → post (0 : Int32) I) ∧ (¬ (I k0 1) ≤ v1 → post (1 : Int32) I)))))
set_option maxHeartbeats 4000000 in
set_option maxRecDepth 100000 in
theorem c_X6_isRelation (l : Launch) (C : Cc) (Y : Ly) (A : Nat → Prop) (I : Mm) (k0 : Nat) (v1 : Int32) (post : Int32 → Mm → Prop) (hw : w_X6_isRelation Y I k0 v1 post) : ky_MI l yX6_isRelation cX6_isRelation 2 (some .boolean) rm_X6_isRelation C Y A I [.ref (Y.2.1 k0), .int v1] post := by
  refine ky_met (by decide) (Nat.le_of_ble_eq_true rfl) ?_
  intro p e s m args below meth c X hr
  have X : ky_X p s m args meth c C cX6_isRelation 2 RX6 := X
  show ky_G p l e rm_X6_isRelation s m args below meth c C Y A 2 (MQ below (va_Qi post (ky_B C Y A) A) args s 0 0 A) 0 [(0, .ref (Y.2.1 k0)), (1, .int v1)] [] I
  refine kg_iload_n X 1 dX6_isRelation_0 rfl rfl ?_
  refine kg_if_lt (tgt := 16) X dX6_isRelation_1 (by decide) (fun h3 => ?_) (fun h3 => ?_)
  · have hw := hw.1 h3
    refine kg_iconst (v := (0 : Int32)) X dX6_isRelation_16 (by decide) ?_
    exact kg_zret X hr (by decide) hw dX6_isRelation_17
  · have hw := hw.2 h3
    refine kg_iload_n X 1 dX6_isRelation_4 rfl rfl ?_
    refine kg_aload_n X 0 dX6_isRelation_5 rfl rfl ?_
    obtain ⟨h1, hw⟩ := hw
    refine kg_getI (j := 1) X kc_6 h1 (by decide) (by decide) rfl kw_200 dX6_isRelation_6 ?_
    refine kg_icmp_ge (tgt := 16) X dX6_isRelation_9 (by decide) (fun h2 => ?_) (fun h2 => ?_)
    · have hw := hw.1 h2
      refine kg_iconst (v := (0 : Int32)) X dX6_isRelation_16 (by decide) ?_
      exact kg_zret X hr (by decide) hw dX6_isRelation_17
    · have hw := hw.2 h2
      refine kg_iconst (v := (1 : Int32)) X dX6_isRelation_12 (by decide) ?_
      refine kg_goto (tgt := 17) X dX6_isRelation_13 (by decide) ?_
      exact kg_zret X hr (by decide) hw dX6_isRelation_17
end
abbrev rm_X4_isCorner : Room := { frames := 0, cells := 0, slots := 0, locals := 0 }
section
variable {p : Program} {l : Launch} {e : Env} {s : State} {m : MethodId} {args : Array Value} {below : List Frame} {meth : Method} {c : Code} {C : Cc} {Y : Ly} {A : Nat → Prop}
def w_X4_isCorner (Y : Ly) (I : Mm) (k0 : Nat) (v1 : Int32) (post : Int32 → Mm → Prop) : Prop := ((v1 = (2 : Int32) → post (1 : Int32) I) ∧ (¬ v1 = (2 : Int32) → ((v1 < 0 → post (0 : Int32) I) ∧ (¬ v1 < 0 → (ky_is Y k0 4 ∧ (((I k0 0) ≤ v1 → post (0 : Int32) I) ∧ (¬ (I k0 0) ≤ v1 → post (1 : Int32) I)))))))
set_option maxHeartbeats 4000000 in
set_option maxRecDepth 100000 in
theorem c_X4_isCorner (l : Launch) (C : Cc) (Y : Ly) (A : Nat → Prop) (I : Mm) (k0 : Nat) (v1 : Int32) (post : Int32 → Mm → Prop) (hw : w_X4_isCorner Y I k0 v1 post) : ky_MI l yX4_isCorner cX4_isCorner 2 (some .boolean) rm_X4_isCorner C Y A I [.ref (Y.2.1 k0), .int v1] post := by
  refine ky_met (by decide) (Nat.le_of_ble_eq_true rfl) ?_
  intro p e s m args below meth c X hr
  have X : ky_X p s m args meth c C cX4_isCorner 2 RX4 := X
  show ky_G p l e rm_X4_isCorner s m args below meth c C Y A 2 (MQ below (va_Qi post (ky_B C Y A) A) args s 0 0 A) 0 [(0, .ref (Y.2.1 k0)), (1, .int v1)] [] I
  refine kg_iload_n X 1 dX4_isCorner_0 rfl rfl ?_
  refine kg_iconst (v := (2 : Int32)) X dX4_isCorner_1 (by decide) ?_
  refine kg_icmp_eq (tgt := 17) X dX4_isCorner_2 (by decide) (fun h4 => ?_) (fun h4 => ?_)
  · have hw := hw.1 h4
    refine kg_iconst (v := (1 : Int32)) X dX4_isCorner_17 (by decide) ?_
    refine kg_goto (tgt := 22) X dX4_isCorner_18 (by decide) ?_
    exact kg_zret X hr (by decide) hw dX4_isCorner_22
  · have hw := hw.2 h4
    refine kg_iload_n X 1 dX4_isCorner_5 rfl rfl ?_
    refine kg_if_lt (tgt := 21) X dX4_isCorner_6 (by decide) (fun h3 => ?_) (fun h3 => ?_)
    · have hw := hw.1 h3
      refine kg_iconst (v := (0 : Int32)) X dX4_isCorner_21 (by decide) ?_
      exact kg_zret X hr (by decide) hw dX4_isCorner_22
    · have hw := hw.2 h3
      refine kg_iload_n X 1 dX4_isCorner_9 rfl rfl ?_
      refine kg_aload_n X 0 dX4_isCorner_10 rfl rfl ?_
      obtain ⟨h1, hw⟩ := hw
      refine kg_getI (j := 0) X kc_4 h1 (by decide) (by decide) rfl kw_116 dX4_isCorner_11 ?_
      refine kg_icmp_ge (tgt := 21) X dX4_isCorner_14 (by decide) (fun h2 => ?_) (fun h2 => ?_)
      · have hw := hw.1 h2
        refine kg_iconst (v := (0 : Int32)) X dX4_isCorner_21 (by decide) ?_
        exact kg_zret X hr (by decide) hw dX4_isCorner_22
      · have hw := hw.2 h2
        refine kg_iconst (v := (1 : Int32)) X dX4_isCorner_17 (by decide) ?_
        refine kg_goto (tgt := 22) X dX4_isCorner_18 (by decide) ?_
        exact kg_zret X hr (by decide) hw dX4_isCorner_22
end
abbrev rm_X4_areTwoCorners : Room := { frames := 1, cells := 0, slots := 0, locals := 21 }
section
variable {p : Program} {l : Launch} {e : Env} {s : State} {m : MethodId} {args : Array Value} {below : List Frame} {meth : Method} {c : Code} {C : Cc} {Y : Ly} {A : Nat → Prop}
def w_X4_areTwoCorners (Y : Ly) (I : Mm) (k0 : Nat) (v1 : Int32) (v2 : Int32) (post : Int32 → Mm → Prop) : Prop := (ky_is Y k0 4 ∧ w_X4_isCorner Y I k0 v1 (fun r2 I1 => ((r2 = 0 → post (0 : Int32) I1) ∧ (¬ r2 = 0 → w_X4_isCorner Y I1 k0 v2 (fun r5 I4 => ((r5 = 0 → post (0 : Int32) I4) ∧ (¬ r5 = 0 → ((v1 = v2 → post (0 : Int32) I4) ∧ (¬ v1 = v2 → post (1 : Int32) I4)))))))))
set_option maxHeartbeats 4000000 in
set_option maxRecDepth 100000 in
theorem c_X4_areTwoCorners (l : Launch) (C : Cc) (Y : Ly) (A : Nat → Prop) (I : Mm) (k0 : Nat) (v1 : Int32) (v2 : Int32) (post : Int32 → Mm → Prop) (hw : w_X4_areTwoCorners Y I k0 v1 v2 post) : ky_MI l yX4_areTwoCorners cX4_areTwoCorners 3 (some .boolean) rm_X4_areTwoCorners C Y A I [.ref (Y.2.1 k0), .int v1, .int v2] post := by
  refine ky_met (by decide) (Nat.le_of_ble_eq_true rfl) ?_
  intro p e s m args below meth c X hr
  have X : ky_X p s m args meth c C cX4_areTwoCorners 3 RX4 := X
  show ky_G p l e rm_X4_areTwoCorners s m args below meth c C Y A 3 (MQ below (va_Qi post (ky_B C Y A) A) args s 0 0 A) 0 [(0, .ref (Y.2.1 k0)), (1, .int v1), (2, .int v2)] [] I
  refine kg_aload_n X 0 dX4_areTwoCorners_0 rfl rfl ?_
  refine kg_iload_n X 1 dX4_areTwoCorners_1 rfl rfl ?_
  obtain ⟨h3, hw⟩ := hw
  refine kg_callVi (n := 1) (As := [.int v1]) X (c_X4_isCorner l C Y A I k0 v1 _ hw) kc_4 h3 rfl iv_X4_isCorner kw_415 (by decide +kernel) (by decide) rfl rfl (Nat.le_of_ble_eq_true rfl) dX4_areTwoCorners_2 (fun r2 I1 hw => ?_)
  refine kg_if_eq (tgt := 25) X dX4_areTwoCorners_5 (by decide) (fun h8 => ?_) (fun h8 => ?_)
  · have hw := hw.1 h8
    refine kg_iconst (v := (0 : Int32)) X dX4_areTwoCorners_25 (by decide) ?_
    exact kg_zret X hr (by decide) hw dX4_areTwoCorners_26
  · have hw := hw.2 h8
    refine kg_aload_n X 0 dX4_areTwoCorners_8 rfl rfl ?_
    refine kg_iload_n X 2 dX4_areTwoCorners_9 rfl rfl ?_
    refine kg_callVi (n := 1) (As := [.int v2]) X (c_X4_isCorner l C Y A I1 k0 v2 _ hw) kc_4 h3 rfl iv_X4_isCorner kw_415 (by decide +kernel) (by decide) rfl rfl (Nat.le_of_ble_eq_true rfl) dX4_areTwoCorners_10 (fun r5 I4 hw => ?_)
    refine kg_if_eq (tgt := 25) X dX4_areTwoCorners_13 (by decide) (fun h7 => ?_) (fun h7 => ?_)
    · have hw := hw.1 h7
      refine kg_iconst (v := (0 : Int32)) X dX4_areTwoCorners_25 (by decide) ?_
      exact kg_zret X hr (by decide) hw dX4_areTwoCorners_26
    · have hw := hw.2 h7
      refine kg_iload_n X 1 dX4_areTwoCorners_16 rfl rfl ?_
      refine kg_iload_n X 2 dX4_areTwoCorners_17 rfl rfl ?_
      refine kg_icmp_eq (tgt := 25) X dX4_areTwoCorners_18 (by decide) (fun h6 => ?_) (fun h6 => ?_)
      · have hw := hw.1 h6
        refine kg_iconst (v := (0 : Int32)) X dX4_areTwoCorners_25 (by decide) ?_
        exact kg_zret X hr (by decide) hw dX4_areTwoCorners_26
      · have hw := hw.2 h6
        refine kg_iconst (v := (1 : Int32)) X dX4_areTwoCorners_21 (by decide) ?_
        refine kg_goto (tgt := 26) X dX4_areTwoCorners_22 (by decide) ?_
        exact kg_zret X hr (by decide) hw dX4_areTwoCorners_26
end
abbrev rm_X6_isLimit : Room := { frames := 0, cells := 0, slots := 0, locals := 0 }
section
variable {p : Program} {l : Launch} {e : Env} {s : State} {m : MethodId} {args : Array Value} {below : List Frame} {meth : Method} {c : Code} {C : Cc} {Y : Ly} {A : Nat → Prop}
def w_X6_isLimit (Y : Ly) (I : Mm) (v0 : Int32) (post : Int32 → Mm → Prop) : Prop := ((v0 < (-1000 : Int32) → post (0 : Int32) I) ∧ (¬ v0 < (-1000 : Int32) → (((1000 : Int32) < v0 → post (0 : Int32) I) ∧ (¬ (1000 : Int32) < v0 → post (1 : Int32) I))))
set_option maxHeartbeats 4000000 in
set_option maxRecDepth 100000 in
theorem c_X6_isLimit (l : Launch) (C : Cc) (Y : Ly) (A : Nat → Prop) (I : Mm) (v0 : Int32) (post : Int32 → Mm → Prop) (hw : w_X6_isLimit Y I v0 post) : ky_MI l yX6_isLimit cX6_isLimit 1 (some .boolean) rm_X6_isLimit C Y A I [.int v0] post := by
  refine ky_met (by decide) (Nat.le_of_ble_eq_true rfl) ?_
  intro p e s m args below meth c X hr
  have X : ky_X p s m args meth c C cX6_isLimit 1 RX6 := X
  show ky_G p l e rm_X6_isLimit s m args below meth c C Y A 1 (MQ below (va_Qi post (ky_B C Y A) A) args s 0 0 A) 0 [(0, .int v0)] [] I
  refine kg_iload_n X 0 dX6_isLimit_0 rfl rfl ?_
  refine kg_sipush (v := (-1000 : Int32)) X dX6_isLimit_1 (by decide) ?_
  refine kg_icmp_lt (tgt := 18) X dX6_isLimit_4 (by decide) (fun h2 => ?_) (fun h2 => ?_)
  · have hw := hw.1 h2
    refine kg_iconst (v := (0 : Int32)) X dX6_isLimit_18 (by decide) ?_
    exact kg_zret X hr (by decide) hw dX6_isLimit_19
  · have hw := hw.2 h2
    refine kg_iload_n X 0 dX6_isLimit_7 rfl rfl ?_
    refine kg_sipush (v := (1000 : Int32)) X dX6_isLimit_8 (by decide) ?_
    refine kg_icmp_gt (tgt := 18) X dX6_isLimit_11 (by decide) (fun h1 => ?_) (fun h1 => ?_)
    · have hw := hw.1 h1
      refine kg_iconst (v := (0 : Int32)) X dX6_isLimit_18 (by decide) ?_
      exact kg_zret X hr (by decide) hw dX6_isLimit_19
    · have hw := hw.2 h1
      refine kg_iconst (v := (1 : Int32)) X dX6_isLimit_14 (by decide) ?_
      refine kg_goto (tgt := 19) X dX6_isLimit_15 (by decide) ?_
      exact kg_zret X hr (by decide) hw dX6_isLimit_19
end
abbrev rm_X4_canMark : Room := { frames := 2, cells := 0, slots := 0, locals := 43 }
section
variable {p : Program} {l : Launch} {e : Env} {s : State} {m : MethodId} {args : Array Value} {below : List Frame} {meth : Method} {c : Code} {C : Cc} {Y : Ly} {A : Nat → Prop}
def w_X4_canMark (Y : Ly) (I : Mm) (k0 : Nat) (v1 : Int32) (v2 : Int32) (v3 : Int32) (post : Int32 → Mm → Prop) : Prop := (ky_is Y k0 4 ∧ w_X4_areTwoCorners Y I k0 v1 v2 (fun r2 I1 => ((r2 = 0 → post (0 : Int32) I1) ∧ (¬ r2 = 0 → w_X6_isLimit Y I1 v3 (fun r5 I4 => ((r5 = 0 → post (0 : Int32) I4) ∧ (¬ r5 = 0 → post (1 : Int32) I4)))))))
set_option maxHeartbeats 4000000 in
set_option maxRecDepth 100000 in
theorem c_X4_canMark (l : Launch) (C : Cc) (Y : Ly) (A : Nat → Prop) (I : Mm) (k0 : Nat) (v1 : Int32) (v2 : Int32) (v3 : Int32) (post : Int32 → Mm → Prop) (hw : w_X4_canMark Y I k0 v1 v2 v3 post) : ky_MI l yX4_canMark cX4_canMark 4 (some .boolean) rm_X4_canMark C Y A I [.ref (Y.2.1 k0), .int v1, .int v2, .int v3] post := by
  refine ky_met (by decide) (Nat.le_of_ble_eq_true rfl) ?_
  intro p e s m args below meth c X hr
  have X : ky_X p s m args meth c C cX4_canMark 4 RX4 := X
  show ky_G p l e rm_X4_canMark s m args below meth c C Y A 4 (MQ below (va_Qi post (ky_B C Y A) A) args s 0 0 A) 0 [(0, .ref (Y.2.1 k0)), (1, .int v1), (2, .int v2), (3, .int v3)] [] I
  refine kg_aload_n X 0 dX4_canMark_0 rfl rfl ?_
  refine kg_iload_n X 1 dX4_canMark_1 rfl rfl ?_
  refine kg_iload_n X 2 dX4_canMark_2 rfl rfl ?_
  obtain ⟨h3, hw⟩ := hw
  refine kg_callVi (n := 2) (As := [.int v1, .int v2]) X (c_X4_areTwoCorners l C Y A I k0 v1 v2 _ hw) kc_4 h3 rfl iv_X4_areTwoCorners kw_411 (by decide +kernel) (by decide) rfl rfl (Nat.le_of_ble_eq_true rfl) dX4_canMark_3 (fun r2 I1 hw => ?_)
  refine kg_if_eq (tgt := 20) X dX4_canMark_6 (by decide) (fun h7 => ?_) (fun h7 => ?_)
  · have hw := hw.1 h7
    refine kg_iconst (v := (0 : Int32)) X dX4_canMark_20 (by decide) ?_
    exact kg_zret X hr (by decide) hw dX4_canMark_21
  · have hw := hw.2 h7
    refine kg_iload_n X 3 dX4_canMark_9 rfl rfl ?_
    refine kg_callNi (n := 1) (As := [.int v3]) (host := RX6) X (c_X6_isLimit l C Y A I1 v3 _ hw) is_X6_isLimit (fun h9 => h9.2.1) (by decide +kernel) (by decide) rfl rfl (Nat.le_of_ble_eq_true rfl) dX4_canMark_10 (fun r5 I4 hw => ?_)
    refine kg_if_eq (tgt := 20) X dX4_canMark_13 (by decide) (fun h6 => ?_) (fun h6 => ?_)
    · have hw := hw.1 h6
      refine kg_iconst (v := (0 : Int32)) X dX4_canMark_20 (by decide) ?_
      exact kg_zret X hr (by decide) hw dX4_canMark_21
    · have hw := hw.2 h6
      refine kg_iconst (v := (1 : Int32)) X dX4_canMark_16 (by decide) ?_
      refine kg_goto (tgt := 21) X dX4_canMark_17 (by decide) ?_
      exact kg_zret X hr (by decide) hw dX4_canMark_21
end
abbrev rm_X4_hasMark : Room := { frames := 0, cells := 0, slots := 0, locals := 0 }
section
variable {p : Program} {l : Launch} {e : Env} {s : State} {m : MethodId} {args : Array Value} {below : List Frame} {meth : Method} {c : Code} {C : Cc} {Y : Ly} {A : Nat → Prop}
def w_X4_hasMark_L3 (Y : Ly) (post : Int32 → Mm → Prop) (ex_45 : Mm → Prop) (ex_53 : Mm → Prop) : Nat → Nat → Int32 → Int32 → Int32 → Int32 → Mm → Prop
  | 0, _, _, _, _, _, _ => False
  | n3 + 1, k0, v1, v2, v3, v4, I => (ky_is Y k0 4 ∧ (((I k0 1) ≤ v4 → ex_53 I) ∧ (¬ (I k0 1) ≤ v4 → (ky_is Y (ky_rp Y k0 2) 8 ∧ (vp_in v4 (ky_ln Y (ky_rp Y k0 2)) ∧ ((¬ (I (ky_rp Y k0 2) v4.toNatClampNeg) = v1 → (∀ x4 : Int32, x4 = v4 + (1 : Int32) → w_X4_hasMark_L3 Y post ex_45 ex_53 n3 k0 v1 v2 v3 x4 I)) ∧ ((I (ky_rp Y k0 2) v4.toNatClampNeg) = v1 → (ky_is Y (ky_rp Y k0 3) 8 ∧ (vp_in v4 (ky_ln Y (ky_rp Y k0 3)) ∧ ((¬ (I (ky_rp Y k0 3) v4.toNatClampNeg) = v2 → (∀ x7 : Int32, x7 = v4 + (1 : Int32) → w_X4_hasMark_L3 Y post ex_45 ex_53 n3 k0 v1 v2 v3 x7 I)) ∧ ((I (ky_rp Y k0 3) v4.toNatClampNeg) = v2 → (ky_is Y (ky_rp Y k0 4) 8 ∧ (vp_in v4 (ky_ln Y (ky_rp Y k0 4)) ∧ ((¬ (I (ky_rp Y k0 4) v4.toNatClampNeg) = v3 → (∀ x10 : Int32, x10 = v4 + (1 : Int32) → w_X4_hasMark_L3 Y post ex_45 ex_53 n3 k0 v1 v2 v3 x10 I)) ∧ ((I (ky_rp Y k0 4) v4.toNatClampNeg) = v3 → ex_45 I)))))))))))))))
set_option maxHeartbeats 4000000 in
set_option maxRecDepth 100000 in
theorem s_X4_hasMark_L3 (X : ky_X p s m args meth c C cX4_hasMark 5 RX4) (hr : meth.sig.returnType = some .boolean) (post : Int32 → Mm → Prop) (ex_45 : Mm → Prop) (ex_53 : Mm → Prop) (hx_45 : ∀ (J : Mm), ex_45 J → ky_G p l e rm_X4_hasMark s m args below meth c C Y A 5 (MQ below (va_Qi post (ky_B C Y A) A) args s 0 0 A) 45 [] [] J) (hx_53 : ∀ (J : Mm), ex_53 J → ky_G p l e rm_X4_hasMark s m args below meth c C Y A 5 (MQ below (va_Qi post (ky_B C Y A) A) args s 0 0 A) 53 [] [] J) : ∀ (n3 : Nat) (k0 : Nat) (v1 : Int32) (v2 : Int32) (v3 : Int32) (v4 : Int32) (I : Mm), w_X4_hasMark_L3 Y post ex_45 ex_53 n3 k0 v1 v2 v3 v4 I → ky_G p l e rm_X4_hasMark s m args below meth c C Y A 5 (MQ below (va_Qi post (ky_B C Y A) A) args s 0 0 A) 3 [(0, .ref (Y.2.1 k0)), (1, .int v1), (2, .int v2), (3, .int v3), (4, .int v4)] [] I := by
  intro n3
  induction n3 with
  | zero => intro k0 v1 v2 v3 v4 I hw; exact False.elim hw
  | succ n3 ih =>
    intro k0 v1 v2 v3 v4 I hw
    refine kg_iload X 4 dX4_hasMark_3 rfl ?_
    refine kg_aload_n X 0 dX4_hasMark_5 rfl rfl ?_
    obtain ⟨h1, hw⟩ := hw
    refine kg_getI (j := 1) X kc_4 h1 (by decide) (by decide) rfl kw_117 dX4_hasMark_6 ?_
    refine kg_icmp_ge (tgt := 53) X dX4_hasMark_9 (by decide) (fun h14 => ?_) (fun h14 => ?_)
    · have hw := hw.1 h14
      refine kg_sub [] rfl ?_
      exact hx_53 _  hw
    · have hw := hw.2 h14
      refine kg_aload_n X 0 dX4_hasMark_12 rfl rfl ?_
      refine kg_getR (j := 2) X kc_4 h1 (by decide) (by decide) rfl kw_119 dX4_hasMark_13 ?_
      refine kg_iload X 4 dX4_hasMark_16 rfl ?_
      obtain ⟨h2, hw⟩ := hw
      obtain ⟨h3, hw⟩ := hw
      refine kg_iald X h2 h3 dX4_hasMark_18 ?_
      refine kg_iload_n X 1 dX4_hasMark_19 rfl rfl ?_
      refine kg_icmp_ne (tgt := 47) X dX4_hasMark_20 (by decide) (fun h13 => ?_) (fun h13 => ?_)
      · have hw := hw.1 h13
        refine kg_iinc (dd := (1 : Int32)) (lvf := fun x4 => [(4, .int x4), (0, .ref (Y.2.1 k0)), (1, .int v1), (2, .int v2), (3, .int v3)]) X 4 dX4_hasMark_47 rfl (by decide) (by decide) (fun _ => rfl) (fun x4 ex4 => ?_)
        have hw := hw x4 ex4
        refine kg_goto (tgt := 3) X dX4_hasMark_50 (by decide) ?_
        refine kg_sub [1, 2, 3, 4, 0] rfl ?_
        exact ih _ _ _ _ _ _  hw
      · have hw := hw.2 h13
        refine kg_aload_n X 0 dX4_hasMark_23 rfl rfl ?_
        refine kg_getR (j := 3) X kc_4 h1 (by decide) (by decide) rfl kw_121 dX4_hasMark_24 ?_
        refine kg_iload X 4 dX4_hasMark_27 rfl ?_
        obtain ⟨h5, hw⟩ := hw
        obtain ⟨h6, hw⟩ := hw
        refine kg_iald X h5 h6 dX4_hasMark_29 ?_
        refine kg_iload_n X 2 dX4_hasMark_30 rfl rfl ?_
        refine kg_icmp_ne (tgt := 47) X dX4_hasMark_31 (by decide) (fun h12 => ?_) (fun h12 => ?_)
        · have hw := hw.1 h12
          refine kg_iinc (dd := (1 : Int32)) (lvf := fun x7 => [(4, .int x7), (0, .ref (Y.2.1 k0)), (1, .int v1), (2, .int v2), (3, .int v3)]) X 4 dX4_hasMark_47 rfl (by decide) (by decide) (fun _ => rfl) (fun x7 ex7 => ?_)
          have hw := hw x7 ex7
          refine kg_goto (tgt := 3) X dX4_hasMark_50 (by decide) ?_
          refine kg_sub [1, 2, 3, 4, 0] rfl ?_
          exact ih _ _ _ _ _ _  hw
        · have hw := hw.2 h12
          refine kg_aload_n X 0 dX4_hasMark_34 rfl rfl ?_
          refine kg_getR (j := 4) X kc_4 h1 (by decide) (by decide) rfl kw_123 dX4_hasMark_35 ?_
          refine kg_iload X 4 dX4_hasMark_38 rfl ?_
          obtain ⟨h8, hw⟩ := hw
          obtain ⟨h9, hw⟩ := hw
          refine kg_iald X h8 h9 dX4_hasMark_40 ?_
          refine kg_iload_n X 3 dX4_hasMark_41 rfl rfl ?_
          refine kg_icmp_ne (tgt := 47) X dX4_hasMark_42 (by decide) (fun h11 => ?_) (fun h11 => ?_)
          · have hw := hw.1 h11
            refine kg_iinc (dd := (1 : Int32)) (lvf := fun x10 => [(4, .int x10), (0, .ref (Y.2.1 k0)), (1, .int v1), (2, .int v2), (3, .int v3)]) X 4 dX4_hasMark_47 rfl (by decide) (by decide) (fun _ => rfl) (fun x10 ex10 => ?_)
            have hw := hw x10 ex10
            refine kg_goto (tgt := 3) X dX4_hasMark_50 (by decide) ?_
            refine kg_sub [1, 2, 3, 4, 0] rfl ?_
            exact ih _ _ _ _ _ _  hw
          · have hw := hw.2 h11
            refine kg_sub [] rfl ?_
            exact hx_45 _  hw
def w_X4_hasMark (Y : Ly) (I : Mm) (k0 : Nat) (v1 : Int32) (v2 : Int32) (v3 : Int32) (post : Int32 → Mm → Prop) : Prop := (∃ n3 : Nat, w_X4_hasMark_L3 Y post (fun I15 => post (1 : Int32) I15) (fun I16 => post (0 : Int32) I16) n3 k0 v1 v2 v3 (0 : Int32) I)
set_option maxHeartbeats 4000000 in
set_option maxRecDepth 100000 in
theorem c_X4_hasMark (l : Launch) (C : Cc) (Y : Ly) (A : Nat → Prop) (I : Mm) (k0 : Nat) (v1 : Int32) (v2 : Int32) (v3 : Int32) (post : Int32 → Mm → Prop) (hw : w_X4_hasMark Y I k0 v1 v2 v3 post) : ky_MI l yX4_hasMark cX4_hasMark 5 (some .boolean) rm_X4_hasMark C Y A I [.ref (Y.2.1 k0), .int v1, .int v2, .int v3] post := by
  refine ky_met (by decide) (Nat.le_of_ble_eq_true rfl) ?_
  intro p e s m args below meth c X hr
  have X : ky_X p s m args meth c C cX4_hasMark 5 RX4 := X
  show ky_G p l e rm_X4_hasMark s m args below meth c C Y A 5 (MQ below (va_Qi post (ky_B C Y A) A) args s 0 0 A) 0 [(0, .ref (Y.2.1 k0)), (1, .int v1), (2, .int v2), (3, .int v3)] [] I
  refine kg_iconst (v := (0 : Int32)) X dX4_hasMark_0 (by decide) ?_
  refine kg_istore (lv' := [(4, .int (0 : Int32)), (0, .ref (Y.2.1 k0)), (1, .int v1), (2, .int v2), (3, .int v3)]) X dX4_hasMark_1 (by decide) rfl ?_
  obtain ⟨n3, hw⟩ := hw
  refine kg_sub [1, 2, 3, 4, 0] rfl ?_
  refine s_X4_hasMark_L3 X hr post _ _ ?_ ?_ n3 _ _ _ _ _ _  hw
  · intro I15 hw
    refine kg_iconst (v := (1 : Int32)) X dX4_hasMark_45 (by decide) ?_
    exact kg_zret X hr (by decide) hw dX4_hasMark_46
  · intro I16 hw
    refine kg_iconst (v := (0 : Int32)) X dX4_hasMark_53 (by decide) ?_
    exact kg_zret X hr (by decide) hw dX4_hasMark_54
end
abbrev rm_X4_addMark : Room := { frames := 0, cells := 0, slots := 0, locals := 0 }
section
variable {p : Program} {l : Launch} {e : Env} {s : State} {m : MethodId} {args : Array Value} {below : List Frame} {meth : Method} {c : Code} {C : Cc} {Y : Ly} {A : Nat → Prop}
def w_X4_addMark (Y : Ly) (I : Mm) (k0 : Nat) (v1 : Int32) (v2 : Int32) (v3 : Int32) (post : Mm → Prop) : Prop := (ky_is Y k0 4 ∧ (ky_is Y (ky_rp Y k0 2) 8 ∧ (vp_in (I k0 1) (ky_ln Y (ky_rp Y k0 2)) ∧ (∀ I4 : Mm, I4 = ky_up I (ky_rp Y k0 2) (I k0 1).toNatClampNeg v1 → (ky_is Y (ky_rp Y k0 3) 8 ∧ (vp_in (I4 k0 1) (ky_ln Y (ky_rp Y k0 3)) ∧ (∀ I7 : Mm, I7 = ky_up I4 (ky_rp Y k0 3) (I4 k0 1).toNatClampNeg v2 → (ky_is Y (ky_rp Y k0 4) 8 ∧ (vp_in (I7 k0 1) (ky_ln Y (ky_rp Y k0 4)) ∧ (∀ I10 : Mm, I10 = ky_up I7 (ky_rp Y k0 4) (I7 k0 1).toNatClampNeg v3 → (∀ I11 : Mm, I11 = ky_up I10 k0 1 ((I10 k0 1) + (1 : Int32)) → post I11)))))))))))
set_option maxHeartbeats 4000000 in
set_option maxRecDepth 100000 in
theorem c_X4_addMark (l : Launch) (C : Cc) (Y : Ly) (A : Nat → Prop) (I : Mm) (k0 : Nat) (v1 : Int32) (v2 : Int32) (v3 : Int32) (post : Mm → Prop) (hw : w_X4_addMark Y I k0 v1 v2 v3 post) : ky_MV l yX4_addMark cX4_addMark 4 rm_X4_addMark C Y A I [.ref (Y.2.1 k0), .int v1, .int v2, .int v3] post := by
  refine ky_met (by decide) (Nat.le_of_ble_eq_true rfl) ?_
  intro p e s m args below meth c X hr
  have X : ky_X p s m args meth c C cX4_addMark 4 RX4 := X
  show ky_G p l e rm_X4_addMark s m args below meth c C Y A 4 (MQ below (va_Qv post (ky_B C Y A) A) args s 0 0 A) 0 [(0, .ref (Y.2.1 k0)), (1, .int v1), (2, .int v2), (3, .int v3)] [] I
  refine kg_aload_n X 0 dX4_addMark_0 rfl rfl ?_
  obtain ⟨h1, hw⟩ := hw
  refine kg_getR (j := 2) X kc_4 h1 (by decide) (by decide) rfl kw_119 dX4_addMark_1 ?_
  refine kg_aload_n X 0 dX4_addMark_4 rfl rfl ?_
  refine kg_getI (j := 1) X kc_4 h1 (by decide) (by decide) rfl kw_117 dX4_addMark_5 ?_
  refine kg_iload_n X 1 dX4_addMark_8 rfl rfl ?_
  obtain ⟨h2, hw⟩ := hw
  obtain ⟨h3, hw⟩ := hw
  refine kg_iast X h2 h3 dX4_addMark_9 ?_
  refine kg_topm (fun I4 eI4 => ?_)
  have hw := hw I4 eI4
  refine kg_aload_n X 0 dX4_addMark_10 rfl rfl ?_
  refine kg_getR (j := 3) X kc_4 h1 (by decide) (by decide) rfl kw_121 dX4_addMark_11 ?_
  refine kg_aload_n X 0 dX4_addMark_14 rfl rfl ?_
  refine kg_getI (j := 1) X kc_4 h1 (by decide) (by decide) rfl kw_117 dX4_addMark_15 ?_
  refine kg_iload_n X 2 dX4_addMark_18 rfl rfl ?_
  obtain ⟨h5, hw⟩ := hw
  obtain ⟨h6, hw⟩ := hw
  refine kg_iast X h5 h6 dX4_addMark_19 ?_
  refine kg_topm (fun I7 eI7 => ?_)
  have hw := hw I7 eI7
  refine kg_aload_n X 0 dX4_addMark_20 rfl rfl ?_
  refine kg_getR (j := 4) X kc_4 h1 (by decide) (by decide) rfl kw_123 dX4_addMark_21 ?_
  refine kg_aload_n X 0 dX4_addMark_24 rfl rfl ?_
  refine kg_getI (j := 1) X kc_4 h1 (by decide) (by decide) rfl kw_117 dX4_addMark_25 ?_
  refine kg_iload_n X 3 dX4_addMark_28 rfl rfl ?_
  obtain ⟨h8, hw⟩ := hw
  obtain ⟨h9, hw⟩ := hw
  refine kg_iast X h8 h9 dX4_addMark_29 ?_
  refine kg_topm (fun I10 eI10 => ?_)
  have hw := hw I10 eI10
  refine kg_aload_n X 0 dX4_addMark_30 rfl rfl ?_
  refine kg_dup X dX4_addMark_31 rfl ?_
  refine kg_getI (j := 1) X kc_4 h1 (by decide) (by decide) rfl kw_117 dX4_addMark_32 ?_
  refine kg_iconst (v := (1 : Int32)) X dX4_addMark_35 (by decide) ?_
  refine kg_iadd X dX4_addMark_36 ?_
  refine kg_putI (ci := 4) (Tn := TX4) (j := 1) (ty := .int) X tyX4 tyX4_ok nmX4 kc_4 h1 (by decide) (by decide) rfl kw_117 (by decide +kernel) rfl rfl dX4_addMark_37 ?_
  refine kg_topm (fun I11 eI11 => ?_)
  have hw := hw I11 eI11
  exact kg_vret X hr hw dX4_addMark_40
end
abbrev rm_X6_isVariable : Room := { frames := 0, cells := 0, slots := 0, locals := 0 }
section
variable {p : Program} {l : Launch} {e : Env} {s : State} {m : MethodId} {args : Array Value} {below : List Frame} {meth : Method} {c : Code} {C : Cc} {Y : Ly} {A : Nat → Prop}
def w_X6_isVariable (Y : Ly) (I : Mm) (v0 : Int32) (post : Int32 → Mm → Prop) : Prop := ((v0 < 0 → post (0 : Int32) I) ∧ (¬ v0 < 0 → (((5 : Int32) ≤ v0 → post (0 : Int32) I) ∧ (¬ (5 : Int32) ≤ v0 → post (1 : Int32) I))))
set_option maxHeartbeats 4000000 in
set_option maxRecDepth 100000 in
theorem c_X6_isVariable (l : Launch) (C : Cc) (Y : Ly) (A : Nat → Prop) (I : Mm) (v0 : Int32) (post : Int32 → Mm → Prop) (hw : w_X6_isVariable Y I v0 post) : ky_MI l yX6_isVariable cX6_isVariable 1 (some .boolean) rm_X6_isVariable C Y A I [.int v0] post := by
  refine ky_met (by decide) (Nat.le_of_ble_eq_true rfl) ?_
  intro p e s m args below meth c X hr
  have X : ky_X p s m args meth c C cX6_isVariable 1 RX6 := X
  show ky_G p l e rm_X6_isVariable s m args below meth c C Y A 1 (MQ below (va_Qi post (ky_B C Y A) A) args s 0 0 A) 0 [(0, .int v0)] [] I
  refine kg_iload_n X 0 dX6_isVariable_0 rfl rfl ?_
  refine kg_if_lt (tgt := 13) X dX6_isVariable_1 (by decide) (fun h2 => ?_) (fun h2 => ?_)
  · have hw := hw.1 h2
    refine kg_iconst (v := (0 : Int32)) X dX6_isVariable_13 (by decide) ?_
    exact kg_zret X hr (by decide) hw dX6_isVariable_14
  · have hw := hw.2 h2
    refine kg_iload_n X 0 dX6_isVariable_4 rfl rfl ?_
    refine kg_iconst (v := (5 : Int32)) X dX6_isVariable_5 (by decide) ?_
    refine kg_icmp_ge (tgt := 13) X dX6_isVariable_6 (by decide) (fun h1 => ?_) (fun h1 => ?_)
    · have hw := hw.1 h1
      refine kg_iconst (v := (0 : Int32)) X dX6_isVariable_13 (by decide) ?_
      exact kg_zret X hr (by decide) hw dX6_isVariable_14
    · have hw := hw.2 h1
      refine kg_iconst (v := (1 : Int32)) X dX6_isVariable_9 (by decide) ?_
      refine kg_goto (tgt := 14) X dX6_isVariable_10 (by decide) ?_
      exact kg_zret X hr (by decide) hw dX6_isVariable_14
end
abbrev rm_X6_isLiteral : Room := { frames := 1, cells := 0, slots := 0, locals := 21 }
section
variable {p : Program} {l : Launch} {e : Env} {s : State} {m : MethodId} {args : Array Value} {below : List Frame} {meth : Method} {c : Code} {C : Cc} {Y : Ly} {A : Nat → Prop}
def w_X6_isLiteral (Y : Ly) (I : Mm) (k0 : Nat) (v1 : Int32) (v2 : Int32) (v3 : Int32) (post : Int32 → Mm → Prop) : Prop := (ky_is Y k0 6 ∧ w_X6_isRelation Y I k0 v1 (fun r2 I1 => ((r2 = 0 → post (0 : Int32) I1) ∧ (¬ r2 = 0 → w_X6_isVariable Y I1 v2 (fun r5 I4 => ((r5 = 0 → post (0 : Int32) I4) ∧ (¬ r5 = 0 → (ky_is Y (ky_rp Y k0 0) 12 ∧ (vp_in v1 (ky_ln Y (ky_rp Y k0 0)) ∧ (ky_is Y (ky_rp Y (ky_rp Y k0 0) v1.toNatClampNeg) 4 ∧ (((I4 (ky_rp Y (ky_rp Y k0 0) v1.toNatClampNeg) 0) = (1 : Int32) → post (1 : Int32) I4) ∧ (¬ (I4 (ky_rp Y (ky_rp Y k0 0) v1.toNatClampNeg) 0) = (1 : Int32) → w_X6_isVariable Y I4 v3 (fun r10 I9 => ((r10 = 0 → post (0 : Int32) I9) ∧ (¬ r10 = 0 → post (1 : Int32) I9)))))))))))))))
set_option maxHeartbeats 4000000 in
set_option maxRecDepth 100000 in
theorem c_X6_isLiteral (l : Launch) (C : Cc) (Y : Ly) (A : Nat → Prop) (I : Mm) (k0 : Nat) (v1 : Int32) (v2 : Int32) (v3 : Int32) (post : Int32 → Mm → Prop) (hw : w_X6_isLiteral Y I k0 v1 v2 v3 post) : ky_MI l yX6_isLiteral cX6_isLiteral 4 (some .boolean) rm_X6_isLiteral C Y A I [.ref (Y.2.1 k0), .int v1, .int v2, .int v3] post := by
  refine ky_met (by decide) (Nat.le_of_ble_eq_true rfl) ?_
  intro p e s m args below meth c X hr
  have X : ky_X p s m args meth c C cX6_isLiteral 4 RX6 := X
  show ky_G p l e rm_X6_isLiteral s m args below meth c C Y A 4 (MQ below (va_Qi post (ky_B C Y A) A) args s 0 0 A) 0 [(0, .ref (Y.2.1 k0)), (1, .int v1), (2, .int v2), (3, .int v3)] [] I
  refine kg_aload_n X 0 dX6_isLiteral_0 rfl rfl ?_
  refine kg_iload_n X 1 dX6_isLiteral_1 rfl rfl ?_
  obtain ⟨h3, hw⟩ := hw
  refine kg_callVi (n := 1) (As := [.int v1]) X (c_X6_isRelation l C Y A I k0 v1 _ hw) kc_6 h3 rfl iv_X6_isRelation kw_403 (by decide +kernel) (by decide) rfl rfl (Nat.le_of_ble_eq_true rfl) dX6_isLiteral_2 (fun r2 I1 hw => ?_)
  refine kg_if_eq (tgt := 39) X dX6_isLiteral_5 (by decide) (fun h14 => ?_) (fun h14 => ?_)
  · have hw := hw.1 h14
    refine kg_iconst (v := (0 : Int32)) X dX6_isLiteral_39 (by decide) ?_
    exact kg_zret X hr (by decide) hw dX6_isLiteral_40
  · have hw := hw.2 h14
    refine kg_iload_n X 2 dX6_isLiteral_8 rfl rfl ?_
    refine kg_callSi (n := 1) (As := [.int v2]) X (c_X6_isVariable l C Y A I1 v2 _ hw) rfl is_X6_isVariable kw_443 (by decide +kernel) (by decide) rfl rfl (Nat.le_of_ble_eq_true rfl) dX6_isLiteral_9 (fun r5 I4 hw => ?_)
    refine kg_if_eq (tgt := 39) X dX6_isLiteral_12 (by decide) (fun h13 => ?_) (fun h13 => ?_)
    · have hw := hw.1 h13
      refine kg_iconst (v := (0 : Int32)) X dX6_isLiteral_39 (by decide) ?_
      exact kg_zret X hr (by decide) hw dX6_isLiteral_40
    · have hw := hw.2 h13
      refine kg_aload_n X 0 dX6_isLiteral_15 rfl rfl ?_
      refine kg_getR (j := 0) X kc_6 h3 (by decide) (by decide) rfl kw_199 dX6_isLiteral_16 ?_
      refine kg_iload_n X 1 dX6_isLiteral_19 rfl rfl ?_
      obtain ⟨h6, hw⟩ := hw
      obtain ⟨h7, hw⟩ := hw
      refine kg_aald (kc := 12) X 4 rfl (by decide) h6 h7 dX6_isLiteral_20 ?_
      obtain ⟨h8, hw⟩ := hw
      refine kg_getI (j := 0) X kc_4 h8 (by decide) (by decide) rfl kw_115 dX6_isLiteral_21 ?_
      refine kg_iconst (v := (1 : Int32)) X dX6_isLiteral_24 (by decide) ?_
      refine kg_icmp_eq (tgt := 35) X dX6_isLiteral_25 (by decide) (fun h12 => ?_) (fun h12 => ?_)
      · have hw := hw.1 h12
        refine kg_iconst (v := (1 : Int32)) X dX6_isLiteral_35 (by decide) ?_
        refine kg_goto (tgt := 40) X dX6_isLiteral_36 (by decide) ?_
        exact kg_zret X hr (by decide) hw dX6_isLiteral_40
      · have hw := hw.2 h12
        refine kg_iload_n X 3 dX6_isLiteral_28 rfl rfl ?_
        refine kg_callSi (n := 1) (As := [.int v3]) X (c_X6_isVariable l C Y A I4 v3 _ hw) rfl is_X6_isVariable kw_443 (by decide +kernel) (by decide) rfl rfl (Nat.le_of_ble_eq_true rfl) dX6_isLiteral_29 (fun r10 I9 hw => ?_)
        refine kg_if_eq (tgt := 39) X dX6_isLiteral_32 (by decide) (fun h11 => ?_) (fun h11 => ?_)
        · have hw := hw.1 h11
          refine kg_iconst (v := (0 : Int32)) X dX6_isLiteral_39 (by decide) ?_
          exact kg_zret X hr (by decide) hw dX6_isLiteral_40
        · have hw := hw.2 h11
          refine kg_iconst (v := (1 : Int32)) X dX6_isLiteral_35 (by decide) ?_
          refine kg_goto (tgt := 40) X dX6_isLiteral_36 (by decide) ?_
          exact kg_zret X hr (by decide) hw dX6_isLiteral_40
end
abbrev rm_X6_fill : Room := { frames := 0, cells := 0, slots := 0, locals := 0 }
section
variable {p : Program} {l : Launch} {e : Env} {s : State} {m : MethodId} {args : Array Value} {below : List Frame} {meth : Method} {c : Code} {C : Cc} {Y : Ly} {A : Nat → Prop}
def w_X6_fill_B16 (Y : Ly) (post : Mm → Prop) (k0 : Nat) (k1 : Nat) (v2 : Int32) (v4 : Int32) (s0 : Int32) (t1 : Nat) (I : Mm) : Prop := (ky_is Y t1 2 ∧ (∀ I4 : Mm, I4 = ky_up I t1 1 s0 → ((v2 = (-1 : Int32) → (ky_is Y k1 2 ∧ (∀ I6 : Mm, I6 = ky_up I4 k1 2 (0 : Int32) → post I6))) ∧ (¬ v2 = (-1 : Int32) → (ky_is Y k0 6 ∧ (ky_is Y (ky_rp Y k0 0) 12 ∧ (vp_in v2 (ky_ln Y (ky_rp Y k0 0)) ∧ (ky_is Y (ky_rp Y (ky_rp Y k0 0) v2.toNatClampNeg) 4 ∧ ((¬ (I4 (ky_rp Y (ky_rp Y k0 0) v2.toNatClampNeg) 0) = (1 : Int32) → (ky_is Y k1 2 ∧ (∀ I12 : Mm, I12 = ky_up I4 k1 2 v4 → post I12))) ∧ ((I4 (ky_rp Y (ky_rp Y k0 0) v2.toNatClampNeg) 0) = (1 : Int32) → (ky_is Y k1 2 ∧ (∀ I14 : Mm, I14 = ky_up I4 k1 2 (0 : Int32) → post I14))))))))))))
set_option maxHeartbeats 4000000 in
set_option maxRecDepth 100000 in
theorem s_X6_fill_B16 (X : ky_X p s m args meth c C cX6_fill 5 RX6) (hr : meth.sig.returnType = none) (post : Mm → Prop) (k0 : Nat) (k1 : Nat) (v2 : Int32) (v4 : Int32) (s0 : Int32) (t1 : Nat) (I : Mm) (hw : w_X6_fill_B16 Y post k0 k1 v2 v4 s0 t1 I) : ky_G p l e rm_X6_fill s m args below meth c C Y A 5 (MQ below (va_Qv post (ky_B C Y A) A) args s 0 0 A) 16 [(0, .ref (Y.2.1 k0)), (1, .ref (Y.2.1 k1)), (2, .int v2), (4, .int v4)] [.int s0, .ref (Y.2.1 t1)] I := by
  obtain ⟨h3, hw⟩ := hw
  refine kg_putI (ci := 2) (Tn := TX2) (j := 1) (ty := .int) X tyX2 tyX2_ok nmX2 kc_2 h3 (by decide) (by decide) rfl kw_165 (by decide +kernel) rfl rfl dX6_fill_16 ?_
  refine kg_topm (fun I4 eI4 => ?_)
  have hw := hw I4 eI4
  refine kg_aload_n X 1 dX6_fill_19 rfl rfl ?_
  refine kg_iload_n X 2 dX6_fill_20 rfl rfl ?_
  refine kg_iconst (v := (-1 : Int32)) X dX6_fill_21 (by decide) ?_
  refine kg_icmp_eq (tgt := 38) X dX6_fill_22 (by decide) (fun h16 => ?_) (fun h16 => ?_)
  · have hw := hw.1 h16
    refine kg_iconst (v := (0 : Int32)) X dX6_fill_38 (by decide) ?_
    refine kg_goto (tgt := 44) X dX6_fill_39 (by decide) ?_
    obtain ⟨h5, hw⟩ := hw
    refine kg_putI (ci := 2) (Tn := TX2) (j := 2) (ty := .int) X tyX2 tyX2_ok nmX2 kc_2 h5 (by decide) (by decide) rfl kw_167 (by decide +kernel) rfl rfl dX6_fill_44 ?_
    refine kg_topm (fun I6 eI6 => ?_)
    have hw := hw I6 eI6
    exact kg_vret X hr hw dX6_fill_47
  · have hw := hw.2 h16
    refine kg_aload_n X 0 dX6_fill_25 rfl rfl ?_
    obtain ⟨h7, hw⟩ := hw
    refine kg_getR (j := 0) X kc_6 h7 (by decide) (by decide) rfl kw_199 dX6_fill_26 ?_
    refine kg_iload_n X 2 dX6_fill_29 rfl rfl ?_
    obtain ⟨h8, hw⟩ := hw
    obtain ⟨h9, hw⟩ := hw
    refine kg_aald (kc := 12) X 4 rfl (by decide) h8 h9 dX6_fill_30 ?_
    obtain ⟨h10, hw⟩ := hw
    refine kg_getI (j := 0) X kc_4 h10 (by decide) (by decide) rfl kw_115 dX6_fill_31 ?_
    refine kg_iconst (v := (1 : Int32)) X dX6_fill_34 (by decide) ?_
    refine kg_icmp_ne (tgt := 42) X dX6_fill_35 (by decide) (fun h15 => ?_) (fun h15 => ?_)
    · have hw := hw.1 h15
      refine kg_iload X 3 dX6_fill_42 rfl ?_
      obtain ⟨h11, hw⟩ := hw
      refine kg_putI (ci := 2) (Tn := TX2) (j := 2) (ty := .int) X tyX2 tyX2_ok nmX2 kc_2 h11 (by decide) (by decide) rfl kw_167 (by decide +kernel) rfl rfl dX6_fill_44 ?_
      refine kg_topm (fun I12 eI12 => ?_)
      have hw := hw I12 eI12
      exact kg_vret X hr hw dX6_fill_47
    · have hw := hw.2 h15
      refine kg_iconst (v := (0 : Int32)) X dX6_fill_38 (by decide) ?_
      refine kg_goto (tgt := 44) X dX6_fill_39 (by decide) ?_
      obtain ⟨h13, hw⟩ := hw
      refine kg_putI (ci := 2) (Tn := TX2) (j := 2) (ty := .int) X tyX2 tyX2_ok nmX2 kc_2 h13 (by decide) (by decide) rfl kw_167 (by decide +kernel) rfl rfl dX6_fill_44 ?_
      refine kg_topm (fun I14 eI14 => ?_)
      have hw := hw I14 eI14
      exact kg_vret X hr hw dX6_fill_47
def w_X6_fill (Y : Ly) (I : Mm) (k0 : Nat) (k1 : Nat) (v2 : Int32) (v3 : Int32) (v4 : Int32) (post : Mm → Prop) : Prop := (ky_is Y k1 2 ∧ (∀ I2 : Mm, I2 = ky_up I k1 0 v2 → ((¬ v2 = (-1 : Int32) → w_X6_fill_B16 Y post k0 k1 v2 v4 v3 k1 I2) ∧ (v2 = (-1 : Int32) → w_X6_fill_B16 Y post k0 k1 v2 v4 (0 : Int32) k1 I2))))
set_option maxHeartbeats 4000000 in
set_option maxRecDepth 100000 in
theorem c_X6_fill (l : Launch) (C : Cc) (Y : Ly) (A : Nat → Prop) (I : Mm) (k0 : Nat) (k1 : Nat) (v2 : Int32) (v3 : Int32) (v4 : Int32) (post : Mm → Prop) (hw : w_X6_fill Y I k0 k1 v2 v3 v4 post) : ky_MV l yX6_fill cX6_fill 5 rm_X6_fill C Y A I [.ref (Y.2.1 k0), .ref (Y.2.1 k1), .int v2, .int v3, .int v4] post := by
  refine ky_met (by decide) (Nat.le_of_ble_eq_true rfl) ?_
  intro p e s m args below meth c X hr
  have X : ky_X p s m args meth c C cX6_fill 5 RX6 := X
  show ky_G p l e rm_X6_fill s m args below meth c C Y A 5 (MQ below (va_Qv post (ky_B C Y A) A) args s 0 0 A) 0 [(0, .ref (Y.2.1 k0)), (1, .ref (Y.2.1 k1)), (2, .int v2), (3, .int v3), (4, .int v4)] [] I
  refine kg_aload_n X 1 dX6_fill_0 rfl rfl ?_
  refine kg_iload_n X 2 dX6_fill_1 rfl rfl ?_
  obtain ⟨h1, hw⟩ := hw
  refine kg_putI (ci := 2) (Tn := TX2) (j := 0) (ty := .int) X tyX2 tyX2_ok nmX2 kc_2 h1 (by decide) (by decide) rfl kw_163 (by decide +kernel) rfl rfl dX6_fill_2 ?_
  refine kg_topm (fun I2 eI2 => ?_)
  have hw := hw I2 eI2
  refine kg_aload_n X 1 dX6_fill_5 rfl rfl ?_
  refine kg_iload_n X 2 dX6_fill_6 rfl rfl ?_
  refine kg_iconst (v := (-1 : Int32)) X dX6_fill_7 (by decide) ?_
  refine kg_icmp_ne (tgt := 15) X dX6_fill_8 (by decide) (fun h17 => ?_) (fun h17 => ?_)
  · have hw := hw.1 h17
    refine kg_iload_n X 3 dX6_fill_15 rfl rfl ?_
    refine kg_sub [0, 1, 2, 4] rfl ?_
    exact s_X6_fill_B16 X hr post _ _ _ _ _ _ _ hw
  · have hw := hw.2 h17
    refine kg_iconst (v := (0 : Int32)) X dX6_fill_11 (by decide) ?_
    refine kg_goto (tgt := 16) X dX6_fill_12 (by decide) ?_
    refine kg_sub [0, 1, 2, 4] rfl ?_
    exact s_X6_fill_B16 X hr post _ _ _ _ _ _ _ hw
end
abbrev rm_X6_areTwoPoints : Room := { frames := 0, cells := 0, slots := 0, locals := 0 }
section
variable {p : Program} {l : Launch} {e : Env} {s : State} {m : MethodId} {args : Array Value} {below : List Frame} {meth : Method} {c : Code} {C : Cc} {Y : Ly} {A : Nat → Prop}
def w_X6_areTwoPoints (Y : Ly) (I : Mm) (v0 : Int32) (v1 : Int32) (post : Int32 → Mm → Prop) : Prop := ((v0 < 0 → post (0 : Int32) I) ∧ (¬ v0 < 0 → (((6 : Int32) ≤ v0 → post (0 : Int32) I) ∧ (¬ (6 : Int32) ≤ v0 → ((v1 < 0 → post (0 : Int32) I) ∧ (¬ v1 < 0 → (((6 : Int32) ≤ v1 → post (0 : Int32) I) ∧ (¬ (6 : Int32) ≤ v1 → ((v0 = v1 → post (0 : Int32) I) ∧ (¬ v0 = v1 → post (1 : Int32) I))))))))))
set_option maxHeartbeats 4000000 in
set_option maxRecDepth 100000 in
theorem c_X6_areTwoPoints (l : Launch) (C : Cc) (Y : Ly) (A : Nat → Prop) (I : Mm) (v0 : Int32) (v1 : Int32) (post : Int32 → Mm → Prop) (hw : w_X6_areTwoPoints Y I v0 v1 post) : ky_MI l yX6_areTwoPoints cX6_areTwoPoints 2 (some .boolean) rm_X6_areTwoPoints C Y A I [.int v0, .int v1] post := by
  refine ky_met (by decide) (Nat.le_of_ble_eq_true rfl) ?_
  intro p e s m args below meth c X hr
  have X : ky_X p s m args meth c C cX6_areTwoPoints 2 RX6 := X
  show ky_G p l e rm_X6_areTwoPoints s m args below meth c C Y A 2 (MQ below (va_Qi post (ky_B C Y A) A) args s 0 0 A) 0 [(0, .int v0), (1, .int v1)] [] I
  refine kg_iload_n X 0 dX6_areTwoPoints_0 rfl rfl ?_
  refine kg_if_lt (tgt := 29) X dX6_areTwoPoints_1 (by decide) (fun h5 => ?_) (fun h5 => ?_)
  · have hw := hw.1 h5
    refine kg_iconst (v := (0 : Int32)) X dX6_areTwoPoints_29 (by decide) ?_
    exact kg_zret X hr (by decide) hw dX6_areTwoPoints_30
  · have hw := hw.2 h5
    refine kg_iload_n X 0 dX6_areTwoPoints_4 rfl rfl ?_
    refine kg_bipush (v := (6 : Int32)) X dX6_areTwoPoints_5 (by decide) ?_
    refine kg_icmp_ge (tgt := 29) X dX6_areTwoPoints_7 (by decide) (fun h4 => ?_) (fun h4 => ?_)
    · have hw := hw.1 h4
      refine kg_iconst (v := (0 : Int32)) X dX6_areTwoPoints_29 (by decide) ?_
      exact kg_zret X hr (by decide) hw dX6_areTwoPoints_30
    · have hw := hw.2 h4
      refine kg_iload_n X 1 dX6_areTwoPoints_10 rfl rfl ?_
      refine kg_if_lt (tgt := 29) X dX6_areTwoPoints_11 (by decide) (fun h3 => ?_) (fun h3 => ?_)
      · have hw := hw.1 h3
        refine kg_iconst (v := (0 : Int32)) X dX6_areTwoPoints_29 (by decide) ?_
        exact kg_zret X hr (by decide) hw dX6_areTwoPoints_30
      · have hw := hw.2 h3
        refine kg_iload_n X 1 dX6_areTwoPoints_14 rfl rfl ?_
        refine kg_bipush (v := (6 : Int32)) X dX6_areTwoPoints_15 (by decide) ?_
        refine kg_icmp_ge (tgt := 29) X dX6_areTwoPoints_17 (by decide) (fun h2 => ?_) (fun h2 => ?_)
        · have hw := hw.1 h2
          refine kg_iconst (v := (0 : Int32)) X dX6_areTwoPoints_29 (by decide) ?_
          exact kg_zret X hr (by decide) hw dX6_areTwoPoints_30
        · have hw := hw.2 h2
          refine kg_iload_n X 0 dX6_areTwoPoints_20 rfl rfl ?_
          refine kg_iload_n X 1 dX6_areTwoPoints_21 rfl rfl ?_
          refine kg_icmp_eq (tgt := 29) X dX6_areTwoPoints_22 (by decide) (fun h1 => ?_) (fun h1 => ?_)
          · have hw := hw.1 h1
            refine kg_iconst (v := (0 : Int32)) X dX6_areTwoPoints_29 (by decide) ?_
            exact kg_zret X hr (by decide) hw dX6_areTwoPoints_30
          · have hw := hw.2 h1
            refine kg_iconst (v := (1 : Int32)) X dX6_areTwoPoints_25 (by decide) ?_
            refine kg_goto (tgt := 30) X dX6_areTwoPoints_26 (by decide) ?_
            exact kg_zret X hr (by decide) hw dX6_areTwoPoints_30
end
abbrev rm_X3_fill : Room := { frames := 0, cells := 0, slots := 0, locals := 0 }
section
variable {p : Program} {l : Launch} {e : Env} {s : State} {m : MethodId} {args : Array Value} {below : List Frame} {meth : Method} {c : Code} {C : Cc} {Y : Ly} {A : Nat → Prop}
def w_X3_fill (Y : Ly) (I : Mm) (k0 : Nat) (v1 : Int32) (v2 : Int32) (v3 : Int32) (v4 : Int32) (post : Mm → Prop) : Prop := (ky_is Y k0 3 ∧ (∀ I2 : Mm, I2 = ky_up I k0 0 v1 → (∀ I3 : Mm, I3 = ky_up I2 k0 1 v2 → (∀ I4 : Mm, I4 = ky_up I3 k0 2 v3 → (∀ I5 : Mm, I5 = ky_up I4 k0 3 v4 → post I5)))))
set_option maxHeartbeats 4000000 in
set_option maxRecDepth 100000 in
theorem c_X3_fill (l : Launch) (C : Cc) (Y : Ly) (A : Nat → Prop) (I : Mm) (k0 : Nat) (v1 : Int32) (v2 : Int32) (v3 : Int32) (v4 : Int32) (post : Mm → Prop) (hw : w_X3_fill Y I k0 v1 v2 v3 v4 post) : ky_MV l yX3_fill cX3_fill 5 rm_X3_fill C Y A I [.ref (Y.2.1 k0), .int v1, .int v2, .int v3, .int v4] post := by
  refine ky_met (by decide) (Nat.le_of_ble_eq_true rfl) ?_
  intro p e s m args below meth c X hr
  have X : ky_X p s m args meth c C cX3_fill 5 RX3 := X
  show ky_G p l e rm_X3_fill s m args below meth c C Y A 5 (MQ below (va_Qv post (ky_B C Y A) A) args s 0 0 A) 0 [(0, .ref (Y.2.1 k0)), (1, .int v1), (2, .int v2), (3, .int v3), (4, .int v4)] [] I
  refine kg_aload_n X 0 dX3_fill_0 rfl rfl ?_
  refine kg_iload_n X 1 dX3_fill_1 rfl rfl ?_
  obtain ⟨h1, hw⟩ := hw
  refine kg_putI (ci := 3) (Tn := TX3) (j := 0) (ty := .int) X tyX3 tyX3_ok nmX3 kc_3 h1 (by decide) (by decide) rfl kw_62 (by decide +kernel) rfl rfl dX3_fill_2 ?_
  refine kg_topm (fun I2 eI2 => ?_)
  have hw := hw I2 eI2
  refine kg_aload_n X 0 dX3_fill_5 rfl rfl ?_
  refine kg_iload_n X 2 dX3_fill_6 rfl rfl ?_
  refine kg_putI (ci := 3) (Tn := TX3) (j := 1) (ty := .int) X tyX3 tyX3_ok nmX3 kc_3 h1 (by decide) (by decide) rfl kw_64 (by decide +kernel) rfl rfl dX3_fill_7 ?_
  refine kg_topm (fun I3 eI3 => ?_)
  have hw := hw I3 eI3
  refine kg_aload_n X 0 dX3_fill_10 rfl rfl ?_
  refine kg_iload_n X 3 dX3_fill_11 rfl rfl ?_
  refine kg_putI (ci := 3) (Tn := TX3) (j := 2) (ty := .int) X tyX3 tyX3_ok nmX3 kc_3 h1 (by decide) (by decide) rfl kw_66 (by decide +kernel) rfl rfl dX3_fill_12 ?_
  refine kg_topm (fun I4 eI4 => ?_)
  have hw := hw I4 eI4
  refine kg_aload_n X 0 dX3_fill_15 rfl rfl ?_
  refine kg_iload X 4 dX3_fill_16 rfl ?_
  refine kg_putI (ci := 3) (Tn := TX3) (j := 3) (ty := .int) X tyX3 tyX3_ok nmX3 kc_3 h1 (by decide) (by decide) rfl kw_68 (by decide +kernel) rfl rfl dX3_fill_18 ?_
  refine kg_topm (fun I5 eI5 => ?_)
  have hw := hw I5 eI5
  exact kg_vret X hr hw dX3_fill_21
end
abbrev rm_X1_premise : Room := { frames := 0, cells := 0, slots := 0, locals := 0 }
section
variable {p : Program} {l : Launch} {e : Env} {s : State} {m : MethodId} {args : Array Value} {below : List Frame} {meth : Method} {c : Code} {C : Cc} {Y : Ly} {A : Nat → Prop}
def w_X1_premise (Y : Ly) (I : Mm) (k0 : Nat) (v1 : Int32) (v2 : Int32) (post : Int32 → Mm → Prop) : Prop := (ky_is Y k0 1 ∧ ((v1 < (I k0 2) → ((¬ v1 = 0 → post (v2 - v2 / (16 : Int32) * (16 : Int32)) I) ∧ (v1 = 0 → post (v2 / (16 : Int32)) I))) ∧ (¬ v1 < (I k0 2) → post (-1 : Int32) I)))
set_option maxHeartbeats 4000000 in
set_option maxRecDepth 100000 in
theorem c_X1_premise (l : Launch) (C : Cc) (Y : Ly) (A : Nat → Prop) (I : Mm) (k0 : Nat) (v1 : Int32) (v2 : Int32) (post : Int32 → Mm → Prop) (hw : w_X1_premise Y I k0 v1 v2 post) : ky_MI l yX1_premise cX1_premise 3 (some .int) rm_X1_premise C Y A I [.ref (Y.2.1 k0), .int v1, .int v2] post := by
  refine ky_met (by decide) (Nat.le_of_ble_eq_true rfl) ?_
  intro p e s m args below meth c X hr
  have X : ky_X p s m args meth c C cX1_premise 3 RX1 := X
  show ky_G p l e rm_X1_premise s m args below meth c C Y A 3 (MQ below (va_Qi post (ky_B C Y A) A) args s 0 0 A) 0 [(0, .ref (Y.2.1 k0)), (1, .int v1), (2, .int v2)] [] I
  refine kg_iload_n X 1 dX1_premise_0 rfl rfl ?_
  refine kg_aload_n X 0 dX1_premise_1 rfl rfl ?_
  obtain ⟨h1, hw⟩ := hw
  refine kg_getI (j := 2) X kc_1 h1 (by decide) (by decide) rfl kw_183 dX1_premise_2 ?_
  refine kg_icmp_lt (tgt := 10) X dX1_premise_5 (by decide) (fun h3 => ?_) (fun h3 => ?_)
  · have hw := hw.1 h3
    refine kg_iload_n X 1 dX1_premise_10 rfl rfl ?_
    refine kg_if_ne (tgt := 21) X dX1_premise_11 (by decide) (fun h2 => ?_) (fun h2 => ?_)
    · have hw := hw.1 h2
      refine kg_iload_n X 2 dX1_premise_21 rfl rfl ?_
      refine kg_bipush (v := (16 : Int32)) X dX1_premise_22 (by decide) ?_
      refine kg_irem X dX1_premise_24 (by decide) ?_
      exact kg_iret X hr hw dX1_premise_25
    · have hw := hw.2 h2
      refine kg_iload_n X 2 dX1_premise_14 rfl rfl ?_
      refine kg_bipush (v := (16 : Int32)) X dX1_premise_15 (by decide) ?_
      refine kg_idiv X dX1_premise_17 (by decide) ?_
      refine kg_goto (tgt := 25) X dX1_premise_18 (by decide) ?_
      exact kg_iret X hr hw dX1_premise_25
  · have hw := hw.2 h3
    refine kg_iconst (v := (-1 : Int32)) X dX1_premise_8 (by decide) ?_
    exact kg_iret X hr hw dX1_premise_9
end
abbrev rm_X5_postpone : Room := { frames := 0, cells := 0, slots := 0, locals := 0 }
section
variable {p : Program} {l : Launch} {e : Env} {s : State} {m : MethodId} {args : Array Value} {below : List Frame} {meth : Method} {c : Code} {C : Cc} {Y : Ly} {A : Nat → Prop}
def w_X5_postpone (Y : Ly) (I : Mm) (k0 : Nat) (v1 : Int32) (v2 : Int32) (v3 : Int32) (post : Mm → Prop) : Prop := (ky_is Y k0 5 ∧ (ky_is Y (ky_rp Y k0 2) 8 ∧ (vp_in (I k0 5) (ky_ln Y (ky_rp Y k0 2)) ∧ (∀ I4 : Mm, I4 = ky_up I (ky_rp Y k0 2) (I k0 5).toNatClampNeg v1 → (ky_is Y (ky_rp Y k0 3) 8 ∧ (vp_in (I4 k0 5) (ky_ln Y (ky_rp Y k0 3)) ∧ (∀ I7 : Mm, I7 = ky_up I4 (ky_rp Y k0 3) (I4 k0 5).toNatClampNeg v2 → (ky_is Y (ky_rp Y k0 4) 8 ∧ (vp_in (I7 k0 5) (ky_ln Y (ky_rp Y k0 4)) ∧ (∀ I10 : Mm, I10 = ky_up I7 (ky_rp Y k0 4) (I7 k0 5).toNatClampNeg v3 → (∀ I11 : Mm, I11 = ky_up I10 k0 5 ((I10 k0 5) + (1 : Int32)) → post I11)))))))))))
set_option maxHeartbeats 4000000 in
set_option maxRecDepth 100000 in
theorem c_X5_postpone (l : Launch) (C : Cc) (Y : Ly) (A : Nat → Prop) (I : Mm) (k0 : Nat) (v1 : Int32) (v2 : Int32) (v3 : Int32) (post : Mm → Prop) (hw : w_X5_postpone Y I k0 v1 v2 v3 post) : ky_MV l yX5_postpone cX5_postpone 4 rm_X5_postpone C Y A I [.ref (Y.2.1 k0), .int v1, .int v2, .int v3] post := by
  refine ky_met (by decide) (Nat.le_of_ble_eq_true rfl) ?_
  intro p e s m args below meth c X hr
  have X : ky_X p s m args meth c C cX5_postpone 4 RX5 := X
  show ky_G p l e rm_X5_postpone s m args below meth c C Y A 4 (MQ below (va_Qv post (ky_B C Y A) A) args s 0 0 A) 0 [(0, .ref (Y.2.1 k0)), (1, .int v1), (2, .int v2), (3, .int v3)] [] I
  refine kg_aload_n X 0 dX5_postpone_0 rfl rfl ?_
  obtain ⟨h1, hw⟩ := hw
  refine kg_getR (j := 2) X kc_5 h1 (by decide) (by decide) rfl kw_87 dX5_postpone_1 ?_
  refine kg_aload_n X 0 dX5_postpone_4 rfl rfl ?_
  refine kg_getI (j := 5) X kc_5 h1 (by decide) (by decide) rfl kw_93 dX5_postpone_5 ?_
  refine kg_iload_n X 1 dX5_postpone_8 rfl rfl ?_
  obtain ⟨h2, hw⟩ := hw
  obtain ⟨h3, hw⟩ := hw
  refine kg_iast X h2 h3 dX5_postpone_9 ?_
  refine kg_topm (fun I4 eI4 => ?_)
  have hw := hw I4 eI4
  refine kg_aload_n X 0 dX5_postpone_10 rfl rfl ?_
  refine kg_getR (j := 3) X kc_5 h1 (by decide) (by decide) rfl kw_89 dX5_postpone_11 ?_
  refine kg_aload_n X 0 dX5_postpone_14 rfl rfl ?_
  refine kg_getI (j := 5) X kc_5 h1 (by decide) (by decide) rfl kw_93 dX5_postpone_15 ?_
  refine kg_iload_n X 2 dX5_postpone_18 rfl rfl ?_
  obtain ⟨h5, hw⟩ := hw
  obtain ⟨h6, hw⟩ := hw
  refine kg_iast X h5 h6 dX5_postpone_19 ?_
  refine kg_topm (fun I7 eI7 => ?_)
  have hw := hw I7 eI7
  refine kg_aload_n X 0 dX5_postpone_20 rfl rfl ?_
  refine kg_getR (j := 4) X kc_5 h1 (by decide) (by decide) rfl kw_91 dX5_postpone_21 ?_
  refine kg_aload_n X 0 dX5_postpone_24 rfl rfl ?_
  refine kg_getI (j := 5) X kc_5 h1 (by decide) (by decide) rfl kw_93 dX5_postpone_25 ?_
  refine kg_iload_n X 3 dX5_postpone_28 rfl rfl ?_
  obtain ⟨h8, hw⟩ := hw
  obtain ⟨h9, hw⟩ := hw
  refine kg_iast X h8 h9 dX5_postpone_29 ?_
  refine kg_topm (fun I10 eI10 => ?_)
  have hw := hw I10 eI10
  refine kg_aload_n X 0 dX5_postpone_30 rfl rfl ?_
  refine kg_dup X dX5_postpone_31 rfl ?_
  refine kg_getI (j := 5) X kc_5 h1 (by decide) (by decide) rfl kw_93 dX5_postpone_32 ?_
  refine kg_iconst (v := (1 : Int32)) X dX5_postpone_35 (by decide) ?_
  refine kg_iadd X dX5_postpone_36 ?_
  refine kg_putI (ci := 5) (Tn := TX5) (j := 5) (ty := .int) X tyX5 tyX5_ok nmX5 kc_5 h1 (by decide) (by decide) rfl kw_93 (by decide +kernel) rfl rfl dX5_postpone_37 ?_
  refine kg_topm (fun I11 eI11 => ?_)
  have hw := hw I11 eI11
  exact kg_vret X hr hw dX5_postpone_40
end
abbrev rm_X5_number : Room := { frames := 1, cells := 0, slots := 0, locals := 23 }
section
variable {p : Program} {l : Launch} {e : Env} {s : State} {m : MethodId} {args : Array Value} {below : List Frame} {meth : Method} {c : Code} {C : Cc} {Y : Ly} {A : Nat → Prop}
def w_X5_number_B18 (Y : Ly) (post : Mm → Prop) (k0 : Nat) (k1 : Nat) (v2 : Int32) (I : Mm) : Prop := (ky_is Y k1 1 ∧ (((I k1 2) < (1 : Int32) → (ky_is Y k0 5 ∧ (∀ I4 : Mm, I4 = ky_up I k0 1 ((I k0 1) + (1 : Int32)) → post I4))) ∧ (¬ (I k1 2) < (1 : Int32) → (ky_is Y k0 5 ∧ w_X5_postpone Y I k0 (I k0 1) (0 : Int32) v2 (fun I6 => (∀ I7 : Mm, I7 = ky_up I6 k0 1 ((I6 k0 1) + (1 : Int32)) → post I7))))))
set_option maxHeartbeats 4000000 in
set_option maxRecDepth 100000 in
theorem s_X5_number_B18 (X : ky_X p s m args meth c C cX5_number 4 RX5) (hr : meth.sig.returnType = none) (post : Mm → Prop) (k0 : Nat) (k1 : Nat) (v2 : Int32) (I : Mm) (hw : w_X5_number_B18 Y post k0 k1 v2 I) : ky_G p l e rm_X5_number s m args below meth c C Y A 4 (MQ below (va_Qv post (ky_B C Y A) A) args s 0 0 A) 18 [(0, .ref (Y.2.1 k0)), (1, .ref (Y.2.1 k1)), (2, .int v2)] [] I := by
  refine kg_aload_n X 1 dX5_number_18 rfl rfl ?_
  obtain ⟨h2, hw⟩ := hw
  refine kg_getI (j := 2) X kc_1 h2 (by decide) (by decide) rfl kw_182 dX5_number_19 ?_
  refine kg_iconst (v := (1 : Int32)) X dX5_number_22 (by decide) ?_
  refine kg_icmp_lt (tgt := 36) X dX5_number_23 (by decide) (fun h8 => ?_) (fun h8 => ?_)
  · have hw := hw.1 h8
    refine kg_aload_n X 0 dX5_number_36 rfl rfl ?_
    refine kg_dup X dX5_number_37 rfl ?_
    obtain ⟨h3, hw⟩ := hw
    refine kg_getI (j := 1) X kc_5 h3 (by decide) (by decide) rfl kw_85 dX5_number_38 ?_
    refine kg_iconst (v := (1 : Int32)) X dX5_number_41 (by decide) ?_
    refine kg_iadd X dX5_number_42 ?_
    refine kg_putI (ci := 5) (Tn := TX5) (j := 1) (ty := .int) X tyX5 tyX5_ok nmX5 kc_5 h3 (by decide) (by decide) rfl kw_85 (by decide +kernel) rfl rfl dX5_number_43 ?_
    refine kg_topm (fun I4 eI4 => ?_)
    have hw := hw I4 eI4
    exact kg_vret X hr hw dX5_number_46
  · have hw := hw.2 h8
    refine kg_aload_n X 0 dX5_number_26 rfl rfl ?_
    refine kg_aload_n X 0 dX5_number_27 rfl rfl ?_
    obtain ⟨h5, hw⟩ := hw
    refine kg_getI (j := 1) X kc_5 h5 (by decide) (by decide) rfl kw_85 dX5_number_28 ?_
    refine kg_iconst (v := (0 : Int32)) X dX5_number_31 (by decide) ?_
    refine kg_iload_n X 2 dX5_number_32 rfl rfl ?_
    refine kg_callVv (n := 3) (As := [.int (I k0 1), .int (0 : Int32), .int v2]) X (c_X5_postpone l C Y A I k0 (I k0 1) (0 : Int32) v2 _ hw) kc_5 h5 rfl iv_X5_postpone kw_506 (by decide +kernel) (by decide) rfl rfl (Nat.le_of_ble_eq_true rfl) dX5_number_33 (fun I6 hw => ?_)
    refine kg_aload_n X 0 dX5_number_36 rfl rfl ?_
    refine kg_dup X dX5_number_37 rfl ?_
    refine kg_getI (j := 1) X kc_5 h5 (by decide) (by decide) rfl kw_85 dX5_number_38 ?_
    refine kg_iconst (v := (1 : Int32)) X dX5_number_41 (by decide) ?_
    refine kg_iadd X dX5_number_42 ?_
    refine kg_putI (ci := 5) (Tn := TX5) (j := 1) (ty := .int) X tyX5 tyX5_ok nmX5 kc_5 h5 (by decide) (by decide) rfl kw_85 (by decide +kernel) rfl rfl dX5_number_43 ?_
    refine kg_topm (fun I7 eI7 => ?_)
    have hw := hw I7 eI7
    exact kg_vret X hr hw dX5_number_46
def w_X5_number (Y : Ly) (I : Mm) (k0 : Nat) (k1 : Nat) (v2 : Int32) (v3 : Int32) (post : Mm → Prop) : Prop := (ky_is Y k1 1 ∧ ((¬ (I k1 2) = (2 : Int32) → w_X5_number_B18 Y post k0 k1 v2 I) ∧ ((I k1 2) = (2 : Int32) → (ky_is Y k0 5 ∧ w_X5_postpone Y I k0 (I k0 1) (1 : Int32) v3 (fun I10 => w_X5_number_B18 Y post k0 k1 v2 I10)))))
set_option maxHeartbeats 4000000 in
set_option maxRecDepth 100000 in
theorem c_X5_number (l : Launch) (C : Cc) (Y : Ly) (A : Nat → Prop) (I : Mm) (k0 : Nat) (k1 : Nat) (v2 : Int32) (v3 : Int32) (post : Mm → Prop) (hw : w_X5_number Y I k0 k1 v2 v3 post) : ky_MV l yX5_number cX5_number 4 rm_X5_number C Y A I [.ref (Y.2.1 k0), .ref (Y.2.1 k1), .int v2, .int v3] post := by
  refine ky_met (by decide) (Nat.le_of_ble_eq_true rfl) ?_
  intro p e s m args below meth c X hr
  have X : ky_X p s m args meth c C cX5_number 4 RX5 := X
  show ky_G p l e rm_X5_number s m args below meth c C Y A 4 (MQ below (va_Qv post (ky_B C Y A) A) args s 0 0 A) 0 [(0, .ref (Y.2.1 k0)), (1, .ref (Y.2.1 k1)), (2, .int v2), (3, .int v3)] [] I
  refine kg_aload_n X 1 dX5_number_0 rfl rfl ?_
  obtain ⟨h1, hw⟩ := hw
  refine kg_getI (j := 2) X kc_1 h1 (by decide) (by decide) rfl kw_182 dX5_number_1 ?_
  refine kg_iconst (v := (2 : Int32)) X dX5_number_4 (by decide) ?_
  refine kg_icmp_ne (tgt := 18) X dX5_number_5 (by decide) (fun h11 => ?_) (fun h11 => ?_)
  · have hw := hw.1 h11
    refine kg_sub [0, 1, 2] rfl ?_
    exact s_X5_number_B18 X hr post _ _ _ _ hw
  · have hw := hw.2 h11
    refine kg_aload_n X 0 dX5_number_8 rfl rfl ?_
    refine kg_aload_n X 0 dX5_number_9 rfl rfl ?_
    obtain ⟨h9, hw⟩ := hw
    refine kg_getI (j := 1) X kc_5 h9 (by decide) (by decide) rfl kw_85 dX5_number_10 ?_
    refine kg_iconst (v := (1 : Int32)) X dX5_number_13 (by decide) ?_
    refine kg_iload_n X 3 dX5_number_14 rfl rfl ?_
    refine kg_callVv (n := 3) (As := [.int (I k0 1), .int (1 : Int32), .int v3]) X (c_X5_postpone l C Y A I k0 (I k0 1) (1 : Int32) v3 _ hw) kc_5 h9 rfl iv_X5_postpone kw_506 (by decide +kernel) (by decide) rfl rfl (Nat.le_of_ble_eq_true rfl) dX5_number_15 (fun I10 hw => ?_)
    refine kg_sub [0, 1, 2] rfl ?_
    exact s_X5_number_B18 X hr post _ _ _ _ hw
end
abbrev rm_X6_growChild : Room := { frames := 2, cells := 0, slots := 0, locals := 46 }
section
variable {p : Program} {l : Launch} {e : Env} {s : State} {m : MethodId} {args : Array Value} {below : List Frame} {meth : Method} {c : Code} {C : Cc} {Y : Ly} {A : Nat → Prop}
def w_X6_growChild (Y : Ly) (I : Mm) (k0 : Nat) (v1 : Int32) (v2 : Int32) (v3 : Int32) (post : Mm → Prop) : Prop := (ky_is Y k0 6 ∧ (ky_is Y (ky_rp Y k0 7) 5 ∧ (ky_is Y (ky_rp Y (ky_rp Y k0 7) 0) 11 ∧ (vp_in v1 (ky_ln Y (ky_rp Y (ky_rp Y k0 7) 0)) ∧ (ky_is Y (ky_rp Y (ky_rp Y (ky_rp Y k0 7) 0) v1.toNatClampNeg) 3 ∧ (ky_is Y (ky_rp Y k0 2) 9 ∧ (vp_in (I (ky_rp Y (ky_rp Y (ky_rp Y k0 7) 0) v1.toNatClampNeg) 0) (ky_ln Y (ky_rp Y k0 2)) ∧ (ky_is Y (ky_rp Y (ky_rp Y k0 2) (I (ky_rp Y (ky_rp Y (ky_rp Y k0 7) 0) v1.toNatClampNeg) 0).toNatClampNeg) 1 ∧ (ky_is Y (ky_rp Y (ky_rp Y (ky_rp Y k0 2) (I (ky_rp Y (ky_rp Y (ky_rp Y k0 7) 0) v1.toNatClampNeg) 0).toNatClampNeg) 1) 10 ∧ (vp_in v2 (ky_ln Y (ky_rp Y (ky_rp Y (ky_rp Y k0 2) (I (ky_rp Y (ky_rp Y (ky_rp Y k0 7) 0) v1.toNatClampNeg) 0).toNatClampNeg) 1)) ∧ (∀ q11 : Nat, q11 = ky_rp Y (ky_rp Y (ky_rp Y (ky_rp Y k0 2) (I (ky_rp Y (ky_rp Y (ky_rp Y k0 7) 0) v1.toNatClampNeg) 0).toNatClampNeg) 1) v2.toNatClampNeg → (ky_is Y q11 2 ∧ (ky_is Y (ky_rp Y k0 0) 12 ∧ (vp_in (I q11 0) (ky_ln Y (ky_rp Y k0 0)) ∧ (∀ q15 : Nat, q15 = ky_rp Y (ky_rp Y k0 0) (I q11 0).toNatClampNeg → (ky_is Y q15 4 ∧ (ky_is Y (ky_rp Y q15 6) 8 ∧ (vp_in v3 (ky_ln Y (ky_rp Y q15 6)) ∧ (∀ x19 : Int32, x19 = I (ky_rp Y q15 6) v3.toNatClampNeg → (vp_in (I (ky_rp Y k0 7) 1) (ky_ln Y (ky_rp Y (ky_rp Y k0 7) 0)) ∧ (ky_is Y (ky_rp Y (ky_rp Y (ky_rp Y k0 7) 0) (I (ky_rp Y k0 7) 1).toNatClampNeg) 3 ∧ w_X3_fill Y I (ky_rp Y (ky_rp Y (ky_rp Y k0 7) 0) (I (ky_rp Y k0 7) 1).toNatClampNeg) x19 v1 v2 v3 (fun I21 => (vp_in x19 (ky_ln Y (ky_rp Y k0 2)) ∧ (ky_is Y (ky_rp Y q15 7) 8 ∧ (vp_in v3 (ky_ln Y (ky_rp Y q15 7)) ∧ (ky_is Y (ky_rp Y q15 8) 8 ∧ (vp_in v3 (ky_ln Y (ky_rp Y q15 8)) ∧ w_X5_number Y I21 (ky_rp Y k0 7) (ky_rp Y (ky_rp Y k0 2) x19.toNatClampNeg) (I21 (ky_rp Y q15 7) v3.toNatClampNeg) (I21 (ky_rp Y q15 8) v3.toNatClampNeg) (fun I28 => post I28))))))))))))))))))))))))))))
set_option maxHeartbeats 4000000 in
set_option maxRecDepth 100000 in
theorem c_X6_growChild (l : Launch) (C : Cc) (Y : Ly) (A : Nat → Prop) (I : Mm) (k0 : Nat) (v1 : Int32) (v2 : Int32) (v3 : Int32) (post : Mm → Prop) (hw : w_X6_growChild Y I k0 v1 v2 v3 post) : ky_MV l yX6_growChild cX6_growChild 7 rm_X6_growChild C Y A I [.ref (Y.2.1 k0), .int v1, .int v2, .int v3] post := by
  refine ky_met (by decide) (Nat.le_of_ble_eq_true rfl) ?_
  intro p e s m args below meth c X hr
  have X : ky_X p s m args meth c C cX6_growChild 7 RX6 := X
  show ky_G p l e rm_X6_growChild s m args below meth c C Y A 7 (MQ below (va_Qv post (ky_B C Y A) A) args s 0 0 A) 0 [(0, .ref (Y.2.1 k0)), (1, .int v1), (2, .int v2), (3, .int v3)] [] I
  refine kg_aload_n X 0 dX6_growChild_0 rfl rfl ?_
  obtain ⟨h1, hw⟩ := hw
  refine kg_getR (j := 2) X kc_6 h1 (by decide) (by decide) rfl kw_201 dX6_growChild_1 ?_
  refine kg_aload_n X 0 dX6_growChild_4 rfl rfl ?_
  refine kg_getR (j := 7) X kc_6 h1 (by decide) (by decide) rfl kw_206 dX6_growChild_5 ?_
  obtain ⟨h2, hw⟩ := hw
  refine kg_getR (j := 0) X kc_5 h2 (by decide) (by decide) rfl kw_84 dX6_growChild_8 ?_
  refine kg_iload_n X 1 dX6_growChild_11 rfl rfl ?_
  obtain ⟨h3, hw⟩ := hw
  obtain ⟨h4, hw⟩ := hw
  refine kg_aald (kc := 11) X 3 rfl (by decide) h3 h4 dX6_growChild_12 ?_
  obtain ⟨h5, hw⟩ := hw
  refine kg_getI (j := 0) X kc_3 h5 (by decide) (by decide) rfl kw_63 dX6_growChild_13 ?_
  obtain ⟨h6, hw⟩ := hw
  obtain ⟨h7, hw⟩ := hw
  refine kg_aald (kc := 9) X 1 rfl (by decide) h6 h7 dX6_growChild_16 ?_
  obtain ⟨h8, hw⟩ := hw
  refine kg_getR (j := 1) X kc_1 h8 (by decide) (by decide) rfl kw_181 dX6_growChild_17 ?_
  refine kg_iload_n X 2 dX6_growChild_20 rfl rfl ?_
  obtain ⟨h9, hw⟩ := hw
  obtain ⟨h10, hw⟩ := hw
  refine kg_aald (kc := 10) X 2 rfl (by decide) h9 h10 dX6_growChild_21 ?_
  refine kg_topr (fun q11 eq11 => ?_)
  have hw := hw q11 eq11
  refine kg_astore (lv' := [(4, .ref (Y.2.1 q11)), (0, .ref (Y.2.1 k0)), (1, .int v1), (2, .int v2), (3, .int v3)]) X dX6_growChild_22 (by decide) rfl ?_
  refine kg_aload_n X 1 dX6_growChild_24 rfl rfl ?_
  refine kg_getR (j := 0) X kc_6 h1 (by decide) (by decide) rfl kw_199 dX6_growChild_25 ?_
  refine kg_aload X 0 dX6_growChild_28 rfl ?_
  obtain ⟨h12, hw⟩ := hw
  refine kg_getI (j := 0) X kc_2 h12 (by decide) (by decide) rfl kw_163 dX6_growChild_30 ?_
  obtain ⟨h13, hw⟩ := hw
  obtain ⟨h14, hw⟩ := hw
  refine kg_aald (kc := 12) X 4 rfl (by decide) h13 h14 dX6_growChild_33 ?_
  refine kg_topr (fun q15 eq15 => ?_)
  have hw := hw q15 eq15
  refine kg_astore (lv' := [(5, .ref (Y.2.1 q15)), (4, .ref (Y.2.1 q11)), (0, .ref (Y.2.1 k0)), (1, .int v1), (2, .int v2), (3, .int v3)]) X dX6_growChild_34 (by decide) rfl ?_
  refine kg_aload X 0 dX6_growChild_36 rfl ?_
  obtain ⟨h16, hw⟩ := hw
  refine kg_getR (j := 6) X kc_4 h16 (by decide) (by decide) rfl kw_128 dX6_growChild_38 ?_
  refine kg_iload_n X 5 dX6_growChild_41 rfl rfl ?_
  obtain ⟨h17, hw⟩ := hw
  obtain ⟨h18, hw⟩ := hw
  refine kg_iald X h17 h18 dX6_growChild_42 ?_
  refine kg_topi (fun x19 ex19 => ?_)
  have hw := hw x19 ex19
  refine kg_istore (lv' := [(6, .int x19), (5, .ref (Y.2.1 q15)), (4, .ref (Y.2.1 q11)), (0, .ref (Y.2.1 k0)), (1, .int v1), (2, .int v2), (3, .int v3)]) X dX6_growChild_43 (by decide) rfl ?_
  refine kg_aload_n X 3 dX6_growChild_45 rfl rfl ?_
  refine kg_getR (j := 7) X kc_6 h1 (by decide) (by decide) rfl kw_206 dX6_growChild_46 ?_
  refine kg_getR (j := 0) X kc_5 h2 (by decide) (by decide) rfl kw_84 dX6_growChild_49 ?_
  refine kg_aload_n X 3 dX6_growChild_52 rfl rfl ?_
  refine kg_getR (j := 7) X kc_6 h1 (by decide) (by decide) rfl kw_206 dX6_growChild_53 ?_
  refine kg_getI (j := 1) X kc_5 h2 (by decide) (by decide) rfl kw_86 dX6_growChild_56 ?_
  obtain ⟨h20, hw⟩ := hw
  refine kg_aald (kc := 11) X 3 rfl (by decide) h3 h20 dX6_growChild_59 ?_
  refine kg_iload X 0 dX6_growChild_60 rfl ?_
  refine kg_iload_n X 4 dX6_growChild_62 rfl rfl ?_
  refine kg_iload_n X 5 dX6_growChild_63 rfl rfl ?_
  refine kg_iload_n X 6 dX6_growChild_64 rfl rfl ?_
  obtain ⟨h22, hw⟩ := hw
  refine kg_callVv (n := 4) (As := [.int x19, .int v1, .int v2, .int v3]) X (c_X3_fill l C Y A I (ky_rp Y (ky_rp Y (ky_rp Y k0 7) 0) (I (ky_rp Y k0 7) 1).toNatClampNeg) x19 v1 v2 v3 _ hw) kc_3 h22 rfl iv_X3_fill kw_494 (by decide +kernel) (by decide) rfl rfl (Nat.le_of_ble_eq_true rfl) dX6_growChild_65 (fun I21 hw => ?_)
  refine kg_aload_n X 3 dX6_growChild_68 rfl rfl ?_
  refine kg_getR (j := 7) X kc_6 h1 (by decide) (by decide) rfl kw_206 dX6_growChild_69 ?_
  refine kg_aload_n X 3 dX6_growChild_72 rfl rfl ?_
  refine kg_getR (j := 2) X kc_6 h1 (by decide) (by decide) rfl kw_201 dX6_growChild_73 ?_
  refine kg_iload X 0 dX6_growChild_76 rfl ?_
  obtain ⟨h23, hw⟩ := hw
  refine kg_aald (kc := 9) X 1 rfl (by decide) h6 h23 dX6_growChild_78 ?_
  refine kg_aload X 1 dX6_growChild_79 rfl ?_
  refine kg_getR (j := 7) X kc_4 h16 (by decide) (by decide) rfl kw_130 dX6_growChild_81 ?_
  refine kg_iload_n X 6 dX6_growChild_84 rfl rfl ?_
  obtain ⟨h24, hw⟩ := hw
  obtain ⟨h25, hw⟩ := hw
  refine kg_iald X h24 h25 dX6_growChild_85 ?_
  refine kg_aload X 1 dX6_growChild_86 rfl ?_
  refine kg_getR (j := 8) X kc_4 h16 (by decide) (by decide) rfl kw_132 dX6_growChild_88 ?_
  refine kg_iload_n X 6 dX6_growChild_91 rfl rfl ?_
  obtain ⟨h26, hw⟩ := hw
  obtain ⟨h27, hw⟩ := hw
  refine kg_iald X h26 h27 dX6_growChild_92 ?_
  refine kg_callVv (n := 3) (As := [.ref (Y.2.1 (ky_rp Y (ky_rp Y k0 2) x19.toNatClampNeg)), .int (I21 (ky_rp Y q15 7) v3.toNatClampNeg), .int (I21 (ky_rp Y q15 8) v3.toNatClampNeg)]) X (c_X5_number l C Y A I21 (ky_rp Y k0 7) (ky_rp Y (ky_rp Y k0 2) x19.toNatClampNeg) (I21 (ky_rp Y q15 7) v3.toNatClampNeg) (I21 (ky_rp Y q15 8) v3.toNatClampNeg) _ hw) kc_5 h2 rfl iv_X5_number kw_502 (by decide +kernel) (by decide) rfl rfl (Nat.le_of_ble_eq_true rfl) dX6_growChild_93 (fun I28 hw => ?_)
  exact kg_vret X hr hw dX6_growChild_96
end
abbrev rm_X6_growTree : Room := { frames := 3, cells := 0, slots := 0, locals := 72 }
section
variable {p : Program} {l : Launch} {e : Env} {s : State} {m : MethodId} {args : Array Value} {below : List Frame} {meth : Method} {c : Code} {C : Cc} {Y : Ly} {A : Nat → Prop}
def w_X6_growTree_L67 (Y : Ly) (post : Mm → Prop) (ex_151 : Mm → Prop) : Nat → Nat → Int32 → Mm → Prop
  | 0, _, _, _ => False
  | n67 + 1, k0, v3, I => (((40 : Int32) ≤ v3 → ex_151 I) ∧ (¬ (40 : Int32) ≤ v3 → (ky_is Y k0 6 ∧ (ky_is Y (ky_rp Y k0 7) 5 ∧ (((I (ky_rp Y k0 7) 5) ≤ 0 → ex_151 I) ∧ (¬ (I (ky_rp Y k0 7) 5) ≤ 0 → (∀ I20 : Mm, I20 = ky_up I (ky_rp Y k0 7) 5 ((I (ky_rp Y k0 7) 5) - (1 : Int32)) → (ky_is Y (ky_rp Y (ky_rp Y k0 7) 2) 8 ∧ (vp_in (I20 (ky_rp Y k0 7) 5) (ky_ln Y (ky_rp Y (ky_rp Y k0 7) 2)) ∧ (ky_is Y (ky_rp Y (ky_rp Y k0 7) 3) 8 ∧ (vp_in (I20 (ky_rp Y k0 7) 5) (ky_ln Y (ky_rp Y (ky_rp Y k0 7) 3)) ∧ (ky_is Y (ky_rp Y (ky_rp Y k0 7) 4) 8 ∧ (vp_in (I20 (ky_rp Y k0 7) 5) (ky_ln Y (ky_rp Y (ky_rp Y k0 7) 4)) ∧ w_X6_growChild Y I20 k0 (I20 (ky_rp Y (ky_rp Y k0 7) 2) (I20 (ky_rp Y k0 7) 5).toNatClampNeg) (I20 (ky_rp Y (ky_rp Y k0 7) 3) (I20 (ky_rp Y k0 7) 5).toNatClampNeg) (I20 (ky_rp Y (ky_rp Y k0 7) 4) (I20 (ky_rp Y k0 7) 5).toNatClampNeg) (fun I27 => (∀ x28 : Int32, x28 = v3 + (1 : Int32) → w_X6_growTree_L67 Y post ex_151 n67 k0 x28 I27)))))))))))))))
set_option maxHeartbeats 4000000 in
set_option maxRecDepth 100000 in
theorem s_X6_growTree_L67 (X : ky_X p s m args meth c C cX6_growTree 4 RX6) (hr : meth.sig.returnType = none) (post : Mm → Prop) (ex_151 : Mm → Prop) (hx_151 : ∀ (J : Mm), ex_151 J → ky_G p l e rm_X6_growTree s m args below meth c C Y A 4 (MQ below (va_Qv post (ky_B C Y A) A) args s 0 0 A) 151 [] [] J) : ∀ (n67 : Nat) (k0 : Nat) (v3 : Int32) (I : Mm), w_X6_growTree_L67 Y post ex_151 n67 k0 v3 I → ky_G p l e rm_X6_growTree s m args below meth c C Y A 4 (MQ below (va_Qv post (ky_B C Y A) A) args s 0 0 A) 67 [(0, .ref (Y.2.1 k0)), (3, .int v3)] [] I := by
  intro n67
  induction n67 with
  | zero => intro k0 v3 I hw; exact False.elim hw
  | succ n67 ih =>
    intro k0 v3 I hw
    refine kg_iload_n X 1 dX6_growTree_67 rfl rfl ?_
    refine kg_bipush (v := (40 : Int32)) X dX6_growTree_68 (by decide) ?_
    refine kg_icmp_ge (tgt := 151) X dX6_growTree_70 (by decide) (fun h30 => ?_) (fun h30 => ?_)
    · have hw := hw.1 h30
      refine kg_sub [] rfl ?_
      exact hx_151 _  hw
    · have hw := hw.2 h30
      refine kg_aload_n X 0 dX6_growTree_73 rfl rfl ?_
      obtain ⟨h18, hw⟩ := hw
      refine kg_getR (j := 7) X kc_6 h18 (by decide) (by decide) rfl kw_206 dX6_growTree_74 ?_
      obtain ⟨h19, hw⟩ := hw
      refine kg_getI (j := 5) X kc_5 h19 (by decide) (by decide) rfl kw_94 dX6_growTree_77 ?_
      refine kg_if_le (tgt := 151) X dX6_growTree_80 (by decide) (fun h29 => ?_) (fun h29 => ?_)
      · have hw := hw.1 h29
        refine kg_sub [] rfl ?_
        exact hx_151 _  hw
      · have hw := hw.2 h29
        refine kg_aload_n X 0 dX6_growTree_83 rfl rfl ?_
        refine kg_getR (j := 7) X kc_6 h18 (by decide) (by decide) rfl kw_206 dX6_growTree_84 ?_
        refine kg_dup X dX6_growTree_87 rfl ?_
        refine kg_getI (j := 5) X kc_5 h19 (by decide) (by decide) rfl kw_94 dX6_growTree_88 ?_
        refine kg_iconst (v := (1 : Int32)) X dX6_growTree_91 (by decide) ?_
        refine kg_isub X dX6_growTree_92 ?_
        refine kg_putI (ci := 5) (Tn := TX5) (j := 5) (ty := .int) X tyX5 tyX5_ok nmX5 kc_5 h19 (by decide) (by decide) rfl kw_94 (by decide +kernel) rfl rfl dX6_growTree_93 ?_
        refine kg_topm (fun I20 eI20 => ?_)
        have hw := hw I20 eI20
        refine kg_aload_n X 0 dX6_growTree_96 rfl rfl ?_
        refine kg_aload_n X 0 dX6_growTree_97 rfl rfl ?_
        refine kg_getR (j := 7) X kc_6 h18 (by decide) (by decide) rfl kw_206 dX6_growTree_98 ?_
        refine kg_getR (j := 2) X kc_5 h19 (by decide) (by decide) rfl kw_88 dX6_growTree_101 ?_
        refine kg_aload_n X 0 dX6_growTree_104 rfl rfl ?_
        refine kg_getR (j := 7) X kc_6 h18 (by decide) (by decide) rfl kw_206 dX6_growTree_105 ?_
        refine kg_getI (j := 5) X kc_5 h19 (by decide) (by decide) rfl kw_94 dX6_growTree_108 ?_
        obtain ⟨h21, hw⟩ := hw
        obtain ⟨h22, hw⟩ := hw
        refine kg_iald X h21 h22 dX6_growTree_111 ?_
        refine kg_aload_n X 0 dX6_growTree_112 rfl rfl ?_
        refine kg_getR (j := 7) X kc_6 h18 (by decide) (by decide) rfl kw_206 dX6_growTree_113 ?_
        refine kg_getR (j := 3) X kc_5 h19 (by decide) (by decide) rfl kw_90 dX6_growTree_116 ?_
        refine kg_aload_n X 0 dX6_growTree_119 rfl rfl ?_
        refine kg_getR (j := 7) X kc_6 h18 (by decide) (by decide) rfl kw_206 dX6_growTree_120 ?_
        refine kg_getI (j := 5) X kc_5 h19 (by decide) (by decide) rfl kw_94 dX6_growTree_123 ?_
        obtain ⟨h23, hw⟩ := hw
        obtain ⟨h24, hw⟩ := hw
        refine kg_iald X h23 h24 dX6_growTree_126 ?_
        refine kg_aload_n X 0 dX6_growTree_127 rfl rfl ?_
        refine kg_getR (j := 7) X kc_6 h18 (by decide) (by decide) rfl kw_206 dX6_growTree_128 ?_
        refine kg_getR (j := 4) X kc_5 h19 (by decide) (by decide) rfl kw_92 dX6_growTree_131 ?_
        refine kg_aload_n X 0 dX6_growTree_134 rfl rfl ?_
        refine kg_getR (j := 7) X kc_6 h18 (by decide) (by decide) rfl kw_206 dX6_growTree_135 ?_
        refine kg_getI (j := 5) X kc_5 h19 (by decide) (by decide) rfl kw_94 dX6_growTree_138 ?_
        obtain ⟨h25, hw⟩ := hw
        obtain ⟨h26, hw⟩ := hw
        refine kg_iald X h25 h26 dX6_growTree_141 ?_
        refine kg_callVv (n := 3) (As := [.int (I20 (ky_rp Y (ky_rp Y k0 7) 2) (I20 (ky_rp Y k0 7) 5).toNatClampNeg), .int (I20 (ky_rp Y (ky_rp Y k0 7) 3) (I20 (ky_rp Y k0 7) 5).toNatClampNeg), .int (I20 (ky_rp Y (ky_rp Y k0 7) 4) (I20 (ky_rp Y k0 7) 5).toNatClampNeg)]) X (c_X6_growChild l C Y A I20 k0 (I20 (ky_rp Y (ky_rp Y k0 7) 2) (I20 (ky_rp Y k0 7) 5).toNatClampNeg) (I20 (ky_rp Y (ky_rp Y k0 7) 3) (I20 (ky_rp Y k0 7) 5).toNatClampNeg) (I20 (ky_rp Y (ky_rp Y k0 7) 4) (I20 (ky_rp Y k0 7) 5).toNatClampNeg) _ hw) kc_6 h18 rfl iv_X6_growChild kw_510 (by decide +kernel) (by decide) rfl rfl (Nat.le_of_ble_eq_true rfl) dX6_growTree_142 (fun I27 hw => ?_)
        refine kg_iinc (dd := (1 : Int32)) (lvf := fun x28 => [(3, .int x28), (0, .ref (Y.2.1 k0))]) X 1 dX6_growTree_145 rfl (by decide) (by decide) (fun _ => rfl) (fun x28 ex28 => ?_)
        have hw := hw x28 ex28
        refine kg_goto (tgt := 67) X dX6_growTree_148 (by decide) ?_
        refine kg_sub [1, 0] rfl ?_
        exact ih _ _ _  hw
def w_X6_growTree (Y : Ly) (I : Mm) (k0 : Nat) (v1 : Int32) (post : Mm → Prop) : Prop := (ky_is Y k0 6 ∧ (ky_is Y (ky_rp Y k0 7) 5 ∧ (∀ I3 : Mm, I3 = ky_up I (ky_rp Y k0 7) 1 (0 : Int32) → (∀ I4 : Mm, I4 = ky_up I3 (ky_rp Y k0 7) 5 (0 : Int32) → (ky_is Y (ky_rp Y k0 2) 9 ∧ (vp_in (I4 k0 6) (ky_ln Y (ky_rp Y k0 2)) ∧ (∀ q7 : Nat, q7 = ky_rp Y (ky_rp Y k0 2) (I4 k0 6).toNatClampNeg → (ky_is Y (ky_rp Y (ky_rp Y k0 7) 0) 11 ∧ (vp_in (0 : Int32) (ky_ln Y (ky_rp Y (ky_rp Y k0 7) 0)) ∧ (ky_is Y (ky_rp Y (ky_rp Y (ky_rp Y k0 7) 0) (0 : Int32).toNatClampNeg) 3 ∧ w_X3_fill Y I4 (ky_rp Y (ky_rp Y (ky_rp Y k0 7) 0) (0 : Int32).toNatClampNeg) (I4 k0 6) (-1 : Int32) (0 : Int32) (-1 : Int32) (fun I10 => (ky_is Y q7 1 ∧ w_X1_premise Y I10 q7 (0 : Int32) v1 (fun r13 I12 => w_X1_premise Y I12 q7 (1 : Int32) v1 (fun r16 I15 => w_X5_number Y I15 (ky_rp Y k0 7) q7 r13 r16 (fun I17 => (∃ n67 : Nat, w_X6_growTree_L67 Y post (fun I31 => post I31) n67 k0 (0 : Int32) I17))))))))))))))))
set_option maxHeartbeats 4000000 in
set_option maxRecDepth 100000 in
theorem c_X6_growTree (l : Launch) (C : Cc) (Y : Ly) (A : Nat → Prop) (I : Mm) (k0 : Nat) (v1 : Int32) (post : Mm → Prop) (hw : w_X6_growTree Y I k0 v1 post) : ky_MV l yX6_growTree cX6_growTree 4 rm_X6_growTree C Y A I [.ref (Y.2.1 k0), .int v1] post := by
  refine ky_met (by decide) (Nat.le_of_ble_eq_true rfl) ?_
  intro p e s m args below meth c X hr
  have X : ky_X p s m args meth c C cX6_growTree 4 RX6 := X
  show ky_G p l e rm_X6_growTree s m args below meth c C Y A 4 (MQ below (va_Qv post (ky_B C Y A) A) args s 0 0 A) 0 [(0, .ref (Y.2.1 k0)), (1, .int v1)] [] I
  refine kg_aload_n X 0 dX6_growTree_0 rfl rfl ?_
  obtain ⟨h1, hw⟩ := hw
  refine kg_getR (j := 7) X kc_6 h1 (by decide) (by decide) rfl kw_206 dX6_growTree_1 ?_
  refine kg_iconst (v := (0 : Int32)) X dX6_growTree_4 (by decide) ?_
  obtain ⟨h2, hw⟩ := hw
  refine kg_putI (ci := 5) (Tn := TX5) (j := 1) (ty := .int) X tyX5 tyX5_ok nmX5 kc_5 h2 (by decide) (by decide) rfl kw_86 (by decide +kernel) rfl rfl dX6_growTree_5 ?_
  refine kg_topm (fun I3 eI3 => ?_)
  have hw := hw I3 eI3
  refine kg_aload_n X 0 dX6_growTree_8 rfl rfl ?_
  refine kg_getR (j := 7) X kc_6 h1 (by decide) (by decide) rfl kw_206 dX6_growTree_9 ?_
  refine kg_iconst (v := (0 : Int32)) X dX6_growTree_12 (by decide) ?_
  refine kg_putI (ci := 5) (Tn := TX5) (j := 5) (ty := .int) X tyX5 tyX5_ok nmX5 kc_5 h2 (by decide) (by decide) rfl kw_94 (by decide +kernel) rfl rfl dX6_growTree_13 ?_
  refine kg_topm (fun I4 eI4 => ?_)
  have hw := hw I4 eI4
  refine kg_aload_n X 0 dX6_growTree_16 rfl rfl ?_
  refine kg_getR (j := 2) X kc_6 h1 (by decide) (by decide) rfl kw_201 dX6_growTree_17 ?_
  refine kg_aload_n X 0 dX6_growTree_20 rfl rfl ?_
  refine kg_getI (j := 6) X kc_6 h1 (by decide) (by decide) rfl kw_205 dX6_growTree_21 ?_
  obtain ⟨h5, hw⟩ := hw
  obtain ⟨h6, hw⟩ := hw
  refine kg_aald (kc := 9) X 1 rfl (by decide) h5 h6 dX6_growTree_24 ?_
  refine kg_topr (fun q7 eq7 => ?_)
  have hw := hw q7 eq7
  refine kg_astore_n (lv' := [(2, .ref (Y.2.1 q7)), (0, .ref (Y.2.1 k0)), (1, .int v1)]) X dX6_growTree_25 rfl (by decide) rfl ?_
  refine kg_aload_n X 1 dX6_growTree_26 rfl rfl ?_
  refine kg_getR (j := 7) X kc_6 h1 (by decide) (by decide) rfl kw_206 dX6_growTree_27 ?_
  refine kg_getR (j := 0) X kc_5 h2 (by decide) (by decide) rfl kw_84 dX6_growTree_30 ?_
  refine kg_iconst (v := (0 : Int32)) X dX6_growTree_33 (by decide) ?_
  obtain ⟨h8, hw⟩ := hw
  obtain ⟨h9, hw⟩ := hw
  refine kg_aald (kc := 11) X 3 rfl (by decide) h8 h9 dX6_growTree_34 ?_
  refine kg_aload_n X 1 dX6_growTree_35 rfl rfl ?_
  refine kg_getI (j := 6) X kc_6 h1 (by decide) (by decide) rfl kw_205 dX6_growTree_36 ?_
  refine kg_iconst (v := (-1 : Int32)) X dX6_growTree_39 (by decide) ?_
  refine kg_iconst (v := (0 : Int32)) X dX6_growTree_40 (by decide) ?_
  refine kg_iconst (v := (-1 : Int32)) X dX6_growTree_41 (by decide) ?_
  obtain ⟨h11, hw⟩ := hw
  refine kg_callVv (n := 4) (As := [.int (I4 k0 6), .int (-1 : Int32), .int (0 : Int32), .int (-1 : Int32)]) X (c_X3_fill l C Y A I4 (ky_rp Y (ky_rp Y (ky_rp Y k0 7) 0) (0 : Int32).toNatClampNeg) (I4 k0 6) (-1 : Int32) (0 : Int32) (-1 : Int32) _ hw) kc_3 h11 rfl iv_X3_fill kw_494 (by decide +kernel) (by decide) rfl rfl (Nat.le_of_ble_eq_true rfl) dX6_growTree_42 (fun I10 hw => ?_)
  refine kg_aload_n X 1 dX6_growTree_45 rfl rfl ?_
  refine kg_getR (j := 7) X kc_6 h1 (by decide) (by decide) rfl kw_206 dX6_growTree_46 ?_
  refine kg_aload_n X 0 dX6_growTree_49 rfl rfl ?_
  refine kg_aload_n X 0 dX6_growTree_50 rfl rfl ?_
  refine kg_iconst (v := (0 : Int32)) X dX6_growTree_51 (by decide) ?_
  refine kg_iload_n X 2 dX6_growTree_52 rfl rfl ?_
  obtain ⟨h14, hw⟩ := hw
  refine kg_callVi (n := 2) (As := [.int (0 : Int32), .int v1]) X (c_X1_premise l C Y A I10 q7 (0 : Int32) v1 _ hw) kc_1 h14 rfl iv_X1_premise kw_498 (by decide +kernel) (by decide) rfl rfl (Nat.le_of_ble_eq_true rfl) dX6_growTree_53 (fun r13 I12 hw => ?_)
  refine kg_aload_n X 0 dX6_growTree_56 rfl rfl ?_
  refine kg_iconst (v := (1 : Int32)) X dX6_growTree_57 (by decide) ?_
  refine kg_iload_n X 2 dX6_growTree_58 rfl rfl ?_
  refine kg_callVi (n := 2) (As := [.int (1 : Int32), .int v1]) X (c_X1_premise l C Y A I12 q7 (1 : Int32) v1 _ hw) kc_1 h14 rfl iv_X1_premise kw_498 (by decide +kernel) (by decide) rfl rfl (Nat.le_of_ble_eq_true rfl) dX6_growTree_59 (fun r16 I15 hw => ?_)
  refine kg_callVv (n := 3) (As := [.ref (Y.2.1 q7), .int r13, .int r16]) X (c_X5_number l C Y A I15 (ky_rp Y k0 7) q7 r13 r16 _ hw) kc_5 h2 rfl iv_X5_number kw_502 (by decide +kernel) (by decide) rfl rfl (Nat.le_of_ble_eq_true rfl) dX6_growTree_62 (fun I17 hw => ?_)
  refine kg_iconst (v := (0 : Int32)) X dX6_growTree_65 (by decide) ?_
  refine kg_istore_n (lv' := [(3, .int (0 : Int32)), (2, .ref (Y.2.1 q7)), (0, .ref (Y.2.1 k0)), (1, .int v1)]) X dX6_growTree_66 rfl (by decide) rfl ?_
  obtain ⟨n67, hw⟩ := hw
  refine kg_sub [2, 0] rfl ?_
  refine s_X6_growTree_L67 X hr post _ ?_ n67 _ _ _  hw
  · intro I31 hw
    exact kg_vret X hr hw dX6_growTree_151
end
abbrev rm_X6_raiseAlarm : Room := { frames := 4, cells := 0, slots := 0, locals := 135 }
section
variable {p : Program} {l : Launch} {e : Env} {s : State} {m : MethodId} {args : Array Value} {below : List Frame} {meth : Method} {c : Code} {C : Cc} {Y : Ly} {A : Nat → Prop}
def w_X6_raiseAlarm_L2 (Y : Ly) (post : Int32 → Mm → Prop) (ex_45 : Nat → Int32 → Int32 → Mm → Prop) (ex_63 : Mm → Prop) : Nat → Nat → Int32 → Mm → Prop
  | 0, _, _, _ => False
  | n2 + 1, k0, v1, I => (ky_is Y k0 6 ∧ (((I k0 3) ≤ v1 → ex_63 I) ∧ (¬ (I k0 3) ≤ v1 → (ky_is Y (ky_rp Y k0 2) 9 ∧ (vp_in v1 (ky_ln Y (ky_rp Y k0 2)) ∧ (ky_is Y (ky_rp Y (ky_rp Y k0 2) v1.toNatClampNeg) 1 ∧ (ky_is Y (ky_rp Y (ky_rp Y (ky_rp Y k0 2) v1.toNatClampNeg) 0) 2 ∧ ((¬ (I (ky_rp Y (ky_rp Y (ky_rp Y k0 2) v1.toNatClampNeg) 0) 0) = (-1 : Int32) → (∀ x6 : Int32, x6 = v1 + (1 : Int32) → w_X6_raiseAlarm_L2 Y post ex_45 ex_63 n2 k0 x6 I)) ∧ ((I (ky_rp Y (ky_rp Y (ky_rp Y k0 2) v1.toNatClampNeg) 0) 0) = (-1 : Int32) → w_X6_nextPremises Y I k0 (ky_rp Y (ky_rp Y k0 2) v1.toNatClampNeg) (0 : Int32) (fun r8 I7 => (((256 : Int32) ≤ r8 → (∀ x9 : Int32, x9 = v1 + (1 : Int32) → w_X6_raiseAlarm_L2 Y post ex_45 ex_63 n2 k0 x9 I7)) ∧ (¬ (256 : Int32) ≤ r8 → ex_45 k0 v1 r8 I7))))))))))))
set_option maxHeartbeats 4000000 in
set_option maxRecDepth 100000 in
theorem s_X6_raiseAlarm_L2 (X : ky_X p s m args meth c C cX6_raiseAlarm 3 RX6) (hr : meth.sig.returnType = some .boolean) (post : Int32 → Mm → Prop) (ex_45 : Nat → Int32 → Int32 → Mm → Prop) (ex_63 : Mm → Prop) (hx_45 : ∀ (k0 : Nat) (v1 : Int32) (v2 : Int32) (J : Mm), ex_45 k0 v1 v2 J → ky_G p l e rm_X6_raiseAlarm s m args below meth c C Y A 3 (MQ below (va_Qi post (ky_B C Y A) A) args s 0 0 A) 45 [(0, .ref (Y.2.1 k0)), (1, .int v1), (2, .int v2)] [] J) (hx_63 : ∀ (J : Mm), ex_63 J → ky_G p l e rm_X6_raiseAlarm s m args below meth c C Y A 3 (MQ below (va_Qi post (ky_B C Y A) A) args s 0 0 A) 63 [] [] J) : ∀ (n2 : Nat) (k0 : Nat) (v1 : Int32) (I : Mm), w_X6_raiseAlarm_L2 Y post ex_45 ex_63 n2 k0 v1 I → ky_G p l e rm_X6_raiseAlarm s m args below meth c C Y A 3 (MQ below (va_Qi post (ky_B C Y A) A) args s 0 0 A) 2 [(0, .ref (Y.2.1 k0)), (1, .int v1)] [] I := by
  intro n2
  induction n2 with
  | zero => intro k0 v1 I hw; exact False.elim hw
  | succ n2 ih =>
    intro k0 v1 I hw
    refine kg_iload_n X 1 dX6_raiseAlarm_2 rfl rfl ?_
    refine kg_aload_n X 0 dX6_raiseAlarm_3 rfl rfl ?_
    obtain ⟨h1, hw⟩ := hw
    refine kg_getI (j := 3) X kc_6 h1 (by decide) (by decide) rfl kw_202 dX6_raiseAlarm_4 ?_
    refine kg_icmp_ge (tgt := 63) X dX6_raiseAlarm_7 (by decide) (fun h12 => ?_) (fun h12 => ?_)
    · have hw := hw.1 h12
      refine kg_sub [] rfl ?_
      exact hx_63 _  hw
    · have hw := hw.2 h12
      refine kg_aload_n X 0 dX6_raiseAlarm_10 rfl rfl ?_
      refine kg_getR (j := 2) X kc_6 h1 (by decide) (by decide) rfl kw_201 dX6_raiseAlarm_11 ?_
      refine kg_iload_n X 1 dX6_raiseAlarm_14 rfl rfl ?_
      obtain ⟨h2, hw⟩ := hw
      obtain ⟨h3, hw⟩ := hw
      refine kg_aald (kc := 9) X 1 rfl (by decide) h2 h3 dX6_raiseAlarm_15 ?_
      obtain ⟨h4, hw⟩ := hw
      refine kg_getR (j := 0) X kc_1 h4 (by decide) (by decide) rfl kw_179 dX6_raiseAlarm_16 ?_
      obtain ⟨h5, hw⟩ := hw
      refine kg_getI (j := 0) X kc_2 h5 (by decide) (by decide) rfl kw_163 dX6_raiseAlarm_19 ?_
      refine kg_iconst (v := (-1 : Int32)) X dX6_raiseAlarm_22 (by decide) ?_
      refine kg_icmp_ne (tgt := 57) X dX6_raiseAlarm_23 (by decide) (fun h11 => ?_) (fun h11 => ?_)
      · have hw := hw.1 h11
        refine kg_iinc (dd := (1 : Int32)) (lvf := fun x6 => [(1, .int x6), (0, .ref (Y.2.1 k0))]) X 1 dX6_raiseAlarm_57 rfl (by decide) (by decide) (fun _ => rfl) (fun x6 ex6 => ?_)
        have hw := hw x6 ex6
        refine kg_goto (tgt := 2) X dX6_raiseAlarm_60 (by decide) ?_
        refine kg_sub [1, 0] rfl ?_
        exact ih _ _ _  hw
      · have hw := hw.2 h11
        refine kg_aload_n X 0 dX6_raiseAlarm_26 rfl rfl ?_
        refine kg_aload_n X 0 dX6_raiseAlarm_27 rfl rfl ?_
        refine kg_getR (j := 2) X kc_6 h1 (by decide) (by decide) rfl kw_201 dX6_raiseAlarm_28 ?_
        refine kg_iload_n X 1 dX6_raiseAlarm_31 rfl rfl ?_
        refine kg_aald (kc := 9) X 1 rfl (by decide) h2 h3 dX6_raiseAlarm_32 ?_
        refine kg_iconst (v := (0 : Int32)) X dX6_raiseAlarm_33 (by decide) ?_
        refine kg_callVi (n := 2) (As := [.ref (Y.2.1 (ky_rp Y (ky_rp Y k0 2) v1.toNatClampNeg)), .int (0 : Int32)]) X (c_X6_nextPremises l C Y A I k0 (ky_rp Y (ky_rp Y k0 2) v1.toNatClampNeg) (0 : Int32) _ hw) kc_6 h1 rfl iv_X6_nextPremises kw_256 (by decide +kernel) (by decide) rfl rfl (Nat.le_of_ble_eq_true rfl) dX6_raiseAlarm_34 (fun r8 I7 hw => ?_)
        refine kg_istore_n (lv' := [(2, .int r8), (0, .ref (Y.2.1 k0)), (1, .int v1)]) X dX6_raiseAlarm_37 rfl (by decide) rfl ?_
        refine kg_iload_n X 0 dX6_raiseAlarm_38 rfl rfl ?_
        refine kg_sipush (v := (256 : Int32)) X dX6_raiseAlarm_39 (by decide) ?_
        refine kg_icmp_ge (tgt := 57) X dX6_raiseAlarm_42 (by decide) (fun h10 => ?_) (fun h10 => ?_)
        · have hw := hw.1 h10
          refine kg_iinc (dd := (1 : Int32)) (lvf := fun x9 => [(1, .int x9), (2, .int r8), (0, .ref (Y.2.1 k0))]) X 2 dX6_raiseAlarm_57 rfl (by decide) (by decide) (fun _ => rfl) (fun x9 ex9 => ?_)
          have hw := hw x9 ex9
          refine kg_goto (tgt := 2) X dX6_raiseAlarm_60 (by decide) ?_
          refine kg_sub [2, 0] rfl ?_
          exact ih _ _ _  hw
        · have hw := hw.2 h10
          refine kg_sub [1, 2, 0] rfl ?_
          exact hx_45 _ _ _ _  hw
def w_X6_raiseAlarm (Y : Ly) (I : Mm) (k0 : Nat) (post : Int32 → Mm → Prop) : Prop := (∃ n2 : Nat, w_X6_raiseAlarm_L2 Y post (fun k14 v15 v16 I13 => (ky_is Y k14 6 ∧ (∀ I18 : Mm, I18 = ky_up I13 k14 6 v15 → w_X6_growTree Y I18 k14 v16 (fun I19 => post (1 : Int32) I19)))) (fun I20 => post (0 : Int32) I20) n2 k0 (0 : Int32) I)
set_option maxHeartbeats 4000000 in
set_option maxRecDepth 100000 in
theorem c_X6_raiseAlarm (l : Launch) (C : Cc) (Y : Ly) (A : Nat → Prop) (I : Mm) (k0 : Nat) (post : Int32 → Mm → Prop) (hw : w_X6_raiseAlarm Y I k0 post) : ky_MI l yX6_raiseAlarm cX6_raiseAlarm 3 (some .boolean) rm_X6_raiseAlarm C Y A I [.ref (Y.2.1 k0)] post := by
  refine ky_met (by decide) (Nat.le_of_ble_eq_true rfl) ?_
  intro p e s m args below meth c X hr
  have X : ky_X p s m args meth c C cX6_raiseAlarm 3 RX6 := X
  show ky_G p l e rm_X6_raiseAlarm s m args below meth c C Y A 3 (MQ below (va_Qi post (ky_B C Y A) A) args s 0 0 A) 0 [(0, .ref (Y.2.1 k0))] [] I
  refine kg_iconst (v := (0 : Int32)) X dX6_raiseAlarm_0 (by decide) ?_
  refine kg_istore_n (lv' := [(1, .int (0 : Int32)), (0, .ref (Y.2.1 k0))]) X dX6_raiseAlarm_1 rfl (by decide) rfl ?_
  obtain ⟨n2, hw⟩ := hw
  refine kg_sub [1, 0] rfl ?_
  refine s_X6_raiseAlarm_L2 X hr post _ _ ?_ ?_ n2 _ _ _  hw
  · intro k14 v15 v16 I13 hw
    refine kg_aload_n X 0 dX6_raiseAlarm_45 rfl rfl ?_
    refine kg_iload_n X 1 dX6_raiseAlarm_46 rfl rfl ?_
    obtain ⟨h17, hw⟩ := hw
    refine kg_putI (ci := 6) (Tn := TX6) (j := 6) (ty := .int) X tyX6 tyX6_ok nmX6 kc_6 h17 (by decide) (by decide) rfl kw_205 (by decide +kernel) rfl rfl dX6_raiseAlarm_47 ?_
    refine kg_topm (fun I18 eI18 => ?_)
    have hw := hw I18 eI18
    refine kg_aload_n X 0 dX6_raiseAlarm_50 rfl rfl ?_
    refine kg_iload_n X 2 dX6_raiseAlarm_51 rfl rfl ?_
    refine kg_callVv (n := 1) (As := [.int v16]) X (c_X6_growTree l C Y A I18 k14 v16 _ hw) kc_6 h17 rfl iv_X6_growTree kw_490 (by decide +kernel) (by decide) rfl rfl (Nat.le_of_ble_eq_true rfl) dX6_raiseAlarm_52 (fun I19 hw => ?_)
    refine kg_iconst (v := (1 : Int32)) X dX6_raiseAlarm_55 (by decide) ?_
    exact kg_zret X hr (by decide) hw dX6_raiseAlarm_56
  · intro I20 hw
    refine kg_iconst (v := (0 : Int32)) X dX6_raiseAlarm_63 (by decide) ?_
    exact kg_zret X hr (by decide) hw dX6_raiseAlarm_64
end
abbrev rm_X6_reachCubes : Room := { frames := 3, cells := 0, slots := 0, locals := 104 }
section
variable {p : Program} {l : Launch} {e : Env} {s : State} {m : MethodId} {args : Array Value} {below : List Frame} {meth : Method} {c : Code} {C : Cc} {Y : Ly} {A : Nat → Prop}
def w_X6_reachCubes_L27 (Y : Ly) (post : Int32 → Mm → Prop) (ex_110 : Int32 → Mm → Prop) : Nat → Nat → Int32 → Int32 → Nat → Nat → Int32 → Int32 → Mm → Prop
  | 0, _, _, _, _, _, _, _, _ => False
  | n27 + 1, k0, v1, v2, k3, k4, v5, v6, I => (ky_is Y k4 4 ∧ w_X4_cubes Y I k4 (fun r11 I10 => ((r11 ≤ v6 → ex_110 v5 I10) ∧ (¬ r11 ≤ v6 → (ky_is Y k3 1 ∧ (ky_is Y k0 6 ∧ w_X6_isMissing Y I10 k0 (ky_rp Y k3 0) v6 (fun r15 I14 => ((r15 = 0 → (∀ x17 : Int32, x17 = v6 + (1 : Int32) → w_X6_reachCubes_L27 Y post ex_110 n27 k0 v1 v2 k3 k4 v5 x17 I14)) ∧ (¬ r15 = 0 → (ky_is Y (ky_rp Y k4 5) 8 ∧ (vp_in v6 (ky_ln Y (ky_rp Y k4 5)) ∧ (∀ I20 : Mm, I20 = ky_up I14 (ky_rp Y k4 5) v6.toNatClampNeg ((I14 k0 4) + (1 : Int32)) → (ky_is Y (ky_rp Y k4 6) 8 ∧ (vp_in v6 (ky_ln Y (ky_rp Y k4 6)) ∧ (∀ I23 : Mm, I23 = ky_up I20 (ky_rp Y k4 6) v6.toNatClampNeg v1 → w_X1_premise Y I23 k3 (0 : Int32) v2 (fun r25 I24 => (ky_is Y (ky_rp Y k4 7) 8 ∧ (vp_in v6 (ky_ln Y (ky_rp Y k4 7)) ∧ (∀ I28 : Mm, I28 = ky_up I24 (ky_rp Y k4 7) v6.toNatClampNeg r25 → w_X1_premise Y I28 k3 (1 : Int32) v2 (fun r30 I29 => (ky_is Y (ky_rp Y k4 8) 8 ∧ (vp_in v6 (ky_ln Y (ky_rp Y k4 8)) ∧ (∀ I33 : Mm, I33 = ky_up I29 (ky_rp Y k4 8) v6.toNatClampNeg r30 → (∀ x34 : Int32, x34 = v5 + (1 : Int32) → (∀ x35 : Int32, x35 = v6 + (1 : Int32) → w_X6_reachCubes_L27 Y post ex_110 n27 k0 v1 v2 k3 k4 x34 x35 I33)))))))))))))))))))))))))
set_option maxHeartbeats 4000000 in
set_option maxRecDepth 100000 in
theorem s_X6_reachCubes_L27 (X : ky_X p s m args meth c C cX6_reachCubes 7 RX6) (hr : meth.sig.returnType = some .int) (post : Int32 → Mm → Prop) (ex_110 : Int32 → Mm → Prop) (hx_110 : ∀ (v5 : Int32) (J : Mm), ex_110 v5 J → ky_G p l e rm_X6_reachCubes s m args below meth c C Y A 7 (MQ below (va_Qi post (ky_B C Y A) A) args s 0 0 A) 110 [(5, .int v5)] [] J) : ∀ (n27 : Nat) (k0 : Nat) (v1 : Int32) (v2 : Int32) (k3 : Nat) (k4 : Nat) (v5 : Int32) (v6 : Int32) (I : Mm), w_X6_reachCubes_L27 Y post ex_110 n27 k0 v1 v2 k3 k4 v5 v6 I → ky_G p l e rm_X6_reachCubes s m args below meth c C Y A 7 (MQ below (va_Qi post (ky_B C Y A) A) args s 0 0 A) 27 [(0, .ref (Y.2.1 k0)), (1, .int v1), (2, .int v2), (3, .ref (Y.2.1 k3)), (4, .ref (Y.2.1 k4)), (5, .int v5), (6, .int v6)] [] I := by
  intro n27
  induction n27 with
  | zero => intro k0 v1 v2 k3 k4 v5 v6 I hw; exact False.elim hw
  | succ n27 ih =>
    intro k0 v1 v2 k3 k4 v5 v6 I hw
    refine kg_iload X 6 dX6_reachCubes_27 rfl ?_
    refine kg_aload X 4 dX6_reachCubes_29 rfl ?_
    obtain ⟨h12, hw⟩ := hw
    refine kg_callVi (n := 0) (As := []) X (c_X4_cubes l C Y A I k4 _ hw) kc_4 h12 rfl iv_X4_cubes kw_264 (by decide +kernel) (by decide) rfl rfl (Nat.le_of_ble_eq_true rfl) dX6_reachCubes_31 (fun r11 I10 hw => ?_)
    refine kg_icmp_ge (tgt := 110) X dX6_reachCubes_34 (by decide) (fun h37 => ?_) (fun h37 => ?_)
    · have hw := hw.1 h37
      refine kg_sub [5] rfl ?_
      exact hx_110 _ _  hw
    · have hw := hw.2 h37
      refine kg_aload_n X 0 dX6_reachCubes_37 rfl rfl ?_
      refine kg_aload_n X 3 dX6_reachCubes_38 rfl rfl ?_
      obtain ⟨h13, hw⟩ := hw
      refine kg_getR (j := 0) X kc_1 h13 (by decide) (by decide) rfl kw_179 dX6_reachCubes_39 ?_
      refine kg_iload X 6 dX6_reachCubes_42 rfl ?_
      obtain ⟨h16, hw⟩ := hw
      refine kg_callVi (n := 2) (As := [.ref (Y.2.1 (ky_rp Y k3 0)), .int v6]) X (c_X6_isMissing l C Y A I10 k0 (ky_rp Y k3 0) v6 _ hw) kc_6 h16 rfl iv_X6_isMissing kw_294 (by decide +kernel) (by decide) rfl rfl (Nat.le_of_ble_eq_true rfl) dX6_reachCubes_44 (fun r15 I14 hw => ?_)
      refine kg_if_eq (tgt := 104) X dX6_reachCubes_47 (by decide) (fun h36 => ?_) (fun h36 => ?_)
      · have hw := hw.1 h36
        refine kg_iinc (dd := (1 : Int32)) (lvf := fun x17 => [(6, .int x17), (0, .ref (Y.2.1 k0)), (1, .int v1), (2, .int v2), (3, .ref (Y.2.1 k3)), (4, .ref (Y.2.1 k4)), (5, .int v5)]) X 6 dX6_reachCubes_104 rfl (by decide) (by decide) (fun _ => rfl) (fun x17 ex17 => ?_)
        have hw := hw x17 ex17
        refine kg_goto (tgt := 27) X dX6_reachCubes_107 (by decide) ?_
        refine kg_sub [1, 2, 3, 4, 5, 6, 0] rfl ?_
        exact ih _ _ _ _ _ _ _ _  hw
      · have hw := hw.2 h36
        refine kg_aload X 4 dX6_reachCubes_50 rfl ?_
        refine kg_getR (j := 5) X kc_4 h12 (by decide) (by decide) rfl kw_126 dX6_reachCubes_52 ?_
        refine kg_iload X 6 dX6_reachCubes_55 rfl ?_
        refine kg_aload_n X 0 dX6_reachCubes_57 rfl rfl ?_
        refine kg_getI (j := 4) X kc_6 h16 (by decide) (by decide) rfl kw_203 dX6_reachCubes_58 ?_
        refine kg_iconst (v := (1 : Int32)) X dX6_reachCubes_61 (by decide) ?_
        refine kg_iadd X dX6_reachCubes_62 ?_
        obtain ⟨h18, hw⟩ := hw
        obtain ⟨h19, hw⟩ := hw
        refine kg_iast X h18 h19 dX6_reachCubes_63 ?_
        refine kg_topm (fun I20 eI20 => ?_)
        have hw := hw I20 eI20
        refine kg_aload X 4 dX6_reachCubes_64 rfl ?_
        refine kg_getR (j := 6) X kc_4 h12 (by decide) (by decide) rfl kw_128 dX6_reachCubes_66 ?_
        refine kg_iload X 6 dX6_reachCubes_69 rfl ?_
        refine kg_iload_n X 1 dX6_reachCubes_71 rfl rfl ?_
        obtain ⟨h21, hw⟩ := hw
        obtain ⟨h22, hw⟩ := hw
        refine kg_iast X h21 h22 dX6_reachCubes_72 ?_
        refine kg_topm (fun I23 eI23 => ?_)
        have hw := hw I23 eI23
        refine kg_aload X 4 dX6_reachCubes_73 rfl ?_
        refine kg_getR (j := 7) X kc_4 h12 (by decide) (by decide) rfl kw_130 dX6_reachCubes_75 ?_
        refine kg_iload X 6 dX6_reachCubes_78 rfl ?_
        refine kg_aload_n X 3 dX6_reachCubes_80 rfl rfl ?_
        refine kg_iconst (v := (0 : Int32)) X dX6_reachCubes_81 (by decide) ?_
        refine kg_iload_n X 2 dX6_reachCubes_82 rfl rfl ?_
        refine kg_callVi (n := 2) (As := [.int (0 : Int32), .int v2]) X (c_X1_premise l C Y A I23 k3 (0 : Int32) v2 _ hw) kc_1 h13 rfl iv_X1_premise kw_498 (by decide +kernel) (by decide) rfl rfl (Nat.le_of_ble_eq_true rfl) dX6_reachCubes_83 (fun r25 I24 hw => ?_)
        obtain ⟨h26, hw⟩ := hw
        obtain ⟨h27, hw⟩ := hw
        refine kg_iast X h26 h27 dX6_reachCubes_86 ?_
        refine kg_topm (fun I28 eI28 => ?_)
        have hw := hw I28 eI28
        refine kg_aload X 4 dX6_reachCubes_87 rfl ?_
        refine kg_getR (j := 8) X kc_4 h12 (by decide) (by decide) rfl kw_132 dX6_reachCubes_89 ?_
        refine kg_iload X 6 dX6_reachCubes_92 rfl ?_
        refine kg_aload_n X 3 dX6_reachCubes_94 rfl rfl ?_
        refine kg_iconst (v := (1 : Int32)) X dX6_reachCubes_95 (by decide) ?_
        refine kg_iload_n X 2 dX6_reachCubes_96 rfl rfl ?_
        refine kg_callVi (n := 2) (As := [.int (1 : Int32), .int v2]) X (c_X1_premise l C Y A I28 k3 (1 : Int32) v2 _ hw) kc_1 h13 rfl iv_X1_premise kw_498 (by decide +kernel) (by decide) rfl rfl (Nat.le_of_ble_eq_true rfl) dX6_reachCubes_97 (fun r30 I29 hw => ?_)
        obtain ⟨h31, hw⟩ := hw
        obtain ⟨h32, hw⟩ := hw
        refine kg_iast X h31 h32 dX6_reachCubes_100 ?_
        refine kg_topm (fun I33 eI33 => ?_)
        have hw := hw I33 eI33
        refine kg_iinc (dd := (1 : Int32)) (lvf := fun x34 => [(5, .int x34), (0, .ref (Y.2.1 k0)), (1, .int v1), (2, .int v2), (3, .ref (Y.2.1 k3)), (4, .ref (Y.2.1 k4)), (6, .int v6)]) X 5 dX6_reachCubes_101 rfl (by decide) (by decide) (fun _ => rfl) (fun x34 ex34 => ?_)
        have hw := hw x34 ex34
        refine kg_iinc (dd := (1 : Int32)) (lvf := fun x35 => [(6, .int x35), (5, .int x34), (0, .ref (Y.2.1 k0)), (1, .int v1), (2, .int v2), (3, .ref (Y.2.1 k3)), (4, .ref (Y.2.1 k4))]) X 6 dX6_reachCubes_104 rfl (by decide) (by decide) (fun _ => rfl) (fun x35 ex35 => ?_)
        have hw := hw x35 ex35
        refine kg_goto (tgt := 27) X dX6_reachCubes_107 (by decide) ?_
        refine kg_sub [2, 3, 4, 5, 6, 1, 0] rfl ?_
        exact ih _ _ _ _ _ _ _ _  hw
def w_X6_reachCubes (Y : Ly) (I : Mm) (k0 : Nat) (v1 : Int32) (v2 : Int32) (post : Int32 → Mm → Prop) : Prop := (ky_is Y k0 6 ∧ (ky_is Y (ky_rp Y k0 2) 9 ∧ (vp_in v1 (ky_ln Y (ky_rp Y k0 2)) ∧ (∀ q4 : Nat, q4 = ky_rp Y (ky_rp Y k0 2) v1.toNatClampNeg → (ky_is Y q4 1 ∧ (ky_is Y (ky_rp Y q4 0) 2 ∧ (ky_is Y (ky_rp Y k0 0) 12 ∧ (vp_in (I (ky_rp Y q4 0) 0) (ky_ln Y (ky_rp Y k0 0)) ∧ (∀ q9 : Nat, q9 = ky_rp Y (ky_rp Y k0 0) (I (ky_rp Y q4 0) 0).toNatClampNeg → (∃ n27 : Nat, w_X6_reachCubes_L27 Y post (fun v39 I38 => post v39 I38) n27 k0 v1 v2 q4 q9 (0 : Int32) (0 : Int32) I))))))))))
set_option maxHeartbeats 4000000 in
set_option maxRecDepth 100000 in
theorem c_X6_reachCubes (l : Launch) (C : Cc) (Y : Ly) (A : Nat → Prop) (I : Mm) (k0 : Nat) (v1 : Int32) (v2 : Int32) (post : Int32 → Mm → Prop) (hw : w_X6_reachCubes Y I k0 v1 v2 post) : ky_MI l yX6_reachCubes cX6_reachCubes 7 (some .int) rm_X6_reachCubes C Y A I [.ref (Y.2.1 k0), .int v1, .int v2] post := by
  refine ky_met (by decide) (Nat.le_of_ble_eq_true rfl) ?_
  intro p e s m args below meth c X hr
  have X : ky_X p s m args meth c C cX6_reachCubes 7 RX6 := X
  show ky_G p l e rm_X6_reachCubes s m args below meth c C Y A 7 (MQ below (va_Qi post (ky_B C Y A) A) args s 0 0 A) 0 [(0, .ref (Y.2.1 k0)), (1, .int v1), (2, .int v2)] [] I
  refine kg_aload_n X 0 dX6_reachCubes_0 rfl rfl ?_
  obtain ⟨h1, hw⟩ := hw
  refine kg_getR (j := 2) X kc_6 h1 (by decide) (by decide) rfl kw_201 dX6_reachCubes_1 ?_
  refine kg_iload_n X 1 dX6_reachCubes_4 rfl rfl ?_
  obtain ⟨h2, hw⟩ := hw
  obtain ⟨h3, hw⟩ := hw
  refine kg_aald (kc := 9) X 1 rfl (by decide) h2 h3 dX6_reachCubes_5 ?_
  refine kg_topr (fun q4 eq4 => ?_)
  have hw := hw q4 eq4
  refine kg_astore_n (lv' := [(3, .ref (Y.2.1 q4)), (0, .ref (Y.2.1 k0)), (1, .int v1), (2, .int v2)]) X dX6_reachCubes_6 rfl (by decide) rfl ?_
  refine kg_aload_n X 1 dX6_reachCubes_7 rfl rfl ?_
  refine kg_getR (j := 0) X kc_6 h1 (by decide) (by decide) rfl kw_199 dX6_reachCubes_8 ?_
  refine kg_aload_n X 0 dX6_reachCubes_11 rfl rfl ?_
  obtain ⟨h5, hw⟩ := hw
  refine kg_getR (j := 0) X kc_1 h5 (by decide) (by decide) rfl kw_179 dX6_reachCubes_12 ?_
  obtain ⟨h6, hw⟩ := hw
  refine kg_getI (j := 0) X kc_2 h6 (by decide) (by decide) rfl kw_163 dX6_reachCubes_15 ?_
  obtain ⟨h7, hw⟩ := hw
  obtain ⟨h8, hw⟩ := hw
  refine kg_aald (kc := 12) X 4 rfl (by decide) h7 h8 dX6_reachCubes_18 ?_
  refine kg_topr (fun q9 eq9 => ?_)
  have hw := hw q9 eq9
  refine kg_astore (lv' := [(4, .ref (Y.2.1 q9)), (3, .ref (Y.2.1 q4)), (0, .ref (Y.2.1 k0)), (1, .int v1), (2, .int v2)]) X dX6_reachCubes_19 (by decide) rfl ?_
  refine kg_iconst (v := (0 : Int32)) X dX6_reachCubes_21 (by decide) ?_
  refine kg_istore (lv' := [(5, .int (0 : Int32)), (4, .ref (Y.2.1 q9)), (3, .ref (Y.2.1 q4)), (0, .ref (Y.2.1 k0)), (1, .int v1), (2, .int v2)]) X dX6_reachCubes_22 (by decide) rfl ?_
  refine kg_iconst (v := (0 : Int32)) X dX6_reachCubes_24 (by decide) ?_
  refine kg_istore (lv' := [(6, .int (0 : Int32)), (5, .int (0 : Int32)), (4, .ref (Y.2.1 q9)), (3, .ref (Y.2.1 q4)), (0, .ref (Y.2.1 k0)), (1, .int v1), (2, .int v2)]) X dX6_reachCubes_25 (by decide) rfl ?_
  obtain ⟨n27, hw⟩ := hw
  refine kg_sub [4, 5, 6, 3, 2, 1, 0] rfl ?_
  refine s_X6_reachCubes_L27 X hr post _ ?_ n27 _ _ _ _ _ _ _ _  hw
  · intro v39 I38 hw
    refine kg_iload X 0 dX6_reachCubes_110 rfl ?_
    exact kg_iret X hr hw dX6_reachCubes_112
end
abbrev rm_X6_reachBy : Room := { frames := 4, cells := 0, slots := 0, locals := 135 }
section
variable {p : Program} {l : Launch} {e : Env} {s : State} {m : MethodId} {args : Array Value} {below : List Frame} {meth : Method} {c : Code} {C : Cc} {Y : Ly} {A : Nat → Prop}
def w_X6_reachBy_L28 (Y : Ly) (post : Int32 → Mm → Prop) (ex_60 : Int32 → Mm → Prop) : Nat → Nat → Int32 → Nat → Int32 → Int32 → Mm → Prop
  | 0, _, _, _, _, _, _ => False
  | n28 + 1, k0, v1, k2, v3, v4, I => (((256 : Int32) ≤ v4 → ex_60 v3 I) ∧ (¬ (256 : Int32) ≤ v4 → (ky_is Y k0 6 ∧ w_X6_reachCubes Y I k0 v1 v4 (fun r10 I9 => (∀ x12 : Int32, x12 = v3 + r10 → w_X6_nextPremises Y I9 k0 k2 (v4 + (1 : Int32)) (fun r14 I13 => w_X6_reachBy_L28 Y post ex_60 n28 k0 v1 k2 x12 r14 I13))))))
set_option maxHeartbeats 4000000 in
set_option maxRecDepth 100000 in
theorem s_X6_reachBy_L28 (X : ky_X p s m args meth c C cX6_reachBy 5 RX6) (hr : meth.sig.returnType = some .int) (post : Int32 → Mm → Prop) (ex_60 : Int32 → Mm → Prop) (hx_60 : ∀ (v3 : Int32) (J : Mm), ex_60 v3 J → ky_G p l e rm_X6_reachBy s m args below meth c C Y A 5 (MQ below (va_Qi post (ky_B C Y A) A) args s 0 0 A) 60 [(3, .int v3)] [] J) : ∀ (n28 : Nat) (k0 : Nat) (v1 : Int32) (k2 : Nat) (v3 : Int32) (v4 : Int32) (I : Mm), w_X6_reachBy_L28 Y post ex_60 n28 k0 v1 k2 v3 v4 I → ky_G p l e rm_X6_reachBy s m args below meth c C Y A 5 (MQ below (va_Qi post (ky_B C Y A) A) args s 0 0 A) 28 [(0, .ref (Y.2.1 k0)), (1, .int v1), (2, .ref (Y.2.1 k2)), (3, .int v3), (4, .int v4)] [] I := by
  intro n28
  induction n28 with
  | zero => intro k0 v1 k2 v3 v4 I hw; exact False.elim hw
  | succ n28 ih =>
    intro k0 v1 k2 v3 v4 I hw
    refine kg_iload X 4 dX6_reachBy_28 rfl ?_
    refine kg_sipush (v := (256 : Int32)) X dX6_reachBy_30 (by decide) ?_
    refine kg_icmp_ge (tgt := 60) X dX6_reachBy_33 (by decide) (fun h15 => ?_) (fun h15 => ?_)
    · have hw := hw.1 h15
      refine kg_sub [3] rfl ?_
      exact hx_60 _ _  hw
    · have hw := hw.2 h15
      refine kg_iload_n X 3 dX6_reachBy_36 rfl rfl ?_
      refine kg_aload_n X 0 dX6_reachBy_37 rfl rfl ?_
      refine kg_iload_n X 1 dX6_reachBy_38 rfl rfl ?_
      refine kg_iload X 4 dX6_reachBy_39 rfl ?_
      obtain ⟨h11, hw⟩ := hw
      refine kg_callVi (n := 2) (As := [.int v1, .int v4]) X (c_X6_reachCubes l C Y A I k0 v1 v4 _ hw) kc_6 h11 rfl iv_X6_reachCubes kw_518 (by decide +kernel) (by decide) rfl rfl (Nat.le_of_ble_eq_true rfl) dX6_reachBy_41 (fun r10 I9 hw => ?_)
      refine kg_iadd X dX6_reachBy_44 ?_
      refine kg_topi (fun x12 ex12 => ?_)
      have hw := hw x12 ex12
      refine kg_istore_n (lv' := [(3, .int x12), (0, .ref (Y.2.1 k0)), (1, .int v1), (2, .ref (Y.2.1 k2)), (4, .int v4)]) X dX6_reachBy_45 rfl (by decide) rfl ?_
      refine kg_aload_n X 1 dX6_reachBy_46 rfl rfl ?_
      refine kg_aload_n X 3 dX6_reachBy_47 rfl rfl ?_
      refine kg_iload X 4 dX6_reachBy_48 rfl ?_
      refine kg_iconst (v := (1 : Int32)) X dX6_reachBy_50 (by decide) ?_
      refine kg_iadd X dX6_reachBy_51 ?_
      refine kg_callVi (n := 2) (As := [.ref (Y.2.1 k2), .int (v4 + (1 : Int32))]) X (c_X6_nextPremises l C Y A I9 k0 k2 (v4 + (1 : Int32)) _ hw) kc_6 h11 rfl iv_X6_nextPremises kw_256 (by decide +kernel) (by decide) rfl rfl (Nat.le_of_ble_eq_true rfl) dX6_reachBy_52 (fun r14 I13 hw => ?_)
      refine kg_istore (lv' := [(4, .int r14), (3, .int x12), (0, .ref (Y.2.1 k0)), (1, .int v1), (2, .ref (Y.2.1 k2))]) X dX6_reachBy_55 (by decide) rfl ?_
      refine kg_goto (tgt := 28) X dX6_reachBy_57 (by decide) ?_
      refine kg_sub [2, 3, 4, 1, 0] rfl ?_
      exact ih _ _ _ _ _ _  hw
def w_X6_reachBy (Y : Ly) (I : Mm) (k0 : Nat) (v1 : Int32) (post : Int32 → Mm → Prop) : Prop := (ky_is Y k0 6 ∧ (ky_is Y (ky_rp Y k0 2) 9 ∧ (vp_in v1 (ky_ln Y (ky_rp Y k0 2)) ∧ (∀ q4 : Nat, q4 = ky_rp Y (ky_rp Y k0 2) v1.toNatClampNeg → (ky_is Y q4 1 ∧ (ky_is Y (ky_rp Y q4 0) 2 ∧ (((I (ky_rp Y q4 0) 0) = (-1 : Int32) → post (0 : Int32) I) ∧ (¬ (I (ky_rp Y q4 0) 0) = (-1 : Int32) → w_X6_nextPremises Y I k0 q4 (0 : Int32) (fun r8 I7 => (∃ n28 : Nat, w_X6_reachBy_L28 Y post (fun v17 I16 => post v17 I16) n28 k0 v1 q4 (0 : Int32) r8 I7))))))))))
set_option maxHeartbeats 4000000 in
set_option maxRecDepth 100000 in
theorem c_X6_reachBy (l : Launch) (C : Cc) (Y : Ly) (A : Nat → Prop) (I : Mm) (k0 : Nat) (v1 : Int32) (post : Int32 → Mm → Prop) (hw : w_X6_reachBy Y I k0 v1 post) : ky_MI l yX6_reachBy cX6_reachBy 5 (some .int) rm_X6_reachBy C Y A I [.ref (Y.2.1 k0), .int v1] post := by
  refine ky_met (by decide) (Nat.le_of_ble_eq_true rfl) ?_
  intro p e s m args below meth c X hr
  have X : ky_X p s m args meth c C cX6_reachBy 5 RX6 := X
  show ky_G p l e rm_X6_reachBy s m args below meth c C Y A 5 (MQ below (va_Qi post (ky_B C Y A) A) args s 0 0 A) 0 [(0, .ref (Y.2.1 k0)), (1, .int v1)] [] I
  refine kg_aload_n X 0 dX6_reachBy_0 rfl rfl ?_
  obtain ⟨h1, hw⟩ := hw
  refine kg_getR (j := 2) X kc_6 h1 (by decide) (by decide) rfl kw_201 dX6_reachBy_1 ?_
  refine kg_iload_n X 1 dX6_reachBy_4 rfl rfl ?_
  obtain ⟨h2, hw⟩ := hw
  obtain ⟨h3, hw⟩ := hw
  refine kg_aald (kc := 9) X 1 rfl (by decide) h2 h3 dX6_reachBy_5 ?_
  refine kg_topr (fun q4 eq4 => ?_)
  have hw := hw q4 eq4
  refine kg_astore_n (lv' := [(2, .ref (Y.2.1 q4)), (0, .ref (Y.2.1 k0)), (1, .int v1)]) X dX6_reachBy_6 rfl (by decide) rfl ?_
  refine kg_iconst (v := (0 : Int32)) X dX6_reachBy_7 (by decide) ?_
  refine kg_istore_n (lv' := [(3, .int (0 : Int32)), (2, .ref (Y.2.1 q4)), (0, .ref (Y.2.1 k0)), (1, .int v1)]) X dX6_reachBy_8 rfl (by decide) rfl ?_
  refine kg_aload_n X 1 dX6_reachBy_9 rfl rfl ?_
  obtain ⟨h5, hw⟩ := hw
  refine kg_getR (j := 0) X kc_1 h5 (by decide) (by decide) rfl kw_179 dX6_reachBy_10 ?_
  obtain ⟨h6, hw⟩ := hw
  refine kg_getI (j := 0) X kc_2 h6 (by decide) (by decide) rfl kw_163 dX6_reachBy_13 ?_
  refine kg_iconst (v := (-1 : Int32)) X dX6_reachBy_16 (by decide) ?_
  refine kg_icmp_eq (tgt := 60) X dX6_reachBy_17 (by decide) (fun h18 => ?_) (fun h18 => ?_)
  · have hw := hw.1 h18
    refine kg_iload_n X 0 dX6_reachBy_60 rfl rfl ?_
    exact kg_iret X hr hw dX6_reachBy_61
  · have hw := hw.2 h18
    refine kg_aload_n X 2 dX6_reachBy_20 rfl rfl ?_
    refine kg_aload_n X 1 dX6_reachBy_21 rfl rfl ?_
    refine kg_iconst (v := (0 : Int32)) X dX6_reachBy_22 (by decide) ?_
    refine kg_callVi (n := 2) (As := [.ref (Y.2.1 q4), .int (0 : Int32)]) X (c_X6_nextPremises l C Y A I k0 q4 (0 : Int32) _ hw) kc_6 h1 rfl iv_X6_nextPremises kw_256 (by decide +kernel) (by decide) rfl rfl (Nat.le_of_ble_eq_true rfl) dX6_reachBy_23 (fun r8 I7 hw => ?_)
    refine kg_istore (lv' := [(4, .int r8), (3, .int (0 : Int32)), (2, .ref (Y.2.1 q4)), (0, .ref (Y.2.1 k0)), (1, .int v1)]) X dX6_reachBy_26 (by decide) rfl ?_
    obtain ⟨n28, hw⟩ := hw
    refine kg_sub [3, 4, 2, 1, 0] rfl ?_
    refine s_X6_reachBy_L28 X hr post _ ?_ n28 _ _ _ _ _ _  hw
    · intro v17 I16 hw
      refine kg_iload_n X 0 dX6_reachBy_60 rfl rfl ?_
      exact kg_iret X hr hw dX6_reachBy_61
end
abbrev rm_X6_makeRound : Room := { frames := 5, cells := 0, slots := 0, locals := 159 }
section
variable {p : Program} {l : Launch} {e : Env} {s : State} {m : MethodId} {args : Array Value} {below : List Frame} {meth : Method} {c : Code} {C : Cc} {Y : Ly} {A : Nat → Prop}
def w_X6_makeRound_B42 (Y : Ly) (post : Int32 → Mm → Prop) (k0 : Nat) (v1 : Int32) (I : Mm) : Prop := (ky_is Y k0 6 ∧ (∀ I5 : Mm, I5 = ky_up I k0 4 ((I k0 4) + (1 : Int32)) → post v1 I5))
set_option maxHeartbeats 4000000 in
set_option maxRecDepth 100000 in
theorem s_X6_makeRound_B42 (X : ky_X p s m args meth c C cX6_makeRound 3 RX6) (hr : meth.sig.returnType = some .int) (post : Int32 → Mm → Prop) (k0 : Nat) (v1 : Int32) (I : Mm) (hw : w_X6_makeRound_B42 Y post k0 v1 I) : ky_G p l e rm_X6_makeRound s m args below meth c C Y A 3 (MQ below (va_Qi post (ky_B C Y A) A) args s 0 0 A) 42 [(0, .ref (Y.2.1 k0)), (1, .int v1)] [] I := by
  refine kg_aload_n X 0 dX6_makeRound_42 rfl rfl ?_
  refine kg_dup X dX6_makeRound_43 rfl ?_
  obtain ⟨h4, hw⟩ := hw
  refine kg_getI (j := 4) X kc_6 h4 (by decide) (by decide) rfl kw_203 dX6_makeRound_44 ?_
  refine kg_iconst (v := (1 : Int32)) X dX6_makeRound_47 (by decide) ?_
  refine kg_iadd X dX6_makeRound_48 ?_
  refine kg_putI (ci := 6) (Tn := TX6) (j := 4) (ty := .int) X tyX6 tyX6_ok nmX6 kc_6 h4 (by decide) (by decide) rfl kw_203 (by decide +kernel) rfl rfl dX6_makeRound_49 ?_
  refine kg_topm (fun I5 eI5 => ?_)
  have hw := hw I5 eI5
  refine kg_iload_n X 1 dX6_makeRound_52 rfl rfl ?_
  exact kg_iret X hr hw dX6_makeRound_53
def w_X6_makeRound_L11 (Y : Ly) (post : Int32 → Mm → Prop) (ex_33 : Nat → Int32 → Mm → Prop) : Nat → Nat → Int32 → Int32 → Mm → Prop
  | 0, _, _, _, _ => False
  | n11 + 1, k0, v1, v2, I => (ky_is Y k0 6 ∧ (((I k0 3) ≤ v2 → ex_33 k0 v1 I) ∧ (¬ (I k0 3) ≤ v2 → w_X6_reachBy Y I k0 v2 (fun r8 I7 => (∀ x9 : Int32, x9 = v1 + r8 → (∀ x10 : Int32, x10 = v2 + (1 : Int32) → w_X6_makeRound_L11 Y post ex_33 n11 k0 x9 x10 I7))))))
set_option maxHeartbeats 4000000 in
set_option maxRecDepth 100000 in
theorem s_X6_makeRound_L11 (X : ky_X p s m args meth c C cX6_makeRound 3 RX6) (hr : meth.sig.returnType = some .int) (post : Int32 → Mm → Prop) (ex_33 : Nat → Int32 → Mm → Prop) (hx_33 : ∀ (k0 : Nat) (v1 : Int32) (J : Mm), ex_33 k0 v1 J → ky_G p l e rm_X6_makeRound s m args below meth c C Y A 3 (MQ below (va_Qi post (ky_B C Y A) A) args s 0 0 A) 33 [(0, .ref (Y.2.1 k0)), (1, .int v1)] [] J) : ∀ (n11 : Nat) (k0 : Nat) (v1 : Int32) (v2 : Int32) (I : Mm), w_X6_makeRound_L11 Y post ex_33 n11 k0 v1 v2 I → ky_G p l e rm_X6_makeRound s m args below meth c C Y A 3 (MQ below (va_Qi post (ky_B C Y A) A) args s 0 0 A) 11 [(0, .ref (Y.2.1 k0)), (1, .int v1), (2, .int v2)] [] I := by
  intro n11
  induction n11 with
  | zero => intro k0 v1 v2 I hw; exact False.elim hw
  | succ n11 ih =>
    intro k0 v1 v2 I hw
    refine kg_iload_n X 2 dX6_makeRound_11 rfl rfl ?_
    refine kg_aload_n X 0 dX6_makeRound_12 rfl rfl ?_
    obtain ⟨h6, hw⟩ := hw
    refine kg_getI (j := 3) X kc_6 h6 (by decide) (by decide) rfl kw_202 dX6_makeRound_13 ?_
    refine kg_icmp_ge (tgt := 33) X dX6_makeRound_16 (by decide) (fun h11 => ?_) (fun h11 => ?_)
    · have hw := hw.1 h11
      refine kg_sub [0, 1] rfl ?_
      exact hx_33 _ _ _  hw
    · have hw := hw.2 h11
      refine kg_iload_n X 1 dX6_makeRound_19 rfl rfl ?_
      refine kg_aload_n X 0 dX6_makeRound_20 rfl rfl ?_
      refine kg_iload_n X 2 dX6_makeRound_21 rfl rfl ?_
      refine kg_callVi (n := 1) (As := [.int v2]) X (c_X6_reachBy l C Y A I k0 v2 _ hw) kc_6 h6 rfl iv_X6_reachBy kw_514 (by decide +kernel) (by decide) rfl rfl (Nat.le_of_ble_eq_true rfl) dX6_makeRound_22 (fun r8 I7 hw => ?_)
      refine kg_iadd X dX6_makeRound_25 ?_
      refine kg_topi (fun x9 ex9 => ?_)
      have hw := hw x9 ex9
      refine kg_istore_n (lv' := [(1, .int x9), (0, .ref (Y.2.1 k0)), (2, .int v2)]) X dX6_makeRound_26 rfl (by decide) rfl ?_
      refine kg_iinc (dd := (1 : Int32)) (lvf := fun x10 => [(2, .int x10), (1, .int x9), (0, .ref (Y.2.1 k0))]) X 2 dX6_makeRound_27 rfl (by decide) (by decide) (fun _ => rfl) (fun x10 ex10 => ?_)
      have hw := hw x10 ex10
      refine kg_goto (tgt := 11) X dX6_makeRound_30 (by decide) ?_
      refine kg_sub [2, 1, 0] rfl ?_
      exact ih _ _ _ _  hw
def w_X6_makeRound (Y : Ly) (I : Mm) (k0 : Nat) (post : Int32 → Mm → Prop) : Prop := (ky_is Y k0 6 ∧ w_X6_raiseAlarm Y I k0 (fun r2 I1 => ((¬ r2 = 0 → w_X6_makeRound_B42 Y post k0 (0 : Int32) I1) ∧ (r2 = 0 → (∃ n11 : Nat, w_X6_makeRound_L11 Y post (fun k13 v14 I12 => ((¬ v14 = 0 → w_X6_makeRound_B42 Y post k13 v14 I12) ∧ (v14 = 0 → (ky_is Y k13 6 ∧ (∀ I16 : Mm, I16 = ky_up I12 k13 5 (1 : Int32) → w_X6_makeRound_B42 Y post k13 v14 I16))))) n11 k0 (0 : Int32) (0 : Int32) I1)))))
set_option maxHeartbeats 4000000 in
set_option maxRecDepth 100000 in
theorem c_X6_makeRound (l : Launch) (C : Cc) (Y : Ly) (A : Nat → Prop) (I : Mm) (k0 : Nat) (post : Int32 → Mm → Prop) (hw : w_X6_makeRound Y I k0 post) : ky_MI l yX6_makeRound cX6_makeRound 3 (some .int) rm_X6_makeRound C Y A I [.ref (Y.2.1 k0)] post := by
  refine ky_met (by decide) (Nat.le_of_ble_eq_true rfl) ?_
  intro p e s m args below meth c X hr
  have X : ky_X p s m args meth c C cX6_makeRound 3 RX6 := X
  show ky_G p l e rm_X6_makeRound s m args below meth c C Y A 3 (MQ below (va_Qi post (ky_B C Y A) A) args s 0 0 A) 0 [(0, .ref (Y.2.1 k0))] [] I
  refine kg_iconst (v := (0 : Int32)) X dX6_makeRound_0 (by decide) ?_
  refine kg_istore_n (lv' := [(1, .int (0 : Int32)), (0, .ref (Y.2.1 k0))]) X dX6_makeRound_1 rfl (by decide) rfl ?_
  refine kg_aload_n X 1 dX6_makeRound_2 rfl rfl ?_
  obtain ⟨h3, hw⟩ := hw
  refine kg_callVi (n := 0) (As := []) X (c_X6_raiseAlarm l C Y A I k0 _ hw) kc_6 h3 rfl iv_X6_raiseAlarm kw_486 (by decide +kernel) (by decide) rfl rfl (Nat.le_of_ble_eq_true rfl) dX6_makeRound_3 (fun r2 I1 hw => ?_)
  refine kg_if_ne (tgt := 42) X dX6_makeRound_6 (by decide) (fun h18 => ?_) (fun h18 => ?_)
  · have hw := hw.1 h18
    refine kg_sub [1, 0] rfl ?_
    exact s_X6_makeRound_B42 X hr post _ _ _ hw
  · have hw := hw.2 h18
    refine kg_iconst (v := (0 : Int32)) X dX6_makeRound_9 (by decide) ?_
    refine kg_istore_n (lv' := [(2, .int (0 : Int32)), (1, .int (0 : Int32)), (0, .ref (Y.2.1 k0))]) X dX6_makeRound_10 rfl (by decide) rfl ?_
    obtain ⟨n11, hw⟩ := hw
    refine kg_sub [2, 1, 0] rfl ?_
    refine s_X6_makeRound_L11 X hr post _ ?_ n11 _ _ _ _  hw
    · intro k13 v14 I12 hw
      refine kg_iload_n X 1 dX6_makeRound_33 rfl rfl ?_
      refine kg_if_ne (tgt := 42) X dX6_makeRound_34 (by decide) (fun h17 => ?_) (fun h17 => ?_)
      · have hw := hw.1 h17
        refine kg_sub [0, 1] rfl ?_
        exact s_X6_makeRound_B42 X hr post _ _ _ hw
      · have hw := hw.2 h17
        refine kg_aload_n X 0 dX6_makeRound_37 rfl rfl ?_
        refine kg_iconst (v := (1 : Int32)) X dX6_makeRound_38 (by decide) ?_
        obtain ⟨h15, hw⟩ := hw
        refine kg_putI (ci := 6) (Tn := TX6) (j := 5) (ty := .int) X tyX6 tyX6_ok nmX6 kc_6 h15 (by decide) (by decide) rfl kw_204 (by decide +kernel) rfl rfl dX6_makeRound_39 ?_
        refine kg_topm (fun I16 eI16 => ?_)
        have hw := hw I16 eI16
        refine kg_sub [0, 1] rfl ?_
        exact s_X6_makeRound_B42 X hr post _ _ _ hw
end
abbrev rm_X2_point : Room := { frames := 1, cells := 0, slots := 0, locals := 22 }
section
variable {p : Program} {l : Launch} {e : Env} {s : State} {m : MethodId} {args : Array Value} {below : List Frame} {meth : Method} {c : Code} {C : Cc} {Y : Ly} {A : Nat → Prop}
def w_X2_point (Y : Ly) (I : Mm) (k0 : Nat) (v1 : Int32) (post : Int32 → Mm → Prop) : Prop := (ky_is Y k0 2 ∧ w_X6_pointAt Y I v1 (I k0 1) (I k0 2) (fun r3 I2 => post r3 I2))
set_option maxHeartbeats 4000000 in
set_option maxRecDepth 100000 in
theorem c_X2_point (l : Launch) (C : Cc) (Y : Ly) (A : Nat → Prop) (I : Mm) (k0 : Nat) (v1 : Int32) (post : Int32 → Mm → Prop) (hw : w_X2_point Y I k0 v1 post) : ky_MI l yX2_point cX2_point 2 (some .int) rm_X2_point C Y A I [.ref (Y.2.1 k0), .int v1] post := by
  refine ky_met (by decide) (Nat.le_of_ble_eq_true rfl) ?_
  intro p e s m args below meth c X hr
  have X : ky_X p s m args meth c C cX2_point 2 RX2 := X
  show ky_G p l e rm_X2_point s m args below meth c C Y A 2 (MQ below (va_Qi post (ky_B C Y A) A) args s 0 0 A) 0 [(0, .ref (Y.2.1 k0)), (1, .int v1)] [] I
  refine kg_iload_n X 1 dX2_point_0 rfl rfl ?_
  refine kg_aload_n X 0 dX2_point_1 rfl rfl ?_
  obtain ⟨h1, hw⟩ := hw
  refine kg_getI (j := 1) X kc_2 h1 (by decide) (by decide) rfl kw_164 dX2_point_2 ?_
  refine kg_aload_n X 0 dX2_point_5 rfl rfl ?_
  refine kg_getI (j := 2) X kc_2 h1 (by decide) (by decide) rfl kw_166 dX2_point_6 ?_
  refine kg_callNi (n := 3) (As := [.int v1, .int (I k0 1), .int (I k0 2)]) (host := RX6) X (c_X6_pointAt l C Y A I v1 (I k0 1) (I k0 2) _ hw) is_X6_pointAt (fun h9 => h9.1) (by decide +kernel) (by decide) rfl rfl (Nat.le_of_ble_eq_true rfl) dX2_point_9 (fun r3 I2 hw => ?_)
  exact kg_iret X hr hw dX2_point_12
end
abbrev rm_X0_leastOf : Room := { frames := 0, cells := 0, slots := 0, locals := 0 }
section
variable {p : Program} {l : Launch} {e : Env} {s : State} {m : MethodId} {args : Array Value} {below : List Frame} {meth : Method} {c : Code} {C : Cc} {Y : Ly} {A : Nat → Prop}
def w_X0_leastOf (Y : Ly) (I : Mm) (k0 : Nat) (v1 : Int32) (v2 : Int32) (post : Int32 → Mm → Prop) : Prop := (ky_is Y k0 0 ∧ (ky_is Y (ky_rp Y k0 0) 8 ∧ (vp_in ((v1 * (6 : Int32)) + v2) (ky_ln Y (ky_rp Y k0 0)) ∧ post (I (ky_rp Y k0 0) ((v1 * (6 : Int32)) + v2).toNatClampNeg) I)))
set_option maxHeartbeats 4000000 in
set_option maxRecDepth 100000 in
theorem c_X0_leastOf (l : Launch) (C : Cc) (Y : Ly) (A : Nat → Prop) (I : Mm) (k0 : Nat) (v1 : Int32) (v2 : Int32) (post : Int32 → Mm → Prop) (hw : w_X0_leastOf Y I k0 v1 v2 post) : ky_MI l yX0_leastOf cX0_leastOf 3 (some .int) rm_X0_leastOf C Y A I [.ref (Y.2.1 k0), .int v1, .int v2] post := by
  refine ky_met (by decide) (Nat.le_of_ble_eq_true rfl) ?_
  intro p e s m args below meth c X hr
  have X : ky_X p s m args meth c C cX0_leastOf 3 RX0 := X
  show ky_G p l e rm_X0_leastOf s m args below meth c C Y A 3 (MQ below (va_Qi post (ky_B C Y A) A) args s 0 0 A) 0 [(0, .ref (Y.2.1 k0)), (1, .int v1), (2, .int v2)] [] I
  refine kg_aload_n X 0 dX0_leastOf_0 rfl rfl ?_
  obtain ⟨h1, hw⟩ := hw
  refine kg_getR (j := 0) X kc_0 h1 (by decide) (by decide) rfl kw_53 dX0_leastOf_1 ?_
  refine kg_iload_n X 1 dX0_leastOf_4 rfl rfl ?_
  refine kg_bipush (v := (6 : Int32)) X dX0_leastOf_5 (by decide) ?_
  refine kg_imul X dX0_leastOf_7 ?_
  refine kg_iload_n X 2 dX0_leastOf_8 rfl rfl ?_
  refine kg_iadd X dX0_leastOf_9 ?_
  obtain ⟨h2, hw⟩ := hw
  obtain ⟨h3, hw⟩ := hw
  refine kg_iald X h2 h3 dX0_leastOf_10 ?_
  exact kg_iret X hr hw dX0_leastOf_11
end
abbrev rm_X6_handUp : Room := { frames := 2, cells := 0, slots := 0, locals := 43 }
section
variable {p : Program} {l : Launch} {e : Env} {s : State} {m : MethodId} {args : Array Value} {below : List Frame} {meth : Method} {c : Code} {C : Cc} {Y : Ly} {A : Nat → Prop}
def w_X6_handUp_L87 (Y : Ly) (post : Mm → Prop) (ex_155 : Nat → Nat → Nat → Nat → Nat → Int32 → Mm → Prop) : Nat → Nat → Nat → Nat → Nat → Nat → Int32 → Int32 → Mm → Prop
  | 0, _, _, _, _, _, _, _, _ => False
  | n87 + 1, k1, k2, k3, k4, k5, v6, v7, I => (((3 : Int32) ≤ v7 → ex_155 k1 k2 k3 k4 k5 v6 I) ∧ (¬ (3 : Int32) ≤ v7 → (ky_is Y k5 4 ∧ w_X4_areTwoCorners Y I k5 v6 v7 (fun r23 I22 => ((r23 = 0 → (∀ x25 : Int32, x25 = v7 + (1 : Int32) → w_X6_handUp_L87 Y post ex_155 n87 k1 k2 k3 k4 k5 v6 x25 I22)) ∧ (¬ r23 = 0 → (ky_is Y k1 3 ∧ (ky_is Y k3 2 ∧ w_X2_point Y I22 k3 v6 (fun r28 I27 => w_X2_point Y I27 k3 v7 (fun r31 I30 => (ky_is Y (ky_rp Y k1 4) 0 ∧ w_X0_leastOf Y I30 (ky_rp Y k1 4) r28 r31 (fun r33 I32 => (ky_is Y k2 3 ∧ (ky_is Y k4 2 ∧ w_X2_point Y I32 k4 v6 (fun r37 I36 => w_X2_point Y I36 k4 v7 (fun r40 I39 => (ky_is Y (ky_rp Y k2 4) 0 ∧ w_X0_add Y I39 (ky_rp Y k2 4) r37 r40 r33 (fun I41 => (∀ x43 : Int32, x43 = v7 + (1 : Int32) → w_X6_handUp_L87 Y post ex_155 n87 k1 k2 k3 k4 k5 v6 x43 I41)))))))))))))))))))
set_option maxHeartbeats 4000000 in
set_option maxRecDepth 100000 in
theorem s_X6_handUp_L87 (X : ky_X p s m args meth c C cX6_handUp 9 RX6) (hr : meth.sig.returnType = none) (post : Mm → Prop) (ex_155 : Nat → Nat → Nat → Nat → Nat → Int32 → Mm → Prop) (hx_155 : ∀ (k1 : Nat) (k2 : Nat) (k3 : Nat) (k4 : Nat) (k5 : Nat) (v6 : Int32) (J : Mm), ex_155 k1 k2 k3 k4 k5 v6 J → ky_G p l e rm_X6_handUp s m args below meth c C Y A 9 (MQ below (va_Qv post (ky_B C Y A) A) args s 0 0 A) 155 [(1, .ref (Y.2.1 k1)), (2, .ref (Y.2.1 k2)), (3, .ref (Y.2.1 k3)), (4, .ref (Y.2.1 k4)), (5, .ref (Y.2.1 k5)), (6, .int v6)] [] J) : ∀ (n87 : Nat) (k1 : Nat) (k2 : Nat) (k3 : Nat) (k4 : Nat) (k5 : Nat) (v6 : Int32) (v7 : Int32) (I : Mm), w_X6_handUp_L87 Y post ex_155 n87 k1 k2 k3 k4 k5 v6 v7 I → ky_G p l e rm_X6_handUp s m args below meth c C Y A 9 (MQ below (va_Qv post (ky_B C Y A) A) args s 0 0 A) 87 [(1, .ref (Y.2.1 k1)), (2, .ref (Y.2.1 k2)), (3, .ref (Y.2.1 k3)), (4, .ref (Y.2.1 k4)), (5, .ref (Y.2.1 k5)), (6, .int v6), (7, .int v7)] [] I := by
  intro n87
  induction n87 with
  | zero => intro k1 k2 k3 k4 k5 v6 v7 I hw; exact False.elim hw
  | succ n87 ih =>
    intro k1 k2 k3 k4 k5 v6 v7 I hw
    refine kg_iload X 6 dX6_handUp_87 rfl ?_
    refine kg_iconst (v := (3 : Int32)) X dX6_handUp_89 (by decide) ?_
    refine kg_icmp_ge (tgt := 155) X dX6_handUp_90 (by decide) (fun h45 => ?_) (fun h45 => ?_)
    · have hw := hw.1 h45
      refine kg_sub [0, 1, 2, 3, 4, 5] rfl ?_
      exact hx_155 _ _ _ _ _ _ _  hw
    · have hw := hw.2 h45
      refine kg_aload X 4 dX6_handUp_93 rfl ?_
      refine kg_iload X 5 dX6_handUp_95 rfl ?_
      refine kg_iload X 6 dX6_handUp_97 rfl ?_
      obtain ⟨h24, hw⟩ := hw
      refine kg_callVi (n := 2) (As := [.int v6, .int v7]) X (c_X4_areTwoCorners l C Y A I k5 v6 v7 _ hw) kc_4 h24 rfl iv_X4_areTwoCorners kw_542 (by decide +kernel) (by decide) rfl rfl (Nat.le_of_ble_eq_true rfl) dX6_handUp_99 (fun r23 I22 hw => ?_)
      refine kg_if_eq (tgt := 149) X dX6_handUp_102 (by decide) (fun h44 => ?_) (fun h44 => ?_)
      · have hw := hw.1 h44
        refine kg_iinc (dd := (1 : Int32)) (lvf := fun x25 => [(7, .int x25), (1, .ref (Y.2.1 k1)), (2, .ref (Y.2.1 k2)), (3, .ref (Y.2.1 k3)), (4, .ref (Y.2.1 k4)), (5, .ref (Y.2.1 k5)), (6, .int v6)]) X 6 dX6_handUp_149 rfl (by decide) (by decide) (fun _ => rfl) (fun x25 ex25 => ?_)
        have hw := hw x25 ex25
        refine kg_goto (tgt := 87) X dX6_handUp_152 (by decide) ?_
        refine kg_sub [1, 2, 3, 4, 5, 6, 0] rfl ?_
        exact ih _ _ _ _ _ _ _ _  hw
      · have hw := hw.2 h44
        refine kg_aload_n X 0 dX6_handUp_105 rfl rfl ?_
        obtain ⟨h26, hw⟩ := hw
        refine kg_getR (j := 4) X kc_3 h26 (by decide) (by decide) rfl kw_71 dX6_handUp_106 ?_
        refine kg_aload_n X 2 dX6_handUp_109 rfl rfl ?_
        refine kg_iload X 5 dX6_handUp_110 rfl ?_
        obtain ⟨h29, hw⟩ := hw
        refine kg_callVi (n := 1) (As := [.int v6]) X (c_X2_point l C Y A I22 k3 v6 _ hw) kc_2 h29 rfl iv_X2_point kw_543 (by decide +kernel) (by decide) rfl rfl (Nat.le_of_ble_eq_true rfl) dX6_handUp_112 (fun r28 I27 hw => ?_)
        refine kg_aload_n X 2 dX6_handUp_115 rfl rfl ?_
        refine kg_iload X 6 dX6_handUp_116 rfl ?_
        refine kg_callVi (n := 1) (As := [.int v7]) X (c_X2_point l C Y A I27 k3 v7 _ hw) kc_2 h29 rfl iv_X2_point kw_543 (by decide +kernel) (by decide) rfl rfl (Nat.le_of_ble_eq_true rfl) dX6_handUp_118 (fun r31 I30 hw => ?_)
        obtain ⟨h34, hw⟩ := hw
        refine kg_callVi (n := 2) (As := [.int r28, .int r31]) X (c_X0_leastOf l C Y A I30 (ky_rp Y k1 4) r28 r31 _ hw) kc_0 h34 rfl iv_X0_leastOf kw_548 (by decide +kernel) (by decide) rfl rfl (Nat.le_of_ble_eq_true rfl) dX6_handUp_121 (fun r33 I32 hw => ?_)
        refine kg_istore (lv' := [(8, .int r33), (1, .ref (Y.2.1 k1)), (2, .ref (Y.2.1 k2)), (3, .ref (Y.2.1 k3)), (4, .ref (Y.2.1 k4)), (5, .ref (Y.2.1 k5)), (6, .int v6), (7, .int v7)]) X dX6_handUp_124 (by decide) rfl ?_
        refine kg_aload_n X 2 dX6_handUp_126 rfl rfl ?_
        obtain ⟨h35, hw⟩ := hw
        refine kg_getR (j := 4) X kc_3 h35 (by decide) (by decide) rfl kw_71 dX6_handUp_127 ?_
        refine kg_aload X 4 dX6_handUp_130 rfl ?_
        refine kg_iload X 6 dX6_handUp_132 rfl ?_
        obtain ⟨h38, hw⟩ := hw
        refine kg_callVi (n := 1) (As := [.int v6]) X (c_X2_point l C Y A I32 k4 v6 _ hw) kc_2 h38 rfl iv_X2_point kw_543 (by decide +kernel) (by decide) rfl rfl (Nat.le_of_ble_eq_true rfl) dX6_handUp_134 (fun r37 I36 hw => ?_)
        refine kg_aload X 4 dX6_handUp_137 rfl ?_
        refine kg_iload X 7 dX6_handUp_139 rfl ?_
        refine kg_callVi (n := 1) (As := [.int v7]) X (c_X2_point l C Y A I36 k4 v7 _ hw) kc_2 h38 rfl iv_X2_point kw_543 (by decide +kernel) (by decide) rfl rfl (Nat.le_of_ble_eq_true rfl) dX6_handUp_141 (fun r40 I39 hw => ?_)
        refine kg_iload X 0 dX6_handUp_144 rfl ?_
        obtain ⟨h42, hw⟩ := hw
        refine kg_callVv (n := 3) (As := [.int r37, .int r40, .int r33]) X (c_X0_add l C Y A I39 (ky_rp Y k2 4) r37 r40 r33 _ hw) kc_0 h42 rfl iv_X0_add kw_473 (by decide +kernel) (by decide) rfl rfl (Nat.le_of_ble_eq_true rfl) dX6_handUp_146 (fun I41 hw => ?_)
        refine kg_iinc (dd := (1 : Int32)) (lvf := fun x43 => [(7, .int x43), (8, .int r33), (1, .ref (Y.2.1 k1)), (2, .ref (Y.2.1 k2)), (3, .ref (Y.2.1 k3)), (4, .ref (Y.2.1 k4)), (5, .ref (Y.2.1 k5)), (6, .int v6)]) X 7 dX6_handUp_149 rfl (by decide) (by decide) (fun _ => rfl) (fun x43 ex43 => ?_)
        have hw := hw x43 ex43
        refine kg_goto (tgt := 87) X dX6_handUp_152 (by decide) ?_
        refine kg_sub [2, 3, 4, 5, 6, 7, 0] rfl ?_
        exact ih _ _ _ _ _ _ _ _  hw
def w_X6_handUp_L78 (Y : Ly) (post : Mm → Prop) (ex_161 : Mm → Prop) : Nat → Nat → Nat → Nat → Nat → Nat → Int32 → Mm → Prop
  | 0, _, _, _, _, _, _, _ => False
  | n78 + 1, k1, k2, k3, k4, k5, v6, I => (((3 : Int32) ≤ v6 → ex_161 I) ∧ (¬ (3 : Int32) ≤ v6 → (∃ n87 : Nat, w_X6_handUp_L87 Y post (fun k47 k48 k49 k50 k51 v52 I46 => (∀ x53 : Int32, x53 = v52 + (1 : Int32) → w_X6_handUp_L78 Y post ex_161 n78 k47 k48 k49 k50 k51 x53 I46)) n87 k1 k2 k3 k4 k5 v6 (0 : Int32) I)))
set_option maxHeartbeats 4000000 in
set_option maxRecDepth 100000 in
theorem s_X6_handUp_L78 (X : ky_X p s m args meth c C cX6_handUp 9 RX6) (hr : meth.sig.returnType = none) (post : Mm → Prop) (ex_161 : Mm → Prop) (hx_161 : ∀ (J : Mm), ex_161 J → ky_G p l e rm_X6_handUp s m args below meth c C Y A 9 (MQ below (va_Qv post (ky_B C Y A) A) args s 0 0 A) 161 [] [] J) : ∀ (n78 : Nat) (k1 : Nat) (k2 : Nat) (k3 : Nat) (k4 : Nat) (k5 : Nat) (v6 : Int32) (I : Mm), w_X6_handUp_L78 Y post ex_161 n78 k1 k2 k3 k4 k5 v6 I → ky_G p l e rm_X6_handUp s m args below meth c C Y A 9 (MQ below (va_Qv post (ky_B C Y A) A) args s 0 0 A) 78 [(1, .ref (Y.2.1 k1)), (2, .ref (Y.2.1 k2)), (3, .ref (Y.2.1 k3)), (4, .ref (Y.2.1 k4)), (5, .ref (Y.2.1 k5)), (6, .int v6)] [] I := by
  intro n78
  induction n78 with
  | zero => intro k1 k2 k3 k4 k5 v6 I hw; exact False.elim hw
  | succ n78 ih =>
    intro k1 k2 k3 k4 k5 v6 I hw
    refine kg_iload X 5 dX6_handUp_78 rfl ?_
    refine kg_iconst (v := (3 : Int32)) X dX6_handUp_80 (by decide) ?_
    refine kg_icmp_ge (tgt := 161) X dX6_handUp_81 (by decide) (fun h54 => ?_) (fun h54 => ?_)
    · have hw := hw.1 h54
      refine kg_sub [] rfl ?_
      exact hx_161 _  hw
    · have hw := hw.2 h54
      refine kg_iconst (v := (0 : Int32)) X dX6_handUp_84 (by decide) ?_
      refine kg_istore (lv' := [(7, .int (0 : Int32)), (1, .ref (Y.2.1 k1)), (2, .ref (Y.2.1 k2)), (3, .ref (Y.2.1 k3)), (4, .ref (Y.2.1 k4)), (5, .ref (Y.2.1 k5)), (6, .int v6)]) X dX6_handUp_85 (by decide) rfl ?_
      obtain ⟨n87, hw⟩ := hw
      refine kg_sub [1, 2, 3, 4, 5, 6, 0] rfl ?_
      refine s_X6_handUp_L87 X hr post _ ?_ n87 _ _ _ _ _ _ _ _  hw
      · intro k47 k48 k49 k50 k51 v52 I46 hw
        refine kg_iinc (dd := (1 : Int32)) (lvf := fun x53 => [(6, .int x53), (1, .ref (Y.2.1 k47)), (2, .ref (Y.2.1 k48)), (3, .ref (Y.2.1 k49)), (4, .ref (Y.2.1 k50)), (5, .ref (Y.2.1 k51))]) X 5 dX6_handUp_155 rfl (by decide) (by decide) (fun _ => rfl) (fun x53 ex53 => ?_)
        have hw := hw x53 ex53
        refine kg_goto (tgt := 78) X dX6_handUp_158 (by decide) ?_
        refine kg_sub [1, 2, 3, 4, 5, 0] rfl ?_
        exact ih _ _ _ _ _ _ _  hw
def w_X6_handUp (Y : Ly) (I : Mm) (k0 : Nat) (k1 : Nat) (post : Mm → Prop) : Prop := (ky_is Y k0 6 ∧ (ky_is Y (ky_rp Y k0 7) 5 ∧ (ky_is Y k1 3 ∧ (ky_is Y (ky_rp Y (ky_rp Y k0 7) 0) 11 ∧ (vp_in (I k1 1) (ky_ln Y (ky_rp Y (ky_rp Y k0 7) 0)) ∧ (∀ q6 : Nat, q6 = ky_rp Y (ky_rp Y (ky_rp Y k0 7) 0) (I k1 1).toNatClampNeg → (ky_is Y (ky_rp Y k1 4) 0 ∧ ((¬ (I (ky_rp Y k1 4) 1) = 0 → (ky_is Y (ky_rp Y k0 2) 9 ∧ (vp_in (I k1 0) (ky_ln Y (ky_rp Y k0 2)) ∧ (ky_is Y (ky_rp Y (ky_rp Y k0 2) (I k1 0).toNatClampNeg) 1 ∧ (∀ q11 : Nat, q11 = ky_rp Y (ky_rp Y (ky_rp Y k0 2) (I k1 0).toNatClampNeg) 0 → (ky_is Y q6 3 ∧ (vp_in (I q6 0) (ky_ln Y (ky_rp Y k0 2)) ∧ (ky_is Y (ky_rp Y (ky_rp Y k0 2) (I q6 0).toNatClampNeg) 1 ∧ (ky_is Y (ky_rp Y (ky_rp Y (ky_rp Y k0 2) (I q6 0).toNatClampNeg) 1) 10 ∧ (vp_in (I k1 2) (ky_ln Y (ky_rp Y (ky_rp Y (ky_rp Y k0 2) (I q6 0).toNatClampNeg) 1)) ∧ (∀ q17 : Nat, q17 = ky_rp Y (ky_rp Y (ky_rp Y (ky_rp Y k0 2) (I q6 0).toNatClampNeg) 1) (I k1 2).toNatClampNeg → (ky_is Y q11 2 ∧ (ky_is Y (ky_rp Y k0 0) 12 ∧ (vp_in (I q11 0) (ky_ln Y (ky_rp Y k0 0)) ∧ (∀ q21 : Nat, q21 = ky_rp Y (ky_rp Y k0 0) (I q11 0).toNatClampNeg → (∃ n78 : Nat, w_X6_handUp_L78 Y post (fun I55 => post I55) n78 k1 q6 q11 q17 q21 (0 : Int32) I)))))))))))))))) ∧ ((I (ky_rp Y k1 4) 1) = 0 → (ky_is Y q6 3 ∧ (ky_is Y (ky_rp Y q6 4) 0 ∧ (∀ I58 : Mm, I58 = ky_up I (ky_rp Y q6 4) 1 (0 : Int32) → post I58))))))))))))
set_option maxHeartbeats 4000000 in
set_option maxRecDepth 100000 in
theorem c_X6_handUp (l : Launch) (C : Cc) (Y : Ly) (A : Nat → Prop) (I : Mm) (k0 : Nat) (k1 : Nat) (post : Mm → Prop) (hw : w_X6_handUp Y I k0 k1 post) : ky_MV l yX6_handUp cX6_handUp 9 rm_X6_handUp C Y A I [.ref (Y.2.1 k0), .ref (Y.2.1 k1)] post := by
  refine ky_met (by decide) (Nat.le_of_ble_eq_true rfl) ?_
  intro p e s m args below meth c X hr
  have X : ky_X p s m args meth c C cX6_handUp 9 RX6 := X
  show ky_G p l e rm_X6_handUp s m args below meth c C Y A 9 (MQ below (va_Qv post (ky_B C Y A) A) args s 0 0 A) 0 [(0, .ref (Y.2.1 k0)), (1, .ref (Y.2.1 k1))] [] I
  refine kg_aload_n X 0 dX6_handUp_0 rfl rfl ?_
  obtain ⟨h1, hw⟩ := hw
  refine kg_getR (j := 7) X kc_6 h1 (by decide) (by decide) rfl kw_206 dX6_handUp_1 ?_
  obtain ⟨h2, hw⟩ := hw
  refine kg_getR (j := 0) X kc_5 h2 (by decide) (by decide) rfl kw_84 dX6_handUp_4 ?_
  refine kg_aload_n X 1 dX6_handUp_7 rfl rfl ?_
  obtain ⟨h3, hw⟩ := hw
  refine kg_getI (j := 1) X kc_3 h3 (by decide) (by decide) rfl kw_65 dX6_handUp_8 ?_
  obtain ⟨h4, hw⟩ := hw
  obtain ⟨h5, hw⟩ := hw
  refine kg_aald (kc := 11) X 3 rfl (by decide) h4 h5 dX6_handUp_11 ?_
  refine kg_topr (fun q6 eq6 => ?_)
  have hw := hw q6 eq6
  refine kg_astore_n (lv' := [(2, .ref (Y.2.1 q6)), (0, .ref (Y.2.1 k0)), (1, .ref (Y.2.1 k1))]) X dX6_handUp_12 rfl (by decide) rfl ?_
  refine kg_aload_n X 2 dX6_handUp_13 rfl rfl ?_
  refine kg_getR (j := 4) X kc_3 h3 (by decide) (by decide) rfl kw_71 dX6_handUp_14 ?_
  obtain ⟨h7, hw⟩ := hw
  refine kg_getI (j := 1) X kc_0 h7 (by decide) (by decide) rfl kw_55 dX6_handUp_17 ?_
  refine kg_if_ne (tgt := 32) X dX6_handUp_20 (by decide) (fun h59 => ?_) (fun h59 => ?_)
  · have hw := hw.1 h59
    refine kg_aload_n X 1 dX6_handUp_32 rfl rfl ?_
    refine kg_getR (j := 2) X kc_6 h1 (by decide) (by decide) rfl kw_201 dX6_handUp_33 ?_
    refine kg_aload_n X 2 dX6_handUp_36 rfl rfl ?_
    refine kg_getI (j := 0) X kc_3 h3 (by decide) (by decide) rfl kw_63 dX6_handUp_37 ?_
    obtain ⟨h8, hw⟩ := hw
    obtain ⟨h9, hw⟩ := hw
    refine kg_aald (kc := 9) X 1 rfl (by decide) h8 h9 dX6_handUp_40 ?_
    obtain ⟨h10, hw⟩ := hw
    refine kg_getR (j := 0) X kc_1 h10 (by decide) (by decide) rfl kw_179 dX6_handUp_41 ?_
    refine kg_topr (fun q11 eq11 => ?_)
    have hw := hw q11 eq11
    refine kg_astore_n (lv' := [(3, .ref (Y.2.1 q11)), (2, .ref (Y.2.1 q6)), (0, .ref (Y.2.1 k0)), (1, .ref (Y.2.1 k1))]) X dX6_handUp_44 rfl (by decide) rfl ?_
    refine kg_aload_n X 2 dX6_handUp_45 rfl rfl ?_
    refine kg_getR (j := 2) X kc_6 h1 (by decide) (by decide) rfl kw_201 dX6_handUp_46 ?_
    refine kg_aload_n X 1 dX6_handUp_49 rfl rfl ?_
    obtain ⟨h12, hw⟩ := hw
    refine kg_getI (j := 0) X kc_3 h12 (by decide) (by decide) rfl kw_63 dX6_handUp_50 ?_
    obtain ⟨h13, hw⟩ := hw
    refine kg_aald (kc := 9) X 1 rfl (by decide) h8 h13 dX6_handUp_53 ?_
    obtain ⟨h14, hw⟩ := hw
    refine kg_getR (j := 1) X kc_1 h14 (by decide) (by decide) rfl kw_181 dX6_handUp_54 ?_
    refine kg_aload_n X 3 dX6_handUp_57 rfl rfl ?_
    refine kg_getI (j := 2) X kc_3 h3 (by decide) (by decide) rfl kw_67 dX6_handUp_58 ?_
    obtain ⟨h15, hw⟩ := hw
    obtain ⟨h16, hw⟩ := hw
    refine kg_aald (kc := 10) X 2 rfl (by decide) h15 h16 dX6_handUp_61 ?_
    refine kg_topr (fun q17 eq17 => ?_)
    have hw := hw q17 eq17
    refine kg_astore (lv' := [(4, .ref (Y.2.1 q17)), (3, .ref (Y.2.1 q11)), (2, .ref (Y.2.1 q6)), (0, .ref (Y.2.1 k0)), (1, .ref (Y.2.1 k1))]) X dX6_handUp_62 (by decide) rfl ?_
    refine kg_aload_n X 3 dX6_handUp_64 rfl rfl ?_
    refine kg_getR (j := 0) X kc_6 h1 (by decide) (by decide) rfl kw_199 dX6_handUp_65 ?_
    refine kg_aload_n X 1 dX6_handUp_68 rfl rfl ?_
    obtain ⟨h18, hw⟩ := hw
    refine kg_getI (j := 0) X kc_2 h18 (by decide) (by decide) rfl kw_163 dX6_handUp_69 ?_
    obtain ⟨h19, hw⟩ := hw
    obtain ⟨h20, hw⟩ := hw
    refine kg_aald (kc := 12) X 4 rfl (by decide) h19 h20 dX6_handUp_72 ?_
    refine kg_topr (fun q21 eq21 => ?_)
    have hw := hw q21 eq21
    refine kg_astore (lv' := [(5, .ref (Y.2.1 q21)), (4, .ref (Y.2.1 q17)), (3, .ref (Y.2.1 q11)), (2, .ref (Y.2.1 q6)), (0, .ref (Y.2.1 k0)), (1, .ref (Y.2.1 k1))]) X dX6_handUp_73 (by decide) rfl ?_
    refine kg_iconst (v := (0 : Int32)) X dX6_handUp_75 (by decide) ?_
    refine kg_istore (lv' := [(6, .int (0 : Int32)), (5, .ref (Y.2.1 q21)), (4, .ref (Y.2.1 q17)), (3, .ref (Y.2.1 q11)), (2, .ref (Y.2.1 q6)), (0, .ref (Y.2.1 k0)), (1, .ref (Y.2.1 k1))]) X dX6_handUp_76 (by decide) rfl ?_
    obtain ⟨n78, hw⟩ := hw
    refine kg_sub [6, 4, 3, 2, 1, 0] rfl ?_
    refine s_X6_handUp_L78 X hr post _ ?_ n78 _ _ _ _ _ _ _  hw
    · intro I55 hw
      exact kg_vret X hr hw dX6_handUp_161
  · have hw := hw.2 h59
    refine kg_aload_n X 0 dX6_handUp_23 rfl rfl ?_
    obtain ⟨h56, hw⟩ := hw
    refine kg_getR (j := 4) X kc_3 h56 (by decide) (by decide) rfl kw_71 dX6_handUp_24 ?_
    refine kg_iconst (v := (0 : Int32)) X dX6_handUp_27 (by decide) ?_
    obtain ⟨h57, hw⟩ := hw
    refine kg_putI (ci := 0) (Tn := TX0) (j := 1) (ty := .boolean) X tyX0 tyX0_ok nmX0 kc_0 h57 (by decide) (by decide) rfl kw_55 (by decide +kernel) (ky_nb (by decide)).1 (ky_nb (by decide)).2 dX6_handUp_28 ?_
    refine kg_topm (fun I58 eI58 => ?_)
    have hw := hw I58 eI58
    exact kg_vret X hr hw dX6_handUp_31
end
abbrev rm_X6_closeTree : Room := { frames := 3, cells := 0, slots := 0, locals := 81 }
section
variable {p : Program} {l : Launch} {e : Env} {s : State} {m : MethodId} {args : Array Value} {below : List Frame} {meth : Method} {c : Code} {C : Cc} {Y : Ly} {A : Nat → Prop}
def w_X6_closeTree_L2 (Y : Ly) (post : Mm → Prop) (ex_48 : Nat → Mm → Prop) : Nat → Nat → Int32 → Mm → Prop
  | 0, _, _, _ => False
  | n2 + 1, k0, v1, I => (ky_is Y k0 6 ∧ (ky_is Y (ky_rp Y k0 7) 5 ∧ (((I (ky_rp Y k0 7) 1) ≤ v1 → ex_48 k0 I) ∧ (¬ (I (ky_rp Y k0 7) 1) ≤ v1 → (ky_is Y (ky_rp Y (ky_rp Y k0 7) 0) 11 ∧ (vp_in v1 (ky_ln Y (ky_rp Y (ky_rp Y k0 7) 0)) ∧ (∀ q5 : Nat, q5 = ky_rp Y (ky_rp Y (ky_rp Y k0 7) 0) v1.toNatClampNeg → (ky_is Y q5 3 ∧ (ky_is Y (ky_rp Y k0 2) 9 ∧ (vp_in (I q5 0) (ky_ln Y (ky_rp Y k0 2)) ∧ (ky_is Y (ky_rp Y (ky_rp Y k0 2) (I q5 0).toNatClampNeg) 1 ∧ (ky_is Y (ky_rp Y q5 4) 0 ∧ w_X0_copyFrom Y I (ky_rp Y q5 4) (ky_rp Y (ky_rp Y (ky_rp Y k0 2) (I q5 0).toNatClampNeg) 3) (fun I10 => (∀ x12 : Int32, x12 = v1 + (1 : Int32) → w_X6_closeTree_L2 Y post ex_48 n2 k0 x12 I10))))))))))))))
set_option maxHeartbeats 4000000 in
set_option maxRecDepth 100000 in
theorem s_X6_closeTree_L2 (X : ky_X p s m args meth c C cX6_closeTree 3 RX6) (hr : meth.sig.returnType = none) (post : Mm → Prop) (ex_48 : Nat → Mm → Prop) (hx_48 : ∀ (k0 : Nat) (J : Mm), ex_48 k0 J → ky_G p l e rm_X6_closeTree s m args below meth c C Y A 3 (MQ below (va_Qv post (ky_B C Y A) A) args s 0 0 A) 48 [(0, .ref (Y.2.1 k0))] [] J) : ∀ (n2 : Nat) (k0 : Nat) (v1 : Int32) (I : Mm), w_X6_closeTree_L2 Y post ex_48 n2 k0 v1 I → ky_G p l e rm_X6_closeTree s m args below meth c C Y A 3 (MQ below (va_Qv post (ky_B C Y A) A) args s 0 0 A) 2 [(0, .ref (Y.2.1 k0)), (1, .int v1)] [] I := by
  intro n2
  induction n2 with
  | zero => intro k0 v1 I hw; exact False.elim hw
  | succ n2 ih =>
    intro k0 v1 I hw
    refine kg_iload_n X 1 dX6_closeTree_2 rfl rfl ?_
    refine kg_aload_n X 0 dX6_closeTree_3 rfl rfl ?_
    obtain ⟨h1, hw⟩ := hw
    refine kg_getR (j := 7) X kc_6 h1 (by decide) (by decide) rfl kw_206 dX6_closeTree_4 ?_
    obtain ⟨h2, hw⟩ := hw
    refine kg_getI (j := 1) X kc_5 h2 (by decide) (by decide) rfl kw_86 dX6_closeTree_7 ?_
    refine kg_icmp_ge (tgt := 48) X dX6_closeTree_10 (by decide) (fun h13 => ?_) (fun h13 => ?_)
    · have hw := hw.1 h13
      refine kg_sub [0] rfl ?_
      exact hx_48 _ _  hw
    · have hw := hw.2 h13
      refine kg_aload_n X 0 dX6_closeTree_13 rfl rfl ?_
      refine kg_getR (j := 7) X kc_6 h1 (by decide) (by decide) rfl kw_206 dX6_closeTree_14 ?_
      refine kg_getR (j := 0) X kc_5 h2 (by decide) (by decide) rfl kw_84 dX6_closeTree_17 ?_
      refine kg_iload_n X 1 dX6_closeTree_20 rfl rfl ?_
      obtain ⟨h3, hw⟩ := hw
      obtain ⟨h4, hw⟩ := hw
      refine kg_aald (kc := 11) X 3 rfl (by decide) h3 h4 dX6_closeTree_21 ?_
      refine kg_topr (fun q5 eq5 => ?_)
      have hw := hw q5 eq5
      refine kg_astore_n (lv' := [(2, .ref (Y.2.1 q5)), (0, .ref (Y.2.1 k0)), (1, .int v1)]) X dX6_closeTree_22 rfl (by decide) rfl ?_
      refine kg_aload_n X 0 dX6_closeTree_23 rfl rfl ?_
      obtain ⟨h6, hw⟩ := hw
      refine kg_getR (j := 4) X kc_3 h6 (by decide) (by decide) rfl kw_71 dX6_closeTree_24 ?_
      refine kg_aload_n X 1 dX6_closeTree_27 rfl rfl ?_
      refine kg_getR (j := 2) X kc_6 h1 (by decide) (by decide) rfl kw_201 dX6_closeTree_28 ?_
      refine kg_aload_n X 0 dX6_closeTree_31 rfl rfl ?_
      refine kg_getI (j := 0) X kc_3 h6 (by decide) (by decide) rfl kw_63 dX6_closeTree_32 ?_
      obtain ⟨h7, hw⟩ := hw
      obtain ⟨h8, hw⟩ := hw
      refine kg_aald (kc := 9) X 1 rfl (by decide) h7 h8 dX6_closeTree_35 ?_
      obtain ⟨h9, hw⟩ := hw
      refine kg_getR (j := 3) X kc_1 h9 (by decide) (by decide) rfl kw_186 dX6_closeTree_36 ?_
      obtain ⟨h11, hw⟩ := hw
      refine kg_callVv (n := 1) (As := [.ref (Y.2.1 (ky_rp Y (ky_rp Y (ky_rp Y k0 2) (I q5 0).toNatClampNeg) 3))]) X (c_X0_copyFrom l C Y A I (ky_rp Y q5 4) (ky_rp Y (ky_rp Y (ky_rp Y k0 2) (I q5 0).toNatClampNeg) 3) _ hw) kc_0 h11 rfl iv_X0_copyFrom kw_272 (by decide +kernel) (by decide) rfl rfl (Nat.le_of_ble_eq_true rfl) dX6_closeTree_39 (fun I10 hw => ?_)
      refine kg_iinc (dd := (1 : Int32)) (lvf := fun x12 => [(1, .int x12), (2, .ref (Y.2.1 q5)), (0, .ref (Y.2.1 k0))]) X 2 dX6_closeTree_42 rfl (by decide) (by decide) (fun _ => rfl) (fun x12 ex12 => ?_)
      have hw := hw x12 ex12
      refine kg_goto (tgt := 2) X dX6_closeTree_45 (by decide) ?_
      refine kg_sub [2, 0] rfl ?_
      exact ih _ _ _  hw
def w_X6_closeTree_L58 (Y : Ly) (post : Mm → Prop) (ex_81 : Mm → Prop) : Nat → Nat → Int32 → Mm → Prop
  | 0, _, _, _ => False
  | n58 + 1, k0, v1, I => ((v1 ≤ 0 → ex_81 I) ∧ (¬ v1 ≤ 0 → (ky_is Y k0 6 ∧ (ky_is Y (ky_rp Y k0 7) 5 ∧ (ky_is Y (ky_rp Y (ky_rp Y k0 7) 0) 11 ∧ (vp_in v1 (ky_ln Y (ky_rp Y (ky_rp Y k0 7) 0)) ∧ w_X6_handUp Y I k0 (ky_rp Y (ky_rp Y (ky_rp Y k0 7) 0) v1.toNatClampNeg) (fun I23 => (∀ x24 : Int32, x24 = v1 + (-1 : Int32) → w_X6_closeTree_L58 Y post ex_81 n58 k0 x24 I23))))))))
set_option maxHeartbeats 4000000 in
set_option maxRecDepth 100000 in
theorem s_X6_closeTree_L58 (X : ky_X p s m args meth c C cX6_closeTree 3 RX6) (hr : meth.sig.returnType = none) (post : Mm → Prop) (ex_81 : Mm → Prop) (hx_81 : ∀ (J : Mm), ex_81 J → ky_G p l e rm_X6_closeTree s m args below meth c C Y A 3 (MQ below (va_Qv post (ky_B C Y A) A) args s 0 0 A) 81 [] [] J) : ∀ (n58 : Nat) (k0 : Nat) (v1 : Int32) (I : Mm), w_X6_closeTree_L58 Y post ex_81 n58 k0 v1 I → ky_G p l e rm_X6_closeTree s m args below meth c C Y A 3 (MQ below (va_Qv post (ky_B C Y A) A) args s 0 0 A) 58 [(0, .ref (Y.2.1 k0)), (1, .int v1)] [] I := by
  intro n58
  induction n58 with
  | zero => intro k0 v1 I hw; exact False.elim hw
  | succ n58 ih =>
    intro k0 v1 I hw
    refine kg_iload_n X 1 dX6_closeTree_58 rfl rfl ?_
    refine kg_if_le (tgt := 81) X dX6_closeTree_59 (by decide) (fun h25 => ?_) (fun h25 => ?_)
    · have hw := hw.1 h25
      refine kg_sub [] rfl ?_
      exact hx_81 _  hw
    · have hw := hw.2 h25
      refine kg_aload_n X 0 dX6_closeTree_62 rfl rfl ?_
      refine kg_aload_n X 0 dX6_closeTree_63 rfl rfl ?_
      obtain ⟨h19, hw⟩ := hw
      refine kg_getR (j := 7) X kc_6 h19 (by decide) (by decide) rfl kw_206 dX6_closeTree_64 ?_
      obtain ⟨h20, hw⟩ := hw
      refine kg_getR (j := 0) X kc_5 h20 (by decide) (by decide) rfl kw_84 dX6_closeTree_67 ?_
      refine kg_iload_n X 1 dX6_closeTree_70 rfl rfl ?_
      obtain ⟨h21, hw⟩ := hw
      obtain ⟨h22, hw⟩ := hw
      refine kg_aald (kc := 11) X 3 rfl (by decide) h21 h22 dX6_closeTree_71 ?_
      refine kg_callVv (n := 1) (As := [.ref (Y.2.1 (ky_rp Y (ky_rp Y (ky_rp Y k0 7) 0) v1.toNatClampNeg))]) X (c_X6_handUp l C Y A I k0 (ky_rp Y (ky_rp Y (ky_rp Y k0 7) 0) v1.toNatClampNeg) _ hw) kc_6 h19 rfl iv_X6_handUp kw_538 (by decide +kernel) (by decide) rfl rfl (Nat.le_of_ble_eq_true rfl) dX6_closeTree_72 (fun I23 hw => ?_)
      refine kg_iinc (dd := (-1 : Int32)) (lvf := fun x24 => [(1, .int x24), (0, .ref (Y.2.1 k0))]) X 1 dX6_closeTree_75 rfl (by decide) (by decide) (fun _ => rfl) (fun x24 ex24 => ?_)
      have hw := hw x24 ex24
      refine kg_goto (tgt := 58) X dX6_closeTree_78 (by decide) ?_
      refine kg_sub [1, 0] rfl ?_
      exact ih _ _ _  hw
def w_X6_closeTree (Y : Ly) (I : Mm) (k0 : Nat) (post : Mm → Prop) : Prop := (∃ n2 : Nat, w_X6_closeTree_L2 Y post (fun k15 I14 => (ky_is Y k15 6 ∧ (ky_is Y (ky_rp Y k15 7) 5 ∧ (∀ x18 : Int32, x18 = (I14 (ky_rp Y k15 7) 1) - (1 : Int32) → (∃ n58 : Nat, w_X6_closeTree_L58 Y post (fun I26 => post I26) n58 k15 x18 I14))))) n2 k0 (0 : Int32) I)
set_option maxHeartbeats 4000000 in
set_option maxRecDepth 100000 in
theorem c_X6_closeTree (l : Launch) (C : Cc) (Y : Ly) (A : Nat → Prop) (I : Mm) (k0 : Nat) (post : Mm → Prop) (hw : w_X6_closeTree Y I k0 post) : ky_MV l yX6_closeTree cX6_closeTree 3 rm_X6_closeTree C Y A I [.ref (Y.2.1 k0)] post := by
  refine ky_met (by decide) (Nat.le_of_ble_eq_true rfl) ?_
  intro p e s m args below meth c X hr
  have X : ky_X p s m args meth c C cX6_closeTree 3 RX6 := X
  show ky_G p l e rm_X6_closeTree s m args below meth c C Y A 3 (MQ below (va_Qv post (ky_B C Y A) A) args s 0 0 A) 0 [(0, .ref (Y.2.1 k0))] [] I
  refine kg_iconst (v := (0 : Int32)) X dX6_closeTree_0 (by decide) ?_
  refine kg_istore_n (lv' := [(1, .int (0 : Int32)), (0, .ref (Y.2.1 k0))]) X dX6_closeTree_1 rfl (by decide) rfl ?_
  obtain ⟨n2, hw⟩ := hw
  refine kg_sub [1, 0] rfl ?_
  refine s_X6_closeTree_L2 X hr post _ ?_ n2 _ _ _  hw
  · intro k15 I14 hw
    refine kg_aload_n X 0 dX6_closeTree_48 rfl rfl ?_
    obtain ⟨h16, hw⟩ := hw
    refine kg_getR (j := 7) X kc_6 h16 (by decide) (by decide) rfl kw_206 dX6_closeTree_49 ?_
    obtain ⟨h17, hw⟩ := hw
    refine kg_getI (j := 1) X kc_5 h17 (by decide) (by decide) rfl kw_86 dX6_closeTree_52 ?_
    refine kg_iconst (v := (1 : Int32)) X dX6_closeTree_55 (by decide) ?_
    refine kg_isub X dX6_closeTree_56 ?_
    refine kg_topi (fun x18 ex18 => ?_)
    have hw := hw x18 ex18
    refine kg_istore_n (lv' := [(1, .int x18), (0, .ref (Y.2.1 k15))]) X dX6_closeTree_57 rfl (by decide) rfl ?_
    obtain ⟨n58, hw⟩ := hw
    refine kg_sub [1, 0] rfl ?_
    refine s_X6_closeTree_L58 X hr post _ ?_ n58 _ _ _  hw
    · intro I26 hw
      exact kg_vret X hr hw dX6_closeTree_81
end
abbrev rm_X6_markBy : Room := { frames := 3, cells := 0, slots := 0, locals := 66 }
section
variable {p : Program} {l : Launch} {e : Env} {s : State} {m : MethodId} {args : Array Value} {below : List Frame} {meth : Method} {c : Code} {C : Cc} {Y : Ly} {A : Nat → Prop}
def w_X6_markBy_L50 (Y : Ly) (post : Int32 → Mm → Prop) (ex_130 : Nat → Nat → Nat → Int32 → Int32 → Mm → Prop) : Nat → Nat → Nat → Nat → Int32 → Int32 → Int32 → Mm → Prop
  | 0, _, _, _, _, _, _, _ => False
  | n50 + 1, k1, k2, k3, v4, v5, v6, I => (((3 : Int32) ≤ v6 → ex_130 k1 k2 k3 v4 v5 I) ∧ (¬ (3 : Int32) ≤ v6 → (ky_is Y k1 3 ∧ (ky_is Y k2 2 ∧ w_X2_point Y I k2 v5 (fun r14 I13 => w_X2_point Y I13 k2 v6 (fun r17 I16 => (ky_is Y (ky_rp Y k1 4) 0 ∧ w_X0_leastOf Y I16 (ky_rp Y k1 4) r14 r17 (fun r19 I18 => (ky_is Y k3 4 ∧ (((4 : Int32) ≤ (I18 k3 1) → (∀ x22 : Int32, x22 = v6 + (1 : Int32) → w_X6_markBy_L50 Y post ex_130 n50 k1 k2 k3 v4 v5 x22 I18)) ∧ (¬ (4 : Int32) ≤ (I18 k3 1) → w_X4_canMark Y I18 k3 v5 v6 r19 (fun r24 I23 => ((r24 = 0 → (∀ x25 : Int32, x25 = v6 + (1 : Int32) → w_X6_markBy_L50 Y post ex_130 n50 k1 k2 k3 v4 v5 x25 I23)) ∧ (¬ r24 = 0 → w_X4_hasMark Y I23 k3 v5 v6 r19 (fun r27 I26 => ((¬ r27 = 0 → (∀ x28 : Int32, x28 = v6 + (1 : Int32) → w_X6_markBy_L50 Y post ex_130 n50 k1 k2 k3 v4 v5 x28 I26)) ∧ (r27 = 0 → w_X4_addMark Y I26 k3 v5 v6 r19 (fun I29 => (∀ x30 : Int32, x30 = v4 + (1 : Int32) → (∀ x31 : Int32, x31 = v6 + (1 : Int32) → w_X6_markBy_L50 Y post ex_130 n50 k1 k2 k3 x30 v5 x31 I29))))))))))))))))))))
set_option maxHeartbeats 4000000 in
set_option maxRecDepth 100000 in
theorem s_X6_markBy_L50 (X : ky_X p s m args meth c C cX6_markBy 8 RX6) (hr : meth.sig.returnType = some .int) (post : Int32 → Mm → Prop) (ex_130 : Nat → Nat → Nat → Int32 → Int32 → Mm → Prop) (hx_130 : ∀ (k1 : Nat) (k2 : Nat) (k3 : Nat) (v4 : Int32) (v5 : Int32) (J : Mm), ex_130 k1 k2 k3 v4 v5 J → ky_G p l e rm_X6_markBy s m args below meth c C Y A 8 (MQ below (va_Qi post (ky_B C Y A) A) args s 0 0 A) 130 [(1, .ref (Y.2.1 k1)), (2, .ref (Y.2.1 k2)), (3, .ref (Y.2.1 k3)), (4, .int v4), (5, .int v5)] [] J) : ∀ (n50 : Nat) (k1 : Nat) (k2 : Nat) (k3 : Nat) (v4 : Int32) (v5 : Int32) (v6 : Int32) (I : Mm), w_X6_markBy_L50 Y post ex_130 n50 k1 k2 k3 v4 v5 v6 I → ky_G p l e rm_X6_markBy s m args below meth c C Y A 8 (MQ below (va_Qi post (ky_B C Y A) A) args s 0 0 A) 50 [(1, .ref (Y.2.1 k1)), (2, .ref (Y.2.1 k2)), (3, .ref (Y.2.1 k3)), (4, .int v4), (5, .int v5), (6, .int v6)] [] I := by
  intro n50
  induction n50 with
  | zero => intro k1 k2 k3 v4 v5 v6 I hw; exact False.elim hw
  | succ n50 ih =>
    intro k1 k2 k3 v4 v5 v6 I hw
    refine kg_iload X 5 dX6_markBy_50 rfl ?_
    refine kg_iconst (v := (3 : Int32)) X dX6_markBy_52 (by decide) ?_
    refine kg_icmp_ge (tgt := 130) X dX6_markBy_53 (by decide) (fun h35 => ?_) (fun h35 => ?_)
    · have hw := hw.1 h35
      refine kg_sub [0, 1, 2, 3, 4] rfl ?_
      exact hx_130 _ _ _ _ _ _  hw
    · have hw := hw.2 h35
      refine kg_aload_n X 0 dX6_markBy_56 rfl rfl ?_
      obtain ⟨h12, hw⟩ := hw
      refine kg_getR (j := 4) X kc_3 h12 (by decide) (by decide) rfl kw_71 dX6_markBy_57 ?_
      refine kg_aload_n X 1 dX6_markBy_60 rfl rfl ?_
      refine kg_iload X 4 dX6_markBy_61 rfl ?_
      obtain ⟨h15, hw⟩ := hw
      refine kg_callVi (n := 1) (As := [.int v5]) X (c_X2_point l C Y A I k2 v5 _ hw) kc_2 h15 rfl iv_X2_point kw_543 (by decide +kernel) (by decide) rfl rfl (Nat.le_of_ble_eq_true rfl) dX6_markBy_63 (fun r14 I13 hw => ?_)
      refine kg_aload_n X 1 dX6_markBy_66 rfl rfl ?_
      refine kg_iload X 5 dX6_markBy_67 rfl ?_
      refine kg_callVi (n := 1) (As := [.int v6]) X (c_X2_point l C Y A I13 k2 v6 _ hw) kc_2 h15 rfl iv_X2_point kw_543 (by decide +kernel) (by decide) rfl rfl (Nat.le_of_ble_eq_true rfl) dX6_markBy_69 (fun r17 I16 hw => ?_)
      obtain ⟨h20, hw⟩ := hw
      refine kg_callVi (n := 2) (As := [.int r14, .int r17]) X (c_X0_leastOf l C Y A I16 (ky_rp Y k1 4) r14 r17 _ hw) kc_0 h20 rfl iv_X0_leastOf kw_548 (by decide +kernel) (by decide) rfl rfl (Nat.le_of_ble_eq_true rfl) dX6_markBy_72 (fun r19 I18 hw => ?_)
      refine kg_istore (lv' := [(7, .int r19), (1, .ref (Y.2.1 k1)), (2, .ref (Y.2.1 k2)), (3, .ref (Y.2.1 k3)), (4, .int v4), (5, .int v5), (6, .int v6)]) X dX6_markBy_75 (by decide) rfl ?_
      refine kg_aload_n X 3 dX6_markBy_77 rfl rfl ?_
      obtain ⟨h21, hw⟩ := hw
      refine kg_getI (j := 1) X kc_4 h21 (by decide) (by decide) rfl kw_118 dX6_markBy_78 ?_
      refine kg_iconst (v := (4 : Int32)) X dX6_markBy_81 (by decide) ?_
      refine kg_icmp_ge (tgt := 124) X dX6_markBy_82 (by decide) (fun h34 => ?_) (fun h34 => ?_)
      · have hw := hw.1 h34
        refine kg_iinc (dd := (1 : Int32)) (lvf := fun x22 => [(6, .int x22), (7, .int r19), (1, .ref (Y.2.1 k1)), (2, .ref (Y.2.1 k2)), (3, .ref (Y.2.1 k3)), (4, .int v4), (5, .int v5)]) X 6 dX6_markBy_124 rfl (by decide) (by decide) (fun _ => rfl) (fun x22 ex22 => ?_)
        have hw := hw x22 ex22
        refine kg_goto (tgt := 50) X dX6_markBy_127 (by decide) ?_
        refine kg_sub [2, 3, 4, 5, 6, 0] rfl ?_
        exact ih _ _ _ _ _ _ _  hw
      · have hw := hw.2 h34
        refine kg_aload_n X 3 dX6_markBy_85 rfl rfl ?_
        refine kg_iload X 5 dX6_markBy_86 rfl ?_
        refine kg_iload X 6 dX6_markBy_88 rfl ?_
        refine kg_iload X 0 dX6_markBy_90 rfl ?_
        refine kg_callVi (n := 3) (As := [.int v5, .int v6, .int r19]) X (c_X4_canMark l C Y A I18 k3 v5 v6 r19 _ hw) kc_4 h21 rfl iv_X4_canMark kw_407 (by decide +kernel) (by decide) rfl rfl (Nat.le_of_ble_eq_true rfl) dX6_markBy_92 (fun r24 I23 hw => ?_)
        refine kg_if_eq (tgt := 124) X dX6_markBy_95 (by decide) (fun h33 => ?_) (fun h33 => ?_)
        · have hw := hw.1 h33
          refine kg_iinc (dd := (1 : Int32)) (lvf := fun x25 => [(6, .int x25), (7, .int r19), (1, .ref (Y.2.1 k1)), (2, .ref (Y.2.1 k2)), (3, .ref (Y.2.1 k3)), (4, .int v4), (5, .int v5)]) X 6 dX6_markBy_124 rfl (by decide) (by decide) (fun _ => rfl) (fun x25 ex25 => ?_)
          have hw := hw x25 ex25
          refine kg_goto (tgt := 50) X dX6_markBy_127 (by decide) ?_
          refine kg_sub [2, 3, 4, 5, 6, 0] rfl ?_
          exact ih _ _ _ _ _ _ _  hw
        · have hw := hw.2 h33
          refine kg_aload_n X 3 dX6_markBy_98 rfl rfl ?_
          refine kg_iload X 5 dX6_markBy_99 rfl ?_
          refine kg_iload X 6 dX6_markBy_101 rfl ?_
          refine kg_iload X 0 dX6_markBy_103 rfl ?_
          refine kg_callVi (n := 3) (As := [.int v5, .int v6, .int r19]) X (c_X4_hasMark l C Y A I23 k3 v5 v6 r19 _ hw) kc_4 h21 rfl iv_X4_hasMark kw_423 (by decide +kernel) (by decide) rfl rfl (Nat.le_of_ble_eq_true rfl) dX6_markBy_105 (fun r27 I26 hw => ?_)
          refine kg_if_ne (tgt := 124) X dX6_markBy_108 (by decide) (fun h32 => ?_) (fun h32 => ?_)
          · have hw := hw.1 h32
            refine kg_iinc (dd := (1 : Int32)) (lvf := fun x28 => [(6, .int x28), (7, .int r19), (1, .ref (Y.2.1 k1)), (2, .ref (Y.2.1 k2)), (3, .ref (Y.2.1 k3)), (4, .int v4), (5, .int v5)]) X 6 dX6_markBy_124 rfl (by decide) (by decide) (fun _ => rfl) (fun x28 ex28 => ?_)
            have hw := hw x28 ex28
            refine kg_goto (tgt := 50) X dX6_markBy_127 (by decide) ?_
            refine kg_sub [2, 3, 4, 5, 6, 0] rfl ?_
            exact ih _ _ _ _ _ _ _  hw
          · have hw := hw.2 h32
            refine kg_aload_n X 3 dX6_markBy_111 rfl rfl ?_
            refine kg_iload X 5 dX6_markBy_112 rfl ?_
            refine kg_iload X 6 dX6_markBy_114 rfl ?_
            refine kg_iload X 0 dX6_markBy_116 rfl ?_
            refine kg_callVv (n := 3) (As := [.int v5, .int v6, .int r19]) X (c_X4_addMark l C Y A I26 k3 v5 v6 r19 _ hw) kc_4 h21 rfl iv_X4_addMark kw_428 (by decide +kernel) (by decide) rfl rfl (Nat.le_of_ble_eq_true rfl) dX6_markBy_118 (fun I29 hw => ?_)
            refine kg_iinc (dd := (1 : Int32)) (lvf := fun x30 => [(4, .int x30), (7, .int r19), (1, .ref (Y.2.1 k1)), (2, .ref (Y.2.1 k2)), (3, .ref (Y.2.1 k3)), (5, .int v5), (6, .int v6)]) X 4 dX6_markBy_121 rfl (by decide) (by decide) (fun _ => rfl) (fun x30 ex30 => ?_)
            have hw := hw x30 ex30
            refine kg_iinc (dd := (1 : Int32)) (lvf := fun x31 => [(6, .int x31), (4, .int x30), (7, .int r19), (1, .ref (Y.2.1 k1)), (2, .ref (Y.2.1 k2)), (3, .ref (Y.2.1 k3)), (5, .int v5)]) X 6 dX6_markBy_124 rfl (by decide) (by decide) (fun _ => rfl) (fun x31 ex31 => ?_)
            have hw := hw x31 ex31
            refine kg_goto (tgt := 50) X dX6_markBy_127 (by decide) ?_
            refine kg_sub [3, 4, 5, 1, 6, 0] rfl ?_
            exact ih _ _ _ _ _ _ _  hw
def w_X6_markBy_L41 (Y : Ly) (post : Int32 → Mm → Prop) (ex_136 : Int32 → Mm → Prop) : Nat → Nat → Nat → Nat → Int32 → Int32 → Mm → Prop
  | 0, _, _, _, _, _, _ => False
  | n41 + 1, k1, k2, k3, v4, v5, I => (((3 : Int32) ≤ v5 → ex_136 v4 I) ∧ (¬ (3 : Int32) ≤ v5 → (∃ n50 : Nat, w_X6_markBy_L50 Y post (fun k37 k38 k39 v40 v41 I36 => (∀ x42 : Int32, x42 = v41 + (1 : Int32) → w_X6_markBy_L41 Y post ex_136 n41 k37 k38 k39 v40 x42 I36)) n50 k1 k2 k3 v4 v5 (0 : Int32) I)))
set_option maxHeartbeats 4000000 in
set_option maxRecDepth 100000 in
theorem s_X6_markBy_L41 (X : ky_X p s m args meth c C cX6_markBy 8 RX6) (hr : meth.sig.returnType = some .int) (post : Int32 → Mm → Prop) (ex_136 : Int32 → Mm → Prop) (hx_136 : ∀ (v4 : Int32) (J : Mm), ex_136 v4 J → ky_G p l e rm_X6_markBy s m args below meth c C Y A 8 (MQ below (va_Qi post (ky_B C Y A) A) args s 0 0 A) 136 [(4, .int v4)] [] J) : ∀ (n41 : Nat) (k1 : Nat) (k2 : Nat) (k3 : Nat) (v4 : Int32) (v5 : Int32) (I : Mm), w_X6_markBy_L41 Y post ex_136 n41 k1 k2 k3 v4 v5 I → ky_G p l e rm_X6_markBy s m args below meth c C Y A 8 (MQ below (va_Qi post (ky_B C Y A) A) args s 0 0 A) 41 [(1, .ref (Y.2.1 k1)), (2, .ref (Y.2.1 k2)), (3, .ref (Y.2.1 k3)), (4, .int v4), (5, .int v5)] [] I := by
  intro n41
  induction n41 with
  | zero => intro k1 k2 k3 v4 v5 I hw; exact False.elim hw
  | succ n41 ih =>
    intro k1 k2 k3 v4 v5 I hw
    refine kg_iload X 4 dX6_markBy_41 rfl ?_
    refine kg_iconst (v := (3 : Int32)) X dX6_markBy_43 (by decide) ?_
    refine kg_icmp_ge (tgt := 136) X dX6_markBy_44 (by decide) (fun h43 => ?_) (fun h43 => ?_)
    · have hw := hw.1 h43
      refine kg_sub [3] rfl ?_
      exact hx_136 _ _  hw
    · have hw := hw.2 h43
      refine kg_iconst (v := (0 : Int32)) X dX6_markBy_47 (by decide) ?_
      refine kg_istore (lv' := [(6, .int (0 : Int32)), (1, .ref (Y.2.1 k1)), (2, .ref (Y.2.1 k2)), (3, .ref (Y.2.1 k3)), (4, .int v4), (5, .int v5)]) X dX6_markBy_48 (by decide) rfl ?_
      obtain ⟨n50, hw⟩ := hw
      refine kg_sub [1, 2, 3, 4, 5, 0] rfl ?_
      refine s_X6_markBy_L50 X hr post _ ?_ n50 _ _ _ _ _ _ _  hw
      · intro k37 k38 k39 v40 v41 I36 hw
        refine kg_iinc (dd := (1 : Int32)) (lvf := fun x42 => [(5, .int x42), (1, .ref (Y.2.1 k37)), (2, .ref (Y.2.1 k38)), (3, .ref (Y.2.1 k39)), (4, .int v40)]) X 4 dX6_markBy_130 rfl (by decide) (by decide) (fun _ => rfl) (fun x42 ex42 => ?_)
        have hw := hw x42 ex42
        refine kg_goto (tgt := 41) X dX6_markBy_133 (by decide) ?_
        refine kg_sub [1, 2, 3, 4, 0] rfl ?_
        exact ih _ _ _ _ _ _  hw
def w_X6_markBy (Y : Ly) (I : Mm) (k0 : Nat) (k1 : Nat) (post : Int32 → Mm → Prop) : Prop := (ky_is Y k1 3 ∧ (ky_is Y (ky_rp Y k1 4) 0 ∧ ((¬ (I (ky_rp Y k1 4) 1) = 0 → (ky_is Y k0 6 ∧ (ky_is Y (ky_rp Y k0 2) 9 ∧ (vp_in (I k1 0) (ky_ln Y (ky_rp Y k0 2)) ∧ (ky_is Y (ky_rp Y (ky_rp Y k0 2) (I k1 0).toNatClampNeg) 1 ∧ (∀ q7 : Nat, q7 = ky_rp Y (ky_rp Y (ky_rp Y k0 2) (I k1 0).toNatClampNeg) 0 → (ky_is Y q7 2 ∧ (ky_is Y (ky_rp Y k0 0) 12 ∧ (vp_in (I q7 0) (ky_ln Y (ky_rp Y k0 0)) ∧ (∀ q11 : Nat, q11 = ky_rp Y (ky_rp Y k0 0) (I q7 0).toNatClampNeg → (∃ n41 : Nat, w_X6_markBy_L41 Y post (fun v45 I44 => post v45 I44) n41 k1 q7 q11 (0 : Int32) (0 : Int32) I))))))))))) ∧ ((I (ky_rp Y k1 4) 1) = 0 → post (0 : Int32) I))))
set_option maxHeartbeats 4000000 in
set_option maxRecDepth 100000 in
theorem c_X6_markBy (l : Launch) (C : Cc) (Y : Ly) (A : Nat → Prop) (I : Mm) (k0 : Nat) (k1 : Nat) (post : Int32 → Mm → Prop) (hw : w_X6_markBy Y I k0 k1 post) : ky_MI l yX6_markBy cX6_markBy 8 (some .int) rm_X6_markBy C Y A I [.ref (Y.2.1 k0), .ref (Y.2.1 k1)] post := by
  refine ky_met (by decide) (Nat.le_of_ble_eq_true rfl) ?_
  intro p e s m args below meth c X hr
  have X : ky_X p s m args meth c C cX6_markBy 8 RX6 := X
  show ky_G p l e rm_X6_markBy s m args below meth c C Y A 8 (MQ below (va_Qi post (ky_B C Y A) A) args s 0 0 A) 0 [(0, .ref (Y.2.1 k0)), (1, .ref (Y.2.1 k1))] [] I
  refine kg_aload_n X 1 dX6_markBy_0 rfl rfl ?_
  obtain ⟨h1, hw⟩ := hw
  refine kg_getR (j := 4) X kc_3 h1 (by decide) (by decide) rfl kw_71 dX6_markBy_1 ?_
  obtain ⟨h2, hw⟩ := hw
  refine kg_getI (j := 1) X kc_0 h2 (by decide) (by decide) rfl kw_55 dX6_markBy_4 ?_
  refine kg_if_ne (tgt := 12) X dX6_markBy_7 (by decide) (fun h46 => ?_) (fun h46 => ?_)
  · have hw := hw.1 h46
    refine kg_aload_n X 0 dX6_markBy_12 rfl rfl ?_
    obtain ⟨h3, hw⟩ := hw
    refine kg_getR (j := 2) X kc_6 h3 (by decide) (by decide) rfl kw_201 dX6_markBy_13 ?_
    refine kg_aload_n X 1 dX6_markBy_16 rfl rfl ?_
    refine kg_getI (j := 0) X kc_3 h1 (by decide) (by decide) rfl kw_63 dX6_markBy_17 ?_
    obtain ⟨h4, hw⟩ := hw
    obtain ⟨h5, hw⟩ := hw
    refine kg_aald (kc := 9) X 1 rfl (by decide) h4 h5 dX6_markBy_20 ?_
    obtain ⟨h6, hw⟩ := hw
    refine kg_getR (j := 0) X kc_1 h6 (by decide) (by decide) rfl kw_179 dX6_markBy_21 ?_
    refine kg_topr (fun q7 eq7 => ?_)
    have hw := hw q7 eq7
    refine kg_astore_n (lv' := [(2, .ref (Y.2.1 q7)), (0, .ref (Y.2.1 k0)), (1, .ref (Y.2.1 k1))]) X dX6_markBy_24 rfl (by decide) rfl ?_
    refine kg_aload_n X 1 dX6_markBy_25 rfl rfl ?_
    refine kg_getR (j := 0) X kc_6 h3 (by decide) (by decide) rfl kw_199 dX6_markBy_26 ?_
    refine kg_aload_n X 0 dX6_markBy_29 rfl rfl ?_
    obtain ⟨h8, hw⟩ := hw
    refine kg_getI (j := 0) X kc_2 h8 (by decide) (by decide) rfl kw_163 dX6_markBy_30 ?_
    obtain ⟨h9, hw⟩ := hw
    obtain ⟨h10, hw⟩ := hw
    refine kg_aald (kc := 12) X 4 rfl (by decide) h9 h10 dX6_markBy_33 ?_
    refine kg_topr (fun q11 eq11 => ?_)
    have hw := hw q11 eq11
    refine kg_astore_n (lv' := [(3, .ref (Y.2.1 q11)), (2, .ref (Y.2.1 q7)), (0, .ref (Y.2.1 k0)), (1, .ref (Y.2.1 k1))]) X dX6_markBy_34 rfl (by decide) rfl ?_
    refine kg_iconst (v := (0 : Int32)) X dX6_markBy_35 (by decide) ?_
    refine kg_istore (lv' := [(4, .int (0 : Int32)), (3, .ref (Y.2.1 q11)), (2, .ref (Y.2.1 q7)), (0, .ref (Y.2.1 k0)), (1, .ref (Y.2.1 k1))]) X dX6_markBy_36 (by decide) rfl ?_
    refine kg_iconst (v := (0 : Int32)) X dX6_markBy_38 (by decide) ?_
    refine kg_istore (lv' := [(5, .int (0 : Int32)), (4, .int (0 : Int32)), (3, .ref (Y.2.1 q11)), (2, .ref (Y.2.1 q7)), (0, .ref (Y.2.1 k0)), (1, .ref (Y.2.1 k1))]) X dX6_markBy_39 (by decide) rfl ?_
    obtain ⟨n41, hw⟩ := hw
    refine kg_sub [5, 3, 2, 1, 0] rfl ?_
    refine s_X6_markBy_L41 X hr post _ ?_ n41 _ _ _ _ _ _  hw
    · intro v45 I44 hw
      refine kg_iload X 0 dX6_markBy_136 rfl ?_
      exact kg_iret X hr hw dX6_markBy_138
  · have hw := hw.2 h46
    refine kg_iconst (v := (0 : Int32)) X dX6_markBy_10 (by decide) ?_
    exact kg_iret X hr hw dX6_markBy_11
end
abbrev rm_X6_refineAlarm : Room := { frames := 4, cells := 0, slots := 0, locals := 103 }
section
variable {p : Program} {l : Launch} {e : Env} {s : State} {m : MethodId} {args : Array Value} {below : List Frame} {meth : Method} {c : Code} {C : Cc} {Y : Ly} {A : Nat → Prop}
def w_X6_refineAlarm_L52 (Y : Ly) (post : Int32 → Mm → Prop) (ex_85 : Nat → Int32 → Mm → Prop) : Nat → Nat → Int32 → Int32 → Mm → Prop
  | 0, _, _, _, _ => False
  | n52 + 1, k0, v1, v2, I => (ky_is Y k0 6 ∧ (ky_is Y (ky_rp Y k0 7) 5 ∧ (((I (ky_rp Y k0 7) 1) ≤ v2 → ex_85 k0 v1 I) ∧ (¬ (I (ky_rp Y k0 7) 1) ≤ v2 → (ky_is Y (ky_rp Y (ky_rp Y k0 7) 0) 11 ∧ (vp_in v2 (ky_ln Y (ky_rp Y (ky_rp Y k0 7) 0)) ∧ w_X6_markBy Y I k0 (ky_rp Y (ky_rp Y (ky_rp Y k0 7) 0) v2.toNatClampNeg) (fun r13 I12 => (∀ x14 : Int32, x14 = v1 + r13 → (∀ x15 : Int32, x15 = v2 + (1 : Int32) → w_X6_refineAlarm_L52 Y post ex_85 n52 k0 x14 x15 I12)))))))))
set_option maxHeartbeats 4000000 in
set_option maxRecDepth 100000 in
theorem s_X6_refineAlarm_L52 (X : ky_X p s m args meth c C cX6_refineAlarm 3 RX6) (hr : meth.sig.returnType = some .int) (post : Int32 → Mm → Prop) (ex_85 : Nat → Int32 → Mm → Prop) (hx_85 : ∀ (k0 : Nat) (v1 : Int32) (J : Mm), ex_85 k0 v1 J → ky_G p l e rm_X6_refineAlarm s m args below meth c C Y A 3 (MQ below (va_Qi post (ky_B C Y A) A) args s 0 0 A) 85 [(0, .ref (Y.2.1 k0)), (1, .int v1)] [] J) : ∀ (n52 : Nat) (k0 : Nat) (v1 : Int32) (v2 : Int32) (I : Mm), w_X6_refineAlarm_L52 Y post ex_85 n52 k0 v1 v2 I → ky_G p l e rm_X6_refineAlarm s m args below meth c C Y A 3 (MQ below (va_Qi post (ky_B C Y A) A) args s 0 0 A) 52 [(0, .ref (Y.2.1 k0)), (1, .int v1), (2, .int v2)] [] I := by
  intro n52
  induction n52 with
  | zero => intro k0 v1 v2 I hw; exact False.elim hw
  | succ n52 ih =>
    intro k0 v1 v2 I hw
    refine kg_iload_n X 2 dX6_refineAlarm_52 rfl rfl ?_
    refine kg_aload_n X 0 dX6_refineAlarm_53 rfl rfl ?_
    obtain ⟨h8, hw⟩ := hw
    refine kg_getR (j := 7) X kc_6 h8 (by decide) (by decide) rfl kw_206 dX6_refineAlarm_54 ?_
    obtain ⟨h9, hw⟩ := hw
    refine kg_getI (j := 1) X kc_5 h9 (by decide) (by decide) rfl kw_86 dX6_refineAlarm_57 ?_
    refine kg_icmp_ge (tgt := 85) X dX6_refineAlarm_60 (by decide) (fun h16 => ?_) (fun h16 => ?_)
    · have hw := hw.1 h16
      refine kg_sub [0, 1] rfl ?_
      exact hx_85 _ _ _  hw
    · have hw := hw.2 h16
      refine kg_iload_n X 1 dX6_refineAlarm_63 rfl rfl ?_
      refine kg_aload_n X 0 dX6_refineAlarm_64 rfl rfl ?_
      refine kg_aload_n X 0 dX6_refineAlarm_65 rfl rfl ?_
      refine kg_getR (j := 7) X kc_6 h8 (by decide) (by decide) rfl kw_206 dX6_refineAlarm_66 ?_
      refine kg_getR (j := 0) X kc_5 h9 (by decide) (by decide) rfl kw_84 dX6_refineAlarm_69 ?_
      refine kg_iload_n X 2 dX6_refineAlarm_72 rfl rfl ?_
      obtain ⟨h10, hw⟩ := hw
      obtain ⟨h11, hw⟩ := hw
      refine kg_aald (kc := 11) X 3 rfl (by decide) h10 h11 dX6_refineAlarm_73 ?_
      refine kg_callVi (n := 1) (As := [.ref (Y.2.1 (ky_rp Y (ky_rp Y (ky_rp Y k0 7) 0) v2.toNatClampNeg))]) X (c_X6_markBy l C Y A I k0 (ky_rp Y (ky_rp Y (ky_rp Y k0 7) 0) v2.toNatClampNeg) _ hw) kc_6 h8 rfl iv_X6_markBy kw_552 (by decide +kernel) (by decide) rfl rfl (Nat.le_of_ble_eq_true rfl) dX6_refineAlarm_74 (fun r13 I12 hw => ?_)
      refine kg_iadd X dX6_refineAlarm_77 ?_
      refine kg_topi (fun x14 ex14 => ?_)
      have hw := hw x14 ex14
      refine kg_istore_n (lv' := [(1, .int x14), (0, .ref (Y.2.1 k0)), (2, .int v2)]) X dX6_refineAlarm_78 rfl (by decide) rfl ?_
      refine kg_iinc (dd := (1 : Int32)) (lvf := fun x15 => [(2, .int x15), (1, .int x14), (0, .ref (Y.2.1 k0))]) X 2 dX6_refineAlarm_79 rfl (by decide) (by decide) (fun _ => rfl) (fun x15 ex15 => ?_)
      have hw := hw x15 ex15
      refine kg_goto (tgt := 52) X dX6_refineAlarm_82 (by decide) ?_
      refine kg_sub [2, 1, 0] rfl ?_
      exact ih _ _ _ _  hw
def w_X6_refineAlarm (Y : Ly) (I : Mm) (k0 : Nat) (post : Int32 → Mm → Prop) : Prop := (ky_is Y k0 6 ∧ (ky_is Y (ky_rp Y k0 7) 5 ∧ (((I (ky_rp Y k0 7) 1) ≤ (40 : Int32) → w_X6_closeTree Y I k0 (fun I3 => (ky_is Y (ky_rp Y (ky_rp Y k0 7) 0) 11 ∧ (vp_in (0 : Int32) (ky_ln Y (ky_rp Y (ky_rp Y k0 7) 0)) ∧ (ky_is Y (ky_rp Y (ky_rp Y (ky_rp Y k0 7) 0) (0 : Int32).toNatClampNeg) 3 ∧ (ky_is Y (ky_rp Y (ky_rp Y (ky_rp Y (ky_rp Y k0 7) 0) (0 : Int32).toNatClampNeg) 4) 0 ∧ (((I3 (ky_rp Y (ky_rp Y (ky_rp Y (ky_rp Y k0 7) 0) (0 : Int32).toNatClampNeg) 4) 1) = 0 → (∃ n52 : Nat, w_X6_refineAlarm_L52 Y post (fun k18 v19 I17 => ((¬ v19 = 0 → (ky_is Y k18 6 ∧ (∀ I21 : Mm, I21 = ky_up I17 k18 8 ((I17 k18 8) + (1 : Int32)) → w_X6_startAfresh Y I21 k18 (fun I22 => post v19 I22)))) ∧ (v19 = 0 → (ky_is Y k18 6 ∧ (∀ I24 : Mm, I24 = ky_up I17 k18 5 (3 : Int32) → post v19 I24))))) n52 k0 (0 : Int32) (1 : Int32) I3)) ∧ (¬ (I3 (ky_rp Y (ky_rp Y (ky_rp Y (ky_rp Y k0 7) 0) (0 : Int32).toNatClampNeg) 4) 1) = 0 → (∀ I26 : Mm, I26 = ky_up I3 k0 5 (2 : Int32) → post (0 : Int32) I26))))))))) ∧ (¬ (I (ky_rp Y k0 7) 1) ≤ (40 : Int32) → (∀ I28 : Mm, I28 = ky_up I k0 5 (3 : Int32) → post (0 : Int32) I28)))))
set_option maxHeartbeats 4000000 in
set_option maxRecDepth 100000 in
theorem c_X6_refineAlarm (l : Launch) (C : Cc) (Y : Ly) (A : Nat → Prop) (I : Mm) (k0 : Nat) (post : Int32 → Mm → Prop) (hw : w_X6_refineAlarm Y I k0 post) : ky_MI l yX6_refineAlarm cX6_refineAlarm 3 (some .int) rm_X6_refineAlarm C Y A I [.ref (Y.2.1 k0)] post := by
  refine ky_met (by decide) (Nat.le_of_ble_eq_true rfl) ?_
  intro p e s m args below meth c X hr
  have X : ky_X p s m args meth c C cX6_refineAlarm 3 RX6 := X
  show ky_G p l e rm_X6_refineAlarm s m args below meth c C Y A 3 (MQ below (va_Qi post (ky_B C Y A) A) args s 0 0 A) 0 [(0, .ref (Y.2.1 k0))] [] I
  refine kg_aload_n X 0 dX6_refineAlarm_0 rfl rfl ?_
  obtain ⟨h1, hw⟩ := hw
  refine kg_getR (j := 7) X kc_6 h1 (by decide) (by decide) rfl kw_206 dX6_refineAlarm_1 ?_
  obtain ⟨h2, hw⟩ := hw
  refine kg_getI (j := 1) X kc_5 h2 (by decide) (by decide) rfl kw_86 dX6_refineAlarm_4 ?_
  refine kg_bipush (v := (40 : Int32)) X dX6_refineAlarm_7 (by decide) ?_
  refine kg_icmp_le (tgt := 19) X dX6_refineAlarm_9 (by decide) (fun h29 => ?_) (fun h29 => ?_)
  · have hw := hw.1 h29
    refine kg_aload_n X 0 dX6_refineAlarm_19 rfl rfl ?_
    refine kg_callVv (n := 0) (As := []) X (c_X6_closeTree l C Y A I k0 _ hw) kc_6 h1 rfl iv_X6_closeTree kw_534 (by decide +kernel) (by decide) rfl rfl (Nat.le_of_ble_eq_true rfl) dX6_refineAlarm_20 (fun I3 hw => ?_)
    refine kg_aload_n X 0 dX6_refineAlarm_23 rfl rfl ?_
    refine kg_getR (j := 7) X kc_6 h1 (by decide) (by decide) rfl kw_206 dX6_refineAlarm_24 ?_
    refine kg_getR (j := 0) X kc_5 h2 (by decide) (by decide) rfl kw_84 dX6_refineAlarm_27 ?_
    refine kg_iconst (v := (0 : Int32)) X dX6_refineAlarm_30 (by decide) ?_
    obtain ⟨h4, hw⟩ := hw
    obtain ⟨h5, hw⟩ := hw
    refine kg_aald (kc := 11) X 3 rfl (by decide) h4 h5 dX6_refineAlarm_31 ?_
    obtain ⟨h6, hw⟩ := hw
    refine kg_getR (j := 4) X kc_3 h6 (by decide) (by decide) rfl kw_71 dX6_refineAlarm_32 ?_
    obtain ⟨h7, hw⟩ := hw
    refine kg_getI (j := 1) X kc_0 h7 (by decide) (by decide) rfl kw_55 dX6_refineAlarm_35 ?_
    refine kg_if_eq (tgt := 48) X dX6_refineAlarm_38 (by decide) (fun h27 => ?_) (fun h27 => ?_)
    · have hw := hw.1 h27
      refine kg_iconst (v := (0 : Int32)) X dX6_refineAlarm_48 (by decide) ?_
      refine kg_istore_n (lv' := [(1, .int (0 : Int32)), (0, .ref (Y.2.1 k0))]) X dX6_refineAlarm_49 rfl (by decide) rfl ?_
      refine kg_iconst (v := (1 : Int32)) X dX6_refineAlarm_50 (by decide) ?_
      refine kg_istore_n (lv' := [(2, .int (1 : Int32)), (1, .int (0 : Int32)), (0, .ref (Y.2.1 k0))]) X dX6_refineAlarm_51 rfl (by decide) rfl ?_
      obtain ⟨n52, hw⟩ := hw
      refine kg_sub [2, 1, 0] rfl ?_
      refine s_X6_refineAlarm_L52 X hr post _ ?_ n52 _ _ _ _  hw
      · intro k18 v19 I17 hw
        refine kg_iload_n X 1 dX6_refineAlarm_85 rfl rfl ?_
        refine kg_if_ne (tgt := 97) X dX6_refineAlarm_86 (by decide) (fun h25 => ?_) (fun h25 => ?_)
        · have hw := hw.1 h25
          refine kg_aload_n X 0 dX6_refineAlarm_97 rfl rfl ?_
          refine kg_dup X dX6_refineAlarm_98 rfl ?_
          obtain ⟨h20, hw⟩ := hw
          refine kg_getI (j := 8) X kc_6 h20 (by decide) (by decide) rfl kw_207 dX6_refineAlarm_99 ?_
          refine kg_iconst (v := (1 : Int32)) X dX6_refineAlarm_102 (by decide) ?_
          refine kg_iadd X dX6_refineAlarm_103 ?_
          refine kg_putI (ci := 6) (Tn := TX6) (j := 8) (ty := .int) X tyX6 tyX6_ok nmX6 kc_6 h20 (by decide) (by decide) rfl kw_207 (by decide +kernel) rfl rfl dX6_refineAlarm_104 ?_
          refine kg_topm (fun I21 eI21 => ?_)
          have hw := hw I21 eI21
          refine kg_aload_n X 0 dX6_refineAlarm_107 rfl rfl ?_
          refine kg_callVv (n := 0) (As := []) X (c_X6_startAfresh l C Y A I21 k18 _ hw) kc_6 h20 rfl iv_X6_startAfresh kw_240 (by decide +kernel) (by decide) rfl rfl (Nat.le_of_ble_eq_true rfl) dX6_refineAlarm_108 (fun I22 hw => ?_)
          refine kg_iload_n X 1 dX6_refineAlarm_111 rfl rfl ?_
          exact kg_iret X hr hw dX6_refineAlarm_112
        · have hw := hw.2 h25
          refine kg_aload_n X 0 dX6_refineAlarm_89 rfl rfl ?_
          refine kg_iconst (v := (3 : Int32)) X dX6_refineAlarm_90 (by decide) ?_
          obtain ⟨h23, hw⟩ := hw
          refine kg_putI (ci := 6) (Tn := TX6) (j := 5) (ty := .int) X tyX6 tyX6_ok nmX6 kc_6 h23 (by decide) (by decide) rfl kw_204 (by decide +kernel) rfl rfl dX6_refineAlarm_91 ?_
          refine kg_topm (fun I24 eI24 => ?_)
          have hw := hw I24 eI24
          refine kg_goto (tgt := 111) X dX6_refineAlarm_94 (by decide) ?_
          refine kg_iload_n X 1 dX6_refineAlarm_111 rfl rfl ?_
          exact kg_iret X hr hw dX6_refineAlarm_112
    · have hw := hw.2 h27
      refine kg_aload_n X 0 dX6_refineAlarm_41 rfl rfl ?_
      refine kg_iconst (v := (2 : Int32)) X dX6_refineAlarm_42 (by decide) ?_
      refine kg_putI (ci := 6) (Tn := TX6) (j := 5) (ty := .int) X tyX6 tyX6_ok nmX6 kc_6 h1 (by decide) (by decide) rfl kw_204 (by decide +kernel) rfl rfl dX6_refineAlarm_43 ?_
      refine kg_topm (fun I26 eI26 => ?_)
      have hw := hw I26 eI26
      refine kg_iconst (v := (0 : Int32)) X dX6_refineAlarm_46 (by decide) ?_
      exact kg_iret X hr hw dX6_refineAlarm_47
  · have hw := hw.2 h29
    refine kg_aload_n X 0 dX6_refineAlarm_12 rfl rfl ?_
    refine kg_iconst (v := (3 : Int32)) X dX6_refineAlarm_13 (by decide) ?_
    refine kg_putI (ci := 6) (Tn := TX6) (j := 5) (ty := .int) X tyX6 tyX6_ok nmX6 kc_6 h1 (by decide) (by decide) rfl kw_204 (by decide +kernel) rfl rfl dX6_refineAlarm_14 ?_
    refine kg_topm (fun I28 eI28 => ?_)
    have hw := hw I28 eI28
    refine kg_iconst (v := (0 : Int32)) X dX6_refineAlarm_17 (by decide) ?_
    exact kg_iret X hr hw dX6_refineAlarm_18
end
