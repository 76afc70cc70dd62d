abbrev rm_X7_thrown : Room := { frames := 0, cells := 0, slots := 0, locals := 0 }
section
variable {p : Program} {l : Launch} {e : Env} {s : State} {m : MethodId} {args : Array Value} {below : List Frame} {meth : Method} {c : Code} {C : Cc} {Y : Ly} {A : Nat → Prop}
def w_X7_thrown (Y : Ly) (I : Mm) (k0 : Nat) (post : Int32 → Mm → Prop) : Prop := (ky_is Y k0 7 ∧ post (I k0 0) I)
set_option maxHeartbeats 4000000 in
set_option maxRecDepth 100000 in
theorem c_X7_thrown (l : Launch) (C : Cc) (Y : Ly) (A : Nat → Prop) (I : Mm) (k0 : Nat) (post : Int32 → Mm → Prop) (hw : w_X7_thrown Y I k0 post) : ky_MI l yX7_thrown cX7_thrown 1 (some .int) rm_X7_thrown C Y A I [.ref (Y.2.1 k0)] post := by
  refine ky_met (by decide) (Nat.le_of_ble_eq_true rfl) ?_
  intro p e s m args below meth c X hr
  have X : ky_X p s m args meth c C cX7_thrown 1 RX7 := X
  show ky_G p l e rm_X7_thrown s m args below meth c C Y A 1 (MQ below (va_Qi post (ky_B C Y A) A) args s 0 0 A) 0 [(0, .ref (Y.2.1 k0))] [] I
  refine kg_aload_n X 0 dX7_thrown_0 rfl rfl ?_
  obtain ⟨h1, hw⟩ := hw
  refine kg_getI (j := 0) X kc_7 h1 (by decide) (by decide) rfl kw_640 dX7_thrown_1 ?_
  exact kg_iret X hr hw dX7_thrown_4
end
abbrev rm_X7_in : Room := { frames := 0, cells := 0, slots := 0, locals := 0 }
section
variable {p : Program} {l : Launch} {e : Env} {s : State} {m : MethodId} {args : Array Value} {below : List Frame} {meth : Method} {c : Code} {C : Cc} {Y : Ly} {A : Nat → Prop}
def w_X7_in (Y : Ly) (I : Mm) (v0 : Int32) (v1 : Int32) (v2 : Int32) (post : Int32 → Mm → Prop) : Prop := ((v0 < v1 → post (0 : Int32) I) ∧ (¬ v0 < v1 → ((v2 < v0 → post (0 : Int32) I) ∧ (¬ v2 < v0 → post (1 : Int32) I))))
set_option maxHeartbeats 4000000 in
set_option maxRecDepth 100000 in
theorem c_X7_in (l : Launch) (C : Cc) (Y : Ly) (A : Nat → Prop) (I : Mm) (v0 : Int32) (v1 : Int32) (v2 : Int32) (post : Int32 → Mm → Prop) (hw : w_X7_in Y I v0 v1 v2 post) : ky_MI l yX7_in cX7_in 3 (some .boolean) rm_X7_in C Y A I [.int v0, .int v1, .int v2] post := by
  refine ky_met (by decide) (Nat.le_of_ble_eq_true rfl) ?_
  intro p e s m args below meth c X hr
  have X : ky_X p s m args meth c C cX7_in 3 RX7 := X
  show ky_G p l e rm_X7_in s m args below meth c C Y A 3 (MQ below (va_Qi post (ky_B C Y A) A) args s 0 0 A) 0 [(0, .int v0), (1, .int v1), (2, .int v2)] [] I
  refine kg_iload_n X 0 dX7_in_0 rfl rfl ?_
  refine kg_iload_n X 1 dX7_in_1 rfl rfl ?_
  refine kg_icmp_lt (tgt := 14) X dX7_in_2 (by decide) (fun h2 => ?_) (fun h2 => ?_)
  · have hw := hw.1 h2
    refine kg_iconst (v := (0 : Int32)) X dX7_in_14 (by decide) ?_
    exact kg_zret X hr (by decide) hw dX7_in_15
  · have hw := hw.2 h2
    refine kg_iload_n X 0 dX7_in_5 rfl rfl ?_
    refine kg_iload_n X 2 dX7_in_6 rfl rfl ?_
    refine kg_icmp_gt (tgt := 14) X dX7_in_7 (by decide) (fun h1 => ?_) (fun h1 => ?_)
    · have hw := hw.1 h1
      refine kg_iconst (v := (0 : Int32)) X dX7_in_14 (by decide) ?_
      exact kg_zret X hr (by decide) hw dX7_in_15
    · have hw := hw.2 h1
      refine kg_iconst (v := (1 : Int32)) X dX7_in_10 (by decide) ?_
      refine kg_goto (tgt := 15) X dX7_in_11 (by decide) ?_
      exact kg_zret X hr (by decide) hw dX7_in_15
end
abbrev rm_X7_freshStart : Room := { frames := 0, cells := 0, slots := 0, locals := 0 }
section
variable {p : Program} {l : Launch} {e : Env} {s : State} {m : MethodId} {args : Array Value} {below : List Frame} {meth : Method} {c : Code} {C : Cc} {Y : Ly} {A : Nat → Prop}
def w_X7_freshStart_L2 (Y : Ly) (post : Mm → Prop) (ex_48 : Nat → Mm → Prop) : Nat → Nat → Int32 → Mm → Prop
  | 0, _, _, _ => False
  | n2 + 1, k0, v1, I => (((64 : Int32) ≤ v1 → ex_48 k0 I) ∧ (¬ (64 : Int32) ≤ v1 → (ky_is Y k0 7 ∧ (ky_is Y (ky_rp Y k0 17) 8 ∧ (vp_in v1 (ky_ln Y (ky_rp Y k0 17)) ∧ (∀ I4 : Mm, I4 = ky_up I (ky_rp Y k0 17) v1.toNatClampNeg (0 : Int32) → (ky_is Y (ky_rp Y k0 18) 8 ∧ (vp_in v1 (ky_ln Y (ky_rp Y k0 18)) ∧ (∀ I7 : Mm, I7 = ky_up I4 (ky_rp Y k0 18) v1.toNatClampNeg (-1 : Int32) → (ky_is Y (ky_rp Y k0 19) 8 ∧ (vp_in ((2 : Int32) * v1) (ky_ln Y (ky_rp Y k0 19)) ∧ (∀ I10 : Mm, I10 = ky_up I7 (ky_rp Y k0 19) ((2 : Int32) * v1).toNatClampNeg (-1 : Int32) → (vp_in (((2 : Int32) * v1) + (1 : Int32)) (ky_ln Y (ky_rp Y k0 19)) ∧ (∀ I12 : Mm, I12 = ky_up I10 (ky_rp Y k0 19) (((2 : Int32) * v1) + (1 : Int32)).toNatClampNeg (-1 : Int32) → (∀ x13 : Int32, x13 = v1 + (1 : Int32) → w_X7_freshStart_L2 Y post ex_48 n2 k0 x13 I12)))))))))))))))
set_option maxHeartbeats 4000000 in
set_option maxRecDepth 100000 in
theorem s_X7_freshStart_L2 (X : ky_X p s m args meth c C cX7_freshStart 2 RX7) (hr : meth.sig.returnType = none) (post : Mm → Prop) (ex_48 : Nat → Mm → Prop) (hx_48 : ∀ (k0 : Nat) (J : Mm), ex_48 k0 J → ky_G p l e rm_X7_freshStart s m args below meth c C Y A 2 (MQ below (va_Qv post (ky_B C Y A) A) args s 0 0 A) 48 [(0, .ref (Y.2.1 k0))] [] J) : ∀ (n2 : Nat) (k0 : Nat) (v1 : Int32) (I : Mm), w_X7_freshStart_L2 Y post ex_48 n2 k0 v1 I → ky_G p l e rm_X7_freshStart s m args below meth c C Y A 2 (MQ below (va_Qv post (ky_B C Y A) A) args s 0 0 A) 2 [(0, .ref (Y.2.1 k0)), (1, .int v1)] [] I := by
  intro n2
  induction n2 with
  | zero => intro k0 v1 I hw; exact False.elim hw
  | succ n2 ih =>
    intro k0 v1 I hw
    refine kg_iload_n X 1 dX7_freshStart_2 rfl rfl ?_
    refine kg_bipush (v := (64 : Int32)) X dX7_freshStart_3 (by decide) ?_
    refine kg_icmp_ge (tgt := 48) X dX7_freshStart_5 (by decide) (fun h14 => ?_) (fun h14 => ?_)
    · have hw := hw.1 h14
      refine kg_sub [0] rfl ?_
      exact hx_48 _ _  hw
    · have hw := hw.2 h14
      refine kg_aload_n X 0 dX7_freshStart_8 rfl rfl ?_
      obtain ⟨h1, hw⟩ := hw
      refine kg_getR (j := 17) X kc_7 h1 (by decide) (by decide) rfl kw_657 dX7_freshStart_9 ?_
      refine kg_iload_n X 1 dX7_freshStart_12 rfl rfl ?_
      refine kg_iconst (v := (0 : Int32)) X dX7_freshStart_13 (by decide) ?_
      obtain ⟨h2, hw⟩ := hw
      obtain ⟨h3, hw⟩ := hw
      refine kg_iast X h2 h3 dX7_freshStart_14 ?_
      refine kg_topm (fun I4 eI4 => ?_)
      have hw := hw I4 eI4
      refine kg_aload_n X 0 dX7_freshStart_15 rfl rfl ?_
      refine kg_getR (j := 18) X kc_7 h1 (by decide) (by decide) rfl kw_658 dX7_freshStart_16 ?_
      refine kg_iload_n X 1 dX7_freshStart_19 rfl rfl ?_
      refine kg_iconst (v := (-1 : Int32)) X dX7_freshStart_20 (by decide) ?_
      obtain ⟨h5, hw⟩ := hw
      obtain ⟨h6, hw⟩ := hw
      refine kg_iast X h5 h6 dX7_freshStart_21 ?_
      refine kg_topm (fun I7 eI7 => ?_)
      have hw := hw I7 eI7
      refine kg_aload_n X 0 dX7_freshStart_22 rfl rfl ?_
      refine kg_getR (j := 19) X kc_7 h1 (by decide) (by decide) rfl kw_659 dX7_freshStart_23 ?_
      refine kg_iconst (v := (2 : Int32)) X dX7_freshStart_26 (by decide) ?_
      refine kg_iload_n X 1 dX7_freshStart_27 rfl rfl ?_
      refine kg_imul X dX7_freshStart_28 ?_
      refine kg_iconst (v := (-1 : Int32)) X dX7_freshStart_29 (by decide) ?_
      obtain ⟨h8, hw⟩ := hw
      obtain ⟨h9, hw⟩ := hw
      refine kg_iast X h8 h9 dX7_freshStart_30 ?_
      refine kg_topm (fun I10 eI10 => ?_)
      have hw := hw I10 eI10
      refine kg_aload_n X 0 dX7_freshStart_31 rfl rfl ?_
      refine kg_getR (j := 19) X kc_7 h1 (by decide) (by decide) rfl kw_659 dX7_freshStart_32 ?_
      refine kg_iconst (v := (2 : Int32)) X dX7_freshStart_35 (by decide) ?_
      refine kg_iload_n X 1 dX7_freshStart_36 rfl rfl ?_
      refine kg_imul X dX7_freshStart_37 ?_
      refine kg_iconst (v := (1 : Int32)) X dX7_freshStart_38 (by decide) ?_
      refine kg_iadd X dX7_freshStart_39 ?_
      refine kg_iconst (v := (-1 : Int32)) X dX7_freshStart_40 (by decide) ?_
      obtain ⟨h11, hw⟩ := hw
      refine kg_iast X h8 h11 dX7_freshStart_41 ?_
      refine kg_topm (fun I12 eI12 => ?_)
      have hw := hw I12 eI12
      refine kg_iinc (dd := (1 : Int32)) (lvf := fun x13 => [(1, .int x13), (0, .ref (Y.2.1 k0))]) X 1 dX7_freshStart_42 rfl (by decide) (by decide) (fun _ => rfl) (fun x13 ex13 => ?_)
      have hw := hw x13 ex13
      refine kg_goto (tgt := 2) X dX7_freshStart_45 (by decide) ?_
      refine kg_sub [1, 0] rfl ?_
      exact ih _ _ _  hw
def w_X7_freshStart (Y : Ly) (I : Mm) (k0 : Nat) (post : Mm → Prop) : Prop := (∃ n2 : Nat, w_X7_freshStart_L2 Y post (fun k16 I15 => (ky_is Y k16 7 ∧ (∀ I18 : Mm, I18 = ky_up I15 k16 20 (0 : Int32) → (∀ I19 : Mm, I19 = ky_up I18 k16 21 (-1 : Int32) → (∀ I20 : Mm, I20 = ky_up I19 k16 30 (0 : Int32) → post I20))))) n2 k0 (0 : Int32) I)
set_option maxHeartbeats 4000000 in
set_option maxRecDepth 100000 in
theorem c_X7_freshStart (l : Launch) (C : Cc) (Y : Ly) (A : Nat → Prop) (I : Mm) (k0 : Nat) (post : Mm → Prop) (hw : w_X7_freshStart Y I k0 post) : ky_MV l yX7_freshStart cX7_freshStart 2 rm_X7_freshStart C Y A I [.ref (Y.2.1 k0)] post := by
  refine ky_met (by decide) (Nat.le_of_ble_eq_true rfl) ?_
  intro p e s m args below meth c X hr
  have X : ky_X p s m args meth c C cX7_freshStart 2 RX7 := X
  show ky_G p l e rm_X7_freshStart s m args below meth c C Y A 2 (MQ below (va_Qv post (ky_B C Y A) A) args s 0 0 A) 0 [(0, .ref (Y.2.1 k0))] [] I
  refine kg_iconst (v := (0 : Int32)) X dX7_freshStart_0 (by decide) ?_
  refine kg_istore_n (lv' := [(1, .int (0 : Int32)), (0, .ref (Y.2.1 k0))]) X dX7_freshStart_1 rfl (by decide) rfl ?_
  obtain ⟨n2, hw⟩ := hw
  refine kg_sub [1, 0] rfl ?_
  refine s_X7_freshStart_L2 X hr post _ ?_ n2 _ _ _  hw
  · intro k16 I15 hw
    refine kg_aload_n X 0 dX7_freshStart_48 rfl rfl ?_
    refine kg_iconst (v := (0 : Int32)) X dX7_freshStart_49 (by decide) ?_
    obtain ⟨h17, hw⟩ := hw
    refine kg_putI (ci := 7) (Tn := TX7) (j := 20) (ty := .int) X tyX7 tyX7_ok nmX7 kc_7 h17 (by decide) (by decide) rfl kw_660 (by decide +kernel) rfl rfl dX7_freshStart_50 ?_
    refine kg_topm (fun I18 eI18 => ?_)
    have hw := hw I18 eI18
    refine kg_aload_n X 0 dX7_freshStart_53 rfl rfl ?_
    refine kg_iconst (v := (-1 : Int32)) X dX7_freshStart_54 (by decide) ?_
    refine kg_putI (ci := 7) (Tn := TX7) (j := 21) (ty := .int) X tyX7 tyX7_ok nmX7 kc_7 h17 (by decide) (by decide) rfl kw_661 (by decide +kernel) rfl rfl dX7_freshStart_55 ?_
    refine kg_topm (fun I19 eI19 => ?_)
    have hw := hw I19 eI19
    refine kg_aload_n X 0 dX7_freshStart_58 rfl rfl ?_
    refine kg_iconst (v := (0 : Int32)) X dX7_freshStart_59 (by decide) ?_
    refine kg_putI (ci := 7) (Tn := TX7) (j := 30) (ty := .int) X tyX7 tyX7_ok nmX7 kc_7 h17 (by decide) (by decide) rfl kw_670 (by decide +kernel) rfl rfl dX7_freshStart_60 ?_
    refine kg_topm (fun I20 eI20 => ?_)
    have hw := hw I20 eI20
    exact kg_vret X hr hw dX7_freshStart_63
end
abbrev rm_X7_made : Room := { frames := 1, cells := 0, slots := 0, locals := 21 }
section
variable {p : Program} {l : Launch} {e : Env} {s : State} {m : MethodId} {args : Array Value} {below : List Frame} {meth : Method} {c : Code} {C : Cc} {Y : Ly} {A : Nat → Prop}
def w_X7_made (Y : Ly) (I : Mm) (k0 : Nat) (v1 : Int32) (post : Int32 → Mm → Prop) : Prop := (ky_is Y k0 7 ∧ w_X7_freshStart Y I k0 (fun I1 => (∀ I3 : Mm, I3 = ky_up I1 k0 23 (0 : Int32) → post v1 I3)))
set_option maxHeartbeats 4000000 in
set_option maxRecDepth 100000 in
theorem c_X7_made (l : Launch) (C : Cc) (Y : Ly) (A : Nat → Prop) (I : Mm) (k0 : Nat) (v1 : Int32) (post : Int32 → Mm → Prop) (hw : w_X7_made Y I k0 v1 post) : ky_MI l yX7_made cX7_made 2 (some .int) rm_X7_made C Y A I [.ref (Y.2.1 k0), .int v1] post := by
  refine ky_met (by decide) (Nat.le_of_ble_eq_true rfl) ?_
  intro p e s m args below meth c X hr
  have X : ky_X p s m args meth c C cX7_made 2 RX7 := X
  show ky_G p l e rm_X7_made s m args below meth c C Y A 2 (MQ below (va_Qi post (ky_B C Y A) A) args s 0 0 A) 0 [(0, .ref (Y.2.1 k0)), (1, .int v1)] [] I
  refine kg_aload_n X 0 dX7_made_0 rfl rfl ?_
  obtain ⟨h2, hw⟩ := hw
  refine kg_callVv (n := 0) (As := []) X (c_X7_freshStart l C Y A I k0 _ hw) kc_7 h2 rfl iv_X7_freshStart kw_773 (by decide +kernel) (by decide) rfl rfl (Nat.le_of_ble_eq_true rfl) dX7_made_1 (fun I1 hw => ?_)
  refine kg_aload_n X 0 dX7_made_4 rfl rfl ?_
  refine kg_iconst (v := (0 : Int32)) X dX7_made_5 (by decide) ?_
  refine kg_putI (ci := 7) (Tn := TX7) (j := 23) (ty := .int) X tyX7 tyX7_ok nmX7 kc_7 h2 (by decide) (by decide) rfl kw_663 (by decide +kernel) rfl rfl dX7_made_6 ?_
  refine kg_topm (fun I3 eI3 => ?_)
  have hw := hw I3 eI3
  refine kg_iload_n X 1 dX7_made_9 rfl rfl ?_
  exact kg_iret X hr hw dX7_made_10
end
abbrev rm_X7_relation : Room := { frames := 2, cells := 0, slots := 0, locals := 42 }
section
variable {p : Program} {l : Launch} {e : Env} {s : State} {m : MethodId} {args : Array Value} {below : List Frame} {meth : Method} {c : Code} {C : Cc} {Y : Ly} {A : Nat → Prop}
def w_X7_relation_B27 (Y : Ly) (post : Int32 → Mm → Prop) (k0 : Nat) (v1 : Int32) (s0 : Int32) (t1 : Nat) (I : Mm) : Prop := (ky_is Y t1 7 ∧ (∀ I5 : Mm, I5 = ky_up I t1 0 s0 → (ky_is Y k0 7 ∧ (((I5 k0 0) ≤ 0 → (ky_is Y (ky_rp Y k0 2) 8 ∧ (vp_in (I5 k0 1) (ky_ln Y (ky_rp Y k0 2)) ∧ (∀ I9 : Mm, I9 = ky_up I5 (ky_rp Y k0 2) (I5 k0 1).toNatClampNeg v1 → (∀ I10 : Mm, I10 = ky_up I9 k0 1 ((I9 k0 1) + (1 : Int32)) → w_X7_made Y I10 k0 ((I10 k0 1) - (1 : Int32)) (fun r12 I11 => post r12 I11)))))) ∧ (¬ (I5 k0 0) ≤ 0 → post (0 : Int32) I5)))))
set_option maxHeartbeats 4000000 in
set_option maxRecDepth 100000 in
theorem s_X7_relation_B27 (X : ky_X p s m args meth c C cX7_relation 2 RX7) (hr : meth.sig.returnType = some .int) (post : Int32 → Mm → Prop) (k0 : Nat) (v1 : Int32) (s0 : Int32) (t1 : Nat) (I : Mm) (hw : w_X7_relation_B27 Y post k0 v1 s0 t1 I) : ky_G p l e rm_X7_relation s m args below meth c C Y A 2 (MQ below (va_Qi post (ky_B C Y A) A) args s 0 0 A) 27 [(0, .ref (Y.2.1 k0)), (1, .int v1)] [.int s0, .ref (Y.2.1 t1)] I := by
  obtain ⟨h4, hw⟩ := hw
  refine kg_putI (ci := 7) (Tn := TX7) (j := 0) (ty := .int) X tyX7 tyX7_ok nmX7 kc_7 h4 (by decide) (by decide) rfl kw_640 (by decide +kernel) rfl rfl dX7_relation_27 ?_
  refine kg_topm (fun I5 eI5 => ?_)
  have hw := hw I5 eI5
  refine kg_aload_n X 0 dX7_relation_30 rfl rfl ?_
  obtain ⟨h6, hw⟩ := hw
  refine kg_getI (j := 0) X kc_7 h6 (by decide) (by decide) rfl kw_640 dX7_relation_31 ?_
  refine kg_if_le (tgt := 39) X dX7_relation_34 (by decide) (fun h13 => ?_) (fun h13 => ?_)
  · have hw := hw.1 h13
    refine kg_aload_n X 0 dX7_relation_39 rfl rfl ?_
    refine kg_getR (j := 2) X kc_7 h6 (by decide) (by decide) rfl kw_642 dX7_relation_40 ?_
    refine kg_aload_n X 0 dX7_relation_43 rfl rfl ?_
    refine kg_getI (j := 1) X kc_7 h6 (by decide) (by decide) rfl kw_641 dX7_relation_44 ?_
    refine kg_iload_n X 1 dX7_relation_47 rfl rfl ?_
    obtain ⟨h7, hw⟩ := hw
    obtain ⟨h8, hw⟩ := hw
    refine kg_iast X h7 h8 dX7_relation_48 ?_
    refine kg_topm (fun I9 eI9 => ?_)
    have hw := hw I9 eI9
    refine kg_aload_n X 0 dX7_relation_49 rfl rfl ?_
    refine kg_dup X dX7_relation_50 rfl ?_
    refine kg_getI (j := 1) X kc_7 h6 (by decide) (by decide) rfl kw_641 dX7_relation_51 ?_
    refine kg_iconst (v := (1 : Int32)) X dX7_relation_54 (by decide) ?_
    refine kg_iadd X dX7_relation_55 ?_
    refine kg_putI (ci := 7) (Tn := TX7) (j := 1) (ty := .int) X tyX7 tyX7_ok nmX7 kc_7 h6 (by decide) (by decide) rfl kw_641 (by decide +kernel) rfl rfl dX7_relation_56 ?_
    refine kg_topm (fun I10 eI10 => ?_)
    have hw := hw I10 eI10
    refine kg_aload_n X 0 dX7_relation_59 rfl rfl ?_
    refine kg_aload_n X 0 dX7_relation_60 rfl rfl ?_
    refine kg_getI (j := 1) X kc_7 h6 (by decide) (by decide) rfl kw_641 dX7_relation_61 ?_
    refine kg_iconst (v := (1 : Int32)) X dX7_relation_64 (by decide) ?_
    refine kg_isub X dX7_relation_65 ?_
    refine kg_callVi (n := 1) (As := [.int ((I10 k0 1) - (1 : Int32))]) X (c_X7_made l C Y A I10 k0 ((I10 k0 1) - (1 : Int32)) _ hw) kc_7 h6 rfl iv_X7_made kw_769 (by decide +kernel) (by decide) rfl rfl (Nat.le_of_ble_eq_true rfl) dX7_relation_66 (fun r12 I11 hw => ?_)
    exact kg_iret X hr hw dX7_relation_69
  · have hw := hw.2 h13
    refine kg_iconst (v := (0 : Int32)) X dX7_relation_37 (by decide) ?_
    exact kg_iret X hr hw dX7_relation_38
def w_X7_relation (Y : Ly) (I : Mm) (k0 : Nat) (v1 : Int32) (post : Int32 → Mm → Prop) : Prop := w_X7_in Y I v1 (1 : Int32) (2 : Int32) (fun r2 I1 => ((¬ r2 = 0 → (ky_is Y k0 7 ∧ ((¬ (I1 k0 1) = (4 : Int32) → w_X7_relation_B27 Y post k0 v1 (0 : Int32) k0 I1) ∧ ((I1 k0 1) = (4 : Int32) → w_X7_relation_B27 Y post k0 v1 (2 : Int32) k0 I1)))) ∧ (r2 = 0 → w_X7_relation_B27 Y post k0 v1 (1 : Int32) k0 I1)))
set_option maxHeartbeats 4000000 in
set_option maxRecDepth 100000 in
theorem c_X7_relation (l : Launch) (C : Cc) (Y : Ly) (A : Nat → Prop) (I : Mm) (k0 : Nat) (v1 : Int32) (post : Int32 → Mm → Prop) (hw : w_X7_relation Y I k0 v1 post) : ky_MI l yX7_relation cX7_relation 2 (some .int) rm_X7_relation C Y A I [.ref (Y.2.1 k0), .int v1] post := by
  refine ky_met (by decide) (Nat.le_of_ble_eq_true rfl) ?_
  intro p e s m args below meth c X hr
  have X : ky_X p s m args meth c C cX7_relation 2 RX7 := X
  show ky_G p l e rm_X7_relation s m args below meth c C Y A 2 (MQ below (va_Qi post (ky_B C Y A) A) args s 0 0 A) 0 [(0, .ref (Y.2.1 k0)), (1, .int v1)] [] I
  refine kg_aload_n X 0 dX7_relation_0 rfl rfl ?_
  refine kg_iload_n X 1 dX7_relation_1 rfl rfl ?_
  refine kg_iconst (v := (1 : Int32)) X dX7_relation_2 (by decide) ?_
  refine kg_iconst (v := (2 : Int32)) X dX7_relation_3 (by decide) ?_
  refine kg_callSi (n := 3) (As := [.int v1, .int (1 : Int32), .int (2 : Int32)]) X (c_X7_in l C Y A I v1 (1 : Int32) (2 : Int32) _ hw) rfl is_X7_in kw_766 (by decide +kernel) (by decide) rfl rfl (Nat.le_of_ble_eq_true rfl) dX7_relation_4 (fun r2 I1 hw => ?_)
  refine kg_if_ne (tgt := 14) X dX7_relation_7 (by decide) (fun h15 => ?_) (fun h15 => ?_)
  · have hw := hw.1 h15
    refine kg_aload_n X 0 dX7_relation_14 rfl rfl ?_
    obtain ⟨h3, hw⟩ := hw
    refine kg_getI (j := 1) X kc_7 h3 (by decide) (by decide) rfl kw_641 dX7_relation_15 ?_
    refine kg_iconst (v := (4 : Int32)) X dX7_relation_18 (by decide) ?_
    refine kg_icmp_ne (tgt := 26) X dX7_relation_19 (by decide) (fun h14 => ?_) (fun h14 => ?_)
    · have hw := hw.1 h14
      refine kg_iconst (v := (0 : Int32)) X dX7_relation_26 (by decide) ?_
      refine kg_sub [0, 1] rfl ?_
      exact s_X7_relation_B27 X hr post _ _ _ _ _ hw
    · have hw := hw.2 h14
      refine kg_iconst (v := (2 : Int32)) X dX7_relation_22 (by decide) ?_
      refine kg_goto (tgt := 27) X dX7_relation_23 (by decide) ?_
      refine kg_sub [0, 1] rfl ?_
      exact s_X7_relation_B27 X hr post _ _ _ _ _ hw
  · have hw := hw.2 h15
    refine kg_iconst (v := (1 : Int32)) X dX7_relation_10 (by decide) ?_
    refine kg_goto (tgt := 27) X dX7_relation_11 (by decide) ?_
    refine kg_sub [0, 1] rfl ?_
    exact s_X7_relation_B27 X hr post _ _ _ _ _ hw
end
abbrev rm_X7_isRelation : Room := { frames := 1, cells := 0, slots := 0, locals := 22 }
section
variable {p : Program} {l : Launch} {e : Env} {s : State} {m : MethodId} {args : Array Value} {below : List Frame} {meth : Method} {c : Code} {C : Cc} {Y : Ly} {A : Nat → Prop}
def w_X7_isRelation (Y : Ly) (I : Mm) (k0 : Nat) (v1 : Int32) (post : Int32 → Mm → Prop) : Prop := (ky_is Y k0 7 ∧ w_X7_in Y I v1 (0 : Int32) ((I k0 1) - (1 : Int32)) (fun r3 I2 => ((r3 = 0 ∨ r3 = 1) ∧ post r3 I2)))
set_option maxHeartbeats 4000000 in
set_option maxRecDepth 100000 in
theorem c_X7_isRelation (l : Launch) (C : Cc) (Y : Ly) (A : Nat → Prop) (I : Mm) (k0 : Nat) (v1 : Int32) (post : Int32 → Mm → Prop) (hw : w_X7_isRelation Y I k0 v1 post) : ky_MI l yX7_isRelation cX7_isRelation 2 (some .boolean) rm_X7_isRelation C Y A I [.ref (Y.2.1 k0), .int v1] post := by
  refine ky_met (by decide) (Nat.le_of_ble_eq_true rfl) ?_
  intro p e s m args below meth c X hr
  have X : ky_X p s m args meth c C cX7_isRelation 2 RX7 := X
  show ky_G p l e rm_X7_isRelation s m args below meth c C Y A 2 (MQ below (va_Qi post (ky_B C Y A) A) args s 0 0 A) 0 [(0, .ref (Y.2.1 k0)), (1, .int v1)] [] I
  refine kg_iload_n X 1 dX7_isRelation_0 rfl rfl ?_
  refine kg_iconst (v := (0 : Int32)) X dX7_isRelation_1 (by decide) ?_
  refine kg_aload_n X 0 dX7_isRelation_2 rfl rfl ?_
  obtain ⟨h1, hw⟩ := hw
  refine kg_getI (j := 1) X kc_7 h1 (by decide) (by decide) rfl kw_641 dX7_isRelation_3 ?_
  refine kg_iconst (v := (1 : Int32)) X dX7_isRelation_6 (by decide) ?_
  refine kg_isub X dX7_isRelation_7 ?_
  refine kg_callSi (n := 3) (As := [.int v1, .int (0 : Int32), .int ((I k0 1) - (1 : Int32))]) X (c_X7_in l C Y A I v1 (0 : Int32) ((I k0 1) - (1 : Int32)) _ hw) rfl is_X7_in kw_766 (by decide +kernel) (by decide) rfl rfl (Nat.le_of_ble_eq_true rfl) dX7_isRelation_8 (fun r3 I2 hw => ?_)
  obtain ⟨h4, hw⟩ := hw
  exact kg_zret X hr h4 hw dX7_isRelation_11
end
abbrev rm_X7_isPlace : Room := { frames := 1, cells := 0, slots := 0, locals := 22 }
section
variable {p : Program} {l : Launch} {e : Env} {s : State} {m : MethodId} {args : Array Value} {below : List Frame} {meth : Method} {c : Code} {C : Cc} {Y : Ly} {A : Nat → Prop}
def w_X7_isPlace (Y : Ly) (I : Mm) (k0 : Nat) (v1 : Int32) (v2 : Int32) (post : Int32 → Mm → Prop) : Prop := ((v2 = (2 : Int32) → post (1 : Int32) I) ∧ (¬ v2 = (2 : Int32) → (ky_is Y k0 7 ∧ (ky_is Y (ky_rp Y k0 2) 8 ∧ (vp_in v1 (ky_ln Y (ky_rp Y k0 2)) ∧ w_X7_in Y I v2 (0 : Int32) ((I (ky_rp Y k0 2) v1.toNatClampNeg) - (1 : Int32)) (fun r5 I4 => ((r5 = 0 → post (0 : Int32) I4) ∧ (¬ r5 = 0 → post (1 : Int32) I4))))))))
set_option maxHeartbeats 4000000 in
set_option maxRecDepth 100000 in
theorem c_X7_isPlace (l : Launch) (C : Cc) (Y : Ly) (A : Nat → Prop) (I : Mm) (k0 : Nat) (v1 : Int32) (v2 : Int32) (post : Int32 → Mm → Prop) (hw : w_X7_isPlace Y I k0 v1 v2 post) : ky_MI l yX7_isPlace cX7_isPlace 3 (some .boolean) rm_X7_isPlace C Y A I [.ref (Y.2.1 k0), .int v1, .int v2] post := by
  refine ky_met (by decide) (Nat.le_of_ble_eq_true rfl) ?_
  intro p e s m args below meth c X hr
  have X : ky_X p s m args meth c C cX7_isPlace 3 RX7 := X
  show ky_G p l e rm_X7_isPlace s m args below meth c C Y A 3 (MQ below (va_Qi post (ky_B C Y A) A) args s 0 0 A) 0 [(0, .ref (Y.2.1 k0)), (1, .int v1), (2, .int v2)] [] I
  refine kg_iload_n X 2 dX7_isPlace_0 rfl rfl ?_
  refine kg_iconst (v := (2 : Int32)) X dX7_isPlace_1 (by decide) ?_
  refine kg_icmp_eq (tgt := 21) X dX7_isPlace_2 (by decide) (fun h7 => ?_) (fun h7 => ?_)
  · have hw := hw.1 h7
    refine kg_iconst (v := (1 : Int32)) X dX7_isPlace_21 (by decide) ?_
    refine kg_goto (tgt := 26) X dX7_isPlace_22 (by decide) ?_
    exact kg_zret X hr (by decide) hw dX7_isPlace_26
  · have hw := hw.2 h7
    refine kg_iload_n X 2 dX7_isPlace_5 rfl rfl ?_
    refine kg_iconst (v := (0 : Int32)) X dX7_isPlace_6 (by decide) ?_
    refine kg_aload_n X 0 dX7_isPlace_7 rfl rfl ?_
    obtain ⟨h1, hw⟩ := hw
    refine kg_getR (j := 2) X kc_7 h1 (by decide) (by decide) rfl kw_642 dX7_isPlace_8 ?_
    refine kg_iload_n X 1 dX7_isPlace_11 rfl rfl ?_
    obtain ⟨h2, hw⟩ := hw
    obtain ⟨h3, hw⟩ := hw
    refine kg_iald X h2 h3 dX7_isPlace_12 ?_
    refine kg_iconst (v := (1 : Int32)) X dX7_isPlace_13 (by decide) ?_
    refine kg_isub X dX7_isPlace_14 ?_
    refine kg_callSi (n := 3) (As := [.int v2, .int (0 : Int32), .int ((I (ky_rp Y k0 2) v1.toNatClampNeg) - (1 : Int32))]) X (c_X7_in l C Y A I v2 (0 : Int32) ((I (ky_rp Y k0 2) v1.toNatClampNeg) - (1 : Int32)) _ hw) rfl is_X7_in kw_766 (by decide +kernel) (by decide) rfl rfl (Nat.le_of_ble_eq_true rfl) dX7_isPlace_15 (fun r5 I4 hw => ?_)
    refine kg_if_eq (tgt := 25) X dX7_isPlace_18 (by decide) (fun h6 => ?_) (fun h6 => ?_)
    · have hw := hw.1 h6
      refine kg_iconst (v := (0 : Int32)) X dX7_isPlace_25 (by decide) ?_
      exact kg_zret X hr (by decide) hw dX7_isPlace_26
    · have hw := hw.2 h6
      refine kg_iconst (v := (1 : Int32)) X dX7_isPlace_21 (by decide) ?_
      refine kg_goto (tgt := 26) X dX7_isPlace_22 (by decide) ?_
      exact kg_zret X hr (by decide) hw dX7_isPlace_26
end
abbrev rm_X7_isMark : Room := { frames := 0, cells := 0, slots := 0, locals := 0 }
section
variable {p : Program} {l : Launch} {e : Env} {s : State} {m : MethodId} {args : Array Value} {below : List Frame} {meth : Method} {c : Code} {C : Cc} {Y : Ly} {A : Nat → Prop}
def w_X7_isMark_L5 (Y : Ly) (post : Int32 → Mm → Prop) (ex_54 : Mm → Prop) (ex_62 : Mm → Prop) : Nat → Nat → Int32 → Int32 → Int32 → Int32 → Int32 → Mm → Prop
  | 0, _, _, _, _, _, _, _ => False
  | n5 + 1, k0, v1, v2, v3, v4, v5, I => (ky_is Y k0 7 ∧ (ky_is Y (ky_rp Y k0 3) 8 ∧ (vp_in v1 (ky_ln Y (ky_rp Y k0 3)) ∧ (((((4 : Int32) * v1) + (I (ky_rp Y k0 3) v1.toNatClampNeg)) ≤ v5 → ex_62 I) ∧ (¬ (((4 : Int32) * v1) + (I (ky_rp Y k0 3) v1.toNatClampNeg)) ≤ v5 → (ky_is Y (ky_rp Y k0 4) 8 ∧ (vp_in v5 (ky_ln Y (ky_rp Y k0 4)) ∧ ((¬ (I (ky_rp Y k0 4) v5.toNatClampNeg) = v2 → (∀ x7 : Int32, x7 = v5 + (1 : Int32) → w_X7_isMark_L5 Y post ex_54 ex_62 n5 k0 v1 v2 v3 v4 x7 I)) ∧ ((I (ky_rp Y k0 4) v5.toNatClampNeg) = v2 → (ky_is Y (ky_rp Y k0 5) 8 ∧ (vp_in v5 (ky_ln Y (ky_rp Y k0 5)) ∧ ((¬ (I (ky_rp Y k0 5) v5.toNatClampNeg) = v3 → (∀ x10 : Int32, x10 = v5 + (1 : Int32) → w_X7_isMark_L5 Y post ex_54 ex_62 n5 k0 v1 v2 v3 v4 x10 I)) ∧ ((I (ky_rp Y k0 5) v5.toNatClampNeg) = v3 → (ky_is Y (ky_rp Y k0 6) 8 ∧ (vp_in v5 (ky_ln Y (ky_rp Y k0 6)) ∧ ((¬ (I (ky_rp Y k0 6) v5.toNatClampNeg) = v4 → (∀ x13 : Int32, x13 = v5 + (1 : Int32) → w_X7_isMark_L5 Y post ex_54 ex_62 n5 k0 v1 v2 v3 v4 x13 I)) ∧ ((I (ky_rp Y k0 6) v5.toNatClampNeg) = v4 → ex_54 I)))))))))))))))))
set_option maxHeartbeats 4000000 in
set_option maxRecDepth 100000 in
theorem s_X7_isMark_L5 (X : ky_X p s m args meth c C cX7_isMark 6 RX7) (hr : meth.sig.returnType = some .boolean) (post : Int32 → Mm → Prop) (ex_54 : Mm → Prop) (ex_62 : Mm → Prop) (hx_54 : ∀ (J : Mm), ex_54 J → ky_G p l e rm_X7_isMark s m args below meth c C Y A 6 (MQ below (va_Qi post (ky_B C Y A) A) args s 0 0 A) 54 [] [] J) (hx_62 : ∀ (J : Mm), ex_62 J → ky_G p l e rm_X7_isMark s m args below meth c C Y A 6 (MQ below (va_Qi post (ky_B C Y A) A) args s 0 0 A) 62 [] [] J) : ∀ (n5 : Nat) (k0 : Nat) (v1 : Int32) (v2 : Int32) (v3 : Int32) (v4 : Int32) (v5 : Int32) (I : Mm), w_X7_isMark_L5 Y post ex_54 ex_62 n5 k0 v1 v2 v3 v4 v5 I → ky_G p l e rm_X7_isMark s m args below meth c C Y A 6 (MQ below (va_Qi post (ky_B C Y A) A) args s 0 0 A) 5 [(0, .ref (Y.2.1 k0)), (1, .int v1), (2, .int v2), (3, .int v3), (4, .int v4), (5, .int v5)] [] I := by
  intro n5
  induction n5 with
  | zero => intro k0 v1 v2 v3 v4 v5 I hw; exact False.elim hw
  | succ n5 ih =>
    intro k0 v1 v2 v3 v4 v5 I hw
    refine kg_iload X 5 dX7_isMark_5 rfl ?_
    refine kg_iconst (v := (4 : Int32)) X dX7_isMark_7 (by decide) ?_
    refine kg_iload_n X 1 dX7_isMark_8 rfl rfl ?_
    refine kg_imul X dX7_isMark_9 ?_
    refine kg_aload_n X 0 dX7_isMark_10 rfl rfl ?_
    obtain ⟨h2, hw⟩ := hw
    refine kg_getR (j := 3) X kc_7 h2 (by decide) (by decide) rfl kw_643 dX7_isMark_11 ?_
    refine kg_iload_n X 1 dX7_isMark_14 rfl rfl ?_
    obtain ⟨h3, hw⟩ := hw
    obtain ⟨h4, hw⟩ := hw
    refine kg_iald X h3 h4 dX7_isMark_15 ?_
    refine kg_iadd X dX7_isMark_16 ?_
    refine kg_icmp_ge (tgt := 62) X dX7_isMark_17 (by decide) (fun h17 => ?_) (fun h17 => ?_)
    · have hw := hw.1 h17
      refine kg_sub [] rfl ?_
      exact hx_62 _  hw
    · have hw := hw.2 h17
      refine kg_aload_n X 0 dX7_isMark_20 rfl rfl ?_
      refine kg_getR (j := 4) X kc_7 h2 (by decide) (by decide) rfl kw_644 dX7_isMark_21 ?_
      refine kg_iload X 5 dX7_isMark_24 rfl ?_
      obtain ⟨h5, hw⟩ := hw
      obtain ⟨h6, hw⟩ := hw
      refine kg_iald X h5 h6 dX7_isMark_26 ?_
      refine kg_iload_n X 2 dX7_isMark_27 rfl rfl ?_
      refine kg_icmp_ne (tgt := 56) X dX7_isMark_28 (by decide) (fun h16 => ?_) (fun h16 => ?_)
      · have hw := hw.1 h16
        refine kg_iinc (dd := (1 : Int32)) (lvf := fun x7 => [(5, .int x7), (0, .ref (Y.2.1 k0)), (1, .int v1), (2, .int v2), (3, .int v3), (4, .int v4)]) X 5 dX7_isMark_56 rfl (by decide) (by decide) (fun _ => rfl) (fun x7 ex7 => ?_)
        have hw := hw x7 ex7
        refine kg_goto (tgt := 5) X dX7_isMark_59 (by decide) ?_
        refine kg_sub [1, 2, 3, 4, 5, 0] rfl ?_
        exact ih _ _ _ _ _ _ _  hw
      · have hw := hw.2 h16
        refine kg_aload_n X 0 dX7_isMark_31 rfl rfl ?_
        refine kg_getR (j := 5) X kc_7 h2 (by decide) (by decide) rfl kw_645 dX7_isMark_32 ?_
        refine kg_iload X 5 dX7_isMark_35 rfl ?_
        obtain ⟨h8, hw⟩ := hw
        obtain ⟨h9, hw⟩ := hw
        refine kg_iald X h8 h9 dX7_isMark_37 ?_
        refine kg_iload_n X 3 dX7_isMark_38 rfl rfl ?_
        refine kg_icmp_ne (tgt := 56) X dX7_isMark_39 (by decide) (fun h15 => ?_) (fun h15 => ?_)
        · have hw := hw.1 h15
          refine kg_iinc (dd := (1 : Int32)) (lvf := fun x10 => [(5, .int x10), (0, .ref (Y.2.1 k0)), (1, .int v1), (2, .int v2), (3, .int v3), (4, .int v4)]) X 5 dX7_isMark_56 rfl (by decide) (by decide) (fun _ => rfl) (fun x10 ex10 => ?_)
          have hw := hw x10 ex10
          refine kg_goto (tgt := 5) X dX7_isMark_59 (by decide) ?_
          refine kg_sub [1, 2, 3, 4, 5, 0] rfl ?_
          exact ih _ _ _ _ _ _ _  hw
        · have hw := hw.2 h15
          refine kg_aload_n X 0 dX7_isMark_42 rfl rfl ?_
          refine kg_getR (j := 6) X kc_7 h2 (by decide) (by decide) rfl kw_646 dX7_isMark_43 ?_
          refine kg_iload X 5 dX7_isMark_46 rfl ?_
          obtain ⟨h11, hw⟩ := hw
          obtain ⟨h12, hw⟩ := hw
          refine kg_iald X h11 h12 dX7_isMark_48 ?_
          refine kg_iload X 4 dX7_isMark_49 rfl ?_
          refine kg_icmp_ne (tgt := 56) X dX7_isMark_51 (by decide) (fun h14 => ?_) (fun h14 => ?_)
          · have hw := hw.1 h14
            refine kg_iinc (dd := (1 : Int32)) (lvf := fun x13 => [(5, .int x13), (0, .ref (Y.2.1 k0)), (1, .int v1), (2, .int v2), (3, .int v3), (4, .int v4)]) X 5 dX7_isMark_56 rfl (by decide) (by decide) (fun _ => rfl) (fun x13 ex13 => ?_)
            have hw := hw x13 ex13
            refine kg_goto (tgt := 5) X dX7_isMark_59 (by decide) ?_
            refine kg_sub [1, 2, 3, 4, 5, 0] rfl ?_
            exact ih _ _ _ _ _ _ _  hw
          · have hw := hw.2 h14
            refine kg_sub [] rfl ?_
            exact hx_54 _  hw
def w_X7_isMark (Y : Ly) (I : Mm) (k0 : Nat) (v1 : Int32) (v2 : Int32) (v3 : Int32) (v4 : Int32) (post : Int32 → Mm → Prop) : Prop := (∀ x1 : Int32, x1 = (4 : Int32) * v1 → (∃ n5 : Nat, w_X7_isMark_L5 Y post (fun I18 => post (1 : Int32) I18) (fun I19 => post (0 : Int32) I19) n5 k0 v1 v2 v3 v4 x1 I))
set_option maxHeartbeats 4000000 in
set_option maxRecDepth 100000 in
theorem c_X7_isMark (l : Launch) (C : Cc) (Y : Ly) (A : Nat → Prop) (I : Mm) (k0 : Nat) (v1 : Int32) (v2 : Int32) (v3 : Int32) (v4 : Int32) (post : Int32 → Mm → Prop) (hw : w_X7_isMark Y I k0 v1 v2 v3 v4 post) : ky_MI l yX7_isMark cX7_isMark 6 (some .boolean) rm_X7_isMark C Y A I [.ref (Y.2.1 k0), .int v1, .int v2, .int v3, .int v4] post := by
  refine ky_met (by decide) (Nat.le_of_ble_eq_true rfl) ?_
  intro p e s m args below meth c X hr
  have X : ky_X p s m args meth c C cX7_isMark 6 RX7 := X
  show ky_G p l e rm_X7_isMark s m args below meth c C Y A 6 (MQ below (va_Qi post (ky_B C Y A) A) args s 0 0 A) 0 [(0, .ref (Y.2.1 k0)), (1, .int v1), (2, .int v2), (3, .int v3), (4, .int v4)] [] I
  refine kg_iconst (v := (4 : Int32)) X dX7_isMark_0 (by decide) ?_
  refine kg_iload_n X 1 dX7_isMark_1 rfl rfl ?_
  refine kg_imul X dX7_isMark_2 ?_
  refine kg_topi (fun x1 ex1 => ?_)
  have hw := hw x1 ex1
  refine kg_istore (lv' := [(5, .int x1), (0, .ref (Y.2.1 k0)), (1, .int v1), (2, .int v2), (3, .int v3), (4, .int v4)]) X dX7_isMark_3 (by decide) rfl ?_
  obtain ⟨n5, hw⟩ := hw
  refine kg_sub [1, 2, 3, 4, 5, 0] rfl ?_
  refine s_X7_isMark_L5 X hr post _ _ ?_ ?_ n5 _ _ _ _ _ _ _  hw
  · intro I18 hw
    refine kg_iconst (v := (1 : Int32)) X dX7_isMark_54 (by decide) ?_
    exact kg_zret X hr (by decide) hw dX7_isMark_55
  · intro I19 hw
    refine kg_iconst (v := (0 : Int32)) X dX7_isMark_62 (by decide) ?_
    exact kg_zret X hr (by decide) hw dX7_isMark_63
end
abbrev rm_X7_fails : Room := { frames := 0, cells := 0, slots := 0, locals := 0 }
section
variable {p : Program} {l : Launch} {e : Env} {s : State} {m : MethodId} {args : Array Value} {below : List Frame} {meth : Method} {c : Code} {C : Cc} {Y : Ly} {A : Nat → Prop}
def w_X7_fails (Y : Ly) (I : Mm) (k0 : Nat) (v1 : Int32) (post : Int32 → Mm → Prop) : Prop := (ky_is Y k0 7 ∧ (∀ I2 : Mm, I2 = ky_up I k0 0 v1 → post (0 : Int32) I2))
set_option maxHeartbeats 4000000 in
set_option maxRecDepth 100000 in
theorem c_X7_fails (l : Launch) (C : Cc) (Y : Ly) (A : Nat → Prop) (I : Mm) (k0 : Nat) (v1 : Int32) (post : Int32 → Mm → Prop) (hw : w_X7_fails Y I k0 v1 post) : ky_MI l yX7_fails cX7_fails 2 (some .int) rm_X7_fails C Y A I [.ref (Y.2.1 k0), .int v1] post := by
  refine ky_met (by decide) (Nat.le_of_ble_eq_true rfl) ?_
  intro p e s m args below meth c X hr
  have X : ky_X p s m args meth c C cX7_fails 2 RX7 := X
  show ky_G p l e rm_X7_fails s m args below meth c C Y A 2 (MQ below (va_Qi post (ky_B C Y A) A) args s 0 0 A) 0 [(0, .ref (Y.2.1 k0)), (1, .int v1)] [] I
  refine kg_aload_n X 0 dX7_fails_0 rfl rfl ?_
  refine kg_iload_n X 1 dX7_fails_1 rfl rfl ?_
  obtain ⟨h1, hw⟩ := hw
  refine kg_putI (ci := 7) (Tn := TX7) (j := 0) (ty := .int) X tyX7 tyX7_ok nmX7 kc_7 h1 (by decide) (by decide) rfl kw_640 (by decide +kernel) rfl rfl dX7_fails_2 ?_
  refine kg_topm (fun I2 eI2 => ?_)
  have hw := hw I2 eI2
  refine kg_iconst (v := (0 : Int32)) X dX7_fails_5 (by decide) ?_
  exact kg_iret X hr hw dX7_fails_6
end
abbrev rm_X7_keepMark : Room := { frames := 0, cells := 0, slots := 0, locals := 0 }
section
variable {p : Program} {l : Launch} {e : Env} {s : State} {m : MethodId} {args : Array Value} {below : List Frame} {meth : Method} {c : Code} {C : Cc} {Y : Ly} {A : Nat → Prop}
def w_X7_keepMark (Y : Ly) (I : Mm) (k0 : Nat) (v1 : Int32) (v2 : Int32) (v3 : Int32) (v4 : Int32) (post : Mm → Prop) : Prop := (ky_is Y k0 7 ∧ (ky_is Y (ky_rp Y k0 3) 8 ∧ (vp_in v1 (ky_ln Y (ky_rp Y k0 3)) ∧ (∀ x4 : Int32, x4 = ((4 : Int32) * v1) + (I (ky_rp Y k0 3) v1.toNatClampNeg) → (ky_is Y (ky_rp Y k0 4) 8 ∧ (vp_in x4 (ky_ln Y (ky_rp Y k0 4)) ∧ (∀ I7 : Mm, I7 = ky_up I (ky_rp Y k0 4) x4.toNatClampNeg v2 → (ky_is Y (ky_rp Y k0 5) 8 ∧ (vp_in x4 (ky_ln Y (ky_rp Y k0 5)) ∧ (∀ I10 : Mm, I10 = ky_up I7 (ky_rp Y k0 5) x4.toNatClampNeg v3 → (ky_is Y (ky_rp Y k0 6) 8 ∧ (vp_in x4 (ky_ln Y (ky_rp Y k0 6)) ∧ (∀ I13 : Mm, I13 = ky_up I10 (ky_rp Y k0 6) x4.toNatClampNeg v4 → (∀ I14 : Mm, I14 = ky_up I13 (ky_rp Y k0 3) v1.toNatClampNeg ((I13 (ky_rp Y k0 3) v1.toNatClampNeg) + (1 : Int32)) → post I14))))))))))))))
set_option maxHeartbeats 4000000 in
set_option maxRecDepth 100000 in
theorem c_X7_keepMark (l : Launch) (C : Cc) (Y : Ly) (A : Nat → Prop) (I : Mm) (k0 : Nat) (v1 : Int32) (v2 : Int32) (v3 : Int32) (v4 : Int32) (post : Mm → Prop) (hw : w_X7_keepMark Y I k0 v1 v2 v3 v4 post) : ky_MV l yX7_keepMark cX7_keepMark 6 rm_X7_keepMark C Y A I [.ref (Y.2.1 k0), .int v1, .int v2, .int v3, .int v4] post := by
  refine ky_met (by decide) (Nat.le_of_ble_eq_true rfl) ?_
  intro p e s m args below meth c X hr
  have X : ky_X p s m args meth c C cX7_keepMark 6 RX7 := X
  show ky_G p l e rm_X7_keepMark s m args below meth c C Y A 6 (MQ below (va_Qv post (ky_B C Y A) A) args s 0 0 A) 0 [(0, .ref (Y.2.1 k0)), (1, .int v1), (2, .int v2), (3, .int v3), (4, .int v4)] [] I
  refine kg_iconst (v := (4 : Int32)) X dX7_keepMark_0 (by decide) ?_
  refine kg_iload_n X 1 dX7_keepMark_1 rfl rfl ?_
  refine kg_imul X dX7_keepMark_2 ?_
  refine kg_aload_n X 0 dX7_keepMark_3 rfl rfl ?_
  obtain ⟨h1, hw⟩ := hw
  refine kg_getR (j := 3) X kc_7 h1 (by decide) (by decide) rfl kw_643 dX7_keepMark_4 ?_
  refine kg_iload_n X 1 dX7_keepMark_7 rfl rfl ?_
  obtain ⟨h2, hw⟩ := hw
  obtain ⟨h3, hw⟩ := hw
  refine kg_iald X h2 h3 dX7_keepMark_8 ?_
  refine kg_iadd X dX7_keepMark_9 ?_
  refine kg_topi (fun x4 ex4 => ?_)
  have hw := hw x4 ex4
  refine kg_istore (lv' := [(5, .int x4), (0, .ref (Y.2.1 k0)), (1, .int v1), (2, .int v2), (3, .int v3), (4, .int v4)]) X dX7_keepMark_10 (by decide) rfl ?_
  refine kg_aload_n X 1 dX7_keepMark_12 rfl rfl ?_
  refine kg_getR (j := 4) X kc_7 h1 (by decide) (by decide) rfl kw_644 dX7_keepMark_13 ?_
  refine kg_iload X 0 dX7_keepMark_16 rfl ?_
  refine kg_iload_n X 3 dX7_keepMark_18 rfl rfl ?_
  obtain ⟨h5, hw⟩ := hw
  obtain ⟨h6, hw⟩ := hw
  refine kg_iast X h5 h6 dX7_keepMark_19 ?_
  refine kg_topm (fun I7 eI7 => ?_)
  have hw := hw I7 eI7
  refine kg_aload_n X 1 dX7_keepMark_20 rfl rfl ?_
  refine kg_getR (j := 5) X kc_7 h1 (by decide) (by decide) rfl kw_645 dX7_keepMark_21 ?_
  refine kg_iload X 0 dX7_keepMark_24 rfl ?_
  refine kg_iload_n X 4 dX7_keepMark_26 rfl rfl ?_
  obtain ⟨h8, hw⟩ := hw
  obtain ⟨h9, hw⟩ := hw
  refine kg_iast X h8 h9 dX7_keepMark_27 ?_
  refine kg_topm (fun I10 eI10 => ?_)
  have hw := hw I10 eI10
  refine kg_aload_n X 1 dX7_keepMark_28 rfl rfl ?_
  refine kg_getR (j := 6) X kc_7 h1 (by decide) (by decide) rfl kw_646 dX7_keepMark_29 ?_
  refine kg_iload X 0 dX7_keepMark_32 rfl ?_
  refine kg_iload X 5 dX7_keepMark_34 rfl ?_
  obtain ⟨h11, hw⟩ := hw
  obtain ⟨h12, hw⟩ := hw
  refine kg_iast X h11 h12 dX7_keepMark_36 ?_
  refine kg_topm (fun I13 eI13 => ?_)
  have hw := hw I13 eI13
  refine kg_aload_n X 1 dX7_keepMark_37 rfl rfl ?_
  refine kg_getR (j := 3) X kc_7 h1 (by decide) (by decide) rfl kw_643 dX7_keepMark_38 ?_
  refine kg_iload_n X 2 dX7_keepMark_41 rfl rfl ?_
  refine kg_dup2 X dX7_keepMark_42 rfl rfl ?_
  refine kg_iald X h2 h3 dX7_keepMark_43 ?_
  refine kg_iconst (v := (1 : Int32)) X dX7_keepMark_44 (by decide) ?_
  refine kg_iadd X dX7_keepMark_45 ?_
  refine kg_iast X h2 h3 dX7_keepMark_46 ?_
  refine kg_topm (fun I14 eI14 => ?_)
  have hw := hw I14 eI14
  exact kg_vret X hr hw dX7_keepMark_47
end
abbrev rm_X7_mark : Room := { frames := 2, cells := 0, slots := 0, locals := 44 }
section
variable {p : Program} {l : Launch} {e : Env} {s : State} {m : MethodId} {args : Array Value} {below : List Frame} {meth : Method} {c : Code} {C : Cc} {Y : Ly} {A : Nat → Prop}
def w_X7_mark_B97 (Y : Ly) (post : Int32 → Mm → Prop) (k0 : Nat) (I : Mm) : Prop := (ky_is Y k0 7 ∧ w_X7_fails Y I k0 (2 : Int32) (fun r10 I9 => post r10 I9))
set_option maxHeartbeats 4000000 in
set_option maxRecDepth 100000 in
theorem s_X7_mark_B97 (X : ky_X p s m args meth c C cX7_mark 6 RX7) (hr : meth.sig.returnType = some .int) (post : Int32 → Mm → Prop) (k0 : Nat) (I : Mm) (hw : w_X7_mark_B97 Y post k0 I) : ky_G p l e rm_X7_mark s m args below meth c C Y A 6 (MQ below (va_Qi post (ky_B C Y A) A) args s 0 0 A) 97 [(0, .ref (Y.2.1 k0))] [] I := by
  refine kg_aload_n X 0 dX7_mark_97 rfl rfl ?_
  refine kg_iconst (v := (2 : Int32)) X dX7_mark_98 (by decide) ?_
  obtain ⟨h11, hw⟩ := hw
  refine kg_callVi (n := 1) (As := [.int (2 : Int32)]) X (c_X7_fails l C Y A I k0 (2 : Int32) _ hw) kc_7 h11 rfl iv_X7_fails kw_793 (by decide +kernel) (by decide) rfl rfl (Nat.le_of_ble_eq_true rfl) dX7_mark_99 (fun r10 I9 hw => ?_)
  exact kg_iret X hr hw dX7_mark_102
def w_X7_mark_B63 (Y : Ly) (post : Int32 → Mm → Prop) (k0 : Nat) (v1 : Int32) (v2 : Int32) (v3 : Int32) (v4 : Int32) (s0 : Int32) (t1 : Nat) (I : Mm) : Prop := (ky_is Y t1 7 ∧ (∀ I5 : Mm, I5 = ky_up I t1 0 s0 → (ky_is Y k0 7 ∧ (((I5 k0 0) ≤ 0 → (ky_is Y (ky_rp Y k0 3) 8 ∧ (vp_in v1 (ky_ln Y (ky_rp Y k0 3)) ∧ (((I5 (ky_rp Y k0 3) v1.toNatClampNeg) = (4 : Int32) → w_X7_mark_B97 Y post k0 I5) ∧ (¬ (I5 (ky_rp Y k0 3) v1.toNatClampNeg) = (4 : Int32) → w_X7_isMark Y I5 k0 v1 v2 v3 v4 (fun r13 I12 => ((r13 = 0 → w_X7_keepMark Y I12 k0 v1 v2 v3 v4 (fun I14 => w_X7_made Y I14 k0 ((I14 (ky_rp Y k0 3) v1.toNatClampNeg) - (1 : Int32)) (fun r16 I15 => post r16 I15))) ∧ (¬ r13 = 0 → w_X7_mark_B97 Y post k0 I12)))))))) ∧ (¬ (I5 k0 0) ≤ 0 → post (0 : Int32) I5)))))
set_option maxHeartbeats 4000000 in
set_option maxRecDepth 100000 in
theorem s_X7_mark_B63 (X : ky_X p s m args meth c C cX7_mark 6 RX7) (hr : meth.sig.returnType = some .int) (post : Int32 → Mm → Prop) (k0 : Nat) (v1 : Int32) (v2 : Int32) (v3 : Int32) (v4 : Int32) (s0 : Int32) (t1 : Nat) (I : Mm) (hw : w_X7_mark_B63 Y post k0 v1 v2 v3 v4 s0 t1 I) : ky_G p l e rm_X7_mark s m args below meth c C Y A 6 (MQ below (va_Qi post (ky_B C Y A) A) args s 0 0 A) 63 [(0, .ref (Y.2.1 k0)), (1, .int v1), (2, .int v2), (3, .int v3), (4, .int v4)] [.int s0, .ref (Y.2.1 t1)] I := by
  obtain ⟨h4, hw⟩ := hw
  refine kg_putI (ci := 7) (Tn := TX7) (j := 0) (ty := .int) X tyX7 tyX7_ok nmX7 kc_7 h4 (by decide) (by decide) rfl kw_640 (by decide +kernel) rfl rfl dX7_mark_63 ?_
  refine kg_topm (fun I5 eI5 => ?_)
  have hw := hw I5 eI5
  refine kg_aload_n X 0 dX7_mark_66 rfl rfl ?_
  obtain ⟨h6, hw⟩ := hw
  refine kg_getI (j := 0) X kc_7 h6 (by decide) (by decide) rfl kw_640 dX7_mark_67 ?_
  refine kg_if_le (tgt := 75) X dX7_mark_70 (by decide) (fun h19 => ?_) (fun h19 => ?_)
  · have hw := hw.1 h19
    refine kg_aload_n X 0 dX7_mark_75 rfl rfl ?_
    refine kg_getR (j := 3) X kc_7 h6 (by decide) (by decide) rfl kw_643 dX7_mark_76 ?_
    refine kg_iload_n X 1 dX7_mark_79 rfl rfl ?_
    obtain ⟨h7, hw⟩ := hw
    obtain ⟨h8, hw⟩ := hw
    refine kg_iald X h7 h8 dX7_mark_80 ?_
    refine kg_iconst (v := (4 : Int32)) X dX7_mark_81 (by decide) ?_
    refine kg_icmp_eq (tgt := 97) X dX7_mark_82 (by decide) (fun h18 => ?_) (fun h18 => ?_)
    · have hw := hw.1 h18
      refine kg_sub [0] rfl ?_
      exact s_X7_mark_B97 X hr post _ _ hw
    · have hw := hw.2 h18
      refine kg_aload_n X 0 dX7_mark_85 rfl rfl ?_
      refine kg_iload_n X 1 dX7_mark_86 rfl rfl ?_
      refine kg_iload_n X 2 dX7_mark_87 rfl rfl ?_
      refine kg_iload_n X 3 dX7_mark_88 rfl rfl ?_
      refine kg_iload X 4 dX7_mark_89 rfl ?_
      refine kg_callVi (n := 4) (As := [.int v1, .int v2, .int v3, .int v4]) X (c_X7_isMark l C Y A I5 k0 v1 v2 v3 v4 _ hw) kc_7 h6 rfl iv_X7_isMark kw_789 (by decide +kernel) (by decide) rfl rfl (Nat.le_of_ble_eq_true rfl) dX7_mark_91 (fun r13 I12 hw => ?_)
      refine kg_if_eq (tgt := 103) X dX7_mark_94 (by decide) (fun h17 => ?_) (fun h17 => ?_)
      · have hw := hw.1 h17
        refine kg_aload_n X 0 dX7_mark_103 rfl rfl ?_
        refine kg_iload_n X 1 dX7_mark_104 rfl rfl ?_
        refine kg_iload_n X 2 dX7_mark_105 rfl rfl ?_
        refine kg_iload_n X 3 dX7_mark_106 rfl rfl ?_
        refine kg_iload X 4 dX7_mark_107 rfl ?_
        refine kg_callVv (n := 4) (As := [.int v1, .int v2, .int v3, .int v4]) X (c_X7_keepMark l C Y A I12 k0 v1 v2 v3 v4 _ hw) kc_7 h6 rfl iv_X7_keepMark kw_797 (by decide +kernel) (by decide) rfl rfl (Nat.le_of_ble_eq_true rfl) dX7_mark_109 (fun I14 hw => ?_)
        refine kg_aload_n X 0 dX7_mark_112 rfl rfl ?_
        refine kg_aload_n X 0 dX7_mark_113 rfl rfl ?_
        refine kg_getR (j := 3) X kc_7 h6 (by decide) (by decide) rfl kw_643 dX7_mark_114 ?_
        refine kg_iload_n X 1 dX7_mark_117 rfl rfl ?_
        refine kg_iald X h7 h8 dX7_mark_118 ?_
        refine kg_iconst (v := (1 : Int32)) X dX7_mark_119 (by decide) ?_
        refine kg_isub X dX7_mark_120 ?_
        refine kg_callVi (n := 1) (As := [.int ((I14 (ky_rp Y k0 3) v1.toNatClampNeg) - (1 : Int32))]) X (c_X7_made l C Y A I14 k0 ((I14 (ky_rp Y k0 3) v1.toNatClampNeg) - (1 : Int32)) _ hw) kc_7 h6 rfl iv_X7_made kw_769 (by decide +kernel) (by decide) rfl rfl (Nat.le_of_ble_eq_true rfl) dX7_mark_121 (fun r16 I15 hw => ?_)
        exact kg_iret X hr hw dX7_mark_124
      · have hw := hw.2 h17
        refine kg_sub [0] rfl ?_
        exact s_X7_mark_B97 X hr post _ _ hw
  · have hw := hw.2 h19
    refine kg_iconst (v := (0 : Int32)) X dX7_mark_73 (by decide) ?_
    exact kg_iret X hr hw dX7_mark_74
def w_X7_mark_B32 (Y : Ly) (post : Int32 → Mm → Prop) (k0 : Nat) (v1 : Int32) (v2 : Int32) (v3 : Int32) (v4 : Int32) (s0 : Int32) (I : Mm) : Prop := ((s0 = 0 → w_X7_mark_B63 Y post k0 v1 v2 v3 v4 (1 : Int32) k0 I) ∧ (¬ s0 = 0 → (ky_is Y k0 7 ∧ w_X7_isPlace Y I k0 v1 v2 (fun r21 I20 => ((r21 = 0 → w_X7_mark_B63 Y post k0 v1 v2 v3 v4 (1 : Int32) k0 I20) ∧ (¬ r21 = 0 → w_X7_isPlace Y I20 k0 v1 v3 (fun r24 I23 => ((¬ r24 = 0 → w_X7_mark_B63 Y post k0 v1 v2 v3 v4 (0 : Int32) k0 I23) ∧ (r24 = 0 → w_X7_mark_B63 Y post k0 v1 v2 v3 v4 (1 : Int32) k0 I23)))))))))
set_option maxHeartbeats 4000000 in
set_option maxRecDepth 100000 in
theorem s_X7_mark_B32 (X : ky_X p s m args meth c C cX7_mark 6 RX7) (hr : meth.sig.returnType = some .int) (post : Int32 → Mm → Prop) (k0 : Nat) (v1 : Int32) (v2 : Int32) (v3 : Int32) (v4 : Int32) (s0 : Int32) (I : Mm) (hw : w_X7_mark_B32 Y post k0 v1 v2 v3 v4 s0 I) : ky_G p l e rm_X7_mark s m args below meth c C Y A 6 (MQ below (va_Qi post (ky_B C Y A) A) args s 0 0 A) 32 [(0, .ref (Y.2.1 k0)), (1, .int v1), (2, .int v2), (3, .int v3), (4, .int v4)] [.int s0] I := by
  refine kg_istore (lv' := [(5, .int s0), (0, .ref (Y.2.1 k0)), (1, .int v1), (2, .int v2), (3, .int v3), (4, .int v4)]) X dX7_mark_32 (by decide) rfl ?_
  refine kg_aload_n X 1 dX7_mark_34 rfl rfl ?_
  refine kg_iload X 0 dX7_mark_35 rfl ?_
  refine kg_if_eq (tgt := 58) X dX7_mark_37 (by decide) (fun h27 => ?_) (fun h27 => ?_)
  · have hw := hw.1 h27
    refine kg_iconst (v := (1 : Int32)) X dX7_mark_58 (by decide) ?_
    refine kg_goto (tgt := 63) X dX7_mark_59 (by decide) ?_
    refine kg_sub [1, 2, 3, 4, 5] rfl ?_
    exact s_X7_mark_B63 X hr post _ _ _ _ _ _ _ _ hw
  · have hw := hw.2 h27
    refine kg_aload_n X 1 dX7_mark_40 rfl rfl ?_
    refine kg_iload_n X 2 dX7_mark_41 rfl rfl ?_
    refine kg_iload_n X 3 dX7_mark_42 rfl rfl ?_
    obtain ⟨h22, hw⟩ := hw
    refine kg_callVi (n := 2) (As := [.int v1, .int v2]) X (c_X7_isPlace l C Y A I k0 v1 v2 _ hw) kc_7 h22 rfl iv_X7_isPlace kw_785 (by decide +kernel) (by decide) rfl rfl (Nat.le_of_ble_eq_true rfl) dX7_mark_43 (fun r21 I20 hw => ?_)
    refine kg_if_eq (tgt := 58) X dX7_mark_46 (by decide) (fun h26 => ?_) (fun h26 => ?_)
    · have hw := hw.1 h26
      refine kg_iconst (v := (1 : Int32)) X dX7_mark_58 (by decide) ?_
      refine kg_goto (tgt := 63) X dX7_mark_59 (by decide) ?_
      refine kg_sub [1, 2, 3, 4, 5] rfl ?_
      exact s_X7_mark_B63 X hr post _ _ _ _ _ _ _ _ hw
    · have hw := hw.2 h26
      refine kg_aload_n X 1 dX7_mark_49 rfl rfl ?_
      refine kg_iload_n X 2 dX7_mark_50 rfl rfl ?_
      refine kg_iload_n X 4 dX7_mark_51 rfl rfl ?_
      refine kg_callVi (n := 2) (As := [.int v1, .int v3]) X (c_X7_isPlace l C Y A I20 k0 v1 v3 _ hw) kc_7 h22 rfl iv_X7_isPlace kw_785 (by decide +kernel) (by decide) rfl rfl (Nat.le_of_ble_eq_true rfl) dX7_mark_52 (fun r24 I23 hw => ?_)
      refine kg_if_ne (tgt := 62) X dX7_mark_55 (by decide) (fun h25 => ?_) (fun h25 => ?_)
      · have hw := hw.1 h25
        refine kg_iconst (v := (0 : Int32)) X dX7_mark_62 (by decide) ?_
        refine kg_sub [1, 2, 3, 4, 5] rfl ?_
        exact s_X7_mark_B63 X hr post _ _ _ _ _ _ _ _ hw
      · have hw := hw.2 h25
        refine kg_iconst (v := (1 : Int32)) X dX7_mark_58 (by decide) ?_
        refine kg_goto (tgt := 63) X dX7_mark_59 (by decide) ?_
        refine kg_sub [1, 2, 3, 4, 5] rfl ?_
        exact s_X7_mark_B63 X hr post _ _ _ _ _ _ _ _ hw
def w_X7_mark (Y : Ly) (I : Mm) (k0 : Nat) (v1 : Int32) (v2 : Int32) (v3 : Int32) (v4 : Int32) (post : Int32 → Mm → Prop) : Prop := (ky_is Y k0 7 ∧ w_X7_isRelation Y I k0 v1 (fun r2 I1 => ((r2 = 0 → w_X7_mark_B32 Y post k0 v1 v2 v3 v4 (0 : Int32) I1) ∧ (¬ r2 = 0 → w_X7_in Y I1 v4 (-1000 : Int32) (1000 : Int32) (fun r29 I28 => ((r29 = 0 → w_X7_mark_B32 Y post k0 v1 v2 v3 v4 (0 : Int32) I28) ∧ (¬ r29 = 0 → ((v2 = v3 → w_X7_mark_B32 Y post k0 v1 v2 v3 v4 (0 : Int32) I28) ∧ (¬ v2 = v3 → w_X7_mark_B32 Y post k0 v1 v2 v3 v4 (1 : Int32) I28)))))))))
set_option maxHeartbeats 4000000 in
set_option maxRecDepth 100000 in
theorem c_X7_mark (l : Launch) (C : Cc) (Y : Ly) (A : Nat → Prop) (I : Mm) (k0 : Nat) (v1 : Int32) (v2 : Int32) (v3 : Int32) (v4 : Int32) (post : Int32 → Mm → Prop) (hw : w_X7_mark Y I k0 v1 v2 v3 v4 post) : ky_MI l yX7_mark cX7_mark 6 (some .int) rm_X7_mark C Y A I [.ref (Y.2.1 k0), .int v1, .int v2, .int v3, .int v4] post := by
  refine ky_met (by decide) (Nat.le_of_ble_eq_true rfl) ?_
  intro p e s m args below meth c X hr
  have X : ky_X p s m args meth c C cX7_mark 6 RX7 := X
  show ky_G p l e rm_X7_mark s m args below meth c C Y A 6 (MQ below (va_Qi post (ky_B C Y A) A) args s 0 0 A) 0 [(0, .ref (Y.2.1 k0)), (1, .int v1), (2, .int v2), (3, .int v3), (4, .int v4)] [] I
  refine kg_aload_n X 0 dX7_mark_0 rfl rfl ?_
  refine kg_iload_n X 1 dX7_mark_1 rfl rfl ?_
  obtain ⟨h3, hw⟩ := hw
  refine kg_callVi (n := 1) (As := [.int v1]) X (c_X7_isRelation l C Y A I k0 v1 _ hw) kc_7 h3 rfl iv_X7_isRelation kw_781 (by decide +kernel) (by decide) rfl rfl (Nat.le_of_ble_eq_true rfl) dX7_mark_2 (fun r2 I1 hw => ?_)
  refine kg_if_eq (tgt := 31) X dX7_mark_5 (by decide) (fun h32 => ?_) (fun h32 => ?_)
  · have hw := hw.1 h32
    refine kg_iconst (v := (0 : Int32)) X dX7_mark_31 (by decide) ?_
    refine kg_sub [0, 1, 2, 3, 4] rfl ?_
    exact s_X7_mark_B32 X hr post _ _ _ _ _ _ _ hw
  · have hw := hw.2 h32
    refine kg_iload X 4 dX7_mark_8 rfl ?_
    refine kg_sipush (v := (-1000 : Int32)) X dX7_mark_10 (by decide) ?_
    refine kg_sipush (v := (1000 : Int32)) X dX7_mark_13 (by decide) ?_
    refine kg_callSi (n := 3) (As := [.int v4, .int (-1000 : Int32), .int (1000 : Int32)]) X (c_X7_in l C Y A I1 v4 (-1000 : Int32) (1000 : Int32) _ hw) rfl is_X7_in kw_766 (by decide +kernel) (by decide) rfl rfl (Nat.le_of_ble_eq_true rfl) dX7_mark_16 (fun r29 I28 hw => ?_)
    refine kg_if_eq (tgt := 31) X dX7_mark_19 (by decide) (fun h31 => ?_) (fun h31 => ?_)
    · have hw := hw.1 h31
      refine kg_iconst (v := (0 : Int32)) X dX7_mark_31 (by decide) ?_
      refine kg_sub [0, 1, 2, 3, 4] rfl ?_
      exact s_X7_mark_B32 X hr post _ _ _ _ _ _ _ hw
    · have hw := hw.2 h31
      refine kg_iload_n X 2 dX7_mark_22 rfl rfl ?_
      refine kg_iload_n X 3 dX7_mark_23 rfl rfl ?_
      refine kg_icmp_eq (tgt := 31) X dX7_mark_24 (by decide) (fun h30 => ?_) (fun h30 => ?_)
      · have hw := hw.1 h30
        refine kg_iconst (v := (0 : Int32)) X dX7_mark_31 (by decide) ?_
        refine kg_sub [0, 1, 2, 3, 4] rfl ?_
        exact s_X7_mark_B32 X hr post _ _ _ _ _ _ _ hw
      · have hw := hw.2 h30
        refine kg_iconst (v := (1 : Int32)) X dX7_mark_27 (by decide) ?_
        refine kg_goto (tgt := 32) X dX7_mark_28 (by decide) ?_
        refine kg_sub [0, 1, 2, 3, 4] rfl ?_
        exact s_X7_mark_B32 X hr post _ _ _ _ _ _ _ hw
end
abbrev rm_X7_areVariables : Room := { frames := 1, cells := 0, slots := 0, locals := 22 }
section
variable {p : Program} {l : Launch} {e : Env} {s : State} {m : MethodId} {args : Array Value} {below : List Frame} {meth : Method} {c : Code} {C : Cc} {Y : Ly} {A : Nat → Prop}
def w_X7_areVariables (Y : Ly) (I : Mm) (k0 : Nat) (v1 : Int32) (v2 : Int32) (v3 : Int32) (post : Int32 → Mm → Prop) : Prop := w_X7_in Y I v2 (0 : Int32) (4 : Int32) (fun r2 I1 => ((r2 = 0 → post (0 : Int32) I1) ∧ (¬ r2 = 0 → (ky_is Y k0 7 ∧ (ky_is Y (ky_rp Y k0 2) 8 ∧ (vp_in v1 (ky_ln Y (ky_rp Y k0 2)) ∧ (((I1 (ky_rp Y k0 2) v1.toNatClampNeg) = (1 : Int32) → post (1 : Int32) I1) ∧ (¬ (I1 (ky_rp Y k0 2) v1.toNatClampNeg) = (1 : Int32) → w_X7_in Y I1 v3 (0 : Int32) (4 : Int32) (fun r7 I6 => ((r7 = 0 → post (0 : Int32) I6) ∧ (¬ r7 = 0 → post (1 : Int32) I6)))))))))))
set_option maxHeartbeats 4000000 in
set_option maxRecDepth 100000 in
theorem c_X7_areVariables (l : Launch) (C : Cc) (Y : Ly) (A : Nat → Prop) (I : Mm) (k0 : Nat) (v1 : Int32) (v2 : Int32) (v3 : Int32) (post : Int32 → Mm → Prop) (hw : w_X7_areVariables Y I k0 v1 v2 v3 post) : ky_MI l yX7_areVariables cX7_areVariables 4 (some .boolean) rm_X7_areVariables C Y A I [.ref (Y.2.1 k0), .int v1, .int v2, .int v3] post := by
  refine ky_met (by decide) (Nat.le_of_ble_eq_true rfl) ?_
  intro p e s m args below meth c X hr
  have X : ky_X p s m args meth c C cX7_areVariables 4 RX7 := X
  show ky_G p l e rm_X7_areVariables s m args below meth c C Y A 4 (MQ below (va_Qi post (ky_B C Y A) A) args s 0 0 A) 0 [(0, .ref (Y.2.1 k0)), (1, .int v1), (2, .int v2), (3, .int v3)] [] I
  refine kg_iload_n X 2 dX7_areVariables_0 rfl rfl ?_
  refine kg_iconst (v := (0 : Int32)) X dX7_areVariables_1 (by decide) ?_
  refine kg_iconst (v := (4 : Int32)) X dX7_areVariables_2 (by decide) ?_
  refine kg_callSi (n := 3) (As := [.int v2, .int (0 : Int32), .int (4 : Int32)]) X (c_X7_in l C Y A I v2 (0 : Int32) (4 : Int32) _ hw) rfl is_X7_in kw_766 (by decide +kernel) (by decide) rfl rfl (Nat.le_of_ble_eq_true rfl) dX7_areVariables_3 (fun r2 I1 hw => ?_)
  refine kg_if_eq (tgt := 32) X dX7_areVariables_6 (by decide) (fun h10 => ?_) (fun h10 => ?_)
  · have hw := hw.1 h10
    refine kg_iconst (v := (0 : Int32)) X dX7_areVariables_32 (by decide) ?_
    exact kg_zret X hr (by decide) hw dX7_areVariables_33
  · have hw := hw.2 h10
    refine kg_aload_n X 0 dX7_areVariables_9 rfl rfl ?_
    obtain ⟨h3, hw⟩ := hw
    refine kg_getR (j := 2) X kc_7 h3 (by decide) (by decide) rfl kw_642 dX7_areVariables_10 ?_
    refine kg_iload_n X 1 dX7_areVariables_13 rfl rfl ?_
    obtain ⟨h4, hw⟩ := hw
    obtain ⟨h5, hw⟩ := hw
    refine kg_iald X h4 h5 dX7_areVariables_14 ?_
    refine kg_iconst (v := (1 : Int32)) X dX7_areVariables_15 (by decide) ?_
    refine kg_icmp_eq (tgt := 28) X dX7_areVariables_16 (by decide) (fun h9 => ?_) (fun h9 => ?_)
    · have hw := hw.1 h9
      refine kg_iconst (v := (1 : Int32)) X dX7_areVariables_28 (by decide) ?_
      refine kg_goto (tgt := 33) X dX7_areVariables_29 (by decide) ?_
      exact kg_zret X hr (by decide) hw dX7_areVariables_33
    · have hw := hw.2 h9
      refine kg_iload_n X 3 dX7_areVariables_19 rfl rfl ?_
      refine kg_iconst (v := (0 : Int32)) X dX7_areVariables_20 (by decide) ?_
      refine kg_iconst (v := (4 : Int32)) X dX7_areVariables_21 (by decide) ?_
      refine kg_callSi (n := 3) (As := [.int v3, .int (0 : Int32), .int (4 : Int32)]) X (c_X7_in l C Y A I1 v3 (0 : Int32) (4 : Int32) _ hw) rfl is_X7_in kw_766 (by decide +kernel) (by decide) rfl rfl (Nat.le_of_ble_eq_true rfl) dX7_areVariables_22 (fun r7 I6 hw => ?_)
      refine kg_if_eq (tgt := 32) X dX7_areVariables_25 (by decide) (fun h8 => ?_) (fun h8 => ?_)
      · have hw := hw.1 h8
        refine kg_iconst (v := (0 : Int32)) X dX7_areVariables_32 (by decide) ?_
        exact kg_zret X hr (by decide) hw dX7_areVariables_33
      · have hw := hw.2 h8
        refine kg_iconst (v := (1 : Int32)) X dX7_areVariables_28 (by decide) ?_
        refine kg_goto (tgt := 33) X dX7_areVariables_29 (by decide) ?_
        exact kg_zret X hr (by decide) hw dX7_areVariables_33
end
abbrev rm_X7_clause : Room := { frames := 2, cells := 0, slots := 0, locals := 45 }
section
variable {p : Program} {l : Launch} {e : Env} {s : State} {m : MethodId} {args : Array Value} {below : List Frame} {meth : Method} {c : Code} {C : Cc} {Y : Ly} {A : Nat → Prop}
def w_X7_clause_B117 (Y : Ly) (post : Int32 → Mm → Prop) (k0 : Nat) (s0 : Int32) (s1 : Int32) (t2 : Nat) (I : Mm) : Prop := (ky_is Y t2 8 ∧ (vp_in s1 (ky_ln Y t2) ∧ (∀ I13 : Mm, I13 = ky_up I t2 s1.toNatClampNeg s0 → (ky_is Y k0 7 ∧ (ky_is Y (ky_rp Y k0 10) 8 ∧ (vp_in (I13 k0 7) (ky_ln Y (ky_rp Y k0 10)) ∧ (∀ I17 : Mm, I17 = ky_up I13 (ky_rp Y k0 10) (I13 k0 7).toNatClampNeg (0 : Int32) → (ky_is Y (ky_rp Y k0 13) 8 ∧ (vp_in (I17 k0 7) (ky_ln Y (ky_rp Y k0 13)) ∧ (∀ I20 : Mm, I20 = ky_up I17 (ky_rp Y k0 13) (I17 k0 7).toNatClampNeg (0 : Int32) → (∀ I21 : Mm, I21 = ky_up I20 k0 7 ((I20 k0 7) + (1 : Int32)) → w_X7_made Y I21 k0 ((I21 k0 7) - (1 : Int32)) (fun r23 I22 => post r23 I22))))))))))))
set_option maxHeartbeats 4000000 in
set_option maxRecDepth 100000 in
theorem s_X7_clause_B117 (X : ky_X p s m args meth c C cX7_clause 4 RX7) (hr : meth.sig.returnType = some .int) (post : Int32 → Mm → Prop) (k0 : Nat) (s0 : Int32) (s1 : Int32) (t2 : Nat) (I : Mm) (hw : w_X7_clause_B117 Y post k0 s0 s1 t2 I) : ky_G p l e rm_X7_clause s m args below meth c C Y A 4 (MQ below (va_Qi post (ky_B C Y A) A) args s 0 0 A) 117 [(0, .ref (Y.2.1 k0))] [.int s0, .int s1, .ref (Y.2.1 t2)] I := by
  obtain ⟨h11, hw⟩ := hw
  obtain ⟨h12, hw⟩ := hw
  refine kg_iast X h11 h12 dX7_clause_117 ?_
  refine kg_topm (fun I13 eI13 => ?_)
  have hw := hw I13 eI13
  refine kg_aload_n X 0 dX7_clause_118 rfl rfl ?_
  obtain ⟨h14, hw⟩ := hw
  refine kg_getR (j := 10) X kc_7 h14 (by decide) (by decide) rfl kw_650 dX7_clause_119 ?_
  refine kg_aload_n X 0 dX7_clause_122 rfl rfl ?_
  refine kg_getI (j := 7) X kc_7 h14 (by decide) (by decide) rfl kw_647 dX7_clause_123 ?_
  refine kg_iconst (v := (0 : Int32)) X dX7_clause_126 (by decide) ?_
  obtain ⟨h15, hw⟩ := hw
  obtain ⟨h16, hw⟩ := hw
  refine kg_iast X h15 h16 dX7_clause_127 ?_
  refine kg_topm (fun I17 eI17 => ?_)
  have hw := hw I17 eI17
  refine kg_aload_n X 0 dX7_clause_128 rfl rfl ?_
  refine kg_getR (j := 13) X kc_7 h14 (by decide) (by decide) rfl kw_653 dX7_clause_129 ?_
  refine kg_aload_n X 0 dX7_clause_132 rfl rfl ?_
  refine kg_getI (j := 7) X kc_7 h14 (by decide) (by decide) rfl kw_647 dX7_clause_133 ?_
  refine kg_iconst (v := (0 : Int32)) X dX7_clause_136 (by decide) ?_
  obtain ⟨h18, hw⟩ := hw
  obtain ⟨h19, hw⟩ := hw
  refine kg_iast X h18 h19 dX7_clause_137 ?_
  refine kg_topm (fun I20 eI20 => ?_)
  have hw := hw I20 eI20
  refine kg_aload_n X 0 dX7_clause_138 rfl rfl ?_
  refine kg_dup X dX7_clause_139 rfl ?_
  refine kg_getI (j := 7) X kc_7 h14 (by decide) (by decide) rfl kw_647 dX7_clause_140 ?_
  refine kg_iconst (v := (1 : Int32)) X dX7_clause_143 (by decide) ?_
  refine kg_iadd X dX7_clause_144 ?_
  refine kg_putI (ci := 7) (Tn := TX7) (j := 7) (ty := .int) X tyX7 tyX7_ok nmX7 kc_7 h14 (by decide) (by decide) rfl kw_647 (by decide +kernel) rfl rfl dX7_clause_145 ?_
  refine kg_topm (fun I21 eI21 => ?_)
  have hw := hw I21 eI21
  refine kg_aload_n X 0 dX7_clause_148 rfl rfl ?_
  refine kg_aload_n X 0 dX7_clause_149 rfl rfl ?_
  refine kg_getI (j := 7) X kc_7 h14 (by decide) (by decide) rfl kw_647 dX7_clause_150 ?_
  refine kg_iconst (v := (1 : Int32)) X dX7_clause_153 (by decide) ?_
  refine kg_isub X dX7_clause_154 ?_
  refine kg_callVi (n := 1) (As := [.int ((I21 k0 7) - (1 : Int32))]) X (c_X7_made l C Y A I21 k0 ((I21 k0 7) - (1 : Int32)) _ hw) kc_7 h14 rfl iv_X7_made kw_769 (by decide +kernel) (by decide) rfl rfl (Nat.le_of_ble_eq_true rfl) dX7_clause_155 (fun r23 I22 hw => ?_)
  exact kg_iret X hr hw dX7_clause_158
def w_X7_clause_B85 (Y : Ly) (post : Int32 → Mm → Prop) (k0 : Nat) (v1 : Int32) (v3 : Int32) (s0 : Int32) (s1 : Int32) (t2 : Nat) (I : Mm) : Prop := (ky_is Y t2 8 ∧ (vp_in s1 (ky_ln Y t2) ∧ (∀ I9 : Mm, I9 = ky_up I t2 s1.toNatClampNeg s0 → (ky_is Y k0 7 ∧ ((v1 < 0 → w_X7_clause_B117 Y post k0 (0 : Int32) (((2 : Int32) * (I9 k0 7)) + (1 : Int32)) (ky_rp Y k0 9) I9) ∧ (¬ v1 < 0 → (ky_is Y (ky_rp Y k0 2) 8 ∧ (vp_in v1 (ky_ln Y (ky_rp Y k0 2)) ∧ ((¬ (I9 (ky_rp Y k0 2) v1.toNatClampNeg) = (1 : Int32) → w_X7_clause_B117 Y post k0 v3 (((2 : Int32) * (I9 k0 7)) + (1 : Int32)) (ky_rp Y k0 9) I9) ∧ ((I9 (ky_rp Y k0 2) v1.toNatClampNeg) = (1 : Int32) → w_X7_clause_B117 Y post k0 (0 : Int32) (((2 : Int32) * (I9 k0 7)) + (1 : Int32)) (ky_rp Y k0 9) I9))))))))))
set_option maxHeartbeats 4000000 in
set_option maxRecDepth 100000 in
theorem s_X7_clause_B85 (X : ky_X p s m args meth c C cX7_clause 4 RX7) (hr : meth.sig.returnType = some .int) (post : Int32 → Mm → Prop) (k0 : Nat) (v1 : Int32) (v3 : Int32) (s0 : Int32) (s1 : Int32) (t2 : Nat) (I : Mm) (hw : w_X7_clause_B85 Y post k0 v1 v3 s0 s1 t2 I) : ky_G p l e rm_X7_clause s m args below meth c C Y A 4 (MQ below (va_Qi post (ky_B C Y A) A) args s 0 0 A) 85 [(0, .ref (Y.2.1 k0)), (1, .int v1), (3, .int v3)] [.int s0, .int s1, .ref (Y.2.1 t2)] I := by
  obtain ⟨h7, hw⟩ := hw
  obtain ⟨h8, hw⟩ := hw
  refine kg_iast X h7 h8 dX7_clause_85 ?_
  refine kg_topm (fun I9 eI9 => ?_)
  have hw := hw I9 eI9
  refine kg_aload_n X 0 dX7_clause_86 rfl rfl ?_
  obtain ⟨h10, hw⟩ := hw
  refine kg_getR (j := 9) X kc_7 h10 (by decide) (by decide) rfl kw_649 dX7_clause_87 ?_
  refine kg_iconst (v := (2 : Int32)) X dX7_clause_90 (by decide) ?_
  refine kg_aload_n X 0 dX7_clause_91 rfl rfl ?_
  refine kg_getI (j := 7) X kc_7 h10 (by decide) (by decide) rfl kw_647 dX7_clause_92 ?_
  refine kg_imul X dX7_clause_95 ?_
  refine kg_iconst (v := (1 : Int32)) X dX7_clause_96 (by decide) ?_
  refine kg_iadd X dX7_clause_97 ?_
  refine kg_iload_n X 1 dX7_clause_98 rfl rfl ?_
  refine kg_if_lt (tgt := 112) X dX7_clause_99 (by decide) (fun h27 => ?_) (fun h27 => ?_)
  · have hw := hw.1 h27
    refine kg_iconst (v := (0 : Int32)) X dX7_clause_112 (by decide) ?_
    refine kg_goto (tgt := 117) X dX7_clause_113 (by decide) ?_
    refine kg_sub [0] rfl ?_
    exact s_X7_clause_B117 X hr post _ _ _ _ _ hw
  · have hw := hw.2 h27
    refine kg_aload_n X 0 dX7_clause_102 rfl rfl ?_
    refine kg_getR (j := 2) X kc_7 h10 (by decide) (by decide) rfl kw_642 dX7_clause_103 ?_
    refine kg_iload_n X 1 dX7_clause_106 rfl rfl ?_
    obtain ⟨h24, hw⟩ := hw
    obtain ⟨h25, hw⟩ := hw
    refine kg_iald X h24 h25 dX7_clause_107 ?_
    refine kg_iconst (v := (1 : Int32)) X dX7_clause_108 (by decide) ?_
    refine kg_icmp_ne (tgt := 116) X dX7_clause_109 (by decide) (fun h26 => ?_) (fun h26 => ?_)
    · have hw := hw.1 h26
      refine kg_iload_n X 2 dX7_clause_116 rfl rfl ?_
      refine kg_sub [0] rfl ?_
      exact s_X7_clause_B117 X hr post _ _ _ _ _ hw
    · have hw := hw.2 h26
      refine kg_iconst (v := (0 : Int32)) X dX7_clause_112 (by decide) ?_
      refine kg_goto (tgt := 117) X dX7_clause_113 (by decide) ?_
      refine kg_sub [0] rfl ?_
      exact s_X7_clause_B117 X hr post _ _ _ _ _ hw
def w_X7_clause_B29 (Y : Ly) (post : Int32 → Mm → Prop) (k0 : Nat) (v1 : Int32) (v2 : Int32) (v3 : Int32) (s0 : Int32) (t1 : Nat) (I : Mm) : Prop := (ky_is Y t1 7 ∧ (∀ I2 : Mm, I2 = ky_up I t1 0 s0 → (ky_is Y k0 7 ∧ (((I2 k0 0) ≤ 0 → ((¬ (I2 k0 7) = (12 : Int32) → (ky_is Y (ky_rp Y k0 8) 8 ∧ (vp_in (I2 k0 7) (ky_ln Y (ky_rp Y k0 8)) ∧ (∀ I6 : Mm, I6 = ky_up I2 (ky_rp Y k0 8) (I2 k0 7).toNatClampNeg v1 → ((0 ≤ v1 → w_X7_clause_B85 Y post k0 v1 v3 v2 ((2 : Int32) * (I6 k0 7)) (ky_rp Y k0 9) I6) ∧ (¬ 0 ≤ v1 → w_X7_clause_B85 Y post k0 v1 v3 (0 : Int32) ((2 : Int32) * (I6 k0 7)) (ky_rp Y k0 9) I6)))))) ∧ ((I2 k0 7) = (12 : Int32) → w_X7_fails Y I2 k0 (2 : Int32) (fun r30 I29 => post r30 I29)))) ∧ (¬ (I2 k0 0) ≤ 0 → post (0 : Int32) I2)))))
set_option maxHeartbeats 4000000 in
set_option maxRecDepth 100000 in
theorem s_X7_clause_B29 (X : ky_X p s m args meth c C cX7_clause 4 RX7) (hr : meth.sig.returnType = some .int) (post : Int32 → Mm → Prop) (k0 : Nat) (v1 : Int32) (v2 : Int32) (v3 : Int32) (s0 : Int32) (t1 : Nat) (I : Mm) (hw : w_X7_clause_B29 Y post k0 v1 v2 v3 s0 t1 I) : ky_G p l e rm_X7_clause s m args below meth c C Y A 4 (MQ below (va_Qi post (ky_B C Y A) A) args s 0 0 A) 29 [(0, .ref (Y.2.1 k0)), (1, .int v1), (2, .int v2), (3, .int v3)] [.int s0, .ref (Y.2.1 t1)] I := by
  obtain ⟨h1, hw⟩ := hw
  refine kg_putI (ci := 7) (Tn := TX7) (j := 0) (ty := .int) X tyX7 tyX7_ok nmX7 kc_7 h1 (by decide) (by decide) rfl kw_640 (by decide +kernel) rfl rfl dX7_clause_29 ?_
  refine kg_topm (fun I2 eI2 => ?_)
  have hw := hw I2 eI2
  refine kg_aload_n X 0 dX7_clause_32 rfl rfl ?_
  obtain ⟨h3, hw⟩ := hw
  refine kg_getI (j := 0) X kc_7 h3 (by decide) (by decide) rfl kw_640 dX7_clause_33 ?_
  refine kg_if_le (tgt := 41) X dX7_clause_36 (by decide) (fun h32 => ?_) (fun h32 => ?_)
  · have hw := hw.1 h32
    refine kg_aload_n X 0 dX7_clause_41 rfl rfl ?_
    refine kg_getI (j := 7) X kc_7 h3 (by decide) (by decide) rfl kw_647 dX7_clause_42 ?_
    refine kg_bipush (v := (12 : Int32)) X dX7_clause_45 (by decide) ?_
    refine kg_icmp_ne (tgt := 56) X dX7_clause_47 (by decide) (fun h31 => ?_) (fun h31 => ?_)
    · have hw := hw.1 h31
      refine kg_aload_n X 0 dX7_clause_56 rfl rfl ?_
      refine kg_getR (j := 8) X kc_7 h3 (by decide) (by decide) rfl kw_648 dX7_clause_57 ?_
      refine kg_aload_n X 0 dX7_clause_60 rfl rfl ?_
      refine kg_getI (j := 7) X kc_7 h3 (by decide) (by decide) rfl kw_647 dX7_clause_61 ?_
      refine kg_iload_n X 1 dX7_clause_64 rfl rfl ?_
      obtain ⟨h4, hw⟩ := hw
      obtain ⟨h5, hw⟩ := hw
      refine kg_iast X h4 h5 dX7_clause_65 ?_
      refine kg_topm (fun I6 eI6 => ?_)
      have hw := hw I6 eI6
      refine kg_aload_n X 0 dX7_clause_66 rfl rfl ?_
      refine kg_getR (j := 9) X kc_7 h3 (by decide) (by decide) rfl kw_649 dX7_clause_67 ?_
      refine kg_iconst (v := (2 : Int32)) X dX7_clause_70 (by decide) ?_
      refine kg_aload_n X 0 dX7_clause_71 rfl rfl ?_
      refine kg_getI (j := 7) X kc_7 h3 (by decide) (by decide) rfl kw_647 dX7_clause_72 ?_
      refine kg_imul X dX7_clause_75 ?_
      refine kg_iload_n X 1 dX7_clause_76 rfl rfl ?_
      refine kg_if_ge (tgt := 84) X dX7_clause_77 (by decide) (fun h28 => ?_) (fun h28 => ?_)
      · have hw := hw.1 h28
        refine kg_iload_n X 2 dX7_clause_84 rfl rfl ?_
        refine kg_sub [0, 1, 3] rfl ?_
        exact s_X7_clause_B85 X hr post _ _ _ _ _ _ _ hw
      · have hw := hw.2 h28
        refine kg_iconst (v := (0 : Int32)) X dX7_clause_80 (by decide) ?_
        refine kg_goto (tgt := 85) X dX7_clause_81 (by decide) ?_
        refine kg_sub [0, 1, 3] rfl ?_
        exact s_X7_clause_B85 X hr post _ _ _ _ _ _ _ hw
    · have hw := hw.2 h31
      refine kg_aload_n X 0 dX7_clause_50 rfl rfl ?_
      refine kg_iconst (v := (2 : Int32)) X dX7_clause_51 (by decide) ?_
      refine kg_callVi (n := 1) (As := [.int (2 : Int32)]) X (c_X7_fails l C Y A I2 k0 (2 : Int32) _ hw) kc_7 h3 rfl iv_X7_fails kw_793 (by decide +kernel) (by decide) rfl rfl (Nat.le_of_ble_eq_true rfl) dX7_clause_52 (fun r30 I29 hw => ?_)
      exact kg_iret X hr hw dX7_clause_55
  · have hw := hw.2 h32
    refine kg_iconst (v := (0 : Int32)) X dX7_clause_39 (by decide) ?_
    exact kg_iret X hr hw dX7_clause_40
def w_X7_clause (Y : Ly) (I : Mm) (k0 : Nat) (v1 : Int32) (v2 : Int32) (v3 : Int32) (post : Int32 → Mm → Prop) : Prop := ((v1 = (-1 : Int32) → w_X7_clause_B29 Y post k0 v1 v2 v3 (0 : Int32) k0 I) ∧ (¬ v1 = (-1 : Int32) → (ky_is Y k0 7 ∧ w_X7_isRelation Y I k0 v1 (fun r34 I33 => ((r34 = 0 → w_X7_clause_B29 Y post k0 v1 v2 v3 (1 : Int32) k0 I33) ∧ (¬ r34 = 0 → w_X7_areVariables Y I33 k0 v1 v2 v3 (fun r37 I36 => ((r37 = 0 → w_X7_clause_B29 Y post k0 v1 v2 v3 (1 : Int32) k0 I36) ∧ (¬ r37 = 0 → w_X7_clause_B29 Y post k0 v1 v2 v3 (0 : Int32) k0 I36)))))))))
set_option maxHeartbeats 4000000 in
set_option maxRecDepth 100000 in
theorem c_X7_clause (l : Launch) (C : Cc) (Y : Ly) (A : Nat → Prop) (I : Mm) (k0 : Nat) (v1 : Int32) (v2 : Int32) (v3 : Int32) (post : Int32 → Mm → Prop) (hw : w_X7_clause Y I k0 v1 v2 v3 post) : ky_MI l yX7_clause cX7_clause 4 (some .int) rm_X7_clause C Y A I [.ref (Y.2.1 k0), .int v1, .int v2, .int v3] post := by
  refine ky_met (by decide) (Nat.le_of_ble_eq_true rfl) ?_
  intro p e s m args below meth c X hr
  have X : ky_X p s m args meth c C cX7_clause 4 RX7 := X
  show ky_G p l e rm_X7_clause s m args below meth c C Y A 4 (MQ below (va_Qi post (ky_B C Y A) A) args s 0 0 A) 0 [(0, .ref (Y.2.1 k0)), (1, .int v1), (2, .int v2), (3, .int v3)] [] I
  refine kg_aload_n X 0 dX7_clause_0 rfl rfl ?_
  refine kg_iload_n X 1 dX7_clause_1 rfl rfl ?_
  refine kg_iconst (v := (-1 : Int32)) X dX7_clause_2 (by decide) ?_
  refine kg_icmp_eq (tgt := 24) X dX7_clause_3 (by decide) (fun h40 => ?_) (fun h40 => ?_)
  · have hw := hw.1 h40
    refine kg_iconst (v := (0 : Int32)) X dX7_clause_24 (by decide) ?_
    refine kg_goto (tgt := 29) X dX7_clause_25 (by decide) ?_
    refine kg_sub [0, 1, 2, 3] rfl ?_
    exact s_X7_clause_B29 X hr post _ _ _ _ _ _ _ hw
  · have hw := hw.2 h40
    refine kg_aload_n X 0 dX7_clause_6 rfl rfl ?_
    refine kg_iload_n X 1 dX7_clause_7 rfl rfl ?_
    obtain ⟨h35, hw⟩ := hw
    refine kg_callVi (n := 1) (As := [.int v1]) X (c_X7_isRelation l C Y A I k0 v1 _ hw) kc_7 h35 rfl iv_X7_isRelation kw_781 (by decide +kernel) (by decide) rfl rfl (Nat.le_of_ble_eq_true rfl) dX7_clause_8 (fun r34 I33 hw => ?_)
    refine kg_if_eq (tgt := 28) X dX7_clause_11 (by decide) (fun h39 => ?_) (fun h39 => ?_)
    · have hw := hw.1 h39
      refine kg_iconst (v := (1 : Int32)) X dX7_clause_28 (by decide) ?_
      refine kg_sub [0, 1, 2, 3] rfl ?_
      exact s_X7_clause_B29 X hr post _ _ _ _ _ _ _ hw
    · have hw := hw.2 h39
      refine kg_aload_n X 0 dX7_clause_14 rfl rfl ?_
      refine kg_iload_n X 1 dX7_clause_15 rfl rfl ?_
      refine kg_iload_n X 2 dX7_clause_16 rfl rfl ?_
      refine kg_iload_n X 3 dX7_clause_17 rfl rfl ?_
      refine kg_callVi (n := 3) (As := [.int v1, .int v2, .int v3]) X (c_X7_areVariables l C Y A I33 k0 v1 v2 v3 _ hw) kc_7 h35 rfl iv_X7_areVariables kw_805 (by decide +kernel) (by decide) rfl rfl (Nat.le_of_ble_eq_true rfl) dX7_clause_18 (fun r37 I36 hw => ?_)
      refine kg_if_eq (tgt := 28) X dX7_clause_21 (by decide) (fun h38 => ?_) (fun h38 => ?_)
      · have hw := hw.1 h38
        refine kg_iconst (v := (1 : Int32)) X dX7_clause_28 (by decide) ?_
        refine kg_sub [0, 1, 2, 3] rfl ?_
        exact s_X7_clause_B29 X hr post _ _ _ _ _ _ _ hw
      · have hw := hw.2 h38
        refine kg_iconst (v := (0 : Int32)) X dX7_clause_24 (by decide) ?_
        refine kg_goto (tgt := 29) X dX7_clause_25 (by decide) ?_
        refine kg_sub [0, 1, 2, 3] rfl ?_
        exact s_X7_clause_B29 X hr post _ _ _ _ _ _ _ hw
end
abbrev rm_X7_atom : Room := { frames := 2, cells := 0, slots := 0, locals := 45 }
section
variable {p : Program} {l : Launch} {e : Env} {s : State} {m : MethodId} {args : Array Value} {below : List Frame} {meth : Method} {c : Code} {C : Cc} {Y : Ly} {A : Nat → Prop}
def w_X7_atom_B58 (Y : Ly) (post : Int32 → Mm → Prop) (k0 : Nat) (I : Mm) : Prop := (ky_is Y k0 7 ∧ w_X7_fails Y I k0 (2 : Int32) (fun r8 I7 => post r8 I7))
set_option maxHeartbeats 4000000 in
set_option maxRecDepth 100000 in
theorem s_X7_atom_B58 (X : ky_X p s m args meth c C cX7_atom 6 RX7) (hr : meth.sig.returnType = some .int) (post : Int32 → Mm → Prop) (k0 : Nat) (I : Mm) (hw : w_X7_atom_B58 Y post k0 I) : ky_G p l e rm_X7_atom s m args below meth c C Y A 6 (MQ below (va_Qi post (ky_B C Y A) A) args s 0 0 A) 58 [(0, .ref (Y.2.1 k0))] [] I := by
  refine kg_aload_n X 0 dX7_atom_58 rfl rfl ?_
  refine kg_iconst (v := (2 : Int32)) X dX7_atom_59 (by decide) ?_
  obtain ⟨h9, hw⟩ := hw
  refine kg_callVi (n := 1) (As := [.int (2 : Int32)]) X (c_X7_fails l C Y A I k0 (2 : Int32) _ hw) kc_7 h9 rfl iv_X7_fails kw_793 (by decide +kernel) (by decide) rfl rfl (Nat.le_of_ble_eq_true rfl) dX7_atom_60 (fun r8 I7 hw => ?_)
  exact kg_iret X hr hw dX7_atom_63
def w_X7_atom_B129 (Y : Ly) (post : Int32 → Mm → Prop) (k0 : Nat) (v4 : Int32) (s0 : Int32) (s1 : Int32) (t2 : Nat) (I : Mm) : Prop := (ky_is Y t2 8 ∧ (vp_in s1 (ky_ln Y t2) ∧ (∀ I25 : Mm, I25 = ky_up I t2 s1.toNatClampNeg s0 → (ky_is Y k0 7 ∧ (ky_is Y (ky_rp Y k0 10) 8 ∧ (vp_in v4 (ky_ln Y (ky_rp Y k0 10)) ∧ (∀ I29 : Mm, I29 = ky_up I25 (ky_rp Y k0 10) v4.toNatClampNeg ((I25 (ky_rp Y k0 10) v4.toNatClampNeg) + (1 : Int32)) → w_X7_made Y I29 k0 ((I29 (ky_rp Y k0 10) v4.toNatClampNeg) - (1 : Int32)) (fun r31 I30 => post r31 I30))))))))
set_option maxHeartbeats 4000000 in
set_option maxRecDepth 100000 in
theorem s_X7_atom_B129 (X : ky_X p s m args meth c C cX7_atom 6 RX7) (hr : meth.sig.returnType = some .int) (post : Int32 → Mm → Prop) (k0 : Nat) (v4 : Int32) (s0 : Int32) (s1 : Int32) (t2 : Nat) (I : Mm) (hw : w_X7_atom_B129 Y post k0 v4 s0 s1 t2 I) : ky_G p l e rm_X7_atom s m args below meth c C Y A 6 (MQ below (va_Qi post (ky_B C Y A) A) args s 0 0 A) 129 [(0, .ref (Y.2.1 k0)), (4, .int v4)] [.int s0, .int s1, .ref (Y.2.1 t2)] I := by
  obtain ⟨h23, hw⟩ := hw
  obtain ⟨h24, hw⟩ := hw
  refine kg_iast X h23 h24 dX7_atom_129 ?_
  refine kg_topm (fun I25 eI25 => ?_)
  have hw := hw I25 eI25
  refine kg_aload_n X 0 dX7_atom_130 rfl rfl ?_
  obtain ⟨h26, hw⟩ := hw
  refine kg_getR (j := 10) X kc_7 h26 (by decide) (by decide) rfl kw_650 dX7_atom_131 ?_
  refine kg_iload X 1 dX7_atom_134 rfl ?_
  refine kg_dup2 X dX7_atom_136 rfl rfl ?_
  obtain ⟨h27, hw⟩ := hw
  obtain ⟨h28, hw⟩ := hw
  refine kg_iald X h27 h28 dX7_atom_137 ?_
  refine kg_iconst (v := (1 : Int32)) X dX7_atom_138 (by decide) ?_
  refine kg_iadd X dX7_atom_139 ?_
  refine kg_iast X h27 h28 dX7_atom_140 ?_
  refine kg_topm (fun I29 eI29 => ?_)
  have hw := hw I29 eI29
  refine kg_aload_n X 0 dX7_atom_141 rfl rfl ?_
  refine kg_aload_n X 0 dX7_atom_142 rfl rfl ?_
  refine kg_getR (j := 10) X kc_7 h26 (by decide) (by decide) rfl kw_650 dX7_atom_143 ?_
  refine kg_iload X 1 dX7_atom_146 rfl ?_
  refine kg_iald X h27 h28 dX7_atom_148 ?_
  refine kg_iconst (v := (1 : Int32)) X dX7_atom_149 (by decide) ?_
  refine kg_isub X dX7_atom_150 ?_
  refine kg_callVi (n := 1) (As := [.int ((I29 (ky_rp Y k0 10) v4.toNatClampNeg) - (1 : Int32))]) X (c_X7_made l C Y A I29 k0 ((I29 (ky_rp Y k0 10) v4.toNatClampNeg) - (1 : Int32)) _ hw) kc_7 h26 rfl iv_X7_made kw_769 (by decide +kernel) (by decide) rfl rfl (Nat.le_of_ble_eq_true rfl) dX7_atom_151 (fun r31 I30 hw => ?_)
  exact kg_iret X hr hw dX7_atom_154
def w_X7_atom_B24 (Y : Ly) (post : Int32 → Mm → Prop) (k0 : Nat) (v1 : Int32) (v2 : Int32) (v3 : Int32) (s0 : Int32) (t1 : Nat) (I : Mm) : Prop := (ky_is Y t1 7 ∧ (∀ I5 : Mm, I5 = ky_up I t1 0 s0 → (ky_is Y k0 7 ∧ (((I5 k0 0) ≤ 0 → (((I5 k0 7) = 0 → w_X7_atom_B58 Y post k0 I5) ∧ (¬ (I5 k0 7) = 0 → (ky_is Y (ky_rp Y k0 10) 8 ∧ (vp_in ((I5 k0 7) - (1 : Int32)) (ky_ln Y (ky_rp Y k0 10)) ∧ ((¬ (I5 (ky_rp Y k0 10) ((I5 k0 7) - (1 : Int32)).toNatClampNeg) = (2 : Int32) → (∀ x12 : Int32, x12 = (I5 k0 7) - (1 : Int32) → (vp_in x12 (ky_ln Y (ky_rp Y k0 10)) ∧ (∀ x14 : Int32, x14 = ((2 : Int32) * x12) + (I5 (ky_rp Y k0 10) x12.toNatClampNeg) → (ky_is Y (ky_rp Y k0 11) 8 ∧ (vp_in x14 (ky_ln Y (ky_rp Y k0 11)) ∧ (∀ I17 : Mm, I17 = ky_up I5 (ky_rp Y k0 11) x14.toNatClampNeg v1 → (ky_is Y (ky_rp Y k0 12) 8 ∧ (vp_in ((2 : Int32) * x14) (ky_ln Y (ky_rp Y k0 12)) ∧ (∀ I20 : Mm, I20 = ky_up I17 (ky_rp Y k0 12) ((2 : Int32) * x14).toNatClampNeg v2 → (ky_is Y (ky_rp Y k0 2) 8 ∧ (vp_in v1 (ky_ln Y (ky_rp Y k0 2)) ∧ ((¬ (I20 (ky_rp Y k0 2) v1.toNatClampNeg) = (1 : Int32) → w_X7_atom_B129 Y post k0 x12 v3 (((2 : Int32) * x14) + (1 : Int32)) (ky_rp Y k0 12) I20) ∧ ((I20 (ky_rp Y k0 2) v1.toNatClampNeg) = (1 : Int32) → w_X7_atom_B129 Y post k0 x12 (0 : Int32) (((2 : Int32) * x14) + (1 : Int32)) (ky_rp Y k0 12) I20)))))))))))))) ∧ ((I5 (ky_rp Y k0 10) ((I5 k0 7) - (1 : Int32)).toNatClampNeg) = (2 : Int32) → w_X7_atom_B58 Y post k0 I5))))))) ∧ (¬ (I5 k0 0) ≤ 0 → post (0 : Int32) I5)))))
set_option maxHeartbeats 4000000 in
set_option maxRecDepth 100000 in
theorem s_X7_atom_B24 (X : ky_X p s m args meth c C cX7_atom 6 RX7) (hr : meth.sig.returnType = some .int) (post : Int32 → Mm → Prop) (k0 : Nat) (v1 : Int32) (v2 : Int32) (v3 : Int32) (s0 : Int32) (t1 : Nat) (I : Mm) (hw : w_X7_atom_B24 Y post k0 v1 v2 v3 s0 t1 I) : ky_G p l e rm_X7_atom s m args below meth c C Y A 6 (MQ below (va_Qi post (ky_B C Y A) A) args s 0 0 A) 24 [(0, .ref (Y.2.1 k0)), (1, .int v1), (2, .int v2), (3, .int v3)] [.int s0, .ref (Y.2.1 t1)] I := by
  obtain ⟨h4, hw⟩ := hw
  refine kg_putI (ci := 7) (Tn := TX7) (j := 0) (ty := .int) X tyX7 tyX7_ok nmX7 kc_7 h4 (by decide) (by decide) rfl kw_640 (by decide +kernel) rfl rfl dX7_atom_24 ?_
  refine kg_topm (fun I5 eI5 => ?_)
  have hw := hw I5 eI5
  refine kg_aload_n X 0 dX7_atom_27 rfl rfl ?_
  obtain ⟨h6, hw⟩ := hw
  refine kg_getI (j := 0) X kc_7 h6 (by decide) (by decide) rfl kw_640 dX7_atom_28 ?_
  refine kg_if_le (tgt := 36) X dX7_atom_31 (by decide) (fun h35 => ?_) (fun h35 => ?_)
  · have hw := hw.1 h35
    refine kg_aload_n X 0 dX7_atom_36 rfl rfl ?_
    refine kg_getI (j := 7) X kc_7 h6 (by decide) (by decide) rfl kw_647 dX7_atom_37 ?_
    refine kg_if_eq (tgt := 58) X dX7_atom_40 (by decide) (fun h34 => ?_) (fun h34 => ?_)
    · have hw := hw.1 h34
      refine kg_sub [0] rfl ?_
      exact s_X7_atom_B58 X hr post _ _ hw
    · have hw := hw.2 h34
      refine kg_aload_n X 0 dX7_atom_43 rfl rfl ?_
      refine kg_getR (j := 10) X kc_7 h6 (by decide) (by decide) rfl kw_650 dX7_atom_44 ?_
      refine kg_aload_n X 0 dX7_atom_47 rfl rfl ?_
      refine kg_getI (j := 7) X kc_7 h6 (by decide) (by decide) rfl kw_647 dX7_atom_48 ?_
      refine kg_iconst (v := (1 : Int32)) X dX7_atom_51 (by decide) ?_
      refine kg_isub X dX7_atom_52 ?_
      obtain ⟨h10, hw⟩ := hw
      obtain ⟨h11, hw⟩ := hw
      refine kg_iald X h10 h11 dX7_atom_53 ?_
      refine kg_iconst (v := (2 : Int32)) X dX7_atom_54 (by decide) ?_
      refine kg_icmp_ne (tgt := 64) X dX7_atom_55 (by decide) (fun h33 => ?_) (fun h33 => ?_)
      · have hw := hw.1 h33
        refine kg_aload_n X 0 dX7_atom_64 rfl rfl ?_
        refine kg_getI (j := 7) X kc_7 h6 (by decide) (by decide) rfl kw_647 dX7_atom_65 ?_
        refine kg_iconst (v := (1 : Int32)) X dX7_atom_68 (by decide) ?_
        refine kg_isub X dX7_atom_69 ?_
        refine kg_topi (fun x12 ex12 => ?_)
        have hw := hw x12 ex12
        refine kg_istore (lv' := [(4, .int x12), (0, .ref (Y.2.1 k0)), (1, .int v1), (2, .int v2), (3, .int v3)]) X dX7_atom_70 (by decide) rfl ?_
        refine kg_iconst (v := (2 : Int32)) X dX7_atom_72 (by decide) ?_
        refine kg_iload X 0 dX7_atom_73 rfl ?_
        refine kg_imul X dX7_atom_75 ?_
        refine kg_aload_n X 1 dX7_atom_76 rfl rfl ?_
        refine kg_getR (j := 10) X kc_7 h6 (by decide) (by decide) rfl kw_650 dX7_atom_77 ?_
        refine kg_iload X 0 dX7_atom_80 rfl ?_
        obtain ⟨h13, hw⟩ := hw
        refine kg_iald X h10 h13 dX7_atom_82 ?_
        refine kg_iadd X dX7_atom_83 ?_
        refine kg_topi (fun x14 ex14 => ?_)
        have hw := hw x14 ex14
        refine kg_istore (lv' := [(5, .int x14), (4, .int x12), (0, .ref (Y.2.1 k0)), (1, .int v1), (2, .int v2), (3, .int v3)]) X dX7_atom_84 (by decide) rfl ?_
        refine kg_aload_n X 2 dX7_atom_86 rfl rfl ?_
        refine kg_getR (j := 11) X kc_7 h6 (by decide) (by decide) rfl kw_651 dX7_atom_87 ?_
        refine kg_iload X 0 dX7_atom_90 rfl ?_
        refine kg_iload_n X 3 dX7_atom_92 rfl rfl ?_
        obtain ⟨h15, hw⟩ := hw
        obtain ⟨h16, hw⟩ := hw
        refine kg_iast X h15 h16 dX7_atom_93 ?_
        refine kg_topm (fun I17 eI17 => ?_)
        have hw := hw I17 eI17
        refine kg_aload_n X 2 dX7_atom_94 rfl rfl ?_
        refine kg_getR (j := 12) X kc_7 h6 (by decide) (by decide) rfl kw_652 dX7_atom_95 ?_
        refine kg_iconst (v := (2 : Int32)) X dX7_atom_98 (by decide) ?_
        refine kg_iload X 0 dX7_atom_99 rfl ?_
        refine kg_imul X dX7_atom_101 ?_
        refine kg_iload_n X 4 dX7_atom_102 rfl rfl ?_
        obtain ⟨h18, hw⟩ := hw
        obtain ⟨h19, hw⟩ := hw
        refine kg_iast X h18 h19 dX7_atom_103 ?_
        refine kg_topm (fun I20 eI20 => ?_)
        have hw := hw I20 eI20
        refine kg_aload_n X 2 dX7_atom_104 rfl rfl ?_
        refine kg_getR (j := 12) X kc_7 h6 (by decide) (by decide) rfl kw_652 dX7_atom_105 ?_
        refine kg_iconst (v := (2 : Int32)) X dX7_atom_108 (by decide) ?_
        refine kg_iload X 0 dX7_atom_109 rfl ?_
        refine kg_imul X dX7_atom_111 ?_
        refine kg_iconst (v := (1 : Int32)) X dX7_atom_112 (by decide) ?_
        refine kg_iadd X dX7_atom_113 ?_
        refine kg_aload_n X 2 dX7_atom_114 rfl rfl ?_
        refine kg_getR (j := 2) X kc_7 h6 (by decide) (by decide) rfl kw_642 dX7_atom_115 ?_
        refine kg_iload_n X 3 dX7_atom_118 rfl rfl ?_
        obtain ⟨h21, hw⟩ := hw
        obtain ⟨h22, hw⟩ := hw
        refine kg_iald X h21 h22 dX7_atom_119 ?_
        refine kg_iconst (v := (1 : Int32)) X dX7_atom_120 (by decide) ?_
        refine kg_icmp_ne (tgt := 128) X dX7_atom_121 (by decide) (fun h32 => ?_) (fun h32 => ?_)
        · have hw := hw.1 h32
          refine kg_iload_n X 5 dX7_atom_128 rfl rfl ?_
          refine kg_sub [2, 1] rfl ?_
          exact s_X7_atom_B129 X hr post _ _ _ _ _ _ hw
        · have hw := hw.2 h32
          refine kg_iconst (v := (0 : Int32)) X dX7_atom_124 (by decide) ?_
          refine kg_goto (tgt := 129) X dX7_atom_125 (by decide) ?_
          refine kg_sub [2, 1] rfl ?_
          exact s_X7_atom_B129 X hr post _ _ _ _ _ _ hw
      · have hw := hw.2 h33
        refine kg_sub [0] rfl ?_
        exact s_X7_atom_B58 X hr post _ _ hw
  · have hw := hw.2 h35
    refine kg_iconst (v := (0 : Int32)) X dX7_atom_34 (by decide) ?_
    exact kg_iret X hr hw dX7_atom_35
def w_X7_atom (Y : Ly) (I : Mm) (k0 : Nat) (v1 : Int32) (v2 : Int32) (v3 : Int32) (post : Int32 → Mm → Prop) : Prop := (ky_is Y k0 7 ∧ w_X7_isRelation Y I k0 v1 (fun r2 I1 => ((r2 = 0 → w_X7_atom_B24 Y post k0 v1 v2 v3 (1 : Int32) k0 I1) ∧ (¬ r2 = 0 → w_X7_areVariables Y I1 k0 v1 v2 v3 (fun r37 I36 => ((r37 = 0 → w_X7_atom_B24 Y post k0 v1 v2 v3 (1 : Int32) k0 I36) ∧ (¬ r37 = 0 → w_X7_atom_B24 Y post k0 v1 v2 v3 (0 : Int32) k0 I36)))))))
set_option maxHeartbeats 4000000 in
set_option maxRecDepth 100000 in
theorem c_X7_atom (l : Launch) (C : Cc) (Y : Ly) (A : Nat → Prop) (I : Mm) (k0 : Nat) (v1 : Int32) (v2 : Int32) (v3 : Int32) (post : Int32 → Mm → Prop) (hw : w_X7_atom Y I k0 v1 v2 v3 post) : ky_MI l yX7_atom cX7_atom 6 (some .int) rm_X7_atom C Y A I [.ref (Y.2.1 k0), .int v1, .int v2, .int v3] post := by
  refine ky_met (by decide) (Nat.le_of_ble_eq_true rfl) ?_
  intro p e s m args below meth c X hr
  have X : ky_X p s m args meth c C cX7_atom 6 RX7 := X
  show ky_G p l e rm_X7_atom s m args below meth c C Y A 6 (MQ below (va_Qi post (ky_B C Y A) A) args s 0 0 A) 0 [(0, .ref (Y.2.1 k0)), (1, .int v1), (2, .int v2), (3, .int v3)] [] I
  refine kg_aload_n X 0 dX7_atom_0 rfl rfl ?_
  refine kg_aload_n X 0 dX7_atom_1 rfl rfl ?_
  refine kg_iload_n X 1 dX7_atom_2 rfl rfl ?_
  obtain ⟨h3, hw⟩ := hw
  refine kg_callVi (n := 1) (As := [.int v1]) X (c_X7_isRelation l C Y A I k0 v1 _ hw) kc_7 h3 rfl iv_X7_isRelation kw_781 (by decide +kernel) (by decide) rfl rfl (Nat.le_of_ble_eq_true rfl) dX7_atom_3 (fun r2 I1 hw => ?_)
  refine kg_if_eq (tgt := 23) X dX7_atom_6 (by decide) (fun h39 => ?_) (fun h39 => ?_)
  · have hw := hw.1 h39
    refine kg_iconst (v := (1 : Int32)) X dX7_atom_23 (by decide) ?_
    refine kg_sub [0, 1, 2, 3] rfl ?_
    exact s_X7_atom_B24 X hr post _ _ _ _ _ _ _ hw
  · have hw := hw.2 h39
    refine kg_aload_n X 0 dX7_atom_9 rfl rfl ?_
    refine kg_iload_n X 1 dX7_atom_10 rfl rfl ?_
    refine kg_iload_n X 2 dX7_atom_11 rfl rfl ?_
    refine kg_iload_n X 3 dX7_atom_12 rfl rfl ?_
    refine kg_callVi (n := 3) (As := [.int v1, .int v2, .int v3]) X (c_X7_areVariables l C Y A I1 k0 v1 v2 v3 _ hw) kc_7 h3 rfl iv_X7_areVariables kw_805 (by decide +kernel) (by decide) rfl rfl (Nat.le_of_ble_eq_true rfl) dX7_atom_13 (fun r37 I36 hw => ?_)
    refine kg_if_eq (tgt := 23) X dX7_atom_16 (by decide) (fun h38 => ?_) (fun h38 => ?_)
    · have hw := hw.1 h38
      refine kg_iconst (v := (1 : Int32)) X dX7_atom_23 (by decide) ?_
      refine kg_sub [0, 1, 2, 3] rfl ?_
      exact s_X7_atom_B24 X hr post _ _ _ _ _ _ _ hw
    · have hw := hw.2 h38
      refine kg_iconst (v := (0 : Int32)) X dX7_atom_19 (by decide) ?_
      refine kg_goto (tgt := 24) X dX7_atom_20 (by decide) ?_
      refine kg_sub [0, 1, 2, 3] rfl ?_
      exact s_X7_atom_B24 X hr post _ _ _ _ _ _ _ hw
end
abbrev rm_X7_bound : Room := { frames := 2, cells := 0, slots := 0, locals := 42 }
section
variable {p : Program} {l : Launch} {e : Env} {s : State} {m : MethodId} {args : Array Value} {below : List Frame} {meth : Method} {c : Code} {C : Cc} {Y : Ly} {A : Nat → Prop}
def w_X7_bound_B77 (Y : Ly) (post : Int32 → Mm → Prop) (k0 : Nat) (I : Mm) : Prop := (ky_is Y k0 7 ∧ w_X7_fails Y I k0 (2 : Int32) (fun r7 I6 => post r7 I6))
set_option maxHeartbeats 4000000 in
set_option maxRecDepth 100000 in
theorem s_X7_bound_B77 (X : ky_X p s m args meth c C cX7_bound 5 RX7) (hr : meth.sig.returnType = some .int) (post : Int32 → Mm → Prop) (k0 : Nat) (I : Mm) (hw : w_X7_bound_B77 Y post k0 I) : ky_G p l e rm_X7_bound s m args below meth c C Y A 5 (MQ below (va_Qi post (ky_B C Y A) A) args s 0 0 A) 77 [(0, .ref (Y.2.1 k0))] [] I := by
  refine kg_aload_n X 0 dX7_bound_77 rfl rfl ?_
  refine kg_iconst (v := (2 : Int32)) X dX7_bound_78 (by decide) ?_
  obtain ⟨h8, hw⟩ := hw
  refine kg_callVi (n := 1) (As := [.int (2 : Int32)]) X (c_X7_fails l C Y A I k0 (2 : Int32) _ hw) kc_7 h8 rfl iv_X7_fails kw_793 (by decide +kernel) (by decide) rfl rfl (Nat.le_of_ble_eq_true rfl) dX7_bound_79 (fun r7 I6 hw => ?_)
  exact kg_iret X hr hw dX7_bound_82
def w_X7_bound_B42 (Y : Ly) (post : Int32 → Mm → Prop) (k0 : Nat) (v1 : Int32) (v2 : Int32) (v3 : Int32) (s0 : Int32) (t1 : Nat) (I : Mm) : Prop := (ky_is Y t1 7 ∧ (∀ I4 : Mm, I4 = ky_up I t1 0 s0 → (ky_is Y k0 7 ∧ (((I4 k0 0) ≤ 0 → (((I4 k0 7) = 0 → w_X7_bound_B77 Y post k0 I4) ∧ (¬ (I4 k0 7) = 0 → (ky_is Y (ky_rp Y k0 13) 8 ∧ (vp_in ((I4 k0 7) - (1 : Int32)) (ky_ln Y (ky_rp Y k0 13)) ∧ ((¬ (I4 (ky_rp Y k0 13) ((I4 k0 7) - (1 : Int32)).toNatClampNeg) = (8 : Int32) → (∀ x11 : Int32, x11 = ((8 : Int32) * ((I4 k0 7) - (1 : Int32))) + (I4 (ky_rp Y k0 13) ((I4 k0 7) - (1 : Int32)).toNatClampNeg) → (ky_is Y (ky_rp Y k0 14) 8 ∧ (vp_in x11 (ky_ln Y (ky_rp Y k0 14)) ∧ (∀ I14 : Mm, I14 = ky_up I4 (ky_rp Y k0 14) x11.toNatClampNeg v1 → (ky_is Y (ky_rp Y k0 15) 8 ∧ (vp_in x11 (ky_ln Y (ky_rp Y k0 15)) ∧ (∀ I17 : Mm, I17 = ky_up I14 (ky_rp Y k0 15) x11.toNatClampNeg v2 → (ky_is Y (ky_rp Y k0 16) 8 ∧ (vp_in x11 (ky_ln Y (ky_rp Y k0 16)) ∧ (∀ I20 : Mm, I20 = ky_up I17 (ky_rp Y k0 16) x11.toNatClampNeg v3 → (vp_in ((I20 k0 7) - (1 : Int32)) (ky_ln Y (ky_rp Y k0 13)) ∧ (∀ I22 : Mm, I22 = ky_up I20 (ky_rp Y k0 13) ((I20 k0 7) - (1 : Int32)).toNatClampNeg ((I20 (ky_rp Y k0 13) ((I20 k0 7) - (1 : Int32)).toNatClampNeg) + (1 : Int32)) → (vp_in ((I22 k0 7) - (1 : Int32)) (ky_ln Y (ky_rp Y k0 13)) ∧ w_X7_made Y I22 k0 (I22 (ky_rp Y k0 13) ((I22 k0 7) - (1 : Int32)).toNatClampNeg) (fun r25 I24 => post r25 I24))))))))))))))) ∧ ((I4 (ky_rp Y k0 13) ((I4 k0 7) - (1 : Int32)).toNatClampNeg) = (8 : Int32) → w_X7_bound_B77 Y post k0 I4))))))) ∧ (¬ (I4 k0 0) ≤ 0 → post (0 : Int32) I4)))))
set_option maxHeartbeats 4000000 in
set_option maxRecDepth 100000 in
theorem s_X7_bound_B42 (X : ky_X p s m args meth c C cX7_bound 5 RX7) (hr : meth.sig.returnType = some .int) (post : Int32 → Mm → Prop) (k0 : Nat) (v1 : Int32) (v2 : Int32) (v3 : Int32) (s0 : Int32) (t1 : Nat) (I : Mm) (hw : w_X7_bound_B42 Y post k0 v1 v2 v3 s0 t1 I) : ky_G p l e rm_X7_bound s m args below meth c C Y A 5 (MQ below (va_Qi post (ky_B C Y A) A) args s 0 0 A) 42 [(0, .ref (Y.2.1 k0)), (1, .int v1), (2, .int v2), (3, .int v3)] [.int s0, .ref (Y.2.1 t1)] I := by
  obtain ⟨h3, hw⟩ := hw
  refine kg_putI (ci := 7) (Tn := TX7) (j := 0) (ty := .int) X tyX7 tyX7_ok nmX7 kc_7 h3 (by decide) (by decide) rfl kw_640 (by decide +kernel) rfl rfl dX7_bound_42 ?_
  refine kg_topm (fun I4 eI4 => ?_)
  have hw := hw I4 eI4
  refine kg_aload_n X 0 dX7_bound_45 rfl rfl ?_
  obtain ⟨h5, hw⟩ := hw
  refine kg_getI (j := 0) X kc_7 h5 (by decide) (by decide) rfl kw_640 dX7_bound_46 ?_
  refine kg_if_le (tgt := 54) X dX7_bound_49 (by decide) (fun h28 => ?_) (fun h28 => ?_)
  · have hw := hw.1 h28
    refine kg_aload_n X 0 dX7_bound_54 rfl rfl ?_
    refine kg_getI (j := 7) X kc_7 h5 (by decide) (by decide) rfl kw_647 dX7_bound_55 ?_
    refine kg_if_eq (tgt := 77) X dX7_bound_58 (by decide) (fun h27 => ?_) (fun h27 => ?_)
    · have hw := hw.1 h27
      refine kg_sub [0] rfl ?_
      exact s_X7_bound_B77 X hr post _ _ hw
    · have hw := hw.2 h27
      refine kg_aload_n X 0 dX7_bound_61 rfl rfl ?_
      refine kg_getR (j := 13) X kc_7 h5 (by decide) (by decide) rfl kw_653 dX7_bound_62 ?_
      refine kg_aload_n X 0 dX7_bound_65 rfl rfl ?_
      refine kg_getI (j := 7) X kc_7 h5 (by decide) (by decide) rfl kw_647 dX7_bound_66 ?_
      refine kg_iconst (v := (1 : Int32)) X dX7_bound_69 (by decide) ?_
      refine kg_isub X dX7_bound_70 ?_
      obtain ⟨h9, hw⟩ := hw
      obtain ⟨h10, hw⟩ := hw
      refine kg_iald X h9 h10 dX7_bound_71 ?_
      refine kg_bipush (v := (8 : Int32)) X dX7_bound_72 (by decide) ?_
      refine kg_icmp_ne (tgt := 83) X dX7_bound_74 (by decide) (fun h26 => ?_) (fun h26 => ?_)
      · have hw := hw.1 h26
        refine kg_bipush (v := (8 : Int32)) X dX7_bound_83 (by decide) ?_
        refine kg_aload_n X 0 dX7_bound_85 rfl rfl ?_
        refine kg_getI (j := 7) X kc_7 h5 (by decide) (by decide) rfl kw_647 dX7_bound_86 ?_
        refine kg_iconst (v := (1 : Int32)) X dX7_bound_89 (by decide) ?_
        refine kg_isub X dX7_bound_90 ?_
        refine kg_imul X dX7_bound_91 ?_
        refine kg_aload_n X 0 dX7_bound_92 rfl rfl ?_
        refine kg_getR (j := 13) X kc_7 h5 (by decide) (by decide) rfl kw_653 dX7_bound_93 ?_
        refine kg_aload_n X 0 dX7_bound_96 rfl rfl ?_
        refine kg_getI (j := 7) X kc_7 h5 (by decide) (by decide) rfl kw_647 dX7_bound_97 ?_
        refine kg_iconst (v := (1 : Int32)) X dX7_bound_100 (by decide) ?_
        refine kg_isub X dX7_bound_101 ?_
        refine kg_iald X h9 h10 dX7_bound_102 ?_
        refine kg_iadd X dX7_bound_103 ?_
        refine kg_topi (fun x11 ex11 => ?_)
        have hw := hw x11 ex11
        refine kg_istore (lv' := [(4, .int x11), (0, .ref (Y.2.1 k0)), (1, .int v1), (2, .int v2), (3, .int v3)]) X dX7_bound_104 (by decide) rfl ?_
        refine kg_aload_n X 1 dX7_bound_106 rfl rfl ?_
        refine kg_getR (j := 14) X kc_7 h5 (by decide) (by decide) rfl kw_654 dX7_bound_107 ?_
        refine kg_iload X 0 dX7_bound_110 rfl ?_
        refine kg_iload_n X 2 dX7_bound_112 rfl rfl ?_
        obtain ⟨h12, hw⟩ := hw
        obtain ⟨h13, hw⟩ := hw
        refine kg_iast X h12 h13 dX7_bound_113 ?_
        refine kg_topm (fun I14 eI14 => ?_)
        have hw := hw I14 eI14
        refine kg_aload_n X 1 dX7_bound_114 rfl rfl ?_
        refine kg_getR (j := 15) X kc_7 h5 (by decide) (by decide) rfl kw_655 dX7_bound_115 ?_
        refine kg_iload X 0 dX7_bound_118 rfl ?_
        refine kg_iload_n X 3 dX7_bound_120 rfl rfl ?_
        obtain ⟨h15, hw⟩ := hw
        obtain ⟨h16, hw⟩ := hw
        refine kg_iast X h15 h16 dX7_bound_121 ?_
        refine kg_topm (fun I17 eI17 => ?_)
        have hw := hw I17 eI17
        refine kg_aload_n X 1 dX7_bound_122 rfl rfl ?_
        refine kg_getR (j := 16) X kc_7 h5 (by decide) (by decide) rfl kw_656 dX7_bound_123 ?_
        refine kg_iload X 0 dX7_bound_126 rfl ?_
        refine kg_iload_n X 4 dX7_bound_128 rfl rfl ?_
        obtain ⟨h18, hw⟩ := hw
        obtain ⟨h19, hw⟩ := hw
        refine kg_iast X h18 h19 dX7_bound_129 ?_
        refine kg_topm (fun I20 eI20 => ?_)
        have hw := hw I20 eI20
        refine kg_aload_n X 1 dX7_bound_130 rfl rfl ?_
        refine kg_getR (j := 13) X kc_7 h5 (by decide) (by decide) rfl kw_653 dX7_bound_131 ?_
        refine kg_aload_n X 1 dX7_bound_134 rfl rfl ?_
        refine kg_getI (j := 7) X kc_7 h5 (by decide) (by decide) rfl kw_647 dX7_bound_135 ?_
        refine kg_iconst (v := (1 : Int32)) X dX7_bound_138 (by decide) ?_
        refine kg_isub X dX7_bound_139 ?_
        refine kg_dup2 X dX7_bound_140 rfl rfl ?_
        obtain ⟨h21, hw⟩ := hw
        refine kg_iald X h9 h21 dX7_bound_141 ?_
        refine kg_iconst (v := (1 : Int32)) X dX7_bound_142 (by decide) ?_
        refine kg_iadd X dX7_bound_143 ?_
        refine kg_iast X h9 h21 dX7_bound_144 ?_
        refine kg_topm (fun I22 eI22 => ?_)
        have hw := hw I22 eI22
        refine kg_aload_n X 1 dX7_bound_145 rfl rfl ?_
        refine kg_aload_n X 1 dX7_bound_146 rfl rfl ?_
        refine kg_getR (j := 13) X kc_7 h5 (by decide) (by decide) rfl kw_653 dX7_bound_147 ?_
        refine kg_aload_n X 1 dX7_bound_150 rfl rfl ?_
        refine kg_getI (j := 7) X kc_7 h5 (by decide) (by decide) rfl kw_647 dX7_bound_151 ?_
        refine kg_iconst (v := (1 : Int32)) X dX7_bound_154 (by decide) ?_
        refine kg_isub X dX7_bound_155 ?_
        obtain ⟨h23, hw⟩ := hw
        refine kg_iald X h9 h23 dX7_bound_156 ?_
        refine kg_callVi (n := 1) (As := [.int (I22 (ky_rp Y k0 13) ((I22 k0 7) - (1 : Int32)).toNatClampNeg)]) X (c_X7_made l C Y A I22 k0 (I22 (ky_rp Y k0 13) ((I22 k0 7) - (1 : Int32)).toNatClampNeg) _ hw) kc_7 h5 rfl iv_X7_made kw_769 (by decide +kernel) (by decide) rfl rfl (Nat.le_of_ble_eq_true rfl) dX7_bound_157 (fun r25 I24 hw => ?_)
        exact kg_iret X hr hw dX7_bound_160
      · have hw := hw.2 h26
        refine kg_sub [0] rfl ?_
        exact s_X7_bound_B77 X hr post _ _ hw
  · have hw := hw.2 h28
    refine kg_iconst (v := (0 : Int32)) X dX7_bound_52 (by decide) ?_
    exact kg_iret X hr hw dX7_bound_53
def w_X7_bound (Y : Ly) (I : Mm) (k0 : Nat) (v1 : Int32) (v2 : Int32) (v3 : Int32) (post : Int32 → Mm → Prop) : Prop := w_X7_in Y I v1 (0 : Int32) (5 : Int32) (fun r2 I1 => ((r2 = 0 → w_X7_bound_B42 Y post k0 v1 v2 v3 (1 : Int32) k0 I1) ∧ (¬ r2 = 0 → w_X7_in Y I1 v2 (0 : Int32) (5 : Int32) (fun r30 I29 => ((r30 = 0 → w_X7_bound_B42 Y post k0 v1 v2 v3 (1 : Int32) k0 I29) ∧ (¬ r30 = 0 → ((v1 = v2 → w_X7_bound_B42 Y post k0 v1 v2 v3 (1 : Int32) k0 I29) ∧ (¬ v1 = v2 → w_X7_in Y I29 v3 (-1000 : Int32) (1000 : Int32) (fun r32 I31 => ((r32 = 0 → w_X7_bound_B42 Y post k0 v1 v2 v3 (1 : Int32) k0 I31) ∧ (¬ r32 = 0 → w_X7_bound_B42 Y post k0 v1 v2 v3 (0 : Int32) k0 I31)))))))))))
set_option maxHeartbeats 4000000 in
set_option maxRecDepth 100000 in
theorem c_X7_bound (l : Launch) (C : Cc) (Y : Ly) (A : Nat → Prop) (I : Mm) (k0 : Nat) (v1 : Int32) (v2 : Int32) (v3 : Int32) (post : Int32 → Mm → Prop) (hw : w_X7_bound Y I k0 v1 v2 v3 post) : ky_MI l yX7_bound cX7_bound 5 (some .int) rm_X7_bound C Y A I [.ref (Y.2.1 k0), .int v1, .int v2, .int v3] post := by
  refine ky_met (by decide) (Nat.le_of_ble_eq_true rfl) ?_
  intro p e s m args below meth c X hr
  have X : ky_X p s m args meth c C cX7_bound 5 RX7 := X
  show ky_G p l e rm_X7_bound s m args below meth c C Y A 5 (MQ below (va_Qi post (ky_B C Y A) A) args s 0 0 A) 0 [(0, .ref (Y.2.1 k0)), (1, .int v1), (2, .int v2), (3, .int v3)] [] I
  refine kg_aload_n X 0 dX7_bound_0 rfl rfl ?_
  refine kg_iload_n X 1 dX7_bound_1 rfl rfl ?_
  refine kg_iconst (v := (0 : Int32)) X dX7_bound_2 (by decide) ?_
  refine kg_iconst (v := (5 : Int32)) X dX7_bound_3 (by decide) ?_
  refine kg_callSi (n := 3) (As := [.int v1, .int (0 : Int32), .int (5 : Int32)]) X (c_X7_in l C Y A I v1 (0 : Int32) (5 : Int32) _ hw) rfl is_X7_in kw_766 (by decide +kernel) (by decide) rfl rfl (Nat.le_of_ble_eq_true rfl) dX7_bound_4 (fun r2 I1 hw => ?_)
  refine kg_if_eq (tgt := 41) X dX7_bound_7 (by decide) (fun h36 => ?_) (fun h36 => ?_)
  · have hw := hw.1 h36
    refine kg_iconst (v := (1 : Int32)) X dX7_bound_41 (by decide) ?_
    refine kg_sub [0, 1, 2, 3] rfl ?_
    exact s_X7_bound_B42 X hr post _ _ _ _ _ _ _ hw
  · have hw := hw.2 h36
    refine kg_iload_n X 2 dX7_bound_10 rfl rfl ?_
    refine kg_iconst (v := (0 : Int32)) X dX7_bound_11 (by decide) ?_
    refine kg_iconst (v := (5 : Int32)) X dX7_bound_12 (by decide) ?_
    refine kg_callSi (n := 3) (As := [.int v2, .int (0 : Int32), .int (5 : Int32)]) X (c_X7_in l C Y A I1 v2 (0 : Int32) (5 : Int32) _ hw) rfl is_X7_in kw_766 (by decide +kernel) (by decide) rfl rfl (Nat.le_of_ble_eq_true rfl) dX7_bound_13 (fun r30 I29 hw => ?_)
    refine kg_if_eq (tgt := 41) X dX7_bound_16 (by decide) (fun h35 => ?_) (fun h35 => ?_)
    · have hw := hw.1 h35
      refine kg_iconst (v := (1 : Int32)) X dX7_bound_41 (by decide) ?_
      refine kg_sub [0, 1, 2, 3] rfl ?_
      exact s_X7_bound_B42 X hr post _ _ _ _ _ _ _ hw
    · have hw := hw.2 h35
      refine kg_iload_n X 1 dX7_bound_19 rfl rfl ?_
      refine kg_iload_n X 2 dX7_bound_20 rfl rfl ?_
      refine kg_icmp_eq (tgt := 41) X dX7_bound_21 (by decide) (fun h34 => ?_) (fun h34 => ?_)
      · have hw := hw.1 h34
        refine kg_iconst (v := (1 : Int32)) X dX7_bound_41 (by decide) ?_
        refine kg_sub [0, 1, 2, 3] rfl ?_
        exact s_X7_bound_B42 X hr post _ _ _ _ _ _ _ hw
      · have hw := hw.2 h34
        refine kg_iload_n X 3 dX7_bound_24 rfl rfl ?_
        refine kg_sipush (v := (-1000 : Int32)) X dX7_bound_25 (by decide) ?_
        refine kg_sipush (v := (1000 : Int32)) X dX7_bound_28 (by decide) ?_
        refine kg_callSi (n := 3) (As := [.int v3, .int (-1000 : Int32), .int (1000 : Int32)]) X (c_X7_in l C Y A I29 v3 (-1000 : Int32) (1000 : Int32) _ hw) rfl is_X7_in kw_766 (by decide +kernel) (by decide) rfl rfl (Nat.le_of_ble_eq_true rfl) dX7_bound_31 (fun r32 I31 hw => ?_)
        refine kg_if_eq (tgt := 41) X dX7_bound_34 (by decide) (fun h33 => ?_) (fun h33 => ?_)
        · have hw := hw.1 h33
          refine kg_iconst (v := (1 : Int32)) X dX7_bound_41 (by decide) ?_
          refine kg_sub [0, 1, 2, 3] rfl ?_
          exact s_X7_bound_B42 X hr post _ _ _ _ _ _ _ hw
        · have hw := hw.2 h33
          refine kg_iconst (v := (0 : Int32)) X dX7_bound_37 (by decide) ?_
          refine kg_goto (tgt := 42) X dX7_bound_38 (by decide) ?_
          refine kg_sub [0, 1, 2, 3] rfl ?_
          exact s_X7_bound_B42 X hr post _ _ _ _ _ _ _ hw
end
abbrev rm_X7_start : Room := { frames := 2, cells := 0, slots := 0, locals := 42 }
section
variable {p : Program} {l : Launch} {e : Env} {s : State} {m : MethodId} {args : Array Value} {below : List Frame} {meth : Method} {c : Code} {C : Cc} {Y : Ly} {A : Nat → Prop}
def w_X7_start (Y : Ly) (I : Mm) (k0 : Nat) (post : Mm → Prop) : Prop := (ky_is Y k0 7 ∧ (∀ I2 : Mm, I2 = ky_up I k0 0 (0 : Int32) → w_X7_made Y I2 k0 (0 : Int32) (fun r4 I3 => post I3)))
set_option maxHeartbeats 4000000 in
set_option maxRecDepth 100000 in
theorem c_X7_start (l : Launch) (C : Cc) (Y : Ly) (A : Nat → Prop) (I : Mm) (k0 : Nat) (post : Mm → Prop) (hw : w_X7_start Y I k0 post) : ky_MV l yX7_start cX7_start 1 rm_X7_start C Y A I [.ref (Y.2.1 k0)] post := by
  refine ky_met (by decide) (Nat.le_of_ble_eq_true rfl) ?_
  intro p e s m args below meth c X hr
  have X : ky_X p s m args meth c C cX7_start 1 RX7 := X
  show ky_G p l e rm_X7_start s m args below meth c C Y A 1 (MQ below (va_Qv post (ky_B C Y A) A) args s 0 0 A) 0 [(0, .ref (Y.2.1 k0))] [] I
  refine kg_aload_n X 0 dX7_start_0 rfl rfl ?_
  refine kg_iconst (v := (0 : Int32)) X dX7_start_1 (by decide) ?_
  obtain ⟨h1, hw⟩ := hw
  refine kg_putI (ci := 7) (Tn := TX7) (j := 0) (ty := .int) X tyX7 tyX7_ok nmX7 kc_7 h1 (by decide) (by decide) rfl kw_640 (by decide +kernel) rfl rfl dX7_start_2 ?_
  refine kg_topm (fun I2 eI2 => ?_)
  have hw := hw I2 eI2
  refine kg_aload_n X 0 dX7_start_5 rfl rfl ?_
  refine kg_iconst (v := (0 : Int32)) X dX7_start_6 (by decide) ?_
  refine kg_callVi (n := 1) (As := [.int (0 : Int32)]) X (c_X7_made l C Y A I2 k0 (0 : Int32) _ hw) kc_7 h1 rfl iv_X7_made kw_769 (by decide +kernel) (by decide) rfl rfl (Nat.le_of_ble_eq_true rfl) dX7_start_7 (fun r4 I3 hw => ?_)
  refine kg_pop X dX7_start_10 rfl ?_
  exact kg_vret X hr hw dX7_start_11
end
abbrev rm_X7_cubesOf : Room := { frames := 0, cells := 0, slots := 0, locals := 0 }
section
variable {p : Program} {l : Launch} {e : Env} {s : State} {m : MethodId} {args : Array Value} {below : List Frame} {meth : Method} {c : Code} {C : Cc} {Y : Ly} {A : Nat → Prop}
def w_X7_cubesOf (Y : Ly) (I : Mm) (k0 : Nat) (v1 : Int32) (post : Int32 → Mm → Prop) : Prop := (ky_is Y k0 7 ∧ (ky_is Y (ky_rp Y k0 3) 8 ∧ (vp_in v1 (ky_ln Y (ky_rp Y k0 3)) ∧ post ((1 : Int32) <<< ((I (ky_rp Y k0 3) v1.toNatClampNeg) &&& 31)) I)))
set_option maxHeartbeats 4000000 in
set_option maxRecDepth 100000 in
theorem c_X7_cubesOf (l : Launch) (C : Cc) (Y : Ly) (A : Nat → Prop) (I : Mm) (k0 : Nat) (v1 : Int32) (post : Int32 → Mm → Prop) (hw : w_X7_cubesOf Y I k0 v1 post) : ky_MI l yX7_cubesOf cX7_cubesOf 2 (some .int) rm_X7_cubesOf C Y A I [.ref (Y.2.1 k0), .int v1] post := by
  refine ky_met (by decide) (Nat.le_of_ble_eq_true rfl) ?_
  intro p e s m args below meth c X hr
  have X : ky_X p s m args meth c C cX7_cubesOf 2 RX7 := X
  show ky_G p l e rm_X7_cubesOf s m args below meth c C Y A 2 (MQ below (va_Qi post (ky_B C Y A) A) args s 0 0 A) 0 [(0, .ref (Y.2.1 k0)), (1, .int v1)] [] I
  refine kg_iconst (v := (1 : Int32)) X dX7_cubesOf_0 (by decide) ?_
  refine kg_aload_n X 0 dX7_cubesOf_1 rfl rfl ?_
  obtain ⟨h1, hw⟩ := hw
  refine kg_getR (j := 3) X kc_7 h1 (by decide) (by decide) rfl kw_643 dX7_cubesOf_2 ?_
  refine kg_iload_n X 1 dX7_cubesOf_5 rfl rfl ?_
  obtain ⟨h2, hw⟩ := hw
  obtain ⟨h3, hw⟩ := hw
  refine kg_iald X h2 h3 dX7_cubesOf_6 ?_
  refine kg_ishl X dX7_cubesOf_7 ?_
  exact kg_iret X hr hw dX7_cubesOf_8
end
abbrev rm_X7_isBefore : Room := { frames := 0, cells := 0, slots := 0, locals := 0 }
section
variable {p : Program} {l : Launch} {e : Env} {s : State} {m : MethodId} {args : Array Value} {below : List Frame} {meth : Method} {c : Code} {C : Cc} {Y : Ly} {A : Nat → Prop}
def w_X7_isBefore (Y : Ly) (I : Mm) (k0 : Nat) (v1 : Int32) (v2 : Int32) (post : Int32 → Mm → Prop) : Prop := (ky_is Y k0 7 ∧ (ky_is Y (ky_rp Y k0 17) 8 ∧ (vp_in (((16 : Int32) * v1) + v2) (ky_ln Y (ky_rp Y k0 17)) ∧ (∀ x4 : Int32, x4 = I (ky_rp Y k0 17) (((16 : Int32) * v1) + v2).toNatClampNeg → ((x4 ≤ 0 → post (0 : Int32) I) ∧ (¬ x4 ≤ 0 → (((I k0 20) ≤ x4 → post (0 : Int32) I) ∧ (¬ (I k0 20) ≤ x4 → post (1 : Int32) I))))))))
set_option maxHeartbeats 4000000 in
set_option maxRecDepth 100000 in
theorem c_X7_isBefore (l : Launch) (C : Cc) (Y : Ly) (A : Nat → Prop) (I : Mm) (k0 : Nat) (v1 : Int32) (v2 : Int32) (post : Int32 → Mm → Prop) (hw : w_X7_isBefore Y I k0 v1 v2 post) : ky_MI l yX7_isBefore cX7_isBefore 4 (some .boolean) rm_X7_isBefore C Y A I [.ref (Y.2.1 k0), .int v1, .int v2] post := by
  refine ky_met (by decide) (Nat.le_of_ble_eq_true rfl) ?_
  intro p e s m args below meth c X hr
  have X : ky_X p s m args meth c C cX7_isBefore 4 RX7 := X
  show ky_G p l e rm_X7_isBefore s m args below meth c C Y A 4 (MQ below (va_Qi post (ky_B C Y A) A) args s 0 0 A) 0 [(0, .ref (Y.2.1 k0)), (1, .int v1), (2, .int v2)] [] I
  refine kg_aload_n X 0 dX7_isBefore_0 rfl rfl ?_
  obtain ⟨h1, hw⟩ := hw
  refine kg_getR (j := 17) X kc_7 h1 (by decide) (by decide) rfl kw_657 dX7_isBefore_1 ?_
  refine kg_bipush (v := (16 : Int32)) X dX7_isBefore_4 (by decide) ?_
  refine kg_iload_n X 1 dX7_isBefore_6 rfl rfl ?_
  refine kg_imul X dX7_isBefore_7 ?_
  refine kg_iload_n X 2 dX7_isBefore_8 rfl rfl ?_
  refine kg_iadd X dX7_isBefore_9 ?_
  obtain ⟨h2, hw⟩ := hw
  obtain ⟨h3, hw⟩ := hw
  refine kg_iald X h2 h3 dX7_isBefore_10 ?_
  refine kg_topi (fun x4 ex4 => ?_)
  have hw := hw x4 ex4
  refine kg_istore_n (lv' := [(3, .int x4), (0, .ref (Y.2.1 k0)), (1, .int v1), (2, .int v2)]) X dX7_isBefore_11 rfl (by decide) rfl ?_
  refine kg_iload_n X 0 dX7_isBefore_12 rfl rfl ?_
  refine kg_if_le (tgt := 28) X dX7_isBefore_13 (by decide) (fun h6 => ?_) (fun h6 => ?_)
  · have hw := hw.1 h6
    refine kg_iconst (v := (0 : Int32)) X dX7_isBefore_28 (by decide) ?_
    exact kg_zret X hr (by decide) hw dX7_isBefore_29
  · have hw := hw.2 h6
    refine kg_iload_n X 0 dX7_isBefore_16 rfl rfl ?_
    refine kg_aload_n X 1 dX7_isBefore_17 rfl rfl ?_
    refine kg_getI (j := 20) X kc_7 h1 (by decide) (by decide) rfl kw_660 dX7_isBefore_18 ?_
    refine kg_icmp_ge (tgt := 28) X dX7_isBefore_21 (by decide) (fun h5 => ?_) (fun h5 => ?_)
    · have hw := hw.1 h5
      refine kg_iconst (v := (0 : Int32)) X dX7_isBefore_28 (by decide) ?_
      exact kg_zret X hr (by decide) hw dX7_isBefore_29
    · have hw := hw.2 h5
      refine kg_iconst (v := (1 : Int32)) X dX7_isBefore_24 (by decide) ?_
      refine kg_goto (tgt := 29) X dX7_isBefore_25 (by decide) ?_
      exact kg_zret X hr (by decide) hw dX7_isBefore_29
end
abbrev rm_X7_add : Room := { frames := 0, cells := 0, slots := 0, locals := 0 }
section
variable {p : Program} {l : Launch} {e : Env} {s : State} {m : MethodId} {args : Array Value} {below : List Frame} {meth : Method} {c : Code} {C : Cc} {Y : Ly} {A : Nat → Prop}
def w_X7_add (Y : Ly) (I : Mm) (k0 : Nat) (v1 : Int32) (v2 : Int32) (v3 : Int32) (post : Mm → Prop) : Prop := (ky_is Y k0 7 ∧ (ky_is Y (ky_rp Y k0 26) 8 ∧ (vp_in (I k0 25) (ky_ln Y (ky_rp Y k0 26)) ∧ (∀ I4 : Mm, I4 = ky_up I (ky_rp Y k0 26) (I k0 25).toNatClampNeg v2 → (ky_is Y (ky_rp Y k0 27) 8 ∧ (vp_in (I4 k0 25) (ky_ln Y (ky_rp Y k0 27)) ∧ (∀ I7 : Mm, I7 = ky_up I4 (ky_rp Y k0 27) (I4 k0 25).toNatClampNeg v1 → (ky_is Y (ky_rp Y k0 28) 8 ∧ (vp_in (I7 k0 25) (ky_ln Y (ky_rp Y k0 28)) ∧ (∀ I10 : Mm, I10 = ky_up I7 (ky_rp Y k0 28) (I7 k0 25).toNatClampNeg v3 → (∀ I11 : Mm, I11 = ky_up I10 k0 25 ((I10 k0 25) + (1 : Int32)) → post I11)))))))))))
set_option maxHeartbeats 4000000 in
set_option maxRecDepth 100000 in
theorem c_X7_add (l : Launch) (C : Cc) (Y : Ly) (A : Nat → Prop) (I : Mm) (k0 : Nat) (v1 : Int32) (v2 : Int32) (v3 : Int32) (post : Mm → Prop) (hw : w_X7_add Y I k0 v1 v2 v3 post) : ky_MV l yX7_add cX7_add 4 rm_X7_add C Y A I [.ref (Y.2.1 k0), .int v1, .int v2, .int v3] post := by
  refine ky_met (by decide) (Nat.le_of_ble_eq_true rfl) ?_
  intro p e s m args below meth c X hr
  have X : ky_X p s m args meth c C cX7_add 4 RX7 := X
  show ky_G p l e rm_X7_add s m args below meth c C Y A 4 (MQ below (va_Qv post (ky_B C Y A) A) args s 0 0 A) 0 [(0, .ref (Y.2.1 k0)), (1, .int v1), (2, .int v2), (3, .int v3)] [] I
  refine kg_aload_n X 0 dX7_add_0 rfl rfl ?_
  obtain ⟨h1, hw⟩ := hw
  refine kg_getR (j := 26) X kc_7 h1 (by decide) (by decide) rfl kw_666 dX7_add_1 ?_
  refine kg_aload_n X 0 dX7_add_4 rfl rfl ?_
  refine kg_getI (j := 25) X kc_7 h1 (by decide) (by decide) rfl kw_665 dX7_add_5 ?_
  refine kg_iload_n X 2 dX7_add_8 rfl rfl ?_
  obtain ⟨h2, hw⟩ := hw
  obtain ⟨h3, hw⟩ := hw
  refine kg_iast X h2 h3 dX7_add_9 ?_
  refine kg_topm (fun I4 eI4 => ?_)
  have hw := hw I4 eI4
  refine kg_aload_n X 0 dX7_add_10 rfl rfl ?_
  refine kg_getR (j := 27) X kc_7 h1 (by decide) (by decide) rfl kw_667 dX7_add_11 ?_
  refine kg_aload_n X 0 dX7_add_14 rfl rfl ?_
  refine kg_getI (j := 25) X kc_7 h1 (by decide) (by decide) rfl kw_665 dX7_add_15 ?_
  refine kg_iload_n X 1 dX7_add_18 rfl rfl ?_
  obtain ⟨h5, hw⟩ := hw
  obtain ⟨h6, hw⟩ := hw
  refine kg_iast X h5 h6 dX7_add_19 ?_
  refine kg_topm (fun I7 eI7 => ?_)
  have hw := hw I7 eI7
  refine kg_aload_n X 0 dX7_add_20 rfl rfl ?_
  refine kg_getR (j := 28) X kc_7 h1 (by decide) (by decide) rfl kw_668 dX7_add_21 ?_
  refine kg_aload_n X 0 dX7_add_24 rfl rfl ?_
  refine kg_getI (j := 25) X kc_7 h1 (by decide) (by decide) rfl kw_665 dX7_add_25 ?_
  refine kg_iload_n X 3 dX7_add_28 rfl rfl ?_
  obtain ⟨h8, hw⟩ := hw
  obtain ⟨h9, hw⟩ := hw
  refine kg_iast X h8 h9 dX7_add_29 ?_
  refine kg_topm (fun I10 eI10 => ?_)
  have hw := hw I10 eI10
  refine kg_aload_n X 0 dX7_add_30 rfl rfl ?_
  refine kg_dup X dX7_add_31 rfl ?_
  refine kg_getI (j := 25) X kc_7 h1 (by decide) (by decide) rfl kw_665 dX7_add_32 ?_
  refine kg_iconst (v := (1 : Int32)) X dX7_add_35 (by decide) ?_
  refine kg_iadd X dX7_add_36 ?_
  refine kg_putI (ci := 7) (Tn := TX7) (j := 25) (ty := .int) X tyX7 tyX7_ok nmX7 kc_7 h1 (by decide) (by decide) rfl kw_665 (by decide +kernel) rfl rfl dX7_add_37 ?_
  refine kg_topm (fun I11 eI11 => ?_)
  have hw := hw I11 eI11
  exact kg_vret X hr hw dX7_add_40
end
abbrev rm_X7_addBounds : Room := { frames := 1, cells := 0, slots := 0, locals := 23 }
section
variable {p : Program} {l : Launch} {e : Env} {s : State} {m : MethodId} {args : Array Value} {below : List Frame} {meth : Method} {c : Code} {C : Cc} {Y : Ly} {A : Nat → Prop}
def w_X7_addBounds_B72 (Y : Ly) (post : Mm → Prop) (rc : Nat → Int32 → Int32 → Int32 → Int32 → Mm → Prop) (ex_95 : Mm → Prop) (k0 : Nat) (v1 : Int32) (v2 : Int32) (v3 : Int32) (v4 : Int32) (v5 : Int32) (s0 : Int32) (I : Mm) : Prop := (ky_is Y k0 7 ∧ (ky_is Y (ky_rp Y k0 16) 8 ∧ (vp_in v4 (ky_ln Y (ky_rp Y k0 16)) ∧ w_X7_add Y I k0 v5 s0 (I (ky_rp Y k0 16) v4.toNatClampNeg) (fun I13 => (∀ x14 : Int32, x14 = v4 + (1 : Int32) → rc k0 v1 v2 v3 x14 I13)))))
set_option maxHeartbeats 4000000 in
set_option maxRecDepth 100000 in
theorem s_X7_addBounds_B72 (X : ky_X p s m args meth c C cX7_addBounds 7 RX7) (hr : meth.sig.returnType = none) (post : Mm → Prop) (rc : Nat → Int32 → Int32 → Int32 → Int32 → Mm → Prop) (ex_95 : Mm → Prop) (hrc : ∀ (k0 : Nat) (v1 : Int32) (v2 : Int32) (v3 : Int32) (v4 : Int32) (J : Mm), rc k0 v1 v2 v3 v4 J → ky_G p l e rm_X7_addBounds s m args below meth c C Y A 7 (MQ below (va_Qv post (ky_B C Y A) A) args s 0 0 A) 6 [(0, .ref (Y.2.1 k0)), (1, .int v1), (2, .int v2), (3, .int v3), (4, .int v4)] [] J) (hx_95 : ∀ (J : Mm), ex_95 J → ky_G p l e rm_X7_addBounds s m args below meth c C Y A 7 (MQ below (va_Qv post (ky_B C Y A) A) args s 0 0 A) 95 [] [] J) (k0 : Nat) (v1 : Int32) (v2 : Int32) (v3 : Int32) (v4 : Int32) (v5 : Int32) (s0 : Int32) (I : Mm) (hw : w_X7_addBounds_B72 Y post rc ex_95 k0 v1 v2 v3 v4 v5 s0 I) : ky_G p l e rm_X7_addBounds s m args below meth c C Y A 7 (MQ below (va_Qv post (ky_B C Y A) A) args s 0 0 A) 72 [(0, .ref (Y.2.1 k0)), (1, .int v1), (2, .int v2), (3, .int v3), (4, .int v4), (5, .int v5)] [.int s0] I := by
  refine kg_istore (lv' := [(6, .int s0), (0, .ref (Y.2.1 k0)), (1, .int v1), (2, .int v2), (3, .int v3), (4, .int v4), (5, .int v5)]) X dX7_addBounds_72 (by decide) rfl ?_
  refine kg_aload_n X 1 dX7_addBounds_74 rfl rfl ?_
  refine kg_iload X 6 dX7_addBounds_75 rfl ?_
  refine kg_iload X 0 dX7_addBounds_77 rfl ?_
  refine kg_aload_n X 1 dX7_addBounds_79 rfl rfl ?_
  obtain ⟨h10, hw⟩ := hw
  refine kg_getR (j := 16) X kc_7 h10 (by decide) (by decide) rfl kw_656 dX7_addBounds_80 ?_
  refine kg_iload X 5 dX7_addBounds_83 rfl ?_
  obtain ⟨h11, hw⟩ := hw
  obtain ⟨h12, hw⟩ := hw
  refine kg_iald X h11 h12 dX7_addBounds_85 ?_
  refine kg_callVv (n := 3) (As := [.int v5, .int s0, .int (I (ky_rp Y k0 16) v4.toNatClampNeg)]) X (c_X7_add l C Y A I k0 v5 s0 (I (ky_rp Y k0 16) v4.toNatClampNeg) _ hw) kc_7 h10 rfl iv_X7_add kw_849 (by decide +kernel) (by decide) rfl rfl (Nat.le_of_ble_eq_true rfl) dX7_addBounds_86 (fun I13 hw => ?_)
  refine kg_iinc (dd := (1 : Int32)) (lvf := fun x14 => [(4, .int x14), (6, .int s0), (0, .ref (Y.2.1 k0)), (1, .int v1), (2, .int v2), (3, .int v3), (5, .int v5)]) X 5 dX7_addBounds_89 rfl (by decide) (by decide) (fun _ => rfl) (fun x14 ex14 => ?_)
  have hw := hw x14 ex14
  refine kg_goto (tgt := 6) X dX7_addBounds_92 (by decide) ?_
  refine kg_sub [2, 3, 4, 5, 0] rfl ?_
  exact hrc _ _ _ _ _ _  hw
def w_X7_addBounds_B46 (Y : Ly) (post : Mm → Prop) (rc : Nat → Int32 → Int32 → Int32 → Int32 → Mm → Prop) (ex_95 : Mm → Prop) (k0 : Nat) (v1 : Int32) (v2 : Int32) (v3 : Int32) (v4 : Int32) (s0 : Int32) (I : Mm) : Prop := (ky_is Y k0 7 ∧ (ky_is Y (ky_rp Y k0 15) 8 ∧ (vp_in v4 (ky_ln Y (ky_rp Y k0 15)) ∧ ((¬ (I (ky_rp Y k0 15) v4.toNatClampNeg) = (5 : Int32) → w_X7_addBounds_B72 Y post rc ex_95 k0 v1 v2 v3 v4 s0 (v2 + (I (ky_rp Y k0 15) v4.toNatClampNeg)) I) ∧ ((I (ky_rp Y k0 15) v4.toNatClampNeg) = (5 : Int32) → w_X7_addBounds_B72 Y post rc ex_95 k0 v1 v2 v3 v4 s0 v3 I)))))
set_option maxHeartbeats 4000000 in
set_option maxRecDepth 100000 in
theorem s_X7_addBounds_B46 (X : ky_X p s m args meth c C cX7_addBounds 7 RX7) (hr : meth.sig.returnType = none) (post : Mm → Prop) (rc : Nat → Int32 → Int32 → Int32 → Int32 → Mm → Prop) (ex_95 : Mm → Prop) (hrc : ∀ (k0 : Nat) (v1 : Int32) (v2 : Int32) (v3 : Int32) (v4 : Int32) (J : Mm), rc k0 v1 v2 v3 v4 J → ky_G p l e rm_X7_addBounds s m args below meth c C Y A 7 (MQ below (va_Qv post (ky_B C Y A) A) args s 0 0 A) 6 [(0, .ref (Y.2.1 k0)), (1, .int v1), (2, .int v2), (3, .int v3), (4, .int v4)] [] J) (hx_95 : ∀ (J : Mm), ex_95 J → ky_G p l e rm_X7_addBounds s m args below meth c C Y A 7 (MQ below (va_Qv post (ky_B C Y A) A) args s 0 0 A) 95 [] [] J) (k0 : Nat) (v1 : Int32) (v2 : Int32) (v3 : Int32) (v4 : Int32) (s0 : Int32) (I : Mm) (hw : w_X7_addBounds_B46 Y post rc ex_95 k0 v1 v2 v3 v4 s0 I) : ky_G p l e rm_X7_addBounds s m args below meth c C Y A 7 (MQ below (va_Qv post (ky_B C Y A) A) args s 0 0 A) 46 [(0, .ref (Y.2.1 k0)), (1, .int v1), (2, .int v2), (3, .int v3), (4, .int v4)] [.int s0] I := by
  refine kg_istore (lv' := [(5, .int s0), (0, .ref (Y.2.1 k0)), (1, .int v1), (2, .int v2), (3, .int v3), (4, .int v4)]) X dX7_addBounds_46 (by decide) rfl ?_
  refine kg_aload_n X 1 dX7_addBounds_48 rfl rfl ?_
  obtain ⟨h7, hw⟩ := hw
  refine kg_getR (j := 15) X kc_7 h7 (by decide) (by decide) rfl kw_655 dX7_addBounds_49 ?_
  refine kg_iload X 5 dX7_addBounds_52 rfl ?_
  obtain ⟨h8, hw⟩ := hw
  obtain ⟨h9, hw⟩ := hw
  refine kg_iald X h8 h9 dX7_addBounds_54 ?_
  refine kg_iconst (v := (5 : Int32)) X dX7_addBounds_55 (by decide) ?_
  refine kg_icmp_ne (tgt := 63) X dX7_addBounds_56 (by decide) (fun h15 => ?_) (fun h15 => ?_)
  · have hw := hw.1 h15
    refine kg_iload_n X 3 dX7_addBounds_63 rfl rfl ?_
    refine kg_aload_n X 1 dX7_addBounds_64 rfl rfl ?_
    refine kg_getR (j := 15) X kc_7 h7 (by decide) (by decide) rfl kw_655 dX7_addBounds_65 ?_
    refine kg_iload X 5 dX7_addBounds_68 rfl ?_
    refine kg_iald X h8 h9 dX7_addBounds_70 ?_
    refine kg_iadd X dX7_addBounds_71 ?_
    refine kg_sub [1, 2, 3, 4, 5, 0] rfl ?_
    exact s_X7_addBounds_B72 X hr post _ _ hrc hx_95 _ _ _ _ _ _ _ _ hw
  · have hw := hw.2 h15
    refine kg_iload_n X 4 dX7_addBounds_59 rfl rfl ?_
    refine kg_goto (tgt := 72) X dX7_addBounds_60 (by decide) ?_
    refine kg_sub [1, 2, 3, 4, 5, 0] rfl ?_
    exact s_X7_addBounds_B72 X hr post _ _ hrc hx_95 _ _ _ _ _ _ _ _ hw
def w_X7_addBounds_L6 (Y : Ly) (post : Mm → Prop) (ex_95 : Mm → Prop) : Nat → Nat → Int32 → Int32 → Int32 → Int32 → Mm → Prop
  | 0, _, _, _, _, _, _ => False
  | n6 + 1, k0, v1, v2, v3, v4, I => (ky_is Y k0 7 ∧ (ky_is Y (ky_rp Y k0 13) 8 ∧ (vp_in v1 (ky_ln Y (ky_rp Y k0 13)) ∧ (((((8 : Int32) * v1) + (I (ky_rp Y k0 13) v1.toNatClampNeg)) ≤ v4 → ex_95 I) ∧ (¬ (((8 : Int32) * v1) + (I (ky_rp Y k0 13) v1.toNatClampNeg)) ≤ v4 → (ky_is Y (ky_rp Y k0 14) 8 ∧ (vp_in v4 (ky_ln Y (ky_rp Y k0 14)) ∧ ((¬ (I (ky_rp Y k0 14) v4.toNatClampNeg) = (5 : Int32) → w_X7_addBounds_B46 Y post (fun k0 v1 v2 v3 v4 J => w_X7_addBounds_L6 Y post ex_95 n6 k0 v1 v2 v3 v4 J) ex_95 k0 v1 v2 v3 v4 (v2 + (I (ky_rp Y k0 14) v4.toNatClampNeg)) I) ∧ ((I (ky_rp Y k0 14) v4.toNatClampNeg) = (5 : Int32) → w_X7_addBounds_B46 Y post (fun k0 v1 v2 v3 v4 J => w_X7_addBounds_L6 Y post ex_95 n6 k0 v1 v2 v3 v4 J) ex_95 k0 v1 v2 v3 v4 v3 I)))))))))
set_option maxHeartbeats 4000000 in
set_option maxRecDepth 100000 in
theorem s_X7_addBounds_L6 (X : ky_X p s m args meth c C cX7_addBounds 7 RX7) (hr : meth.sig.returnType = none) (post : Mm → Prop) (ex_95 : Mm → Prop) (hx_95 : ∀ (J : Mm), ex_95 J → ky_G p l e rm_X7_addBounds s m args below meth c C Y A 7 (MQ below (va_Qv post (ky_B C Y A) A) args s 0 0 A) 95 [] [] J) : ∀ (n6 : Nat) (k0 : Nat) (v1 : Int32) (v2 : Int32) (v3 : Int32) (v4 : Int32) (I : Mm), w_X7_addBounds_L6 Y post ex_95 n6 k0 v1 v2 v3 v4 I → ky_G p l e rm_X7_addBounds s m args below meth c C Y A 7 (MQ below (va_Qv post (ky_B C Y A) A) args s 0 0 A) 6 [(0, .ref (Y.2.1 k0)), (1, .int v1), (2, .int v2), (3, .int v3), (4, .int v4)] [] I := by
  intro n6
  induction n6 with
  | zero => intro k0 v1 v2 v3 v4 I hw; exact False.elim hw
  | succ n6 ih =>
    intro k0 v1 v2 v3 v4 I hw
    refine kg_iload X 4 dX7_addBounds_6 rfl ?_
    refine kg_bipush (v := (8 : Int32)) X dX7_addBounds_8 (by decide) ?_
    refine kg_iload_n X 1 dX7_addBounds_10 rfl rfl ?_
    refine kg_imul X dX7_addBounds_11 ?_
    refine kg_aload_n X 0 dX7_addBounds_12 rfl rfl ?_
    obtain ⟨h2, hw⟩ := hw
    refine kg_getR (j := 13) X kc_7 h2 (by decide) (by decide) rfl kw_653 dX7_addBounds_13 ?_
    refine kg_iload_n X 1 dX7_addBounds_16 rfl rfl ?_
    obtain ⟨h3, hw⟩ := hw
    obtain ⟨h4, hw⟩ := hw
    refine kg_iald X h3 h4 dX7_addBounds_17 ?_
    refine kg_iadd X dX7_addBounds_18 ?_
    refine kg_icmp_ge (tgt := 95) X dX7_addBounds_19 (by decide) (fun h17 => ?_) (fun h17 => ?_)
    · have hw := hw.1 h17
      refine kg_sub [] rfl ?_
      exact hx_95 _  hw
    · have hw := hw.2 h17
      refine kg_aload_n X 0 dX7_addBounds_22 rfl rfl ?_
      refine kg_getR (j := 14) X kc_7 h2 (by decide) (by decide) rfl kw_654 dX7_addBounds_23 ?_
      refine kg_iload X 4 dX7_addBounds_26 rfl ?_
      obtain ⟨h5, hw⟩ := hw
      obtain ⟨h6, hw⟩ := hw
      refine kg_iald X h5 h6 dX7_addBounds_28 ?_
      refine kg_iconst (v := (5 : Int32)) X dX7_addBounds_29 (by decide) ?_
      refine kg_icmp_ne (tgt := 37) X dX7_addBounds_30 (by decide) (fun h16 => ?_) (fun h16 => ?_)
      · have hw := hw.1 h16
        refine kg_iload_n X 2 dX7_addBounds_37 rfl rfl ?_
        refine kg_aload_n X 0 dX7_addBounds_38 rfl rfl ?_
        refine kg_getR (j := 14) X kc_7 h2 (by decide) (by decide) rfl kw_654 dX7_addBounds_39 ?_
        refine kg_iload X 4 dX7_addBounds_42 rfl ?_
        refine kg_iald X h5 h6 dX7_addBounds_44 ?_
        refine kg_iadd X dX7_addBounds_45 ?_
        refine kg_sub [0, 1, 2, 3, 4] rfl ?_
        exact s_X7_addBounds_B46 X hr post _ _ ih hx_95 _ _ _ _ _ _ _ hw
      · have hw := hw.2 h16
        refine kg_iload_n X 3 dX7_addBounds_33 rfl rfl ?_
        refine kg_goto (tgt := 46) X dX7_addBounds_34 (by decide) ?_
        refine kg_sub [0, 1, 2, 3, 4] rfl ?_
        exact s_X7_addBounds_B46 X hr post _ _ ih hx_95 _ _ _ _ _ _ _ hw
def w_X7_addBounds (Y : Ly) (I : Mm) (k0 : Nat) (v1 : Int32) (v2 : Int32) (v3 : Int32) (post : Mm → Prop) : Prop := (∀ x1 : Int32, x1 = (8 : Int32) * v1 → (∃ n6 : Nat, w_X7_addBounds_L6 Y post (fun I18 => post I18) n6 k0 v1 v2 v3 x1 I))
set_option maxHeartbeats 4000000 in
set_option maxRecDepth 100000 in
theorem c_X7_addBounds (l : Launch) (C : Cc) (Y : Ly) (A : Nat → Prop) (I : Mm) (k0 : Nat) (v1 : Int32) (v2 : Int32) (v3 : Int32) (post : Mm → Prop) (hw : w_X7_addBounds Y I k0 v1 v2 v3 post) : ky_MV l yX7_addBounds cX7_addBounds 7 rm_X7_addBounds C Y A I [.ref (Y.2.1 k0), .int v1, .int v2, .int v3] post := by
  refine ky_met (by decide) (Nat.le_of_ble_eq_true rfl) ?_
  intro p e s m args below meth c X hr
  have X : ky_X p s m args meth c C cX7_addBounds 7 RX7 := X
  show ky_G p l e rm_X7_addBounds s m args below meth c C Y A 7 (MQ below (va_Qv post (ky_B C Y A) A) args s 0 0 A) 0 [(0, .ref (Y.2.1 k0)), (1, .int v1), (2, .int v2), (3, .int v3)] [] I
  refine kg_bipush (v := (8 : Int32)) X dX7_addBounds_0 (by decide) ?_
  refine kg_iload_n X 1 dX7_addBounds_2 rfl rfl ?_
  refine kg_imul X dX7_addBounds_3 ?_
  refine kg_topi (fun x1 ex1 => ?_)
  have hw := hw x1 ex1
  refine kg_istore (lv' := [(4, .int x1), (0, .ref (Y.2.1 k0)), (1, .int v1), (2, .int v2), (3, .int v3)]) X dX7_addBounds_4 (by decide) rfl ?_
  obtain ⟨n6, hw⟩ := hw
  refine kg_sub [1, 2, 3, 4, 0] rfl ?_
  refine s_X7_addBounds_L6 X hr post _ ?_ n6 _ _ _ _ _ _  hw
  · intro I18 hw
    exact kg_vret X hr hw dX7_addBounds_95
end
abbrev rm_X7_addCube : Room := { frames := 1, cells := 0, slots := 0, locals := 23 }
section
variable {p : Program} {l : Launch} {e : Env} {s : State} {m : MethodId} {args : Array Value} {below : List Frame} {meth : Method} {c : Code} {C : Cc} {Y : Ly} {A : Nat → Prop}
def w_X7_addCube_B88 (Y : Ly) (post : Mm → Prop) (rc : Nat → Int32 → Int32 → Int32 → Int32 → Int32 → Int32 → Mm → Prop) (ex_142 : Mm → Prop) (k0 : Nat) (v1 : Int32) (v2 : Int32) (v3 : Int32) (v4 : Int32) (v5 : Int32) (v6 : Int32) (v7 : Int32) (v8 : Int32) (s0 : Int32) (I : Mm) : Prop := ((¬ ((v2 >>> (v6 &&& 31)) &&& (1 : Int32)) = (1 : Int32) → (ky_is Y k0 7 ∧ (ky_is Y (ky_rp Y k0 6) 8 ∧ (vp_in v7 (ky_ln Y (ky_rp Y k0 6)) ∧ w_X7_add Y I k0 s0 v8 ((-(I (ky_rp Y k0 6) v7.toNatClampNeg)) - (1 : Int32)) (fun I13 => (∀ x14 : Int32, x14 = v6 + (1 : Int32) → rc k0 v1 v2 v3 v4 v5 x14 I13)))))) ∧ (((v2 >>> (v6 &&& 31)) &&& (1 : Int32)) = (1 : Int32) → (ky_is Y k0 7 ∧ (ky_is Y (ky_rp Y k0 6) 8 ∧ (vp_in v7 (ky_ln Y (ky_rp Y k0 6)) ∧ w_X7_add Y I k0 v8 s0 (I (ky_rp Y k0 6) v7.toNatClampNeg) (fun I18 => (∀ x19 : Int32, x19 = v6 + (1 : Int32) → rc k0 v1 v2 v3 v4 v5 x19 I18)))))))
set_option maxHeartbeats 4000000 in
set_option maxRecDepth 100000 in
theorem s_X7_addCube_B88 (X : ky_X p s m args meth c C cX7_addCube 10 RX7) (hr : meth.sig.returnType = none) (post : Mm → Prop) (rc : Nat → Int32 → Int32 → Int32 → Int32 → Int32 → Int32 → Mm → Prop) (ex_142 : Mm → Prop) (hrc : ∀ (k0 : Nat) (v1 : Int32) (v2 : Int32) (v3 : Int32) (v4 : Int32) (v5 : Int32) (v6 : Int32) (J : Mm), rc k0 v1 v2 v3 v4 v5 v6 J → ky_G p l e rm_X7_addCube s m args below meth c C Y A 10 (MQ below (va_Qv post (ky_B C Y A) A) args s 0 0 A) 3 [(0, .ref (Y.2.1 k0)), (1, .int v1), (2, .int v2), (3, .int v3), (4, .int v4), (5, .int v5), (6, .int v6)] [] J) (hx_142 : ∀ (J : Mm), ex_142 J → ky_G p l e rm_X7_addCube s m args below meth c C Y A 10 (MQ below (va_Qv post (ky_B C Y A) A) args s 0 0 A) 142 [] [] J) (k0 : Nat) (v1 : Int32) (v2 : Int32) (v3 : Int32) (v4 : Int32) (v5 : Int32) (v6 : Int32) (v7 : Int32) (v8 : Int32) (s0 : Int32) (I : Mm) (hw : w_X7_addCube_B88 Y post rc ex_142 k0 v1 v2 v3 v4 v5 v6 v7 v8 s0 I) : ky_G p l e rm_X7_addCube s m args below meth c C Y A 10 (MQ below (va_Qv post (ky_B C Y A) A) args s 0 0 A) 88 [(0, .ref (Y.2.1 k0)), (1, .int v1), (2, .int v2), (3, .int v3), (4, .int v4), (5, .int v5), (6, .int v6), (7, .int v7), (8, .int v8)] [.int s0] I := by
  refine kg_istore (lv' := [(9, .int s0), (0, .ref (Y.2.1 k0)), (1, .int v1), (2, .int v2), (3, .int v3), (4, .int v4), (5, .int v5), (6, .int v6), (7, .int v7), (8, .int v8)]) X dX7_addCube_88 (by decide) rfl ?_
  refine kg_iload_n X 3 dX7_addCube_90 rfl rfl ?_
  refine kg_iload X 7 dX7_addCube_91 rfl ?_
  refine kg_ishr X dX7_addCube_93 ?_
  refine kg_iconst (v := (1 : Int32)) X dX7_addCube_94 (by decide) ?_
  refine kg_iand X dX7_addCube_95 ?_
  refine kg_iconst (v := (1 : Int32)) X dX7_addCube_96 (by decide) ?_
  refine kg_icmp_ne (tgt := 118) X dX7_addCube_97 (by decide) (fun h20 => ?_) (fun h20 => ?_)
  · have hw := hw.1 h20
    refine kg_aload_n X 1 dX7_addCube_118 rfl rfl ?_
    refine kg_iload X 0 dX7_addCube_119 rfl ?_
    refine kg_iload X 9 dX7_addCube_121 rfl ?_
    refine kg_aload_n X 1 dX7_addCube_123 rfl rfl ?_
    obtain ⟨h10, hw⟩ := hw
    refine kg_getR (j := 6) X kc_7 h10 (by decide) (by decide) rfl kw_646 dX7_addCube_124 ?_
    refine kg_iload X 8 dX7_addCube_127 rfl ?_
    obtain ⟨h11, hw⟩ := hw
    obtain ⟨h12, hw⟩ := hw
    refine kg_iald X h11 h12 dX7_addCube_129 ?_
    refine kg_ineg X dX7_addCube_130 ?_
    refine kg_iconst (v := (1 : Int32)) X dX7_addCube_131 (by decide) ?_
    refine kg_isub X dX7_addCube_132 ?_
    refine kg_callVv (n := 3) (As := [.int s0, .int v8, .int ((-(I (ky_rp Y k0 6) v7.toNatClampNeg)) - (1 : Int32))]) X (c_X7_add l C Y A I k0 s0 v8 ((-(I (ky_rp Y k0 6) v7.toNatClampNeg)) - (1 : Int32)) _ hw) kc_7 h10 rfl iv_X7_add kw_849 (by decide +kernel) (by decide) rfl rfl (Nat.le_of_ble_eq_true rfl) dX7_addCube_133 (fun I13 hw => ?_)
    refine kg_iinc (dd := (1 : Int32)) (lvf := fun x14 => [(6, .int x14), (9, .int s0), (0, .ref (Y.2.1 k0)), (1, .int v1), (2, .int v2), (3, .int v3), (4, .int v4), (5, .int v5), (7, .int v7), (8, .int v8)]) X 7 dX7_addCube_136 rfl (by decide) (by decide) (fun _ => rfl) (fun x14 ex14 => ?_)
    have hw := hw x14 ex14
    refine kg_goto (tgt := 3) X dX7_addCube_139 (by decide) ?_
    refine kg_sub [2, 3, 4, 5, 6, 7, 0] rfl ?_
    exact hrc _ _ _ _ _ _ _ _  hw
  · have hw := hw.2 h20
    refine kg_aload_n X 1 dX7_addCube_100 rfl rfl ?_
    refine kg_iload X 9 dX7_addCube_101 rfl ?_
    refine kg_iload X 0 dX7_addCube_103 rfl ?_
    refine kg_aload_n X 1 dX7_addCube_105 rfl rfl ?_
    obtain ⟨h15, hw⟩ := hw
    refine kg_getR (j := 6) X kc_7 h15 (by decide) (by decide) rfl kw_646 dX7_addCube_106 ?_
    refine kg_iload X 8 dX7_addCube_109 rfl ?_
    obtain ⟨h16, hw⟩ := hw
    obtain ⟨h17, hw⟩ := hw
    refine kg_iald X h16 h17 dX7_addCube_111 ?_
    refine kg_callVv (n := 3) (As := [.int v8, .int s0, .int (I (ky_rp Y k0 6) v7.toNatClampNeg)]) X (c_X7_add l C Y A I k0 v8 s0 (I (ky_rp Y k0 6) v7.toNatClampNeg) _ hw) kc_7 h15 rfl iv_X7_add kw_849 (by decide +kernel) (by decide) rfl rfl (Nat.le_of_ble_eq_true rfl) dX7_addCube_112 (fun I18 hw => ?_)
    refine kg_goto (tgt := 136) X dX7_addCube_115 (by decide) ?_
    refine kg_iinc (dd := (1 : Int32)) (lvf := fun x19 => [(6, .int x19), (9, .int s0), (0, .ref (Y.2.1 k0)), (1, .int v1), (2, .int v2), (3, .int v3), (4, .int v4), (5, .int v5), (7, .int v7), (8, .int v8)]) X 7 dX7_addCube_136 rfl (by decide) (by decide) (fun _ => rfl) (fun x19 ex19 => ?_)
    have hw := hw x19 ex19
    refine kg_goto (tgt := 3) X dX7_addCube_139 (by decide) ?_
    refine kg_sub [2, 3, 4, 5, 6, 7, 0] rfl ?_
    exact hrc _ _ _ _ _ _ _ _  hw
def w_X7_addCube_B54 (Y : Ly) (post : Mm → Prop) (rc : Nat → Int32 → Int32 → Int32 → Int32 → Int32 → Int32 → Mm → Prop) (ex_142 : Mm → Prop) (k0 : Nat) (v1 : Int32) (v2 : Int32) (v3 : Int32) (v4 : Int32) (v5 : Int32) (v6 : Int32) (v7 : Int32) (s0 : Int32) (I : Mm) : Prop := (ky_is Y k0 7 ∧ (ky_is Y (ky_rp Y k0 5) 8 ∧ (vp_in v7 (ky_ln Y (ky_rp Y k0 5)) ∧ ((¬ (I (ky_rp Y k0 5) v7.toNatClampNeg) = 0 → ((¬ (I (ky_rp Y k0 5) v7.toNatClampNeg) = (1 : Int32) → w_X7_addCube_B88 Y post rc ex_142 k0 v1 v2 v3 v4 v5 v6 v7 s0 v5 I) ∧ ((I (ky_rp Y k0 5) v7.toNatClampNeg) = (1 : Int32) → w_X7_addCube_B88 Y post rc ex_142 k0 v1 v2 v3 v4 v5 v6 v7 s0 v4 I))) ∧ ((I (ky_rp Y k0 5) v7.toNatClampNeg) = 0 → w_X7_addCube_B88 Y post rc ex_142 k0 v1 v2 v3 v4 v5 v6 v7 s0 v3 I)))))
set_option maxHeartbeats 4000000 in
set_option maxRecDepth 100000 in
theorem s_X7_addCube_B54 (X : ky_X p s m args meth c C cX7_addCube 10 RX7) (hr : meth.sig.returnType = none) (post : Mm → Prop) (rc : Nat → Int32 → Int32 → Int32 → Int32 → Int32 → Int32 → Mm → Prop) (ex_142 : Mm → Prop) (hrc : ∀ (k0 : Nat) (v1 : Int32) (v2 : Int32) (v3 : Int32) (v4 : Int32) (v5 : Int32) (v6 : Int32) (J : Mm), rc k0 v1 v2 v3 v4 v5 v6 J → ky_G p l e rm_X7_addCube s m args below meth c C Y A 10 (MQ below (va_Qv post (ky_B C Y A) A) args s 0 0 A) 3 [(0, .ref (Y.2.1 k0)), (1, .int v1), (2, .int v2), (3, .int v3), (4, .int v4), (5, .int v5), (6, .int v6)] [] J) (hx_142 : ∀ (J : Mm), ex_142 J → ky_G p l e rm_X7_addCube s m args below meth c C Y A 10 (MQ below (va_Qv post (ky_B C Y A) A) args s 0 0 A) 142 [] [] J) (k0 : Nat) (v1 : Int32) (v2 : Int32) (v3 : Int32) (v4 : Int32) (v5 : Int32) (v6 : Int32) (v7 : Int32) (s0 : Int32) (I : Mm) (hw : w_X7_addCube_B54 Y post rc ex_142 k0 v1 v2 v3 v4 v5 v6 v7 s0 I) : ky_G p l e rm_X7_addCube s m args below meth c C Y A 10 (MQ below (va_Qv post (ky_B C Y A) A) args s 0 0 A) 54 [(0, .ref (Y.2.1 k0)), (1, .int v1), (2, .int v2), (3, .int v3), (4, .int v4), (5, .int v5), (6, .int v6), (7, .int v7)] [.int s0] I := by
  refine kg_istore (lv' := [(8, .int s0), (0, .ref (Y.2.1 k0)), (1, .int v1), (2, .int v2), (3, .int v3), (4, .int v4), (5, .int v5), (6, .int v6), (7, .int v7)]) X dX7_addCube_54 (by decide) rfl ?_
  refine kg_aload_n X 1 dX7_addCube_56 rfl rfl ?_
  obtain ⟨h7, hw⟩ := hw
  refine kg_getR (j := 5) X kc_7 h7 (by decide) (by decide) rfl kw_645 dX7_addCube_57 ?_
  refine kg_iload X 8 dX7_addCube_60 rfl ?_
  obtain ⟨h8, hw⟩ := hw
  obtain ⟨h9, hw⟩ := hw
  refine kg_iald X h8 h9 dX7_addCube_62 ?_
  refine kg_if_ne (tgt := 70) X dX7_addCube_63 (by decide) (fun h22 => ?_) (fun h22 => ?_)
  · have hw := hw.1 h22
    refine kg_aload_n X 1 dX7_addCube_70 rfl rfl ?_
    refine kg_getR (j := 5) X kc_7 h7 (by decide) (by decide) rfl kw_645 dX7_addCube_71 ?_
    refine kg_iload X 8 dX7_addCube_74 rfl ?_
    refine kg_iald X h8 h9 dX7_addCube_76 ?_
    refine kg_iconst (v := (1 : Int32)) X dX7_addCube_77 (by decide) ?_
    refine kg_icmp_ne (tgt := 86) X dX7_addCube_78 (by decide) (fun h21 => ?_) (fun h21 => ?_)
    · have hw := hw.1 h21
      refine kg_iload X 6 dX7_addCube_86 rfl ?_
      refine kg_sub [1, 2, 3, 4, 5, 6, 7, 8, 0] rfl ?_
      exact s_X7_addCube_B88 X hr post _ _ hrc hx_142 _ _ _ _ _ _ _ _ _ _ _ hw
    · have hw := hw.2 h21
      refine kg_iload X 5 dX7_addCube_81 rfl ?_
      refine kg_goto (tgt := 88) X dX7_addCube_83 (by decide) ?_
      refine kg_sub [1, 2, 3, 4, 5, 6, 7, 8, 0] rfl ?_
      exact s_X7_addCube_B88 X hr post _ _ hrc hx_142 _ _ _ _ _ _ _ _ _ _ _ hw
  · have hw := hw.2 h22
    refine kg_iload_n X 4 dX7_addCube_66 rfl rfl ?_
    refine kg_goto (tgt := 88) X dX7_addCube_67 (by decide) ?_
    refine kg_sub [1, 2, 3, 4, 5, 6, 7, 8, 0] rfl ?_
    exact s_X7_addCube_B88 X hr post _ _ hrc hx_142 _ _ _ _ _ _ _ _ _ _ _ hw
def w_X7_addCube_L3 (Y : Ly) (post : Mm → Prop) (ex_142 : Mm → Prop) : Nat → Nat → Int32 → Int32 → Int32 → Int32 → Int32 → Int32 → Mm → Prop
  | 0, _, _, _, _, _, _, _, _ => False
  | n3 + 1, k0, v1, v2, v3, v4, v5, v6, I => (ky_is Y k0 7 ∧ (ky_is Y (ky_rp Y k0 3) 8 ∧ (vp_in v1 (ky_ln Y (ky_rp Y k0 3)) ∧ (((I (ky_rp Y k0 3) v1.toNatClampNeg) ≤ v6 → ex_142 I) ∧ (¬ (I (ky_rp Y k0 3) v1.toNatClampNeg) ≤ v6 → (∀ x4 : Int32, x4 = ((4 : Int32) * v1) + v6 → (ky_is Y (ky_rp Y k0 4) 8 ∧ (vp_in x4 (ky_ln Y (ky_rp Y k0 4)) ∧ ((¬ (I (ky_rp Y k0 4) x4.toNatClampNeg) = 0 → ((¬ (I (ky_rp Y k0 4) x4.toNatClampNeg) = (1 : Int32) → w_X7_addCube_B54 Y post (fun k0 v1 v2 v3 v4 v5 v6 J => w_X7_addCube_L3 Y post ex_142 n3 k0 v1 v2 v3 v4 v5 v6 J) ex_142 k0 v1 v2 v3 v4 v5 v6 x4 v5 I) ∧ ((I (ky_rp Y k0 4) x4.toNatClampNeg) = (1 : Int32) → w_X7_addCube_B54 Y post (fun k0 v1 v2 v3 v4 v5 v6 J => w_X7_addCube_L3 Y post ex_142 n3 k0 v1 v2 v3 v4 v5 v6 J) ex_142 k0 v1 v2 v3 v4 v5 v6 x4 v4 I))) ∧ ((I (ky_rp Y k0 4) x4.toNatClampNeg) = 0 → w_X7_addCube_B54 Y post (fun k0 v1 v2 v3 v4 v5 v6 J => w_X7_addCube_L3 Y post ex_142 n3 k0 v1 v2 v3 v4 v5 v6 J) ex_142 k0 v1 v2 v3 v4 v5 v6 x4 v3 I))))))))))
set_option maxHeartbeats 4000000 in
set_option maxRecDepth 100000 in
theorem s_X7_addCube_L3 (X : ky_X p s m args meth c C cX7_addCube 10 RX7) (hr : meth.sig.returnType = none) (post : Mm → Prop) (ex_142 : Mm → Prop) (hx_142 : ∀ (J : Mm), ex_142 J → ky_G p l e rm_X7_addCube s m args below meth c C Y A 10 (MQ below (va_Qv post (ky_B C Y A) A) args s 0 0 A) 142 [] [] J) : ∀ (n3 : Nat) (k0 : Nat) (v1 : Int32) (v2 : Int32) (v3 : Int32) (v4 : Int32) (v5 : Int32) (v6 : Int32) (I : Mm), w_X7_addCube_L3 Y post ex_142 n3 k0 v1 v2 v3 v4 v5 v6 I → ky_G p l e rm_X7_addCube s m args below meth c C Y A 10 (MQ below (va_Qv post (ky_B C Y A) A) args s 0 0 A) 3 [(0, .ref (Y.2.1 k0)), (1, .int v1), (2, .int v2), (3, .int v3), (4, .int v4), (5, .int v5), (6, .int v6)] [] I := by
  intro n3
  induction n3 with
  | zero => intro k0 v1 v2 v3 v4 v5 v6 I hw; exact False.elim hw
  | succ n3 ih =>
    intro k0 v1 v2 v3 v4 v5 v6 I hw
    refine kg_iload X 6 dX7_addCube_3 rfl ?_
    refine kg_aload_n X 0 dX7_addCube_5 rfl rfl ?_
    obtain ⟨h1, hw⟩ := hw
    refine kg_getR (j := 3) X kc_7 h1 (by decide) (by decide) rfl kw_643 dX7_addCube_6 ?_
    refine kg_iload_n X 1 dX7_addCube_9 rfl rfl ?_
    obtain ⟨h2, hw⟩ := hw
    obtain ⟨h3, hw⟩ := hw
    refine kg_iald X h2 h3 dX7_addCube_10 ?_
    refine kg_icmp_ge (tgt := 142) X dX7_addCube_11 (by decide) (fun h25 => ?_) (fun h25 => ?_)
    · have hw := hw.1 h25
      refine kg_sub [] rfl ?_
      exact hx_142 _  hw
    · have hw := hw.2 h25
      refine kg_iconst (v := (4 : Int32)) X dX7_addCube_14 (by decide) ?_
      refine kg_iload_n X 1 dX7_addCube_15 rfl rfl ?_
      refine kg_imul X dX7_addCube_16 ?_
      refine kg_iload X 6 dX7_addCube_17 rfl ?_
      refine kg_iadd X dX7_addCube_19 ?_
      refine kg_topi (fun x4 ex4 => ?_)
      have hw := hw x4 ex4
      refine kg_istore (lv' := [(7, .int x4), (0, .ref (Y.2.1 k0)), (1, .int v1), (2, .int v2), (3, .int v3), (4, .int v4), (5, .int v5), (6, .int v6)]) X dX7_addCube_20 (by decide) rfl ?_
      refine kg_aload_n X 1 dX7_addCube_22 rfl rfl ?_
      refine kg_getR (j := 4) X kc_7 h1 (by decide) (by decide) rfl kw_644 dX7_addCube_23 ?_
      refine kg_iload X 0 dX7_addCube_26 rfl ?_
      obtain ⟨h5, hw⟩ := hw
      obtain ⟨h6, hw⟩ := hw
      refine kg_iald X h5 h6 dX7_addCube_28 ?_
      refine kg_if_ne (tgt := 36) X dX7_addCube_29 (by decide) (fun h24 => ?_) (fun h24 => ?_)
      · have hw := hw.1 h24
        refine kg_aload_n X 1 dX7_addCube_36 rfl rfl ?_
        refine kg_getR (j := 4) X kc_7 h1 (by decide) (by decide) rfl kw_644 dX7_addCube_37 ?_
        refine kg_iload X 0 dX7_addCube_40 rfl ?_
        refine kg_iald X h5 h6 dX7_addCube_42 ?_
        refine kg_iconst (v := (1 : Int32)) X dX7_addCube_43 (by decide) ?_
        refine kg_icmp_ne (tgt := 52) X dX7_addCube_44 (by decide) (fun h23 => ?_) (fun h23 => ?_)
        · have hw := hw.1 h23
          refine kg_iload X 6 dX7_addCube_52 rfl ?_
          refine kg_sub [1, 2, 3, 4, 5, 6, 7, 0] rfl ?_
          exact s_X7_addCube_B54 X hr post _ _ ih hx_142 _ _ _ _ _ _ _ _ _ _ hw
        · have hw := hw.2 h23
          refine kg_iload X 5 dX7_addCube_47 rfl ?_
          refine kg_goto (tgt := 54) X dX7_addCube_49 (by decide) ?_
          refine kg_sub [1, 2, 3, 4, 5, 6, 7, 0] rfl ?_
          exact s_X7_addCube_B54 X hr post _ _ ih hx_142 _ _ _ _ _ _ _ _ _ _ hw
      · have hw := hw.2 h24
        refine kg_iload_n X 4 dX7_addCube_32 rfl rfl ?_
        refine kg_goto (tgt := 54) X dX7_addCube_33 (by decide) ?_
        refine kg_sub [1, 2, 3, 4, 5, 6, 7, 0] rfl ?_
        exact s_X7_addCube_B54 X hr post _ _ ih hx_142 _ _ _ _ _ _ _ _ _ _ hw
def w_X7_addCube (Y : Ly) (I : Mm) (k0 : Nat) (v1 : Int32) (v2 : Int32) (v3 : Int32) (v4 : Int32) (v5 : Int32) (post : Mm → Prop) : Prop := (∃ n3 : Nat, w_X7_addCube_L3 Y post (fun I26 => post I26) n3 k0 v1 v2 v3 v4 v5 (0 : Int32) I)
set_option maxHeartbeats 4000000 in
set_option maxRecDepth 100000 in
theorem c_X7_addCube (l : Launch) (C : Cc) (Y : Ly) (A : Nat → Prop) (I : Mm) (k0 : Nat) (v1 : Int32) (v2 : Int32) (v3 : Int32) (v4 : Int32) (v5 : Int32) (post : Mm → Prop) (hw : w_X7_addCube Y I k0 v1 v2 v3 v4 v5 post) : ky_MV l yX7_addCube cX7_addCube 10 rm_X7_addCube C Y A I [.ref (Y.2.1 k0), .int v1, .int v2, .int v3, .int v4, .int v5] post := by
  refine ky_met (by decide) (Nat.le_of_ble_eq_true rfl) ?_
  intro p e s m args below meth c X hr
  have X : ky_X p s m args meth c C cX7_addCube 10 RX7 := X
  show ky_G p l e rm_X7_addCube s m args below meth c C Y A 10 (MQ below (va_Qv post (ky_B C Y A) A) args s 0 0 A) 0 [(0, .ref (Y.2.1 k0)), (1, .int v1), (2, .int v2), (3, .int v3), (4, .int v4), (5, .int v5)] [] I
  refine kg_iconst (v := (0 : Int32)) X dX7_addCube_0 (by decide) ?_
  refine kg_istore (lv' := [(6, .int (0 : Int32)), (0, .ref (Y.2.1 k0)), (1, .int v1), (2, .int v2), (3, .int v3), (4, .int v4), (5, .int v5)]) X dX7_addCube_1 (by decide) rfl ?_
  obtain ⟨n3, hw⟩ := hw
  refine kg_sub [1, 2, 3, 4, 5, 6, 0] rfl ?_
  refine s_X7_addCube_L3 X hr post _ ?_ n3 _ _ _ _ _ _ _ _  hw
  · intro I26 hw
    exact kg_vret X hr hw dX7_addCube_142
end
abbrev rm_X7_settles : Room := { frames := 0, cells := 0, slots := 0, locals := 0 }
section
variable {p : Program} {l : Launch} {e : Env} {s : State} {m : MethodId} {args : Array Value} {below : List Frame} {meth : Method} {c : Code} {C : Cc} {Y : Ly} {A : Nat → Prop}
def w_X7_settles_L18 (Y : Ly) (post : Int32 → Mm → Prop) (ex_119 : Nat → Int32 → Int32 → Int32 → Mm → Prop) : Nat → Nat → Int32 → Int32 → Int32 → Int32 → Mm → Prop
  | 0, _, _, _, _, _, _ => False
  | n18 + 1, k0, v1, v2, v3, v4, I => (ky_is Y k0 7 ∧ (((I k0 25) ≤ v4 → ex_119 k0 v1 v2 v3 I) ∧ (¬ (I k0 25) ≤ v4 → (ky_is Y (ky_rp Y k0 26) 8 ∧ (vp_in v4 (ky_ln Y (ky_rp Y k0 26)) ∧ (ky_is Y (ky_rp Y k0 29) 8 ∧ (vp_in (I (ky_rp Y k0 26) v4.toNatClampNeg) (ky_ln Y (ky_rp Y k0 29)) ∧ (((1000000000 : Int32) ≤ (I (ky_rp Y k0 29) (I (ky_rp Y k0 26) v4.toNatClampNeg).toNatClampNeg) → (∀ x6 : Int32, x6 = v4 + (1 : Int32) → w_X7_settles_L18 Y post ex_119 n18 k0 v1 v2 v3 x6 I)) ∧ (¬ (1000000000 : Int32) ≤ (I (ky_rp Y k0 29) (I (ky_rp Y k0 26) v4.toNatClampNeg).toNatClampNeg) → (ky_is Y (ky_rp Y k0 28) 8 ∧ (vp_in v4 (ky_ln Y (ky_rp Y k0 28)) ∧ (ky_is Y (ky_rp Y k0 27) 8 ∧ (vp_in v4 (ky_ln Y (ky_rp Y k0 27)) ∧ (vp_in (I (ky_rp Y k0 27) v4.toNatClampNeg) (ky_ln Y (ky_rp Y k0 29)) ∧ (((I (ky_rp Y k0 29) (I (ky_rp Y k0 27) v4.toNatClampNeg).toNatClampNeg) ≤ ((I (ky_rp Y k0 29) (I (ky_rp Y k0 26) v4.toNatClampNeg).toNatClampNeg) + (I (ky_rp Y k0 28) v4.toNatClampNeg)) → (∀ x12 : Int32, x12 = v4 + (1 : Int32) → w_X7_settles_L18 Y post ex_119 n18 k0 v1 v2 v3 x12 I)) ∧ (¬ (I (ky_rp Y k0 29) (I (ky_rp Y k0 27) v4.toNatClampNeg).toNatClampNeg) ≤ ((I (ky_rp Y k0 29) (I (ky_rp Y k0 26) v4.toNatClampNeg).toNatClampNeg) + (I (ky_rp Y k0 28) v4.toNatClampNeg)) → (∀ I13 : Mm, I13 = ky_up I (ky_rp Y k0 29) (I (ky_rp Y k0 27) v4.toNatClampNeg).toNatClampNeg ((I (ky_rp Y k0 29) (I (ky_rp Y k0 26) v4.toNatClampNeg).toNatClampNeg) + (I (ky_rp Y k0 28) v4.toNatClampNeg)) → (∀ x14 : Int32, x14 = v4 + (1 : Int32) → w_X7_settles_L18 Y post ex_119 n18 k0 v1 (1 : Int32) v3 x14 I13))))))))))))))))))
set_option maxHeartbeats 4000000 in
set_option maxRecDepth 100000 in
theorem s_X7_settles_L18 (X : ky_X p s m args meth c C cX7_settles 5 RX7) (hr : meth.sig.returnType = some .boolean) (post : Int32 → Mm → Prop) (ex_119 : Nat → Int32 → Int32 → Int32 → Mm → Prop) (hx_119 : ∀ (k0 : Nat) (v1 : Int32) (v2 : Int32) (v3 : Int32) (J : Mm), ex_119 k0 v1 v2 v3 J → ky_G p l e rm_X7_settles s m args below meth c C Y A 5 (MQ below (va_Qi post (ky_B C Y A) A) args s 0 0 A) 119 [(0, .ref (Y.2.1 k0)), (1, .int v1), (2, .int v2), (3, .int v3)] [] J) : ∀ (n18 : Nat) (k0 : Nat) (v1 : Int32) (v2 : Int32) (v3 : Int32) (v4 : Int32) (I : Mm), w_X7_settles_L18 Y post ex_119 n18 k0 v1 v2 v3 v4 I → ky_G p l e rm_X7_settles s m args below meth c C Y A 5 (MQ below (va_Qi post (ky_B C Y A) A) args s 0 0 A) 18 [(0, .ref (Y.2.1 k0)), (1, .int v1), (2, .int v2), (3, .int v3), (4, .int v4)] [] I := by
  intro n18
  induction n18 with
  | zero => intro k0 v1 v2 v3 v4 I hw; exact False.elim hw
  | succ n18 ih =>
    intro k0 v1 v2 v3 v4 I hw
    refine kg_iload X 4 dX7_settles_18 rfl ?_
    refine kg_aload_n X 0 dX7_settles_20 rfl rfl ?_
    obtain ⟨h1, hw⟩ := hw
    refine kg_getI (j := 25) X kc_7 h1 (by decide) (by decide) rfl kw_665 dX7_settles_21 ?_
    refine kg_icmp_ge (tgt := 119) X dX7_settles_24 (by decide) (fun h17 => ?_) (fun h17 => ?_)
    · have hw := hw.1 h17
      refine kg_sub [0, 1, 2, 3] rfl ?_
      exact hx_119 _ _ _ _ _  hw
    · have hw := hw.2 h17
      refine kg_aload_n X 0 dX7_settles_27 rfl rfl ?_
      refine kg_getR (j := 29) X kc_7 h1 (by decide) (by decide) rfl kw_669 dX7_settles_28 ?_
      refine kg_aload_n X 0 dX7_settles_31 rfl rfl ?_
      refine kg_getR (j := 26) X kc_7 h1 (by decide) (by decide) rfl kw_666 dX7_settles_32 ?_
      refine kg_iload X 4 dX7_settles_35 rfl ?_
      obtain ⟨h2, hw⟩ := hw
      obtain ⟨h3, hw⟩ := hw
      refine kg_iald X h2 h3 dX7_settles_37 ?_
      obtain ⟨h4, hw⟩ := hw
      obtain ⟨h5, hw⟩ := hw
      refine kg_iald X h4 h5 dX7_settles_38 ?_
      refine kg_ldc (v := (1000000000 : Int32)) X kw_865 dX7_settles_39 ?_
      refine kg_icmp_ge (tgt := 113) X dX7_settles_41 (by decide) (fun h16 => ?_) (fun h16 => ?_)
      · have hw := hw.1 h16
        refine kg_iinc (dd := (1 : Int32)) (lvf := fun x6 => [(4, .int x6), (0, .ref (Y.2.1 k0)), (1, .int v1), (2, .int v2), (3, .int v3)]) X 4 dX7_settles_113 rfl (by decide) (by decide) (fun _ => rfl) (fun x6 ex6 => ?_)
        have hw := hw x6 ex6
        refine kg_goto (tgt := 18) X dX7_settles_116 (by decide) ?_
        refine kg_sub [1, 2, 3, 4, 0] rfl ?_
        exact ih _ _ _ _ _ _  hw
      · have hw := hw.2 h16
        refine kg_aload_n X 0 dX7_settles_44 rfl rfl ?_
        refine kg_getR (j := 29) X kc_7 h1 (by decide) (by decide) rfl kw_669 dX7_settles_45 ?_
        refine kg_aload_n X 0 dX7_settles_48 rfl rfl ?_
        refine kg_getR (j := 26) X kc_7 h1 (by decide) (by decide) rfl kw_666 dX7_settles_49 ?_
        refine kg_iload X 4 dX7_settles_52 rfl ?_
        refine kg_iald X h2 h3 dX7_settles_54 ?_
        refine kg_iald X h4 h5 dX7_settles_55 ?_
        refine kg_aload_n X 0 dX7_settles_56 rfl rfl ?_
        refine kg_getR (j := 28) X kc_7 h1 (by decide) (by decide) rfl kw_668 dX7_settles_57 ?_
        refine kg_iload X 4 dX7_settles_60 rfl ?_
        obtain ⟨h7, hw⟩ := hw
        obtain ⟨h8, hw⟩ := hw
        refine kg_iald X h7 h8 dX7_settles_62 ?_
        refine kg_iadd X dX7_settles_63 ?_
        refine kg_aload_n X 0 dX7_settles_64 rfl rfl ?_
        refine kg_getR (j := 29) X kc_7 h1 (by decide) (by decide) rfl kw_669 dX7_settles_65 ?_
        refine kg_aload_n X 0 dX7_settles_68 rfl rfl ?_
        refine kg_getR (j := 27) X kc_7 h1 (by decide) (by decide) rfl kw_667 dX7_settles_69 ?_
        refine kg_iload X 4 dX7_settles_72 rfl ?_
        obtain ⟨h9, hw⟩ := hw
        obtain ⟨h10, hw⟩ := hw
        refine kg_iald X h9 h10 dX7_settles_74 ?_
        obtain ⟨h11, hw⟩ := hw
        refine kg_iald X h4 h11 dX7_settles_75 ?_
        refine kg_icmp_ge (tgt := 113) X dX7_settles_76 (by decide) (fun h15 => ?_) (fun h15 => ?_)
        · have hw := hw.1 h15
          refine kg_iinc (dd := (1 : Int32)) (lvf := fun x12 => [(4, .int x12), (0, .ref (Y.2.1 k0)), (1, .int v1), (2, .int v2), (3, .int v3)]) X 4 dX7_settles_113 rfl (by decide) (by decide) (fun _ => rfl) (fun x12 ex12 => ?_)
          have hw := hw x12 ex12
          refine kg_goto (tgt := 18) X dX7_settles_116 (by decide) ?_
          refine kg_sub [1, 2, 3, 4, 0] rfl ?_
          exact ih _ _ _ _ _ _  hw
        · have hw := hw.2 h15
          refine kg_aload_n X 0 dX7_settles_79 rfl rfl ?_
          refine kg_getR (j := 29) X kc_7 h1 (by decide) (by decide) rfl kw_669 dX7_settles_80 ?_
          refine kg_aload_n X 0 dX7_settles_83 rfl rfl ?_
          refine kg_getR (j := 27) X kc_7 h1 (by decide) (by decide) rfl kw_667 dX7_settles_84 ?_
          refine kg_iload X 4 dX7_settles_87 rfl ?_
          refine kg_iald X h9 h10 dX7_settles_89 ?_
          refine kg_aload_n X 0 dX7_settles_90 rfl rfl ?_
          refine kg_getR (j := 29) X kc_7 h1 (by decide) (by decide) rfl kw_669 dX7_settles_91 ?_
          refine kg_aload_n X 0 dX7_settles_94 rfl rfl ?_
          refine kg_getR (j := 26) X kc_7 h1 (by decide) (by decide) rfl kw_666 dX7_settles_95 ?_
          refine kg_iload X 4 dX7_settles_98 rfl ?_
          refine kg_iald X h2 h3 dX7_settles_100 ?_
          refine kg_iald X h4 h5 dX7_settles_101 ?_
          refine kg_aload_n X 0 dX7_settles_102 rfl rfl ?_
          refine kg_getR (j := 28) X kc_7 h1 (by decide) (by decide) rfl kw_668 dX7_settles_103 ?_
          refine kg_iload X 4 dX7_settles_106 rfl ?_
          refine kg_iald X h7 h8 dX7_settles_108 ?_
          refine kg_iadd X dX7_settles_109 ?_
          refine kg_iast X h4 h11 dX7_settles_110 ?_
          refine kg_topm (fun I13 eI13 => ?_)
          have hw := hw I13 eI13
          refine kg_iconst (v := (1 : Int32)) X dX7_settles_111 (by decide) ?_
          refine kg_istore_n (lv' := [(2, .int (1 : Int32)), (0, .ref (Y.2.1 k0)), (1, .int v1), (3, .int v3), (4, .int v4)]) X dX7_settles_112 rfl (by decide) rfl ?_
          refine kg_iinc (dd := (1 : Int32)) (lvf := fun x14 => [(4, .int x14), (2, .int (1 : Int32)), (0, .ref (Y.2.1 k0)), (1, .int v1), (3, .int v3)]) X 4 dX7_settles_113 rfl (by decide) (by decide) (fun _ => rfl) (fun x14 ex14 => ?_)
          have hw := hw x14 ex14
          refine kg_goto (tgt := 18) X dX7_settles_116 (by decide) ?_
          refine kg_sub [2, 3, 1, 4, 0] rfl ?_
          exact ih _ _ _ _ _ _  hw
def w_X7_settles_L4 (Y : Ly) (post : Int32 → Mm → Prop) (ex_125 : Int32 → Mm → Prop) : Nat → Nat → Int32 → Int32 → Int32 → Mm → Prop
  | 0, _, _, _, _, _ => False
  | n4 + 1, k0, v1, v2, v3, I => ((v1 < v3 → ex_125 v2 I) ∧ (¬ v1 < v3 → ((v2 = 0 → ex_125 v2 I) ∧ (¬ v2 = 0 → (∃ n18 : Nat, w_X7_settles_L18 Y post (fun k19 v20 v21 v22 I18 => (∀ x23 : Int32, x23 = v22 + (1 : Int32) → w_X7_settles_L4 Y post ex_125 n4 k19 v20 v21 x23 I18)) n18 k0 v1 (0 : Int32) v3 (0 : Int32) I)))))
set_option maxHeartbeats 4000000 in
set_option maxRecDepth 100000 in
theorem s_X7_settles_L4 (X : ky_X p s m args meth c C cX7_settles 5 RX7) (hr : meth.sig.returnType = some .boolean) (post : Int32 → Mm → Prop) (ex_125 : Int32 → Mm → Prop) (hx_125 : ∀ (v2 : Int32) (J : Mm), ex_125 v2 J → ky_G p l e rm_X7_settles s m args below meth c C Y A 5 (MQ below (va_Qi post (ky_B C Y A) A) args s 0 0 A) 125 [(2, .int v2)] [] J) : ∀ (n4 : Nat) (k0 : Nat) (v1 : Int32) (v2 : Int32) (v3 : Int32) (I : Mm), w_X7_settles_L4 Y post ex_125 n4 k0 v1 v2 v3 I → ky_G p l e rm_X7_settles s m args below meth c C Y A 5 (MQ below (va_Qi post (ky_B C Y A) A) args s 0 0 A) 4 [(0, .ref (Y.2.1 k0)), (1, .int v1), (2, .int v2), (3, .int v3)] [] I := by
  intro n4
  induction n4 with
  | zero => intro k0 v1 v2 v3 I hw; exact False.elim hw
  | succ n4 ih =>
    intro k0 v1 v2 v3 I hw
    refine kg_iload_n X 3 dX7_settles_4 rfl rfl ?_
    refine kg_iload_n X 1 dX7_settles_5 rfl rfl ?_
    refine kg_icmp_gt (tgt := 125) X dX7_settles_6 (by decide) (fun h25 => ?_) (fun h25 => ?_)
    · have hw := hw.1 h25
      refine kg_sub [2] rfl ?_
      exact hx_125 _ _  hw
    · have hw := hw.2 h25
      refine kg_iload_n X 2 dX7_settles_9 rfl rfl ?_
      refine kg_if_eq (tgt := 125) X dX7_settles_10 (by decide) (fun h24 => ?_) (fun h24 => ?_)
      · have hw := hw.1 h24
        refine kg_sub [2] rfl ?_
        exact hx_125 _ _  hw
      · have hw := hw.2 h24
        refine kg_iconst (v := (0 : Int32)) X dX7_settles_13 (by decide) ?_
        refine kg_istore_n (lv' := [(2, .int (0 : Int32)), (0, .ref (Y.2.1 k0)), (1, .int v1), (3, .int v3)]) X dX7_settles_14 rfl (by decide) rfl ?_
        refine kg_iconst (v := (0 : Int32)) X dX7_settles_15 (by decide) ?_
        refine kg_istore (lv' := [(4, .int (0 : Int32)), (2, .int (0 : Int32)), (0, .ref (Y.2.1 k0)), (1, .int v1), (3, .int v3)]) X dX7_settles_16 (by decide) rfl ?_
        obtain ⟨n18, hw⟩ := hw
        refine kg_sub [2, 3, 1, 4, 0] rfl ?_
        refine s_X7_settles_L18 X hr post _ ?_ n18 _ _ _ _ _ _  hw
        · intro k19 v20 v21 v22 I18 hw
          refine kg_iinc (dd := (1 : Int32)) (lvf := fun x23 => [(3, .int x23), (0, .ref (Y.2.1 k19)), (1, .int v20), (2, .int v21)]) X 3 dX7_settles_119 rfl (by decide) (by decide) (fun _ => rfl) (fun x23 ex23 => ?_)
          have hw := hw x23 ex23
          refine kg_goto (tgt := 4) X dX7_settles_122 (by decide) ?_
          refine kg_sub [1, 2, 3, 0] rfl ?_
          exact ih _ _ _ _ _  hw
def w_X7_settles_B125 (Y : Ly) (post : Int32 → Mm → Prop) (v2 : Int32) (I : Mm) : Prop := ((¬ v2 = 0 → post (0 : Int32) I) ∧ (v2 = 0 → post (1 : Int32) I))
set_option maxHeartbeats 4000000 in
set_option maxRecDepth 100000 in
theorem s_X7_settles_B125 (X : ky_X p s m args meth c C cX7_settles 5 RX7) (hr : meth.sig.returnType = some .boolean) (post : Int32 → Mm → Prop) (v2 : Int32) (I : Mm) (hw : w_X7_settles_B125 Y post v2 I) : ky_G p l e rm_X7_settles s m args below meth c C Y A 5 (MQ below (va_Qi post (ky_B C Y A) A) args s 0 0 A) 125 [(2, .int v2)] [] I := by
  refine kg_iload_n X 0 dX7_settles_125 rfl rfl ?_
  refine kg_if_ne (tgt := 133) X dX7_settles_126 (by decide) (fun h28 => ?_) (fun h28 => ?_)
  · have hw := hw.1 h28
    refine kg_iconst (v := (0 : Int32)) X dX7_settles_133 (by decide) ?_
    exact kg_zret X hr (by decide) hw dX7_settles_134
  · have hw := hw.2 h28
    refine kg_iconst (v := (1 : Int32)) X dX7_settles_129 (by decide) ?_
    refine kg_goto (tgt := 134) X dX7_settles_130 (by decide) ?_
    exact kg_zret X hr (by decide) hw dX7_settles_134
def w_X7_settles (Y : Ly) (I : Mm) (k0 : Nat) (v1 : Int32) (post : Int32 → Mm → Prop) : Prop := (∃ n4 : Nat, w_X7_settles_L4 Y post (fun v27 I26 => w_X7_settles_B125 Y post v27 I26) n4 k0 v1 (1 : Int32) (0 : Int32) I)
set_option maxHeartbeats 4000000 in
set_option maxRecDepth 100000 in
theorem c_X7_settles (l : Launch) (C : Cc) (Y : Ly) (A : Nat → Prop) (I : Mm) (k0 : Nat) (v1 : Int32) (post : Int32 → Mm → Prop) (hw : w_X7_settles Y I k0 v1 post) : ky_MI l yX7_settles cX7_settles 5 (some .boolean) rm_X7_settles C Y A I [.ref (Y.2.1 k0), .int v1] post := by
  refine ky_met (by decide) (Nat.le_of_ble_eq_true rfl) ?_
  intro p e s m args below meth c X hr
  have X : ky_X p s m args meth c C cX7_settles 5 RX7 := X
  show ky_G p l e rm_X7_settles s m args below meth c C Y A 5 (MQ below (va_Qi post (ky_B C Y A) A) args s 0 0 A) 0 [(0, .ref (Y.2.1 k0)), (1, .int v1)] [] I
  refine kg_iconst (v := (1 : Int32)) X dX7_settles_0 (by decide) ?_
  refine kg_istore_n (lv' := [(2, .int (1 : Int32)), (0, .ref (Y.2.1 k0)), (1, .int v1)]) X dX7_settles_1 rfl (by decide) rfl ?_
  refine kg_iconst (v := (0 : Int32)) X dX7_settles_2 (by decide) ?_
  refine kg_istore_n (lv' := [(3, .int (0 : Int32)), (2, .int (1 : Int32)), (0, .ref (Y.2.1 k0)), (1, .int v1)]) X dX7_settles_3 rfl (by decide) rfl ?_
  obtain ⟨n4, hw⟩ := hw
  refine kg_sub [2, 3, 1, 0] rfl ?_
  refine s_X7_settles_L4 X hr post _ ?_ n4 _ _ _ _ _  hw
  · intro v27 I26 hw
    refine kg_sub [0] rfl ?_
    exact s_X7_settles_B125 X hr post _ _ hw
end
