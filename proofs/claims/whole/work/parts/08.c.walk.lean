abbrev rm_X7_holdsTogether : Room := { frames := 1, cells := 0, slots := 0, locals := 24 }
section
variable {p : Program} {l : Launch} {e : Env} {s : State} {m : MethodId} {args : Array Value} {below : List Frame} {meth : Method} {c : Code} {C : Cc} {Y : Ly} {A : Nat → Prop}
def w_X7_holdsTogether_L2 (Y : Ly) (post : Int32 → Mm → Prop) (ex_20 : Nat → Int32 → Mm → Prop) : Nat → Nat → Int32 → Int32 → Mm → Prop
  | 0, _, _, _, _ => False
  | n2 + 1, k0, v1, v2, I => ((v1 ≤ v2 → ex_20 k0 v1 I) ∧ (¬ v1 ≤ v2 → (ky_is Y k0 7 ∧ (ky_is Y (ky_rp Y k0 29) 8 ∧ (vp_in v2 (ky_ln Y (ky_rp Y k0 29)) ∧ (∀ I4 : Mm, I4 = ky_up I (ky_rp Y k0 29) v2.toNatClampNeg (0 : Int32) → (∀ x5 : Int32, x5 = v2 + (1 : Int32) → w_X7_holdsTogether_L2 Y post ex_20 n2 k0 v1 x5 I4)))))))
set_option maxHeartbeats 4000000 in
set_option maxRecDepth 100000 in
theorem s_X7_holdsTogether_L2 (X : ky_X p s m args meth c C cX7_holdsTogether 3 RX7) (hr : meth.sig.returnType = some .boolean) (post : Int32 → Mm → Prop) (ex_20 : Nat → Int32 → Mm → Prop) (hx_20 : ∀ (k0 : Nat) (v1 : Int32) (J : Mm), ex_20 k0 v1 J → ky_G p l e rm_X7_holdsTogether s m args below meth c C Y A 3 (MQ below (va_Qi post (ky_B C Y A) A) args s 0 0 A) 20 [(0, .ref (Y.2.1 k0)), (1, .int v1)] [] J) : ∀ (n2 : Nat) (k0 : Nat) (v1 : Int32) (v2 : Int32) (I : Mm), w_X7_holdsTogether_L2 Y post ex_20 n2 k0 v1 v2 I → ky_G p l e rm_X7_holdsTogether s m args below meth c C Y A 3 (MQ below (va_Qi post (ky_B C Y A) A) args s 0 0 A) 2 [(0, .ref (Y.2.1 k0)), (1, .int v1), (2, .int v2)] [] I := by
  intro n2
  induction n2 with
  | zero => intro k0 v1 v2 I hw; exact False.elim hw
  | succ n2 ih =>
    intro k0 v1 v2 I hw
    refine kg_iload_n X 2 dX7_holdsTogether_2 rfl rfl ?_
    refine kg_iload_n X 1 dX7_holdsTogether_3 rfl rfl ?_
    refine kg_icmp_ge (tgt := 20) X dX7_holdsTogether_4 (by decide) (fun h6 => ?_) (fun h6 => ?_)
    · have hw := hw.1 h6
      refine kg_sub [0, 1] rfl ?_
      exact hx_20 _ _ _  hw
    · have hw := hw.2 h6
      refine kg_aload_n X 0 dX7_holdsTogether_7 rfl rfl ?_
      obtain ⟨h1, hw⟩ := hw
      refine kg_getR (j := 29) X kc_7 h1 (by decide) (by decide) rfl kw_669 dX7_holdsTogether_8 ?_
      refine kg_iload_n X 2 dX7_holdsTogether_11 rfl rfl ?_
      refine kg_iconst (v := (0 : Int32)) X dX7_holdsTogether_12 (by decide) ?_
      obtain ⟨h2, hw⟩ := hw
      obtain ⟨h3, hw⟩ := hw
      refine kg_iast X h2 h3 dX7_holdsTogether_13 ?_
      refine kg_topm (fun I4 eI4 => ?_)
      have hw := hw I4 eI4
      refine kg_iinc (dd := (1 : Int32)) (lvf := fun x5 => [(2, .int x5), (0, .ref (Y.2.1 k0)), (1, .int v1)]) X 2 dX7_holdsTogether_14 rfl (by decide) (by decide) (fun _ => rfl) (fun x5 ex5 => ?_)
      have hw := hw x5 ex5
      refine kg_goto (tgt := 2) X dX7_holdsTogether_17 (by decide) ?_
      refine kg_sub [1, 2, 0] rfl ?_
      exact ih _ _ _ _  hw
def w_X7_holdsTogether (Y : Ly) (I : Mm) (k0 : Nat) (v1 : Int32) (post : Int32 → Mm → Prop) : Prop := (∃ n2 : Nat, w_X7_holdsTogether_L2 Y post (fun k8 v9 I7 => (ky_is Y k8 7 ∧ w_X7_settles Y I7 k8 v9 (fun r11 I10 => ((r11 = 0 ∨ r11 = 1) ∧ post r11 I10)))) n2 k0 v1 (0 : Int32) I)
set_option maxHeartbeats 4000000 in
set_option maxRecDepth 100000 in
theorem c_X7_holdsTogether (l : Launch) (C : Cc) (Y : Ly) (A : Nat → Prop) (I : Mm) (k0 : Nat) (v1 : Int32) (post : Int32 → Mm → Prop) (hw : w_X7_holdsTogether Y I k0 v1 post) : ky_MI l yX7_holdsTogether cX7_holdsTogether 3 (some .boolean) rm_X7_holdsTogether C Y A I [.ref (Y.2.1 k0), .int v1] post := by
  refine ky_met (by decide) (Nat.le_of_ble_eq_true rfl) ?_
  intro p e s m args below meth c X hr
  have X : ky_X p s m args meth c C cX7_holdsTogether 3 RX7 := X
  show ky_G p l e rm_X7_holdsTogether s m args below meth c C Y A 3 (MQ below (va_Qi post (ky_B C Y A) A) args s 0 0 A) 0 [(0, .ref (Y.2.1 k0)), (1, .int v1)] [] I
  refine kg_iconst (v := (0 : Int32)) X dX7_holdsTogether_0 (by decide) ?_
  refine kg_istore_n (lv' := [(2, .int (0 : Int32)), (0, .ref (Y.2.1 k0)), (1, .int v1)]) X dX7_holdsTogether_1 rfl (by decide) rfl ?_
  obtain ⟨n2, hw⟩ := hw
  refine kg_sub [1, 2, 0] rfl ?_
  refine s_X7_holdsTogether_L2 X hr post _ ?_ n2 _ _ _ _  hw
  · intro k8 v9 I7 hw
    refine kg_aload_n X 0 dX7_holdsTogether_20 rfl rfl ?_
    refine kg_iload_n X 1 dX7_holdsTogether_21 rfl rfl ?_
    obtain ⟨h12, hw⟩ := hw
    refine kg_callVi (n := 1) (As := [.int v9]) X (c_X7_settles l C Y A I7 k8 v9 _ hw) kc_7 h12 rfl iv_X7_settles kw_861 (by decide +kernel) (by decide) rfl rfl (Nat.le_of_ble_eq_true rfl) dX7_holdsTogether_22 (fun r11 I10 hw => ?_)
    obtain ⟨h13, hw⟩ := hw
    exact kg_zret X hr h13 hw dX7_holdsTogether_25
end
abbrev rm_X7_fits : Room := { frames := 2, cells := 0, slots := 0, locals := 52 }
section
variable {p : Program} {l : Launch} {e : Env} {s : State} {m : MethodId} {args : Array Value} {below : List Frame} {meth : Method} {c : Code} {C : Cc} {Y : Ly} {A : Nat → Prop}
def w_X7_fits_B52 (Y : Ly) (post : Int32 → Mm → Prop) (rc : Nat → Int32 → Int32 → Int32 → Int32 → Int32 → Mm → Prop) (ex_82 : Nat → Int32 → Int32 → Mm → Prop) (k0 : Nat) (v1 : Int32) (v2 : Int32) (v3 : Int32) (v4 : Int32) (v5 : Int32) (v6 : Int32) (s0 : Int32) (s1 : Int32) (t2 : Nat) (I : Mm) : Prop := (ky_is Y k0 7 ∧ (ky_is Y (ky_rp Y k0 12) 8 ∧ (vp_in ((2 : Int32) * v6) (ky_ln Y (ky_rp Y k0 12)) ∧ (vp_in (((2 : Int32) * v6) + (1 : Int32)) (ky_ln Y (ky_rp Y k0 12)) ∧ (ky_is Y t2 7 ∧ w_X7_addCube Y I t2 s1 s0 (I (ky_rp Y k0 12) ((2 : Int32) * v6).toNatClampNeg) (I (ky_rp Y k0 12) (((2 : Int32) * v6) + (1 : Int32)).toNatClampNeg) (5 : Int32) (fun I14 => (∀ x16 : Int32, x16 = v5 + (1 : Int32) → rc k0 v1 v2 v3 v4 x16 I14)))))))
set_option maxHeartbeats 4000000 in
set_option maxRecDepth 100000 in
theorem s_X7_fits_B52 (X : ky_X p s m args meth c C cX7_fits 7 RX7) (hr : meth.sig.returnType = some .boolean) (post : Int32 → Mm → Prop) (rc : Nat → Int32 → Int32 → Int32 → Int32 → Int32 → Mm → Prop) (ex_82 : Nat → Int32 → Int32 → Mm → Prop) (hrc : ∀ (k0 : Nat) (v1 : Int32) (v2 : Int32) (v3 : Int32) (v4 : Int32) (v5 : Int32) (J : Mm), rc k0 v1 v2 v3 v4 v5 J → ky_G p l e rm_X7_fits s m args below meth c C Y A 7 (MQ below (va_Qi post (ky_B C Y A) A) args s 0 0 A) 15 [(0, .ref (Y.2.1 k0)), (1, .int v1), (2, .int v2), (3, .int v3), (4, .int v4), (5, .int v5)] [] J) (hx_82 : ∀ (k0 : Nat) (v1 : Int32) (v4 : Int32) (J : Mm), ex_82 k0 v1 v4 J → ky_G p l e rm_X7_fits s m args below meth c C Y A 7 (MQ below (va_Qi post (ky_B C Y A) A) args s 0 0 A) 82 [(0, .ref (Y.2.1 k0)), (1, .int v1), (4, .int v4)] [] J) (k0 : Nat) (v1 : Int32) (v2 : Int32) (v3 : Int32) (v4 : Int32) (v5 : Int32) (v6 : Int32) (s0 : Int32) (s1 : Int32) (t2 : Nat) (I : Mm) (hw : w_X7_fits_B52 Y post rc ex_82 k0 v1 v2 v3 v4 v5 v6 s0 s1 t2 I) : ky_G p l e rm_X7_fits s m args below meth c C Y A 7 (MQ below (va_Qi post (ky_B C Y A) A) args s 0 0 A) 52 [(0, .ref (Y.2.1 k0)), (1, .int v1), (2, .int v2), (3, .int v3), (4, .int v4), (5, .int v5), (6, .int v6)] [.int s0, .int s1, .ref (Y.2.1 t2)] I := by
  refine kg_aload_n X 0 dX7_fits_52 rfl rfl ?_
  obtain ⟨h10, hw⟩ := hw
  refine kg_getR (j := 12) X kc_7 h10 (by decide) (by decide) rfl kw_652 dX7_fits_53 ?_
  refine kg_iconst (v := (2 : Int32)) X dX7_fits_56 (by decide) ?_
  refine kg_iload X 6 dX7_fits_57 rfl ?_
  refine kg_imul X dX7_fits_59 ?_
  obtain ⟨h11, hw⟩ := hw
  obtain ⟨h12, hw⟩ := hw
  refine kg_iald X h11 h12 dX7_fits_60 ?_
  refine kg_aload_n X 0 dX7_fits_61 rfl rfl ?_
  refine kg_getR (j := 12) X kc_7 h10 (by decide) (by decide) rfl kw_652 dX7_fits_62 ?_
  refine kg_iconst (v := (2 : Int32)) X dX7_fits_65 (by decide) ?_
  refine kg_iload X 6 dX7_fits_66 rfl ?_
  refine kg_imul X dX7_fits_68 ?_
  refine kg_iconst (v := (1 : Int32)) X dX7_fits_69 (by decide) ?_
  refine kg_iadd X dX7_fits_70 ?_
  obtain ⟨h13, hw⟩ := hw
  refine kg_iald X h11 h13 dX7_fits_71 ?_
  refine kg_iconst (v := (5 : Int32)) X dX7_fits_72 (by decide) ?_
  obtain ⟨h15, hw⟩ := hw
  refine kg_callVv (n := 5) (As := [.int s1, .int s0, .int (I (ky_rp Y k0 12) ((2 : Int32) * v6).toNatClampNeg), .int (I (ky_rp Y k0 12) (((2 : Int32) * v6) + (1 : Int32)).toNatClampNeg), .int (5 : Int32)]) X (c_X7_addCube l C Y A I t2 s1 s0 (I (ky_rp Y k0 12) ((2 : Int32) * v6).toNatClampNeg) (I (ky_rp Y k0 12) (((2 : Int32) * v6) + (1 : Int32)).toNatClampNeg) (5 : Int32) _ hw) kc_7 h15 rfl iv_X7_addCube kw_853 (by decide +kernel) (by decide) rfl rfl (Nat.le_of_ble_eq_true rfl) dX7_fits_73 (fun I14 hw => ?_)
  refine kg_iinc (dd := (1 : Int32)) (lvf := fun x16 => [(5, .int x16), (0, .ref (Y.2.1 k0)), (1, .int v1), (2, .int v2), (3, .int v3), (4, .int v4), (6, .int v6)]) X 5 dX7_fits_76 rfl (by decide) (by decide) (fun _ => rfl) (fun x16 ex16 => ?_)
  have hw := hw x16 ex16
  refine kg_goto (tgt := 15) X dX7_fits_79 (by decide) ?_
  refine kg_sub [1, 2, 3, 4, 5, 0] rfl ?_
  exact hrc _ _ _ _ _ _ _  hw
def w_X7_fits_L15 (Y : Ly) (post : Int32 → Mm → Prop) (ex_82 : Nat → Int32 → Int32 → Mm → Prop) : Nat → Nat → Int32 → Int32 → Int32 → Int32 → Int32 → Mm → Prop
  | 0, _, _, _, _, _, _, _ => False
  | n15 + 1, k0, v1, v2, v3, v4, v5, I => (ky_is Y k0 7 ∧ (ky_is Y (ky_rp Y k0 10) 8 ∧ (vp_in v1 (ky_ln Y (ky_rp Y k0 10)) ∧ (((I (ky_rp Y k0 10) v1.toNatClampNeg) ≤ v5 → ex_82 k0 v1 v4 I) ∧ (¬ (I (ky_rp Y k0 10) v1.toNatClampNeg) ≤ v5 → (∀ x7 : Int32, x7 = ((2 : Int32) * v1) + v5 → (ky_is Y (ky_rp Y k0 11) 8 ∧ (vp_in x7 (ky_ln Y (ky_rp Y k0 11)) ∧ ((¬ v5 = 0 → w_X7_fits_B52 Y post (fun k0 v1 v2 v3 v4 v5 J => w_X7_fits_L15 Y post ex_82 n15 k0 v1 v2 v3 v4 v5 J) ex_82 k0 v1 v2 v3 v4 v5 x7 v3 (I (ky_rp Y k0 11) x7.toNatClampNeg) k0 I) ∧ (v5 = 0 → w_X7_fits_B52 Y post (fun k0 v1 v2 v3 v4 v5 J => w_X7_fits_L15 Y post ex_82 n15 k0 v1 v2 v3 v4 v5 J) ex_82 k0 v1 v2 v3 v4 v5 x7 v2 (I (ky_rp Y k0 11) x7.toNatClampNeg) k0 I))))))))))
set_option maxHeartbeats 4000000 in
set_option maxRecDepth 100000 in
theorem s_X7_fits_L15 (X : ky_X p s m args meth c C cX7_fits 7 RX7) (hr : meth.sig.returnType = some .boolean) (post : Int32 → Mm → Prop) (ex_82 : Nat → Int32 → Int32 → Mm → Prop) (hx_82 : ∀ (k0 : Nat) (v1 : Int32) (v4 : Int32) (J : Mm), ex_82 k0 v1 v4 J → ky_G p l e rm_X7_fits s m args below meth c C Y A 7 (MQ below (va_Qi post (ky_B C Y A) A) args s 0 0 A) 82 [(0, .ref (Y.2.1 k0)), (1, .int v1), (4, .int v4)] [] J) : ∀ (n15 : Nat) (k0 : Nat) (v1 : Int32) (v2 : Int32) (v3 : Int32) (v4 : Int32) (v5 : Int32) (I : Mm), w_X7_fits_L15 Y post ex_82 n15 k0 v1 v2 v3 v4 v5 I → ky_G p l e rm_X7_fits s m args below meth c C Y A 7 (MQ below (va_Qi post (ky_B C Y A) A) args s 0 0 A) 15 [(0, .ref (Y.2.1 k0)), (1, .int v1), (2, .int v2), (3, .int v3), (4, .int v4), (5, .int v5)] [] I := by
  intro n15
  induction n15 with
  | zero => intro k0 v1 v2 v3 v4 v5 I hw; exact False.elim hw
  | succ n15 ih =>
    intro k0 v1 v2 v3 v4 v5 I hw
    refine kg_iload X 5 dX7_fits_15 rfl ?_
    refine kg_aload_n X 0 dX7_fits_17 rfl rfl ?_
    obtain ⟨h4, hw⟩ := hw
    refine kg_getR (j := 10) X kc_7 h4 (by decide) (by decide) rfl kw_650 dX7_fits_18 ?_
    refine kg_iload_n X 1 dX7_fits_21 rfl rfl ?_
    obtain ⟨h5, hw⟩ := hw
    obtain ⟨h6, hw⟩ := hw
    refine kg_iald X h5 h6 dX7_fits_22 ?_
    refine kg_icmp_ge (tgt := 82) X dX7_fits_23 (by decide) (fun h18 => ?_) (fun h18 => ?_)
    · have hw := hw.1 h18
      refine kg_sub [0, 1, 4] rfl ?_
      exact hx_82 _ _ _ _  hw
    · have hw := hw.2 h18
      refine kg_iconst (v := (2 : Int32)) X dX7_fits_26 (by decide) ?_
      refine kg_iload_n X 1 dX7_fits_27 rfl rfl ?_
      refine kg_imul X dX7_fits_28 ?_
      refine kg_iload X 5 dX7_fits_29 rfl ?_
      refine kg_iadd X dX7_fits_31 ?_
      refine kg_topi (fun x7 ex7 => ?_)
      have hw := hw x7 ex7
      refine kg_istore (lv' := [(6, .int x7), (0, .ref (Y.2.1 k0)), (1, .int v1), (2, .int v2), (3, .int v3), (4, .int v4), (5, .int v5)]) X dX7_fits_32 (by decide) rfl ?_
      refine kg_aload_n X 1 dX7_fits_34 rfl rfl ?_
      refine kg_aload_n X 1 dX7_fits_35 rfl rfl ?_
      refine kg_getR (j := 11) X kc_7 h4 (by decide) (by decide) rfl kw_651 dX7_fits_36 ?_
      refine kg_iload X 0 dX7_fits_39 rfl ?_
      obtain ⟨h8, hw⟩ := hw
      obtain ⟨h9, hw⟩ := hw
      refine kg_iald X h8 h9 dX7_fits_41 ?_
      refine kg_iload X 6 dX7_fits_42 rfl ?_
      refine kg_if_ne (tgt := 51) X dX7_fits_44 (by decide) (fun h17 => ?_) (fun h17 => ?_)
      · have hw := hw.1 h17
        refine kg_iload_n X 4 dX7_fits_51 rfl rfl ?_
        refine kg_sub [1, 2, 3, 4, 5, 6, 0] rfl ?_
        exact s_X7_fits_B52 X hr post _ _ ih hx_82 _ _ _ _ _ _ _ _ _ _ _ hw
      · have hw := hw.2 h17
        refine kg_iload_n X 3 dX7_fits_47 rfl rfl ?_
        refine kg_goto (tgt := 52) X dX7_fits_48 (by decide) ?_
        refine kg_sub [1, 2, 3, 4, 5, 6, 0] rfl ?_
        exact s_X7_fits_B52 X hr post _ _ ih hx_82 _ _ _ _ _ _ _ _ _ _ _ hw
def w_X7_fits_B118 (Y : Ly) (post : Int32 → Mm → Prop) (k0 : Nat) (I : Mm) : Prop := (ky_is Y k0 7 ∧ w_X7_holdsTogether Y I k0 (6 : Int32) (fun r24 I23 => ((r24 = 0 ∨ r24 = 1) ∧ post r24 I23)))
set_option maxHeartbeats 4000000 in
set_option maxRecDepth 100000 in
theorem s_X7_fits_B118 (X : ky_X p s m args meth c C cX7_fits 7 RX7) (hr : meth.sig.returnType = some .boolean) (post : Int32 → Mm → Prop) (k0 : Nat) (I : Mm) (hw : w_X7_fits_B118 Y post k0 I) : ky_G p l e rm_X7_fits s m args below meth c C Y A 7 (MQ below (va_Qi post (ky_B C Y A) A) args s 0 0 A) 118 [(0, .ref (Y.2.1 k0))] [] I := by
  refine kg_aload_n X 0 dX7_fits_118 rfl rfl ?_
  refine kg_bipush (v := (6 : Int32)) X dX7_fits_119 (by decide) ?_
  obtain ⟨h25, hw⟩ := hw
  refine kg_callVi (n := 1) (As := [.int (6 : Int32)]) X (c_X7_holdsTogether l C Y A I k0 (6 : Int32) _ hw) kc_7 h25 rfl iv_X7_holdsTogether kw_857 (by decide +kernel) (by decide) rfl rfl (Nat.le_of_ble_eq_true rfl) dX7_fits_121 (fun r24 I23 hw => ?_)
  obtain ⟨h26, hw⟩ := hw
  exact kg_zret X hr h26 hw dX7_fits_124
def w_X7_fits (Y : Ly) (I : Mm) (k0 : Nat) (v1 : Int32) (v2 : Int32) (v3 : Int32) (v4 : Int32) (post : Int32 → Mm → Prop) : Prop := (ky_is Y k0 7 ∧ (∀ I2 : Mm, I2 = ky_up I k0 25 (0 : Int32) → w_X7_addBounds Y I2 k0 v1 (0 : Int32) (5 : Int32) (fun I3 => (∃ n15 : Nat, w_X7_fits_L15 Y post (fun k20 v21 v22 I19 => ((v22 < 0 → w_X7_fits_B118 Y post k20 I19) ∧ (¬ v22 < 0 → (ky_is Y k20 7 ∧ (ky_is Y (ky_rp Y k20 8) 8 ∧ (vp_in v21 (ky_ln Y (ky_rp Y k20 8)) ∧ (ky_is Y (ky_rp Y k20 9) 8 ∧ (vp_in ((2 : Int32) * v21) (ky_ln Y (ky_rp Y k20 9)) ∧ (vp_in (((2 : Int32) * v21) + (1 : Int32)) (ky_ln Y (ky_rp Y k20 9)) ∧ w_X7_addCube Y I19 k20 (I19 (ky_rp Y k20 8) v21.toNatClampNeg) v22 (I19 (ky_rp Y k20 9) ((2 : Int32) * v21).toNatClampNeg) (I19 (ky_rp Y k20 9) (((2 : Int32) * v21) + (1 : Int32)).toNatClampNeg) (5 : Int32) (fun I33 => w_X7_fits_B118 Y post k20 I33)))))))))) n15 k0 v1 v2 v3 v4 (0 : Int32) I3))))
set_option maxHeartbeats 4000000 in
set_option maxRecDepth 100000 in
theorem c_X7_fits (l : Launch) (C : Cc) (Y : Ly) (A : Nat → Prop) (I : Mm) (k0 : Nat) (v1 : Int32) (v2 : Int32) (v3 : Int32) (v4 : Int32) (post : Int32 → Mm → Prop) (hw : w_X7_fits Y I k0 v1 v2 v3 v4 post) : ky_MI l yX7_fits cX7_fits 7 (some .boolean) rm_X7_fits C Y A I [.ref (Y.2.1 k0), .int v1, .int v2, .int v3, .int v4] post := by
  refine ky_met (by decide) (Nat.le_of_ble_eq_true rfl) ?_
  intro p e s m args below meth c X hr
  have X : ky_X p s m args meth c C cX7_fits 7 RX7 := X
  show ky_G p l e rm_X7_fits s m args below meth c C Y A 7 (MQ below (va_Qi post (ky_B C Y A) A) args s 0 0 A) 0 [(0, .ref (Y.2.1 k0)), (1, .int v1), (2, .int v2), (3, .int v3), (4, .int v4)] [] I
  refine kg_aload_n X 0 dX7_fits_0 rfl rfl ?_
  refine kg_iconst (v := (0 : Int32)) X dX7_fits_1 (by decide) ?_
  obtain ⟨h1, hw⟩ := hw
  refine kg_putI (ci := 7) (Tn := TX7) (j := 25) (ty := .int) X tyX7 tyX7_ok nmX7 kc_7 h1 (by decide) (by decide) rfl kw_665 (by decide +kernel) rfl rfl dX7_fits_2 ?_
  refine kg_topm (fun I2 eI2 => ?_)
  have hw := hw I2 eI2
  refine kg_aload_n X 0 dX7_fits_5 rfl rfl ?_
  refine kg_iload_n X 1 dX7_fits_6 rfl rfl ?_
  refine kg_iconst (v := (0 : Int32)) X dX7_fits_7 (by decide) ?_
  refine kg_iconst (v := (5 : Int32)) X dX7_fits_8 (by decide) ?_
  refine kg_callVv (n := 3) (As := [.int v1, .int (0 : Int32), .int (5 : Int32)]) X (c_X7_addBounds l C Y A I2 k0 v1 (0 : Int32) (5 : Int32) _ hw) kc_7 h1 rfl iv_X7_addBounds kw_845 (by decide +kernel) (by decide) rfl rfl (Nat.le_of_ble_eq_true rfl) dX7_fits_9 (fun I3 hw => ?_)
  refine kg_iconst (v := (0 : Int32)) X dX7_fits_12 (by decide) ?_
  refine kg_istore (lv' := [(5, .int (0 : Int32)), (0, .ref (Y.2.1 k0)), (1, .int v1), (2, .int v2), (3, .int v3), (4, .int v4)]) X dX7_fits_13 (by decide) rfl ?_
  obtain ⟨n15, hw⟩ := hw
  refine kg_sub [1, 2, 3, 4, 5, 0] rfl ?_
  refine s_X7_fits_L15 X hr post _ ?_ n15 _ _ _ _ _ _ _  hw
  · intro k20 v21 v22 I19 hw
    refine kg_iload X 2 dX7_fits_82 rfl ?_
    refine kg_if_lt (tgt := 118) X dX7_fits_84 (by decide) (fun h34 => ?_) (fun h34 => ?_)
    · have hw := hw.1 h34
      refine kg_sub [0] rfl ?_
      exact s_X7_fits_B118 X hr post _ _ hw
    · have hw := hw.2 h34
      refine kg_aload_n X 0 dX7_fits_87 rfl rfl ?_
      refine kg_aload_n X 0 dX7_fits_88 rfl rfl ?_
      obtain ⟨h27, hw⟩ := hw
      refine kg_getR (j := 8) X kc_7 h27 (by decide) (by decide) rfl kw_648 dX7_fits_89 ?_
      refine kg_iload_n X 1 dX7_fits_92 rfl rfl ?_
      obtain ⟨h28, hw⟩ := hw
      obtain ⟨h29, hw⟩ := hw
      refine kg_iald X h28 h29 dX7_fits_93 ?_
      refine kg_iload X 2 dX7_fits_94 rfl ?_
      refine kg_aload_n X 0 dX7_fits_96 rfl rfl ?_
      refine kg_getR (j := 9) X kc_7 h27 (by decide) (by decide) rfl kw_649 dX7_fits_97 ?_
      refine kg_iconst (v := (2 : Int32)) X dX7_fits_100 (by decide) ?_
      refine kg_iload_n X 1 dX7_fits_101 rfl rfl ?_
      refine kg_imul X dX7_fits_102 ?_
      obtain ⟨h30, hw⟩ := hw
      obtain ⟨h31, hw⟩ := hw
      refine kg_iald X h30 h31 dX7_fits_103 ?_
      refine kg_aload_n X 0 dX7_fits_104 rfl rfl ?_
      refine kg_getR (j := 9) X kc_7 h27 (by decide) (by decide) rfl kw_649 dX7_fits_105 ?_
      refine kg_iconst (v := (2 : Int32)) X dX7_fits_108 (by decide) ?_
      refine kg_iload_n X 1 dX7_fits_109 rfl rfl ?_
      refine kg_imul X dX7_fits_110 ?_
      refine kg_iconst (v := (1 : Int32)) X dX7_fits_111 (by decide) ?_
      refine kg_iadd X dX7_fits_112 ?_
      obtain ⟨h32, hw⟩ := hw
      refine kg_iald X h30 h32 dX7_fits_113 ?_
      refine kg_iconst (v := (5 : Int32)) X dX7_fits_114 (by decide) ?_
      refine kg_callVv (n := 5) (As := [.int (I19 (ky_rp Y k20 8) v21.toNatClampNeg), .int v22, .int (I19 (ky_rp Y k20 9) ((2 : Int32) * v21).toNatClampNeg), .int (I19 (ky_rp Y k20 9) (((2 : Int32) * v21) + (1 : Int32)).toNatClampNeg), .int (5 : Int32)]) X (c_X7_addCube l C Y A I19 k20 (I19 (ky_rp Y k20 8) v21.toNatClampNeg) v22 (I19 (ky_rp Y k20 9) ((2 : Int32) * v21).toNatClampNeg) (I19 (ky_rp Y k20 9) (((2 : Int32) * v21) + (1 : Int32)).toNatClampNeg) (5 : Int32) _ hw) kc_7 h27 rfl iv_X7_addCube kw_853 (by decide +kernel) (by decide) rfl rfl (Nat.le_of_ble_eq_true rfl) dX7_fits_115 (fun I33 hw => ?_)
      refine kg_sub [0] rfl ?_
      exact s_X7_fits_B118 X hr post _ _ hw
end
abbrev rm_X7_isFound : Room := { frames := 3, cells := 0, slots := 0, locals := 78 }
section
variable {p : Program} {l : Launch} {e : Env} {s : State} {m : MethodId} {args : Array Value} {below : List Frame} {meth : Method} {c : Code} {C : Cc} {Y : Ly} {A : Nat → Prop}
def w_X7_isFound_B155 (Y : Ly) (post : Int32 → Mm → Prop) (rc : Nat → Int32 → Int32 → Int32 → Int32 → Int32 → Mm → Prop) (ex_175 : Nat → Int32 → Int32 → Int32 → Mm → Prop) (ex_222 : Mm → Prop) (k0 : Nat) (v1 : Int32) (v2 : Int32) (v3 : Int32) (v4 : Int32) (v5 : Int32) (v6 : Int32) (v7 : Int32) (s0 : Int32) (I : Mm) : Prop := ((s0 = 0 → (∀ x13 : Int32, x13 = v5 + (1 : Int32) → rc k0 v1 v2 v3 v4 x13 I)) ∧ (¬ s0 = 0 → (ky_is Y k0 7 ∧ w_X7_fits Y I k0 v1 v6 v7 v2 (fun r15 I14 => ((r15 = 0 → (∀ x17 : Int32, x17 = v5 + (1 : Int32) → rc k0 v1 v2 v3 v4 x17 I14)) ∧ (¬ r15 = 0 → ex_175 k0 v1 v6 v7 I14))))))
set_option maxHeartbeats 4000000 in
set_option maxRecDepth 100000 in
theorem s_X7_isFound_B155 (X : ky_X p s m args meth c C cX7_isFound 9 RX7) (hr : meth.sig.returnType = some .boolean) (post : Int32 → Mm → Prop) (rc : Nat → Int32 → Int32 → Int32 → Int32 → Int32 → Mm → Prop) (ex_175 : Nat → Int32 → Int32 → Int32 → Mm → Prop) (ex_222 : Mm → Prop) (hrc : ∀ (k0 : Nat) (v1 : Int32) (v2 : Int32) (v3 : Int32) (v4 : Int32) (v5 : Int32) (J : Mm), rc k0 v1 v2 v3 v4 v5 J → ky_G p l e rm_X7_isFound s m args below meth c C Y A 9 (MQ below (va_Qi post (ky_B C Y A) A) args s 0 0 A) 59 [(0, .ref (Y.2.1 k0)), (1, .int v1), (2, .int v2), (3, .int v3), (4, .int v4), (5, .int v5)] [] J) (hx_175 : ∀ (k0 : Nat) (v1 : Int32) (v6 : Int32) (v7 : Int32) (J : Mm), ex_175 k0 v1 v6 v7 J → ky_G p l e rm_X7_isFound s m args below meth c C Y A 9 (MQ below (va_Qi post (ky_B C Y A) A) args s 0 0 A) 175 [(0, .ref (Y.2.1 k0)), (1, .int v1), (6, .int v6), (7, .int v7)] [] J) (hx_222 : ∀ (J : Mm), ex_222 J → ky_G p l e rm_X7_isFound s m args below meth c C Y A 9 (MQ below (va_Qi post (ky_B C Y A) A) args s 0 0 A) 222 [] [] J) (k0 : Nat) (v1 : Int32) (v2 : Int32) (v3 : Int32) (v4 : Int32) (v5 : Int32) (v6 : Int32) (v7 : Int32) (s0 : Int32) (I : Mm) (hw : w_X7_isFound_B155 Y post rc ex_175 ex_222 k0 v1 v2 v3 v4 v5 v6 v7 s0 I) : ky_G p l e rm_X7_isFound s m args below meth c C Y A 9 (MQ below (va_Qi post (ky_B C Y A) A) args s 0 0 A) 155 [(0, .ref (Y.2.1 k0)), (1, .int v1), (2, .int v2), (3, .int v3), (4, .int v4), (5, .int v5), (6, .int v6), (7, .int v7)] [.int s0] I := by
  refine kg_istore (lv' := [(8, .int s0), (0, .ref (Y.2.1 k0)), (1, .int v1), (2, .int v2), (3, .int v3), (4, .int v4), (5, .int v5), (6, .int v6), (7, .int v7)]) X dX7_isFound_155 (by decide) rfl ?_
  refine kg_iload X 0 dX7_isFound_157 rfl ?_
  refine kg_if_eq (tgt := 216) X dX7_isFound_159 (by decide) (fun h19 => ?_) (fun h19 => ?_)
  · have hw := hw.1 h19
    refine kg_iinc (dd := (1 : Int32)) (lvf := fun x13 => [(5, .int x13), (8, .int s0), (0, .ref (Y.2.1 k0)), (1, .int v1), (2, .int v2), (3, .int v3), (4, .int v4), (6, .int v6), (7, .int v7)]) X 6 dX7_isFound_216 rfl (by decide) (by decide) (fun _ => rfl) (fun x13 ex13 => ?_)
    have hw := hw x13 ex13
    refine kg_goto (tgt := 59) X dX7_isFound_219 (by decide) ?_
    refine kg_sub [2, 3, 4, 5, 6, 0] rfl ?_
    exact hrc _ _ _ _ _ _ _  hw
  · have hw := hw.2 h19
    refine kg_aload_n X 1 dX7_isFound_162 rfl rfl ?_
    refine kg_iload_n X 2 dX7_isFound_163 rfl rfl ?_
    refine kg_iload X 7 dX7_isFound_164 rfl ?_
    refine kg_iload X 8 dX7_isFound_166 rfl ?_
    refine kg_iload_n X 3 dX7_isFound_168 rfl rfl ?_
    obtain ⟨h16, hw⟩ := hw
    refine kg_callVi (n := 4) (As := [.int v1, .int v6, .int v7, .int v2]) X (c_X7_fits l C Y A I k0 v1 v6 v7 v2 _ hw) kc_7 h16 rfl iv_X7_fits kw_841 (by decide +kernel) (by decide) rfl rfl (Nat.le_of_ble_eq_true rfl) dX7_isFound_169 (fun r15 I14 hw => ?_)
    refine kg_if_eq (tgt := 216) X dX7_isFound_172 (by decide) (fun h18 => ?_) (fun h18 => ?_)
    · have hw := hw.1 h18
      refine kg_iinc (dd := (1 : Int32)) (lvf := fun x17 => [(5, .int x17), (8, .int s0), (0, .ref (Y.2.1 k0)), (1, .int v1), (2, .int v2), (3, .int v3), (4, .int v4), (6, .int v6), (7, .int v7)]) X 6 dX7_isFound_216 rfl (by decide) (by decide) (fun _ => rfl) (fun x17 ex17 => ?_)
      have hw := hw x17 ex17
      refine kg_goto (tgt := 59) X dX7_isFound_219 (by decide) ?_
      refine kg_sub [2, 3, 4, 5, 6, 0] rfl ?_
      exact hrc _ _ _ _ _ _ _  hw
    · have hw := hw.2 h18
      refine kg_sub [1, 2, 7, 8] rfl ?_
      exact hx_175 _ _ _ _ _  hw
def w_X7_isFound_B114 (Y : Ly) (post : Int32 → Mm → Prop) (rc : Nat → Int32 → Int32 → Int32 → Int32 → Int32 → Mm → Prop) (ex_175 : Nat → Int32 → Int32 → Int32 → Mm → Prop) (ex_222 : Mm → Prop) (k0 : Nat) (v1 : Int32) (v2 : Int32) (v3 : Int32) (v4 : Int32) (v5 : Int32) (v6 : Int32) (v7 : Int32) (s0 : Int32) (I : Mm) : Prop := ((s0 = 0 → w_X7_isFound_B155 Y post rc ex_175 ex_222 k0 v1 v2 v3 v4 v5 v6 v7 (0 : Int32) I) ∧ (¬ s0 = 0 → (ky_is Y k0 7 ∧ (ky_is Y (ky_rp Y k0 10) 8 ∧ (vp_in v1 (ky_ln Y (ky_rp Y k0 10)) ∧ (((I (ky_rp Y k0 10) v1.toNatClampNeg) < (2 : Int32) → w_X7_isFound_B155 Y post rc ex_175 ex_222 k0 v1 v2 v3 v4 v5 v6 v7 (1 : Int32) I) ∧ (¬ (I (ky_rp Y k0 10) v1.toNatClampNeg) < (2 : Int32) → (ky_is Y (ky_rp Y k0 11) 8 ∧ (vp_in (((2 : Int32) * v1) + (1 : Int32)) (ky_ln Y (ky_rp Y k0 11)) ∧ w_X7_isBefore Y I k0 (I (ky_rp Y k0 11) (((2 : Int32) * v1) + (1 : Int32)).toNatClampNeg) v7 (fun r26 I25 => ((r26 = 0 → w_X7_isFound_B155 Y post rc ex_175 ex_222 k0 v1 v2 v3 v4 v5 v6 v7 (0 : Int32) I25) ∧ (¬ r26 = 0 → w_X7_isFound_B155 Y post rc ex_175 ex_222 k0 v1 v2 v3 v4 v5 v6 v7 (1 : Int32) I25))))))))))))
set_option maxHeartbeats 4000000 in
set_option maxRecDepth 100000 in
theorem s_X7_isFound_B114 (X : ky_X p s m args meth c C cX7_isFound 9 RX7) (hr : meth.sig.returnType = some .boolean) (post : Int32 → Mm → Prop) (rc : Nat → Int32 → Int32 → Int32 → Int32 → Int32 → Mm → Prop) (ex_175 : Nat → Int32 → Int32 → Int32 → Mm → Prop) (ex_222 : Mm → Prop) (hrc : ∀ (k0 : Nat) (v1 : Int32) (v2 : Int32) (v3 : Int32) (v4 : Int32) (v5 : Int32) (J : Mm), rc k0 v1 v2 v3 v4 v5 J → ky_G p l e rm_X7_isFound s m args below meth c C Y A 9 (MQ below (va_Qi post (ky_B C Y A) A) args s 0 0 A) 59 [(0, .ref (Y.2.1 k0)), (1, .int v1), (2, .int v2), (3, .int v3), (4, .int v4), (5, .int v5)] [] J) (hx_175 : ∀ (k0 : Nat) (v1 : Int32) (v6 : Int32) (v7 : Int32) (J : Mm), ex_175 k0 v1 v6 v7 J → ky_G p l e rm_X7_isFound s m args below meth c C Y A 9 (MQ below (va_Qi post (ky_B C Y A) A) args s 0 0 A) 175 [(0, .ref (Y.2.1 k0)), (1, .int v1), (6, .int v6), (7, .int v7)] [] J) (hx_222 : ∀ (J : Mm), ex_222 J → ky_G p l e rm_X7_isFound s m args below meth c C Y A 9 (MQ below (va_Qi post (ky_B C Y A) A) args s 0 0 A) 222 [] [] J) (k0 : Nat) (v1 : Int32) (v2 : Int32) (v3 : Int32) (v4 : Int32) (v5 : Int32) (v6 : Int32) (v7 : Int32) (s0 : Int32) (I : Mm) (hw : w_X7_isFound_B114 Y post rc ex_175 ex_222 k0 v1 v2 v3 v4 v5 v6 v7 s0 I) : ky_G p l e rm_X7_isFound s m args below meth c C Y A 9 (MQ below (va_Qi post (ky_B C Y A) A) args s 0 0 A) 114 [(0, .ref (Y.2.1 k0)), (1, .int v1), (2, .int v2), (3, .int v3), (4, .int v4), (5, .int v5), (6, .int v6), (7, .int v7)] [.int s0] I := by
  refine kg_istore (lv' := [(8, .int s0), (0, .ref (Y.2.1 k0)), (1, .int v1), (2, .int v2), (3, .int v3), (4, .int v4), (5, .int v5), (6, .int v6), (7, .int v7)]) X dX7_isFound_114 (by decide) rfl ?_
  refine kg_iload X 0 dX7_isFound_116 rfl ?_
  refine kg_if_eq (tgt := 154) X dX7_isFound_118 (by decide) (fun h29 => ?_) (fun h29 => ?_)
  · have hw := hw.1 h29
    refine kg_iconst (v := (0 : Int32)) X dX7_isFound_154 (by decide) ?_
    refine kg_sub [1, 2, 3, 4, 5, 6, 7, 8] rfl ?_
    exact s_X7_isFound_B155 X hr post _ _ _ hrc hx_175 hx_222 _ _ _ _ _ _ _ _ _ _ hw
  · have hw := hw.2 h29
    refine kg_aload_n X 1 dX7_isFound_121 rfl rfl ?_
    obtain ⟨h20, hw⟩ := hw
    refine kg_getR (j := 10) X kc_7 h20 (by decide) (by decide) rfl kw_650 dX7_isFound_122 ?_
    refine kg_iload_n X 2 dX7_isFound_125 rfl rfl ?_
    obtain ⟨h21, hw⟩ := hw
    obtain ⟨h22, hw⟩ := hw
    refine kg_iald X h21 h22 dX7_isFound_126 ?_
    refine kg_iconst (v := (2 : Int32)) X dX7_isFound_127 (by decide) ?_
    refine kg_icmp_lt (tgt := 150) X dX7_isFound_128 (by decide) (fun h28 => ?_) (fun h28 => ?_)
    · have hw := hw.1 h28
      refine kg_iconst (v := (1 : Int32)) X dX7_isFound_150 (by decide) ?_
      refine kg_goto (tgt := 155) X dX7_isFound_151 (by decide) ?_
      refine kg_sub [1, 2, 3, 4, 5, 6, 7, 8] rfl ?_
      exact s_X7_isFound_B155 X hr post _ _ _ hrc hx_175 hx_222 _ _ _ _ _ _ _ _ _ _ hw
    · have hw := hw.2 h28
      refine kg_aload_n X 1 dX7_isFound_131 rfl rfl ?_
      refine kg_aload_n X 1 dX7_isFound_132 rfl rfl ?_
      refine kg_getR (j := 11) X kc_7 h20 (by decide) (by decide) rfl kw_651 dX7_isFound_133 ?_
      refine kg_iconst (v := (2 : Int32)) X dX7_isFound_136 (by decide) ?_
      refine kg_iload_n X 2 dX7_isFound_137 rfl rfl ?_
      refine kg_imul X dX7_isFound_138 ?_
      refine kg_iconst (v := (1 : Int32)) X dX7_isFound_139 (by decide) ?_
      refine kg_iadd X dX7_isFound_140 ?_
      obtain ⟨h23, hw⟩ := hw
      obtain ⟨h24, hw⟩ := hw
      refine kg_iald X h23 h24 dX7_isFound_141 ?_
      refine kg_iload X 8 dX7_isFound_142 rfl ?_
      refine kg_callVi (n := 2) (As := [.int (I (ky_rp Y k0 11) (((2 : Int32) * v1) + (1 : Int32)).toNatClampNeg), .int v7]) X (c_X7_isBefore l C Y A I k0 (I (ky_rp Y k0 11) (((2 : Int32) * v1) + (1 : Int32)).toNatClampNeg) v7 _ hw) kc_7 h20 rfl iv_X7_isBefore kw_837 (by decide +kernel) (by decide) rfl rfl (Nat.le_of_ble_eq_true rfl) dX7_isFound_144 (fun r26 I25 hw => ?_)
      refine kg_if_eq (tgt := 154) X dX7_isFound_147 (by decide) (fun h27 => ?_) (fun h27 => ?_)
      · have hw := hw.1 h27
        refine kg_iconst (v := (0 : Int32)) X dX7_isFound_154 (by decide) ?_
        refine kg_sub [1, 2, 3, 4, 5, 6, 7, 8] rfl ?_
        exact s_X7_isFound_B155 X hr post _ _ _ hrc hx_175 hx_222 _ _ _ _ _ _ _ _ _ _ hw
      · have hw := hw.2 h27
        refine kg_iconst (v := (1 : Int32)) X dX7_isFound_150 (by decide) ?_
        refine kg_goto (tgt := 155) X dX7_isFound_151 (by decide) ?_
        refine kg_sub [1, 2, 3, 4, 5, 6, 7, 8] rfl ?_
        exact s_X7_isFound_B155 X hr post _ _ _ hrc hx_175 hx_222 _ _ _ _ _ _ _ _ _ _ hw
def w_X7_isFound_L59 (Y : Ly) (post : Int32 → Mm → Prop) (ex_175 : Nat → Int32 → Int32 → Int32 → Mm → Prop) (ex_222 : Mm → Prop) : Nat → Nat → Int32 → Int32 → Int32 → Int32 → Int32 → Mm → Prop
  | 0, _, _, _, _, _, _, _ => False
  | n59 + 1, k0, v1, v2, v3, v4, v5, I => (((v3 * v4) ≤ v5 → ex_222 I) ∧ (¬ (v3 * v4) ≤ v5 → (¬ v4 = 0 ∧ (∀ x8 : Int32, x8 = v5 / v4 → (∀ x9 : Int32, x9 = v5 - v5 / v4 * v4 → (ky_is Y k0 7 ∧ (ky_is Y (ky_rp Y k0 10) 8 ∧ (vp_in v1 (ky_ln Y (ky_rp Y k0 10)) ∧ (((I (ky_rp Y k0 10) v1.toNatClampNeg) < (1 : Int32) → w_X7_isFound_B114 Y post (fun k0 v1 v2 v3 v4 v5 J => w_X7_isFound_L59 Y post ex_175 ex_222 n59 k0 v1 v2 v3 v4 v5 J) ex_175 ex_222 k0 v1 v2 v3 v4 v5 x8 x9 (1 : Int32) I) ∧ (¬ (I (ky_rp Y k0 10) v1.toNatClampNeg) < (1 : Int32) → (ky_is Y (ky_rp Y k0 11) 8 ∧ (vp_in ((2 : Int32) * v1) (ky_ln Y (ky_rp Y k0 11)) ∧ w_X7_isBefore Y I k0 (I (ky_rp Y k0 11) ((2 : Int32) * v1).toNatClampNeg) x8 (fun r33 I32 => ((r33 = 0 → w_X7_isFound_B114 Y post (fun k0 v1 v2 v3 v4 v5 J => w_X7_isFound_L59 Y post ex_175 ex_222 n59 k0 v1 v2 v3 v4 v5 J) ex_175 ex_222 k0 v1 v2 v3 v4 v5 x8 x9 (0 : Int32) I32) ∧ (¬ r33 = 0 → w_X7_isFound_B114 Y post (fun k0 v1 v2 v3 v4 v5 J => w_X7_isFound_L59 Y post ex_175 ex_222 n59 k0 v1 v2 v3 v4 v5 J) ex_175 ex_222 k0 v1 v2 v3 v4 v5 x8 x9 (1 : Int32) I32)))))))))))))))
set_option maxHeartbeats 4000000 in
set_option maxRecDepth 100000 in
theorem s_X7_isFound_L59 (X : ky_X p s m args meth c C cX7_isFound 9 RX7) (hr : meth.sig.returnType = some .boolean) (post : Int32 → Mm → Prop) (ex_175 : Nat → Int32 → Int32 → Int32 → Mm → Prop) (ex_222 : Mm → Prop) (hx_175 : ∀ (k0 : Nat) (v1 : Int32) (v6 : Int32) (v7 : Int32) (J : Mm), ex_175 k0 v1 v6 v7 J → ky_G p l e rm_X7_isFound s m args below meth c C Y A 9 (MQ below (va_Qi post (ky_B C Y A) A) args s 0 0 A) 175 [(0, .ref (Y.2.1 k0)), (1, .int v1), (6, .int v6), (7, .int v7)] [] J) (hx_222 : ∀ (J : Mm), ex_222 J → ky_G p l e rm_X7_isFound s m args below meth c C Y A 9 (MQ below (va_Qi post (ky_B C Y A) A) args s 0 0 A) 222 [] [] J) : ∀ (n59 : Nat) (k0 : Nat) (v1 : Int32) (v2 : Int32) (v3 : Int32) (v4 : Int32) (v5 : Int32) (I : Mm), w_X7_isFound_L59 Y post ex_175 ex_222 n59 k0 v1 v2 v3 v4 v5 I → ky_G p l e rm_X7_isFound s m args below meth c C Y A 9 (MQ below (va_Qi post (ky_B C Y A) A) args s 0 0 A) 59 [(0, .ref (Y.2.1 k0)), (1, .int v1), (2, .int v2), (3, .int v3), (4, .int v4), (5, .int v5)] [] I := by
  intro n59
  induction n59 with
  | zero => intro k0 v1 v2 v3 v4 v5 I hw; exact False.elim hw
  | succ n59 ih =>
    intro k0 v1 v2 v3 v4 v5 I hw
    refine kg_iload X 5 dX7_isFound_59 rfl ?_
    refine kg_iload_n X 3 dX7_isFound_61 rfl rfl ?_
    refine kg_iload X 4 dX7_isFound_62 rfl ?_
    refine kg_imul X dX7_isFound_64 ?_
    refine kg_icmp_ge (tgt := 222) X dX7_isFound_65 (by decide) (fun h36 => ?_) (fun h36 => ?_)
    · have hw := hw.1 h36
      refine kg_sub [] rfl ?_
      exact hx_222 _  hw
    · have hw := hw.2 h36
      refine kg_iload X 5 dX7_isFound_68 rfl ?_
      refine kg_iload X 4 dX7_isFound_70 rfl ?_
      obtain ⟨h7, hw⟩ := hw
      refine kg_idiv X dX7_isFound_72 h7 ?_
      refine kg_topi (fun x8 ex8 => ?_)
      have hw := hw x8 ex8
      refine kg_istore (lv' := [(6, .int x8), (0, .ref (Y.2.1 k0)), (1, .int v1), (2, .int v2), (3, .int v3), (4, .int v4), (5, .int v5)]) X dX7_isFound_73 (by decide) rfl ?_
      refine kg_iload X 6 dX7_isFound_75 rfl ?_
      refine kg_iload X 5 dX7_isFound_77 rfl ?_
      refine kg_irem X dX7_isFound_79 h7 ?_
      refine kg_topi (fun x9 ex9 => ?_)
      have hw := hw x9 ex9
      refine kg_istore (lv' := [(7, .int x9), (6, .int x8), (0, .ref (Y.2.1 k0)), (1, .int v1), (2, .int v2), (3, .int v3), (4, .int v4), (5, .int v5)]) X dX7_isFound_80 (by decide) rfl ?_
      refine kg_aload_n X 2 dX7_isFound_82 rfl rfl ?_
      obtain ⟨h10, hw⟩ := hw
      refine kg_getR (j := 10) X kc_7 h10 (by decide) (by decide) rfl kw_650 dX7_isFound_83 ?_
      refine kg_iload_n X 3 dX7_isFound_86 rfl rfl ?_
      obtain ⟨h11, hw⟩ := hw
      obtain ⟨h12, hw⟩ := hw
      refine kg_iald X h11 h12 dX7_isFound_87 ?_
      refine kg_iconst (v := (1 : Int32)) X dX7_isFound_88 (by decide) ?_
      refine kg_icmp_lt (tgt := 109) X dX7_isFound_89 (by decide) (fun h35 => ?_) (fun h35 => ?_)
      · have hw := hw.1 h35
        refine kg_iconst (v := (1 : Int32)) X dX7_isFound_109 (by decide) ?_
        refine kg_goto (tgt := 114) X dX7_isFound_110 (by decide) ?_
        refine kg_sub [2, 3, 4, 5, 6, 7, 1, 0] rfl ?_
        exact s_X7_isFound_B114 X hr post _ _ _ ih hx_175 hx_222 _ _ _ _ _ _ _ _ _ _ hw
      · have hw := hw.2 h35
        refine kg_aload_n X 2 dX7_isFound_92 rfl rfl ?_
        refine kg_aload_n X 2 dX7_isFound_93 rfl rfl ?_
        refine kg_getR (j := 11) X kc_7 h10 (by decide) (by decide) rfl kw_651 dX7_isFound_94 ?_
        refine kg_iconst (v := (2 : Int32)) X dX7_isFound_97 (by decide) ?_
        refine kg_iload_n X 3 dX7_isFound_98 rfl rfl ?_
        refine kg_imul X dX7_isFound_99 ?_
        obtain ⟨h30, hw⟩ := hw
        obtain ⟨h31, hw⟩ := hw
        refine kg_iald X h30 h31 dX7_isFound_100 ?_
        refine kg_iload X 1 dX7_isFound_101 rfl ?_
        refine kg_callVi (n := 2) (As := [.int (I (ky_rp Y k0 11) ((2 : Int32) * v1).toNatClampNeg), .int x8]) X (c_X7_isBefore l C Y A I k0 (I (ky_rp Y k0 11) ((2 : Int32) * v1).toNatClampNeg) x8 _ hw) kc_7 h10 rfl iv_X7_isBefore kw_837 (by decide +kernel) (by decide) rfl rfl (Nat.le_of_ble_eq_true rfl) dX7_isFound_103 (fun r33 I32 hw => ?_)
        refine kg_if_eq (tgt := 113) X dX7_isFound_106 (by decide) (fun h34 => ?_) (fun h34 => ?_)
        · have hw := hw.1 h34
          refine kg_iconst (v := (0 : Int32)) X dX7_isFound_113 (by decide) ?_
          refine kg_sub [2, 3, 4, 5, 6, 7, 1, 0] rfl ?_
          exact s_X7_isFound_B114 X hr post _ _ _ ih hx_175 hx_222 _ _ _ _ _ _ _ _ _ _ hw
        · have hw := hw.2 h34
          refine kg_iconst (v := (1 : Int32)) X dX7_isFound_109 (by decide) ?_
          refine kg_goto (tgt := 114) X dX7_isFound_110 (by decide) ?_
          refine kg_sub [2, 3, 4, 5, 6, 7, 1, 0] rfl ?_
          exact s_X7_isFound_B114 X hr post _ _ _ ih hx_175 hx_222 _ _ _ _ _ _ _ _ _ _ hw
def w_X7_isFound_B191 (Y : Ly) (post : Int32 → Mm → Prop) (k0 : Nat) (v1 : Int32) (v7 : Int32) (s0 : Int32) (t1 : Nat) (I : Mm) : Prop := (ky_is Y t1 7 ∧ (∀ I46 : Mm, I46 = ky_up I t1 37 s0 → (ky_is Y k0 7 ∧ (ky_is Y (ky_rp Y k0 10) 8 ∧ (vp_in v1 (ky_ln Y (ky_rp Y k0 10)) ∧ (((I46 (ky_rp Y k0 10) v1.toNatClampNeg) ≤ (1 : Int32) → (∀ I50 : Mm, I50 = ky_up I46 k0 38 (-1 : Int32) → post (1 : Int32) I50)) ∧ (¬ (I46 (ky_rp Y k0 10) v1.toNatClampNeg) ≤ (1 : Int32) → (∀ I51 : Mm, I51 = ky_up I46 k0 38 v7 → post (1 : Int32) I51))))))))
set_option maxHeartbeats 4000000 in
set_option maxRecDepth 100000 in
theorem s_X7_isFound_B191 (X : ky_X p s m args meth c C cX7_isFound 9 RX7) (hr : meth.sig.returnType = some .boolean) (post : Int32 → Mm → Prop) (k0 : Nat) (v1 : Int32) (v7 : Int32) (s0 : Int32) (t1 : Nat) (I : Mm) (hw : w_X7_isFound_B191 Y post k0 v1 v7 s0 t1 I) : ky_G p l e rm_X7_isFound s m args below meth c C Y A 9 (MQ below (va_Qi post (ky_B C Y A) A) args s 0 0 A) 191 [(0, .ref (Y.2.1 k0)), (1, .int v1), (7, .int v7)] [.int s0, .ref (Y.2.1 t1)] I := by
  obtain ⟨h45, hw⟩ := hw
  refine kg_putI (ci := 7) (Tn := TX7) (j := 37) (ty := .int) X tyX7 tyX7_ok nmX7 kc_7 h45 (by decide) (by decide) rfl kw_677 (by decide +kernel) rfl rfl dX7_isFound_191 ?_
  refine kg_topm (fun I46 eI46 => ?_)
  have hw := hw I46 eI46
  refine kg_aload_n X 0 dX7_isFound_194 rfl rfl ?_
  refine kg_aload_n X 0 dX7_isFound_195 rfl rfl ?_
  obtain ⟨h47, hw⟩ := hw
  refine kg_getR (j := 10) X kc_7 h47 (by decide) (by decide) rfl kw_650 dX7_isFound_196 ?_
  refine kg_iload_n X 1 dX7_isFound_199 rfl rfl ?_
  obtain ⟨h48, hw⟩ := hw
  obtain ⟨h49, hw⟩ := hw
  refine kg_iald X h48 h49 dX7_isFound_200 ?_
  refine kg_iconst (v := (1 : Int32)) X dX7_isFound_201 (by decide) ?_
  refine kg_icmp_le (tgt := 210) X dX7_isFound_202 (by decide) (fun h52 => ?_) (fun h52 => ?_)
  · have hw := hw.1 h52
    refine kg_iconst (v := (-1 : Int32)) X dX7_isFound_210 (by decide) ?_
    refine kg_putI (ci := 7) (Tn := TX7) (j := 38) (ty := .int) X tyX7 tyX7_ok nmX7 kc_7 h47 (by decide) (by decide) rfl kw_678 (by decide +kernel) rfl rfl dX7_isFound_211 ?_
    refine kg_topm (fun I50 eI50 => ?_)
    have hw := hw I50 eI50
    refine kg_iconst (v := (1 : Int32)) X dX7_isFound_214 (by decide) ?_
    exact kg_zret X hr (by decide) hw dX7_isFound_215
  · have hw := hw.2 h52
    refine kg_iload X 2 dX7_isFound_205 rfl ?_
    refine kg_goto (tgt := 211) X dX7_isFound_207 (by decide) ?_
    refine kg_putI (ci := 7) (Tn := TX7) (j := 38) (ty := .int) X tyX7 tyX7_ok nmX7 kc_7 h47 (by decide) (by decide) rfl kw_678 (by decide +kernel) rfl rfl dX7_isFound_211 ?_
    refine kg_topm (fun I51 eI51 => ?_)
    have hw := hw I51 eI51
    refine kg_iconst (v := (1 : Int32)) X dX7_isFound_214 (by decide) ?_
    exact kg_zret X hr (by decide) hw dX7_isFound_215
def w_X7_isFound_B25 (Y : Ly) (post : Int32 → Mm → Prop) (k0 : Nat) (v1 : Int32) (v2 : Int32) (s0 : Int32) (I : Mm) : Prop := (ky_is Y k0 7 ∧ (ky_is Y (ky_rp Y k0 10) 8 ∧ (vp_in v1 (ky_ln Y (ky_rp Y k0 10)) ∧ (((I (ky_rp Y k0 10) v1.toNatClampNeg) ≤ (1 : Int32) → (∃ n59 : Nat, w_X7_isFound_L59 Y post (fun k38 v39 v40 v41 I37 => (ky_is Y k38 7 ∧ (ky_is Y (ky_rp Y k38 10) 8 ∧ (vp_in v39 (ky_ln Y (ky_rp Y k38 10)) ∧ (((I37 (ky_rp Y k38 10) v39.toNatClampNeg) ≤ 0 → w_X7_isFound_B191 Y post k38 v39 v41 (-1 : Int32) k38 I37) ∧ (¬ (I37 (ky_rp Y k38 10) v39.toNatClampNeg) ≤ 0 → w_X7_isFound_B191 Y post k38 v39 v41 v40 k38 I37)))))) (fun I54 => post (0 : Int32) I54) n59 k0 v1 v2 s0 (1 : Int32) (0 : Int32) I)) ∧ (¬ (I (ky_rp Y k0 10) v1.toNatClampNeg) ≤ (1 : Int32) → (ky_is Y (ky_rp Y k0 11) 8 ∧ (vp_in (((2 : Int32) * v1) + (1 : Int32)) (ky_ln Y (ky_rp Y k0 11)) ∧ w_X7_cubesOf Y I k0 (I (ky_rp Y k0 11) (((2 : Int32) * v1) + (1 : Int32)).toNatClampNeg) (fun r58 I57 => (∃ n59 : Nat, w_X7_isFound_L59 Y post (fun k60 v61 v62 v63 I59 => (ky_is Y k60 7 ∧ (ky_is Y (ky_rp Y k60 10) 8 ∧ (vp_in v61 (ky_ln Y (ky_rp Y k60 10)) ∧ (((I59 (ky_rp Y k60 10) v61.toNatClampNeg) ≤ 0 → w_X7_isFound_B191 Y post k60 v61 v63 (-1 : Int32) k60 I59) ∧ (¬ (I59 (ky_rp Y k60 10) v61.toNatClampNeg) ≤ 0 → w_X7_isFound_B191 Y post k60 v61 v63 v62 k60 I59)))))) (fun I68 => post (0 : Int32) I68) n59 k0 v1 v2 s0 r58 (0 : Int32) I57)))))))))
set_option maxHeartbeats 4000000 in
set_option maxRecDepth 100000 in
theorem s_X7_isFound_B25 (X : ky_X p s m args meth c C cX7_isFound 9 RX7) (hr : meth.sig.returnType = some .boolean) (post : Int32 → Mm → Prop) (k0 : Nat) (v1 : Int32) (v2 : Int32) (s0 : Int32) (I : Mm) (hw : w_X7_isFound_B25 Y post k0 v1 v2 s0 I) : ky_G p l e rm_X7_isFound s m args below meth c C Y A 9 (MQ below (va_Qi post (ky_B C Y A) A) args s 0 0 A) 25 [(0, .ref (Y.2.1 k0)), (1, .int v1), (2, .int v2)] [.int s0] I := by
  refine kg_istore_n (lv' := [(3, .int s0), (0, .ref (Y.2.1 k0)), (1, .int v1), (2, .int v2)]) X dX7_isFound_25 rfl (by decide) rfl ?_
  refine kg_aload_n X 1 dX7_isFound_26 rfl rfl ?_
  obtain ⟨h4, hw⟩ := hw
  refine kg_getR (j := 10) X kc_7 h4 (by decide) (by decide) rfl kw_650 dX7_isFound_27 ?_
  refine kg_iload_n X 2 dX7_isFound_30 rfl rfl ?_
  obtain ⟨h5, hw⟩ := hw
  obtain ⟨h6, hw⟩ := hw
  refine kg_iald X h5 h6 dX7_isFound_31 ?_
  refine kg_iconst (v := (1 : Int32)) X dX7_isFound_32 (by decide) ?_
  refine kg_icmp_le (tgt := 53) X dX7_isFound_33 (by decide) (fun h69 => ?_) (fun h69 => ?_)
  · have hw := hw.1 h69
    refine kg_iconst (v := (1 : Int32)) X dX7_isFound_53 (by decide) ?_
    refine kg_istore (lv' := [(4, .int (1 : Int32)), (3, .int s0), (0, .ref (Y.2.1 k0)), (1, .int v1), (2, .int v2)]) X dX7_isFound_54 (by decide) rfl ?_
    refine kg_iconst (v := (0 : Int32)) X dX7_isFound_56 (by decide) ?_
    refine kg_istore (lv' := [(5, .int (0 : Int32)), (4, .int (1 : Int32)), (3, .int s0), (0, .ref (Y.2.1 k0)), (1, .int v1), (2, .int v2)]) X dX7_isFound_57 (by decide) rfl ?_
    obtain ⟨n59, hw⟩ := hw
    refine kg_sub [3, 4, 5, 2, 1, 0] rfl ?_
    refine s_X7_isFound_L59 X hr post _ _ ?_ ?_ n59 _ _ _ _ _ _ _  hw
    · intro k38 v39 v40 v41 I37 hw
      refine kg_aload_n X 0 dX7_isFound_175 rfl rfl ?_
      refine kg_aload_n X 0 dX7_isFound_176 rfl rfl ?_
      obtain ⟨h42, hw⟩ := hw
      refine kg_getR (j := 10) X kc_7 h42 (by decide) (by decide) rfl kw_650 dX7_isFound_177 ?_
      refine kg_iload_n X 1 dX7_isFound_180 rfl rfl ?_
      obtain ⟨h43, hw⟩ := hw
      obtain ⟨h44, hw⟩ := hw
      refine kg_iald X h43 h44 dX7_isFound_181 ?_
      refine kg_if_le (tgt := 190) X dX7_isFound_182 (by decide) (fun h53 => ?_) (fun h53 => ?_)
      · have hw := hw.1 h53
        refine kg_iconst (v := (-1 : Int32)) X dX7_isFound_190 (by decide) ?_
        refine kg_sub [0, 1, 3] rfl ?_
        exact s_X7_isFound_B191 X hr post _ _ _ _ _ _ hw
      · have hw := hw.2 h53
        refine kg_iload X 2 dX7_isFound_185 rfl ?_
        refine kg_goto (tgt := 191) X dX7_isFound_187 (by decide) ?_
        refine kg_sub [0, 1, 3] rfl ?_
        exact s_X7_isFound_B191 X hr post _ _ _ _ _ _ hw
    · intro I54 hw
      refine kg_iconst (v := (0 : Int32)) X dX7_isFound_222 (by decide) ?_
      exact kg_zret X hr (by decide) hw dX7_isFound_223
  · have hw := hw.2 h69
    refine kg_aload_n X 1 dX7_isFound_36 rfl rfl ?_
    refine kg_aload_n X 1 dX7_isFound_37 rfl rfl ?_
    refine kg_getR (j := 11) X kc_7 h4 (by decide) (by decide) rfl kw_651 dX7_isFound_38 ?_
    refine kg_iconst (v := (2 : Int32)) X dX7_isFound_41 (by decide) ?_
    refine kg_iload_n X 2 dX7_isFound_42 rfl rfl ?_
    refine kg_imul X dX7_isFound_43 ?_
    refine kg_iconst (v := (1 : Int32)) X dX7_isFound_44 (by decide) ?_
    refine kg_iadd X dX7_isFound_45 ?_
    obtain ⟨h55, hw⟩ := hw
    obtain ⟨h56, hw⟩ := hw
    refine kg_iald X h55 h56 dX7_isFound_46 ?_
    refine kg_callVi (n := 1) (As := [.int (I (ky_rp Y k0 11) (((2 : Int32) * v1) + (1 : Int32)).toNatClampNeg)]) X (c_X7_cubesOf l C Y A I k0 (I (ky_rp Y k0 11) (((2 : Int32) * v1) + (1 : Int32)).toNatClampNeg) _ hw) kc_7 h4 rfl iv_X7_cubesOf kw_833 (by decide +kernel) (by decide) rfl rfl (Nat.le_of_ble_eq_true rfl) dX7_isFound_47 (fun r58 I57 hw => ?_)
    refine kg_goto (tgt := 54) X dX7_isFound_50 (by decide) ?_
    refine kg_istore (lv' := [(4, .int r58), (3, .int s0), (0, .ref (Y.2.1 k0)), (1, .int v1), (2, .int v2)]) X dX7_isFound_54 (by decide) rfl ?_
    refine kg_iconst (v := (0 : Int32)) X dX7_isFound_56 (by decide) ?_
    refine kg_istore (lv' := [(5, .int (0 : Int32)), (4, .int r58), (3, .int s0), (0, .ref (Y.2.1 k0)), (1, .int v1), (2, .int v2)]) X dX7_isFound_57 (by decide) rfl ?_
    obtain ⟨n59, hw⟩ := hw
    refine kg_sub [3, 4, 5, 2, 1, 0] rfl ?_
    refine s_X7_isFound_L59 X hr post _ _ ?_ ?_ n59 _ _ _ _ _ _ _  hw
    · intro k60 v61 v62 v63 I59 hw
      refine kg_aload_n X 0 dX7_isFound_175 rfl rfl ?_
      refine kg_aload_n X 0 dX7_isFound_176 rfl rfl ?_
      obtain ⟨h64, hw⟩ := hw
      refine kg_getR (j := 10) X kc_7 h64 (by decide) (by decide) rfl kw_650 dX7_isFound_177 ?_
      refine kg_iload_n X 1 dX7_isFound_180 rfl rfl ?_
      obtain ⟨h65, hw⟩ := hw
      obtain ⟨h66, hw⟩ := hw
      refine kg_iald X h65 h66 dX7_isFound_181 ?_
      refine kg_if_le (tgt := 190) X dX7_isFound_182 (by decide) (fun h67 => ?_) (fun h67 => ?_)
      · have hw := hw.1 h67
        refine kg_iconst (v := (-1 : Int32)) X dX7_isFound_190 (by decide) ?_
        refine kg_sub [0, 1, 3] rfl ?_
        exact s_X7_isFound_B191 X hr post _ _ _ _ _ _ hw
      · have hw := hw.2 h67
        refine kg_iload X 2 dX7_isFound_185 rfl ?_
        refine kg_goto (tgt := 191) X dX7_isFound_187 (by decide) ?_
        refine kg_sub [0, 1, 3] rfl ?_
        exact s_X7_isFound_B191 X hr post _ _ _ _ _ _ hw
    · intro I68 hw
      refine kg_iconst (v := (0 : Int32)) X dX7_isFound_222 (by decide) ?_
      exact kg_zret X hr (by decide) hw dX7_isFound_223
def w_X7_isFound (Y : Ly) (I : Mm) (k0 : Nat) (v1 : Int32) (v2 : Int32) (post : Int32 → Mm → Prop) : Prop := (ky_is Y k0 7 ∧ (ky_is Y (ky_rp Y k0 10) 8 ∧ (vp_in v1 (ky_ln Y (ky_rp Y k0 10)) ∧ (((I (ky_rp Y k0 10) v1.toNatClampNeg) ≤ 0 → w_X7_isFound_B25 Y post k0 v1 v2 (1 : Int32) I) ∧ (¬ (I (ky_rp Y k0 10) v1.toNatClampNeg) ≤ 0 → (ky_is Y (ky_rp Y k0 11) 8 ∧ (vp_in ((2 : Int32) * v1) (ky_ln Y (ky_rp Y k0 11)) ∧ w_X7_cubesOf Y I k0 (I (ky_rp Y k0 11) ((2 : Int32) * v1).toNatClampNeg) (fun r73 I72 => w_X7_isFound_B25 Y post k0 v1 v2 r73 I72))))))))
set_option maxHeartbeats 4000000 in
set_option maxRecDepth 100000 in
theorem c_X7_isFound (l : Launch) (C : Cc) (Y : Ly) (A : Nat → Prop) (I : Mm) (k0 : Nat) (v1 : Int32) (v2 : Int32) (post : Int32 → Mm → Prop) (hw : w_X7_isFound Y I k0 v1 v2 post) : ky_MI l yX7_isFound cX7_isFound 9 (some .boolean) rm_X7_isFound C Y A I [.ref (Y.2.1 k0), .int v1, .int v2] post := by
  refine ky_met (by decide) (Nat.le_of_ble_eq_true rfl) ?_
  intro p e s m args below meth c X hr
  have X : ky_X p s m args meth c C cX7_isFound 9 RX7 := X
  show ky_G p l e rm_X7_isFound s m args below meth c C Y A 9 (MQ below (va_Qi post (ky_B C Y A) A) args s 0 0 A) 0 [(0, .ref (Y.2.1 k0)), (1, .int v1), (2, .int v2)] [] I
  refine kg_aload_n X 0 dX7_isFound_0 rfl rfl ?_
  obtain ⟨h1, hw⟩ := hw
  refine kg_getR (j := 10) X kc_7 h1 (by decide) (by decide) rfl kw_650 dX7_isFound_1 ?_
  refine kg_iload_n X 1 dX7_isFound_4 rfl rfl ?_
  obtain ⟨h2, hw⟩ := hw
  obtain ⟨h3, hw⟩ := hw
  refine kg_iald X h2 h3 dX7_isFound_5 ?_
  refine kg_if_le (tgt := 24) X dX7_isFound_6 (by decide) (fun h74 => ?_) (fun h74 => ?_)
  · have hw := hw.1 h74
    refine kg_iconst (v := (1 : Int32)) X dX7_isFound_24 (by decide) ?_
    refine kg_sub [0, 1, 2] rfl ?_
    exact s_X7_isFound_B25 X hr post _ _ _ _ _ hw
  · have hw := hw.2 h74
    refine kg_aload_n X 0 dX7_isFound_9 rfl rfl ?_
    refine kg_aload_n X 0 dX7_isFound_10 rfl rfl ?_
    refine kg_getR (j := 11) X kc_7 h1 (by decide) (by decide) rfl kw_651 dX7_isFound_11 ?_
    refine kg_iconst (v := (2 : Int32)) X dX7_isFound_14 (by decide) ?_
    refine kg_iload_n X 1 dX7_isFound_15 rfl rfl ?_
    refine kg_imul X dX7_isFound_16 ?_
    obtain ⟨h70, hw⟩ := hw
    obtain ⟨h71, hw⟩ := hw
    refine kg_iald X h70 h71 dX7_isFound_17 ?_
    refine kg_callVi (n := 1) (As := [.int (I (ky_rp Y k0 11) ((2 : Int32) * v1).toNatClampNeg)]) X (c_X7_cubesOf l C Y A I k0 (I (ky_rp Y k0 11) ((2 : Int32) * v1).toNatClampNeg) _ hw) kc_7 h1 rfl iv_X7_cubesOf kw_833 (by decide +kernel) (by decide) rfl rfl (Nat.le_of_ble_eq_true rfl) dX7_isFound_18 (fun r73 I72 hw => ?_)
    refine kg_goto (tgt := 25) X dX7_isFound_21 (by decide) ?_
    refine kg_sub [0, 1, 2] rfl ?_
    exact s_X7_isFound_B25 X hr post _ _ _ _ _ hw
end
abbrev rm_X7_stateOf : Room := { frames := 0, cells := 0, slots := 0, locals := 0 }
section
variable {p : Program} {l : Launch} {e : Env} {s : State} {m : MethodId} {args : Array Value} {below : List Frame} {meth : Method} {c : Code} {C : Cc} {Y : Ly} {A : Nat → Prop}
def w_X7_stateOf (Y : Ly) (I : Mm) (k0 : Nat) (v1 : Int32) (post : Int32 → Mm → Prop) : Prop := (ky_is Y k0 7 ∧ (ky_is Y (ky_rp Y k0 31) 8 ∧ (vp_in v1 (ky_ln Y (ky_rp Y k0 31)) ∧ (ky_is Y (ky_rp Y k0 8) 8 ∧ (vp_in (I (ky_rp Y k0 31) v1.toNatClampNeg) (ky_ln Y (ky_rp Y k0 8)) ∧ (ky_is Y (ky_rp Y k0 34) 8 ∧ (vp_in v1 (ky_ln Y (ky_rp Y k0 34)) ∧ post (((16 : Int32) * (I (ky_rp Y k0 8) (I (ky_rp Y k0 31) v1.toNatClampNeg).toNatClampNeg)) + (I (ky_rp Y k0 34) v1.toNatClampNeg)) I)))))))
set_option maxHeartbeats 4000000 in
set_option maxRecDepth 100000 in
theorem c_X7_stateOf (l : Launch) (C : Cc) (Y : Ly) (A : Nat → Prop) (I : Mm) (k0 : Nat) (v1 : Int32) (post : Int32 → Mm → Prop) (hw : w_X7_stateOf Y I k0 v1 post) : ky_MI l yX7_stateOf cX7_stateOf 2 (some .int) rm_X7_stateOf C Y A I [.ref (Y.2.1 k0), .int v1] post := by
  refine ky_met (by decide) (Nat.le_of_ble_eq_true rfl) ?_
  intro p e s m args below meth c X hr
  have X : ky_X p s m args meth c C cX7_stateOf 2 RX7 := X
  show ky_G p l e rm_X7_stateOf s m args below meth c C Y A 2 (MQ below (va_Qi post (ky_B C Y A) A) args s 0 0 A) 0 [(0, .ref (Y.2.1 k0)), (1, .int v1)] [] I
  refine kg_bipush (v := (16 : Int32)) X dX7_stateOf_0 (by decide) ?_
  refine kg_aload_n X 0 dX7_stateOf_2 rfl rfl ?_
  obtain ⟨h1, hw⟩ := hw
  refine kg_getR (j := 8) X kc_7 h1 (by decide) (by decide) rfl kw_648 dX7_stateOf_3 ?_
  refine kg_aload_n X 0 dX7_stateOf_6 rfl rfl ?_
  refine kg_getR (j := 31) X kc_7 h1 (by decide) (by decide) rfl kw_671 dX7_stateOf_7 ?_
  refine kg_iload_n X 1 dX7_stateOf_10 rfl rfl ?_
  obtain ⟨h2, hw⟩ := hw
  obtain ⟨h3, hw⟩ := hw
  refine kg_iald X h2 h3 dX7_stateOf_11 ?_
  obtain ⟨h4, hw⟩ := hw
  obtain ⟨h5, hw⟩ := hw
  refine kg_iald X h4 h5 dX7_stateOf_12 ?_
  refine kg_imul X dX7_stateOf_13 ?_
  refine kg_aload_n X 0 dX7_stateOf_14 rfl rfl ?_
  refine kg_getR (j := 34) X kc_7 h1 (by decide) (by decide) rfl kw_674 dX7_stateOf_15 ?_
  refine kg_iload_n X 1 dX7_stateOf_18 rfl rfl ?_
  obtain ⟨h6, hw⟩ := hw
  obtain ⟨h7, hw⟩ := hw
  refine kg_iald X h6 h7 dX7_stateOf_19 ?_
  refine kg_iadd X dX7_stateOf_20 ?_
  exact kg_iret X hr hw dX7_stateOf_21
end
abbrev rm_X7_place : Room := { frames := 1, cells := 0, slots := 0, locals := 21 }
section
variable {p : Program} {l : Launch} {e : Env} {s : State} {m : MethodId} {args : Array Value} {below : List Frame} {meth : Method} {c : Code} {C : Cc} {Y : Ly} {A : Nat → Prop}
def w_X7_place_B107 (Y : Ly) (post : Mm → Prop) (k0 : Nat) (v1 : Int32) (v3 : Int32) (s0 : Int32) (s1 : Int32) (t2 : Nat) (I : Mm) : Prop := (ky_is Y t2 8 ∧ (vp_in s1 (ky_ln Y t2) ∧ (∀ I18 : Mm, I18 = ky_up I t2 s1.toNatClampNeg s0 → (ky_is Y k0 7 ∧ (ky_is Y (ky_rp Y k0 34) 8 ∧ (vp_in v1 (ky_ln Y (ky_rp Y k0 34)) ∧ (ky_is Y (ky_rp Y k0 18) 8 ∧ (vp_in (((16 : Int32) * v3) + (I18 (ky_rp Y k0 34) v1.toNatClampNeg)) (ky_ln Y (ky_rp Y k0 18)) ∧ (ky_is Y (ky_rp Y k0 31) 8 ∧ (vp_in v1 (ky_ln Y (ky_rp Y k0 31)) ∧ (∀ I26 : Mm, I26 = ky_up I18 (ky_rp Y k0 31) v1.toNatClampNeg (I18 (ky_rp Y k0 18) (((16 : Int32) * v3) + (I18 (ky_rp Y k0 34) v1.toNatClampNeg)).toNatClampNeg) → post I26)))))))))))
set_option maxHeartbeats 4000000 in
set_option maxRecDepth 100000 in
theorem s_X7_place_B107 (X : ky_X p s m args meth c C cX7_place 4 RX7) (hr : meth.sig.returnType = none) (post : Mm → Prop) (k0 : Nat) (v1 : Int32) (v3 : Int32) (s0 : Int32) (s1 : Int32) (t2 : Nat) (I : Mm) (hw : w_X7_place_B107 Y post k0 v1 v3 s0 s1 t2 I) : ky_G p l e rm_X7_place s m args below meth c C Y A 4 (MQ below (va_Qv post (ky_B C Y A) A) args s 0 0 A) 107 [(0, .ref (Y.2.1 k0)), (1, .int v1), (3, .int v3)] [.int s0, .int s1, .ref (Y.2.1 t2)] I := by
  obtain ⟨h16, hw⟩ := hw
  obtain ⟨h17, hw⟩ := hw
  refine kg_iast X h16 h17 dX7_place_107 ?_
  refine kg_topm (fun I18 eI18 => ?_)
  have hw := hw I18 eI18
  refine kg_aload_n X 0 dX7_place_108 rfl rfl ?_
  obtain ⟨h19, hw⟩ := hw
  refine kg_getR (j := 31) X kc_7 h19 (by decide) (by decide) rfl kw_671 dX7_place_109 ?_
  refine kg_iload_n X 1 dX7_place_112 rfl rfl ?_
  refine kg_aload_n X 0 dX7_place_113 rfl rfl ?_
  refine kg_getR (j := 18) X kc_7 h19 (by decide) (by decide) rfl kw_658 dX7_place_114 ?_
  refine kg_bipush (v := (16 : Int32)) X dX7_place_117 (by decide) ?_
  refine kg_iload_n X 2 dX7_place_119 rfl rfl ?_
  refine kg_imul X dX7_place_120 ?_
  refine kg_aload_n X 0 dX7_place_121 rfl rfl ?_
  refine kg_getR (j := 34) X kc_7 h19 (by decide) (by decide) rfl kw_674 dX7_place_122 ?_
  refine kg_iload_n X 1 dX7_place_125 rfl rfl ?_
  obtain ⟨h20, hw⟩ := hw
  obtain ⟨h21, hw⟩ := hw
  refine kg_iald X h20 h21 dX7_place_126 ?_
  refine kg_iadd X dX7_place_127 ?_
  obtain ⟨h22, hw⟩ := hw
  obtain ⟨h23, hw⟩ := hw
  refine kg_iald X h22 h23 dX7_place_128 ?_
  obtain ⟨h24, hw⟩ := hw
  obtain ⟨h25, hw⟩ := hw
  refine kg_iast X h24 h25 dX7_place_129 ?_
  refine kg_topm (fun I26 eI26 => ?_)
  have hw := hw I26 eI26
  exact kg_vret X hr hw dX7_place_130
def w_X7_place (Y : Ly) (I : Mm) (k0 : Nat) (v1 : Int32) (post : Mm → Prop) : Prop := (ky_is Y k0 7 ∧ (ky_is Y (ky_rp Y k0 32) 8 ∧ (vp_in v1 (ky_ln Y (ky_rp Y k0 32)) ∧ ((0 ≤ (I (ky_rp Y k0 32) v1.toNatClampNeg) → (ky_is Y (ky_rp Y k0 31) 8 ∧ (vp_in (I (ky_rp Y k0 32) v1.toNatClampNeg) (ky_ln Y (ky_rp Y k0 31)) ∧ (∀ x6 : Int32, x6 = I (ky_rp Y k0 31) (I (ky_rp Y k0 32) v1.toNatClampNeg).toNatClampNeg → (ky_is Y (ky_rp Y k0 33) 8 ∧ (vp_in v1 (ky_ln Y (ky_rp Y k0 33)) ∧ (ky_is Y (ky_rp Y k0 11) 8 ∧ (vp_in (((2 : Int32) * x6) + (I (ky_rp Y k0 33) v1.toNatClampNeg)) (ky_ln Y (ky_rp Y k0 11)) ∧ (∀ x11 : Int32, x11 = I (ky_rp Y k0 11) (((2 : Int32) * x6) + (I (ky_rp Y k0 33) v1.toNatClampNeg)).toNatClampNeg → ((¬ (I (ky_rp Y k0 32) v1.toNatClampNeg) = 0 → w_X7_stateOf Y I k0 (I (ky_rp Y k0 32) v1.toNatClampNeg) (fun r13 I12 => (ky_is Y (ky_rp Y k0 19) 8 ∧ (vp_in (((2 : Int32) * r13) + (I12 (ky_rp Y k0 33) v1.toNatClampNeg)) (ky_ln Y (ky_rp Y k0 19)) ∧ w_X7_place_B107 Y post k0 v1 x11 (I12 (ky_rp Y k0 19) (((2 : Int32) * r13) + (I12 (ky_rp Y k0 33) v1.toNatClampNeg)).toNatClampNeg) v1 (ky_rp Y k0 34) I12)))) ∧ ((I (ky_rp Y k0 32) v1.toNatClampNeg) = 0 → (ky_is Y (ky_rp Y k0 22) 8 ∧ (vp_in (I (ky_rp Y k0 33) v1.toNatClampNeg) (ky_ln Y (ky_rp Y k0 22)) ∧ w_X7_place_B107 Y post k0 v1 x11 (I (ky_rp Y k0 22) (I (ky_rp Y k0 33) v1.toNatClampNeg).toNatClampNeg) v1 (ky_rp Y k0 34) I))))))))))))) ∧ (¬ 0 ≤ (I (ky_rp Y k0 32) v1.toNatClampNeg) → (ky_is Y (ky_rp Y k0 31) 8 ∧ (vp_in v1 (ky_ln Y (ky_rp Y k0 31)) ∧ (∀ I32 : Mm, I32 = ky_up I (ky_rp Y k0 31) v1.toNatClampNeg (I k0 21) → (ky_is Y (ky_rp Y k0 34) 8 ∧ (vp_in v1 (ky_ln Y (ky_rp Y k0 34)) ∧ (∀ I35 : Mm, I35 = ky_up I32 (ky_rp Y k0 34) v1.toNatClampNeg (-1 : Int32) → post I35)))))))))))
set_option maxHeartbeats 4000000 in
set_option maxRecDepth 100000 in
theorem c_X7_place (l : Launch) (C : Cc) (Y : Ly) (A : Nat → Prop) (I : Mm) (k0 : Nat) (v1 : Int32) (post : Mm → Prop) (hw : w_X7_place Y I k0 v1 post) : ky_MV l yX7_place cX7_place 4 rm_X7_place C Y A I [.ref (Y.2.1 k0), .int v1] post := by
  refine ky_met (by decide) (Nat.le_of_ble_eq_true rfl) ?_
  intro p e s m args below meth c X hr
  have X : ky_X p s m args meth c C cX7_place 4 RX7 := X
  show ky_G p l e rm_X7_place s m args below meth c C Y A 4 (MQ below (va_Qv post (ky_B C Y A) A) args s 0 0 A) 0 [(0, .ref (Y.2.1 k0)), (1, .int v1)] [] I
  refine kg_aload_n X 0 dX7_place_0 rfl rfl ?_
  obtain ⟨h1, hw⟩ := hw
  refine kg_getR (j := 32) X kc_7 h1 (by decide) (by decide) rfl kw_672 dX7_place_1 ?_
  refine kg_iload_n X 1 dX7_place_4 rfl rfl ?_
  obtain ⟨h2, hw⟩ := hw
  obtain ⟨h3, hw⟩ := hw
  refine kg_iald X h2 h3 dX7_place_5 ?_
  refine kg_if_ge (tgt := 27) X dX7_place_6 (by decide) (fun h36 => ?_) (fun h36 => ?_)
  · have hw := hw.1 h36
    refine kg_aload_n X 0 dX7_place_27 rfl rfl ?_
    refine kg_getR (j := 31) X kc_7 h1 (by decide) (by decide) rfl kw_671 dX7_place_28 ?_
    refine kg_aload_n X 0 dX7_place_31 rfl rfl ?_
    refine kg_getR (j := 32) X kc_7 h1 (by decide) (by decide) rfl kw_672 dX7_place_32 ?_
    refine kg_iload_n X 1 dX7_place_35 rfl rfl ?_
    refine kg_iald X h2 h3 dX7_place_36 ?_
    obtain ⟨h4, hw⟩ := hw
    obtain ⟨h5, hw⟩ := hw
    refine kg_iald X h4 h5 dX7_place_37 ?_
    refine kg_topi (fun x6 ex6 => ?_)
    have hw := hw x6 ex6
    refine kg_istore_n (lv' := [(2, .int x6), (0, .ref (Y.2.1 k0)), (1, .int v1)]) X dX7_place_38 rfl (by decide) rfl ?_
    refine kg_aload_n X 1 dX7_place_39 rfl rfl ?_
    refine kg_getR (j := 11) X kc_7 h1 (by decide) (by decide) rfl kw_651 dX7_place_40 ?_
    refine kg_iconst (v := (2 : Int32)) X dX7_place_43 (by decide) ?_
    refine kg_iload_n X 0 dX7_place_44 rfl rfl ?_
    refine kg_imul X dX7_place_45 ?_
    refine kg_aload_n X 1 dX7_place_46 rfl rfl ?_
    refine kg_getR (j := 33) X kc_7 h1 (by decide) (by decide) rfl kw_673 dX7_place_47 ?_
    refine kg_iload_n X 2 dX7_place_50 rfl rfl ?_
    obtain ⟨h7, hw⟩ := hw
    obtain ⟨h8, hw⟩ := hw
    refine kg_iald X h7 h8 dX7_place_51 ?_
    refine kg_iadd X dX7_place_52 ?_
    obtain ⟨h9, hw⟩ := hw
    obtain ⟨h10, hw⟩ := hw
    refine kg_iald X h9 h10 dX7_place_53 ?_
    refine kg_topi (fun x11 ex11 => ?_)
    have hw := hw x11 ex11
    refine kg_istore_n (lv' := [(3, .int x11), (2, .int x6), (0, .ref (Y.2.1 k0)), (1, .int v1)]) X dX7_place_54 rfl (by decide) rfl ?_
    refine kg_aload_n X 2 dX7_place_55 rfl rfl ?_
    refine kg_getR (j := 34) X kc_7 h1 (by decide) (by decide) rfl kw_674 dX7_place_56 ?_
    refine kg_iload_n X 3 dX7_place_59 rfl rfl ?_
    refine kg_aload_n X 2 dX7_place_60 rfl rfl ?_
    refine kg_getR (j := 32) X kc_7 h1 (by decide) (by decide) rfl kw_672 dX7_place_61 ?_
    refine kg_iload_n X 3 dX7_place_64 rfl rfl ?_
    refine kg_iald X h2 h3 dX7_place_65 ?_
    refine kg_if_ne (tgt := 83) X dX7_place_66 (by decide) (fun h29 => ?_) (fun h29 => ?_)
    · have hw := hw.1 h29
      refine kg_aload_n X 2 dX7_place_83 rfl rfl ?_
      refine kg_getR (j := 19) X kc_7 h1 (by decide) (by decide) rfl kw_659 dX7_place_84 ?_
      refine kg_iconst (v := (2 : Int32)) X dX7_place_87 (by decide) ?_
      refine kg_aload_n X 2 dX7_place_88 rfl rfl ?_
      refine kg_aload_n X 2 dX7_place_89 rfl rfl ?_
      refine kg_getR (j := 32) X kc_7 h1 (by decide) (by decide) rfl kw_672 dX7_place_90 ?_
      refine kg_iload_n X 3 dX7_place_93 rfl rfl ?_
      refine kg_iald X h2 h3 dX7_place_94 ?_
      refine kg_callVi (n := 1) (As := [.int (I (ky_rp Y k0 32) v1.toNatClampNeg)]) X (c_X7_stateOf l C Y A I k0 (I (ky_rp Y k0 32) v1.toNatClampNeg) _ hw) kc_7 h1 rfl iv_X7_stateOf kw_874 (by decide +kernel) (by decide) rfl rfl (Nat.le_of_ble_eq_true rfl) dX7_place_95 (fun r13 I12 hw => ?_)
      refine kg_imul X dX7_place_98 ?_
      refine kg_aload_n X 2 dX7_place_99 rfl rfl ?_
      refine kg_getR (j := 33) X kc_7 h1 (by decide) (by decide) rfl kw_673 dX7_place_100 ?_
      refine kg_iload_n X 3 dX7_place_103 rfl rfl ?_
      refine kg_iald X h7 h8 dX7_place_104 ?_
      refine kg_iadd X dX7_place_105 ?_
      obtain ⟨h14, hw⟩ := hw
      obtain ⟨h15, hw⟩ := hw
      refine kg_iald X h14 h15 dX7_place_106 ?_
      refine kg_sub [2, 3, 0] rfl ?_
      exact s_X7_place_B107 X hr post _ _ _ _ _ _ _ hw
    · have hw := hw.2 h29
      refine kg_aload_n X 2 dX7_place_69 rfl rfl ?_
      refine kg_getR (j := 22) X kc_7 h1 (by decide) (by decide) rfl kw_662 dX7_place_70 ?_
      refine kg_aload_n X 2 dX7_place_73 rfl rfl ?_
      refine kg_getR (j := 33) X kc_7 h1 (by decide) (by decide) rfl kw_673 dX7_place_74 ?_
      refine kg_iload_n X 3 dX7_place_77 rfl rfl ?_
      refine kg_iald X h7 h8 dX7_place_78 ?_
      obtain ⟨h27, hw⟩ := hw
      obtain ⟨h28, hw⟩ := hw
      refine kg_iald X h27 h28 dX7_place_79 ?_
      refine kg_goto (tgt := 107) X dX7_place_80 (by decide) ?_
      refine kg_sub [2, 3, 0] rfl ?_
      exact s_X7_place_B107 X hr post _ _ _ _ _ _ _ hw
  · have hw := hw.2 h36
    refine kg_aload_n X 0 dX7_place_9 rfl rfl ?_
    refine kg_getR (j := 31) X kc_7 h1 (by decide) (by decide) rfl kw_671 dX7_place_10 ?_
    refine kg_iload_n X 1 dX7_place_13 rfl rfl ?_
    refine kg_aload_n X 0 dX7_place_14 rfl rfl ?_
    refine kg_getI (j := 21) X kc_7 h1 (by decide) (by decide) rfl kw_661 dX7_place_15 ?_
    obtain ⟨h30, hw⟩ := hw
    obtain ⟨h31, hw⟩ := hw
    refine kg_iast X h30 h31 dX7_place_18 ?_
    refine kg_topm (fun I32 eI32 => ?_)
    have hw := hw I32 eI32
    refine kg_aload_n X 0 dX7_place_19 rfl rfl ?_
    refine kg_getR (j := 34) X kc_7 h1 (by decide) (by decide) rfl kw_674 dX7_place_20 ?_
    refine kg_iload_n X 1 dX7_place_23 rfl rfl ?_
    refine kg_iconst (v := (-1 : Int32)) X dX7_place_24 (by decide) ?_
    obtain ⟨h33, hw⟩ := hw
    obtain ⟨h34, hw⟩ := hw
    refine kg_iast X h33 h34 dX7_place_25 ?_
    refine kg_topm (fun I35 eI35 => ?_)
    have hw := hw I35 eI35
    exact kg_vret X hr hw dX7_place_26
end
abbrev rm_X7_grow : Room := { frames := 2, cells := 0, slots := 0, locals := 44 }
section
variable {p : Program} {l : Launch} {e : Env} {s : State} {m : MethodId} {args : Array Value} {below : List Frame} {meth : Method} {c : Code} {C : Cc} {Y : Ly} {A : Nat → Prop}
def w_X7_grow_L94 (Y : Ly) (post : Mm → Prop) (ex_120 : Nat → Int32 → Mm → Prop) : Nat → Nat → Int32 → Int32 → Int32 → Mm → Prop
  | 0, _, _, _, _, _ => False
  | n94 + 1, k0, v1, v2, v3, I => ((v3 < 0 → ex_120 k0 v1 I) ∧ (¬ v3 < 0 → (ky_is Y k0 7 ∧ (ky_is Y (ky_rp Y k0 36) 8 ∧ (vp_in v1 (ky_ln Y (ky_rp Y k0 36)) ∧ (∀ I27 : Mm, I27 = ky_up I (ky_rp Y k0 36) v1.toNatClampNeg (((2 : Int32) * (v2 + (1 : Int32))) + v3) → (∀ x28 : Int32, x28 = v1 + (1 : Int32) → (∀ x29 : Int32, x29 = v3 + (-1 : Int32) → w_X7_grow_L94 Y post ex_120 n94 k0 x28 v2 x29 I27))))))))
set_option maxHeartbeats 4000000 in
set_option maxRecDepth 100000 in
theorem s_X7_grow_L94 (X : ky_X p s m args meth c C cX7_grow 4 RX7) (hr : meth.sig.returnType = none) (post : Mm → Prop) (ex_120 : Nat → Int32 → Mm → Prop) (hx_120 : ∀ (k0 : Nat) (v1 : Int32) (J : Mm), ex_120 k0 v1 J → ky_G p l e rm_X7_grow s m args below meth c C Y A 4 (MQ below (va_Qv post (ky_B C Y A) A) args s 0 0 A) 120 [(0, .ref (Y.2.1 k0)), (1, .int v1)] [] J) : ∀ (n94 : Nat) (k0 : Nat) (v1 : Int32) (v2 : Int32) (v3 : Int32) (I : Mm), w_X7_grow_L94 Y post ex_120 n94 k0 v1 v2 v3 I → ky_G p l e rm_X7_grow s m args below meth c C Y A 4 (MQ below (va_Qv post (ky_B C Y A) A) args s 0 0 A) 94 [(0, .ref (Y.2.1 k0)), (1, .int v1), (2, .int v2), (3, .int v3)] [] I := by
  intro n94
  induction n94 with
  | zero => intro k0 v1 v2 v3 I hw; exact False.elim hw
  | succ n94 ih =>
    intro k0 v1 v2 v3 I hw
    refine kg_iload_n X 3 dX7_grow_94 rfl rfl ?_
    refine kg_if_lt (tgt := 120) X dX7_grow_95 (by decide) (fun h30 => ?_) (fun h30 => ?_)
    · have hw := hw.1 h30
      refine kg_sub [0, 1] rfl ?_
      exact hx_120 _ _ _  hw
    · have hw := hw.2 h30
      refine kg_aload_n X 0 dX7_grow_98 rfl rfl ?_
      obtain ⟨h24, hw⟩ := hw
      refine kg_getR (j := 36) X kc_7 h24 (by decide) (by decide) rfl kw_676 dX7_grow_99 ?_
      refine kg_iload_n X 1 dX7_grow_102 rfl rfl ?_
      refine kg_iconst (v := (2 : Int32)) X dX7_grow_103 (by decide) ?_
      refine kg_iload_n X 2 dX7_grow_104 rfl rfl ?_
      refine kg_iconst (v := (1 : Int32)) X dX7_grow_105 (by decide) ?_
      refine kg_iadd X dX7_grow_106 ?_
      refine kg_imul X dX7_grow_107 ?_
      refine kg_iload_n X 3 dX7_grow_108 rfl rfl ?_
      refine kg_iadd X dX7_grow_109 ?_
      obtain ⟨h25, hw⟩ := hw
      obtain ⟨h26, hw⟩ := hw
      refine kg_iast X h25 h26 dX7_grow_110 ?_
      refine kg_topm (fun I27 eI27 => ?_)
      have hw := hw I27 eI27
      refine kg_iinc (dd := (1 : Int32)) (lvf := fun x28 => [(1, .int x28), (0, .ref (Y.2.1 k0)), (2, .int v2), (3, .int v3)]) X 1 dX7_grow_111 rfl (by decide) (by decide) (fun _ => rfl) (fun x28 ex28 => ?_)
      have hw := hw x28 ex28
      refine kg_iinc (dd := (-1 : Int32)) (lvf := fun x29 => [(3, .int x29), (1, .int x28), (0, .ref (Y.2.1 k0)), (2, .int v2)]) X 3 dX7_grow_114 rfl (by decide) (by decide) (fun _ => rfl) (fun x29 ex29 => ?_)
      have hw := hw x29 ex29
      refine kg_goto (tgt := 94) X dX7_grow_117 (by decide) ?_
      refine kg_sub [2, 1, 3, 0] rfl ?_
      exact ih _ _ _ _ _  hw
def w_X7_grow_L14 (Y : Ly) (post : Mm → Prop) (ex_123 : Nat → Mm → Prop) : Nat → Nat → Int32 → Mm → Prop
  | 0, _, _, _ => False
  | n14 + 1, k0, v1, I => ((v1 ≤ 0 → ex_123 k0 I) ∧ (¬ v1 ≤ 0 → (ky_is Y k0 7 ∧ (((41 : Int32) ≤ (I k0 30) → ex_123 k0 I) ∧ (¬ (41 : Int32) ≤ (I k0 30) → (∀ x7 : Int32, x7 = v1 + (-1 : Int32) → (∀ x8 : Int32, x8 = I k0 30 → (ky_is Y (ky_rp Y k0 36) 8 ∧ (vp_in x7 (ky_ln Y (ky_rp Y k0 36)) ∧ (ky_is Y (ky_rp Y k0 32) 8 ∧ (vp_in x8 (ky_ln Y (ky_rp Y k0 32)) ∧ (∀ I13 : Mm, I13 = ky_up I (ky_rp Y k0 32) x8.toNatClampNeg (((I (ky_rp Y k0 36) x7.toNatClampNeg) / (2 : Int32)) - (1 : Int32)) → (ky_is Y (ky_rp Y k0 33) 8 ∧ (vp_in x8 (ky_ln Y (ky_rp Y k0 33)) ∧ (∀ I16 : Mm, I16 = ky_up I13 (ky_rp Y k0 33) x8.toNatClampNeg ((I13 (ky_rp Y k0 36) x7.toNatClampNeg) - (I13 (ky_rp Y k0 36) x7.toNatClampNeg) / (2 : Int32) * (2 : Int32)) → w_X7_place Y I16 k0 x8 (fun I17 => (∀ I18 : Mm, I18 = ky_up I17 k0 30 ((I17 k0 30) + (1 : Int32)) → (ky_is Y (ky_rp Y k0 31) 8 ∧ (vp_in x8 (ky_ln Y (ky_rp Y k0 31)) ∧ (ky_is Y (ky_rp Y k0 10) 8 ∧ (vp_in (I18 (ky_rp Y k0 31) x8.toNatClampNeg) (ky_ln Y (ky_rp Y k0 10)) ∧ (∀ x23 : Int32, x23 = (I18 (ky_rp Y k0 10) (I18 (ky_rp Y k0 31) x8.toNatClampNeg).toNatClampNeg) - (1 : Int32) → (∃ n94 : Nat, w_X7_grow_L94 Y post (fun k32 v33 I31 => w_X7_grow_L14 Y post ex_123 n14 k32 v33 I31) n94 k0 x7 x8 x23 I18)))))))))))))))))))))))
set_option maxHeartbeats 4000000 in
set_option maxRecDepth 100000 in
theorem s_X7_grow_L14 (X : ky_X p s m args meth c C cX7_grow 4 RX7) (hr : meth.sig.returnType = none) (post : Mm → Prop) (ex_123 : Nat → Mm → Prop) (hx_123 : ∀ (k0 : Nat) (J : Mm), ex_123 k0 J → ky_G p l e rm_X7_grow s m args below meth c C Y A 4 (MQ below (va_Qv post (ky_B C Y A) A) args s 0 0 A) 123 [(0, .ref (Y.2.1 k0))] [] J) : ∀ (n14 : Nat) (k0 : Nat) (v1 : Int32) (I : Mm), w_X7_grow_L14 Y post ex_123 n14 k0 v1 I → ky_G p l e rm_X7_grow s m args below meth c C Y A 4 (MQ below (va_Qv post (ky_B C Y A) A) args s 0 0 A) 14 [(0, .ref (Y.2.1 k0)), (1, .int v1)] [] I := by
  intro n14
  induction n14 with
  | zero => intro k0 v1 I hw; exact False.elim hw
  | succ n14 ih =>
    intro k0 v1 I hw
    refine kg_iload_n X 1 dX7_grow_14 rfl rfl ?_
    refine kg_if_le (tgt := 123) X dX7_grow_15 (by decide) (fun h35 => ?_) (fun h35 => ?_)
    · have hw := hw.1 h35
      refine kg_sub [0] rfl ?_
      exact hx_123 _ _  hw
    · have hw := hw.2 h35
      refine kg_aload_n X 0 dX7_grow_18 rfl rfl ?_
      obtain ⟨h6, hw⟩ := hw
      refine kg_getI (j := 30) X kc_7 h6 (by decide) (by decide) rfl kw_670 dX7_grow_19 ?_
      refine kg_bipush (v := (41 : Int32)) X dX7_grow_22 (by decide) ?_
      refine kg_icmp_ge (tgt := 123) X dX7_grow_24 (by decide) (fun h34 => ?_) (fun h34 => ?_)
      · have hw := hw.1 h34
        refine kg_sub [0] rfl ?_
        exact hx_123 _ _  hw
      · have hw := hw.2 h34
        refine kg_iinc (dd := (-1 : Int32)) (lvf := fun x7 => [(1, .int x7), (0, .ref (Y.2.1 k0))]) X 1 dX7_grow_27 rfl (by decide) (by decide) (fun _ => rfl) (fun x7 ex7 => ?_)
        have hw := hw x7 ex7
        refine kg_aload_n X 1 dX7_grow_30 rfl rfl ?_
        refine kg_getI (j := 30) X kc_7 h6 (by decide) (by decide) rfl kw_670 dX7_grow_31 ?_
        refine kg_topi (fun x8 ex8 => ?_)
        have hw := hw x8 ex8
        refine kg_istore_n (lv' := [(2, .int x8), (1, .int x7), (0, .ref (Y.2.1 k0))]) X dX7_grow_34 rfl (by decide) rfl ?_
        refine kg_aload_n X 2 dX7_grow_35 rfl rfl ?_
        refine kg_getR (j := 32) X kc_7 h6 (by decide) (by decide) rfl kw_672 dX7_grow_36 ?_
        refine kg_iload_n X 0 dX7_grow_39 rfl rfl ?_
        refine kg_aload_n X 2 dX7_grow_40 rfl rfl ?_
        refine kg_getR (j := 36) X kc_7 h6 (by decide) (by decide) rfl kw_676 dX7_grow_41 ?_
        refine kg_iload_n X 1 dX7_grow_44 rfl rfl ?_
        obtain ⟨h9, hw⟩ := hw
        obtain ⟨h10, hw⟩ := hw
        refine kg_iald X h9 h10 dX7_grow_45 ?_
        refine kg_iconst (v := (2 : Int32)) X dX7_grow_46 (by decide) ?_
        refine kg_idiv X dX7_grow_47 (by decide) ?_
        refine kg_iconst (v := (1 : Int32)) X dX7_grow_48 (by decide) ?_
        refine kg_isub X dX7_grow_49 ?_
        obtain ⟨h11, hw⟩ := hw
        obtain ⟨h12, hw⟩ := hw
        refine kg_iast X h11 h12 dX7_grow_50 ?_
        refine kg_topm (fun I13 eI13 => ?_)
        have hw := hw I13 eI13
        refine kg_aload_n X 2 dX7_grow_51 rfl rfl ?_
        refine kg_getR (j := 33) X kc_7 h6 (by decide) (by decide) rfl kw_673 dX7_grow_52 ?_
        refine kg_iload_n X 0 dX7_grow_55 rfl rfl ?_
        refine kg_aload_n X 2 dX7_grow_56 rfl rfl ?_
        refine kg_getR (j := 36) X kc_7 h6 (by decide) (by decide) rfl kw_676 dX7_grow_57 ?_
        refine kg_iload_n X 1 dX7_grow_60 rfl rfl ?_
        refine kg_iald X h9 h10 dX7_grow_61 ?_
        refine kg_iconst (v := (2 : Int32)) X dX7_grow_62 (by decide) ?_
        refine kg_irem X dX7_grow_63 (by decide) ?_
        obtain ⟨h14, hw⟩ := hw
        obtain ⟨h15, hw⟩ := hw
        refine kg_iast X h14 h15 dX7_grow_64 ?_
        refine kg_topm (fun I16 eI16 => ?_)
        have hw := hw I16 eI16
        refine kg_aload_n X 2 dX7_grow_65 rfl rfl ?_
        refine kg_iload_n X 0 dX7_grow_66 rfl rfl ?_
        refine kg_callVv (n := 1) (As := [.int x8]) X (c_X7_place l C Y A I16 k0 x8 _ hw) kc_7 h6 rfl iv_X7_place kw_870 (by decide +kernel) (by decide) rfl rfl (Nat.le_of_ble_eq_true rfl) dX7_grow_67 (fun I17 hw => ?_)
        refine kg_aload_n X 2 dX7_grow_70 rfl rfl ?_
        refine kg_dup X dX7_grow_71 rfl ?_
        refine kg_getI (j := 30) X kc_7 h6 (by decide) (by decide) rfl kw_670 dX7_grow_72 ?_
        refine kg_iconst (v := (1 : Int32)) X dX7_grow_75 (by decide) ?_
        refine kg_iadd X dX7_grow_76 ?_
        refine kg_putI (ci := 7) (Tn := TX7) (j := 30) (ty := .int) X tyX7 tyX7_ok nmX7 kc_7 h6 (by decide) (by decide) rfl kw_670 (by decide +kernel) rfl rfl dX7_grow_77 ?_
        refine kg_topm (fun I18 eI18 => ?_)
        have hw := hw I18 eI18
        refine kg_aload_n X 2 dX7_grow_80 rfl rfl ?_
        refine kg_getR (j := 10) X kc_7 h6 (by decide) (by decide) rfl kw_650 dX7_grow_81 ?_
        refine kg_aload_n X 2 dX7_grow_84 rfl rfl ?_
        refine kg_getR (j := 31) X kc_7 h6 (by decide) (by decide) rfl kw_671 dX7_grow_85 ?_
        refine kg_iload_n X 0 dX7_grow_88 rfl rfl ?_
        obtain ⟨h19, hw⟩ := hw
        obtain ⟨h20, hw⟩ := hw
        refine kg_iald X h19 h20 dX7_grow_89 ?_
        obtain ⟨h21, hw⟩ := hw
        obtain ⟨h22, hw⟩ := hw
        refine kg_iald X h21 h22 dX7_grow_90 ?_
        refine kg_iconst (v := (1 : Int32)) X dX7_grow_91 (by decide) ?_
        refine kg_isub X dX7_grow_92 ?_
        refine kg_topi (fun x23 ex23 => ?_)
        have hw := hw x23 ex23
        refine kg_istore_n (lv' := [(3, .int x23), (2, .int x8), (1, .int x7), (0, .ref (Y.2.1 k0))]) X dX7_grow_93 rfl (by decide) rfl ?_
        obtain ⟨n94, hw⟩ := hw
        refine kg_sub [3, 2, 1, 0] rfl ?_
        refine s_X7_grow_L94 X hr post _ ?_ n94 _ _ _ _ _  hw
        · intro k32 v33 I31 hw
          refine kg_goto (tgt := 14) X dX7_grow_120 (by decide) ?_
          refine kg_sub [0, 1] rfl ?_
          exact ih _ _ _  hw
def w_X7_grow_L125 (Y : Ly) (post : Mm → Prop) (ex_148 : Nat → Mm → Prop) : Nat → Nat → Int32 → Mm → Prop
  | 0, _, _, _ => False
  | n125 + 1, k0, v2, I => (ky_is Y k0 7 ∧ (((I k0 30) ≤ v2 → ex_148 k0 I) ∧ (¬ (I k0 30) ≤ v2 → (ky_is Y (ky_rp Y k0 35) 8 ∧ (vp_in v2 (ky_ln Y (ky_rp Y k0 35)) ∧ (∀ I41 : Mm, I41 = ky_up I (ky_rp Y k0 35) v2.toNatClampNeg (v2 + (1 : Int32)) → (∀ x42 : Int32, x42 = v2 + (1 : Int32) → w_X7_grow_L125 Y post ex_148 n125 k0 x42 I41)))))))
set_option maxHeartbeats 4000000 in
set_option maxRecDepth 100000 in
theorem s_X7_grow_L125 (X : ky_X p s m args meth c C cX7_grow 4 RX7) (hr : meth.sig.returnType = none) (post : Mm → Prop) (ex_148 : Nat → Mm → Prop) (hx_148 : ∀ (k0 : Nat) (J : Mm), ex_148 k0 J → ky_G p l e rm_X7_grow s m args below meth c C Y A 4 (MQ below (va_Qv post (ky_B C Y A) A) args s 0 0 A) 148 [(0, .ref (Y.2.1 k0))] [] J) : ∀ (n125 : Nat) (k0 : Nat) (v2 : Int32) (I : Mm), w_X7_grow_L125 Y post ex_148 n125 k0 v2 I → ky_G p l e rm_X7_grow s m args below meth c C Y A 4 (MQ below (va_Qv post (ky_B C Y A) A) args s 0 0 A) 125 [(0, .ref (Y.2.1 k0)), (2, .int v2)] [] I := by
  intro n125
  induction n125 with
  | zero => intro k0 v2 I hw; exact False.elim hw
  | succ n125 ih =>
    intro k0 v2 I hw
    refine kg_iload_n X 1 dX7_grow_125 rfl rfl ?_
    refine kg_aload_n X 0 dX7_grow_126 rfl rfl ?_
    obtain ⟨h38, hw⟩ := hw
    refine kg_getI (j := 30) X kc_7 h38 (by decide) (by decide) rfl kw_670 dX7_grow_127 ?_
    refine kg_icmp_ge (tgt := 148) X dX7_grow_130 (by decide) (fun h43 => ?_) (fun h43 => ?_)
    · have hw := hw.1 h43
      refine kg_sub [0] rfl ?_
      exact hx_148 _ _  hw
    · have hw := hw.2 h43
      refine kg_aload_n X 0 dX7_grow_133 rfl rfl ?_
      refine kg_getR (j := 35) X kc_7 h38 (by decide) (by decide) rfl kw_675 dX7_grow_134 ?_
      refine kg_iload_n X 1 dX7_grow_137 rfl rfl ?_
      refine kg_iload_n X 1 dX7_grow_138 rfl rfl ?_
      refine kg_iconst (v := (1 : Int32)) X dX7_grow_139 (by decide) ?_
      refine kg_iadd X dX7_grow_140 ?_
      obtain ⟨h39, hw⟩ := hw
      obtain ⟨h40, hw⟩ := hw
      refine kg_iast X h39 h40 dX7_grow_141 ?_
      refine kg_topm (fun I41 eI41 => ?_)
      have hw := hw I41 eI41
      refine kg_iinc (dd := (1 : Int32)) (lvf := fun x42 => [(2, .int x42), (0, .ref (Y.2.1 k0))]) X 1 dX7_grow_142 rfl (by decide) (by decide) (fun _ => rfl) (fun x42 ex42 => ?_)
      have hw := hw x42 ex42
      refine kg_goto (tgt := 125) X dX7_grow_145 (by decide) ?_
      refine kg_sub [1, 0] rfl ?_
      exact ih _ _ _  hw
def w_X7_grow_L155 (Y : Ly) (post : Mm → Prop) (ex_216 : Mm → Prop) : Nat → Nat → Int32 → Mm → Prop
  | 0, _, _, _ => False
  | n155 + 1, k0, v2, I => ((v2 ≤ 0 → ex_216 I) ∧ (¬ v2 ≤ 0 → (ky_is Y k0 7 ∧ (ky_is Y (ky_rp Y k0 32) 8 ∧ (vp_in v2 (ky_ln Y (ky_rp Y k0 32)) ∧ (ky_is Y (ky_rp Y k0 35) 8 ∧ (vp_in v2 (ky_ln Y (ky_rp Y k0 35)) ∧ (vp_in (I (ky_rp Y k0 32) v2.toNatClampNeg) (ky_ln Y (ky_rp Y k0 35)) ∧ (((I (ky_rp Y k0 35) v2.toNatClampNeg) ≤ (I (ky_rp Y k0 35) (I (ky_rp Y k0 32) v2.toNatClampNeg).toNatClampNeg) → (∀ I54 : Mm, I54 = ky_up I (ky_rp Y k0 35) (I (ky_rp Y k0 32) v2.toNatClampNeg).toNatClampNeg (I (ky_rp Y k0 35) (I (ky_rp Y k0 32) v2.toNatClampNeg).toNatClampNeg) → (∀ x55 : Int32, x55 = v2 + (-1 : Int32) → w_X7_grow_L155 Y post ex_216 n155 k0 x55 I54))) ∧ (¬ (I (ky_rp Y k0 35) v2.toNatClampNeg) ≤ (I (ky_rp Y k0 35) (I (ky_rp Y k0 32) v2.toNatClampNeg).toNatClampNeg) → (∀ I56 : Mm, I56 = ky_up I (ky_rp Y k0 35) (I (ky_rp Y k0 32) v2.toNatClampNeg).toNatClampNeg (I (ky_rp Y k0 35) v2.toNatClampNeg) → (∀ x57 : Int32, x57 = v2 + (-1 : Int32) → w_X7_grow_L155 Y post ex_216 n155 k0 x57 I56))))))))))))
set_option maxHeartbeats 4000000 in
set_option maxRecDepth 100000 in
theorem s_X7_grow_L155 (X : ky_X p s m args meth c C cX7_grow 4 RX7) (hr : meth.sig.returnType = none) (post : Mm → Prop) (ex_216 : Mm → Prop) (hx_216 : ∀ (J : Mm), ex_216 J → ky_G p l e rm_X7_grow s m args below meth c C Y A 4 (MQ below (va_Qv post (ky_B C Y A) A) args s 0 0 A) 216 [] [] J) : ∀ (n155 : Nat) (k0 : Nat) (v2 : Int32) (I : Mm), w_X7_grow_L155 Y post ex_216 n155 k0 v2 I → ky_G p l e rm_X7_grow s m args below meth c C Y A 4 (MQ below (va_Qv post (ky_B C Y A) A) args s 0 0 A) 155 [(0, .ref (Y.2.1 k0)), (2, .int v2)] [] I := by
  intro n155
  induction n155 with
  | zero => intro k0 v2 I hw; exact False.elim hw
  | succ n155 ih =>
    intro k0 v2 I hw
    refine kg_iload_n X 1 dX7_grow_155 rfl rfl ?_
    refine kg_if_le (tgt := 216) X dX7_grow_156 (by decide) (fun h59 => ?_) (fun h59 => ?_)
    · have hw := hw.1 h59
      refine kg_sub [] rfl ?_
      exact hx_216 _  hw
    · have hw := hw.2 h59
      refine kg_aload_n X 0 dX7_grow_159 rfl rfl ?_
      obtain ⟨h48, hw⟩ := hw
      refine kg_getR (j := 35) X kc_7 h48 (by decide) (by decide) rfl kw_675 dX7_grow_160 ?_
      refine kg_aload_n X 0 dX7_grow_163 rfl rfl ?_
      refine kg_getR (j := 32) X kc_7 h48 (by decide) (by decide) rfl kw_672 dX7_grow_164 ?_
      refine kg_iload_n X 1 dX7_grow_167 rfl rfl ?_
      obtain ⟨h49, hw⟩ := hw
      obtain ⟨h50, hw⟩ := hw
      refine kg_iald X h49 h50 dX7_grow_168 ?_
      refine kg_aload_n X 0 dX7_grow_169 rfl rfl ?_
      refine kg_getR (j := 35) X kc_7 h48 (by decide) (by decide) rfl kw_675 dX7_grow_170 ?_
      refine kg_iload_n X 1 dX7_grow_173 rfl rfl ?_
      obtain ⟨h51, hw⟩ := hw
      obtain ⟨h52, hw⟩ := hw
      refine kg_iald X h51 h52 dX7_grow_174 ?_
      refine kg_aload_n X 0 dX7_grow_175 rfl rfl ?_
      refine kg_getR (j := 35) X kc_7 h48 (by decide) (by decide) rfl kw_675 dX7_grow_176 ?_
      refine kg_aload_n X 0 dX7_grow_179 rfl rfl ?_
      refine kg_getR (j := 32) X kc_7 h48 (by decide) (by decide) rfl kw_672 dX7_grow_180 ?_
      refine kg_iload_n X 1 dX7_grow_183 rfl rfl ?_
      refine kg_iald X h49 h50 dX7_grow_184 ?_
      obtain ⟨h53, hw⟩ := hw
      refine kg_iald X h51 h53 dX7_grow_185 ?_
      refine kg_icmp_le (tgt := 198) X dX7_grow_186 (by decide) (fun h58 => ?_) (fun h58 => ?_)
      · have hw := hw.1 h58
        refine kg_aload_n X 0 dX7_grow_198 rfl rfl ?_
        refine kg_getR (j := 35) X kc_7 h48 (by decide) (by decide) rfl kw_675 dX7_grow_199 ?_
        refine kg_aload_n X 0 dX7_grow_202 rfl rfl ?_
        refine kg_getR (j := 32) X kc_7 h48 (by decide) (by decide) rfl kw_672 dX7_grow_203 ?_
        refine kg_iload_n X 1 dX7_grow_206 rfl rfl ?_
        refine kg_iald X h49 h50 dX7_grow_207 ?_
        refine kg_iald X h51 h53 dX7_grow_208 ?_
        refine kg_iast X h51 h53 dX7_grow_209 ?_
        refine kg_topm (fun I54 eI54 => ?_)
        have hw := hw I54 eI54
        refine kg_iinc (dd := (-1 : Int32)) (lvf := fun x55 => [(2, .int x55), (0, .ref (Y.2.1 k0))]) X 1 dX7_grow_210 rfl (by decide) (by decide) (fun _ => rfl) (fun x55 ex55 => ?_)
        have hw := hw x55 ex55
        refine kg_goto (tgt := 155) X dX7_grow_213 (by decide) ?_
        refine kg_sub [1, 0] rfl ?_
        exact ih _ _ _  hw
      · have hw := hw.2 h58
        refine kg_aload_n X 0 dX7_grow_189 rfl rfl ?_
        refine kg_getR (j := 35) X kc_7 h48 (by decide) (by decide) rfl kw_675 dX7_grow_190 ?_
        refine kg_iload_n X 1 dX7_grow_193 rfl rfl ?_
        refine kg_iald X h51 h52 dX7_grow_194 ?_
        refine kg_goto (tgt := 209) X dX7_grow_195 (by decide) ?_
        refine kg_iast X h51 h53 dX7_grow_209 ?_
        refine kg_topm (fun I56 eI56 => ?_)
        have hw := hw I56 eI56
        refine kg_iinc (dd := (-1 : Int32)) (lvf := fun x57 => [(2, .int x57), (0, .ref (Y.2.1 k0))]) X 1 dX7_grow_210 rfl (by decide) (by decide) (fun _ => rfl) (fun x57 ex57 => ?_)
        have hw := hw x57 ex57
        refine kg_goto (tgt := 155) X dX7_grow_213 (by decide) ?_
        refine kg_sub [1, 0] rfl ?_
        exact ih _ _ _  hw
def w_X7_grow (Y : Ly) (I : Mm) (k0 : Nat) (post : Mm → Prop) : Prop := (ky_is Y k0 7 ∧ (∀ I2 : Mm, I2 = ky_up I k0 30 (0 : Int32) → (ky_is Y (ky_rp Y k0 36) 8 ∧ (vp_in (0 : Int32) (ky_ln Y (ky_rp Y k0 36)) ∧ (∀ I5 : Mm, I5 = ky_up I2 (ky_rp Y k0 36) (0 : Int32).toNatClampNeg (0 : Int32) → (∃ n14 : Nat, w_X7_grow_L14 Y post (fun k37 I36 => (∃ n125 : Nat, w_X7_grow_L125 Y post (fun k45 I44 => (ky_is Y k45 7 ∧ (∀ x47 : Int32, x47 = (I44 k45 30) - (1 : Int32) → (∃ n155 : Nat, w_X7_grow_L155 Y post (fun I60 => post I60) n155 k45 x47 I44)))) n125 k37 (0 : Int32) I36)) n14 k0 (1 : Int32) I5))))))
set_option maxHeartbeats 4000000 in
set_option maxRecDepth 100000 in
theorem c_X7_grow (l : Launch) (C : Cc) (Y : Ly) (A : Nat → Prop) (I : Mm) (k0 : Nat) (post : Mm → Prop) (hw : w_X7_grow Y I k0 post) : ky_MV l yX7_grow cX7_grow 4 rm_X7_grow C Y A I [.ref (Y.2.1 k0)] post := by
  refine ky_met (by decide) (Nat.le_of_ble_eq_true rfl) ?_
  intro p e s m args below meth c X hr
  have X : ky_X p s m args meth c C cX7_grow 4 RX7 := X
  show ky_G p l e rm_X7_grow s m args below meth c C Y A 4 (MQ below (va_Qv post (ky_B C Y A) A) args s 0 0 A) 0 [(0, .ref (Y.2.1 k0))] [] I
  refine kg_aload_n X 0 dX7_grow_0 rfl rfl ?_
  refine kg_iconst (v := (0 : Int32)) X dX7_grow_1 (by decide) ?_
  obtain ⟨h1, hw⟩ := hw
  refine kg_putI (ci := 7) (Tn := TX7) (j := 30) (ty := .int) X tyX7 tyX7_ok nmX7 kc_7 h1 (by decide) (by decide) rfl kw_670 (by decide +kernel) rfl rfl dX7_grow_2 ?_
  refine kg_topm (fun I2 eI2 => ?_)
  have hw := hw I2 eI2
  refine kg_iconst (v := (1 : Int32)) X dX7_grow_5 (by decide) ?_
  refine kg_istore_n (lv' := [(1, .int (1 : Int32)), (0, .ref (Y.2.1 k0))]) X dX7_grow_6 rfl (by decide) rfl ?_
  refine kg_aload_n X 1 dX7_grow_7 rfl rfl ?_
  refine kg_getR (j := 36) X kc_7 h1 (by decide) (by decide) rfl kw_676 dX7_grow_8 ?_
  refine kg_iconst (v := (0 : Int32)) X dX7_grow_11 (by decide) ?_
  refine kg_iconst (v := (0 : Int32)) X dX7_grow_12 (by decide) ?_
  obtain ⟨h3, hw⟩ := hw
  obtain ⟨h4, hw⟩ := hw
  refine kg_iast X h3 h4 dX7_grow_13 ?_
  refine kg_topm (fun I5 eI5 => ?_)
  have hw := hw I5 eI5
  obtain ⟨n14, hw⟩ := hw
  refine kg_sub [1, 0] rfl ?_
  refine s_X7_grow_L14 X hr post _ ?_ n14 _ _ _  hw
  · intro k37 I36 hw
    refine kg_iconst (v := (0 : Int32)) X dX7_grow_123 (by decide) ?_
    refine kg_istore_n (lv' := [(2, .int (0 : Int32)), (0, .ref (Y.2.1 k37))]) X dX7_grow_124 rfl (by decide) rfl ?_
    obtain ⟨n125, hw⟩ := hw
    refine kg_sub [1, 0] rfl ?_
    refine s_X7_grow_L125 X hr post _ ?_ n125 _ _ _  hw
    · intro k45 I44 hw
      refine kg_aload_n X 0 dX7_grow_148 rfl rfl ?_
      obtain ⟨h46, hw⟩ := hw
      refine kg_getI (j := 30) X kc_7 h46 (by decide) (by decide) rfl kw_670 dX7_grow_149 ?_
      refine kg_iconst (v := (1 : Int32)) X dX7_grow_152 (by decide) ?_
      refine kg_isub X dX7_grow_153 ?_
      refine kg_topi (fun x47 ex47 => ?_)
      have hw := hw x47 ex47
      refine kg_istore_n (lv' := [(2, .int x47), (0, .ref (Y.2.1 k45))]) X dX7_grow_154 rfl (by decide) rfl ?_
      obtain ⟨n155, hw⟩ := hw
      refine kg_sub [1, 0] rfl ?_
      refine s_X7_grow_L155 X hr post _ ?_ n155 _ _ _  hw
      · intro I60 hw
        exact kg_vret X hr hw dX7_grow_216
end
abbrev rm_X7_isReached : Room := { frames := 4, cells := 0, slots := 0, locals := 106 }
section
variable {p : Program} {l : Launch} {e : Env} {s : State} {m : MethodId} {args : Array Value} {below : List Frame} {meth : Method} {c : Code} {C : Cc} {Y : Ly} {A : Nat → Prop}
def w_X7_isReached_L2 (Y : Ly) (post : Int32 → Mm → Prop) (ex_35 : Nat → Int32 → Int32 → Mm → Prop) (ex_86 : Mm → Prop) : Nat → Nat → Int32 → Int32 → Mm → Prop
  | 0, _, _, _, _ => False
  | n2 + 1, k0, v1, v2, I => (ky_is Y k0 7 ∧ (((I k0 7) ≤ v2 → ex_86 I) ∧ (¬ (I k0 7) ≤ v2 → (ky_is Y (ky_rp Y k0 8) 8 ∧ (vp_in v2 (ky_ln Y (ky_rp Y k0 8)) ∧ ((¬ (I (ky_rp Y k0 8) v2.toNatClampNeg) = (v1 / (16 : Int32)) → (∀ x4 : Int32, x4 = v2 + (1 : Int32) → w_X7_isReached_L2 Y post ex_35 ex_86 n2 k0 v1 x4 I)) ∧ ((I (ky_rp Y k0 8) v2.toNatClampNeg) = (v1 / (16 : Int32)) → w_X7_isFound Y I k0 v2 (v1 - v1 / (16 : Int32) * (16 : Int32)) (fun r6 I5 => ((r6 = 0 → (∀ x7 : Int32, x7 = v2 + (1 : Int32) → w_X7_isReached_L2 Y post ex_35 ex_86 n2 k0 v1 x7 I5)) ∧ (¬ r6 = 0 → ex_35 k0 v1 v2 I5))))))))))
set_option maxHeartbeats 4000000 in
set_option maxRecDepth 100000 in
theorem s_X7_isReached_L2 (X : ky_X p s m args meth c C cX7_isReached 3 RX7) (hr : meth.sig.returnType = some .boolean) (post : Int32 → Mm → Prop) (ex_35 : Nat → Int32 → Int32 → Mm → Prop) (ex_86 : Mm → Prop) (hx_35 : ∀ (k0 : Nat) (v1 : Int32) (v2 : Int32) (J : Mm), ex_35 k0 v1 v2 J → ky_G p l e rm_X7_isReached s m args below meth c C Y A 3 (MQ below (va_Qi post (ky_B C Y A) A) args s 0 0 A) 35 [(0, .ref (Y.2.1 k0)), (1, .int v1), (2, .int v2)] [] J) (hx_86 : ∀ (J : Mm), ex_86 J → ky_G p l e rm_X7_isReached s m args below meth c C Y A 3 (MQ below (va_Qi post (ky_B C Y A) A) args s 0 0 A) 86 [] [] J) : ∀ (n2 : Nat) (k0 : Nat) (v1 : Int32) (v2 : Int32) (I : Mm), w_X7_isReached_L2 Y post ex_35 ex_86 n2 k0 v1 v2 I → ky_G p l e rm_X7_isReached s m args below meth c C Y A 3 (MQ below (va_Qi post (ky_B C Y A) A) args s 0 0 A) 2 [(0, .ref (Y.2.1 k0)), (1, .int v1), (2, .int v2)] [] I := by
  intro n2
  induction n2 with
  | zero => intro k0 v1 v2 I hw; exact False.elim hw
  | succ n2 ih =>
    intro k0 v1 v2 I hw
    refine kg_iload_n X 2 dX7_isReached_2 rfl rfl ?_
    refine kg_aload_n X 0 dX7_isReached_3 rfl rfl ?_
    obtain ⟨h1, hw⟩ := hw
    refine kg_getI (j := 7) X kc_7 h1 (by decide) (by decide) rfl kw_647 dX7_isReached_4 ?_
    refine kg_icmp_ge (tgt := 86) X dX7_isReached_7 (by decide) (fun h10 => ?_) (fun h10 => ?_)
    · have hw := hw.1 h10
      refine kg_sub [] rfl ?_
      exact hx_86 _  hw
    · have hw := hw.2 h10
      refine kg_aload_n X 0 dX7_isReached_10 rfl rfl ?_
      refine kg_getR (j := 8) X kc_7 h1 (by decide) (by decide) rfl kw_648 dX7_isReached_11 ?_
      refine kg_iload_n X 2 dX7_isReached_14 rfl rfl ?_
      obtain ⟨h2, hw⟩ := hw
      obtain ⟨h3, hw⟩ := hw
      refine kg_iald X h2 h3 dX7_isReached_15 ?_
      refine kg_iload_n X 1 dX7_isReached_16 rfl rfl ?_
      refine kg_bipush (v := (16 : Int32)) X dX7_isReached_17 (by decide) ?_
      refine kg_idiv X dX7_isReached_19 (by decide) ?_
      refine kg_icmp_ne (tgt := 80) X dX7_isReached_20 (by decide) (fun h9 => ?_) (fun h9 => ?_)
      · have hw := hw.1 h9
        refine kg_iinc (dd := (1 : Int32)) (lvf := fun x4 => [(2, .int x4), (0, .ref (Y.2.1 k0)), (1, .int v1)]) X 2 dX7_isReached_80 rfl (by decide) (by decide) (fun _ => rfl) (fun x4 ex4 => ?_)
        have hw := hw x4 ex4
        refine kg_goto (tgt := 2) X dX7_isReached_83 (by decide) ?_
        refine kg_sub [1, 2, 0] rfl ?_
        exact ih _ _ _ _  hw
      · have hw := hw.2 h9
        refine kg_aload_n X 0 dX7_isReached_23 rfl rfl ?_
        refine kg_iload_n X 2 dX7_isReached_24 rfl rfl ?_
        refine kg_iload_n X 1 dX7_isReached_25 rfl rfl ?_
        refine kg_bipush (v := (16 : Int32)) X dX7_isReached_26 (by decide) ?_
        refine kg_irem X dX7_isReached_28 (by decide) ?_
        refine kg_callVi (n := 2) (As := [.int v2, .int (v1 - v1 / (16 : Int32) * (16 : Int32))]) X (c_X7_isFound l C Y A I k0 v2 (v1 - v1 / (16 : Int32) * (16 : Int32)) _ hw) kc_7 h1 rfl iv_X7_isFound kw_829 (by decide +kernel) (by decide) rfl rfl (Nat.le_of_ble_eq_true rfl) dX7_isReached_29 (fun r6 I5 hw => ?_)
        refine kg_if_eq (tgt := 80) X dX7_isReached_32 (by decide) (fun h8 => ?_) (fun h8 => ?_)
        · have hw := hw.1 h8
          refine kg_iinc (dd := (1 : Int32)) (lvf := fun x7 => [(2, .int x7), (0, .ref (Y.2.1 k0)), (1, .int v1)]) X 2 dX7_isReached_80 rfl (by decide) (by decide) (fun _ => rfl) (fun x7 ex7 => ?_)
          have hw := hw x7 ex7
          refine kg_goto (tgt := 2) X dX7_isReached_83 (by decide) ?_
          refine kg_sub [1, 2, 0] rfl ?_
          exact ih _ _ _ _  hw
        · have hw := hw.2 h8
          refine kg_sub [0, 1, 2] rfl ?_
          exact hx_35 _ _ _ _  hw
def w_X7_isReached (Y : Ly) (I : Mm) (k0 : Nat) (v1 : Int32) (post : Int32 → Mm → Prop) : Prop := (∃ n2 : Nat, w_X7_isReached_L2 Y post (fun k12 v13 v14 I11 => (ky_is Y k12 7 ∧ (ky_is Y (ky_rp Y k12 17) 8 ∧ (vp_in v13 (ky_ln Y (ky_rp Y k12 17)) ∧ (∀ I18 : Mm, I18 = ky_up I11 (ky_rp Y k12 17) v13.toNatClampNeg (I11 k12 20) → (ky_is Y (ky_rp Y k12 18) 8 ∧ (vp_in v13 (ky_ln Y (ky_rp Y k12 18)) ∧ (∀ I21 : Mm, I21 = ky_up I18 (ky_rp Y k12 18) v13.toNatClampNeg v14 → (ky_is Y (ky_rp Y k12 19) 8 ∧ (vp_in ((2 : Int32) * v13) (ky_ln Y (ky_rp Y k12 19)) ∧ (∀ I24 : Mm, I24 = ky_up I21 (ky_rp Y k12 19) ((2 : Int32) * v13).toNatClampNeg (I21 k12 37) → (vp_in (((2 : Int32) * v13) + (1 : Int32)) (ky_ln Y (ky_rp Y k12 19)) ∧ (∀ I26 : Mm, I26 = ky_up I24 (ky_rp Y k12 19) (((2 : Int32) * v13) + (1 : Int32)).toNatClampNeg (I24 k12 38) → post (1 : Int32) I26))))))))))))) (fun I27 => post (0 : Int32) I27) n2 k0 v1 (0 : Int32) I)
set_option maxHeartbeats 4000000 in
set_option maxRecDepth 100000 in
theorem c_X7_isReached (l : Launch) (C : Cc) (Y : Ly) (A : Nat → Prop) (I : Mm) (k0 : Nat) (v1 : Int32) (post : Int32 → Mm → Prop) (hw : w_X7_isReached Y I k0 v1 post) : ky_MI l yX7_isReached cX7_isReached 3 (some .boolean) rm_X7_isReached C Y A I [.ref (Y.2.1 k0), .int v1] post := by
  refine ky_met (by decide) (Nat.le_of_ble_eq_true rfl) ?_
  intro p e s m args below meth c X hr
  have X : ky_X p s m args meth c C cX7_isReached 3 RX7 := X
  show ky_G p l e rm_X7_isReached s m args below meth c C Y A 3 (MQ below (va_Qi post (ky_B C Y A) A) args s 0 0 A) 0 [(0, .ref (Y.2.1 k0)), (1, .int v1)] [] I
  refine kg_iconst (v := (0 : Int32)) X dX7_isReached_0 (by decide) ?_
  refine kg_istore_n (lv' := [(2, .int (0 : Int32)), (0, .ref (Y.2.1 k0)), (1, .int v1)]) X dX7_isReached_1 rfl (by decide) rfl ?_
  obtain ⟨n2, hw⟩ := hw
  refine kg_sub [1, 2, 0] rfl ?_
  refine s_X7_isReached_L2 X hr post _ _ ?_ ?_ n2 _ _ _ _  hw
  · intro k12 v13 v14 I11 hw
    refine kg_aload_n X 0 dX7_isReached_35 rfl rfl ?_
    obtain ⟨h15, hw⟩ := hw
    refine kg_getR (j := 17) X kc_7 h15 (by decide) (by decide) rfl kw_657 dX7_isReached_36 ?_
    refine kg_iload_n X 1 dX7_isReached_39 rfl rfl ?_
    refine kg_aload_n X 0 dX7_isReached_40 rfl rfl ?_
    refine kg_getI (j := 20) X kc_7 h15 (by decide) (by decide) rfl kw_660 dX7_isReached_41 ?_
    obtain ⟨h16, hw⟩ := hw
    obtain ⟨h17, hw⟩ := hw
    refine kg_iast X h16 h17 dX7_isReached_44 ?_
    refine kg_topm (fun I18 eI18 => ?_)
    have hw := hw I18 eI18
    refine kg_aload_n X 0 dX7_isReached_45 rfl rfl ?_
    refine kg_getR (j := 18) X kc_7 h15 (by decide) (by decide) rfl kw_658 dX7_isReached_46 ?_
    refine kg_iload_n X 1 dX7_isReached_49 rfl rfl ?_
    refine kg_iload_n X 2 dX7_isReached_50 rfl rfl ?_
    obtain ⟨h19, hw⟩ := hw
    obtain ⟨h20, hw⟩ := hw
    refine kg_iast X h19 h20 dX7_isReached_51 ?_
    refine kg_topm (fun I21 eI21 => ?_)
    have hw := hw I21 eI21
    refine kg_aload_n X 0 dX7_isReached_52 rfl rfl ?_
    refine kg_getR (j := 19) X kc_7 h15 (by decide) (by decide) rfl kw_659 dX7_isReached_53 ?_
    refine kg_iconst (v := (2 : Int32)) X dX7_isReached_56 (by decide) ?_
    refine kg_iload_n X 1 dX7_isReached_57 rfl rfl ?_
    refine kg_imul X dX7_isReached_58 ?_
    refine kg_aload_n X 0 dX7_isReached_59 rfl rfl ?_
    refine kg_getI (j := 37) X kc_7 h15 (by decide) (by decide) rfl kw_677 dX7_isReached_60 ?_
    obtain ⟨h22, hw⟩ := hw
    obtain ⟨h23, hw⟩ := hw
    refine kg_iast X h22 h23 dX7_isReached_63 ?_
    refine kg_topm (fun I24 eI24 => ?_)
    have hw := hw I24 eI24
    refine kg_aload_n X 0 dX7_isReached_64 rfl rfl ?_
    refine kg_getR (j := 19) X kc_7 h15 (by decide) (by decide) rfl kw_659 dX7_isReached_65 ?_
    refine kg_iconst (v := (2 : Int32)) X dX7_isReached_68 (by decide) ?_
    refine kg_iload_n X 1 dX7_isReached_69 rfl rfl ?_
    refine kg_imul X dX7_isReached_70 ?_
    refine kg_iconst (v := (1 : Int32)) X dX7_isReached_71 (by decide) ?_
    refine kg_iadd X dX7_isReached_72 ?_
    refine kg_aload_n X 0 dX7_isReached_73 rfl rfl ?_
    refine kg_getI (j := 38) X kc_7 h15 (by decide) (by decide) rfl kw_678 dX7_isReached_74 ?_
    obtain ⟨h25, hw⟩ := hw
    refine kg_iast X h22 h25 dX7_isReached_77 ?_
    refine kg_topm (fun I26 eI26 => ?_)
    have hw := hw I26 eI26
    refine kg_iconst (v := (1 : Int32)) X dX7_isReached_78 (by decide) ?_
    exact kg_zret X hr (by decide) hw dX7_isReached_79
  · intro I27 hw
    refine kg_iconst (v := (0 : Int32)) X dX7_isReached_86 (by decide) ?_
    exact kg_zret X hr (by decide) hw dX7_isReached_87
end
abbrev rm_X7_next : Room := { frames := 5, cells := 0, slots := 0, locals := 128 }
section
variable {p : Program} {l : Launch} {e : Env} {s : State} {m : MethodId} {args : Array Value} {below : List Frame} {meth : Method} {c : Code} {C : Cc} {Y : Ly} {A : Nat → Prop}
def w_X7_next_L12 (Y : Ly) (post : Int32 → Mm → Prop) (ex_38 : Nat → Int32 → Mm → Prop) (ex_75 : Nat → Mm → Prop) : Nat → Nat → Int32 → Mm → Prop
  | 0, _, _, _ => False
  | n12 + 1, k0, v1, I => (ky_is Y k0 7 ∧ (((I k0 7) ≤ v1 → ex_75 k0 I) ∧ (¬ (I k0 7) ≤ v1 → (ky_is Y (ky_rp Y k0 8) 8 ∧ (vp_in v1 (ky_ln Y (ky_rp Y k0 8)) ∧ ((0 ≤ (I (ky_rp Y k0 8) v1.toNatClampNeg) → (∀ x6 : Int32, x6 = v1 + (1 : Int32) → w_X7_next_L12 Y post ex_38 ex_75 n12 k0 x6 I)) ∧ (¬ 0 ≤ (I (ky_rp Y k0 8) v1.toNatClampNeg) → w_X7_isFound Y I k0 v1 (-1 : Int32) (fun r8 I7 => ((r8 = 0 → (∀ x9 : Int32, x9 = v1 + (1 : Int32) → w_X7_next_L12 Y post ex_38 ex_75 n12 k0 x9 I7)) ∧ (¬ r8 = 0 → ex_38 k0 v1 I7))))))))))
set_option maxHeartbeats 4000000 in
set_option maxRecDepth 100000 in
theorem s_X7_next_L12 (X : ky_X p s m args meth c C cX7_next 3 RX7) (hr : meth.sig.returnType = some .int) (post : Int32 → Mm → Prop) (ex_38 : Nat → Int32 → Mm → Prop) (ex_75 : Nat → Mm → Prop) (hx_38 : ∀ (k0 : Nat) (v1 : Int32) (J : Mm), ex_38 k0 v1 J → ky_G p l e rm_X7_next s m args below meth c C Y A 3 (MQ below (va_Qi post (ky_B C Y A) A) args s 0 0 A) 38 [(0, .ref (Y.2.1 k0)), (1, .int v1)] [] J) (hx_75 : ∀ (k0 : Nat) (J : Mm), ex_75 k0 J → ky_G p l e rm_X7_next s m args below meth c C Y A 3 (MQ below (va_Qi post (ky_B C Y A) A) args s 0 0 A) 75 [(0, .ref (Y.2.1 k0))] [] J) : ∀ (n12 : Nat) (k0 : Nat) (v1 : Int32) (I : Mm), w_X7_next_L12 Y post ex_38 ex_75 n12 k0 v1 I → ky_G p l e rm_X7_next s m args below meth c C Y A 3 (MQ below (va_Qi post (ky_B C Y A) A) args s 0 0 A) 12 [(0, .ref (Y.2.1 k0)), (1, .int v1)] [] I := by
  intro n12
  induction n12 with
  | zero => intro k0 v1 I hw; exact False.elim hw
  | succ n12 ih =>
    intro k0 v1 I hw
    refine kg_iload_n X 1 dX7_next_12 rfl rfl ?_
    refine kg_aload_n X 0 dX7_next_13 rfl rfl ?_
    obtain ⟨h3, hw⟩ := hw
    refine kg_getI (j := 7) X kc_7 h3 (by decide) (by decide) rfl kw_647 dX7_next_14 ?_
    refine kg_icmp_ge (tgt := 75) X dX7_next_17 (by decide) (fun h12 => ?_) (fun h12 => ?_)
    · have hw := hw.1 h12
      refine kg_sub [0] rfl ?_
      exact hx_75 _ _  hw
    · have hw := hw.2 h12
      refine kg_aload_n X 0 dX7_next_20 rfl rfl ?_
      refine kg_getR (j := 8) X kc_7 h3 (by decide) (by decide) rfl kw_648 dX7_next_21 ?_
      refine kg_iload_n X 1 dX7_next_24 rfl rfl ?_
      obtain ⟨h4, hw⟩ := hw
      obtain ⟨h5, hw⟩ := hw
      refine kg_iald X h4 h5 dX7_next_25 ?_
      refine kg_if_ge (tgt := 69) X dX7_next_26 (by decide) (fun h11 => ?_) (fun h11 => ?_)
      · have hw := hw.1 h11
        refine kg_iinc (dd := (1 : Int32)) (lvf := fun x6 => [(1, .int x6), (0, .ref (Y.2.1 k0))]) X 1 dX7_next_69 rfl (by decide) (by decide) (fun _ => rfl) (fun x6 ex6 => ?_)
        have hw := hw x6 ex6
        refine kg_goto (tgt := 12) X dX7_next_72 (by decide) ?_
        refine kg_sub [1, 0] rfl ?_
        exact ih _ _ _  hw
      · have hw := hw.2 h11
        refine kg_aload_n X 0 dX7_next_29 rfl rfl ?_
        refine kg_iload_n X 1 dX7_next_30 rfl rfl ?_
        refine kg_iconst (v := (-1 : Int32)) X dX7_next_31 (by decide) ?_
        refine kg_callVi (n := 2) (As := [.int v1, .int (-1 : Int32)]) X (c_X7_isFound l C Y A I k0 v1 (-1 : Int32) _ hw) kc_7 h3 rfl iv_X7_isFound kw_829 (by decide +kernel) (by decide) rfl rfl (Nat.le_of_ble_eq_true rfl) dX7_next_32 (fun r8 I7 hw => ?_)
        refine kg_if_eq (tgt := 69) X dX7_next_35 (by decide) (fun h10 => ?_) (fun h10 => ?_)
        · have hw := hw.1 h10
          refine kg_iinc (dd := (1 : Int32)) (lvf := fun x9 => [(1, .int x9), (0, .ref (Y.2.1 k0))]) X 1 dX7_next_69 rfl (by decide) (by decide) (fun _ => rfl) (fun x9 ex9 => ?_)
          have hw := hw x9 ex9
          refine kg_goto (tgt := 12) X dX7_next_72 (by decide) ?_
          refine kg_sub [1, 0] rfl ?_
          exact ih _ _ _  hw
        · have hw := hw.2 h10
          refine kg_sub [0, 1] rfl ?_
          exact hx_38 _ _ _  hw
def w_X7_next_L79 (Y : Ly) (post : Int32 → Mm → Prop) (ex_131 : Nat → Int32 → Mm → Prop) : Nat → Nat → Int32 → Int32 → Mm → Prop
  | 0, _, _, _, _ => False
  | n79 + 1, k0, v1, v2, I => (ky_is Y k0 7 ∧ ((((16 : Int32) * (I k0 1)) ≤ v2 → ex_131 k0 v1 I) ∧ (¬ ((16 : Int32) * (I k0 1)) ≤ v2 → w_X7_cubesOf Y I k0 (v2 / (16 : Int32)) (fun r28 I27 => ((r28 ≤ (v2 - v2 / (16 : Int32) * (16 : Int32)) → (∀ x29 : Int32, x29 = v2 + (1 : Int32) → w_X7_next_L79 Y post ex_131 n79 k0 v1 x29 I27)) ∧ (¬ r28 ≤ (v2 - v2 / (16 : Int32) * (16 : Int32)) → (ky_is Y (ky_rp Y k0 17) 8 ∧ (vp_in v2 (ky_ln Y (ky_rp Y k0 17)) ∧ ((¬ (I27 (ky_rp Y k0 17) v2.toNatClampNeg) = 0 → (∀ x32 : Int32, x32 = v2 + (1 : Int32) → w_X7_next_L79 Y post ex_131 n79 k0 v1 x32 I27)) ∧ ((I27 (ky_rp Y k0 17) v2.toNatClampNeg) = 0 → w_X7_isReached Y I27 k0 v2 (fun r34 I33 => ((r34 = 0 → (∀ x35 : Int32, x35 = v2 + (1 : Int32) → w_X7_next_L79 Y post ex_131 n79 k0 v1 x35 I33)) ∧ (¬ r34 = 0 → (∀ x36 : Int32, x36 = v1 + (1 : Int32) → (∀ x37 : Int32, x37 = v2 + (1 : Int32) → w_X7_next_L79 Y post ex_131 n79 k0 x36 x37 I33)))))))))))))))
set_option maxHeartbeats 4000000 in
set_option maxRecDepth 100000 in
theorem s_X7_next_L79 (X : ky_X p s m args meth c C cX7_next 3 RX7) (hr : meth.sig.returnType = some .int) (post : Int32 → Mm → Prop) (ex_131 : Nat → Int32 → Mm → Prop) (hx_131 : ∀ (k0 : Nat) (v1 : Int32) (J : Mm), ex_131 k0 v1 J → ky_G p l e rm_X7_next s m args below meth c C Y A 3 (MQ below (va_Qi post (ky_B C Y A) A) args s 0 0 A) 131 [(0, .ref (Y.2.1 k0)), (1, .int v1)] [] J) : ∀ (n79 : Nat) (k0 : Nat) (v1 : Int32) (v2 : Int32) (I : Mm), w_X7_next_L79 Y post ex_131 n79 k0 v1 v2 I → ky_G p l e rm_X7_next s m args below meth c C Y A 3 (MQ below (va_Qi post (ky_B C Y A) A) args s 0 0 A) 79 [(0, .ref (Y.2.1 k0)), (1, .int v1), (2, .int v2)] [] I := by
  intro n79
  induction n79 with
  | zero => intro k0 v1 v2 I hw; exact False.elim hw
  | succ n79 ih =>
    intro k0 v1 v2 I hw
    refine kg_iload_n X 2 dX7_next_79 rfl rfl ?_
    refine kg_bipush (v := (16 : Int32)) X dX7_next_80 (by decide) ?_
    refine kg_aload_n X 0 dX7_next_82 rfl rfl ?_
    obtain ⟨h26, hw⟩ := hw
    refine kg_getI (j := 1) X kc_7 h26 (by decide) (by decide) rfl kw_641 dX7_next_83 ?_
    refine kg_imul X dX7_next_86 ?_
    refine kg_icmp_ge (tgt := 131) X dX7_next_87 (by decide) (fun h41 => ?_) (fun h41 => ?_)
    · have hw := hw.1 h41
      refine kg_sub [0, 1] rfl ?_
      exact hx_131 _ _ _  hw
    · have hw := hw.2 h41
      refine kg_iload_n X 2 dX7_next_90 rfl rfl ?_
      refine kg_bipush (v := (16 : Int32)) X dX7_next_91 (by decide) ?_
      refine kg_irem X dX7_next_93 (by decide) ?_
      refine kg_aload_n X 0 dX7_next_94 rfl rfl ?_
      refine kg_iload_n X 2 dX7_next_95 rfl rfl ?_
      refine kg_bipush (v := (16 : Int32)) X dX7_next_96 (by decide) ?_
      refine kg_idiv X dX7_next_98 (by decide) ?_
      refine kg_callVi (n := 1) (As := [.int (v2 / (16 : Int32))]) X (c_X7_cubesOf l C Y A I k0 (v2 / (16 : Int32)) _ hw) kc_7 h26 rfl iv_X7_cubesOf kw_833 (by decide +kernel) (by decide) rfl rfl (Nat.le_of_ble_eq_true rfl) dX7_next_99 (fun r28 I27 hw => ?_)
      refine kg_icmp_ge (tgt := 125) X dX7_next_102 (by decide) (fun h40 => ?_) (fun h40 => ?_)
      · have hw := hw.1 h40
        refine kg_iinc (dd := (1 : Int32)) (lvf := fun x29 => [(2, .int x29), (0, .ref (Y.2.1 k0)), (1, .int v1)]) X 2 dX7_next_125 rfl (by decide) (by decide) (fun _ => rfl) (fun x29 ex29 => ?_)
        have hw := hw x29 ex29
        refine kg_goto (tgt := 79) X dX7_next_128 (by decide) ?_
        refine kg_sub [1, 2, 0] rfl ?_
        exact ih _ _ _ _  hw
      · have hw := hw.2 h40
        refine kg_aload_n X 0 dX7_next_105 rfl rfl ?_
        refine kg_getR (j := 17) X kc_7 h26 (by decide) (by decide) rfl kw_657 dX7_next_106 ?_
        refine kg_iload_n X 2 dX7_next_109 rfl rfl ?_
        obtain ⟨h30, hw⟩ := hw
        obtain ⟨h31, hw⟩ := hw
        refine kg_iald X h30 h31 dX7_next_110 ?_
        refine kg_if_ne (tgt := 125) X dX7_next_111 (by decide) (fun h39 => ?_) (fun h39 => ?_)
        · have hw := hw.1 h39
          refine kg_iinc (dd := (1 : Int32)) (lvf := fun x32 => [(2, .int x32), (0, .ref (Y.2.1 k0)), (1, .int v1)]) X 2 dX7_next_125 rfl (by decide) (by decide) (fun _ => rfl) (fun x32 ex32 => ?_)
          have hw := hw x32 ex32
          refine kg_goto (tgt := 79) X dX7_next_128 (by decide) ?_
          refine kg_sub [1, 2, 0] rfl ?_
          exact ih _ _ _ _  hw
        · have hw := hw.2 h39
          refine kg_aload_n X 0 dX7_next_114 rfl rfl ?_
          refine kg_iload_n X 2 dX7_next_115 rfl rfl ?_
          refine kg_callVi (n := 1) (As := [.int v2]) X (c_X7_isReached l C Y A I27 k0 v2 _ hw) kc_7 h26 rfl iv_X7_isReached kw_878 (by decide +kernel) (by decide) rfl rfl (Nat.le_of_ble_eq_true rfl) dX7_next_116 (fun r34 I33 hw => ?_)
          refine kg_if_eq (tgt := 125) X dX7_next_119 (by decide) (fun h38 => ?_) (fun h38 => ?_)
          · have hw := hw.1 h38
            refine kg_iinc (dd := (1 : Int32)) (lvf := fun x35 => [(2, .int x35), (0, .ref (Y.2.1 k0)), (1, .int v1)]) X 2 dX7_next_125 rfl (by decide) (by decide) (fun _ => rfl) (fun x35 ex35 => ?_)
            have hw := hw x35 ex35
            refine kg_goto (tgt := 79) X dX7_next_128 (by decide) ?_
            refine kg_sub [1, 2, 0] rfl ?_
            exact ih _ _ _ _  hw
          · have hw := hw.2 h38
            refine kg_iinc (dd := (1 : Int32)) (lvf := fun x36 => [(1, .int x36), (0, .ref (Y.2.1 k0)), (2, .int v2)]) X 1 dX7_next_122 rfl (by decide) (by decide) (fun _ => rfl) (fun x36 ex36 => ?_)
            have hw := hw x36 ex36
            refine kg_iinc (dd := (1 : Int32)) (lvf := fun x37 => [(2, .int x37), (1, .int x36), (0, .ref (Y.2.1 k0))]) X 2 dX7_next_125 rfl (by decide) (by decide) (fun _ => rfl) (fun x37 ex37 => ?_)
            have hw := hw x37 ex37
            refine kg_goto (tgt := 79) X dX7_next_128 (by decide) ?_
            refine kg_sub [2, 1, 0] rfl ?_
            exact ih _ _ _ _  hw
def w_X7_next (Y : Ly) (I : Mm) (k0 : Nat) (post : Int32 → Mm → Prop) : Prop := (ky_is Y k0 7 ∧ (∀ I2 : Mm, I2 = ky_up I k0 20 ((I k0 20) + (1 : Int32)) → (∃ n12 : Nat, w_X7_next_L12 Y post (fun k14 v15 I13 => (ky_is Y k14 7 ∧ (∀ I17 : Mm, I17 = ky_up I13 k14 21 v15 → (ky_is Y (ky_rp Y k14 22) 8 ∧ (vp_in (0 : Int32) (ky_ln Y (ky_rp Y k14 22)) ∧ (∀ I20 : Mm, I20 = ky_up I17 (ky_rp Y k14 22) (0 : Int32).toNatClampNeg (I17 k14 37) → (vp_in (1 : Int32) (ky_ln Y (ky_rp Y k14 22)) ∧ (∀ I22 : Mm, I22 = ky_up I20 (ky_rp Y k14 22) (1 : Int32).toNatClampNeg (I20 k14 38) → w_X7_grow Y I22 k14 (fun I23 => post (0 : Int32) I23))))))))) (fun k25 I24 => (∃ n79 : Nat, w_X7_next_L79 Y post (fun k43 v44 I42 => ((¬ v44 = 0 → (ky_is Y k43 7 ∧ (∀ I46 : Mm, I46 = ky_up I42 k43 23 (0 : Int32) → post v44 I46))) ∧ (v44 = 0 → (ky_is Y k43 7 ∧ (∀ I48 : Mm, I48 = ky_up I42 k43 23 (1 : Int32) → post v44 I48))))) n79 k25 (0 : Int32) (0 : Int32) I24)) n12 k0 (0 : Int32) I2)))
set_option maxHeartbeats 4000000 in
set_option maxRecDepth 100000 in
theorem c_X7_next (l : Launch) (C : Cc) (Y : Ly) (A : Nat → Prop) (I : Mm) (k0 : Nat) (post : Int32 → Mm → Prop) (hw : w_X7_next Y I k0 post) : ky_MI l yX7_next cX7_next 3 (some .int) rm_X7_next C Y A I [.ref (Y.2.1 k0)] post := by
  refine ky_met (by decide) (Nat.le_of_ble_eq_true rfl) ?_
  intro p e s m args below meth c X hr
  have X : ky_X p s m args meth c C cX7_next 3 RX7 := X
  show ky_G p l e rm_X7_next s m args below meth c C Y A 3 (MQ below (va_Qi post (ky_B C Y A) A) args s 0 0 A) 0 [(0, .ref (Y.2.1 k0))] [] I
  refine kg_aload_n X 0 dX7_next_0 rfl rfl ?_
  refine kg_dup X dX7_next_1 rfl ?_
  obtain ⟨h1, hw⟩ := hw
  refine kg_getI (j := 20) X kc_7 h1 (by decide) (by decide) rfl kw_660 dX7_next_2 ?_
  refine kg_iconst (v := (1 : Int32)) X dX7_next_5 (by decide) ?_
  refine kg_iadd X dX7_next_6 ?_
  refine kg_putI (ci := 7) (Tn := TX7) (j := 20) (ty := .int) X tyX7 tyX7_ok nmX7 kc_7 h1 (by decide) (by decide) rfl kw_660 (by decide +kernel) rfl rfl dX7_next_7 ?_
  refine kg_topm (fun I2 eI2 => ?_)
  have hw := hw I2 eI2
  refine kg_iconst (v := (0 : Int32)) X dX7_next_10 (by decide) ?_
  refine kg_istore_n (lv' := [(1, .int (0 : Int32)), (0, .ref (Y.2.1 k0))]) X dX7_next_11 rfl (by decide) rfl ?_
  obtain ⟨n12, hw⟩ := hw
  refine kg_sub [1, 0] rfl ?_
  refine s_X7_next_L12 X hr post _ _ ?_ ?_ n12 _ _ _  hw
  · intro k14 v15 I13 hw
    refine kg_aload_n X 0 dX7_next_38 rfl rfl ?_
    refine kg_iload_n X 1 dX7_next_39 rfl rfl ?_
    obtain ⟨h16, hw⟩ := hw
    refine kg_putI (ci := 7) (Tn := TX7) (j := 21) (ty := .int) X tyX7 tyX7_ok nmX7 kc_7 h16 (by decide) (by decide) rfl kw_661 (by decide +kernel) rfl rfl dX7_next_40 ?_
    refine kg_topm (fun I17 eI17 => ?_)
    have hw := hw I17 eI17
    refine kg_aload_n X 0 dX7_next_43 rfl rfl ?_
    refine kg_getR (j := 22) X kc_7 h16 (by decide) (by decide) rfl kw_662 dX7_next_44 ?_
    refine kg_iconst (v := (0 : Int32)) X dX7_next_47 (by decide) ?_
    refine kg_aload_n X 0 dX7_next_48 rfl rfl ?_
    refine kg_getI (j := 37) X kc_7 h16 (by decide) (by decide) rfl kw_677 dX7_next_49 ?_
    obtain ⟨h18, hw⟩ := hw
    obtain ⟨h19, hw⟩ := hw
    refine kg_iast X h18 h19 dX7_next_52 ?_
    refine kg_topm (fun I20 eI20 => ?_)
    have hw := hw I20 eI20
    refine kg_aload_n X 0 dX7_next_53 rfl rfl ?_
    refine kg_getR (j := 22) X kc_7 h16 (by decide) (by decide) rfl kw_662 dX7_next_54 ?_
    refine kg_iconst (v := (1 : Int32)) X dX7_next_57 (by decide) ?_
    refine kg_aload_n X 0 dX7_next_58 rfl rfl ?_
    refine kg_getI (j := 38) X kc_7 h16 (by decide) (by decide) rfl kw_678 dX7_next_59 ?_
    obtain ⟨h21, hw⟩ := hw
    refine kg_iast X h18 h21 dX7_next_62 ?_
    refine kg_topm (fun I22 eI22 => ?_)
    have hw := hw I22 eI22
    refine kg_aload_n X 0 dX7_next_63 rfl rfl ?_
    refine kg_callVv (n := 0) (As := []) X (c_X7_grow l C Y A I22 k14 _ hw) kc_7 h16 rfl iv_X7_grow kw_866 (by decide +kernel) (by decide) rfl rfl (Nat.le_of_ble_eq_true rfl) dX7_next_64 (fun I23 hw => ?_)
    refine kg_iconst (v := (0 : Int32)) X dX7_next_67 (by decide) ?_
    exact kg_iret X hr hw dX7_next_68
  · intro k25 I24 hw
    refine kg_iconst (v := (0 : Int32)) X dX7_next_75 (by decide) ?_
    refine kg_istore_n (lv' := [(1, .int (0 : Int32)), (0, .ref (Y.2.1 k25))]) X dX7_next_76 rfl (by decide) rfl ?_
    refine kg_iconst (v := (0 : Int32)) X dX7_next_77 (by decide) ?_
    refine kg_istore_n (lv' := [(2, .int (0 : Int32)), (1, .int (0 : Int32)), (0, .ref (Y.2.1 k25))]) X dX7_next_78 rfl (by decide) rfl ?_
    obtain ⟨n79, hw⟩ := hw
    refine kg_sub [2, 1, 0] rfl ?_
    refine s_X7_next_L79 X hr post _ ?_ n79 _ _ _ _  hw
    · intro k43 v44 I42 hw
      refine kg_aload_n X 0 dX7_next_131 rfl rfl ?_
      refine kg_iload_n X 1 dX7_next_132 rfl rfl ?_
      refine kg_if_ne (tgt := 140) X dX7_next_133 (by decide) (fun h49 => ?_) (fun h49 => ?_)
      · have hw := hw.1 h49
        refine kg_iconst (v := (0 : Int32)) X dX7_next_140 (by decide) ?_
        obtain ⟨h45, hw⟩ := hw
        refine kg_putI (ci := 7) (Tn := TX7) (j := 23) (ty := .int) X tyX7 tyX7_ok nmX7 kc_7 h45 (by decide) (by decide) rfl kw_663 (by decide +kernel) rfl rfl dX7_next_141 ?_
        refine kg_topm (fun I46 eI46 => ?_)
        have hw := hw I46 eI46
        refine kg_iload_n X 1 dX7_next_144 rfl rfl ?_
        exact kg_iret X hr hw dX7_next_145
      · have hw := hw.2 h49
        refine kg_iconst (v := (1 : Int32)) X dX7_next_136 (by decide) ?_
        refine kg_goto (tgt := 141) X dX7_next_137 (by decide) ?_
        obtain ⟨h47, hw⟩ := hw
        refine kg_putI (ci := 7) (Tn := TX7) (j := 23) (ty := .int) X tyX7 tyX7_ok nmX7 kc_7 h47 (by decide) (by decide) rfl kw_663 (by decide +kernel) rfl rfl dX7_next_141 ?_
        refine kg_topm (fun I48 eI48 => ?_)
        have hw := hw I48 eI48
        refine kg_iload_n X 1 dX7_next_144 rfl rfl ?_
        exact kg_iret X hr hw dX7_next_145
end
abbrev rm_X7_round : Room := { frames := 6, cells := 0, slots := 0, locals := 150 }
section
variable {p : Program} {l : Launch} {e : Env} {s : State} {m : MethodId} {args : Array Value} {below : List Frame} {meth : Method} {c : Code} {C : Cc} {Y : Ly} {A : Nat → Prop}
def w_X7_round_B20 (Y : Ly) (post : Int32 → Mm → Prop) (k0 : Nat) (s0 : Int32) (t1 : Nat) (I : Mm) : Prop := (ky_is Y t1 7 ∧ (∀ I3 : Mm, I3 = ky_up I t1 0 s0 → (ky_is Y k0 7 ∧ (((I3 k0 0) ≤ 0 → w_X7_next Y I3 k0 (fun r6 I5 => post r6 I5)) ∧ (¬ (I3 k0 0) ≤ 0 → post (0 : Int32) I3)))))
set_option maxHeartbeats 4000000 in
set_option maxRecDepth 100000 in
theorem s_X7_round_B20 (X : ky_X p s m args meth c C cX7_round 1 RX7) (hr : meth.sig.returnType = some .int) (post : Int32 → Mm → Prop) (k0 : Nat) (s0 : Int32) (t1 : Nat) (I : Mm) (hw : w_X7_round_B20 Y post k0 s0 t1 I) : ky_G p l e rm_X7_round s m args below meth c C Y A 1 (MQ below (va_Qi post (ky_B C Y A) A) args s 0 0 A) 20 [(0, .ref (Y.2.1 k0))] [.int s0, .ref (Y.2.1 t1)] I := by
  obtain ⟨h2, hw⟩ := hw
  refine kg_putI (ci := 7) (Tn := TX7) (j := 0) (ty := .int) X tyX7 tyX7_ok nmX7 kc_7 h2 (by decide) (by decide) rfl kw_640 (by decide +kernel) rfl rfl dX7_round_20 ?_
  refine kg_topm (fun I3 eI3 => ?_)
  have hw := hw I3 eI3
  refine kg_aload_n X 0 dX7_round_23 rfl rfl ?_
  obtain ⟨h4, hw⟩ := hw
  refine kg_getI (j := 0) X kc_7 h4 (by decide) (by decide) rfl kw_640 dX7_round_24 ?_
  refine kg_if_le (tgt := 32) X dX7_round_27 (by decide) (fun h7 => ?_) (fun h7 => ?_)
  · have hw := hw.1 h7
    refine kg_aload_n X 0 dX7_round_32 rfl rfl ?_
    refine kg_callVi (n := 0) (As := []) X (c_X7_next l C Y A I3 k0 _ hw) kc_7 h4 rfl iv_X7_next kw_825 (by decide +kernel) (by decide) rfl rfl (Nat.le_of_ble_eq_true rfl) dX7_round_33 (fun r6 I5 hw => ?_)
    exact kg_iret X hr hw dX7_round_36
  · have hw := hw.2 h7
    refine kg_iconst (v := (0 : Int32)) X dX7_round_30 (by decide) ?_
    exact kg_iret X hr hw dX7_round_31
def w_X7_round (Y : Ly) (I : Mm) (k0 : Nat) (post : Int32 → Mm → Prop) : Prop := (ky_is Y k0 7 ∧ ((0 < (I k0 23) → w_X7_round_B20 Y post k0 (1 : Int32) k0 I) ∧ (¬ 0 < (I k0 23) → (((I k0 21) < 0 → w_X7_round_B20 Y post k0 (0 : Int32) k0 I) ∧ (¬ (I k0 21) < 0 → w_X7_round_B20 Y post k0 (1 : Int32) k0 I)))))
set_option maxHeartbeats 4000000 in
set_option maxRecDepth 100000 in
theorem c_X7_round (l : Launch) (C : Cc) (Y : Ly) (A : Nat → Prop) (I : Mm) (k0 : Nat) (post : Int32 → Mm → Prop) (hw : w_X7_round Y I k0 post) : ky_MI l yX7_round cX7_round 1 (some .int) rm_X7_round C Y A I [.ref (Y.2.1 k0)] post := by
  refine ky_met (by decide) (Nat.le_of_ble_eq_true rfl) ?_
  intro p e s m args below meth c X hr
  have X : ky_X p s m args meth c C cX7_round 1 RX7 := X
  show ky_G p l e rm_X7_round s m args below meth c C Y A 1 (MQ below (va_Qi post (ky_B C Y A) A) args s 0 0 A) 0 [(0, .ref (Y.2.1 k0))] [] I
  refine kg_aload_n X 0 dX7_round_0 rfl rfl ?_
  refine kg_aload_n X 0 dX7_round_1 rfl rfl ?_
  obtain ⟨h1, hw⟩ := hw
  refine kg_getI (j := 23) X kc_7 h1 (by decide) (by decide) rfl kw_663 dX7_round_2 ?_
  refine kg_if_gt (tgt := 15) X dX7_round_5 (by decide) (fun h9 => ?_) (fun h9 => ?_)
  · have hw := hw.1 h9
    refine kg_iconst (v := (1 : Int32)) X dX7_round_15 (by decide) ?_
    refine kg_goto (tgt := 20) X dX7_round_16 (by decide) ?_
    refine kg_sub [0] rfl ?_
    exact s_X7_round_B20 X hr post _ _ _ _ hw
  · have hw := hw.2 h9
    refine kg_aload_n X 0 dX7_round_8 rfl rfl ?_
    refine kg_getI (j := 21) X kc_7 h1 (by decide) (by decide) rfl kw_661 dX7_round_9 ?_
    refine kg_if_lt (tgt := 19) X dX7_round_12 (by decide) (fun h8 => ?_) (fun h8 => ?_)
    · have hw := hw.1 h8
      refine kg_iconst (v := (0 : Int32)) X dX7_round_19 (by decide) ?_
      refine kg_sub [0] rfl ?_
      exact s_X7_round_B20 X hr post _ _ _ _ hw
    · have hw := hw.2 h8
      refine kg_iconst (v := (1 : Int32)) X dX7_round_15 (by decide) ?_
      refine kg_goto (tgt := 20) X dX7_round_16 (by decide) ?_
      refine kg_sub [0] rfl ?_
      exact s_X7_round_B20 X hr post _ _ _ _ hw
end
abbrev rm_X7_join : Room := { frames := 1, cells := 0, slots := 0, locals := 23 }
section
variable {p : Program} {l : Launch} {e : Env} {s : State} {m : MethodId} {args : Array Value} {below : List Frame} {meth : Method} {c : Code} {C : Cc} {Y : Ly} {A : Nat → Prop}
def w_X7_join_L26 (Y : Ly) (post : Mm → Prop) (ex_110 : Mm → Prop) : Nat → Nat → Int32 → Int32 → Int32 → Mm → Prop
  | 0, _, _, _, _, _ => False
  | n26 + 1, k0, v1, v3, v4, I => (ky_is Y k0 7 ∧ (ky_is Y (ky_rp Y k0 11) 8 ∧ (vp_in v3 (ky_ln Y (ky_rp Y k0 11)) ∧ (ky_is Y (ky_rp Y k0 2) 8 ∧ (vp_in (I (ky_rp Y k0 11) v3.toNatClampNeg) (ky_ln Y (ky_rp Y k0 2)) ∧ (((I (ky_rp Y k0 2) (I (ky_rp Y k0 11) v3.toNatClampNeg).toNatClampNeg) ≤ v4 → ex_110 I) ∧ (¬ (I (ky_rp Y k0 2) (I (ky_rp Y k0 11) v3.toNatClampNeg).toNatClampNeg) ≤ v4 → (ky_is Y (ky_rp Y k0 32) 8 ∧ (vp_in v1 (ky_ln Y (ky_rp Y k0 32)) ∧ (ky_is Y (ky_rp Y k0 12) 8 ∧ (vp_in (((2 : Int32) * v3) + v4) (ky_ln Y (ky_rp Y k0 12)) ∧ (∀ x19 : Int32, x19 = ((5 : Int32) * (I (ky_rp Y k0 32) v1.toNatClampNeg)) + (I (ky_rp Y k0 12) (((2 : Int32) * v3) + v4).toNatClampNeg) → (ky_is Y (ky_rp Y k0 31) 8 ∧ (vp_in v1 (ky_ln Y (ky_rp Y k0 31)) ∧ (ky_is Y (ky_rp Y k0 9) 8 ∧ (vp_in (((2 : Int32) * (I (ky_rp Y k0 31) v1.toNatClampNeg)) + v4) (ky_ln Y (ky_rp Y k0 9)) ∧ (∀ x24 : Int32, x24 = ((5 : Int32) * v1) + (I (ky_rp Y k0 9) (((2 : Int32) * (I (ky_rp Y k0 31) v1.toNatClampNeg)) + v4).toNatClampNeg) → w_X7_add Y I k0 x19 x24 (0 : Int32) (fun I25 => w_X7_add Y I25 k0 x24 x19 (0 : Int32) (fun I26 => (∀ x27 : Int32, x27 = v4 + (1 : Int32) → w_X7_join_L26 Y post ex_110 n26 k0 v1 v3 x27 I26))))))))))))))))))))
set_option maxHeartbeats 4000000 in
set_option maxRecDepth 100000 in
theorem s_X7_join_L26 (X : ky_X p s m args meth c C cX7_join 7 RX7) (hr : meth.sig.returnType = none) (post : Mm → Prop) (ex_110 : Mm → Prop) (hx_110 : ∀ (J : Mm), ex_110 J → ky_G p l e rm_X7_join s m args below meth c C Y A 7 (MQ below (va_Qv post (ky_B C Y A) A) args s 0 0 A) 110 [] [] J) : ∀ (n26 : Nat) (k0 : Nat) (v1 : Int32) (v3 : Int32) (v4 : Int32) (I : Mm), w_X7_join_L26 Y post ex_110 n26 k0 v1 v3 v4 I → ky_G p l e rm_X7_join s m args below meth c C Y A 7 (MQ below (va_Qv post (ky_B C Y A) A) args s 0 0 A) 26 [(0, .ref (Y.2.1 k0)), (1, .int v1), (3, .int v3), (4, .int v4)] [] I := by
  intro n26
  induction n26 with
  | zero => intro k0 v1 v3 v4 I hw; exact False.elim hw
  | succ n26 ih =>
    intro k0 v1 v3 v4 I hw
    refine kg_iload X 3 dX7_join_26 rfl ?_
    refine kg_aload_n X 0 dX7_join_28 rfl rfl ?_
    obtain ⟨h10, hw⟩ := hw
    refine kg_getR (j := 2) X kc_7 h10 (by decide) (by decide) rfl kw_642 dX7_join_29 ?_
    refine kg_aload_n X 0 dX7_join_32 rfl rfl ?_
    refine kg_getR (j := 11) X kc_7 h10 (by decide) (by decide) rfl kw_651 dX7_join_33 ?_
    refine kg_iload_n X 2 dX7_join_36 rfl rfl ?_
    obtain ⟨h11, hw⟩ := hw
    obtain ⟨h12, hw⟩ := hw
    refine kg_iald X h11 h12 dX7_join_37 ?_
    obtain ⟨h13, hw⟩ := hw
    obtain ⟨h14, hw⟩ := hw
    refine kg_iald X h13 h14 dX7_join_38 ?_
    refine kg_icmp_ge (tgt := 110) X dX7_join_39 (by decide) (fun h28 => ?_) (fun h28 => ?_)
    · have hw := hw.1 h28
      refine kg_sub [] rfl ?_
      exact hx_110 _  hw
    · have hw := hw.2 h28
      refine kg_iconst (v := (5 : Int32)) X dX7_join_42 (by decide) ?_
      refine kg_aload_n X 0 dX7_join_43 rfl rfl ?_
      refine kg_getR (j := 32) X kc_7 h10 (by decide) (by decide) rfl kw_672 dX7_join_44 ?_
      refine kg_iload_n X 1 dX7_join_47 rfl rfl ?_
      obtain ⟨h15, hw⟩ := hw
      obtain ⟨h16, hw⟩ := hw
      refine kg_iald X h15 h16 dX7_join_48 ?_
      refine kg_imul X dX7_join_49 ?_
      refine kg_aload_n X 0 dX7_join_50 rfl rfl ?_
      refine kg_getR (j := 12) X kc_7 h10 (by decide) (by decide) rfl kw_652 dX7_join_51 ?_
      refine kg_iconst (v := (2 : Int32)) X dX7_join_54 (by decide) ?_
      refine kg_iload_n X 2 dX7_join_55 rfl rfl ?_
      refine kg_imul X dX7_join_56 ?_
      refine kg_iload X 3 dX7_join_57 rfl ?_
      refine kg_iadd X dX7_join_59 ?_
      obtain ⟨h17, hw⟩ := hw
      obtain ⟨h18, hw⟩ := hw
      refine kg_iald X h17 h18 dX7_join_60 ?_
      refine kg_iadd X dX7_join_61 ?_
      refine kg_topi (fun x19 ex19 => ?_)
      have hw := hw x19 ex19
      refine kg_istore (lv' := [(5, .int x19), (0, .ref (Y.2.1 k0)), (1, .int v1), (3, .int v3), (4, .int v4)]) X dX7_join_62 (by decide) rfl ?_
      refine kg_iconst (v := (5 : Int32)) X dX7_join_64 (by decide) ?_
      refine kg_iload_n X 2 dX7_join_65 rfl rfl ?_
      refine kg_imul X dX7_join_66 ?_
      refine kg_aload_n X 1 dX7_join_67 rfl rfl ?_
      refine kg_getR (j := 9) X kc_7 h10 (by decide) (by decide) rfl kw_649 dX7_join_68 ?_
      refine kg_iconst (v := (2 : Int32)) X dX7_join_71 (by decide) ?_
      refine kg_aload_n X 1 dX7_join_72 rfl rfl ?_
      refine kg_getR (j := 31) X kc_7 h10 (by decide) (by decide) rfl kw_671 dX7_join_73 ?_
      refine kg_iload_n X 2 dX7_join_76 rfl rfl ?_
      obtain ⟨h20, hw⟩ := hw
      obtain ⟨h21, hw⟩ := hw
      refine kg_iald X h20 h21 dX7_join_77 ?_
      refine kg_imul X dX7_join_78 ?_
      refine kg_iload X 4 dX7_join_79 rfl ?_
      refine kg_iadd X dX7_join_81 ?_
      obtain ⟨h22, hw⟩ := hw
      obtain ⟨h23, hw⟩ := hw
      refine kg_iald X h22 h23 dX7_join_82 ?_
      refine kg_iadd X dX7_join_83 ?_
      refine kg_topi (fun x24 ex24 => ?_)
      have hw := hw x24 ex24
      refine kg_istore (lv' := [(6, .int x24), (5, .int x19), (0, .ref (Y.2.1 k0)), (1, .int v1), (3, .int v3), (4, .int v4)]) X dX7_join_84 (by decide) rfl ?_
      refine kg_aload_n X 2 dX7_join_86 rfl rfl ?_
      refine kg_iload X 1 dX7_join_87 rfl ?_
      refine kg_iload X 0 dX7_join_89 rfl ?_
      refine kg_iconst (v := (0 : Int32)) X dX7_join_91 (by decide) ?_
      refine kg_callVv (n := 3) (As := [.int x19, .int x24, .int (0 : Int32)]) X (c_X7_add l C Y A I k0 x19 x24 (0 : Int32) _ hw) kc_7 h10 rfl iv_X7_add kw_849 (by decide +kernel) (by decide) rfl rfl (Nat.le_of_ble_eq_true rfl) dX7_join_92 (fun I25 hw => ?_)
      refine kg_aload_n X 2 dX7_join_95 rfl rfl ?_
      refine kg_iload X 0 dX7_join_96 rfl ?_
      refine kg_iload X 1 dX7_join_98 rfl ?_
      refine kg_iconst (v := (0 : Int32)) X dX7_join_100 (by decide) ?_
      refine kg_callVv (n := 3) (As := [.int x24, .int x19, .int (0 : Int32)]) X (c_X7_add l C Y A I25 k0 x24 x19 (0 : Int32) _ hw) kc_7 h10 rfl iv_X7_add kw_849 (by decide +kernel) (by decide) rfl rfl (Nat.le_of_ble_eq_true rfl) dX7_join_101 (fun I26 hw => ?_)
      refine kg_iinc (dd := (1 : Int32)) (lvf := fun x27 => [(4, .int x27), (6, .int x24), (5, .int x19), (0, .ref (Y.2.1 k0)), (1, .int v1), (3, .int v3)]) X 5 dX7_join_104 rfl (by decide) (by decide) (fun _ => rfl) (fun x27 ex27 => ?_)
      have hw := hw x27 ex27
      refine kg_goto (tgt := 26) X dX7_join_107 (by decide) ?_
      refine kg_sub [3, 4, 5, 0] rfl ?_
      exact ih _ _ _ _ _  hw
def w_X7_join (Y : Ly) (I : Mm) (k0 : Nat) (v1 : Int32) (post : Mm → Prop) : Prop := (ky_is Y k0 7 ∧ (ky_is Y (ky_rp Y k0 32) 8 ∧ (vp_in v1 (ky_ln Y (ky_rp Y k0 32)) ∧ (ky_is Y (ky_rp Y k0 31) 8 ∧ (vp_in (I (ky_rp Y k0 32) v1.toNatClampNeg) (ky_ln Y (ky_rp Y k0 31)) ∧ (∀ x6 : Int32, x6 = I (ky_rp Y k0 31) (I (ky_rp Y k0 32) v1.toNatClampNeg).toNatClampNeg → (ky_is Y (ky_rp Y k0 33) 8 ∧ (vp_in v1 (ky_ln Y (ky_rp Y k0 33)) ∧ (∀ x9 : Int32, x9 = ((2 : Int32) * x6) + (I (ky_rp Y k0 33) v1.toNatClampNeg) → (∃ n26 : Nat, w_X7_join_L26 Y post (fun I29 => post I29) n26 k0 v1 x9 (0 : Int32) I))))))))))
set_option maxHeartbeats 4000000 in
set_option maxRecDepth 100000 in
theorem c_X7_join (l : Launch) (C : Cc) (Y : Ly) (A : Nat → Prop) (I : Mm) (k0 : Nat) (v1 : Int32) (post : Mm → Prop) (hw : w_X7_join Y I k0 v1 post) : ky_MV l yX7_join cX7_join 7 rm_X7_join C Y A I [.ref (Y.2.1 k0), .int v1] post := by
  refine ky_met (by decide) (Nat.le_of_ble_eq_true rfl) ?_
  intro p e s m args below meth c X hr
  have X : ky_X p s m args meth c C cX7_join 7 RX7 := X
  show ky_G p l e rm_X7_join s m args below meth c C Y A 7 (MQ below (va_Qv post (ky_B C Y A) A) args s 0 0 A) 0 [(0, .ref (Y.2.1 k0)), (1, .int v1)] [] I
  refine kg_aload_n X 0 dX7_join_0 rfl rfl ?_
  obtain ⟨h1, hw⟩ := hw
  refine kg_getR (j := 31) X kc_7 h1 (by decide) (by decide) rfl kw_671 dX7_join_1 ?_
  refine kg_aload_n X 0 dX7_join_4 rfl rfl ?_
  refine kg_getR (j := 32) X kc_7 h1 (by decide) (by decide) rfl kw_672 dX7_join_5 ?_
  refine kg_iload_n X 1 dX7_join_8 rfl rfl ?_
  obtain ⟨h2, hw⟩ := hw
  obtain ⟨h3, hw⟩ := hw
  refine kg_iald X h2 h3 dX7_join_9 ?_
  obtain ⟨h4, hw⟩ := hw
  obtain ⟨h5, hw⟩ := hw
  refine kg_iald X h4 h5 dX7_join_10 ?_
  refine kg_topi (fun x6 ex6 => ?_)
  have hw := hw x6 ex6
  refine kg_istore_n (lv' := [(2, .int x6), (0, .ref (Y.2.1 k0)), (1, .int v1)]) X dX7_join_11 rfl (by decide) rfl ?_
  refine kg_iconst (v := (2 : Int32)) X dX7_join_12 (by decide) ?_
  refine kg_iload_n X 0 dX7_join_13 rfl rfl ?_
  refine kg_imul X dX7_join_14 ?_
  refine kg_aload_n X 1 dX7_join_15 rfl rfl ?_
  refine kg_getR (j := 33) X kc_7 h1 (by decide) (by decide) rfl kw_673 dX7_join_16 ?_
  refine kg_iload_n X 2 dX7_join_19 rfl rfl ?_
  obtain ⟨h7, hw⟩ := hw
  obtain ⟨h8, hw⟩ := hw
  refine kg_iald X h7 h8 dX7_join_20 ?_
  refine kg_iadd X dX7_join_21 ?_
  refine kg_topi (fun x9 ex9 => ?_)
  have hw := hw x9 ex9
  refine kg_istore_n (lv' := [(3, .int x9), (2, .int x6), (0, .ref (Y.2.1 k0)), (1, .int v1)]) X dX7_join_22 rfl (by decide) rfl ?_
  refine kg_iconst (v := (0 : Int32)) X dX7_join_23 (by decide) ?_
  refine kg_istore (lv' := [(4, .int (0 : Int32)), (3, .int x9), (2, .int x6), (0, .ref (Y.2.1 k0)), (1, .int v1)]) X dX7_join_24 (by decide) rfl ?_
  obtain ⟨n26, hw⟩ := hw
  refine kg_sub [3, 4, 1, 0] rfl ?_
  refine s_X7_join_L26 X hr post _ ?_ n26 _ _ _ _ _  hw
  · intro I29 hw
    exact kg_vret X hr hw dX7_join_110
end
abbrev rm_X7_gather : Room := { frames := 2, cells := 0, slots := 0, locals := 49 }
section
variable {p : Program} {l : Launch} {e : Env} {s : State} {m : MethodId} {args : Array Value} {below : List Frame} {meth : Method} {c : Code} {C : Cc} {Y : Ly} {A : Nat → Prop}
def w_X7_gather_L7 (Y : Ly) (post : Mm → Prop) (ex_49 : Mm → Prop) : Nat → Nat → Int32 → Int32 → Mm → Prop
  | 0, _, _, _, _ => False
  | n7 + 1, k0, v1, v2, I => (ky_is Y k0 7 ∧ (ky_is Y (ky_rp Y k0 35) 8 ∧ (vp_in v1 (ky_ln Y (ky_rp Y k0 35)) ∧ (((I (ky_rp Y k0 35) v1.toNatClampNeg) ≤ v2 → ex_49 I) ∧ (¬ (I (ky_rp Y k0 35) v1.toNatClampNeg) ≤ v2 → (ky_is Y (ky_rp Y k0 31) 8 ∧ (vp_in v2 (ky_ln Y (ky_rp Y k0 31)) ∧ w_X7_addBounds Y I k0 (I (ky_rp Y k0 31) v2.toNatClampNeg) ((5 : Int32) * v2) (200 : Int32) (fun I8 => ((v2 ≤ v1 → (∀ x9 : Int32, x9 = v2 + (1 : Int32) → w_X7_gather_L7 Y post ex_49 n7 k0 v1 x9 I8)) ∧ (¬ v2 ≤ v1 → w_X7_join Y I8 k0 v2 (fun I10 => (∀ x11 : Int32, x11 = v2 + (1 : Int32) → w_X7_gather_L7 Y post ex_49 n7 k0 v1 x11 I10))))))))))))
set_option maxHeartbeats 4000000 in
set_option maxRecDepth 100000 in
theorem s_X7_gather_L7 (X : ky_X p s m args meth c C cX7_gather 3 RX7) (hr : meth.sig.returnType = none) (post : Mm → Prop) (ex_49 : Mm → Prop) (hx_49 : ∀ (J : Mm), ex_49 J → ky_G p l e rm_X7_gather s m args below meth c C Y A 3 (MQ below (va_Qv post (ky_B C Y A) A) args s 0 0 A) 49 [] [] J) : ∀ (n7 : Nat) (k0 : Nat) (v1 : Int32) (v2 : Int32) (I : Mm), w_X7_gather_L7 Y post ex_49 n7 k0 v1 v2 I → ky_G p l e rm_X7_gather s m args below meth c C Y A 3 (MQ below (va_Qv post (ky_B C Y A) A) args s 0 0 A) 7 [(0, .ref (Y.2.1 k0)), (1, .int v1), (2, .int v2)] [] I := by
  intro n7
  induction n7 with
  | zero => intro k0 v1 v2 I hw; exact False.elim hw
  | succ n7 ih =>
    intro k0 v1 v2 I hw
    refine kg_iload_n X 2 dX7_gather_7 rfl rfl ?_
    refine kg_aload_n X 0 dX7_gather_8 rfl rfl ?_
    obtain ⟨h3, hw⟩ := hw
    refine kg_getR (j := 35) X kc_7 h3 (by decide) (by decide) rfl kw_675 dX7_gather_9 ?_
    refine kg_iload_n X 1 dX7_gather_12 rfl rfl ?_
    obtain ⟨h4, hw⟩ := hw
    obtain ⟨h5, hw⟩ := hw
    refine kg_iald X h4 h5 dX7_gather_13 ?_
    refine kg_icmp_ge (tgt := 49) X dX7_gather_14 (by decide) (fun h13 => ?_) (fun h13 => ?_)
    · have hw := hw.1 h13
      refine kg_sub [] rfl ?_
      exact hx_49 _  hw
    · have hw := hw.2 h13
      refine kg_aload_n X 0 dX7_gather_17 rfl rfl ?_
      refine kg_aload_n X 0 dX7_gather_18 rfl rfl ?_
      refine kg_getR (j := 31) X kc_7 h3 (by decide) (by decide) rfl kw_671 dX7_gather_19 ?_
      refine kg_iload_n X 2 dX7_gather_22 rfl rfl ?_
      obtain ⟨h6, hw⟩ := hw
      obtain ⟨h7, hw⟩ := hw
      refine kg_iald X h6 h7 dX7_gather_23 ?_
      refine kg_iconst (v := (5 : Int32)) X dX7_gather_24 (by decide) ?_
      refine kg_iload_n X 2 dX7_gather_25 rfl rfl ?_
      refine kg_imul X dX7_gather_26 ?_
      refine kg_sipush (v := (200 : Int32)) X dX7_gather_27 (by decide) ?_
      refine kg_callVv (n := 3) (As := [.int (I (ky_rp Y k0 31) v2.toNatClampNeg), .int ((5 : Int32) * v2), .int (200 : Int32)]) X (c_X7_addBounds l C Y A I k0 (I (ky_rp Y k0 31) v2.toNatClampNeg) ((5 : Int32) * v2) (200 : Int32) _ hw) kc_7 h3 rfl iv_X7_addBounds kw_845 (by decide +kernel) (by decide) rfl rfl (Nat.le_of_ble_eq_true rfl) dX7_gather_30 (fun I8 hw => ?_)
      refine kg_iload_n X 2 dX7_gather_33 rfl rfl ?_
      refine kg_iload_n X 1 dX7_gather_34 rfl rfl ?_
      refine kg_icmp_le (tgt := 43) X dX7_gather_35 (by decide) (fun h12 => ?_) (fun h12 => ?_)
      · have hw := hw.1 h12
        refine kg_iinc (dd := (1 : Int32)) (lvf := fun x9 => [(2, .int x9), (0, .ref (Y.2.1 k0)), (1, .int v1)]) X 2 dX7_gather_43 rfl (by decide) (by decide) (fun _ => rfl) (fun x9 ex9 => ?_)
        have hw := hw x9 ex9
        refine kg_goto (tgt := 7) X dX7_gather_46 (by decide) ?_
        refine kg_sub [1, 2, 0] rfl ?_
        exact ih _ _ _ _  hw
      · have hw := hw.2 h12
        refine kg_aload_n X 0 dX7_gather_38 rfl rfl ?_
        refine kg_iload_n X 2 dX7_gather_39 rfl rfl ?_
        refine kg_callVv (n := 1) (As := [.int v2]) X (c_X7_join l C Y A I8 k0 v2 _ hw) kc_7 h3 rfl iv_X7_join kw_894 (by decide +kernel) (by decide) rfl rfl (Nat.le_of_ble_eq_true rfl) dX7_gather_40 (fun I10 hw => ?_)
        refine kg_iinc (dd := (1 : Int32)) (lvf := fun x11 => [(2, .int x11), (0, .ref (Y.2.1 k0)), (1, .int v1)]) X 2 dX7_gather_43 rfl (by decide) (by decide) (fun _ => rfl) (fun x11 ex11 => ?_)
        have hw := hw x11 ex11
        refine kg_goto (tgt := 7) X dX7_gather_46 (by decide) ?_
        refine kg_sub [1, 2, 0] rfl ?_
        exact ih _ _ _ _  hw
def w_X7_gather (Y : Ly) (I : Mm) (k0 : Nat) (v1 : Int32) (post : Mm → Prop) : Prop := (ky_is Y k0 7 ∧ (∀ I2 : Mm, I2 = ky_up I k0 25 (0 : Int32) → (∃ n7 : Nat, w_X7_gather_L7 Y post (fun I14 => post I14) n7 k0 v1 v1 I2)))
set_option maxHeartbeats 4000000 in
set_option maxRecDepth 100000 in
theorem c_X7_gather (l : Launch) (C : Cc) (Y : Ly) (A : Nat → Prop) (I : Mm) (k0 : Nat) (v1 : Int32) (post : Mm → Prop) (hw : w_X7_gather Y I k0 v1 post) : ky_MV l yX7_gather cX7_gather 3 rm_X7_gather C Y A I [.ref (Y.2.1 k0), .int v1] post := by
  refine ky_met (by decide) (Nat.le_of_ble_eq_true rfl) ?_
  intro p e s m args below meth c X hr
  have X : ky_X p s m args meth c C cX7_gather 3 RX7 := X
  show ky_G p l e rm_X7_gather s m args below meth c C Y A 3 (MQ below (va_Qv post (ky_B C Y A) A) args s 0 0 A) 0 [(0, .ref (Y.2.1 k0)), (1, .int v1)] [] I
  refine kg_aload_n X 0 dX7_gather_0 rfl rfl ?_
  refine kg_iconst (v := (0 : Int32)) X dX7_gather_1 (by decide) ?_
  obtain ⟨h1, hw⟩ := hw
  refine kg_putI (ci := 7) (Tn := TX7) (j := 25) (ty := .int) X tyX7 tyX7_ok nmX7 kc_7 h1 (by decide) (by decide) rfl kw_665 (by decide +kernel) rfl rfl dX7_gather_2 ?_
  refine kg_topm (fun I2 eI2 => ?_)
  have hw := hw I2 eI2
  refine kg_iload_n X 1 dX7_gather_5 rfl rfl ?_
  refine kg_istore_n (lv' := [(2, .int v1), (0, .ref (Y.2.1 k0)), (1, .int v1)]) X dX7_gather_6 rfl (by decide) rfl ?_
  obtain ⟨n7, hw⟩ := hw
  refine kg_sub [1, 2, 0] rfl ?_
  refine s_X7_gather_L7 X hr post _ ?_ n7 _ _ _ _  hw
  · intro I14 hw
    exact kg_vret X hr hw dX7_gather_49
end
abbrev rm_X7_least : Room := { frames := 1, cells := 0, slots := 0, locals := 24 }
section
variable {p : Program} {l : Launch} {e : Env} {s : State} {m : MethodId} {args : Array Value} {below : List Frame} {meth : Method} {c : Code} {C : Cc} {Y : Ly} {A : Nat → Prop}
def w_X7_least_L3 (Y : Ly) (post : Int32 → Mm → Prop) (ex_24 : Nat → Int32 → Int32 → Int32 → Mm → Prop) : Nat → Nat → Int32 → Int32 → Int32 → Int32 → Mm → Prop
  | 0, _, _, _, _, _, _ => False
  | n3 + 1, k0, v1, v2, v3, v4, I => ((v1 ≤ v4 → ex_24 k0 v1 v2 v3 I) ∧ (¬ v1 ≤ v4 → (ky_is Y k0 7 ∧ (ky_is Y (ky_rp Y k0 29) 8 ∧ (vp_in v4 (ky_ln Y (ky_rp Y k0 29)) ∧ (∀ I4 : Mm, I4 = ky_up I (ky_rp Y k0 29) v4.toNatClampNeg (1000000000 : Int32) → (∀ x5 : Int32, x5 = v4 + (1 : Int32) → w_X7_least_L3 Y post ex_24 n3 k0 v1 v2 v3 x5 I4)))))))
set_option maxHeartbeats 4000000 in
set_option maxRecDepth 100000 in
theorem s_X7_least_L3 (X : ky_X p s m args meth c C cX7_least 5 RX7) (hr : meth.sig.returnType = some .int) (post : Int32 → Mm → Prop) (ex_24 : Nat → Int32 → Int32 → Int32 → Mm → Prop) (hx_24 : ∀ (k0 : Nat) (v1 : Int32) (v2 : Int32) (v3 : Int32) (J : Mm), ex_24 k0 v1 v2 v3 J → ky_G p l e rm_X7_least s m args below meth c C Y A 5 (MQ below (va_Qi post (ky_B C Y A) A) args s 0 0 A) 24 [(0, .ref (Y.2.1 k0)), (1, .int v1), (2, .int v2), (3, .int v3)] [] J) : ∀ (n3 : Nat) (k0 : Nat) (v1 : Int32) (v2 : Int32) (v3 : Int32) (v4 : Int32) (I : Mm), w_X7_least_L3 Y post ex_24 n3 k0 v1 v2 v3 v4 I → ky_G p l e rm_X7_least s m args below meth c C Y A 5 (MQ below (va_Qi post (ky_B C Y A) A) args s 0 0 A) 3 [(0, .ref (Y.2.1 k0)), (1, .int v1), (2, .int v2), (3, .int v3), (4, .int v4)] [] I := by
  intro n3
  induction n3 with
  | zero => intro k0 v1 v2 v3 v4 I hw; exact False.elim hw
  | succ n3 ih =>
    intro k0 v1 v2 v3 v4 I hw
    refine kg_iload X 4 dX7_least_3 rfl ?_
    refine kg_iload_n X 1 dX7_least_5 rfl rfl ?_
    refine kg_icmp_ge (tgt := 24) X dX7_least_6 (by decide) (fun h6 => ?_) (fun h6 => ?_)
    · have hw := hw.1 h6
      refine kg_sub [0, 1, 2, 3] rfl ?_
      exact hx_24 _ _ _ _ _  hw
    · have hw := hw.2 h6
      refine kg_aload_n X 0 dX7_least_9 rfl rfl ?_
      obtain ⟨h1, hw⟩ := hw
      refine kg_getR (j := 29) X kc_7 h1 (by decide) (by decide) rfl kw_669 dX7_least_10 ?_
      refine kg_iload X 4 dX7_least_13 rfl ?_
      refine kg_ldc (v := (1000000000 : Int32)) X kw_865 dX7_least_15 ?_
      obtain ⟨h2, hw⟩ := hw
      obtain ⟨h3, hw⟩ := hw
      refine kg_iast X h2 h3 dX7_least_17 ?_
      refine kg_topm (fun I4 eI4 => ?_)
      have hw := hw I4 eI4
      refine kg_iinc (dd := (1 : Int32)) (lvf := fun x5 => [(4, .int x5), (0, .ref (Y.2.1 k0)), (1, .int v1), (2, .int v2), (3, .int v3)]) X 4 dX7_least_18 rfl (by decide) (by decide) (fun _ => rfl) (fun x5 ex5 => ?_)
      have hw := hw x5 ex5
      refine kg_goto (tgt := 3) X dX7_least_21 (by decide) ?_
      refine kg_sub [1, 2, 3, 4, 0] rfl ?_
      exact ih _ _ _ _ _ _  hw
def w_X7_least (Y : Ly) (I : Mm) (k0 : Nat) (v1 : Int32) (v2 : Int32) (v3 : Int32) (post : Int32 → Mm → Prop) : Prop := (∃ n3 : Nat, w_X7_least_L3 Y post (fun k8 v9 v10 v11 I7 => (ky_is Y k8 7 ∧ (ky_is Y (ky_rp Y k8 29) 8 ∧ (vp_in v11 (ky_ln Y (ky_rp Y k8 29)) ∧ (∀ I15 : Mm, I15 = ky_up I7 (ky_rp Y k8 29) v11.toNatClampNeg (0 : Int32) → w_X7_settles Y I15 k8 v9 (fun r17 I16 => (vp_in v10 (ky_ln Y (ky_rp Y k8 29)) ∧ post (I16 (ky_rp Y k8 29) v10.toNatClampNeg) I16))))))) n3 k0 v1 v2 v3 (0 : Int32) I)
set_option maxHeartbeats 4000000 in
set_option maxRecDepth 100000 in
theorem c_X7_least (l : Launch) (C : Cc) (Y : Ly) (A : Nat → Prop) (I : Mm) (k0 : Nat) (v1 : Int32) (v2 : Int32) (v3 : Int32) (post : Int32 → Mm → Prop) (hw : w_X7_least Y I k0 v1 v2 v3 post) : ky_MI l yX7_least cX7_least 5 (some .int) rm_X7_least C Y A I [.ref (Y.2.1 k0), .int v1, .int v2, .int v3] post := by
  refine ky_met (by decide) (Nat.le_of_ble_eq_true rfl) ?_
  intro p e s m args below meth c X hr
  have X : ky_X p s m args meth c C cX7_least 5 RX7 := X
  show ky_G p l e rm_X7_least s m args below meth c C Y A 5 (MQ below (va_Qi post (ky_B C Y A) A) args s 0 0 A) 0 [(0, .ref (Y.2.1 k0)), (1, .int v1), (2, .int v2), (3, .int v3)] [] I
  refine kg_iconst (v := (0 : Int32)) X dX7_least_0 (by decide) ?_
  refine kg_istore (lv' := [(4, .int (0 : Int32)), (0, .ref (Y.2.1 k0)), (1, .int v1), (2, .int v2), (3, .int v3)]) X dX7_least_1 (by decide) rfl ?_
  obtain ⟨n3, hw⟩ := hw
  refine kg_sub [1, 2, 3, 4, 0] rfl ?_
  refine s_X7_least_L3 X hr post _ ?_ n3 _ _ _ _ _ _  hw
  · intro k8 v9 v10 v11 I7 hw
    refine kg_aload_n X 0 dX7_least_24 rfl rfl ?_
    obtain ⟨h12, hw⟩ := hw
    refine kg_getR (j := 29) X kc_7 h12 (by decide) (by decide) rfl kw_669 dX7_least_25 ?_
    refine kg_iload_n X 3 dX7_least_28 rfl rfl ?_
    refine kg_iconst (v := (0 : Int32)) X dX7_least_29 (by decide) ?_
    obtain ⟨h13, hw⟩ := hw
    obtain ⟨h14, hw⟩ := hw
    refine kg_iast X h13 h14 dX7_least_30 ?_
    refine kg_topm (fun I15 eI15 => ?_)
    have hw := hw I15 eI15
    refine kg_aload_n X 0 dX7_least_31 rfl rfl ?_
    refine kg_iload_n X 1 dX7_least_32 rfl rfl ?_
    refine kg_callVi (n := 1) (As := [.int v9]) X (c_X7_settles l C Y A I15 k8 v9 _ hw) kc_7 h12 rfl iv_X7_settles kw_861 (by decide +kernel) (by decide) rfl rfl (Nat.le_of_ble_eq_true rfl) dX7_least_33 (fun r17 I16 hw => ?_)
    refine kg_pop X dX7_least_36 rfl ?_
    refine kg_aload_n X 0 dX7_least_37 rfl rfl ?_
    refine kg_getR (j := 29) X kc_7 h12 (by decide) (by decide) rfl kw_669 dX7_least_38 ?_
    refine kg_iload_n X 2 dX7_least_41 rfl rfl ?_
    obtain ⟨h18, hw⟩ := hw
    refine kg_iald X h13 h18 dX7_least_42 ?_
    exact kg_iret X hr hw dX7_least_43
end
abbrev rm_X7_marksOf : Room := { frames := 2, cells := 0, slots := 0, locals := 48 }
section
variable {p : Program} {l : Launch} {e : Env} {s : State} {m : MethodId} {args : Array Value} {below : List Frame} {meth : Method} {c : Code} {C : Cc} {Y : Ly} {A : Nat → Prop}
def w_X7_marksOf_B185 (Y : Ly) (post : Int32 → Mm → Prop) (rc : Nat → Int32 → Int32 → Int32 → Int32 → Int32 → Int32 → Mm → Prop) (ex_235 : Int32 → Mm → Prop) (k0 : Nat) (v1 : Int32) (v2 : Int32) (v3 : Int32) (v4 : Int32) (v5 : Int32) (v6 : Int32) (v9 : Int32) (v10 : Int32) (s0 : Int32) (I : Mm) : Prop := w_X7_in Y I s0 (-1000 : Int32) (1000 : Int32) (fun r28 I27 => ((r28 = 0 → (∀ x29 : Int32, x29 = v6 + (1 : Int32) → rc k0 v1 v2 v3 v4 v5 x29 I27)) ∧ (¬ r28 = 0 → (ky_is Y k0 7 ∧ w_X7_isMark Y I27 k0 v3 v9 v10 s0 (fun r31 I30 => ((¬ r31 = 0 → (∀ x33 : Int32, x33 = v6 + (1 : Int32) → rc k0 v1 v2 v3 v4 v5 x33 I30)) ∧ (r31 = 0 → w_X7_keepMark Y I30 k0 v3 v9 v10 s0 (fun I34 => (∀ x35 : Int32, x35 = v5 + (1 : Int32) → (∀ x36 : Int32, x36 = v6 + (1 : Int32) → rc k0 v1 v2 v3 v4 x35 x36 I34))))))))))
set_option maxHeartbeats 4000000 in
set_option maxRecDepth 100000 in
theorem s_X7_marksOf_B185 (X : ky_X p s m args meth c C cX7_marksOf 14 RX7) (hr : meth.sig.returnType = some .int) (post : Int32 → Mm → Prop) (rc : Nat → Int32 → Int32 → Int32 → Int32 → Int32 → Int32 → Mm → Prop) (ex_235 : Int32 → Mm → Prop) (hrc : ∀ (k0 : Nat) (v1 : Int32) (v2 : Int32) (v3 : Int32) (v4 : Int32) (v5 : Int32) (v6 : Int32) (J : Mm), rc k0 v1 v2 v3 v4 v5 v6 J → ky_G p l e rm_X7_marksOf s m args below meth c C Y A 14 (MQ below (va_Qi post (ky_B C Y A) A) args s 0 0 A) 30 [(0, .ref (Y.2.1 k0)), (1, .int v1), (2, .int v2), (3, .int v3), (4, .int v4), (5, .int v5), (6, .int v6)] [] J) (hx_235 : ∀ (v5 : Int32) (J : Mm), ex_235 v5 J → ky_G p l e rm_X7_marksOf s m args below meth c C Y A 14 (MQ below (va_Qi post (ky_B C Y A) A) args s 0 0 A) 235 [(5, .int v5)] [] J) (k0 : Nat) (v1 : Int32) (v2 : Int32) (v3 : Int32) (v4 : Int32) (v5 : Int32) (v6 : Int32) (v9 : Int32) (v10 : Int32) (s0 : Int32) (I : Mm) (hw : w_X7_marksOf_B185 Y post rc ex_235 k0 v1 v2 v3 v4 v5 v6 v9 v10 s0 I) : ky_G p l e rm_X7_marksOf s m args below meth c C Y A 14 (MQ below (va_Qi post (ky_B C Y A) A) args s 0 0 A) 185 [(0, .ref (Y.2.1 k0)), (1, .int v1), (2, .int v2), (3, .int v3), (4, .int v4), (5, .int v5), (6, .int v6), (9, .int v9), (10, .int v10)] [.int s0] I := by
  refine kg_istore (lv' := [(13, .int s0), (0, .ref (Y.2.1 k0)), (1, .int v1), (2, .int v2), (3, .int v3), (4, .int v4), (5, .int v5), (6, .int v6), (9, .int v9), (10, .int v10)]) X dX7_marksOf_185 (by decide) rfl ?_
  refine kg_iload X 0 dX7_marksOf_187 rfl ?_
  refine kg_sipush (v := (-1000 : Int32)) X dX7_marksOf_189 (by decide) ?_
  refine kg_sipush (v := (1000 : Int32)) X dX7_marksOf_192 (by decide) ?_
  refine kg_callSi (n := 3) (As := [.int s0, .int (-1000 : Int32), .int (1000 : Int32)]) X (c_X7_in l C Y A I s0 (-1000 : Int32) (1000 : Int32) _ hw) rfl is_X7_in kw_766 (by decide +kernel) (by decide) rfl rfl (Nat.le_of_ble_eq_true rfl) dX7_marksOf_195 (fun r28 I27 hw => ?_)
  refine kg_if_eq (tgt := 229) X dX7_marksOf_198 (by decide) (fun h38 => ?_) (fun h38 => ?_)
  · have hw := hw.1 h38
    refine kg_iinc (dd := (1 : Int32)) (lvf := fun x29 => [(6, .int x29), (13, .int s0), (0, .ref (Y.2.1 k0)), (1, .int v1), (2, .int v2), (3, .int v3), (4, .int v4), (5, .int v5), (9, .int v9), (10, .int v10)]) X 7 dX7_marksOf_229 rfl (by decide) (by decide) (fun _ => rfl) (fun x29 ex29 => ?_)
    have hw := hw x29 ex29
    refine kg_goto (tgt := 30) X dX7_marksOf_232 (by decide) ?_
    refine kg_sub [2, 3, 4, 5, 6, 7, 0] rfl ?_
    exact hrc _ _ _ _ _ _ _ _  hw
  · have hw := hw.2 h38
    refine kg_aload_n X 1 dX7_marksOf_201 rfl rfl ?_
    refine kg_iload_n X 4 dX7_marksOf_202 rfl rfl ?_
    refine kg_iload X 8 dX7_marksOf_203 rfl ?_
    refine kg_iload X 9 dX7_marksOf_205 rfl ?_
    refine kg_iload X 0 dX7_marksOf_207 rfl ?_
    obtain ⟨h32, hw⟩ := hw
    refine kg_callVi (n := 4) (As := [.int v3, .int v9, .int v10, .int s0]) X (c_X7_isMark l C Y A I27 k0 v3 v9 v10 s0 _ hw) kc_7 h32 rfl iv_X7_isMark kw_789 (by decide +kernel) (by decide) rfl rfl (Nat.le_of_ble_eq_true rfl) dX7_marksOf_209 (fun r31 I30 hw => ?_)
    refine kg_if_ne (tgt := 229) X dX7_marksOf_212 (by decide) (fun h37 => ?_) (fun h37 => ?_)
    · have hw := hw.1 h37
      refine kg_iinc (dd := (1 : Int32)) (lvf := fun x33 => [(6, .int x33), (13, .int s0), (0, .ref (Y.2.1 k0)), (1, .int v1), (2, .int v2), (3, .int v3), (4, .int v4), (5, .int v5), (9, .int v9), (10, .int v10)]) X 7 dX7_marksOf_229 rfl (by decide) (by decide) (fun _ => rfl) (fun x33 ex33 => ?_)
      have hw := hw x33 ex33
      refine kg_goto (tgt := 30) X dX7_marksOf_232 (by decide) ?_
      refine kg_sub [2, 3, 4, 5, 6, 7, 0] rfl ?_
      exact hrc _ _ _ _ _ _ _ _  hw
    · have hw := hw.2 h37
      refine kg_aload_n X 1 dX7_marksOf_215 rfl rfl ?_
      refine kg_iload_n X 4 dX7_marksOf_216 rfl rfl ?_
      refine kg_iload X 8 dX7_marksOf_217 rfl ?_
      refine kg_iload X 9 dX7_marksOf_219 rfl ?_
      refine kg_iload X 0 dX7_marksOf_221 rfl ?_
      refine kg_callVv (n := 4) (As := [.int v3, .int v9, .int v10, .int s0]) X (c_X7_keepMark l C Y A I30 k0 v3 v9 v10 s0 _ hw) kc_7 h32 rfl iv_X7_keepMark kw_797 (by decide +kernel) (by decide) rfl rfl (Nat.le_of_ble_eq_true rfl) dX7_marksOf_223 (fun I34 hw => ?_)
      refine kg_iinc (dd := (1 : Int32)) (lvf := fun x35 => [(5, .int x35), (13, .int s0), (0, .ref (Y.2.1 k0)), (1, .int v1), (2, .int v2), (3, .int v3), (4, .int v4), (6, .int v6), (9, .int v9), (10, .int v10)]) X 6 dX7_marksOf_226 rfl (by decide) (by decide) (fun _ => rfl) (fun x35 ex35 => ?_)
      have hw := hw x35 ex35
      refine kg_iinc (dd := (1 : Int32)) (lvf := fun x36 => [(6, .int x36), (5, .int x35), (13, .int s0), (0, .ref (Y.2.1 k0)), (1, .int v1), (2, .int v2), (3, .int v3), (4, .int v4), (9, .int v9), (10, .int v10)]) X 7 dX7_marksOf_229 rfl (by decide) (by decide) (fun _ => rfl) (fun x36 ex36 => ?_)
      have hw := hw x36 ex36
      refine kg_goto (tgt := 30) X dX7_marksOf_232 (by decide) ?_
      refine kg_sub [3, 4, 5, 6, 7, 1, 0] rfl ?_
      exact hrc _ _ _ _ _ _ _ _  hw
def w_X7_marksOf_B161 (Y : Ly) (post : Int32 → Mm → Prop) (rc : Nat → Int32 → Int32 → Int32 → Int32 → Int32 → Int32 → Mm → Prop) (ex_235 : Int32 → Mm → Prop) (k0 : Nat) (v1 : Int32) (v2 : Int32) (v3 : Int32) (v4 : Int32) (v5 : Int32) (v6 : Int32) (v9 : Int32) (v10 : Int32) (v11 : Int32) (s0 : Int32) (I : Mm) : Prop := ((¬ v11 = s0 → (ky_is Y k0 7 ∧ w_X7_least Y I k0 (201 : Int32) v11 s0 (fun r25 I24 => w_X7_marksOf_B185 Y post rc ex_235 k0 v1 v2 v3 v4 v5 v6 v9 v10 r25 I24))) ∧ (v11 = s0 → w_X7_marksOf_B185 Y post rc ex_235 k0 v1 v2 v3 v4 v5 v6 v9 v10 (0 : Int32) I))
set_option maxHeartbeats 4000000 in
set_option maxRecDepth 100000 in
theorem s_X7_marksOf_B161 (X : ky_X p s m args meth c C cX7_marksOf 14 RX7) (hr : meth.sig.returnType = some .int) (post : Int32 → Mm → Prop) (rc : Nat → Int32 → Int32 → Int32 → Int32 → Int32 → Int32 → Mm → Prop) (ex_235 : Int32 → Mm → Prop) (hrc : ∀ (k0 : Nat) (v1 : Int32) (v2 : Int32) (v3 : Int32) (v4 : Int32) (v5 : Int32) (v6 : Int32) (J : Mm), rc k0 v1 v2 v3 v4 v5 v6 J → ky_G p l e rm_X7_marksOf s m args below meth c C Y A 14 (MQ below (va_Qi post (ky_B C Y A) A) args s 0 0 A) 30 [(0, .ref (Y.2.1 k0)), (1, .int v1), (2, .int v2), (3, .int v3), (4, .int v4), (5, .int v5), (6, .int v6)] [] J) (hx_235 : ∀ (v5 : Int32) (J : Mm), ex_235 v5 J → ky_G p l e rm_X7_marksOf s m args below meth c C Y A 14 (MQ below (va_Qi post (ky_B C Y A) A) args s 0 0 A) 235 [(5, .int v5)] [] J) (k0 : Nat) (v1 : Int32) (v2 : Int32) (v3 : Int32) (v4 : Int32) (v5 : Int32) (v6 : Int32) (v9 : Int32) (v10 : Int32) (v11 : Int32) (s0 : Int32) (I : Mm) (hw : w_X7_marksOf_B161 Y post rc ex_235 k0 v1 v2 v3 v4 v5 v6 v9 v10 v11 s0 I) : ky_G p l e rm_X7_marksOf s m args below meth c C Y A 14 (MQ below (va_Qi post (ky_B C Y A) A) args s 0 0 A) 161 [(0, .ref (Y.2.1 k0)), (1, .int v1), (2, .int v2), (3, .int v3), (4, .int v4), (5, .int v5), (6, .int v6), (9, .int v9), (10, .int v10), (11, .int v11)] [.int s0] I := by
  refine kg_istore (lv' := [(12, .int s0), (0, .ref (Y.2.1 k0)), (1, .int v1), (2, .int v2), (3, .int v3), (4, .int v4), (5, .int v5), (6, .int v6), (9, .int v9), (10, .int v10), (11, .int v11)]) X dX7_marksOf_161 (by decide) rfl ?_
  refine kg_iload X 10 dX7_marksOf_163 rfl ?_
  refine kg_iload X 0 dX7_marksOf_165 rfl ?_
  refine kg_icmp_ne (tgt := 174) X dX7_marksOf_167 (by decide) (fun h39 => ?_) (fun h39 => ?_)
  · have hw := hw.1 h39
    refine kg_aload_n X 1 dX7_marksOf_174 rfl rfl ?_
    refine kg_sipush (v := (201 : Int32)) X dX7_marksOf_175 (by decide) ?_
    refine kg_iload X 10 dX7_marksOf_178 rfl ?_
    refine kg_iload X 0 dX7_marksOf_180 rfl ?_
    obtain ⟨h26, hw⟩ := hw
    refine kg_callVi (n := 3) (As := [.int (201 : Int32), .int v11, .int s0]) X (c_X7_least l C Y A I k0 (201 : Int32) v11 s0 _ hw) kc_7 h26 rfl iv_X7_least kw_902 (by decide +kernel) (by decide) rfl rfl (Nat.le_of_ble_eq_true rfl) dX7_marksOf_182 (fun r25 I24 hw => ?_)
    refine kg_sub [1, 2, 3, 4, 5, 6, 7, 8, 9] rfl ?_
    exact s_X7_marksOf_B185 X hr post _ _ hrc hx_235 _ _ _ _ _ _ _ _ _ _ _ hw
  · have hw := hw.2 h39
    refine kg_iconst (v := (0 : Int32)) X dX7_marksOf_170 (by decide) ?_
    refine kg_goto (tgt := 185) X dX7_marksOf_171 (by decide) ?_
    refine kg_sub [1, 2, 3, 4, 5, 6, 7, 8, 9] rfl ?_
    exact s_X7_marksOf_B185 X hr post _ _ hrc hx_235 _ _ _ _ _ _ _ _ _ _ _ hw
def w_X7_marksOf_B132 (Y : Ly) (post : Int32 → Mm → Prop) (rc : Nat → Int32 → Int32 → Int32 → Int32 → Int32 → Int32 → Mm → Prop) (ex_235 : Int32 → Mm → Prop) (k0 : Nat) (v1 : Int32) (v2 : Int32) (v3 : Int32) (v4 : Int32) (v5 : Int32) (v6 : Int32) (v9 : Int32) (v10 : Int32) (s0 : Int32) (I : Mm) : Prop := ((¬ v10 = (2 : Int32) → (ky_is Y k0 7 ∧ (ky_is Y (ky_rp Y k0 9) 8 ∧ (vp_in (((2 : Int32) * v2) + v10) (ky_ln Y (ky_rp Y k0 9)) ∧ w_X7_marksOf_B161 Y post rc ex_235 k0 v1 v2 v3 v4 v5 v6 v9 v10 s0 (((5 : Int32) * v1) + (I (ky_rp Y k0 9) (((2 : Int32) * v2) + v10).toNatClampNeg)) I)))) ∧ (v10 = (2 : Int32) → w_X7_marksOf_B161 Y post rc ex_235 k0 v1 v2 v3 v4 v5 v6 v9 v10 s0 (200 : Int32) I))
set_option maxHeartbeats 4000000 in
set_option maxRecDepth 100000 in
theorem s_X7_marksOf_B132 (X : ky_X p s m args meth c C cX7_marksOf 14 RX7) (hr : meth.sig.returnType = some .int) (post : Int32 → Mm → Prop) (rc : Nat → Int32 → Int32 → Int32 → Int32 → Int32 → Int32 → Mm → Prop) (ex_235 : Int32 → Mm → Prop) (hrc : ∀ (k0 : Nat) (v1 : Int32) (v2 : Int32) (v3 : Int32) (v4 : Int32) (v5 : Int32) (v6 : Int32) (J : Mm), rc k0 v1 v2 v3 v4 v5 v6 J → ky_G p l e rm_X7_marksOf s m args below meth c C Y A 14 (MQ below (va_Qi post (ky_B C Y A) A) args s 0 0 A) 30 [(0, .ref (Y.2.1 k0)), (1, .int v1), (2, .int v2), (3, .int v3), (4, .int v4), (5, .int v5), (6, .int v6)] [] J) (hx_235 : ∀ (v5 : Int32) (J : Mm), ex_235 v5 J → ky_G p l e rm_X7_marksOf s m args below meth c C Y A 14 (MQ below (va_Qi post (ky_B C Y A) A) args s 0 0 A) 235 [(5, .int v5)] [] J) (k0 : Nat) (v1 : Int32) (v2 : Int32) (v3 : Int32) (v4 : Int32) (v5 : Int32) (v6 : Int32) (v9 : Int32) (v10 : Int32) (s0 : Int32) (I : Mm) (hw : w_X7_marksOf_B132 Y post rc ex_235 k0 v1 v2 v3 v4 v5 v6 v9 v10 s0 I) : ky_G p l e rm_X7_marksOf s m args below meth c C Y A 14 (MQ below (va_Qi post (ky_B C Y A) A) args s 0 0 A) 132 [(0, .ref (Y.2.1 k0)), (1, .int v1), (2, .int v2), (3, .int v3), (4, .int v4), (5, .int v5), (6, .int v6), (9, .int v9), (10, .int v10)] [.int s0] I := by
  refine kg_istore (lv' := [(11, .int s0), (0, .ref (Y.2.1 k0)), (1, .int v1), (2, .int v2), (3, .int v3), (4, .int v4), (5, .int v5), (6, .int v6), (9, .int v9), (10, .int v10)]) X dX7_marksOf_132 (by decide) rfl ?_
  refine kg_iload X 9 dX7_marksOf_134 rfl ?_
  refine kg_iconst (v := (2 : Int32)) X dX7_marksOf_136 (by decide) ?_
  refine kg_icmp_ne (tgt := 146) X dX7_marksOf_137 (by decide) (fun h40 => ?_) (fun h40 => ?_)
  · have hw := hw.1 h40
    refine kg_iconst (v := (5 : Int32)) X dX7_marksOf_146 (by decide) ?_
    refine kg_iload_n X 2 dX7_marksOf_147 rfl rfl ?_
    refine kg_imul X dX7_marksOf_148 ?_
    refine kg_aload_n X 1 dX7_marksOf_149 rfl rfl ?_
    obtain ⟨h21, hw⟩ := hw
    refine kg_getR (j := 9) X kc_7 h21 (by decide) (by decide) rfl kw_649 dX7_marksOf_150 ?_
    refine kg_iconst (v := (2 : Int32)) X dX7_marksOf_153 (by decide) ?_
    refine kg_iload_n X 3 dX7_marksOf_154 rfl rfl ?_
    refine kg_imul X dX7_marksOf_155 ?_
    refine kg_iload X 9 dX7_marksOf_156 rfl ?_
    refine kg_iadd X dX7_marksOf_158 ?_
    obtain ⟨h22, hw⟩ := hw
    obtain ⟨h23, hw⟩ := hw
    refine kg_iald X h22 h23 dX7_marksOf_159 ?_
    refine kg_iadd X dX7_marksOf_160 ?_
    refine kg_sub [1, 2, 3, 4, 5, 6, 7, 8, 9, 0] rfl ?_
    exact s_X7_marksOf_B161 X hr post _ _ hrc hx_235 _ _ _ _ _ _ _ _ _ _ _ _ hw
  · have hw := hw.2 h40
    refine kg_sipush (v := (200 : Int32)) X dX7_marksOf_140 (by decide) ?_
    refine kg_goto (tgt := 161) X dX7_marksOf_143 (by decide) ?_
    refine kg_sub [1, 2, 3, 4, 5, 6, 7, 8, 9, 0] rfl ?_
    exact s_X7_marksOf_B161 X hr post _ _ hrc hx_235 _ _ _ _ _ _ _ _ _ _ _ _ hw
def w_X7_marksOf_B86 (Y : Ly) (post : Int32 → Mm → Prop) (rc : Nat → Int32 → Int32 → Int32 → Int32 → Int32 → Int32 → Mm → Prop) (ex_235 : Int32 → Mm → Prop) (k0 : Nat) (v1 : Int32) (v2 : Int32) (v3 : Int32) (v4 : Int32) (v5 : Int32) (v6 : Int32) (v9 : Int32) (s0 : Int32) (I : Mm) : Prop := ((v9 = s0 → (∀ x14 : Int32, x14 = v6 + (1 : Int32) → rc k0 v1 v2 v3 v4 v5 x14 I)) ∧ (¬ v9 = s0 → (ky_is Y k0 7 ∧ (ky_is Y (ky_rp Y k0 3) 8 ∧ (vp_in v3 (ky_ln Y (ky_rp Y k0 3)) ∧ (((4 : Int32) ≤ (I (ky_rp Y k0 3) v3.toNatClampNeg) → (∀ x18 : Int32, x18 = v6 + (1 : Int32) → rc k0 v1 v2 v3 v4 v5 x18 I)) ∧ (¬ (4 : Int32) ≤ (I (ky_rp Y k0 3) v3.toNatClampNeg) → ((¬ v9 = (2 : Int32) → (ky_is Y (ky_rp Y k0 9) 8 ∧ (vp_in (((2 : Int32) * v2) + v9) (ky_ln Y (ky_rp Y k0 9)) ∧ w_X7_marksOf_B132 Y post rc ex_235 k0 v1 v2 v3 v4 v5 v6 v9 s0 (((5 : Int32) * v1) + (I (ky_rp Y k0 9) (((2 : Int32) * v2) + v9).toNatClampNeg)) I))) ∧ (v9 = (2 : Int32) → w_X7_marksOf_B132 Y post rc ex_235 k0 v1 v2 v3 v4 v5 v6 v9 s0 (200 : Int32) I)))))))))
set_option maxHeartbeats 4000000 in
set_option maxRecDepth 100000 in
theorem s_X7_marksOf_B86 (X : ky_X p s m args meth c C cX7_marksOf 14 RX7) (hr : meth.sig.returnType = some .int) (post : Int32 → Mm → Prop) (rc : Nat → Int32 → Int32 → Int32 → Int32 → Int32 → Int32 → Mm → Prop) (ex_235 : Int32 → Mm → Prop) (hrc : ∀ (k0 : Nat) (v1 : Int32) (v2 : Int32) (v3 : Int32) (v4 : Int32) (v5 : Int32) (v6 : Int32) (J : Mm), rc k0 v1 v2 v3 v4 v5 v6 J → ky_G p l e rm_X7_marksOf s m args below meth c C Y A 14 (MQ below (va_Qi post (ky_B C Y A) A) args s 0 0 A) 30 [(0, .ref (Y.2.1 k0)), (1, .int v1), (2, .int v2), (3, .int v3), (4, .int v4), (5, .int v5), (6, .int v6)] [] J) (hx_235 : ∀ (v5 : Int32) (J : Mm), ex_235 v5 J → ky_G p l e rm_X7_marksOf s m args below meth c C Y A 14 (MQ below (va_Qi post (ky_B C Y A) A) args s 0 0 A) 235 [(5, .int v5)] [] J) (k0 : Nat) (v1 : Int32) (v2 : Int32) (v3 : Int32) (v4 : Int32) (v5 : Int32) (v6 : Int32) (v9 : Int32) (s0 : Int32) (I : Mm) (hw : w_X7_marksOf_B86 Y post rc ex_235 k0 v1 v2 v3 v4 v5 v6 v9 s0 I) : ky_G p l e rm_X7_marksOf s m args below meth c C Y A 14 (MQ below (va_Qi post (ky_B C Y A) A) args s 0 0 A) 86 [(0, .ref (Y.2.1 k0)), (1, .int v1), (2, .int v2), (3, .int v3), (4, .int v4), (5, .int v5), (6, .int v6), (9, .int v9)] [.int s0] I := by
  refine kg_istore (lv' := [(10, .int s0), (0, .ref (Y.2.1 k0)), (1, .int v1), (2, .int v2), (3, .int v3), (4, .int v4), (5, .int v5), (6, .int v6), (9, .int v9)]) X dX7_marksOf_86 (by decide) rfl ?_
  refine kg_iload X 8 dX7_marksOf_88 rfl ?_
  refine kg_iload X 0 dX7_marksOf_90 rfl ?_
  refine kg_icmp_eq (tgt := 229) X dX7_marksOf_92 (by decide) (fun h43 => ?_) (fun h43 => ?_)
  · have hw := hw.1 h43
    refine kg_iinc (dd := (1 : Int32)) (lvf := fun x14 => [(6, .int x14), (10, .int s0), (0, .ref (Y.2.1 k0)), (1, .int v1), (2, .int v2), (3, .int v3), (4, .int v4), (5, .int v5), (9, .int v9)]) X 7 dX7_marksOf_229 rfl (by decide) (by decide) (fun _ => rfl) (fun x14 ex14 => ?_)
    have hw := hw x14 ex14
    refine kg_goto (tgt := 30) X dX7_marksOf_232 (by decide) ?_
    refine kg_sub [2, 3, 4, 5, 6, 7, 0] rfl ?_
    exact hrc _ _ _ _ _ _ _ _  hw
  · have hw := hw.2 h43
    refine kg_aload_n X 1 dX7_marksOf_95 rfl rfl ?_
    obtain ⟨h15, hw⟩ := hw
    refine kg_getR (j := 3) X kc_7 h15 (by decide) (by decide) rfl kw_643 dX7_marksOf_96 ?_
    refine kg_iload_n X 4 dX7_marksOf_99 rfl rfl ?_
    obtain ⟨h16, hw⟩ := hw
    obtain ⟨h17, hw⟩ := hw
    refine kg_iald X h16 h17 dX7_marksOf_100 ?_
    refine kg_iconst (v := (4 : Int32)) X dX7_marksOf_101 (by decide) ?_
    refine kg_icmp_ge (tgt := 229) X dX7_marksOf_102 (by decide) (fun h42 => ?_) (fun h42 => ?_)
    · have hw := hw.1 h42
      refine kg_iinc (dd := (1 : Int32)) (lvf := fun x18 => [(6, .int x18), (10, .int s0), (0, .ref (Y.2.1 k0)), (1, .int v1), (2, .int v2), (3, .int v3), (4, .int v4), (5, .int v5), (9, .int v9)]) X 7 dX7_marksOf_229 rfl (by decide) (by decide) (fun _ => rfl) (fun x18 ex18 => ?_)
      have hw := hw x18 ex18
      refine kg_goto (tgt := 30) X dX7_marksOf_232 (by decide) ?_
      refine kg_sub [2, 3, 4, 5, 6, 7, 0] rfl ?_
      exact hrc _ _ _ _ _ _ _ _  hw
    · have hw := hw.2 h42
      refine kg_iload X 8 dX7_marksOf_105 rfl ?_
      refine kg_iconst (v := (2 : Int32)) X dX7_marksOf_107 (by decide) ?_
      refine kg_icmp_ne (tgt := 117) X dX7_marksOf_108 (by decide) (fun h41 => ?_) (fun h41 => ?_)
      · have hw := hw.1 h41
        refine kg_iconst (v := (5 : Int32)) X dX7_marksOf_117 (by decide) ?_
        refine kg_iload_n X 2 dX7_marksOf_118 rfl rfl ?_
        refine kg_imul X dX7_marksOf_119 ?_
        refine kg_aload_n X 1 dX7_marksOf_120 rfl rfl ?_
        refine kg_getR (j := 9) X kc_7 h15 (by decide) (by decide) rfl kw_649 dX7_marksOf_121 ?_
        refine kg_iconst (v := (2 : Int32)) X dX7_marksOf_124 (by decide) ?_
        refine kg_iload_n X 3 dX7_marksOf_125 rfl rfl ?_
        refine kg_imul X dX7_marksOf_126 ?_
        refine kg_iload X 8 dX7_marksOf_127 rfl ?_
        refine kg_iadd X dX7_marksOf_129 ?_
        obtain ⟨h19, hw⟩ := hw
        obtain ⟨h20, hw⟩ := hw
        refine kg_iald X h19 h20 dX7_marksOf_130 ?_
        refine kg_iadd X dX7_marksOf_131 ?_
        refine kg_sub [1, 2, 3, 4, 5, 6, 7, 8, 0] rfl ?_
        exact s_X7_marksOf_B132 X hr post _ _ hrc hx_235 _ _ _ _ _ _ _ _ _ _ _ hw
      · have hw := hw.2 h41
        refine kg_sipush (v := (200 : Int32)) X dX7_marksOf_111 (by decide) ?_
        refine kg_goto (tgt := 132) X dX7_marksOf_114 (by decide) ?_
        refine kg_sub [1, 2, 3, 4, 5, 6, 7, 8, 0] rfl ?_
        exact s_X7_marksOf_B132 X hr post _ _ hrc hx_235 _ _ _ _ _ _ _ _ _ _ _ hw
def w_X7_marksOf_B69 (Y : Ly) (post : Int32 → Mm → Prop) (rc : Nat → Int32 → Int32 → Int32 → Int32 → Int32 → Int32 → Mm → Prop) (ex_235 : Int32 → Mm → Prop) (k0 : Nat) (v1 : Int32) (v2 : Int32) (v3 : Int32) (v4 : Int32) (v5 : Int32) (v6 : Int32) (v8 : Int32) (s0 : Int32) (I : Mm) : Prop := ((¬ v8 = (v4 - (1 : Int32)) → w_X7_marksOf_B86 Y post rc ex_235 k0 v1 v2 v3 v4 v5 v6 s0 v8 I) ∧ (v8 = (v4 - (1 : Int32)) → w_X7_marksOf_B86 Y post rc ex_235 k0 v1 v2 v3 v4 v5 v6 s0 (2 : Int32) I))
set_option maxHeartbeats 4000000 in
set_option maxRecDepth 100000 in
theorem s_X7_marksOf_B69 (X : ky_X p s m args meth c C cX7_marksOf 14 RX7) (hr : meth.sig.returnType = some .int) (post : Int32 → Mm → Prop) (rc : Nat → Int32 → Int32 → Int32 → Int32 → Int32 → Int32 → Mm → Prop) (ex_235 : Int32 → Mm → Prop) (hrc : ∀ (k0 : Nat) (v1 : Int32) (v2 : Int32) (v3 : Int32) (v4 : Int32) (v5 : Int32) (v6 : Int32) (J : Mm), rc k0 v1 v2 v3 v4 v5 v6 J → ky_G p l e rm_X7_marksOf s m args below meth c C Y A 14 (MQ below (va_Qi post (ky_B C Y A) A) args s 0 0 A) 30 [(0, .ref (Y.2.1 k0)), (1, .int v1), (2, .int v2), (3, .int v3), (4, .int v4), (5, .int v5), (6, .int v6)] [] J) (hx_235 : ∀ (v5 : Int32) (J : Mm), ex_235 v5 J → ky_G p l e rm_X7_marksOf s m args below meth c C Y A 14 (MQ below (va_Qi post (ky_B C Y A) A) args s 0 0 A) 235 [(5, .int v5)] [] J) (k0 : Nat) (v1 : Int32) (v2 : Int32) (v3 : Int32) (v4 : Int32) (v5 : Int32) (v6 : Int32) (v8 : Int32) (s0 : Int32) (I : Mm) (hw : w_X7_marksOf_B69 Y post rc ex_235 k0 v1 v2 v3 v4 v5 v6 v8 s0 I) : ky_G p l e rm_X7_marksOf s m args below meth c C Y A 14 (MQ below (va_Qi post (ky_B C Y A) A) args s 0 0 A) 69 [(0, .ref (Y.2.1 k0)), (1, .int v1), (2, .int v2), (3, .int v3), (4, .int v4), (5, .int v5), (6, .int v6), (8, .int v8)] [.int s0] I := by
  refine kg_istore (lv' := [(9, .int s0), (0, .ref (Y.2.1 k0)), (1, .int v1), (2, .int v2), (3, .int v3), (4, .int v4), (5, .int v5), (6, .int v6), (8, .int v8)]) X dX7_marksOf_69 (by decide) rfl ?_
  refine kg_iload X 8 dX7_marksOf_71 rfl ?_
  refine kg_iload X 5 dX7_marksOf_73 rfl ?_
  refine kg_iconst (v := (1 : Int32)) X dX7_marksOf_75 (by decide) ?_
  refine kg_isub X dX7_marksOf_76 ?_
  refine kg_icmp_ne (tgt := 84) X dX7_marksOf_77 (by decide) (fun h44 => ?_) (fun h44 => ?_)
  · have hw := hw.1 h44
    refine kg_iload X 8 dX7_marksOf_84 rfl ?_
    refine kg_sub [1, 2, 3, 4, 5, 6, 7, 0] rfl ?_
    exact s_X7_marksOf_B86 X hr post _ _ hrc hx_235 _ _ _ _ _ _ _ _ _ _ hw
  · have hw := hw.2 h44
    refine kg_iconst (v := (2 : Int32)) X dX7_marksOf_80 (by decide) ?_
    refine kg_goto (tgt := 86) X dX7_marksOf_81 (by decide) ?_
    refine kg_sub [1, 2, 3, 4, 5, 6, 7, 0] rfl ?_
    exact s_X7_marksOf_B86 X hr post _ _ hrc hx_235 _ _ _ _ _ _ _ _ _ _ hw
def w_X7_marksOf_L30 (Y : Ly) (post : Int32 → Mm → Prop) (ex_235 : Int32 → Mm → Prop) : Nat → Nat → Int32 → Int32 → Int32 → Int32 → Int32 → Int32 → Mm → Prop
  | 0, _, _, _, _, _, _, _, _ => False
  | n30 + 1, k0, v1, v2, v3, v4, v5, v6, I => (((v4 * v4) ≤ v6 → ex_235 v5 I) ∧ (¬ (v4 * v4) ≤ v6 → (¬ v4 = 0 ∧ (∀ x12 : Int32, x12 = v6 / v4 → (∀ x13 : Int32, x13 = v6 - v6 / v4 * v4 → ((¬ x12 = (v4 - (1 : Int32)) → w_X7_marksOf_B69 Y post (fun k0 v1 v2 v3 v4 v5 v6 J => w_X7_marksOf_L30 Y post ex_235 n30 k0 v1 v2 v3 v4 v5 v6 J) ex_235 k0 v1 v2 v3 v4 v5 v6 x13 x12 I) ∧ (x12 = (v4 - (1 : Int32)) → w_X7_marksOf_B69 Y post (fun k0 v1 v2 v3 v4 v5 v6 J => w_X7_marksOf_L30 Y post ex_235 n30 k0 v1 v2 v3 v4 v5 v6 J) ex_235 k0 v1 v2 v3 v4 v5 v6 x13 (2 : Int32) I)))))))
set_option maxHeartbeats 4000000 in
set_option maxRecDepth 100000 in
theorem s_X7_marksOf_L30 (X : ky_X p s m args meth c C cX7_marksOf 14 RX7) (hr : meth.sig.returnType = some .int) (post : Int32 → Mm → Prop) (ex_235 : Int32 → Mm → Prop) (hx_235 : ∀ (v5 : Int32) (J : Mm), ex_235 v5 J → ky_G p l e rm_X7_marksOf s m args below meth c C Y A 14 (MQ below (va_Qi post (ky_B C Y A) A) args s 0 0 A) 235 [(5, .int v5)] [] J) : ∀ (n30 : Nat) (k0 : Nat) (v1 : Int32) (v2 : Int32) (v3 : Int32) (v4 : Int32) (v5 : Int32) (v6 : Int32) (I : Mm), w_X7_marksOf_L30 Y post ex_235 n30 k0 v1 v2 v3 v4 v5 v6 I → ky_G p l e rm_X7_marksOf s m args below meth c C Y A 14 (MQ below (va_Qi post (ky_B C Y A) A) args s 0 0 A) 30 [(0, .ref (Y.2.1 k0)), (1, .int v1), (2, .int v2), (3, .int v3), (4, .int v4), (5, .int v5), (6, .int v6)] [] I := by
  intro n30
  induction n30 with
  | zero => intro k0 v1 v2 v3 v4 v5 v6 I hw; exact False.elim hw
  | succ n30 ih =>
    intro k0 v1 v2 v3 v4 v5 v6 I hw
    refine kg_iload X 6 dX7_marksOf_30 rfl ?_
    refine kg_iload X 4 dX7_marksOf_32 rfl ?_
    refine kg_iload X 4 dX7_marksOf_34 rfl ?_
    refine kg_imul X dX7_marksOf_36 ?_
    refine kg_icmp_ge (tgt := 235) X dX7_marksOf_37 (by decide) (fun h46 => ?_) (fun h46 => ?_)
    · have hw := hw.1 h46
      refine kg_sub [5] rfl ?_
      exact hx_235 _ _  hw
    · have hw := hw.2 h46
      refine kg_iload X 6 dX7_marksOf_40 rfl ?_
      refine kg_iload X 4 dX7_marksOf_42 rfl ?_
      obtain ⟨h11, hw⟩ := hw
      refine kg_idiv X dX7_marksOf_44 h11 ?_
      refine kg_topi (fun x12 ex12 => ?_)
      have hw := hw x12 ex12
      refine kg_istore (lv' := [(7, .int x12), (0, .ref (Y.2.1 k0)), (1, .int v1), (2, .int v2), (3, .int v3), (4, .int v4), (5, .int v5), (6, .int v6)]) X dX7_marksOf_45 (by decide) rfl ?_
      refine kg_iload X 7 dX7_marksOf_47 rfl ?_
      refine kg_iload X 5 dX7_marksOf_49 rfl ?_
      refine kg_irem X dX7_marksOf_51 h11 ?_
      refine kg_topi (fun x13 ex13 => ?_)
      have hw := hw x13 ex13
      refine kg_istore (lv' := [(8, .int x13), (7, .int x12), (0, .ref (Y.2.1 k0)), (1, .int v1), (2, .int v2), (3, .int v3), (4, .int v4), (5, .int v5), (6, .int v6)]) X dX7_marksOf_52 (by decide) rfl ?_
      refine kg_iload X 1 dX7_marksOf_54 rfl ?_
      refine kg_iload X 6 dX7_marksOf_56 rfl ?_
      refine kg_iconst (v := (1 : Int32)) X dX7_marksOf_58 (by decide) ?_
      refine kg_isub X dX7_marksOf_59 ?_
      refine kg_icmp_ne (tgt := 67) X dX7_marksOf_60 (by decide) (fun h45 => ?_) (fun h45 => ?_)
      · have hw := hw.1 h45
        refine kg_iload X 1 dX7_marksOf_67 rfl ?_
        refine kg_sub [2, 3, 4, 5, 6, 7, 8, 0] rfl ?_
        exact s_X7_marksOf_B69 X hr post _ _ ih hx_235 _ _ _ _ _ _ _ _ _ _ hw
      · have hw := hw.2 h45
        refine kg_iconst (v := (2 : Int32)) X dX7_marksOf_63 (by decide) ?_
        refine kg_goto (tgt := 69) X dX7_marksOf_64 (by decide) ?_
        refine kg_sub [2, 3, 4, 5, 6, 7, 8, 0] rfl ?_
        exact s_X7_marksOf_B69 X hr post _ _ ih hx_235 _ _ _ _ _ _ _ _ _ _ hw
def w_X7_marksOf (Y : Ly) (I : Mm) (k0 : Nat) (v1 : Int32) (post : Int32 → Mm → Prop) : Prop := (ky_is Y k0 7 ∧ (ky_is Y (ky_rp Y k0 31) 8 ∧ (vp_in v1 (ky_ln Y (ky_rp Y k0 31)) ∧ (∀ x4 : Int32, x4 = I (ky_rp Y k0 31) v1.toNatClampNeg → (ky_is Y (ky_rp Y k0 8) 8 ∧ (vp_in x4 (ky_ln Y (ky_rp Y k0 8)) ∧ (∀ x7 : Int32, x7 = I (ky_rp Y k0 8) x4.toNatClampNeg → (ky_is Y (ky_rp Y k0 2) 8 ∧ (vp_in x7 (ky_ln Y (ky_rp Y k0 2)) ∧ (∀ x10 : Int32, x10 = (I (ky_rp Y k0 2) x7.toNatClampNeg) + (1 : Int32) → (∃ n30 : Nat, w_X7_marksOf_L30 Y post (fun v48 I47 => post v48 I47) n30 k0 v1 x4 x7 x10 (0 : Int32) (0 : Int32) I)))))))))))
set_option maxHeartbeats 4000000 in
set_option maxRecDepth 100000 in
theorem c_X7_marksOf (l : Launch) (C : Cc) (Y : Ly) (A : Nat → Prop) (I : Mm) (k0 : Nat) (v1 : Int32) (post : Int32 → Mm → Prop) (hw : w_X7_marksOf Y I k0 v1 post) : ky_MI l yX7_marksOf cX7_marksOf 14 (some .int) rm_X7_marksOf C Y A I [.ref (Y.2.1 k0), .int v1] post := by
  refine ky_met (by decide) (Nat.le_of_ble_eq_true rfl) ?_
  intro p e s m args below meth c X hr
  have X : ky_X p s m args meth c C cX7_marksOf 14 RX7 := X
  show ky_G p l e rm_X7_marksOf s m args below meth c C Y A 14 (MQ below (va_Qi post (ky_B C Y A) A) args s 0 0 A) 0 [(0, .ref (Y.2.1 k0)), (1, .int v1)] [] I
  refine kg_aload_n X 0 dX7_marksOf_0 rfl rfl ?_
  obtain ⟨h1, hw⟩ := hw
  refine kg_getR (j := 31) X kc_7 h1 (by decide) (by decide) rfl kw_671 dX7_marksOf_1 ?_
  refine kg_iload_n X 1 dX7_marksOf_4 rfl rfl ?_
  obtain ⟨h2, hw⟩ := hw
  obtain ⟨h3, hw⟩ := hw
  refine kg_iald X h2 h3 dX7_marksOf_5 ?_
  refine kg_topi (fun x4 ex4 => ?_)
  have hw := hw x4 ex4
  refine kg_istore_n (lv' := [(2, .int x4), (0, .ref (Y.2.1 k0)), (1, .int v1)]) X dX7_marksOf_6 rfl (by decide) rfl ?_
  refine kg_aload_n X 1 dX7_marksOf_7 rfl rfl ?_
  refine kg_getR (j := 8) X kc_7 h1 (by decide) (by decide) rfl kw_648 dX7_marksOf_8 ?_
  refine kg_iload_n X 0 dX7_marksOf_11 rfl rfl ?_
  obtain ⟨h5, hw⟩ := hw
  obtain ⟨h6, hw⟩ := hw
  refine kg_iald X h5 h6 dX7_marksOf_12 ?_
  refine kg_topi (fun x7 ex7 => ?_)
  have hw := hw x7 ex7
  refine kg_istore_n (lv' := [(3, .int x7), (2, .int x4), (0, .ref (Y.2.1 k0)), (1, .int v1)]) X dX7_marksOf_13 rfl (by decide) rfl ?_
  refine kg_aload_n X 2 dX7_marksOf_14 rfl rfl ?_
  refine kg_getR (j := 2) X kc_7 h1 (by decide) (by decide) rfl kw_642 dX7_marksOf_15 ?_
  refine kg_iload_n X 0 dX7_marksOf_18 rfl rfl ?_
  obtain ⟨h8, hw⟩ := hw
  obtain ⟨h9, hw⟩ := hw
  refine kg_iald X h8 h9 dX7_marksOf_19 ?_
  refine kg_iconst (v := (1 : Int32)) X dX7_marksOf_20 (by decide) ?_
  refine kg_iadd X dX7_marksOf_21 ?_
  refine kg_topi (fun x10 ex10 => ?_)
  have hw := hw x10 ex10
  refine kg_istore (lv' := [(4, .int x10), (3, .int x7), (2, .int x4), (0, .ref (Y.2.1 k0)), (1, .int v1)]) X dX7_marksOf_22 (by decide) rfl ?_
  refine kg_iconst (v := (0 : Int32)) X dX7_marksOf_24 (by decide) ?_
  refine kg_istore (lv' := [(5, .int (0 : Int32)), (4, .int x10), (3, .int x7), (2, .int x4), (0, .ref (Y.2.1 k0)), (1, .int v1)]) X dX7_marksOf_25 (by decide) rfl ?_
  refine kg_iconst (v := (0 : Int32)) X dX7_marksOf_27 (by decide) ?_
  refine kg_istore (lv' := [(6, .int (0 : Int32)), (5, .int (0 : Int32)), (4, .int x10), (3, .int x7), (2, .int x4), (0, .ref (Y.2.1 k0)), (1, .int v1)]) X dX7_marksOf_28 (by decide) rfl ?_
  obtain ⟨n30, hw⟩ := hw
  refine kg_sub [5, 6, 4, 3, 2, 1, 0] rfl ?_
  refine s_X7_marksOf_L30 X hr post _ ?_ n30 _ _ _ _ _ _ _ _  hw
  · intro v48 I47 hw
    refine kg_iload X 0 dX7_marksOf_235 rfl ?_
    exact kg_iret X hr hw dX7_marksOf_237
end
abbrev rm_X7_improve : Room := { frames := 3, cells := 0, slots := 0, locals := 81 }
section
variable {p : Program} {l : Launch} {e : Env} {s : State} {m : MethodId} {args : Array Value} {below : List Frame} {meth : Method} {c : Code} {C : Cc} {Y : Ly} {A : Nat → Prop}
def w_X7_improve_L42 (Y : Ly) (post : Int32 → Mm → Prop) (ex_79 : Nat → Int32 → Mm → Prop) : Nat → Nat → Int32 → Int32 → Mm → Prop
  | 0, _, _, _, _ => False
  | n42 + 1, k0, v1, v2, I => (ky_is Y k0 7 ∧ (((I k0 30) ≤ v2 → ex_79 k0 v1 I) ∧ (¬ (I k0 30) ≤ v2 → w_X7_gather Y I k0 v2 (fun I6 => w_X7_holdsTogether Y I6 k0 (201 : Int32) (fun r8 I7 => ((r8 = 0 → (∀ x9 : Int32, x9 = v2 + (1 : Int32) → w_X7_improve_L42 Y post ex_79 n42 k0 v1 x9 I7)) ∧ (¬ r8 = 0 → w_X7_marksOf Y I7 k0 v2 (fun r11 I10 => (∀ x12 : Int32, x12 = v1 + r11 → (∀ x13 : Int32, x13 = v2 + (1 : Int32) → w_X7_improve_L42 Y post ex_79 n42 k0 x12 x13 I10))))))))))
set_option maxHeartbeats 4000000 in
set_option maxRecDepth 100000 in
theorem s_X7_improve_L42 (X : ky_X p s m args meth c C cX7_improve 3 RX7) (hr : meth.sig.returnType = some .int) (post : Int32 → Mm → Prop) (ex_79 : Nat → Int32 → Mm → Prop) (hx_79 : ∀ (k0 : Nat) (v1 : Int32) (J : Mm), ex_79 k0 v1 J → ky_G p l e rm_X7_improve s m args below meth c C Y A 3 (MQ below (va_Qi post (ky_B C Y A) A) args s 0 0 A) 79 [(0, .ref (Y.2.1 k0)), (1, .int v1)] [] J) : ∀ (n42 : Nat) (k0 : Nat) (v1 : Int32) (v2 : Int32) (I : Mm), w_X7_improve_L42 Y post ex_79 n42 k0 v1 v2 I → ky_G p l e rm_X7_improve s m args below meth c C Y A 3 (MQ below (va_Qi post (ky_B C Y A) A) args s 0 0 A) 42 [(0, .ref (Y.2.1 k0)), (1, .int v1), (2, .int v2)] [] I := by
  intro n42
  induction n42 with
  | zero => intro k0 v1 v2 I hw; exact False.elim hw
  | succ n42 ih =>
    intro k0 v1 v2 I hw
    refine kg_iload_n X 2 dX7_improve_42 rfl rfl ?_
    refine kg_aload_n X 0 dX7_improve_43 rfl rfl ?_
    obtain ⟨h5, hw⟩ := hw
    refine kg_getI (j := 30) X kc_7 h5 (by decide) (by decide) rfl kw_670 dX7_improve_44 ?_
    refine kg_icmp_ge (tgt := 79) X dX7_improve_47 (by decide) (fun h15 => ?_) (fun h15 => ?_)
    · have hw := hw.1 h15
      refine kg_sub [0, 1] rfl ?_
      exact hx_79 _ _ _  hw
    · have hw := hw.2 h15
      refine kg_aload_n X 0 dX7_improve_50 rfl rfl ?_
      refine kg_iload_n X 2 dX7_improve_51 rfl rfl ?_
      refine kg_callVv (n := 1) (As := [.int v2]) X (c_X7_gather l C Y A I k0 v2 _ hw) kc_7 h5 rfl iv_X7_gather kw_890 (by decide +kernel) (by decide) rfl rfl (Nat.le_of_ble_eq_true rfl) dX7_improve_52 (fun I6 hw => ?_)
      refine kg_aload_n X 0 dX7_improve_55 rfl rfl ?_
      refine kg_sipush (v := (201 : Int32)) X dX7_improve_56 (by decide) ?_
      refine kg_callVi (n := 1) (As := [.int (201 : Int32)]) X (c_X7_holdsTogether l C Y A I6 k0 (201 : Int32) _ hw) kc_7 h5 rfl iv_X7_holdsTogether kw_857 (by decide +kernel) (by decide) rfl rfl (Nat.le_of_ble_eq_true rfl) dX7_improve_59 (fun r8 I7 hw => ?_)
      refine kg_if_eq (tgt := 73) X dX7_improve_62 (by decide) (fun h14 => ?_) (fun h14 => ?_)
      · have hw := hw.1 h14
        refine kg_iinc (dd := (1 : Int32)) (lvf := fun x9 => [(2, .int x9), (0, .ref (Y.2.1 k0)), (1, .int v1)]) X 2 dX7_improve_73 rfl (by decide) (by decide) (fun _ => rfl) (fun x9 ex9 => ?_)
        have hw := hw x9 ex9
        refine kg_goto (tgt := 42) X dX7_improve_76 (by decide) ?_
        refine kg_sub [1, 2, 0] rfl ?_
        exact ih _ _ _ _  hw
      · have hw := hw.2 h14
        refine kg_iload_n X 1 dX7_improve_65 rfl rfl ?_
        refine kg_aload_n X 0 dX7_improve_66 rfl rfl ?_
        refine kg_iload_n X 2 dX7_improve_67 rfl rfl ?_
        refine kg_callVi (n := 1) (As := [.int v2]) X (c_X7_marksOf l C Y A I7 k0 v2 _ hw) kc_7 h5 rfl iv_X7_marksOf kw_898 (by decide +kernel) (by decide) rfl rfl (Nat.le_of_ble_eq_true rfl) dX7_improve_68 (fun r11 I10 hw => ?_)
        refine kg_iadd X dX7_improve_71 ?_
        refine kg_topi (fun x12 ex12 => ?_)
        have hw := hw x12 ex12
        refine kg_istore_n (lv' := [(1, .int x12), (0, .ref (Y.2.1 k0)), (2, .int v2)]) X dX7_improve_72 rfl (by decide) rfl ?_
        refine kg_iinc (dd := (1 : Int32)) (lvf := fun x13 => [(2, .int x13), (1, .int x12), (0, .ref (Y.2.1 k0))]) X 2 dX7_improve_73 rfl (by decide) (by decide) (fun _ => rfl) (fun x13 ex13 => ?_)
        have hw := hw x13 ex13
        refine kg_goto (tgt := 42) X dX7_improve_76 (by decide) ?_
        refine kg_sub [2, 1, 0] rfl ?_
        exact ih _ _ _ _  hw
def w_X7_improve (Y : Ly) (I : Mm) (k0 : Nat) (post : Int32 → Mm → Prop) : Prop := (ky_is Y k0 7 ∧ (((I k0 30) ≤ (40 : Int32) → w_X7_gather Y I k0 (0 : Int32) (fun I2 => w_X7_holdsTogether Y I2 k0 (201 : Int32) (fun r4 I3 => ((r4 = 0 → (∃ n42 : Nat, w_X7_improve_L42 Y post (fun k17 v18 I16 => ((¬ v18 = 0 → (ky_is Y k17 7 ∧ (∀ I20 : Mm, I20 = ky_up I16 k17 24 ((I16 k17 24) + (1 : Int32)) → w_X7_freshStart Y I20 k17 (fun I21 => post v18 I21)))) ∧ (v18 = 0 → (ky_is Y k17 7 ∧ (∀ I23 : Mm, I23 = ky_up I16 k17 23 (3 : Int32) → post (0 : Int32) I23))))) n42 k0 (0 : Int32) (1 : Int32) I3)) ∧ (¬ r4 = 0 → (∀ I25 : Mm, I25 = ky_up I3 k0 23 (2 : Int32) → post (0 : Int32) I25)))))) ∧ (¬ (I k0 30) ≤ (40 : Int32) → (∀ I27 : Mm, I27 = ky_up I k0 23 (3 : Int32) → post (0 : Int32) I27))))
set_option maxHeartbeats 4000000 in
set_option maxRecDepth 100000 in
theorem c_X7_improve (l : Launch) (C : Cc) (Y : Ly) (A : Nat → Prop) (I : Mm) (k0 : Nat) (post : Int32 → Mm → Prop) (hw : w_X7_improve Y I k0 post) : ky_MI l yX7_improve cX7_improve 3 (some .int) rm_X7_improve C Y A I [.ref (Y.2.1 k0)] post := by
  refine ky_met (by decide) (Nat.le_of_ble_eq_true rfl) ?_
  intro p e s m args below meth c X hr
  have X : ky_X p s m args meth c C cX7_improve 3 RX7 := X
  show ky_G p l e rm_X7_improve s m args below meth c C Y A 3 (MQ below (va_Qi post (ky_B C Y A) A) args s 0 0 A) 0 [(0, .ref (Y.2.1 k0))] [] I
  refine kg_aload_n X 0 dX7_improve_0 rfl rfl ?_
  obtain ⟨h1, hw⟩ := hw
  refine kg_getI (j := 30) X kc_7 h1 (by decide) (by decide) rfl kw_670 dX7_improve_1 ?_
  refine kg_bipush (v := (40 : Int32)) X dX7_improve_4 (by decide) ?_
  refine kg_icmp_le (tgt := 16) X dX7_improve_6 (by decide) (fun h28 => ?_) (fun h28 => ?_)
  · have hw := hw.1 h28
    refine kg_aload_n X 0 dX7_improve_16 rfl rfl ?_
    refine kg_iconst (v := (0 : Int32)) X dX7_improve_17 (by decide) ?_
    refine kg_callVv (n := 1) (As := [.int (0 : Int32)]) X (c_X7_gather l C Y A I k0 (0 : Int32) _ hw) kc_7 h1 rfl iv_X7_gather kw_890 (by decide +kernel) (by decide) rfl rfl (Nat.le_of_ble_eq_true rfl) dX7_improve_18 (fun I2 hw => ?_)
    refine kg_aload_n X 0 dX7_improve_21 rfl rfl ?_
    refine kg_sipush (v := (201 : Int32)) X dX7_improve_22 (by decide) ?_
    refine kg_callVi (n := 1) (As := [.int (201 : Int32)]) X (c_X7_holdsTogether l C Y A I2 k0 (201 : Int32) _ hw) kc_7 h1 rfl iv_X7_holdsTogether kw_857 (by decide +kernel) (by decide) rfl rfl (Nat.le_of_ble_eq_true rfl) dX7_improve_25 (fun r4 I3 hw => ?_)
    refine kg_if_eq (tgt := 38) X dX7_improve_28 (by decide) (fun h26 => ?_) (fun h26 => ?_)
    · have hw := hw.1 h26
      refine kg_iconst (v := (0 : Int32)) X dX7_improve_38 (by decide) ?_
      refine kg_istore_n (lv' := [(1, .int (0 : Int32)), (0, .ref (Y.2.1 k0))]) X dX7_improve_39 rfl (by decide) rfl ?_
      refine kg_iconst (v := (1 : Int32)) X dX7_improve_40 (by decide) ?_
      refine kg_istore_n (lv' := [(2, .int (1 : Int32)), (1, .int (0 : Int32)), (0, .ref (Y.2.1 k0))]) X dX7_improve_41 rfl (by decide) rfl ?_
      obtain ⟨n42, hw⟩ := hw
      refine kg_sub [2, 1, 0] rfl ?_
      refine s_X7_improve_L42 X hr post _ ?_ n42 _ _ _ _  hw
      · intro k17 v18 I16 hw
        refine kg_iload_n X 1 dX7_improve_79 rfl rfl ?_
        refine kg_if_ne (tgt := 90) X dX7_improve_80 (by decide) (fun h24 => ?_) (fun h24 => ?_)
        · have hw := hw.1 h24
          refine kg_aload_n X 0 dX7_improve_90 rfl rfl ?_
          refine kg_dup X dX7_improve_91 rfl ?_
          obtain ⟨h19, hw⟩ := hw
          refine kg_getI (j := 24) X kc_7 h19 (by decide) (by decide) rfl kw_664 dX7_improve_92 ?_
          refine kg_iconst (v := (1 : Int32)) X dX7_improve_95 (by decide) ?_
          refine kg_iadd X dX7_improve_96 ?_
          refine kg_putI (ci := 7) (Tn := TX7) (j := 24) (ty := .int) X tyX7 tyX7_ok nmX7 kc_7 h19 (by decide) (by decide) rfl kw_664 (by decide +kernel) rfl rfl dX7_improve_97 ?_
          refine kg_topm (fun I20 eI20 => ?_)
          have hw := hw I20 eI20
          refine kg_aload_n X 0 dX7_improve_100 rfl rfl ?_
          refine kg_callVv (n := 0) (As := []) X (c_X7_freshStart l C Y A I20 k17 _ hw) kc_7 h19 rfl iv_X7_freshStart kw_773 (by decide +kernel) (by decide) rfl rfl (Nat.le_of_ble_eq_true rfl) dX7_improve_101 (fun I21 hw => ?_)
          refine kg_iload_n X 1 dX7_improve_104 rfl rfl ?_
          exact kg_iret X hr hw dX7_improve_105
        · have hw := hw.2 h24
          refine kg_aload_n X 0 dX7_improve_83 rfl rfl ?_
          refine kg_iconst (v := (3 : Int32)) X dX7_improve_84 (by decide) ?_
          obtain ⟨h22, hw⟩ := hw
          refine kg_putI (ci := 7) (Tn := TX7) (j := 23) (ty := .int) X tyX7 tyX7_ok nmX7 kc_7 h22 (by decide) (by decide) rfl kw_663 (by decide +kernel) rfl rfl dX7_improve_85 ?_
          refine kg_topm (fun I23 eI23 => ?_)
          have hw := hw I23 eI23
          refine kg_iconst (v := (0 : Int32)) X dX7_improve_88 (by decide) ?_
          exact kg_iret X hr hw dX7_improve_89
    · have hw := hw.2 h26
      refine kg_aload_n X 0 dX7_improve_31 rfl rfl ?_
      refine kg_iconst (v := (2 : Int32)) X dX7_improve_32 (by decide) ?_
      refine kg_putI (ci := 7) (Tn := TX7) (j := 23) (ty := .int) X tyX7 tyX7_ok nmX7 kc_7 h1 (by decide) (by decide) rfl kw_663 (by decide +kernel) rfl rfl dX7_improve_33 ?_
      refine kg_topm (fun I25 eI25 => ?_)
      have hw := hw I25 eI25
      refine kg_iconst (v := (0 : Int32)) X dX7_improve_36 (by decide) ?_
      exact kg_iret X hr hw dX7_improve_37
  · have hw := hw.2 h28
    refine kg_aload_n X 0 dX7_improve_9 rfl rfl ?_
    refine kg_iconst (v := (3 : Int32)) X dX7_improve_10 (by decide) ?_
    refine kg_putI (ci := 7) (Tn := TX7) (j := 23) (ty := .int) X tyX7 tyX7_ok nmX7 kc_7 h1 (by decide) (by decide) rfl kw_663 (by decide +kernel) rfl rfl dX7_improve_11 ?_
    refine kg_topm (fun I27 eI27 => ?_)
    have hw := hw I27 eI27
    refine kg_iconst (v := (0 : Int32)) X dX7_improve_14 (by decide) ?_
    exact kg_iret X hr hw dX7_improve_15
end
abbrev rm_X7_refine : Room := { frames := 4, cells := 0, slots := 0, locals := 103 }
section
variable {p : Program} {l : Launch} {e : Env} {s : State} {m : MethodId} {args : Array Value} {below : List Frame} {meth : Method} {c : Code} {C : Cc} {Y : Ly} {A : Nat → Prop}
def w_X7_refine_B20 (Y : Ly) (post : Int32 → Mm → Prop) (k0 : Nat) (s0 : Int32) (t1 : Nat) (I : Mm) : Prop := (ky_is Y t1 7 ∧ (∀ I3 : Mm, I3 = ky_up I t1 0 s0 → (ky_is Y k0 7 ∧ (((I3 k0 0) ≤ 0 → w_X7_improve Y I3 k0 (fun r6 I5 => post r6 I5)) ∧ (¬ (I3 k0 0) ≤ 0 → post (0 : Int32) I3)))))
set_option maxHeartbeats 4000000 in
set_option maxRecDepth 100000 in
theorem s_X7_refine_B20 (X : ky_X p s m args meth c C cX7_refine 1 RX7) (hr : meth.sig.returnType = some .int) (post : Int32 → Mm → Prop) (k0 : Nat) (s0 : Int32) (t1 : Nat) (I : Mm) (hw : w_X7_refine_B20 Y post k0 s0 t1 I) : ky_G p l e rm_X7_refine s m args below meth c C Y A 1 (MQ below (va_Qi post (ky_B C Y A) A) args s 0 0 A) 20 [(0, .ref (Y.2.1 k0))] [.int s0, .ref (Y.2.1 t1)] I := by
  obtain ⟨h2, hw⟩ := hw
  refine kg_putI (ci := 7) (Tn := TX7) (j := 0) (ty := .int) X tyX7 tyX7_ok nmX7 kc_7 h2 (by decide) (by decide) rfl kw_640 (by decide +kernel) rfl rfl dX7_refine_20 ?_
  refine kg_topm (fun I3 eI3 => ?_)
  have hw := hw I3 eI3
  refine kg_aload_n X 0 dX7_refine_23 rfl rfl ?_
  obtain ⟨h4, hw⟩ := hw
  refine kg_getI (j := 0) X kc_7 h4 (by decide) (by decide) rfl kw_640 dX7_refine_24 ?_
  refine kg_if_le (tgt := 34) X dX7_refine_27 (by decide) (fun h7 => ?_) (fun h7 => ?_)
  · have hw := hw.1 h7
    refine kg_aload_n X 0 dX7_refine_34 rfl rfl ?_
    refine kg_callVi (n := 0) (As := []) X (c_X7_improve l C Y A I3 k0 _ hw) kc_7 h4 rfl iv_X7_improve kw_886 (by decide +kernel) (by decide) rfl rfl (Nat.le_of_ble_eq_true rfl) dX7_refine_35 (fun r6 I5 hw => ?_)
    exact kg_iret X hr hw dX7_refine_38
  · have hw := hw.2 h7
    refine kg_iconst (v := (0 : Int32)) X dX7_refine_30 (by decide) ?_
    refine kg_goto (tgt := 38) X dX7_refine_31 (by decide) ?_
    exact kg_iret X hr hw dX7_refine_38
def w_X7_refine (Y : Ly) (I : Mm) (k0 : Nat) (post : Int32 → Mm → Prop) : Prop := (ky_is Y k0 7 ∧ (((I k0 21) < 0 → w_X7_refine_B20 Y post k0 (1 : Int32) k0 I) ∧ (¬ (I k0 21) < 0 → (((I k0 23) ≤ 0 → w_X7_refine_B20 Y post k0 (0 : Int32) k0 I) ∧ (¬ (I k0 23) ≤ 0 → w_X7_refine_B20 Y post k0 (1 : Int32) k0 I)))))
set_option maxHeartbeats 4000000 in
set_option maxRecDepth 100000 in
theorem c_X7_refine (l : Launch) (C : Cc) (Y : Ly) (A : Nat → Prop) (I : Mm) (k0 : Nat) (post : Int32 → Mm → Prop) (hw : w_X7_refine Y I k0 post) : ky_MI l yX7_refine cX7_refine 1 (some .int) rm_X7_refine C Y A I [.ref (Y.2.1 k0)] post := by
  refine ky_met (by decide) (Nat.le_of_ble_eq_true rfl) ?_
  intro p e s m args below meth c X hr
  have X : ky_X p s m args meth c C cX7_refine 1 RX7 := X
  show ky_G p l e rm_X7_refine s m args below meth c C Y A 1 (MQ below (va_Qi post (ky_B C Y A) A) args s 0 0 A) 0 [(0, .ref (Y.2.1 k0))] [] I
  refine kg_aload_n X 0 dX7_refine_0 rfl rfl ?_
  refine kg_aload_n X 0 dX7_refine_1 rfl rfl ?_
  obtain ⟨h1, hw⟩ := hw
  refine kg_getI (j := 21) X kc_7 h1 (by decide) (by decide) rfl kw_661 dX7_refine_2 ?_
  refine kg_if_lt (tgt := 15) X dX7_refine_5 (by decide) (fun h9 => ?_) (fun h9 => ?_)
  · have hw := hw.1 h9
    refine kg_iconst (v := (1 : Int32)) X dX7_refine_15 (by decide) ?_
    refine kg_goto (tgt := 20) X dX7_refine_16 (by decide) ?_
    refine kg_sub [0] rfl ?_
    exact s_X7_refine_B20 X hr post _ _ _ _ hw
  · have hw := hw.2 h9
    refine kg_aload_n X 0 dX7_refine_8 rfl rfl ?_
    refine kg_getI (j := 23) X kc_7 h1 (by decide) (by decide) rfl kw_663 dX7_refine_9 ?_
    refine kg_if_le (tgt := 19) X dX7_refine_12 (by decide) (fun h8 => ?_) (fun h8 => ?_)
    · have hw := hw.1 h8
      refine kg_iconst (v := (0 : Int32)) X dX7_refine_19 (by decide) ?_
      refine kg_sub [0] rfl ?_
      exact s_X7_refine_B20 X hr post _ _ _ _ hw
    · have hw := hw.2 h8
      refine kg_iconst (v := (1 : Int32)) X dX7_refine_15 (by decide) ?_
      refine kg_goto (tgt := 20) X dX7_refine_16 (by decide) ?_
      refine kg_sub [0] rfl ?_
      exact s_X7_refine_B20 X hr post _ _ _ _ hw
end
abbrev rm_X7_verify : Room := { frames := 6, cells := 0, slots := 0, locals := 150 }
section
variable {p : Program} {l : Launch} {e : Env} {s : State} {m : MethodId} {args : Array Value} {below : List Frame} {meth : Method} {c : Code} {C : Cc} {Y : Ly} {A : Nat → Prop}
def w_X7_verify_L30 (Y : Ly) (post : Int32 → Mm → Prop) (ex_68 : Nat → Mm → Prop) : Nat → Nat → Int32 → Int32 → Mm → Prop
  | 0, _, _, _, _ => False
  | n30 + 1, k0, v1, v2, I => ((v1 ≤ v2 → ex_68 k0 I) ∧ (¬ v1 ≤ v2 → (ky_is Y k0 7 ∧ ((¬ (I k0 23) = 0 → ex_68 k0 I) ∧ ((I k0 23) = 0 → (((I k0 21) < 0 → w_X7_next Y I k0 (fun r8 I7 => (∀ x9 : Int32, x9 = v2 + (1 : Int32) → w_X7_verify_L30 Y post ex_68 n30 k0 v1 x9 I7))) ∧ (¬ (I k0 21) < 0 → w_X7_improve Y I k0 (fun r11 I10 => (∀ x12 : Int32, x12 = v2 + (1 : Int32) → w_X7_verify_L30 Y post ex_68 n30 k0 v1 x12 I10)))))))))
set_option maxHeartbeats 4000000 in
set_option maxRecDepth 100000 in
theorem s_X7_verify_L30 (X : ky_X p s m args meth c C cX7_verify 3 RX7) (hr : meth.sig.returnType = some .int) (post : Int32 → Mm → Prop) (ex_68 : Nat → Mm → Prop) (hx_68 : ∀ (k0 : Nat) (J : Mm), ex_68 k0 J → ky_G p l e rm_X7_verify s m args below meth c C Y A 3 (MQ below (va_Qi post (ky_B C Y A) A) args s 0 0 A) 68 [(0, .ref (Y.2.1 k0))] [] J) : ∀ (n30 : Nat) (k0 : Nat) (v1 : Int32) (v2 : Int32) (I : Mm), w_X7_verify_L30 Y post ex_68 n30 k0 v1 v2 I → ky_G p l e rm_X7_verify s m args below meth c C Y A 3 (MQ below (va_Qi post (ky_B C Y A) A) args s 0 0 A) 30 [(0, .ref (Y.2.1 k0)), (1, .int v1), (2, .int v2)] [] I := by
  intro n30
  induction n30 with
  | zero => intro k0 v1 v2 I hw; exact False.elim hw
  | succ n30 ih =>
    intro k0 v1 v2 I hw
    refine kg_iload_n X 2 dX7_verify_30 rfl rfl ?_
    refine kg_iload_n X 1 dX7_verify_31 rfl rfl ?_
    refine kg_icmp_ge (tgt := 68) X dX7_verify_32 (by decide) (fun h15 => ?_) (fun h15 => ?_)
    · have hw := hw.1 h15
      refine kg_sub [0] rfl ?_
      exact hx_68 _ _  hw
    · have hw := hw.2 h15
      refine kg_aload_n X 0 dX7_verify_35 rfl rfl ?_
      obtain ⟨h6, hw⟩ := hw
      refine kg_getI (j := 23) X kc_7 h6 (by decide) (by decide) rfl kw_663 dX7_verify_36 ?_
      refine kg_if_ne (tgt := 68) X dX7_verify_39 (by decide) (fun h14 => ?_) (fun h14 => ?_)
      · have hw := hw.1 h14
        refine kg_sub [0] rfl ?_
        exact hx_68 _ _  hw
      · have hw := hw.2 h14
        refine kg_aload_n X 0 dX7_verify_42 rfl rfl ?_
        refine kg_getI (j := 21) X kc_7 h6 (by decide) (by decide) rfl kw_661 dX7_verify_43 ?_
        refine kg_if_lt (tgt := 57) X dX7_verify_46 (by decide) (fun h13 => ?_) (fun h13 => ?_)
        · have hw := hw.1 h13
          refine kg_aload_n X 0 dX7_verify_57 rfl rfl ?_
          refine kg_callVi (n := 0) (As := []) X (c_X7_next l C Y A I k0 _ hw) kc_7 h6 rfl iv_X7_next kw_825 (by decide +kernel) (by decide) rfl rfl (Nat.le_of_ble_eq_true rfl) dX7_verify_58 (fun r8 I7 hw => ?_)
          refine kg_pop X dX7_verify_61 rfl ?_
          refine kg_iinc (dd := (1 : Int32)) (lvf := fun x9 => [(2, .int x9), (0, .ref (Y.2.1 k0)), (1, .int v1)]) X 2 dX7_verify_62 rfl (by decide) (by decide) (fun _ => rfl) (fun x9 ex9 => ?_)
          have hw := hw x9 ex9
          refine kg_goto (tgt := 30) X dX7_verify_65 (by decide) ?_
          refine kg_sub [1, 2, 0] rfl ?_
          exact ih _ _ _ _  hw
        · have hw := hw.2 h13
          refine kg_aload_n X 0 dX7_verify_49 rfl rfl ?_
          refine kg_callVi (n := 0) (As := []) X (c_X7_improve l C Y A I k0 _ hw) kc_7 h6 rfl iv_X7_improve kw_886 (by decide +kernel) (by decide) rfl rfl (Nat.le_of_ble_eq_true rfl) dX7_verify_50 (fun r11 I10 hw => ?_)
          refine kg_pop X dX7_verify_53 rfl ?_
          refine kg_goto (tgt := 62) X dX7_verify_54 (by decide) ?_
          refine kg_iinc (dd := (1 : Int32)) (lvf := fun x12 => [(2, .int x12), (0, .ref (Y.2.1 k0)), (1, .int v1)]) X 2 dX7_verify_62 rfl (by decide) (by decide) (fun _ => rfl) (fun x12 ex12 => ?_)
          have hw := hw x12 ex12
          refine kg_goto (tgt := 30) X dX7_verify_65 (by decide) ?_
          refine kg_sub [1, 2, 0] rfl ?_
          exact ih _ _ _ _  hw
def w_X7_verify_B16 (Y : Ly) (post : Int32 → Mm → Prop) (k0 : Nat) (v1 : Int32) (s0 : Int32) (t1 : Nat) (I : Mm) : Prop := (ky_is Y t1 7 ∧ (∀ I4 : Mm, I4 = ky_up I t1 0 s0 → (ky_is Y k0 7 ∧ (((I4 k0 0) ≤ 0 → (∃ n30 : Nat, w_X7_verify_L30 Y post (fun k17 I16 => (ky_is Y k17 7 ∧ post (I16 k17 23) I16)) n30 k0 v1 (0 : Int32) I4)) ∧ (¬ (I4 k0 0) ≤ 0 → post (0 : Int32) I4)))))
set_option maxHeartbeats 4000000 in
set_option maxRecDepth 100000 in
theorem s_X7_verify_B16 (X : ky_X p s m args meth c C cX7_verify 3 RX7) (hr : meth.sig.returnType = some .int) (post : Int32 → Mm → Prop) (k0 : Nat) (v1 : Int32) (s0 : Int32) (t1 : Nat) (I : Mm) (hw : w_X7_verify_B16 Y post k0 v1 s0 t1 I) : ky_G p l e rm_X7_verify s m args below meth c C Y A 3 (MQ below (va_Qi post (ky_B C Y A) A) args s 0 0 A) 16 [(0, .ref (Y.2.1 k0)), (1, .int v1)] [.int s0, .ref (Y.2.1 t1)] I := by
  obtain ⟨h3, hw⟩ := hw
  refine kg_putI (ci := 7) (Tn := TX7) (j := 0) (ty := .int) X tyX7 tyX7_ok nmX7 kc_7 h3 (by decide) (by decide) rfl kw_640 (by decide +kernel) rfl rfl dX7_verify_16 ?_
  refine kg_topm (fun I4 eI4 => ?_)
  have hw := hw I4 eI4
  refine kg_aload_n X 0 dX7_verify_19 rfl rfl ?_
  obtain ⟨h5, hw⟩ := hw
  refine kg_getI (j := 0) X kc_7 h5 (by decide) (by decide) rfl kw_640 dX7_verify_20 ?_
  refine kg_if_le (tgt := 28) X dX7_verify_23 (by decide) (fun h19 => ?_) (fun h19 => ?_)
  · have hw := hw.1 h19
    refine kg_iconst (v := (0 : Int32)) X dX7_verify_28 (by decide) ?_
    refine kg_istore_n (lv' := [(2, .int (0 : Int32)), (0, .ref (Y.2.1 k0)), (1, .int v1)]) X dX7_verify_29 rfl (by decide) rfl ?_
    obtain ⟨n30, hw⟩ := hw
    refine kg_sub [1, 2, 0] rfl ?_
    refine s_X7_verify_L30 X hr post _ ?_ n30 _ _ _ _  hw
    · intro k17 I16 hw
      refine kg_aload_n X 0 dX7_verify_68 rfl rfl ?_
      obtain ⟨h18, hw⟩ := hw
      refine kg_getI (j := 23) X kc_7 h18 (by decide) (by decide) rfl kw_663 dX7_verify_69 ?_
      exact kg_iret X hr hw dX7_verify_72
  · have hw := hw.2 h19
    refine kg_iconst (v := (0 : Int32)) X dX7_verify_26 (by decide) ?_
    exact kg_iret X hr hw dX7_verify_27
def w_X7_verify (Y : Ly) (I : Mm) (k0 : Nat) (v1 : Int32) (post : Int32 → Mm → Prop) : Prop := w_X7_in Y I v1 (0 : Int32) (100 : Int32) (fun r2 I1 => ((r2 = 0 → w_X7_verify_B16 Y post k0 v1 (1 : Int32) k0 I1) ∧ (¬ r2 = 0 → w_X7_verify_B16 Y post k0 v1 (0 : Int32) k0 I1)))
set_option maxHeartbeats 4000000 in
set_option maxRecDepth 100000 in
theorem c_X7_verify (l : Launch) (C : Cc) (Y : Ly) (A : Nat → Prop) (I : Mm) (k0 : Nat) (v1 : Int32) (post : Int32 → Mm → Prop) (hw : w_X7_verify Y I k0 v1 post) : ky_MI l yX7_verify cX7_verify 3 (some .int) rm_X7_verify C Y A I [.ref (Y.2.1 k0), .int v1] post := by
  refine ky_met (by decide) (Nat.le_of_ble_eq_true rfl) ?_
  intro p e s m args below meth c X hr
  have X : ky_X p s m args meth c C cX7_verify 3 RX7 := X
  show ky_G p l e rm_X7_verify s m args below meth c C Y A 3 (MQ below (va_Qi post (ky_B C Y A) A) args s 0 0 A) 0 [(0, .ref (Y.2.1 k0)), (1, .int v1)] [] I
  refine kg_aload_n X 0 dX7_verify_0 rfl rfl ?_
  refine kg_iload_n X 1 dX7_verify_1 rfl rfl ?_
  refine kg_iconst (v := (0 : Int32)) X dX7_verify_2 (by decide) ?_
  refine kg_bipush (v := (100 : Int32)) X dX7_verify_3 (by decide) ?_
  refine kg_callSi (n := 3) (As := [.int v1, .int (0 : Int32), .int (100 : Int32)]) X (c_X7_in l C Y A I v1 (0 : Int32) (100 : Int32) _ hw) rfl is_X7_in kw_766 (by decide +kernel) (by decide) rfl rfl (Nat.le_of_ble_eq_true rfl) dX7_verify_5 (fun r2 I1 hw => ?_)
  refine kg_if_eq (tgt := 15) X dX7_verify_8 (by decide) (fun h20 => ?_) (fun h20 => ?_)
  · have hw := hw.1 h20
    refine kg_iconst (v := (1 : Int32)) X dX7_verify_15 (by decide) ?_
    refine kg_sub [0, 1] rfl ?_
    exact s_X7_verify_B16 X hr post _ _ _ _ _ hw
  · have hw := hw.2 h20
    refine kg_iconst (v := (0 : Int32)) X dX7_verify_11 (by decide) ?_
    refine kg_goto (tgt := 16) X dX7_verify_12 (by decide) ?_
    refine kg_sub [0, 1] rfl ?_
    exact s_X7_verify_B16 X hr post _ _ _ _ _ hw
end
abbrev rm_X7_isBroken : Room := { frames := 4, cells := 0, slots := 0, locals := 106 }
section
variable {p : Program} {l : Launch} {e : Env} {s : State} {m : MethodId} {args : Array Value} {below : List Frame} {meth : Method} {c : Code} {C : Cc} {Y : Ly} {A : Nat → Prop}
def w_X7_isBroken_L18 (Y : Ly) (post : Int32 → Mm → Prop) (ex_60 : Mm → Prop) (ex_68 : Mm → Prop) : Nat → Nat → Int32 → Int32 → Mm → Prop
  | 0, _, _, _, _ => False
  | n18 + 1, k0, v1, v2, I => (ky_is Y k0 7 ∧ (ky_is Y (ky_rp Y k0 8) 8 ∧ (vp_in v1 (ky_ln Y (ky_rp Y k0 8)) ∧ w_X7_cubesOf Y I k0 (I (ky_rp Y k0 8) v1.toNatClampNeg) (fun r8 I7 => ((r8 ≤ v2 → ex_68 I7) ∧ (¬ r8 ≤ v2 → (ky_is Y (ky_rp Y k0 17) 8 ∧ (vp_in (((16 : Int32) * (I7 (ky_rp Y k0 8) v1.toNatClampNeg)) + v2) (ky_ln Y (ky_rp Y k0 17)) ∧ ((¬ (I7 (ky_rp Y k0 17) (((16 : Int32) * (I7 (ky_rp Y k0 8) v1.toNatClampNeg)) + v2).toNatClampNeg) = 0 → (∀ x11 : Int32, x11 = v2 + (1 : Int32) → w_X7_isBroken_L18 Y post ex_60 ex_68 n18 k0 v1 x11 I7)) ∧ ((I7 (ky_rp Y k0 17) (((16 : Int32) * (I7 (ky_rp Y k0 8) v1.toNatClampNeg)) + v2).toNatClampNeg) = 0 → w_X7_isFound Y I7 k0 v1 v2 (fun r13 I12 => ((r13 = 0 → (∀ x14 : Int32, x14 = v2 + (1 : Int32) → w_X7_isBroken_L18 Y post ex_60 ex_68 n18 k0 v1 x14 I12)) ∧ (¬ r13 = 0 → ex_60 I12)))))))))))))
set_option maxHeartbeats 4000000 in
set_option maxRecDepth 100000 in
theorem s_X7_isBroken_L18 (X : ky_X p s m args meth c C cX7_isBroken 3 RX7) (hr : meth.sig.returnType = some .boolean) (post : Int32 → Mm → Prop) (ex_60 : Mm → Prop) (ex_68 : Mm → Prop) (hx_60 : ∀ (J : Mm), ex_60 J → ky_G p l e rm_X7_isBroken s m args below meth c C Y A 3 (MQ below (va_Qi post (ky_B C Y A) A) args s 0 0 A) 60 [] [] J) (hx_68 : ∀ (J : Mm), ex_68 J → ky_G p l e rm_X7_isBroken s m args below meth c C Y A 3 (MQ below (va_Qi post (ky_B C Y A) A) args s 0 0 A) 68 [] [] J) : ∀ (n18 : Nat) (k0 : Nat) (v1 : Int32) (v2 : Int32) (I : Mm), w_X7_isBroken_L18 Y post ex_60 ex_68 n18 k0 v1 v2 I → ky_G p l e rm_X7_isBroken s m args below meth c C Y A 3 (MQ below (va_Qi post (ky_B C Y A) A) args s 0 0 A) 18 [(0, .ref (Y.2.1 k0)), (1, .int v1), (2, .int v2)] [] I := by
  intro n18
  induction n18 with
  | zero => intro k0 v1 v2 I hw; exact False.elim hw
  | succ n18 ih =>
    intro k0 v1 v2 I hw
    refine kg_iload_n X 2 dX7_isBroken_18 rfl rfl ?_
    refine kg_aload_n X 0 dX7_isBroken_19 rfl rfl ?_
    refine kg_aload_n X 0 dX7_isBroken_20 rfl rfl ?_
    obtain ⟨h4, hw⟩ := hw
    refine kg_getR (j := 8) X kc_7 h4 (by decide) (by decide) rfl kw_648 dX7_isBroken_21 ?_
    refine kg_iload_n X 1 dX7_isBroken_24 rfl rfl ?_
    obtain ⟨h5, hw⟩ := hw
    obtain ⟨h6, hw⟩ := hw
    refine kg_iald X h5 h6 dX7_isBroken_25 ?_
    refine kg_callVi (n := 1) (As := [.int (I (ky_rp Y k0 8) v1.toNatClampNeg)]) X (c_X7_cubesOf l C Y A I k0 (I (ky_rp Y k0 8) v1.toNatClampNeg) _ hw) kc_7 h4 rfl iv_X7_cubesOf kw_833 (by decide +kernel) (by decide) rfl rfl (Nat.le_of_ble_eq_true rfl) dX7_isBroken_26 (fun r8 I7 hw => ?_)
    refine kg_icmp_ge (tgt := 68) X dX7_isBroken_29 (by decide) (fun h17 => ?_) (fun h17 => ?_)
    · have hw := hw.1 h17
      refine kg_sub [] rfl ?_
      exact hx_68 _  hw
    · have hw := hw.2 h17
      refine kg_aload_n X 0 dX7_isBroken_32 rfl rfl ?_
      refine kg_getR (j := 17) X kc_7 h4 (by decide) (by decide) rfl kw_657 dX7_isBroken_33 ?_
      refine kg_bipush (v := (16 : Int32)) X dX7_isBroken_36 (by decide) ?_
      refine kg_aload_n X 0 dX7_isBroken_38 rfl rfl ?_
      refine kg_getR (j := 8) X kc_7 h4 (by decide) (by decide) rfl kw_648 dX7_isBroken_39 ?_
      refine kg_iload_n X 1 dX7_isBroken_42 rfl rfl ?_
      refine kg_iald X h5 h6 dX7_isBroken_43 ?_
      refine kg_imul X dX7_isBroken_44 ?_
      refine kg_iload_n X 2 dX7_isBroken_45 rfl rfl ?_
      refine kg_iadd X dX7_isBroken_46 ?_
      obtain ⟨h9, hw⟩ := hw
      obtain ⟨h10, hw⟩ := hw
      refine kg_iald X h9 h10 dX7_isBroken_47 ?_
      refine kg_if_ne (tgt := 62) X dX7_isBroken_48 (by decide) (fun h16 => ?_) (fun h16 => ?_)
      · have hw := hw.1 h16
        refine kg_iinc (dd := (1 : Int32)) (lvf := fun x11 => [(2, .int x11), (0, .ref (Y.2.1 k0)), (1, .int v1)]) X 2 dX7_isBroken_62 rfl (by decide) (by decide) (fun _ => rfl) (fun x11 ex11 => ?_)
        have hw := hw x11 ex11
        refine kg_goto (tgt := 18) X dX7_isBroken_65 (by decide) ?_
        refine kg_sub [1, 2, 0] rfl ?_
        exact ih _ _ _ _  hw
      · have hw := hw.2 h16
        refine kg_aload_n X 0 dX7_isBroken_51 rfl rfl ?_
        refine kg_iload_n X 1 dX7_isBroken_52 rfl rfl ?_
        refine kg_iload_n X 2 dX7_isBroken_53 rfl rfl ?_
        refine kg_callVi (n := 2) (As := [.int v1, .int v2]) X (c_X7_isFound l C Y A I7 k0 v1 v2 _ hw) kc_7 h4 rfl iv_X7_isFound kw_829 (by decide +kernel) (by decide) rfl rfl (Nat.le_of_ble_eq_true rfl) dX7_isBroken_54 (fun r13 I12 hw => ?_)
        refine kg_if_eq (tgt := 62) X dX7_isBroken_57 (by decide) (fun h15 => ?_) (fun h15 => ?_)
        · have hw := hw.1 h15
          refine kg_iinc (dd := (1 : Int32)) (lvf := fun x14 => [(2, .int x14), (0, .ref (Y.2.1 k0)), (1, .int v1)]) X 2 dX7_isBroken_62 rfl (by decide) (by decide) (fun _ => rfl) (fun x14 ex14 => ?_)
          have hw := hw x14 ex14
          refine kg_goto (tgt := 18) X dX7_isBroken_65 (by decide) ?_
          refine kg_sub [1, 2, 0] rfl ?_
          exact ih _ _ _ _  hw
        · have hw := hw.2 h15
          refine kg_sub [] rfl ?_
          exact hx_60 _  hw
def w_X7_isBroken (Y : Ly) (I : Mm) (k0 : Nat) (v1 : Int32) (post : Int32 → Mm → Prop) : Prop := (ky_is Y k0 7 ∧ (ky_is Y (ky_rp Y k0 8) 8 ∧ (vp_in v1 (ky_ln Y (ky_rp Y k0 8)) ∧ ((0 ≤ (I (ky_rp Y k0 8) v1.toNatClampNeg) → (∃ n18 : Nat, w_X7_isBroken_L18 Y post (fun I18 => post (1 : Int32) I18) (fun I19 => post (0 : Int32) I19) n18 k0 v1 (0 : Int32) I)) ∧ (¬ 0 ≤ (I (ky_rp Y k0 8) v1.toNatClampNeg) → w_X7_isFound Y I k0 v1 (-1 : Int32) (fun r21 I20 => ((r21 = 0 ∨ r21 = 1) ∧ post r21 I20)))))))
set_option maxHeartbeats 4000000 in
set_option maxRecDepth 100000 in
theorem c_X7_isBroken (l : Launch) (C : Cc) (Y : Ly) (A : Nat → Prop) (I : Mm) (k0 : Nat) (v1 : Int32) (post : Int32 → Mm → Prop) (hw : w_X7_isBroken Y I k0 v1 post) : ky_MI l yX7_isBroken cX7_isBroken 3 (some .boolean) rm_X7_isBroken C Y A I [.ref (Y.2.1 k0), .int v1] post := by
  refine ky_met (by decide) (Nat.le_of_ble_eq_true rfl) ?_
  intro p e s m args below meth c X hr
  have X : ky_X p s m args meth c C cX7_isBroken 3 RX7 := X
  show ky_G p l e rm_X7_isBroken s m args below meth c C Y A 3 (MQ below (va_Qi post (ky_B C Y A) A) args s 0 0 A) 0 [(0, .ref (Y.2.1 k0)), (1, .int v1)] [] I
  refine kg_aload_n X 0 dX7_isBroken_0 rfl rfl ?_
  obtain ⟨h1, hw⟩ := hw
  refine kg_getR (j := 8) X kc_7 h1 (by decide) (by decide) rfl kw_648 dX7_isBroken_1 ?_
  refine kg_iload_n X 1 dX7_isBroken_4 rfl rfl ?_
  obtain ⟨h2, hw⟩ := hw
  obtain ⟨h3, hw⟩ := hw
  refine kg_iald X h2 h3 dX7_isBroken_5 ?_
  refine kg_if_ge (tgt := 16) X dX7_isBroken_6 (by decide) (fun h23 => ?_) (fun h23 => ?_)
  · have hw := hw.1 h23
    refine kg_iconst (v := (0 : Int32)) X dX7_isBroken_16 (by decide) ?_
    refine kg_istore_n (lv' := [(2, .int (0 : Int32)), (0, .ref (Y.2.1 k0)), (1, .int v1)]) X dX7_isBroken_17 rfl (by decide) rfl ?_
    obtain ⟨n18, hw⟩ := hw
    refine kg_sub [1, 2, 0] rfl ?_
    refine s_X7_isBroken_L18 X hr post _ _ ?_ ?_ n18 _ _ _ _  hw
    · intro I18 hw
      refine kg_iconst (v := (1 : Int32)) X dX7_isBroken_60 (by decide) ?_
      exact kg_zret X hr (by decide) hw dX7_isBroken_61
    · intro I19 hw
      refine kg_iconst (v := (0 : Int32)) X dX7_isBroken_68 (by decide) ?_
      exact kg_zret X hr (by decide) hw dX7_isBroken_69
  · have hw := hw.2 h23
    refine kg_aload_n X 0 dX7_isBroken_9 rfl rfl ?_
    refine kg_iload_n X 1 dX7_isBroken_10 rfl rfl ?_
    refine kg_iconst (v := (-1 : Int32)) X dX7_isBroken_11 (by decide) ?_
    refine kg_callVi (n := 2) (As := [.int v1, .int (-1 : Int32)]) X (c_X7_isFound l C Y A I k0 v1 (-1 : Int32) _ hw) kc_7 h1 rfl iv_X7_isFound kw_829 (by decide +kernel) (by decide) rfl rfl (Nat.le_of_ble_eq_true rfl) dX7_isBroken_12 (fun r21 I20 hw => ?_)
    obtain ⟨h22, hw⟩ := hw
    exact kg_zret X hr h22 hw dX7_isBroken_15
end
abbrev rm_X7_check : Room := { frames := 5, cells := 0, slots := 0, locals := 128 }
section
variable {p : Program} {l : Launch} {e : Env} {s : State} {m : MethodId} {args : Array Value} {below : List Frame} {meth : Method} {c : Code} {C : Cc} {Y : Ly} {A : Nat → Prop}
def w_X7_check_L26 (Y : Ly) (post : Int32 → Mm → Prop) (ex_50 : Nat → Int32 → Int32 → Mm → Prop) : Nat → Nat → Int32 → Int32 → Int32 → Mm → Prop
  | 0, _, _, _, _, _ => False
  | n26 + 1, k0, v1, v2, v3, I => ((v3 < 0 → ex_50 k0 v1 v2 I) ∧ (¬ v3 < 0 → (ky_is Y k0 7 ∧ w_X7_isBroken Y I k0 v3 (fun r7 I6 => ((r7 = 0 → (∀ x9 : Int32, x9 = v3 + (-1 : Int32) → w_X7_check_L26 Y post ex_50 n26 k0 v1 v2 x9 I6)) ∧ (¬ r7 = 0 → (∀ x10 : Int32, x10 = v3 + (-1 : Int32) → w_X7_check_L26 Y post ex_50 n26 k0 v1 v3 x10 I6)))))))
set_option maxHeartbeats 4000000 in
set_option maxRecDepth 100000 in
theorem s_X7_check_L26 (X : ky_X p s m args meth c C cX7_check 4 RX7) (hr : meth.sig.returnType = some .int) (post : Int32 → Mm → Prop) (ex_50 : Nat → Int32 → Int32 → Mm → Prop) (hx_50 : ∀ (k0 : Nat) (v1 : Int32) (v2 : Int32) (J : Mm), ex_50 k0 v1 v2 J → ky_G p l e rm_X7_check s m args below meth c C Y A 4 (MQ below (va_Qi post (ky_B C Y A) A) args s 0 0 A) 50 [(0, .ref (Y.2.1 k0)), (1, .int v1), (2, .int v2)] [] J) : ∀ (n26 : Nat) (k0 : Nat) (v1 : Int32) (v2 : Int32) (v3 : Int32) (I : Mm), w_X7_check_L26 Y post ex_50 n26 k0 v1 v2 v3 I → ky_G p l e rm_X7_check s m args below meth c C Y A 4 (MQ below (va_Qi post (ky_B C Y A) A) args s 0 0 A) 26 [(0, .ref (Y.2.1 k0)), (1, .int v1), (2, .int v2), (3, .int v3)] [] I := by
  intro n26
  induction n26 with
  | zero => intro k0 v1 v2 v3 I hw; exact False.elim hw
  | succ n26 ih =>
    intro k0 v1 v2 v3 I hw
    refine kg_iload_n X 3 dX7_check_26 rfl rfl ?_
    refine kg_if_lt (tgt := 50) X dX7_check_27 (by decide) (fun h12 => ?_) (fun h12 => ?_)
    · have hw := hw.1 h12
      refine kg_sub [0, 1, 2] rfl ?_
      exact hx_50 _ _ _ _  hw
    · have hw := hw.2 h12
      refine kg_aload_n X 0 dX7_check_30 rfl rfl ?_
      refine kg_iload_n X 3 dX7_check_31 rfl rfl ?_
      obtain ⟨h8, hw⟩ := hw
      refine kg_callVi (n := 1) (As := [.int v3]) X (c_X7_isBroken l C Y A I k0 v3 _ hw) kc_7 h8 rfl iv_X7_isBroken kw_914 (by decide +kernel) (by decide) rfl rfl (Nat.le_of_ble_eq_true rfl) dX7_check_32 (fun r7 I6 hw => ?_)
      refine kg_if_eq (tgt := 42) X dX7_check_35 (by decide) (fun h11 => ?_) (fun h11 => ?_)
      · have hw := hw.1 h11
        refine kg_iload_n X 2 dX7_check_42 rfl rfl ?_
        refine kg_istore_n (lv' := [(2, .int v2), (0, .ref (Y.2.1 k0)), (1, .int v1), (3, .int v3)]) X dX7_check_43 rfl (by decide) rfl ?_
        refine kg_iinc (dd := (-1 : Int32)) (lvf := fun x9 => [(3, .int x9), (2, .int v2), (0, .ref (Y.2.1 k0)), (1, .int v1)]) X 3 dX7_check_44 rfl (by decide) (by decide) (fun _ => rfl) (fun x9 ex9 => ?_)
        have hw := hw x9 ex9
        refine kg_goto (tgt := 26) X dX7_check_47 (by decide) ?_
        refine kg_sub [2, 3, 1, 0] rfl ?_
        exact ih _ _ _ _ _  hw
      · have hw := hw.2 h11
        refine kg_iload_n X 3 dX7_check_38 rfl rfl ?_
        refine kg_goto (tgt := 43) X dX7_check_39 (by decide) ?_
        refine kg_istore_n (lv' := [(2, .int v3), (0, .ref (Y.2.1 k0)), (1, .int v1), (3, .int v3)]) X dX7_check_43 rfl (by decide) rfl ?_
        refine kg_iinc (dd := (-1 : Int32)) (lvf := fun x10 => [(3, .int x10), (2, .int v3), (0, .ref (Y.2.1 k0)), (1, .int v1)]) X 3 dX7_check_44 rfl (by decide) (by decide) (fun _ => rfl) (fun x10 ex10 => ?_)
        have hw := hw x10 ex10
        refine kg_goto (tgt := 26) X dX7_check_47 (by decide) ?_
        refine kg_sub [2, 3, 1, 0] rfl ?_
        exact ih _ _ _ _ _  hw
def w_X7_check (Y : Ly) (I : Mm) (k0 : Nat) (post : Int32 → Mm → Prop) : Prop := (ky_is Y k0 7 ∧ (∀ I2 : Mm, I2 = ky_up I k0 0 (0 : Int32) → (∀ x3 : Int32, x3 = I2 k0 20 → (∀ I4 : Mm, I4 = ky_up I2 k0 20 (x3 + (1 : Int32)) → (∀ x5 : Int32, x5 = (I4 k0 7) - (1 : Int32) → (∃ n26 : Nat, w_X7_check_L26 Y post (fun k14 v15 v16 I13 => (ky_is Y k14 7 ∧ (∀ I18 : Mm, I18 = ky_up I13 k14 20 v15 → post v16 I18))) n26 k0 x3 (-1 : Int32) x5 I4))))))
set_option maxHeartbeats 4000000 in
set_option maxRecDepth 100000 in
theorem c_X7_check (l : Launch) (C : Cc) (Y : Ly) (A : Nat → Prop) (I : Mm) (k0 : Nat) (post : Int32 → Mm → Prop) (hw : w_X7_check Y I k0 post) : ky_MI l yX7_check cX7_check 4 (some .int) rm_X7_check C Y A I [.ref (Y.2.1 k0)] post := by
  refine ky_met (by decide) (Nat.le_of_ble_eq_true rfl) ?_
  intro p e s m args below meth c X hr
  have X : ky_X p s m args meth c C cX7_check 4 RX7 := X
  show ky_G p l e rm_X7_check s m args below meth c C Y A 4 (MQ below (va_Qi post (ky_B C Y A) A) args s 0 0 A) 0 [(0, .ref (Y.2.1 k0))] [] I
  refine kg_aload_n X 0 dX7_check_0 rfl rfl ?_
  refine kg_iconst (v := (0 : Int32)) X dX7_check_1 (by decide) ?_
  obtain ⟨h1, hw⟩ := hw
  refine kg_putI (ci := 7) (Tn := TX7) (j := 0) (ty := .int) X tyX7 tyX7_ok nmX7 kc_7 h1 (by decide) (by decide) rfl kw_640 (by decide +kernel) rfl rfl dX7_check_2 ?_
  refine kg_topm (fun I2 eI2 => ?_)
  have hw := hw I2 eI2
  refine kg_aload_n X 0 dX7_check_5 rfl rfl ?_
  refine kg_getI (j := 20) X kc_7 h1 (by decide) (by decide) rfl kw_660 dX7_check_6 ?_
  refine kg_topi (fun x3 ex3 => ?_)
  have hw := hw x3 ex3
  refine kg_istore_n (lv' := [(1, .int x3), (0, .ref (Y.2.1 k0))]) X dX7_check_9 rfl (by decide) rfl ?_
  refine kg_aload_n X 1 dX7_check_10 rfl rfl ?_
  refine kg_iload_n X 0 dX7_check_11 rfl rfl ?_
  refine kg_iconst (v := (1 : Int32)) X dX7_check_12 (by decide) ?_
  refine kg_iadd X dX7_check_13 ?_
  refine kg_putI (ci := 7) (Tn := TX7) (j := 20) (ty := .int) X tyX7 tyX7_ok nmX7 kc_7 h1 (by decide) (by decide) rfl kw_660 (by decide +kernel) rfl rfl dX7_check_14 ?_
  refine kg_topm (fun I4 eI4 => ?_)
  have hw := hw I4 eI4
  refine kg_iconst (v := (-1 : Int32)) X dX7_check_17 (by decide) ?_
  refine kg_istore_n (lv' := [(2, .int (-1 : Int32)), (1, .int x3), (0, .ref (Y.2.1 k0))]) X dX7_check_18 rfl (by decide) rfl ?_
  refine kg_aload_n X 2 dX7_check_19 rfl rfl ?_
  refine kg_getI (j := 7) X kc_7 h1 (by decide) (by decide) rfl kw_647 dX7_check_20 ?_
  refine kg_iconst (v := (1 : Int32)) X dX7_check_23 (by decide) ?_
  refine kg_isub X dX7_check_24 ?_
  refine kg_topi (fun x5 ex5 => ?_)
  have hw := hw x5 ex5
  refine kg_istore_n (lv' := [(3, .int x5), (2, .int (-1 : Int32)), (1, .int x3), (0, .ref (Y.2.1 k0))]) X dX7_check_25 rfl (by decide) rfl ?_
  obtain ⟨n26, hw⟩ := hw
  refine kg_sub [3, 2, 1, 0] rfl ?_
  refine s_X7_check_L26 X hr post _ ?_ n26 _ _ _ _ _  hw
  · intro k14 v15 v16 I13 hw
    refine kg_aload_n X 0 dX7_check_50 rfl rfl ?_
    refine kg_iload_n X 1 dX7_check_51 rfl rfl ?_
    obtain ⟨h17, hw⟩ := hw
    refine kg_putI (ci := 7) (Tn := TX7) (j := 20) (ty := .int) X tyX7 tyX7_ok nmX7 kc_7 h17 (by decide) (by decide) rfl kw_660 (by decide +kernel) rfl rfl dX7_check_52 ?_
    refine kg_topm (fun I18 eI18 => ?_)
    have hw := hw I18 eI18
    refine kg_iload_n X 2 dX7_check_55 rfl rfl ?_
    exact kg_iret X hr hw dX7_check_56
end
abbrev rm_X7_follows : Room := { frames := 2, cells := 0, slots := 0, locals := 49 }
section
variable {p : Program} {l : Launch} {e : Env} {s : State} {m : MethodId} {args : Array Value} {below : List Frame} {meth : Method} {c : Code} {C : Cc} {Y : Ly} {A : Nat → Prop}
def w_X7_follows_B43 (Y : Ly) (post : Int32 → Mm → Prop) (k0 : Nat) (v1 : Int32) (v2 : Int32) (v3 : Int32) (s0 : Int32) (t1 : Nat) (I : Mm) : Prop := (ky_is Y t1 7 ∧ (∀ I5 : Mm, I5 = ky_up I t1 0 s0 → (ky_is Y k0 7 ∧ (((I5 k0 0) ≤ 0 → (∀ I7 : Mm, I7 = ky_up I5 k0 25 (0 : Int32) → w_X7_addBounds Y I7 k0 v1 (0 : Int32) (5 : Int32) (fun I8 => w_X7_holdsTogether Y I8 k0 (6 : Int32) (fun r10 I9 => ((¬ r10 = 0 → w_X7_least Y I9 k0 (6 : Int32) v2 v3 (fun r12 I11 => ((¬ r12 = (1000000000 : Int32) → post r12 I11) ∧ (r12 = (1000000000 : Int32) → w_X7_fails Y I11 k0 (3 : Int32) (fun r14 I13 => post r14 I13))))) ∧ (r10 = 0 → w_X7_fails Y I9 k0 (2 : Int32) (fun r17 I16 => post r17 I16))))))) ∧ (¬ (I5 k0 0) ≤ 0 → post (0 : Int32) I5)))))
set_option maxHeartbeats 4000000 in
set_option maxRecDepth 100000 in
theorem s_X7_follows_B43 (X : ky_X p s m args meth c C cX7_follows 5 RX7) (hr : meth.sig.returnType = some .int) (post : Int32 → Mm → Prop) (k0 : Nat) (v1 : Int32) (v2 : Int32) (v3 : Int32) (s0 : Int32) (t1 : Nat) (I : Mm) (hw : w_X7_follows_B43 Y post k0 v1 v2 v3 s0 t1 I) : ky_G p l e rm_X7_follows s m args below meth c C Y A 5 (MQ below (va_Qi post (ky_B C Y A) A) args s 0 0 A) 43 [(0, .ref (Y.2.1 k0)), (1, .int v1), (2, .int v2), (3, .int v3)] [.int s0, .ref (Y.2.1 t1)] I := by
  obtain ⟨h4, hw⟩ := hw
  refine kg_putI (ci := 7) (Tn := TX7) (j := 0) (ty := .int) X tyX7 tyX7_ok nmX7 kc_7 h4 (by decide) (by decide) rfl kw_640 (by decide +kernel) rfl rfl dX7_follows_43 ?_
  refine kg_topm (fun I5 eI5 => ?_)
  have hw := hw I5 eI5
  refine kg_aload_n X 0 dX7_follows_46 rfl rfl ?_
  obtain ⟨h6, hw⟩ := hw
  refine kg_getI (j := 0) X kc_7 h6 (by decide) (by decide) rfl kw_640 dX7_follows_47 ?_
  refine kg_if_le (tgt := 55) X dX7_follows_50 (by decide) (fun h19 => ?_) (fun h19 => ?_)
  · have hw := hw.1 h19
    refine kg_aload_n X 0 dX7_follows_55 rfl rfl ?_
    refine kg_iconst (v := (0 : Int32)) X dX7_follows_56 (by decide) ?_
    refine kg_putI (ci := 7) (Tn := TX7) (j := 25) (ty := .int) X tyX7 tyX7_ok nmX7 kc_7 h6 (by decide) (by decide) rfl kw_665 (by decide +kernel) rfl rfl dX7_follows_57 ?_
    refine kg_topm (fun I7 eI7 => ?_)
    have hw := hw I7 eI7
    refine kg_aload_n X 0 dX7_follows_60 rfl rfl ?_
    refine kg_iload_n X 1 dX7_follows_61 rfl rfl ?_
    refine kg_iconst (v := (0 : Int32)) X dX7_follows_62 (by decide) ?_
    refine kg_iconst (v := (5 : Int32)) X dX7_follows_63 (by decide) ?_
    refine kg_callVv (n := 3) (As := [.int v1, .int (0 : Int32), .int (5 : Int32)]) X (c_X7_addBounds l C Y A I7 k0 v1 (0 : Int32) (5 : Int32) _ hw) kc_7 h6 rfl iv_X7_addBounds kw_845 (by decide +kernel) (by decide) rfl rfl (Nat.le_of_ble_eq_true rfl) dX7_follows_64 (fun I8 hw => ?_)
    refine kg_aload_n X 0 dX7_follows_67 rfl rfl ?_
    refine kg_bipush (v := (6 : Int32)) X dX7_follows_68 (by decide) ?_
    refine kg_callVi (n := 1) (As := [.int (6 : Int32)]) X (c_X7_holdsTogether l C Y A I8 k0 (6 : Int32) _ hw) kc_7 h6 rfl iv_X7_holdsTogether kw_857 (by decide +kernel) (by decide) rfl rfl (Nat.le_of_ble_eq_true rfl) dX7_follows_70 (fun r10 I9 hw => ?_)
    refine kg_if_ne (tgt := 82) X dX7_follows_73 (by decide) (fun h18 => ?_) (fun h18 => ?_)
    · have hw := hw.1 h18
      refine kg_aload_n X 0 dX7_follows_82 rfl rfl ?_
      refine kg_bipush (v := (6 : Int32)) X dX7_follows_83 (by decide) ?_
      refine kg_iload_n X 2 dX7_follows_85 rfl rfl ?_
      refine kg_iload_n X 3 dX7_follows_86 rfl rfl ?_
      refine kg_callVi (n := 3) (As := [.int (6 : Int32), .int v2, .int v3]) X (c_X7_least l C Y A I9 k0 (6 : Int32) v2 v3 _ hw) kc_7 h6 rfl iv_X7_least kw_902 (by decide +kernel) (by decide) rfl rfl (Nat.le_of_ble_eq_true rfl) dX7_follows_87 (fun r12 I11 hw => ?_)
      refine kg_istore (lv' := [(4, .int r12), (0, .ref (Y.2.1 k0)), (1, .int v1), (2, .int v2), (3, .int v3)]) X dX7_follows_90 (by decide) rfl ?_
      refine kg_iload X 0 dX7_follows_92 rfl ?_
      refine kg_ldc (v := (1000000000 : Int32)) X kw_865 dX7_follows_94 ?_
      refine kg_icmp_ne (tgt := 107) X dX7_follows_96 (by decide) (fun h15 => ?_) (fun h15 => ?_)
      · have hw := hw.1 h15
        refine kg_iload X 0 dX7_follows_107 rfl ?_
        exact kg_iret X hr hw dX7_follows_109
      · have hw := hw.2 h15
        refine kg_aload_n X 1 dX7_follows_99 rfl rfl ?_
        refine kg_iconst (v := (3 : Int32)) X dX7_follows_100 (by decide) ?_
        refine kg_callVi (n := 1) (As := [.int (3 : Int32)]) X (c_X7_fails l C Y A I11 k0 (3 : Int32) _ hw) kc_7 h6 rfl iv_X7_fails kw_793 (by decide +kernel) (by decide) rfl rfl (Nat.le_of_ble_eq_true rfl) dX7_follows_101 (fun r14 I13 hw => ?_)
        refine kg_goto (tgt := 109) X dX7_follows_104 (by decide) ?_
        exact kg_iret X hr hw dX7_follows_109
    · have hw := hw.2 h18
      refine kg_aload_n X 0 dX7_follows_76 rfl rfl ?_
      refine kg_iconst (v := (2 : Int32)) X dX7_follows_77 (by decide) ?_
      refine kg_callVi (n := 1) (As := [.int (2 : Int32)]) X (c_X7_fails l C Y A I9 k0 (2 : Int32) _ hw) kc_7 h6 rfl iv_X7_fails kw_793 (by decide +kernel) (by decide) rfl rfl (Nat.le_of_ble_eq_true rfl) dX7_follows_78 (fun r17 I16 hw => ?_)
      exact kg_iret X hr hw dX7_follows_81
  · have hw := hw.2 h19
    refine kg_iconst (v := (0 : Int32)) X dX7_follows_53 (by decide) ?_
    exact kg_iret X hr hw dX7_follows_54
def w_X7_follows (Y : Ly) (I : Mm) (k0 : Nat) (v1 : Int32) (v2 : Int32) (v3 : Int32) (post : Int32 → Mm → Prop) : Prop := (ky_is Y k0 7 ∧ w_X7_in Y I v1 (0 : Int32) ((I k0 7) - (1 : Int32)) (fun r3 I2 => ((r3 = 0 → w_X7_follows_B43 Y post k0 v1 v2 v3 (1 : Int32) k0 I2) ∧ (¬ r3 = 0 → w_X7_in Y I2 v2 (0 : Int32) (5 : Int32) (fun r21 I20 => ((r21 = 0 → w_X7_follows_B43 Y post k0 v1 v2 v3 (1 : Int32) k0 I20) ∧ (¬ r21 = 0 → w_X7_in Y I20 v3 (0 : Int32) (5 : Int32) (fun r23 I22 => ((r23 = 0 → w_X7_follows_B43 Y post k0 v1 v2 v3 (1 : Int32) k0 I22) ∧ (¬ r23 = 0 → ((v2 = v3 → w_X7_follows_B43 Y post k0 v1 v2 v3 (1 : Int32) k0 I22) ∧ (¬ v2 = v3 → w_X7_follows_B43 Y post k0 v1 v2 v3 (0 : Int32) k0 I22))))))))))))
set_option maxHeartbeats 4000000 in
set_option maxRecDepth 100000 in
theorem c_X7_follows (l : Launch) (C : Cc) (Y : Ly) (A : Nat → Prop) (I : Mm) (k0 : Nat) (v1 : Int32) (v2 : Int32) (v3 : Int32) (post : Int32 → Mm → Prop) (hw : w_X7_follows Y I k0 v1 v2 v3 post) : ky_MI l yX7_follows cX7_follows 5 (some .int) rm_X7_follows C Y A I [.ref (Y.2.1 k0), .int v1, .int v2, .int v3] post := by
  refine ky_met (by decide) (Nat.le_of_ble_eq_true rfl) ?_
  intro p e s m args below meth c X hr
  have X : ky_X p s m args meth c C cX7_follows 5 RX7 := X
  show ky_G p l e rm_X7_follows s m args below meth c C Y A 5 (MQ below (va_Qi post (ky_B C Y A) A) args s 0 0 A) 0 [(0, .ref (Y.2.1 k0)), (1, .int v1), (2, .int v2), (3, .int v3)] [] I
  refine kg_aload_n X 0 dX7_follows_0 rfl rfl ?_
  refine kg_iload_n X 1 dX7_follows_1 rfl rfl ?_
  refine kg_iconst (v := (0 : Int32)) X dX7_follows_2 (by decide) ?_
  refine kg_aload_n X 0 dX7_follows_3 rfl rfl ?_
  obtain ⟨h1, hw⟩ := hw
  refine kg_getI (j := 7) X kc_7 h1 (by decide) (by decide) rfl kw_647 dX7_follows_4 ?_
  refine kg_iconst (v := (1 : Int32)) X dX7_follows_7 (by decide) ?_
  refine kg_isub X dX7_follows_8 ?_
  refine kg_callSi (n := 3) (As := [.int v1, .int (0 : Int32), .int ((I k0 7) - (1 : Int32))]) X (c_X7_in l C Y A I v1 (0 : Int32) ((I k0 7) - (1 : Int32)) _ hw) rfl is_X7_in kw_766 (by decide +kernel) (by decide) rfl rfl (Nat.le_of_ble_eq_true rfl) dX7_follows_9 (fun r3 I2 hw => ?_)
  refine kg_if_eq (tgt := 42) X dX7_follows_12 (by decide) (fun h27 => ?_) (fun h27 => ?_)
  · have hw := hw.1 h27
    refine kg_iconst (v := (1 : Int32)) X dX7_follows_42 (by decide) ?_
    refine kg_sub [0, 1, 2, 3] rfl ?_
    exact s_X7_follows_B43 X hr post _ _ _ _ _ _ _ hw
  · have hw := hw.2 h27
    refine kg_iload_n X 2 dX7_follows_15 rfl rfl ?_
    refine kg_iconst (v := (0 : Int32)) X dX7_follows_16 (by decide) ?_
    refine kg_iconst (v := (5 : Int32)) X dX7_follows_17 (by decide) ?_
    refine kg_callSi (n := 3) (As := [.int v2, .int (0 : Int32), .int (5 : Int32)]) X (c_X7_in l C Y A I2 v2 (0 : Int32) (5 : Int32) _ hw) rfl is_X7_in kw_766 (by decide +kernel) (by decide) rfl rfl (Nat.le_of_ble_eq_true rfl) dX7_follows_18 (fun r21 I20 hw => ?_)
    refine kg_if_eq (tgt := 42) X dX7_follows_21 (by decide) (fun h26 => ?_) (fun h26 => ?_)
    · have hw := hw.1 h26
      refine kg_iconst (v := (1 : Int32)) X dX7_follows_42 (by decide) ?_
      refine kg_sub [0, 1, 2, 3] rfl ?_
      exact s_X7_follows_B43 X hr post _ _ _ _ _ _ _ hw
    · have hw := hw.2 h26
      refine kg_iload_n X 3 dX7_follows_24 rfl rfl ?_
      refine kg_iconst (v := (0 : Int32)) X dX7_follows_25 (by decide) ?_
      refine kg_iconst (v := (5 : Int32)) X dX7_follows_26 (by decide) ?_
      refine kg_callSi (n := 3) (As := [.int v3, .int (0 : Int32), .int (5 : Int32)]) X (c_X7_in l C Y A I20 v3 (0 : Int32) (5 : Int32) _ hw) rfl is_X7_in kw_766 (by decide +kernel) (by decide) rfl rfl (Nat.le_of_ble_eq_true rfl) dX7_follows_27 (fun r23 I22 hw => ?_)
      refine kg_if_eq (tgt := 42) X dX7_follows_30 (by decide) (fun h25 => ?_) (fun h25 => ?_)
      · have hw := hw.1 h25
        refine kg_iconst (v := (1 : Int32)) X dX7_follows_42 (by decide) ?_
        refine kg_sub [0, 1, 2, 3] rfl ?_
        exact s_X7_follows_B43 X hr post _ _ _ _ _ _ _ hw
      · have hw := hw.2 h25
        refine kg_iload_n X 2 dX7_follows_33 rfl rfl ?_
        refine kg_iload_n X 3 dX7_follows_34 rfl rfl ?_
        refine kg_icmp_eq (tgt := 42) X dX7_follows_35 (by decide) (fun h24 => ?_) (fun h24 => ?_)
        · have hw := hw.1 h24
          refine kg_iconst (v := (1 : Int32)) X dX7_follows_42 (by decide) ?_
          refine kg_sub [0, 1, 2, 3] rfl ?_
          exact s_X7_follows_B43 X hr post _ _ _ _ _ _ _ hw
        · have hw := hw.2 h24
          refine kg_iconst (v := (0 : Int32)) X dX7_follows_38 (by decide) ?_
          refine kg_goto (tgt := 43) X dX7_follows_39 (by decide) ?_
          refine kg_sub [0, 1, 2, 3] rfl ?_
          exact s_X7_follows_B43 X hr post _ _ _ _ _ _ _ hw
end
abbrev rm_X7_state : Room := { frames := 0, cells := 0, slots := 0, locals := 0 }
section
variable {p : Program} {l : Launch} {e : Env} {s : State} {m : MethodId} {args : Array Value} {below : List Frame} {meth : Method} {c : Code} {C : Cc} {Y : Ly} {A : Nat → Prop}
def w_X7_state (Y : Ly) (I : Mm) (k0 : Nat) (v1 : Int32) (post : Int32 → Mm → Prop) : Prop := (ky_is Y k0 7 ∧ (∀ I2 : Mm, I2 = ky_up I k0 0 (0 : Int32) → (((v1.toInt < 0 ∨ 6 < v1.toInt) → post (-1 : Int32) I2) ∧ (v1.toInt = 0 → post (I2 k0 1) I2) ∧ (v1.toInt = 1 → post (I2 k0 7) I2) ∧ (v1.toInt = 2 → post (I2 k0 23) I2) ∧ (v1.toInt = 3 → post (I2 k0 20) I2) ∧ (v1.toInt = 4 → post (I2 k0 21) I2) ∧ (v1.toInt = 5 → post (I2 k0 30) I2) ∧ (v1.toInt = 6 → post (I2 k0 24) I2))))
set_option maxHeartbeats 4000000 in
set_option maxRecDepth 100000 in
theorem c_X7_state (l : Launch) (C : Cc) (Y : Ly) (A : Nat → Prop) (I : Mm) (k0 : Nat) (v1 : Int32) (post : Int32 → Mm → Prop) (hw : w_X7_state Y I k0 v1 post) : ky_MI l yX7_state cX7_state 2 (some .int) rm_X7_state C Y A I [.ref (Y.2.1 k0), .int v1] post := by
  refine ky_met (by decide) (Nat.le_of_ble_eq_true rfl) ?_
  intro p e s m args below meth c X hr
  have X : ky_X p s m args meth c C cX7_state 2 RX7 := X
  show ky_G p l e rm_X7_state s m args below meth c C Y A 2 (MQ below (va_Qi post (ky_B C Y A) A) args s 0 0 A) 0 [(0, .ref (Y.2.1 k0)), (1, .int v1)] [] I
  refine kg_aload_n X 0 dX7_state_0 rfl rfl ?_
  refine kg_iconst (v := (0 : Int32)) X dX7_state_1 (by decide) ?_
  obtain ⟨h1, hw⟩ := hw
  refine kg_putI (ci := 7) (Tn := TX7) (j := 0) (ty := .int) X tyX7 tyX7_ok nmX7 kc_7 h1 (by decide) (by decide) rfl kw_640 (by decide +kernel) rfl rfl dX7_state_2 ?_
  refine kg_topm (fun I2 eI2 => ?_)
  have hw := hw I2 eI2
  refine kg_iload_n X 1 dX7_state_5 rfl rfl ?_
  by_cases h3 : v1.toInt < 0 ∨ 6 < v1.toInt
  · have hw := hw.1 h3
    refine kg_tabOut (tgt := 83) X dX7_state_6 h3 (by decide) ?_
    refine kg_iconst (v := (-1 : Int32)) X dX7_state_83 (by decide) ?_
    exact kg_iret X hr hw dX7_state_84
  · rcases (show v1.toInt = 0 ∨ v1.toInt = 1 ∨ v1.toInt = 2 ∨ v1.toInt = 3 ∨ v1.toInt = 4 ∨ v1.toInt = 5 ∨ v1.toInt = 6 by omega) with h3 | h3 | h3 | h3 | h3 | h3 | h3
    · have hw := hw.2.1 h3
      refine kg_tabIn (off := 42) (tgt := 48) X dX7_state_6 (by omega) (by omega) (by rw [h3]; rfl) (by decide) ?_
      refine kg_aload_n X 0 dX7_state_48 rfl rfl ?_
      refine kg_getI (j := 1) X kc_7 h1 (by decide) (by decide) rfl kw_641 dX7_state_49 ?_
      exact kg_iret X hr hw dX7_state_52
    · have hw := hw.2.2.1 h3
      refine kg_tabIn (off := 47) (tgt := 53) X dX7_state_6 (by omega) (by omega) (by rw [h3]; rfl) (by decide) ?_
      refine kg_aload_n X 0 dX7_state_53 rfl rfl ?_
      refine kg_getI (j := 7) X kc_7 h1 (by decide) (by decide) rfl kw_647 dX7_state_54 ?_
      exact kg_iret X hr hw dX7_state_57
    · have hw := hw.2.2.2.1 h3
      refine kg_tabIn (off := 52) (tgt := 58) X dX7_state_6 (by omega) (by omega) (by rw [h3]; rfl) (by decide) ?_
      refine kg_aload_n X 0 dX7_state_58 rfl rfl ?_
      refine kg_getI (j := 23) X kc_7 h1 (by decide) (by decide) rfl kw_663 dX7_state_59 ?_
      exact kg_iret X hr hw dX7_state_62
    · have hw := hw.2.2.2.2.1 h3
      refine kg_tabIn (off := 57) (tgt := 63) X dX7_state_6 (by omega) (by omega) (by rw [h3]; rfl) (by decide) ?_
      refine kg_aload_n X 0 dX7_state_63 rfl rfl ?_
      refine kg_getI (j := 20) X kc_7 h1 (by decide) (by decide) rfl kw_660 dX7_state_64 ?_
      exact kg_iret X hr hw dX7_state_67
    · have hw := hw.2.2.2.2.2.1 h3
      refine kg_tabIn (off := 62) (tgt := 68) X dX7_state_6 (by omega) (by omega) (by rw [h3]; rfl) (by decide) ?_
      refine kg_aload_n X 0 dX7_state_68 rfl rfl ?_
      refine kg_getI (j := 21) X kc_7 h1 (by decide) (by decide) rfl kw_661 dX7_state_69 ?_
      exact kg_iret X hr hw dX7_state_72
    · have hw := hw.2.2.2.2.2.2.1 h3
      refine kg_tabIn (off := 67) (tgt := 73) X dX7_state_6 (by omega) (by omega) (by rw [h3]; rfl) (by decide) ?_
      refine kg_aload_n X 0 dX7_state_73 rfl rfl ?_
      refine kg_getI (j := 30) X kc_7 h1 (by decide) (by decide) rfl kw_670 dX7_state_74 ?_
      exact kg_iret X hr hw dX7_state_77
    · have hw := hw.2.2.2.2.2.2.2 h3
      refine kg_tabIn (off := 72) (tgt := 78) X dX7_state_6 (by omega) (by omega) (by rw [h3]; rfl) (by decide) ?_
      refine kg_aload_n X 0 dX7_state_78 rfl rfl ?_
      refine kg_getI (j := 24) X kc_7 h1 (by decide) (by decide) rfl kw_664 dX7_state_79 ?_
      exact kg_iret X hr hw dX7_state_82
end
abbrev rm_X7_shown : Room := { frames := 2, cells := 0, slots := 0, locals := 43 }
section
variable {p : Program} {l : Launch} {e : Env} {s : State} {m : MethodId} {args : Array Value} {below : List Frame} {meth : Method} {c : Code} {C : Cc} {Y : Ly} {A : Nat → Prop}
def w_X7_shown_B43 (Y : Ly) (post : Int32 → Mm → Prop) (k0 : Nat) (v1 : Int32) (v2 : Int32) (v3 : Int32) (s0 : Int32) (t1 : Nat) (I : Mm) : Prop := (ky_is Y t1 7 ∧ (∀ I5 : Mm, I5 = ky_up I t1 0 s0 → (ky_is Y k0 7 ∧ (((I5 k0 0) ≤ 0 → ((¬ v3 = 0 → ((¬ v3 = (1 : Int32) → (ky_is Y (ky_rp Y k0 6) 8 ∧ (vp_in (((4 : Int32) * v1) + v2) (ky_ln Y (ky_rp Y k0 6)) ∧ post (I5 (ky_rp Y k0 6) (((4 : Int32) * v1) + v2).toNatClampNeg) I5))) ∧ (v3 = (1 : Int32) → (ky_is Y (ky_rp Y k0 5) 8 ∧ (vp_in (((4 : Int32) * v1) + v2) (ky_ln Y (ky_rp Y k0 5)) ∧ post (I5 (ky_rp Y k0 5) (((4 : Int32) * v1) + v2).toNatClampNeg) I5))))) ∧ (v3 = 0 → (ky_is Y (ky_rp Y k0 4) 8 ∧ (vp_in (((4 : Int32) * v1) + v2) (ky_ln Y (ky_rp Y k0 4)) ∧ post (I5 (ky_rp Y k0 4) (((4 : Int32) * v1) + v2).toNatClampNeg) I5))))) ∧ (¬ (I5 k0 0) ≤ 0 → post (0 : Int32) I5)))))
set_option maxHeartbeats 4000000 in
set_option maxRecDepth 100000 in
theorem s_X7_shown_B43 (X : ky_X p s m args meth c C cX7_shown 4 RX7) (hr : meth.sig.returnType = some .int) (post : Int32 → Mm → Prop) (k0 : Nat) (v1 : Int32) (v2 : Int32) (v3 : Int32) (s0 : Int32) (t1 : Nat) (I : Mm) (hw : w_X7_shown_B43 Y post k0 v1 v2 v3 s0 t1 I) : ky_G p l e rm_X7_shown s m args below meth c C Y A 4 (MQ below (va_Qi post (ky_B C Y A) A) args s 0 0 A) 43 [(0, .ref (Y.2.1 k0)), (1, .int v1), (2, .int v2), (3, .int v3)] [.int s0, .ref (Y.2.1 t1)] I := by
  obtain ⟨h4, hw⟩ := hw
  refine kg_putI (ci := 7) (Tn := TX7) (j := 0) (ty := .int) X tyX7 tyX7_ok nmX7 kc_7 h4 (by decide) (by decide) rfl kw_640 (by decide +kernel) rfl rfl dX7_shown_43 ?_
  refine kg_topm (fun I5 eI5 => ?_)
  have hw := hw I5 eI5
  refine kg_aload_n X 0 dX7_shown_46 rfl rfl ?_
  obtain ⟨h6, hw⟩ := hw
  refine kg_getI (j := 0) X kc_7 h6 (by decide) (by decide) rfl kw_640 dX7_shown_47 ?_
  refine kg_if_le (tgt := 55) X dX7_shown_50 (by decide) (fun h15 => ?_) (fun h15 => ?_)
  · have hw := hw.1 h15
    refine kg_iload_n X 3 dX7_shown_55 rfl rfl ?_
    refine kg_if_ne (tgt := 72) X dX7_shown_56 (by decide) (fun h14 => ?_) (fun h14 => ?_)
    · have hw := hw.1 h14
      refine kg_iload_n X 3 dX7_shown_72 rfl rfl ?_
      refine kg_iconst (v := (1 : Int32)) X dX7_shown_73 (by decide) ?_
      refine kg_icmp_ne (tgt := 90) X dX7_shown_74 (by decide) (fun h11 => ?_) (fun h11 => ?_)
      · have hw := hw.1 h11
        refine kg_aload_n X 0 dX7_shown_90 rfl rfl ?_
        refine kg_getR (j := 6) X kc_7 h6 (by decide) (by decide) rfl kw_646 dX7_shown_91 ?_
        refine kg_iconst (v := (4 : Int32)) X dX7_shown_94 (by decide) ?_
        refine kg_iload_n X 1 dX7_shown_95 rfl rfl ?_
        refine kg_imul X dX7_shown_96 ?_
        refine kg_iload_n X 2 dX7_shown_97 rfl rfl ?_
        refine kg_iadd X dX7_shown_98 ?_
        obtain ⟨h7, hw⟩ := hw
        obtain ⟨h8, hw⟩ := hw
        refine kg_iald X h7 h8 dX7_shown_99 ?_
        exact kg_iret X hr hw dX7_shown_100
      · have hw := hw.2 h11
        refine kg_aload_n X 0 dX7_shown_77 rfl rfl ?_
        refine kg_getR (j := 5) X kc_7 h6 (by decide) (by decide) rfl kw_645 dX7_shown_78 ?_
        refine kg_iconst (v := (4 : Int32)) X dX7_shown_81 (by decide) ?_
        refine kg_iload_n X 1 dX7_shown_82 rfl rfl ?_
        refine kg_imul X dX7_shown_83 ?_
        refine kg_iload_n X 2 dX7_shown_84 rfl rfl ?_
        refine kg_iadd X dX7_shown_85 ?_
        obtain ⟨h9, hw⟩ := hw
        obtain ⟨h10, hw⟩ := hw
        refine kg_iald X h9 h10 dX7_shown_86 ?_
        refine kg_goto (tgt := 100) X dX7_shown_87 (by decide) ?_
        exact kg_iret X hr hw dX7_shown_100
    · have hw := hw.2 h14
      refine kg_aload_n X 0 dX7_shown_59 rfl rfl ?_
      refine kg_getR (j := 4) X kc_7 h6 (by decide) (by decide) rfl kw_644 dX7_shown_60 ?_
      refine kg_iconst (v := (4 : Int32)) X dX7_shown_63 (by decide) ?_
      refine kg_iload_n X 1 dX7_shown_64 rfl rfl ?_
      refine kg_imul X dX7_shown_65 ?_
      refine kg_iload_n X 2 dX7_shown_66 rfl rfl ?_
      refine kg_iadd X dX7_shown_67 ?_
      obtain ⟨h12, hw⟩ := hw
      obtain ⟨h13, hw⟩ := hw
      refine kg_iald X h12 h13 dX7_shown_68 ?_
      refine kg_goto (tgt := 100) X dX7_shown_69 (by decide) ?_
      exact kg_iret X hr hw dX7_shown_100
  · have hw := hw.2 h15
    refine kg_iconst (v := (0 : Int32)) X dX7_shown_53 (by decide) ?_
    exact kg_iret X hr hw dX7_shown_54
def w_X7_shown (Y : Ly) (I : Mm) (k0 : Nat) (v1 : Int32) (v2 : Int32) (v3 : Int32) (post : Int32 → Mm → Prop) : Prop := (ky_is Y k0 7 ∧ w_X7_isRelation Y I k0 v1 (fun r2 I1 => ((r2 = 0 → w_X7_shown_B43 Y post k0 v1 v2 v3 (1 : Int32) k0 I1) ∧ (¬ r2 = 0 → w_X7_in Y I1 v3 (0 : Int32) (2 : Int32) (fun r17 I16 => ((¬ r17 = 0 → (ky_is Y (ky_rp Y k0 3) 8 ∧ (vp_in v1 (ky_ln Y (ky_rp Y k0 3)) ∧ w_X7_in Y I16 v2 (0 : Int32) ((I16 (ky_rp Y k0 3) v1.toNatClampNeg) - (1 : Int32)) (fun r21 I20 => ((¬ r21 = 0 → w_X7_shown_B43 Y post k0 v1 v2 v3 (0 : Int32) k0 I20) ∧ (r21 = 0 → w_X7_shown_B43 Y post k0 v1 v2 v3 (2 : Int32) k0 I20)))))) ∧ (r17 = 0 → w_X7_shown_B43 Y post k0 v1 v2 v3 (1 : Int32) k0 I16)))))))
set_option maxHeartbeats 4000000 in
set_option maxRecDepth 100000 in
theorem c_X7_shown (l : Launch) (C : Cc) (Y : Ly) (A : Nat → Prop) (I : Mm) (k0 : Nat) (v1 : Int32) (v2 : Int32) (v3 : Int32) (post : Int32 → Mm → Prop) (hw : w_X7_shown Y I k0 v1 v2 v3 post) : ky_MI l yX7_shown cX7_shown 4 (some .int) rm_X7_shown C Y A I [.ref (Y.2.1 k0), .int v1, .int v2, .int v3] post := by
  refine ky_met (by decide) (Nat.le_of_ble_eq_true rfl) ?_
  intro p e s m args below meth c X hr
  have X : ky_X p s m args meth c C cX7_shown 4 RX7 := X
  show ky_G p l e rm_X7_shown s m args below meth c C Y A 4 (MQ below (va_Qi post (ky_B C Y A) A) args s 0 0 A) 0 [(0, .ref (Y.2.1 k0)), (1, .int v1), (2, .int v2), (3, .int v3)] [] I
  refine kg_aload_n X 0 dX7_shown_0 rfl rfl ?_
  refine kg_aload_n X 0 dX7_shown_1 rfl rfl ?_
  refine kg_iload_n X 1 dX7_shown_2 rfl rfl ?_
  obtain ⟨h3, hw⟩ := hw
  refine kg_callVi (n := 1) (As := [.int v1]) X (c_X7_isRelation l C Y A I k0 v1 _ hw) kc_7 h3 rfl iv_X7_isRelation kw_781 (by decide +kernel) (by decide) rfl rfl (Nat.le_of_ble_eq_true rfl) dX7_shown_3 (fun r2 I1 hw => ?_)
  refine kg_if_eq (tgt := 18) X dX7_shown_6 (by decide) (fun h24 => ?_) (fun h24 => ?_)
  · have hw := hw.1 h24
    refine kg_iconst (v := (1 : Int32)) X dX7_shown_18 (by decide) ?_
    refine kg_goto (tgt := 43) X dX7_shown_19 (by decide) ?_
    refine kg_sub [0, 1, 2, 3] rfl ?_
    exact s_X7_shown_B43 X hr post _ _ _ _ _ _ _ hw
  · have hw := hw.2 h24
    refine kg_iload_n X 3 dX7_shown_9 rfl rfl ?_
    refine kg_iconst (v := (0 : Int32)) X dX7_shown_10 (by decide) ?_
    refine kg_iconst (v := (2 : Int32)) X dX7_shown_11 (by decide) ?_
    refine kg_callSi (n := 3) (As := [.int v3, .int (0 : Int32), .int (2 : Int32)]) X (c_X7_in l C Y A I1 v3 (0 : Int32) (2 : Int32) _ hw) rfl is_X7_in kw_766 (by decide +kernel) (by decide) rfl rfl (Nat.le_of_ble_eq_true rfl) dX7_shown_12 (fun r17 I16 hw => ?_)
    refine kg_if_ne (tgt := 22) X dX7_shown_15 (by decide) (fun h23 => ?_) (fun h23 => ?_)
    · have hw := hw.1 h23
      refine kg_iload_n X 2 dX7_shown_22 rfl rfl ?_
      refine kg_iconst (v := (0 : Int32)) X dX7_shown_23 (by decide) ?_
      refine kg_aload_n X 0 dX7_shown_24 rfl rfl ?_
      refine kg_getR (j := 3) X kc_7 h3 (by decide) (by decide) rfl kw_643 dX7_shown_25 ?_
      refine kg_iload_n X 1 dX7_shown_28 rfl rfl ?_
      obtain ⟨h18, hw⟩ := hw
      obtain ⟨h19, hw⟩ := hw
      refine kg_iald X h18 h19 dX7_shown_29 ?_
      refine kg_iconst (v := (1 : Int32)) X dX7_shown_30 (by decide) ?_
      refine kg_isub X dX7_shown_31 ?_
      refine kg_callSi (n := 3) (As := [.int v2, .int (0 : Int32), .int ((I16 (ky_rp Y k0 3) v1.toNatClampNeg) - (1 : Int32))]) X (c_X7_in l C Y A I16 v2 (0 : Int32) ((I16 (ky_rp Y k0 3) v1.toNatClampNeg) - (1 : Int32)) _ hw) rfl is_X7_in kw_766 (by decide +kernel) (by decide) rfl rfl (Nat.le_of_ble_eq_true rfl) dX7_shown_32 (fun r21 I20 hw => ?_)
      refine kg_if_ne (tgt := 42) X dX7_shown_35 (by decide) (fun h22 => ?_) (fun h22 => ?_)
      · have hw := hw.1 h22
        refine kg_iconst (v := (0 : Int32)) X dX7_shown_42 (by decide) ?_
        refine kg_sub [0, 1, 2, 3] rfl ?_
        exact s_X7_shown_B43 X hr post _ _ _ _ _ _ _ hw
      · have hw := hw.2 h22
        refine kg_iconst (v := (2 : Int32)) X dX7_shown_38 (by decide) ?_
        refine kg_goto (tgt := 43) X dX7_shown_39 (by decide) ?_
        refine kg_sub [0, 1, 2, 3] rfl ?_
        exact s_X7_shown_B43 X hr post _ _ _ _ _ _ _ hw
    · have hw := hw.2 h23
      refine kg_iconst (v := (1 : Int32)) X dX7_shown_18 (by decide) ?_
      refine kg_goto (tgt := 43) X dX7_shown_19 (by decide) ?_
      refine kg_sub [0, 1, 2, 3] rfl ?_
      exact s_X7_shown_B43 X hr post _ _ _ _ _ _ _ hw
end
abbrev rm_X7_cube : Room := { frames := 2, cells := 0, slots := 0, locals := 52 }
section
variable {p : Program} {l : Launch} {e : Env} {s : State} {m : MethodId} {args : Array Value} {below : List Frame} {meth : Method} {c : Code} {C : Cc} {Y : Ly} {A : Nat → Prop}
def w_X7_cube_B48 (Y : Ly) (post : Int32 → Mm → Prop) (k0 : Nat) (I : Mm) : Prop := (ky_is Y k0 7 ∧ w_X7_fails Y I k0 (1 : Int32) (fun r8 I7 => post r8 I7))
set_option maxHeartbeats 4000000 in
set_option maxRecDepth 100000 in
theorem s_X7_cube_B48 (X : ky_X p s m args meth c C cX7_cube 5 RX7) (hr : meth.sig.returnType = some .int) (post : Int32 → Mm → Prop) (k0 : Nat) (I : Mm) (hw : w_X7_cube_B48 Y post k0 I) : ky_G p l e rm_X7_cube s m args below meth c C Y A 5 (MQ below (va_Qi post (ky_B C Y A) A) args s 0 0 A) 48 [(0, .ref (Y.2.1 k0))] [] I := by
  refine kg_aload_n X 0 dX7_cube_48 rfl rfl ?_
  refine kg_iconst (v := (1 : Int32)) X dX7_cube_49 (by decide) ?_
  obtain ⟨h9, hw⟩ := hw
  refine kg_callVi (n := 1) (As := [.int (1 : Int32)]) X (c_X7_fails l C Y A I k0 (1 : Int32) _ hw) kc_7 h9 rfl iv_X7_fails kw_793 (by decide +kernel) (by decide) rfl rfl (Nat.le_of_ble_eq_true rfl) dX7_cube_50 (fun r8 I7 hw => ?_)
  exact kg_iret X hr hw dX7_cube_53
def w_X7_cube_B23 (Y : Ly) (post : Int32 → Mm → Prop) (k0 : Nat) (v1 : Int32) (v2 : Int32) (v3 : Int32) (s0 : Int32) (t1 : Nat) (I : Mm) : Prop := (ky_is Y t1 7 ∧ (∀ I5 : Mm, I5 = ky_up I t1 0 s0 → (ky_is Y k0 7 ∧ ((0 < (I5 k0 0) → w_X7_cube_B48 Y post k0 I5) ∧ (¬ 0 < (I5 k0 0) → w_X7_cubesOf Y I5 k0 v1 (fun r11 I10 => w_X7_in Y I10 v2 (0 : Int32) (r11 - (1 : Int32)) (fun r13 I12 => ((¬ r13 = 0 → (∀ x14 : Int32, x14 = ((16 : Int32) * v1) + v2 → ((¬ v3 = (4 : Int32) → ((¬ v3 = 0 → (ky_is Y (ky_rp Y k0 17) 8 ∧ (vp_in x14 (ky_ln Y (ky_rp Y k0 17)) ∧ ((¬ (I12 (ky_rp Y k0 17) x14.toNatClampNeg) = 0 → ((¬ v3 = (1 : Int32) → (ky_is Y (ky_rp Y k0 19) 8 ∧ (vp_in ((((2 : Int32) * x14) + v3) - (2 : Int32)) (ky_ln Y (ky_rp Y k0 19)) ∧ post (I12 (ky_rp Y k0 19) ((((2 : Int32) * x14) + v3) - (2 : Int32)).toNatClampNeg) I12))) ∧ (v3 = (1 : Int32) → (ky_is Y (ky_rp Y k0 18) 8 ∧ (vp_in x14 (ky_ln Y (ky_rp Y k0 18)) ∧ post (I12 (ky_rp Y k0 18) x14.toNatClampNeg) I12))))) ∧ ((I12 (ky_rp Y k0 17) x14.toNatClampNeg) = 0 → post (-1 : Int32) I12))))) ∧ (v3 = 0 → (ky_is Y (ky_rp Y k0 17) 8 ∧ (vp_in x14 (ky_ln Y (ky_rp Y k0 17)) ∧ post (I12 (ky_rp Y k0 17) x14.toNatClampNeg) I12))))) ∧ (v3 = (4 : Int32) → (∀ I26 : Mm, I26 = ky_up I12 k0 25 (0 : Int32) → w_X7_addCube Y I26 k0 v1 v2 (0 : Int32) (1 : Int32) (5 : Int32) (fun I27 => w_X7_holdsTogether Y I27 k0 (6 : Int32) (fun r29 I28 => ((r29 = 0 → post (0 : Int32) I28) ∧ (¬ r29 = 0 → post (1 : Int32) I28))))))))) ∧ (r13 = 0 → w_X7_cube_B48 Y post k0 I12)))))))))
set_option maxHeartbeats 4000000 in
set_option maxRecDepth 100000 in
theorem s_X7_cube_B23 (X : ky_X p s m args meth c C cX7_cube 5 RX7) (hr : meth.sig.returnType = some .int) (post : Int32 → Mm → Prop) (k0 : Nat) (v1 : Int32) (v2 : Int32) (v3 : Int32) (s0 : Int32) (t1 : Nat) (I : Mm) (hw : w_X7_cube_B23 Y post k0 v1 v2 v3 s0 t1 I) : ky_G p l e rm_X7_cube s m args below meth c C Y A 5 (MQ below (va_Qi post (ky_B C Y A) A) args s 0 0 A) 23 [(0, .ref (Y.2.1 k0)), (1, .int v1), (2, .int v2), (3, .int v3)] [.int s0, .ref (Y.2.1 t1)] I := by
  obtain ⟨h4, hw⟩ := hw
  refine kg_putI (ci := 7) (Tn := TX7) (j := 0) (ty := .int) X tyX7 tyX7_ok nmX7 kc_7 h4 (by decide) (by decide) rfl kw_640 (by decide +kernel) rfl rfl dX7_cube_23 ?_
  refine kg_topm (fun I5 eI5 => ?_)
  have hw := hw I5 eI5
  refine kg_aload_n X 0 dX7_cube_26 rfl rfl ?_
  obtain ⟨h6, hw⟩ := hw
  refine kg_getI (j := 0) X kc_7 h6 (by decide) (by decide) rfl kw_640 dX7_cube_27 ?_
  refine kg_if_gt (tgt := 48) X dX7_cube_30 (by decide) (fun h33 => ?_) (fun h33 => ?_)
  · have hw := hw.1 h33
    refine kg_sub [0] rfl ?_
    exact s_X7_cube_B48 X hr post _ _ hw
  · have hw := hw.2 h33
    refine kg_iload_n X 2 dX7_cube_33 rfl rfl ?_
    refine kg_iconst (v := (0 : Int32)) X dX7_cube_34 (by decide) ?_
    refine kg_aload_n X 0 dX7_cube_35 rfl rfl ?_
    refine kg_iload_n X 1 dX7_cube_36 rfl rfl ?_
    refine kg_callVi (n := 1) (As := [.int v1]) X (c_X7_cubesOf l C Y A I5 k0 v1 _ hw) kc_7 h6 rfl iv_X7_cubesOf kw_833 (by decide +kernel) (by decide) rfl rfl (Nat.le_of_ble_eq_true rfl) dX7_cube_37 (fun r11 I10 hw => ?_)
    refine kg_iconst (v := (1 : Int32)) X dX7_cube_40 (by decide) ?_
    refine kg_isub X dX7_cube_41 ?_
    refine kg_callSi (n := 3) (As := [.int v2, .int (0 : Int32), .int (r11 - (1 : Int32))]) X (c_X7_in l C Y A I10 v2 (0 : Int32) (r11 - (1 : Int32)) _ hw) rfl is_X7_in kw_766 (by decide +kernel) (by decide) rfl rfl (Nat.le_of_ble_eq_true rfl) dX7_cube_42 (fun r13 I12 hw => ?_)
    refine kg_if_ne (tgt := 54) X dX7_cube_45 (by decide) (fun h32 => ?_) (fun h32 => ?_)
    · have hw := hw.1 h32
      refine kg_bipush (v := (16 : Int32)) X dX7_cube_54 (by decide) ?_
      refine kg_iload_n X 1 dX7_cube_56 rfl rfl ?_
      refine kg_imul X dX7_cube_57 ?_
      refine kg_iload_n X 2 dX7_cube_58 rfl rfl ?_
      refine kg_iadd X dX7_cube_59 ?_
      refine kg_topi (fun x14 ex14 => ?_)
      have hw := hw x14 ex14
      refine kg_istore (lv' := [(4, .int x14), (0, .ref (Y.2.1 k0)), (1, .int v1), (2, .int v2), (3, .int v3)]) X dX7_cube_60 (by decide) rfl ?_
      refine kg_iload_n X 4 dX7_cube_62 rfl rfl ?_
      refine kg_iconst (v := (4 : Int32)) X dX7_cube_63 (by decide) ?_
      refine kg_icmp_ne (tgt := 96) X dX7_cube_64 (by decide) (fun h31 => ?_) (fun h31 => ?_)
      · have hw := hw.1 h31
        refine kg_iload_n X 4 dX7_cube_96 rfl rfl ?_
        refine kg_if_ne (tgt := 110) X dX7_cube_97 (by decide) (fun h25 => ?_) (fun h25 => ?_)
        · have hw := hw.1 h25
          refine kg_aload_n X 1 dX7_cube_110 rfl rfl ?_
          refine kg_getR (j := 17) X kc_7 h6 (by decide) (by decide) rfl kw_657 dX7_cube_111 ?_
          refine kg_iload X 0 dX7_cube_114 rfl ?_
          obtain ⟨h15, hw⟩ := hw
          obtain ⟨h16, hw⟩ := hw
          refine kg_iald X h15 h16 dX7_cube_116 ?_
          refine kg_if_ne (tgt := 124) X dX7_cube_117 (by decide) (fun h22 => ?_) (fun h22 => ?_)
          · have hw := hw.1 h22
            refine kg_iload_n X 4 dX7_cube_124 rfl rfl ?_
            refine kg_iconst (v := (1 : Int32)) X dX7_cube_125 (by decide) ?_
            refine kg_icmp_ne (tgt := 139) X dX7_cube_126 (by decide) (fun h21 => ?_) (fun h21 => ?_)
            · have hw := hw.1 h21
              refine kg_aload_n X 1 dX7_cube_139 rfl rfl ?_
              refine kg_getR (j := 19) X kc_7 h6 (by decide) (by decide) rfl kw_659 dX7_cube_140 ?_
              refine kg_iconst (v := (2 : Int32)) X dX7_cube_143 (by decide) ?_
              refine kg_iload X 0 dX7_cube_144 rfl ?_
              refine kg_imul X dX7_cube_146 ?_
              refine kg_iload_n X 4 dX7_cube_147 rfl rfl ?_
              refine kg_iadd X dX7_cube_148 ?_
              refine kg_iconst (v := (2 : Int32)) X dX7_cube_149 (by decide) ?_
              refine kg_isub X dX7_cube_150 ?_
              obtain ⟨h17, hw⟩ := hw
              obtain ⟨h18, hw⟩ := hw
              refine kg_iald X h17 h18 dX7_cube_151 ?_
              exact kg_iret X hr hw dX7_cube_152
            · have hw := hw.2 h21
              refine kg_aload_n X 1 dX7_cube_129 rfl rfl ?_
              refine kg_getR (j := 18) X kc_7 h6 (by decide) (by decide) rfl kw_658 dX7_cube_130 ?_
              refine kg_iload X 0 dX7_cube_133 rfl ?_
              obtain ⟨h19, hw⟩ := hw
              obtain ⟨h20, hw⟩ := hw
              refine kg_iald X h19 h20 dX7_cube_135 ?_
              refine kg_goto (tgt := 152) X dX7_cube_136 (by decide) ?_
              exact kg_iret X hr hw dX7_cube_152
          · have hw := hw.2 h22
            refine kg_iconst (v := (-1 : Int32)) X dX7_cube_120 (by decide) ?_
            refine kg_goto (tgt := 152) X dX7_cube_121 (by decide) ?_
            exact kg_iret X hr hw dX7_cube_152
        · have hw := hw.2 h25
          refine kg_aload_n X 1 dX7_cube_100 rfl rfl ?_
          refine kg_getR (j := 17) X kc_7 h6 (by decide) (by decide) rfl kw_657 dX7_cube_101 ?_
          refine kg_iload X 0 dX7_cube_104 rfl ?_
          obtain ⟨h23, hw⟩ := hw
          obtain ⟨h24, hw⟩ := hw
          refine kg_iald X h23 h24 dX7_cube_106 ?_
          refine kg_goto (tgt := 152) X dX7_cube_107 (by decide) ?_
          exact kg_iret X hr hw dX7_cube_152
      · have hw := hw.2 h31
        refine kg_aload_n X 1 dX7_cube_67 rfl rfl ?_
        refine kg_iconst (v := (0 : Int32)) X dX7_cube_68 (by decide) ?_
        refine kg_putI (ci := 7) (Tn := TX7) (j := 25) (ty := .int) X tyX7 tyX7_ok nmX7 kc_7 h6 (by decide) (by decide) rfl kw_665 (by decide +kernel) rfl rfl dX7_cube_69 ?_
        refine kg_topm (fun I26 eI26 => ?_)
        have hw := hw I26 eI26
        refine kg_aload_n X 1 dX7_cube_72 rfl rfl ?_
        refine kg_iload_n X 2 dX7_cube_73 rfl rfl ?_
        refine kg_iload_n X 3 dX7_cube_74 rfl rfl ?_
        refine kg_iconst (v := (0 : Int32)) X dX7_cube_75 (by decide) ?_
        refine kg_iconst (v := (1 : Int32)) X dX7_cube_76 (by decide) ?_
        refine kg_iconst (v := (5 : Int32)) X dX7_cube_77 (by decide) ?_
        refine kg_callVv (n := 5) (As := [.int v1, .int v2, .int (0 : Int32), .int (1 : Int32), .int (5 : Int32)]) X (c_X7_addCube l C Y A I26 k0 v1 v2 (0 : Int32) (1 : Int32) (5 : Int32) _ hw) kc_7 h6 rfl iv_X7_addCube kw_853 (by decide +kernel) (by decide) rfl rfl (Nat.le_of_ble_eq_true rfl) dX7_cube_78 (fun I27 hw => ?_)
        refine kg_aload_n X 1 dX7_cube_81 rfl rfl ?_
        refine kg_bipush (v := (6 : Int32)) X dX7_cube_82 (by decide) ?_
        refine kg_callVi (n := 1) (As := [.int (6 : Int32)]) X (c_X7_holdsTogether l C Y A I27 k0 (6 : Int32) _ hw) kc_7 h6 rfl iv_X7_holdsTogether kw_857 (by decide +kernel) (by decide) rfl rfl (Nat.le_of_ble_eq_true rfl) dX7_cube_84 (fun r29 I28 hw => ?_)
        refine kg_if_eq (tgt := 94) X dX7_cube_87 (by decide) (fun h30 => ?_) (fun h30 => ?_)
        · have hw := hw.1 h30
          refine kg_iconst (v := (0 : Int32)) X dX7_cube_94 (by decide) ?_
          exact kg_iret X hr hw dX7_cube_95
        · have hw := hw.2 h30
          refine kg_iconst (v := (1 : Int32)) X dX7_cube_90 (by decide) ?_
          refine kg_goto (tgt := 95) X dX7_cube_91 (by decide) ?_
          exact kg_iret X hr hw dX7_cube_95
    · have hw := hw.2 h32
      refine kg_sub [0] rfl ?_
      exact s_X7_cube_B48 X hr post _ _ hw
def w_X7_cube (Y : Ly) (I : Mm) (k0 : Nat) (v1 : Int32) (v2 : Int32) (v3 : Int32) (post : Int32 → Mm → Prop) : Prop := (ky_is Y k0 7 ∧ w_X7_isRelation Y I k0 v1 (fun r2 I1 => ((r2 = 0 → w_X7_cube_B23 Y post k0 v1 v2 v3 (1 : Int32) k0 I1) ∧ (¬ r2 = 0 → w_X7_in Y I1 v3 (0 : Int32) (4 : Int32) (fun r35 I34 => ((r35 = 0 → w_X7_cube_B23 Y post k0 v1 v2 v3 (1 : Int32) k0 I34) ∧ (¬ r35 = 0 → w_X7_cube_B23 Y post k0 v1 v2 v3 (0 : Int32) k0 I34)))))))
set_option maxHeartbeats 4000000 in
set_option maxRecDepth 100000 in
theorem c_X7_cube (l : Launch) (C : Cc) (Y : Ly) (A : Nat → Prop) (I : Mm) (k0 : Nat) (v1 : Int32) (v2 : Int32) (v3 : Int32) (post : Int32 → Mm → Prop) (hw : w_X7_cube Y I k0 v1 v2 v3 post) : ky_MI l yX7_cube cX7_cube 5 (some .int) rm_X7_cube C Y A I [.ref (Y.2.1 k0), .int v1, .int v2, .int v3] post := by
  refine ky_met (by decide) (Nat.le_of_ble_eq_true rfl) ?_
  intro p e s m args below meth c X hr
  have X : ky_X p s m args meth c C cX7_cube 5 RX7 := X
  show ky_G p l e rm_X7_cube s m args below meth c C Y A 5 (MQ below (va_Qi post (ky_B C Y A) A) args s 0 0 A) 0 [(0, .ref (Y.2.1 k0)), (1, .int v1), (2, .int v2), (3, .int v3)] [] I
  refine kg_aload_n X 0 dX7_cube_0 rfl rfl ?_
  refine kg_aload_n X 0 dX7_cube_1 rfl rfl ?_
  refine kg_iload_n X 1 dX7_cube_2 rfl rfl ?_
  obtain ⟨h3, hw⟩ := hw
  refine kg_callVi (n := 1) (As := [.int v1]) X (c_X7_isRelation l C Y A I k0 v1 _ hw) kc_7 h3 rfl iv_X7_isRelation kw_781 (by decide +kernel) (by decide) rfl rfl (Nat.le_of_ble_eq_true rfl) dX7_cube_3 (fun r2 I1 hw => ?_)
  refine kg_if_eq (tgt := 22) X dX7_cube_6 (by decide) (fun h37 => ?_) (fun h37 => ?_)
  · have hw := hw.1 h37
    refine kg_iconst (v := (1 : Int32)) X dX7_cube_22 (by decide) ?_
    refine kg_sub [0, 1, 2, 3] rfl ?_
    exact s_X7_cube_B23 X hr post _ _ _ _ _ _ _ hw
  · have hw := hw.2 h37
    refine kg_iload_n X 3 dX7_cube_9 rfl rfl ?_
    refine kg_iconst (v := (0 : Int32)) X dX7_cube_10 (by decide) ?_
    refine kg_iconst (v := (4 : Int32)) X dX7_cube_11 (by decide) ?_
    refine kg_callSi (n := 3) (As := [.int v3, .int (0 : Int32), .int (4 : Int32)]) X (c_X7_in l C Y A I1 v3 (0 : Int32) (4 : Int32) _ hw) rfl is_X7_in kw_766 (by decide +kernel) (by decide) rfl rfl (Nat.le_of_ble_eq_true rfl) dX7_cube_12 (fun r35 I34 hw => ?_)
    refine kg_if_eq (tgt := 22) X dX7_cube_15 (by decide) (fun h36 => ?_) (fun h36 => ?_)
    · have hw := hw.1 h36
      refine kg_iconst (v := (1 : Int32)) X dX7_cube_22 (by decide) ?_
      refine kg_sub [0, 1, 2, 3] rfl ?_
      exact s_X7_cube_B23 X hr post _ _ _ _ _ _ _ hw
    · have hw := hw.2 h36
      refine kg_iconst (v := (0 : Int32)) X dX7_cube_18 (by decide) ?_
      refine kg_goto (tgt := 23) X dX7_cube_19 (by decide) ?_
      refine kg_sub [0, 1, 2, 3] rfl ?_
      exact s_X7_cube_B23 X hr post _ _ _ _ _ _ _ hw
end
abbrev rm_X7_node : Room := { frames := 1, cells := 0, slots := 0, locals := 22 }
section
variable {p : Program} {l : Launch} {e : Env} {s : State} {m : MethodId} {args : Array Value} {below : List Frame} {meth : Method} {c : Code} {C : Cc} {Y : Ly} {A : Nat → Prop}
def w_X7_node_B49 (Y : Ly) (post : Int32 → Mm → Prop) (k0 : Nat) (v1 : Int32) (v2 : Int32) (s0 : Int32) (t1 : Nat) (I : Mm) : Prop := (ky_is Y t1 7 ∧ (∀ I5 : Mm, I5 = ky_up I t1 0 s0 → (ky_is Y k0 7 ∧ (((I5 k0 0) ≤ 0 → ((¬ v2 = 0 → ((¬ v2 = (1 : Int32) → (ky_is Y (ky_rp Y k0 34) 8 ∧ (vp_in v1 (ky_ln Y (ky_rp Y k0 34)) ∧ post (I5 (ky_rp Y k0 34) v1.toNatClampNeg) I5))) ∧ (v2 = (1 : Int32) → (ky_is Y (ky_rp Y k0 32) 8 ∧ (vp_in v1 (ky_ln Y (ky_rp Y k0 32)) ∧ post (I5 (ky_rp Y k0 32) v1.toNatClampNeg) I5))))) ∧ (v2 = 0 → (ky_is Y (ky_rp Y k0 31) 8 ∧ (vp_in v1 (ky_ln Y (ky_rp Y k0 31)) ∧ post (I5 (ky_rp Y k0 31) v1.toNatClampNeg) I5))))) ∧ (¬ (I5 k0 0) ≤ 0 → post (0 : Int32) I5)))))
set_option maxHeartbeats 4000000 in
set_option maxRecDepth 100000 in
theorem s_X7_node_B49 (X : ky_X p s m args meth c C cX7_node 3 RX7) (hr : meth.sig.returnType = some .int) (post : Int32 → Mm → Prop) (k0 : Nat) (v1 : Int32) (v2 : Int32) (s0 : Int32) (t1 : Nat) (I : Mm) (hw : w_X7_node_B49 Y post k0 v1 v2 s0 t1 I) : ky_G p l e rm_X7_node s m args below meth c C Y A 3 (MQ below (va_Qi post (ky_B C Y A) A) args s 0 0 A) 49 [(0, .ref (Y.2.1 k0)), (1, .int v1), (2, .int v2)] [.int s0, .ref (Y.2.1 t1)] I := by
  obtain ⟨h4, hw⟩ := hw
  refine kg_putI (ci := 7) (Tn := TX7) (j := 0) (ty := .int) X tyX7 tyX7_ok nmX7 kc_7 h4 (by decide) (by decide) rfl kw_640 (by decide +kernel) rfl rfl dX7_node_49 ?_
  refine kg_topm (fun I5 eI5 => ?_)
  have hw := hw I5 eI5
  refine kg_aload_n X 0 dX7_node_52 rfl rfl ?_
  obtain ⟨h6, hw⟩ := hw
  refine kg_getI (j := 0) X kc_7 h6 (by decide) (by decide) rfl kw_640 dX7_node_53 ?_
  refine kg_if_le (tgt := 61) X dX7_node_56 (by decide) (fun h15 => ?_) (fun h15 => ?_)
  · have hw := hw.1 h15
    refine kg_iload_n X 2 dX7_node_61 rfl rfl ?_
    refine kg_if_ne (tgt := 74) X dX7_node_62 (by decide) (fun h14 => ?_) (fun h14 => ?_)
    · have hw := hw.1 h14
      refine kg_iload_n X 2 dX7_node_74 rfl rfl ?_
      refine kg_iconst (v := (1 : Int32)) X dX7_node_75 (by decide) ?_
      refine kg_icmp_ne (tgt := 88) X dX7_node_76 (by decide) (fun h11 => ?_) (fun h11 => ?_)
      · have hw := hw.1 h11
        refine kg_aload_n X 0 dX7_node_88 rfl rfl ?_
        refine kg_getR (j := 34) X kc_7 h6 (by decide) (by decide) rfl kw_674 dX7_node_89 ?_
        refine kg_iload_n X 1 dX7_node_92 rfl rfl ?_
        obtain ⟨h7, hw⟩ := hw
        obtain ⟨h8, hw⟩ := hw
        refine kg_iald X h7 h8 dX7_node_93 ?_
        exact kg_iret X hr hw dX7_node_94
      · have hw := hw.2 h11
        refine kg_aload_n X 0 dX7_node_79 rfl rfl ?_
        refine kg_getR (j := 32) X kc_7 h6 (by decide) (by decide) rfl kw_672 dX7_node_80 ?_
        refine kg_iload_n X 1 dX7_node_83 rfl rfl ?_
        obtain ⟨h9, hw⟩ := hw
        obtain ⟨h10, hw⟩ := hw
        refine kg_iald X h9 h10 dX7_node_84 ?_
        refine kg_goto (tgt := 94) X dX7_node_85 (by decide) ?_
        exact kg_iret X hr hw dX7_node_94
    · have hw := hw.2 h14
      refine kg_aload_n X 0 dX7_node_65 rfl rfl ?_
      refine kg_getR (j := 31) X kc_7 h6 (by decide) (by decide) rfl kw_671 dX7_node_66 ?_
      refine kg_iload_n X 1 dX7_node_69 rfl rfl ?_
      obtain ⟨h12, hw⟩ := hw
      obtain ⟨h13, hw⟩ := hw
      refine kg_iald X h12 h13 dX7_node_70 ?_
      refine kg_goto (tgt := 94) X dX7_node_71 (by decide) ?_
      exact kg_iret X hr hw dX7_node_94
  · have hw := hw.2 h15
    refine kg_iconst (v := (0 : Int32)) X dX7_node_59 (by decide) ?_
    exact kg_iret X hr hw dX7_node_60
def w_X7_node (Y : Ly) (I : Mm) (k0 : Nat) (v1 : Int32) (v2 : Int32) (post : Int32 → Mm → Prop) : Prop := w_X7_in Y I v2 (0 : Int32) (2 : Int32) (fun r2 I1 => ((¬ r2 = 0 → (ky_is Y k0 7 ∧ (((I1 k0 21) < 0 → w_X7_node_B49 Y post k0 v1 v2 (2 : Int32) k0 I1) ∧ (¬ (I1 k0 21) < 0 → (((40 : Int32) < (I1 k0 30) → w_X7_node_B49 Y post k0 v1 v2 (2 : Int32) k0 I1) ∧ (¬ (40 : Int32) < (I1 k0 30) → w_X7_in Y I1 v1 (0 : Int32) ((I1 k0 30) - (1 : Int32)) (fun r17 I16 => ((¬ r17 = 0 → w_X7_node_B49 Y post k0 v1 v2 (0 : Int32) k0 I16) ∧ (r17 = 0 → w_X7_node_B49 Y post k0 v1 v2 (2 : Int32) k0 I16))))))))) ∧ (r2 = 0 → w_X7_node_B49 Y post k0 v1 v2 (1 : Int32) k0 I1)))
set_option maxHeartbeats 4000000 in
set_option maxRecDepth 100000 in
theorem c_X7_node (l : Launch) (C : Cc) (Y : Ly) (A : Nat → Prop) (I : Mm) (k0 : Nat) (v1 : Int32) (v2 : Int32) (post : Int32 → Mm → Prop) (hw : w_X7_node Y I k0 v1 v2 post) : ky_MI l yX7_node cX7_node 3 (some .int) rm_X7_node C Y A I [.ref (Y.2.1 k0), .int v1, .int v2] post := by
  refine ky_met (by decide) (Nat.le_of_ble_eq_true rfl) ?_
  intro p e s m args below meth c X hr
  have X : ky_X p s m args meth c C cX7_node 3 RX7 := X
  show ky_G p l e rm_X7_node s m args below meth c C Y A 3 (MQ below (va_Qi post (ky_B C Y A) A) args s 0 0 A) 0 [(0, .ref (Y.2.1 k0)), (1, .int v1), (2, .int v2)] [] I
  refine kg_aload_n X 0 dX7_node_0 rfl rfl ?_
  refine kg_iload_n X 2 dX7_node_1 rfl rfl ?_
  refine kg_iconst (v := (0 : Int32)) X dX7_node_2 (by decide) ?_
  refine kg_iconst (v := (2 : Int32)) X dX7_node_3 (by decide) ?_
  refine kg_callSi (n := 3) (As := [.int v2, .int (0 : Int32), .int (2 : Int32)]) X (c_X7_in l C Y A I v2 (0 : Int32) (2 : Int32) _ hw) rfl is_X7_in kw_766 (by decide +kernel) (by decide) rfl rfl (Nat.le_of_ble_eq_true rfl) dX7_node_4 (fun r2 I1 hw => ?_)
  refine kg_if_ne (tgt := 14) X dX7_node_7 (by decide) (fun h21 => ?_) (fun h21 => ?_)
  · have hw := hw.1 h21
    refine kg_aload_n X 0 dX7_node_14 rfl rfl ?_
    obtain ⟨h3, hw⟩ := hw
    refine kg_getI (j := 21) X kc_7 h3 (by decide) (by decide) rfl kw_661 dX7_node_15 ?_
    refine kg_if_lt (tgt := 44) X dX7_node_18 (by decide) (fun h20 => ?_) (fun h20 => ?_)
    · have hw := hw.1 h20
      refine kg_iconst (v := (2 : Int32)) X dX7_node_44 (by decide) ?_
      refine kg_goto (tgt := 49) X dX7_node_45 (by decide) ?_
      refine kg_sub [0, 1, 2] rfl ?_
      exact s_X7_node_B49 X hr post _ _ _ _ _ _ hw
    · have hw := hw.2 h20
      refine kg_aload_n X 0 dX7_node_21 rfl rfl ?_
      refine kg_getI (j := 30) X kc_7 h3 (by decide) (by decide) rfl kw_670 dX7_node_22 ?_
      refine kg_bipush (v := (40 : Int32)) X dX7_node_25 (by decide) ?_
      refine kg_icmp_gt (tgt := 44) X dX7_node_27 (by decide) (fun h19 => ?_) (fun h19 => ?_)
      · have hw := hw.1 h19
        refine kg_iconst (v := (2 : Int32)) X dX7_node_44 (by decide) ?_
        refine kg_goto (tgt := 49) X dX7_node_45 (by decide) ?_
        refine kg_sub [0, 1, 2] rfl ?_
        exact s_X7_node_B49 X hr post _ _ _ _ _ _ hw
      · have hw := hw.2 h19
        refine kg_iload_n X 1 dX7_node_30 rfl rfl ?_
        refine kg_iconst (v := (0 : Int32)) X dX7_node_31 (by decide) ?_
        refine kg_aload_n X 0 dX7_node_32 rfl rfl ?_
        refine kg_getI (j := 30) X kc_7 h3 (by decide) (by decide) rfl kw_670 dX7_node_33 ?_
        refine kg_iconst (v := (1 : Int32)) X dX7_node_36 (by decide) ?_
        refine kg_isub X dX7_node_37 ?_
        refine kg_callSi (n := 3) (As := [.int v1, .int (0 : Int32), .int ((I1 k0 30) - (1 : Int32))]) X (c_X7_in l C Y A I1 v1 (0 : Int32) ((I1 k0 30) - (1 : Int32)) _ hw) rfl is_X7_in kw_766 (by decide +kernel) (by decide) rfl rfl (Nat.le_of_ble_eq_true rfl) dX7_node_38 (fun r17 I16 hw => ?_)
        refine kg_if_ne (tgt := 48) X dX7_node_41 (by decide) (fun h18 => ?_) (fun h18 => ?_)
        · have hw := hw.1 h18
          refine kg_iconst (v := (0 : Int32)) X dX7_node_48 (by decide) ?_
          refine kg_sub [0, 1, 2] rfl ?_
          exact s_X7_node_B49 X hr post _ _ _ _ _ _ hw
        · have hw := hw.2 h18
          refine kg_iconst (v := (2 : Int32)) X dX7_node_44 (by decide) ?_
          refine kg_goto (tgt := 49) X dX7_node_45 (by decide) ?_
          refine kg_sub [0, 1, 2] rfl ?_
          exact s_X7_node_B49 X hr post _ _ _ _ _ _ hw
  · have hw := hw.2 h21
    refine kg_iconst (v := (1 : Int32)) X dX7_node_10 (by decide) ?_
    refine kg_goto (tgt := 49) X dX7_node_11 (by decide) ?_
    refine kg_sub [0, 1, 2] rfl ?_
    exact s_X7_node_B49 X hr post _ _ _ _ _ _ hw
end
