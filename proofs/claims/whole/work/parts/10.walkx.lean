abbrev rm_X6_relation : Room := { frames := 6, cells := 1, slots := 6, locals := 90 }
section
variable {p : Program} {l : Launch} {e : Env} {s : State} {m : MethodId} {args : Array Value} {below : List Frame} {meth : Method} {c : Code} {C : Cc} {Y : Ly} {A : Nat → Prop}
def w_X6_relation_B20 (Y : Ly) (post : Int32 → Mm → Prop) (xp : String → Mm → Prop) (k0 : Nat) (v1 : Int32) (I : Mm) : Prop := (ky_is Y k0 6 ∧ ((¬ (I k0 1) = (4 : Int32) → (ky_is Y (ky_rp Y k0 0) 12 ∧ (vp_in (I k0 1) (ky_ln Y (ky_rp Y k0 0)) ∧ (ky_is Y (ky_rp Y (ky_rp Y k0 0) (I k0 1).toNatClampNeg) 4 ∧ (∀ I5 : Mm, I5 = ky_up I (ky_rp Y (ky_rp Y k0 0) (I k0 1).toNatClampNeg) 0 v1 → (∀ I6 : Mm, I6 = ky_up I5 k0 1 ((I5 k0 1) + (1 : Int32)) → w_X6_startAfresh Y I6 k0 (fun I7 => post ((I7 k0 1) - (1 : Int32)) I7))))))) ∧ ((I k0 1) = (4 : Int32) → xp "java/lang/IllegalStateException" I)))
set_option maxHeartbeats 4000000 in
set_option maxRecDepth 100000 in
theorem s_X6_relation_B20 (X : ky_X p s m args meth c C cX6_relation 2 RX6) (hr : meth.sig.returnType = some .int) (hz : ky_Y l A s c) (post : Int32 → Mm → Prop) (xp : String → Mm → Prop) (k0 : Nat) (v1 : Int32) (I : Mm) (hw : w_X6_relation_B20 Y post xp k0 v1 I) : ky_G p l e rm_X6_relation s m args below meth c C Y A 2 (ky_XQ below (va_Qi post (ky_B C Y A) A) (ky_XC C Y A xp) args s A) 20 [(0, .ref (Y.2.1 k0)), (1, .int v1)] [] I := by
  refine kg_aload_n X 0 dX6_relation_20 rfl rfl ?_
  obtain ⟨h1, hw⟩ := hw
  refine kg_getI (j := 1) X kc_6 h1 (by decide) (by decide) rfl kw_200 dX6_relation_21 ?_
  refine kg_iconst (v := (4 : Int32)) X dX6_relation_24 (by decide) ?_
  refine kg_icmp_ne (tgt := 38) X dX6_relation_25 (by decide) (fun h8 => ?_) (fun h8 => ?_)
  · have hw := hw.1 h8
    refine kg_aload_n X 0 dX6_relation_38 rfl rfl ?_
    refine kg_getR (j := 0) X kc_6 h1 (by decide) (by decide) rfl kw_199 dX6_relation_39 ?_
    refine kg_aload_n X 0 dX6_relation_42 rfl rfl ?_
    refine kg_getI (j := 1) X kc_6 h1 (by decide) (by decide) rfl kw_200 dX6_relation_43 ?_
    obtain ⟨h2, hw⟩ := hw
    obtain ⟨h3, hw⟩ := hw
    refine kg_aald (kc := 12) X 4 rfl (by decide) h2 h3 dX6_relation_46 ?_
    refine kg_iload_n X 1 dX6_relation_47 rfl rfl ?_
    obtain ⟨h4, hw⟩ := hw
    refine kg_putI (ci := 4) (Tn := TX4) (j := 0) (ty := .int) X tyX4 tyX4_ok nmX4 kc_4 h4 (by decide) (by decide) rfl kw_115 (by decide +kernel) rfl rfl dX6_relation_48 ?_
    refine kg_topm (fun I5 eI5 => ?_)
    have hw := hw I5 eI5
    refine kg_aload_n X 0 dX6_relation_51 rfl rfl ?_
    refine kg_dup X dX6_relation_52 rfl ?_
    refine kg_getI (j := 1) X kc_6 h1 (by decide) (by decide) rfl kw_200 dX6_relation_53 ?_
    refine kg_iconst (v := (1 : Int32)) X dX6_relation_56 (by decide) ?_
    refine kg_iadd X dX6_relation_57 ?_
    refine kg_putI (ci := 6) (Tn := TX6) (j := 1) (ty := .int) X tyX6 tyX6_ok nmX6 kc_6 h1 (by decide) (by decide) rfl kw_200 (by decide +kernel) rfl rfl dX6_relation_58 ?_
    refine kg_topm (fun I6 eI6 => ?_)
    have hw := hw I6 eI6
    refine kg_aload_n X 0 dX6_relation_61 rfl rfl ?_
    refine kg_callVv (n := 0) (As := []) X (c_X6_startAfresh l C Y A I6 k0 _ hw) kc_6 h1 rfl iv_X6_startAfresh kw_240 (by decide +kernel) (by decide) rfl rfl (Nat.le_of_ble_eq_true rfl) dX6_relation_62 (fun I7 hw => ?_)
    refine kg_aload_n X 0 dX6_relation_65 rfl rfl ?_
    refine kg_getI (j := 1) X kc_6 h1 (by decide) (by decide) rfl kw_200 dX6_relation_66 ?_
    refine kg_iconst (v := (1 : Int32)) X dX6_relation_69 (by decide) ?_
    refine kg_isub X dX6_relation_70 ?_
    exact kx_iret X hr hw dX6_relation_71
  · have hw := hw.2 h8
    exact kx_throw (is := 62) (text := "there are 4 relations") X hz ke_60 (by decide) (by decide) dX6_relation_28 dX6_relation_31 dX6_relation_32 dX6_relation_34 dX6_relation_37 hw
def w_X6_relation (Y : Ly) (I : Mm) (k0 : Nat) (v1 : Int32) (post : Int32 → Mm → Prop) (xp : String → Mm → Prop) : Prop := ((v1 = (1 : Int32) → w_X6_relation_B20 Y post xp k0 v1 I) ∧ (¬ v1 = (1 : Int32) → ((v1 = (2 : Int32) → w_X6_relation_B20 Y post xp k0 v1 I) ∧ (¬ v1 = (2 : Int32) → xp "java/lang/IllegalArgumentException" I))))
set_option maxHeartbeats 4000000 in
set_option maxRecDepth 100000 in
theorem c_X6_relation (l : Launch) (C : Cc) (Y : Ly) (A : Nat → Prop) (I : Mm) (k0 : Nat) (v1 : Int32) (post : Int32 → Mm → Prop) (xp : String → Mm → Prop) (hw : w_X6_relation Y I k0 v1 post xp) : ky_MX l yX6_relation cX6_relation 2 rm_X6_relation C Y A I [.ref (Y.2.1 k0), .int v1] post xp := by
  refine ky_metX (by decide) (Nat.le_of_ble_eq_true rfl) ?_
  intro p e s m args below meth c X hr hz
  have X : ky_X p s m args meth c C cX6_relation 2 RX6 := X
  show ky_G p l e rm_X6_relation s m args below meth c C Y A 2 (ky_XQ below (va_Qi post (ky_B C Y A) A) (ky_XC C Y A xp) args s A) 0 [(0, .ref (Y.2.1 k0)), (1, .int v1)] [] I
  refine kg_iload_n X 1 dX6_relation_0 rfl rfl ?_
  refine kg_iconst (v := (1 : Int32)) X dX6_relation_1 (by decide) ?_
  refine kg_icmp_eq (tgt := 20) X dX6_relation_2 (by decide) (fun h10 => ?_) (fun h10 => ?_)
  · have hw := hw.1 h10
    refine kg_sub [0, 1] rfl ?_
    exact s_X6_relation_B20 X hr hz post xp _ _ _ hw
  · have hw := hw.2 h10
    refine kg_iload_n X 1 dX6_relation_5 rfl rfl ?_
    refine kg_iconst (v := (2 : Int32)) X dX6_relation_6 (by decide) ?_
    refine kg_icmp_eq (tgt := 20) X dX6_relation_7 (by decide) (fun h9 => ?_) (fun h9 => ?_)
    · have hw := hw.1 h9
      refine kg_sub [0, 1] rfl ?_
      exact s_X6_relation_B20 X hr hz post xp _ _ _ hw
    · have hw := hw.2 h9
      exact kx_throw (is := 52) (text := "a relation has 1 or 2 places") X hz ke_50 (by decide) (by decide) dX6_relation_10 dX6_relation_13 dX6_relation_14 dX6_relation_16 dX6_relation_19 hw
end
abbrev rm_X6_mark : Room := { frames := 6, cells := 1, slots := 6, locals := 90 }
section
variable {p : Program} {l : Launch} {e : Env} {s : State} {m : MethodId} {args : Array Value} {below : List Frame} {meth : Method} {c : Code} {C : Cc} {Y : Ly} {A : Nat → Prop}
def w_X6_mark (Y : Ly) (I : Mm) (k0 : Nat) (v1 : Int32) (v2 : Int32) (v3 : Int32) (v4 : Int32) (post : Int32 → Mm → Prop) (xp : String → Mm → Prop) : Prop := (ky_is Y k0 6 ∧ w_X6_isRelation Y I k0 v1 (fun r2 I1 => ((r2 = 0 → xp "java/lang/IllegalArgumentException" I1) ∧ (¬ r2 = 0 → (ky_is Y (ky_rp Y k0 0) 12 ∧ (vp_in v1 (ky_ln Y (ky_rp Y k0 0)) ∧ (ky_is Y (ky_rp Y (ky_rp Y k0 0) v1.toNatClampNeg) 4 ∧ w_X4_canMark Y I1 (ky_rp Y (ky_rp Y k0 0) v1.toNatClampNeg) v2 v3 v4 (fun r7 I6 => ((¬ r7 = 0 → (∀ q9 : Nat, q9 = ky_rp Y (ky_rp Y k0 0) v1.toNatClampNeg → (ky_is Y q9 4 ∧ (((I6 q9 1) = (4 : Int32) → xp "java/lang/IllegalStateException" I6) ∧ (¬ (I6 q9 1) = (4 : Int32) → w_X4_hasMark Y I6 q9 v2 v3 v4 (fun r12 I11 => ((r12 = 0 → w_X4_addMark Y I11 q9 v2 v3 v4 (fun I13 => w_X6_startAfresh Y I13 k0 (fun I14 => post ((I14 q9 1) - (1 : Int32)) I14))) ∧ (¬ r12 = 0 → xp "java/lang/IllegalStateException" I11)))))))) ∧ (r7 = 0 → xp "java/lang/IllegalArgumentException" I6))))))))))
set_option maxHeartbeats 4000000 in
set_option maxRecDepth 100000 in
theorem c_X6_mark (l : Launch) (C : Cc) (Y : Ly) (A : Nat → Prop) (I : Mm) (k0 : Nat) (v1 : Int32) (v2 : Int32) (v3 : Int32) (v4 : Int32) (post : Int32 → Mm → Prop) (xp : String → Mm → Prop) (hw : w_X6_mark Y I k0 v1 v2 v3 v4 post xp) : ky_MX l yX6_mark cX6_mark 6 rm_X6_mark C Y A I [.ref (Y.2.1 k0), .int v1, .int v2, .int v3, .int v4] post xp := by
  refine ky_metX (by decide) (Nat.le_of_ble_eq_true rfl) ?_
  intro p e s m args below meth c X hr hz
  have X : ky_X p s m args meth c C cX6_mark 6 RX6 := X
  show ky_G p l e rm_X6_mark s m args below meth c C Y A 6 (ky_XQ below (va_Qi post (ky_B C Y A) A) (ky_XC C Y A xp) args s A) 0 [(0, .ref (Y.2.1 k0)), (1, .int v1), (2, .int v2), (3, .int v3), (4, .int v4)] [] I
  refine kg_aload_n X 0 dX6_mark_0 rfl rfl ?_
  refine kg_iload_n X 1 dX6_mark_1 rfl rfl ?_
  obtain ⟨h3, hw⟩ := hw
  refine kg_callVi (n := 1) (As := [.int v1]) X (c_X6_isRelation l C Y A I k0 v1 _ hw) kc_6 h3 rfl iv_X6_isRelation kw_403 (by decide +kernel) (by decide) rfl rfl (Nat.le_of_ble_eq_true rfl) dX6_mark_2 (fun r2 I1 hw => ?_)
  refine kg_if_eq (tgt := 24) X dX6_mark_5 (by decide) (fun h18 => ?_) (fun h18 => ?_)
  · have hw := hw.1 h18
    exact kx_throw (is := 79) (text := "no bound on the places of a relation") X hz ke_50 (by decide) (by decide) dX6_mark_24 dX6_mark_27 dX6_mark_28 dX6_mark_30 dX6_mark_33 hw
  · have hw := hw.2 h18
    refine kg_aload_n X 0 dX6_mark_8 rfl rfl ?_
    refine kg_getR (j := 0) X kc_6 h3 (by decide) (by decide) rfl kw_199 dX6_mark_9 ?_
    refine kg_iload_n X 1 dX6_mark_12 rfl rfl ?_
    obtain ⟨h4, hw⟩ := hw
    obtain ⟨h5, hw⟩ := hw
    refine kg_aald (kc := 12) X 4 rfl (by decide) h4 h5 dX6_mark_13 ?_
    refine kg_iload_n X 2 dX6_mark_14 rfl rfl ?_
    refine kg_iload_n X 3 dX6_mark_15 rfl rfl ?_
    refine kg_iload X 4 dX6_mark_16 rfl ?_
    obtain ⟨h8, hw⟩ := hw
    refine kg_callVi (n := 3) (As := [.int v2, .int v3, .int v4]) X (c_X4_canMark l C Y A I1 (ky_rp Y (ky_rp Y k0 0) v1.toNatClampNeg) v2 v3 v4 _ hw) kc_4 h8 rfl iv_X4_canMark kw_407 (by decide +kernel) (by decide) rfl rfl (Nat.le_of_ble_eq_true rfl) dX6_mark_18 (fun r7 I6 hw => ?_)
    refine kg_if_ne (tgt := 34) X dX6_mark_21 (by decide) (fun h17 => ?_) (fun h17 => ?_)
    · have hw := hw.1 h17
      refine kg_aload_n X 0 dX6_mark_34 rfl rfl ?_
      refine kg_getR (j := 0) X kc_6 h3 (by decide) (by decide) rfl kw_199 dX6_mark_35 ?_
      refine kg_iload_n X 1 dX6_mark_38 rfl rfl ?_
      refine kg_aald (kc := 12) X 4 rfl (by decide) h4 h5 dX6_mark_39 ?_
      refine kg_topr (fun q9 eq9 => ?_)
      have hw := hw q9 eq9
      refine kg_astore (lv' := [(5, .ref (Y.2.1 q9)), (0, .ref (Y.2.1 k0)), (1, .int v1), (2, .int v2), (3, .int v3), (4, .int v4)]) X dX6_mark_40 (by decide) rfl ?_
      refine kg_aload X 0 dX6_mark_42 rfl ?_
      obtain ⟨h10, hw⟩ := hw
      refine kg_getI (j := 1) X kc_4 h10 (by decide) (by decide) rfl kw_118 dX6_mark_44 ?_
      refine kg_iconst (v := (4 : Int32)) X dX6_mark_47 (by decide) ?_
      refine kg_icmp_eq (tgt := 63) X dX6_mark_48 (by decide) (fun h16 => ?_) (fun h16 => ?_)
      · have hw := hw.1 h16
        exact kx_throw (is := 87) (text := "the relation has 4 marks, or this one") X hz ke_60 (by decide) (by decide) dX6_mark_63 dX6_mark_66 dX6_mark_67 dX6_mark_69 dX6_mark_72 hw
      · have hw := hw.2 h16
        refine kg_aload X 0 dX6_mark_51 rfl ?_
        refine kg_iload_n X 3 dX6_mark_53 rfl rfl ?_
        refine kg_iload_n X 4 dX6_mark_54 rfl rfl ?_
        refine kg_iload X 5 dX6_mark_55 rfl ?_
        refine kg_callVi (n := 3) (As := [.int v2, .int v3, .int v4]) X (c_X4_hasMark l C Y A I6 q9 v2 v3 v4 _ hw) kc_4 h10 rfl iv_X4_hasMark kw_423 (by decide +kernel) (by decide) rfl rfl (Nat.le_of_ble_eq_true rfl) dX6_mark_57 (fun r12 I11 hw => ?_)
        refine kg_if_eq (tgt := 73) X dX6_mark_60 (by decide) (fun h15 => ?_) (fun h15 => ?_)
        · have hw := hw.1 h15
          refine kg_aload X 0 dX6_mark_73 rfl ?_
          refine kg_iload_n X 3 dX6_mark_75 rfl rfl ?_
          refine kg_iload_n X 4 dX6_mark_76 rfl rfl ?_
          refine kg_iload X 5 dX6_mark_77 rfl ?_
          refine kg_callVv (n := 3) (As := [.int v2, .int v3, .int v4]) X (c_X4_addMark l C Y A I11 q9 v2 v3 v4 _ hw) kc_4 h10 rfl iv_X4_addMark kw_428 (by decide +kernel) (by decide) rfl rfl (Nat.le_of_ble_eq_true rfl) dX6_mark_79 (fun I13 hw => ?_)
          refine kg_aload_n X 1 dX6_mark_82 rfl rfl ?_
          refine kg_callVv (n := 0) (As := []) X (c_X6_startAfresh l C Y A I13 k0 _ hw) kc_6 h3 rfl iv_X6_startAfresh kw_240 (by decide +kernel) (by decide) rfl rfl (Nat.le_of_ble_eq_true rfl) dX6_mark_83 (fun I14 hw => ?_)
          refine kg_aload X 0 dX6_mark_86 rfl ?_
          refine kg_getI (j := 1) X kc_4 h10 (by decide) (by decide) rfl kw_118 dX6_mark_88 ?_
          refine kg_iconst (v := (1 : Int32)) X dX6_mark_91 (by decide) ?_
          refine kg_isub X dX6_mark_92 ?_
          exact kx_iret X hr hw dX6_mark_93
        · have hw := hw.2 h15
          exact kx_throw (is := 87) (text := "the relation has 4 marks, or this one") X hz ke_60 (by decide) (by decide) dX6_mark_63 dX6_mark_66 dX6_mark_67 dX6_mark_69 dX6_mark_72 hw
    · have hw := hw.2 h17
      exact kx_throw (is := 79) (text := "no bound on the places of a relation") X hz ke_50 (by decide) (by decide) dX6_mark_24 dX6_mark_27 dX6_mark_28 dX6_mark_30 dX6_mark_33 hw
end
abbrev rm_X6_clause : Room := { frames := 6, cells := 1, slots := 6, locals := 90 }
section
variable {p : Program} {l : Launch} {e : Env} {s : State} {m : MethodId} {args : Array Value} {below : List Frame} {meth : Method} {c : Code} {C : Cc} {Y : Ly} {A : Nat → Prop}
def w_X6_clause_B25 (Y : Ly) (post : Int32 → Mm → Prop) (xp : String → Mm → Prop) (k0 : Nat) (v1 : Int32) (v2 : Int32) (v3 : Int32) (I : Mm) : Prop := (ky_is Y k0 6 ∧ ((¬ (I k0 3) = (12 : Int32) → (ky_is Y (ky_rp Y k0 2) 9 ∧ (vp_in (I k0 3) (ky_ln Y (ky_rp Y k0 2)) ∧ (ky_is Y (ky_rp Y (ky_rp Y k0 2) (I k0 3).toNatClampNeg) 1 ∧ w_X6_fill Y I k0 (ky_rp Y (ky_rp Y (ky_rp Y k0 2) (I k0 3).toNatClampNeg) 0) v1 v2 v3 (fun I5 => (∀ I6 : Mm, I6 = ky_up I5 k0 3 ((I5 k0 3) + (1 : Int32)) → w_X6_startAfresh Y I6 k0 (fun I7 => post ((I7 k0 3) - (1 : Int32)) I7))))))) ∧ ((I k0 3) = (12 : Int32) → xp "java/lang/IllegalStateException" I)))
set_option maxHeartbeats 4000000 in
set_option maxRecDepth 100000 in
theorem s_X6_clause_B25 (X : ky_X p s m args meth c C cX6_clause 4 RX6) (hr : meth.sig.returnType = some .int) (hz : ky_Y l A s c) (post : Int32 → Mm → Prop) (xp : String → Mm → Prop) (k0 : Nat) (v1 : Int32) (v2 : Int32) (v3 : Int32) (I : Mm) (hw : w_X6_clause_B25 Y post xp k0 v1 v2 v3 I) : ky_G p l e rm_X6_clause s m args below meth c C Y A 4 (ky_XQ below (va_Qi post (ky_B C Y A) A) (ky_XC C Y A xp) args s A) 25 [(0, .ref (Y.2.1 k0)), (1, .int v1), (2, .int v2), (3, .int v3)] [] I := by
  refine kg_aload_n X 0 dX6_clause_25 rfl rfl ?_
  obtain ⟨h1, hw⟩ := hw
  refine kg_getI (j := 3) X kc_6 h1 (by decide) (by decide) rfl kw_202 dX6_clause_26 ?_
  refine kg_bipush (v := (12 : Int32)) X dX6_clause_29 (by decide) ?_
  refine kg_icmp_ne (tgt := 44) X dX6_clause_31 (by decide) (fun h8 => ?_) (fun h8 => ?_)
  · have hw := hw.1 h8
    refine kg_aload_n X 0 dX6_clause_44 rfl rfl ?_
    refine kg_aload_n X 0 dX6_clause_45 rfl rfl ?_
    refine kg_getR (j := 2) X kc_6 h1 (by decide) (by decide) rfl kw_201 dX6_clause_46 ?_
    refine kg_aload_n X 0 dX6_clause_49 rfl rfl ?_
    refine kg_getI (j := 3) X kc_6 h1 (by decide) (by decide) rfl kw_202 dX6_clause_50 ?_
    obtain ⟨h2, hw⟩ := hw
    obtain ⟨h3, hw⟩ := hw
    refine kg_aald (kc := 9) X 1 rfl (by decide) h2 h3 dX6_clause_53 ?_
    obtain ⟨h4, hw⟩ := hw
    refine kg_getR (j := 0) X kc_1 h4 (by decide) (by decide) rfl kw_179 dX6_clause_54 ?_
    refine kg_iload_n X 1 dX6_clause_57 rfl rfl ?_
    refine kg_iload_n X 2 dX6_clause_58 rfl rfl ?_
    refine kg_iload_n X 3 dX6_clause_59 rfl rfl ?_
    refine kg_callVv (n := 4) (As := [.ref (Y.2.1 (ky_rp Y (ky_rp Y (ky_rp Y k0 2) (I k0 3).toNatClampNeg) 0)), .int v1, .int v2, .int v3]) X (c_X6_fill l C Y A I k0 (ky_rp Y (ky_rp Y (ky_rp Y k0 2) (I k0 3).toNatClampNeg) 0) v1 v2 v3 _ hw) kc_6 h1 rfl iv_X6_fill kw_448 (by decide +kernel) (by decide) rfl rfl (Nat.le_of_ble_eq_true rfl) dX6_clause_60 (fun I5 hw => ?_)
    refine kg_aload_n X 0 dX6_clause_63 rfl rfl ?_
    refine kg_dup X dX6_clause_64 rfl ?_
    refine kg_getI (j := 3) X kc_6 h1 (by decide) (by decide) rfl kw_202 dX6_clause_65 ?_
    refine kg_iconst (v := (1 : Int32)) X dX6_clause_68 (by decide) ?_
    refine kg_iadd X dX6_clause_69 ?_
    refine kg_putI (ci := 6) (Tn := TX6) (j := 3) (ty := .int) X tyX6 tyX6_ok nmX6 kc_6 h1 (by decide) (by decide) rfl kw_202 (by decide +kernel) rfl rfl dX6_clause_70 ?_
    refine kg_topm (fun I6 eI6 => ?_)
    have hw := hw I6 eI6
    refine kg_aload_n X 0 dX6_clause_73 rfl rfl ?_
    refine kg_callVv (n := 0) (As := []) X (c_X6_startAfresh l C Y A I6 k0 _ hw) kc_6 h1 rfl iv_X6_startAfresh kw_240 (by decide +kernel) (by decide) rfl rfl (Nat.le_of_ble_eq_true rfl) dX6_clause_74 (fun I7 hw => ?_)
    refine kg_aload_n X 0 dX6_clause_77 rfl rfl ?_
    refine kg_getI (j := 3) X kc_6 h1 (by decide) (by decide) rfl kw_202 dX6_clause_78 ?_
    refine kg_iconst (v := (1 : Int32)) X dX6_clause_81 (by decide) ?_
    refine kg_isub X dX6_clause_82 ?_
    exact kx_iret X hr hw dX6_clause_83
  · have hw := hw.2 h8
    exact kx_throw (is := 101) (text := "there are 12 clauses") X hz ke_60 (by decide) (by decide) dX6_clause_34 dX6_clause_37 dX6_clause_38 dX6_clause_40 dX6_clause_43 hw
def w_X6_clause (Y : Ly) (I : Mm) (k0 : Nat) (v1 : Int32) (v2 : Int32) (v3 : Int32) (post : Int32 → Mm → Prop) (xp : String → Mm → Prop) : Prop := ((v1 = (-1 : Int32) → w_X6_clause_B25 Y post xp k0 v1 v2 v3 I) ∧ (¬ v1 = (-1 : Int32) → (ky_is Y k0 6 ∧ w_X6_isLiteral Y I k0 v1 v2 v3 (fun r10 I9 => ((¬ r10 = 0 → w_X6_clause_B25 Y post xp k0 v1 v2 v3 I9) ∧ (r10 = 0 → xp "java/lang/IllegalArgumentException" I9))))))
set_option maxHeartbeats 4000000 in
set_option maxRecDepth 100000 in
theorem c_X6_clause (l : Launch) (C : Cc) (Y : Ly) (A : Nat → Prop) (I : Mm) (k0 : Nat) (v1 : Int32) (v2 : Int32) (v3 : Int32) (post : Int32 → Mm → Prop) (xp : String → Mm → Prop) (hw : w_X6_clause Y I k0 v1 v2 v3 post xp) : ky_MX l yX6_clause cX6_clause 4 rm_X6_clause C Y A I [.ref (Y.2.1 k0), .int v1, .int v2, .int v3] post xp := by
  refine ky_metX (by decide) (Nat.le_of_ble_eq_true rfl) ?_
  intro p e s m args below meth c X hr hz
  have X : ky_X p s m args meth c C cX6_clause 4 RX6 := X
  show ky_G p l e rm_X6_clause s m args below meth c C Y A 4 (ky_XQ below (va_Qi post (ky_B C Y A) A) (ky_XC C Y A xp) args s A) 0 [(0, .ref (Y.2.1 k0)), (1, .int v1), (2, .int v2), (3, .int v3)] [] I
  refine kg_iload_n X 1 dX6_clause_0 rfl rfl ?_
  refine kg_iconst (v := (-1 : Int32)) X dX6_clause_1 (by decide) ?_
  refine kg_icmp_eq (tgt := 25) X dX6_clause_2 (by decide) (fun h13 => ?_) (fun h13 => ?_)
  · have hw := hw.1 h13
    refine kg_sub [0, 1, 2, 3] rfl ?_
    exact s_X6_clause_B25 X hr hz post xp _ _ _ _ _ hw
  · have hw := hw.2 h13
    refine kg_aload_n X 0 dX6_clause_5 rfl rfl ?_
    refine kg_iload_n X 1 dX6_clause_6 rfl rfl ?_
    refine kg_iload_n X 2 dX6_clause_7 rfl rfl ?_
    refine kg_iload_n X 3 dX6_clause_8 rfl rfl ?_
    obtain ⟨h11, hw⟩ := hw
    refine kg_callVi (n := 3) (As := [.int v1, .int v2, .int v3]) X (c_X6_isLiteral l C Y A I k0 v1 v2 v3 _ hw) kc_6 h11 rfl iv_X6_isLiteral kw_439 (by decide +kernel) (by decide) rfl rfl (Nat.le_of_ble_eq_true rfl) dX6_clause_9 (fun r10 I9 hw => ?_)
    refine kg_if_ne (tgt := 25) X dX6_clause_12 (by decide) (fun h12 => ?_) (fun h12 => ?_)
    · have hw := hw.1 h12
      refine kg_sub [0, 1, 2, 3] rfl ?_
      exact s_X6_clause_B25 X hr hz post xp _ _ _ _ _ hw
    · have hw := hw.2 h12
      exact kx_throw (is := 96) (text := "no relation with its variables") X hz ke_50 (by decide) (by decide) dX6_clause_15 dX6_clause_18 dX6_clause_19 dX6_clause_21 dX6_clause_24 hw
end
abbrev rm_X6_atom : Room := { frames := 6, cells := 1, slots := 6, locals := 90 }
section
variable {p : Program} {l : Launch} {e : Env} {s : State} {m : MethodId} {args : Array Value} {below : List Frame} {meth : Method} {c : Code} {C : Cc} {Y : Ly} {A : Nat → Prop}
def w_X6_atom (Y : Ly) (I : Mm) (k0 : Nat) (v1 : Int32) (v2 : Int32) (v3 : Int32) (post : Int32 → Mm → Prop) (xp : String → Mm → Prop) : Prop := (ky_is Y k0 6 ∧ w_X6_isLiteral Y I k0 v1 v2 v3 (fun r2 I1 => ((¬ r2 = 0 → (((I1 k0 3) = 0 → xp "java/lang/IllegalStateException" I1) ∧ (¬ (I1 k0 3) = 0 → (ky_is Y (ky_rp Y k0 2) 9 ∧ (vp_in ((I1 k0 3) - (1 : Int32)) (ky_ln Y (ky_rp Y k0 2)) ∧ (ky_is Y (ky_rp Y (ky_rp Y k0 2) ((I1 k0 3) - (1 : Int32)).toNatClampNeg) 1 ∧ ((¬ (I1 (ky_rp Y (ky_rp Y k0 2) ((I1 k0 3) - (1 : Int32)).toNatClampNeg) 2) = (2 : Int32) → (∀ q7 : Nat, q7 = ky_rp Y (ky_rp Y k0 2) ((I1 k0 3) - (1 : Int32)).toNatClampNeg → (ky_is Y q7 1 ∧ (ky_is Y (ky_rp Y q7 1) 10 ∧ (vp_in (I1 q7 2) (ky_ln Y (ky_rp Y q7 1)) ∧ w_X6_fill Y I1 k0 (ky_rp Y (ky_rp Y q7 1) (I1 q7 2).toNatClampNeg) v1 v2 v3 (fun I11 => (∀ I12 : Mm, I12 = ky_up I11 q7 2 ((I11 q7 2) + (1 : Int32)) → w_X6_startAfresh Y I12 k0 (fun I13 => post ((I13 q7 2) - (1 : Int32)) I13)))))))) ∧ ((I1 (ky_rp Y (ky_rp Y k0 2) ((I1 k0 3) - (1 : Int32)).toNatClampNeg) 2) = (2 : Int32) → xp "java/lang/IllegalStateException" I1)))))))) ∧ (r2 = 0 → xp "java/lang/IllegalArgumentException" I1))))
set_option maxHeartbeats 4000000 in
set_option maxRecDepth 100000 in
theorem c_X6_atom (l : Launch) (C : Cc) (Y : Ly) (A : Nat → Prop) (I : Mm) (k0 : Nat) (v1 : Int32) (v2 : Int32) (v3 : Int32) (post : Int32 → Mm → Prop) (xp : String → Mm → Prop) (hw : w_X6_atom Y I k0 v1 v2 v3 post xp) : ky_MX l yX6_atom cX6_atom 5 rm_X6_atom C Y A I [.ref (Y.2.1 k0), .int v1, .int v2, .int v3] post xp := by
  refine ky_metX (by decide) (Nat.le_of_ble_eq_true rfl) ?_
  intro p e s m args below meth c X hr hz
  have X : ky_X p s m args meth c C cX6_atom 5 RX6 := X
  show ky_G p l e rm_X6_atom s m args below meth c C Y A 5 (ky_XQ below (va_Qi post (ky_B C Y A) A) (ky_XC C Y A xp) args s A) 0 [(0, .ref (Y.2.1 k0)), (1, .int v1), (2, .int v2), (3, .int v3)] [] I
  refine kg_aload_n X 0 dX6_atom_0 rfl rfl ?_
  refine kg_iload_n X 1 dX6_atom_1 rfl rfl ?_
  refine kg_iload_n X 2 dX6_atom_2 rfl rfl ?_
  refine kg_iload_n X 3 dX6_atom_3 rfl rfl ?_
  obtain ⟨h3, hw⟩ := hw
  refine kg_callVi (n := 3) (As := [.int v1, .int v2, .int v3]) X (c_X6_isLiteral l C Y A I k0 v1 v2 v3 _ hw) kc_6 h3 rfl iv_X6_isLiteral kw_439 (by decide +kernel) (by decide) rfl rfl (Nat.le_of_ble_eq_true rfl) dX6_atom_4 (fun r2 I1 hw => ?_)
  refine kg_if_ne (tgt := 20) X dX6_atom_7 (by decide) (fun h16 => ?_) (fun h16 => ?_)
  · have hw := hw.1 h16
    refine kg_aload_n X 0 dX6_atom_20 rfl rfl ?_
    refine kg_getI (j := 3) X kc_6 h3 (by decide) (by decide) rfl kw_202 dX6_atom_21 ?_
    refine kg_if_eq (tgt := 45) X dX6_atom_24 (by decide) (fun h15 => ?_) (fun h15 => ?_)
    · have hw := hw.1 h15
      exact kx_throw (is := 114) (text := "there is no clause, or it has 2 atoms") X hz ke_60 (by decide) (by decide) dX6_atom_45 dX6_atom_48 dX6_atom_49 dX6_atom_51 dX6_atom_54 hw
    · have hw := hw.2 h15
      refine kg_aload_n X 0 dX6_atom_27 rfl rfl ?_
      refine kg_getR (j := 2) X kc_6 h3 (by decide) (by decide) rfl kw_201 dX6_atom_28 ?_
      refine kg_aload_n X 0 dX6_atom_31 rfl rfl ?_
      refine kg_getI (j := 3) X kc_6 h3 (by decide) (by decide) rfl kw_202 dX6_atom_32 ?_
      refine kg_iconst (v := (1 : Int32)) X dX6_atom_35 (by decide) ?_
      refine kg_isub X dX6_atom_36 ?_
      obtain ⟨h4, hw⟩ := hw
      obtain ⟨h5, hw⟩ := hw
      refine kg_aald (kc := 9) X 1 rfl (by decide) h4 h5 dX6_atom_37 ?_
      obtain ⟨h6, hw⟩ := hw
      refine kg_getI (j := 2) X kc_1 h6 (by decide) (by decide) rfl kw_184 dX6_atom_38 ?_
      refine kg_iconst (v := (2 : Int32)) X dX6_atom_41 (by decide) ?_
      refine kg_icmp_ne (tgt := 55) X dX6_atom_42 (by decide) (fun h14 => ?_) (fun h14 => ?_)
      · have hw := hw.1 h14
        refine kg_aload_n X 0 dX6_atom_55 rfl rfl ?_
        refine kg_getR (j := 2) X kc_6 h3 (by decide) (by decide) rfl kw_201 dX6_atom_56 ?_
        refine kg_aload_n X 0 dX6_atom_59 rfl rfl ?_
        refine kg_getI (j := 3) X kc_6 h3 (by decide) (by decide) rfl kw_202 dX6_atom_60 ?_
        refine kg_iconst (v := (1 : Int32)) X dX6_atom_63 (by decide) ?_
        refine kg_isub X dX6_atom_64 ?_
        refine kg_aald (kc := 9) X 1 rfl (by decide) h4 h5 dX6_atom_65 ?_
        refine kg_topr (fun q7 eq7 => ?_)
        have hw := hw q7 eq7
        refine kg_astore (lv' := [(4, .ref (Y.2.1 q7)), (0, .ref (Y.2.1 k0)), (1, .int v1), (2, .int v2), (3, .int v3)]) X dX6_atom_66 (by decide) rfl ?_
        refine kg_aload_n X 1 dX6_atom_68 rfl rfl ?_
        refine kg_aload X 0 dX6_atom_69 rfl ?_
        obtain ⟨h8, hw⟩ := hw
        refine kg_getR (j := 1) X kc_1 h8 (by decide) (by decide) rfl kw_181 dX6_atom_71 ?_
        refine kg_aload X 0 dX6_atom_74 rfl ?_
        refine kg_getI (j := 2) X kc_1 h8 (by decide) (by decide) rfl kw_184 dX6_atom_76 ?_
        obtain ⟨h9, hw⟩ := hw
        obtain ⟨h10, hw⟩ := hw
        refine kg_aald (kc := 10) X 2 rfl (by decide) h9 h10 dX6_atom_79 ?_
        refine kg_iload_n X 2 dX6_atom_80 rfl rfl ?_
        refine kg_iload_n X 3 dX6_atom_81 rfl rfl ?_
        refine kg_iload_n X 4 dX6_atom_82 rfl rfl ?_
        refine kg_callVv (n := 4) (As := [.ref (Y.2.1 (ky_rp Y (ky_rp Y q7 1) (I1 q7 2).toNatClampNeg)), .int v1, .int v2, .int v3]) X (c_X6_fill l C Y A I1 k0 (ky_rp Y (ky_rp Y q7 1) (I1 q7 2).toNatClampNeg) v1 v2 v3 _ hw) kc_6 h3 rfl iv_X6_fill kw_448 (by decide +kernel) (by decide) rfl rfl (Nat.le_of_ble_eq_true rfl) dX6_atom_83 (fun I11 hw => ?_)
        refine kg_aload X 0 dX6_atom_86 rfl ?_
        refine kg_dup X dX6_atom_88 rfl ?_
        refine kg_getI (j := 2) X kc_1 h8 (by decide) (by decide) rfl kw_184 dX6_atom_89 ?_
        refine kg_iconst (v := (1 : Int32)) X dX6_atom_92 (by decide) ?_
        refine kg_iadd X dX6_atom_93 ?_
        refine kg_putI (ci := 1) (Tn := TX1) (j := 2) (ty := .int) X tyX1 tyX1_ok nmX1 kc_1 h8 (by decide) (by decide) rfl kw_184 (by decide +kernel) rfl rfl dX6_atom_94 ?_
        refine kg_topm (fun I12 eI12 => ?_)
        have hw := hw I12 eI12
        refine kg_aload_n X 1 dX6_atom_97 rfl rfl ?_
        refine kg_callVv (n := 0) (As := []) X (c_X6_startAfresh l C Y A I12 k0 _ hw) kc_6 h3 rfl iv_X6_startAfresh kw_240 (by decide +kernel) (by decide) rfl rfl (Nat.le_of_ble_eq_true rfl) dX6_atom_98 (fun I13 hw => ?_)
        refine kg_aload X 0 dX6_atom_101 rfl ?_
        refine kg_getI (j := 2) X kc_1 h8 (by decide) (by decide) rfl kw_184 dX6_atom_103 ?_
        refine kg_iconst (v := (1 : Int32)) X dX6_atom_106 (by decide) ?_
        refine kg_isub X dX6_atom_107 ?_
        exact kx_iret X hr hw dX6_atom_108
      · have hw := hw.2 h14
        exact kx_throw (is := 114) (text := "there is no clause, or it has 2 atoms") X hz ke_60 (by decide) (by decide) dX6_atom_45 dX6_atom_48 dX6_atom_49 dX6_atom_51 dX6_atom_54 hw
  · have hw := hw.2 h16
    exact kx_throw (is := 96) (text := "no relation with its variables") X hz ke_50 (by decide) (by decide) dX6_atom_10 dX6_atom_13 dX6_atom_14 dX6_atom_16 dX6_atom_19 hw
end
abbrev rm_X6_bound : Room := { frames := 6, cells := 1, slots := 6, locals := 90 }
section
variable {p : Program} {l : Launch} {e : Env} {s : State} {m : MethodId} {args : Array Value} {below : List Frame} {meth : Method} {c : Code} {C : Cc} {Y : Ly} {A : Nat → Prop}
def w_X6_bound (Y : Ly) (I : Mm) (k0 : Nat) (v1 : Int32) (v2 : Int32) (v3 : Int32) (post : Int32 → Mm → Prop) (xp : String → Mm → Prop) : Prop := w_X6_areTwoPoints Y I v1 v2 (fun r2 I1 => ((r2 = 0 → xp "java/lang/IllegalArgumentException" I1) ∧ (¬ r2 = 0 → w_X6_isLimit Y I1 v3 (fun r4 I3 => ((¬ r4 = 0 → (ky_is Y k0 6 ∧ (((I3 k0 3) = 0 → xp "java/lang/IllegalStateException" I3) ∧ (¬ (I3 k0 3) = 0 → (ky_is Y (ky_rp Y k0 2) 9 ∧ (vp_in ((I3 k0 3) - (1 : Int32)) (ky_ln Y (ky_rp Y k0 2)) ∧ (ky_is Y (ky_rp Y (ky_rp Y k0 2) ((I3 k0 3) - (1 : Int32)).toNatClampNeg) 1 ∧ ((¬ (I3 (ky_rp Y (ky_rp Y k0 2) ((I3 k0 3) - (1 : Int32)).toNatClampNeg) 4) = (8 : Int32) → (∀ q9 : Nat, q9 = ky_rp Y (ky_rp Y k0 2) ((I3 k0 3) - (1 : Int32)).toNatClampNeg → (ky_is Y q9 1 ∧ (ky_is Y (ky_rp Y q9 3) 0 ∧ w_X0_add Y I3 (ky_rp Y q9 3) v1 v2 v3 (fun I11 => (∀ I13 : Mm, I13 = ky_up I11 q9 4 ((I11 q9 4) + (1 : Int32)) → w_X6_startAfresh Y I13 k0 (fun I14 => post (I14 q9 4) I14))))))) ∧ ((I3 (ky_rp Y (ky_rp Y k0 2) ((I3 k0 3) - (1 : Int32)).toNatClampNeg) 4) = (8 : Int32) → xp "java/lang/IllegalStateException" I3))))))))) ∧ (r4 = 0 → xp "java/lang/IllegalArgumentException" I3))))))
set_option maxHeartbeats 4000000 in
set_option maxRecDepth 100000 in
theorem c_X6_bound (l : Launch) (C : Cc) (Y : Ly) (A : Nat → Prop) (I : Mm) (k0 : Nat) (v1 : Int32) (v2 : Int32) (v3 : Int32) (post : Int32 → Mm → Prop) (xp : String → Mm → Prop) (hw : w_X6_bound Y I k0 v1 v2 v3 post xp) : ky_MX l yX6_bound cX6_bound 5 rm_X6_bound C Y A I [.ref (Y.2.1 k0), .int v1, .int v2, .int v3] post xp := by
  refine ky_metX (by decide) (Nat.le_of_ble_eq_true rfl) ?_
  intro p e s m args below meth c X hr hz
  have X : ky_X p s m args meth c C cX6_bound 5 RX6 := X
  show ky_G p l e rm_X6_bound s m args below meth c C Y A 5 (ky_XQ below (va_Qi post (ky_B C Y A) A) (ky_XC C Y A xp) args s A) 0 [(0, .ref (Y.2.1 k0)), (1, .int v1), (2, .int v2), (3, .int v3)] [] I
  refine kg_iload_n X 1 dX6_bound_0 rfl rfl ?_
  refine kg_iload_n X 2 dX6_bound_1 rfl rfl ?_
  refine kg_callSi (n := 2) (As := [.int v1, .int v2]) X (c_X6_areTwoPoints l C Y A I v1 v2 _ hw) rfl is_X6_areTwoPoints kw_467 (by decide +kernel) (by decide) rfl rfl (Nat.le_of_ble_eq_true rfl) dX6_bound_2 (fun r2 I1 hw => ?_)
  refine kg_if_eq (tgt := 15) X dX6_bound_5 (by decide) (fun h18 => ?_) (fun h18 => ?_)
  · have hw := hw.1 h18
    exact kx_throw (is := 127) (text := "no bound on variables and ZERO") X hz ke_50 (by decide) (by decide) dX6_bound_15 dX6_bound_18 dX6_bound_19 dX6_bound_21 dX6_bound_24 hw
  · have hw := hw.2 h18
    refine kg_iload_n X 3 dX6_bound_8 rfl rfl ?_
    refine kg_callSi (n := 1) (As := [.int v3]) X (c_X6_isLimit l C Y A I1 v3 _ hw) rfl is_X6_isLimit kw_470 (by decide +kernel) (by decide) rfl rfl (Nat.le_of_ble_eq_true rfl) dX6_bound_9 (fun r4 I3 hw => ?_)
    refine kg_if_ne (tgt := 25) X dX6_bound_12 (by decide) (fun h17 => ?_) (fun h17 => ?_)
    · have hw := hw.1 h17
      refine kg_aload_n X 0 dX6_bound_25 rfl rfl ?_
      obtain ⟨h5, hw⟩ := hw
      refine kg_getI (j := 3) X kc_6 h5 (by decide) (by decide) rfl kw_202 dX6_bound_26 ?_
      refine kg_if_eq (tgt := 51) X dX6_bound_29 (by decide) (fun h16 => ?_) (fun h16 => ?_)
      · have hw := hw.1 h16
        exact kx_throw (is := 132) (text := "there is no clause, or it has 8 bounds") X hz ke_60 (by decide) (by decide) dX6_bound_51 dX6_bound_54 dX6_bound_55 dX6_bound_57 dX6_bound_60 hw
      · have hw := hw.2 h16
        refine kg_aload_n X 0 dX6_bound_32 rfl rfl ?_
        refine kg_getR (j := 2) X kc_6 h5 (by decide) (by decide) rfl kw_201 dX6_bound_33 ?_
        refine kg_aload_n X 0 dX6_bound_36 rfl rfl ?_
        refine kg_getI (j := 3) X kc_6 h5 (by decide) (by decide) rfl kw_202 dX6_bound_37 ?_
        refine kg_iconst (v := (1 : Int32)) X dX6_bound_40 (by decide) ?_
        refine kg_isub X dX6_bound_41 ?_
        obtain ⟨h6, hw⟩ := hw
        obtain ⟨h7, hw⟩ := hw
        refine kg_aald (kc := 9) X 1 rfl (by decide) h6 h7 dX6_bound_42 ?_
        obtain ⟨h8, hw⟩ := hw
        refine kg_getI (j := 4) X kc_1 h8 (by decide) (by decide) rfl kw_187 dX6_bound_43 ?_
        refine kg_bipush (v := (8 : Int32)) X dX6_bound_46 (by decide) ?_
        refine kg_icmp_ne (tgt := 61) X dX6_bound_48 (by decide) (fun h15 => ?_) (fun h15 => ?_)
        · have hw := hw.1 h15
          refine kg_aload_n X 0 dX6_bound_61 rfl rfl ?_
          refine kg_getR (j := 2) X kc_6 h5 (by decide) (by decide) rfl kw_201 dX6_bound_62 ?_
          refine kg_aload_n X 0 dX6_bound_65 rfl rfl ?_
          refine kg_getI (j := 3) X kc_6 h5 (by decide) (by decide) rfl kw_202 dX6_bound_66 ?_
          refine kg_iconst (v := (1 : Int32)) X dX6_bound_69 (by decide) ?_
          refine kg_isub X dX6_bound_70 ?_
          refine kg_aald (kc := 9) X 1 rfl (by decide) h6 h7 dX6_bound_71 ?_
          refine kg_topr (fun q9 eq9 => ?_)
          have hw := hw q9 eq9
          refine kg_astore (lv' := [(4, .ref (Y.2.1 q9)), (0, .ref (Y.2.1 k0)), (1, .int v1), (2, .int v2), (3, .int v3)]) X dX6_bound_72 (by decide) rfl ?_
          refine kg_aload X 0 dX6_bound_74 rfl ?_
          obtain ⟨h10, hw⟩ := hw
          refine kg_getR (j := 3) X kc_1 h10 (by decide) (by decide) rfl kw_186 dX6_bound_76 ?_
          refine kg_iload_n X 2 dX6_bound_79 rfl rfl ?_
          refine kg_iload_n X 3 dX6_bound_80 rfl rfl ?_
          refine kg_iload_n X 4 dX6_bound_81 rfl rfl ?_
          obtain ⟨h12, hw⟩ := hw
          refine kg_callVv (n := 3) (As := [.int v1, .int v2, .int v3]) X (c_X0_add l C Y A I3 (ky_rp Y q9 3) v1 v2 v3 _ hw) kc_0 h12 rfl iv_X0_add kw_473 (by decide +kernel) (by decide) rfl rfl (Nat.le_of_ble_eq_true rfl) dX6_bound_82 (fun I11 hw => ?_)
          refine kg_aload X 0 dX6_bound_85 rfl ?_
          refine kg_dup X dX6_bound_87 rfl ?_
          refine kg_getI (j := 4) X kc_1 h10 (by decide) (by decide) rfl kw_187 dX6_bound_88 ?_
          refine kg_iconst (v := (1 : Int32)) X dX6_bound_91 (by decide) ?_
          refine kg_iadd X dX6_bound_92 ?_
          refine kg_putI (ci := 1) (Tn := TX1) (j := 4) (ty := .int) X tyX1 tyX1_ok nmX1 kc_1 h10 (by decide) (by decide) rfl kw_187 (by decide +kernel) rfl rfl dX6_bound_93 ?_
          refine kg_topm (fun I13 eI13 => ?_)
          have hw := hw I13 eI13
          refine kg_aload_n X 1 dX6_bound_96 rfl rfl ?_
          refine kg_callVv (n := 0) (As := []) X (c_X6_startAfresh l C Y A I13 k0 _ hw) kc_6 h5 rfl iv_X6_startAfresh kw_240 (by decide +kernel) (by decide) rfl rfl (Nat.le_of_ble_eq_true rfl) dX6_bound_97 (fun I14 hw => ?_)
          refine kg_aload X 0 dX6_bound_100 rfl ?_
          refine kg_getI (j := 4) X kc_1 h10 (by decide) (by decide) rfl kw_187 dX6_bound_102 ?_
          exact kx_iret X hr hw dX6_bound_105
        · have hw := hw.2 h15
          exact kx_throw (is := 132) (text := "there is no clause, or it has 8 bounds") X hz ke_60 (by decide) (by decide) dX6_bound_51 dX6_bound_54 dX6_bound_55 dX6_bound_57 dX6_bound_60 hw
    · have hw := hw.2 h17
      exact kx_throw (is := 127) (text := "no bound on variables and ZERO") X hz ke_50 (by decide) (by decide) dX6_bound_15 dX6_bound_18 dX6_bound_19 dX6_bound_21 dX6_bound_24 hw
end
abbrev rm_X6_round : Room := { frames := 6, cells := 1, slots := 6, locals := 181 }
section
variable {p : Program} {l : Launch} {e : Env} {s : State} {m : MethodId} {args : Array Value} {below : List Frame} {meth : Method} {c : Code} {C : Cc} {Y : Ly} {A : Nat → Prop}
def w_X6_round (Y : Ly) (I : Mm) (k0 : Nat) (post : Int32 → Mm → Prop) (xp : String → Mm → Prop) : Prop := (ky_is Y k0 6 ∧ ((¬ (I k0 5) = 0 → xp "java/lang/IllegalStateException" I) ∧ ((I k0 5) = 0 → (((I k0 6) = (-1 : Int32) → w_X6_makeRound Y I k0 (fun r3 I2 => post r3 I2)) ∧ (¬ (I k0 6) = (-1 : Int32) → xp "java/lang/IllegalStateException" I)))))
set_option maxHeartbeats 4000000 in
set_option maxRecDepth 100000 in
theorem c_X6_round (l : Launch) (C : Cc) (Y : Ly) (A : Nat → Prop) (I : Mm) (k0 : Nat) (post : Int32 → Mm → Prop) (xp : String → Mm → Prop) (hw : w_X6_round Y I k0 post xp) : ky_MX l yX6_round cX6_round 1 rm_X6_round C Y A I [.ref (Y.2.1 k0)] post xp := by
  refine ky_metX (by decide) (Nat.le_of_ble_eq_true rfl) ?_
  intro p e s m args below meth c X hr hz
  have X : ky_X p s m args meth c C cX6_round 1 RX6 := X
  show ky_G p l e rm_X6_round s m args below meth c C Y A 1 (ky_XQ below (va_Qi post (ky_B C Y A) A) (ky_XC C Y A xp) args s A) 0 [(0, .ref (Y.2.1 k0))] [] I
  refine kg_aload_n X 0 dX6_round_0 rfl rfl ?_
  obtain ⟨h1, hw⟩ := hw
  refine kg_getI (j := 5) X kc_6 h1 (by decide) (by decide) rfl kw_204 dX6_round_1 ?_
  refine kg_if_ne (tgt := 15) X dX6_round_4 (by decide) (fun h5 => ?_) (fun h5 => ?_)
  · have hw := hw.1 h5
    exact kx_throw (is := 140) (text := "there is a verdict or an alarm") X hz ke_60 (by decide) (by decide) dX6_round_15 dX6_round_18 dX6_round_19 dX6_round_21 dX6_round_24 hw
  · have hw := hw.2 h5
    refine kg_aload_n X 0 dX6_round_7 rfl rfl ?_
    refine kg_getI (j := 6) X kc_6 h1 (by decide) (by decide) rfl kw_205 dX6_round_8 ?_
    refine kg_iconst (v := (-1 : Int32)) X dX6_round_11 (by decide) ?_
    refine kg_icmp_eq (tgt := 25) X dX6_round_12 (by decide) (fun h4 => ?_) (fun h4 => ?_)
    · have hw := hw.1 h4
      refine kg_aload_n X 0 dX6_round_25 rfl rfl ?_
      refine kg_callVi (n := 0) (As := []) X (c_X6_makeRound l C Y A I k0 _ hw) kc_6 h1 rfl iv_X6_makeRound kw_482 (by decide +kernel) (by decide) rfl rfl (Nat.le_of_ble_eq_true rfl) dX6_round_26 (fun r3 I2 hw => ?_)
      exact kx_iret X hr hw dX6_round_29
    · have hw := hw.2 h4
      exact kx_throw (is := 140) (text := "there is a verdict or an alarm") X hz ke_60 (by decide) (by decide) dX6_round_15 dX6_round_18 dX6_round_19 dX6_round_21 dX6_round_24 hw
end
abbrev rm_X6_refine : Room := { frames := 6, cells := 1, slots := 6, locals := 125 }
section
variable {p : Program} {l : Launch} {e : Env} {s : State} {m : MethodId} {args : Array Value} {below : List Frame} {meth : Method} {c : Code} {C : Cc} {Y : Ly} {A : Nat → Prop}
def w_X6_refine (Y : Ly) (I : Mm) (k0 : Nat) (post : Int32 → Mm → Prop) (xp : String → Mm → Prop) : Prop := (ky_is Y k0 6 ∧ ((¬ (I k0 5) = 0 → xp "java/lang/IllegalStateException" I) ∧ ((I k0 5) = 0 → ((¬ (I k0 6) = (-1 : Int32) → w_X6_refineAlarm Y I k0 (fun r3 I2 => post r3 I2)) ∧ ((I k0 6) = (-1 : Int32) → xp "java/lang/IllegalStateException" I)))))
set_option maxHeartbeats 4000000 in
set_option maxRecDepth 100000 in
theorem c_X6_refine (l : Launch) (C : Cc) (Y : Ly) (A : Nat → Prop) (I : Mm) (k0 : Nat) (post : Int32 → Mm → Prop) (xp : String → Mm → Prop) (hw : w_X6_refine Y I k0 post xp) : ky_MX l yX6_refine cX6_refine 1 rm_X6_refine C Y A I [.ref (Y.2.1 k0)] post xp := by
  refine ky_metX (by decide) (Nat.le_of_ble_eq_true rfl) ?_
  intro p e s m args below meth c X hr hz
  have X : ky_X p s m args meth c C cX6_refine 1 RX6 := X
  show ky_G p l e rm_X6_refine s m args below meth c C Y A 1 (ky_XQ below (va_Qi post (ky_B C Y A) A) (ky_XC C Y A xp) args s A) 0 [(0, .ref (Y.2.1 k0))] [] I
  refine kg_aload_n X 0 dX6_refine_0 rfl rfl ?_
  obtain ⟨h1, hw⟩ := hw
  refine kg_getI (j := 5) X kc_6 h1 (by decide) (by decide) rfl kw_204 dX6_refine_1 ?_
  refine kg_if_ne (tgt := 15) X dX6_refine_4 (by decide) (fun h5 => ?_) (fun h5 => ?_)
  · have hw := hw.1 h5
    exact kx_throw (is := 146) (text := "there is no alarm, or a verdict") X hz ke_60 (by decide) (by decide) dX6_refine_15 dX6_refine_18 dX6_refine_19 dX6_refine_21 dX6_refine_24 hw
  · have hw := hw.2 h5
    refine kg_aload_n X 0 dX6_refine_7 rfl rfl ?_
    refine kg_getI (j := 6) X kc_6 h1 (by decide) (by decide) rfl kw_205 dX6_refine_8 ?_
    refine kg_iconst (v := (-1 : Int32)) X dX6_refine_11 (by decide) ?_
    refine kg_icmp_ne (tgt := 25) X dX6_refine_12 (by decide) (fun h4 => ?_) (fun h4 => ?_)
    · have hw := hw.1 h4
      refine kg_aload_n X 0 dX6_refine_25 rfl rfl ?_
      refine kg_callVi (n := 0) (As := []) X (c_X6_refineAlarm l C Y A I k0 _ hw) kc_6 h1 rfl iv_X6_refineAlarm kw_530 (by decide +kernel) (by decide) rfl rfl (Nat.le_of_ble_eq_true rfl) dX6_refine_26 (fun r3 I2 hw => ?_)
      exact kx_iret X hr hw dX6_refine_29
    · have hw := hw.2 h4
      exact kx_throw (is := 146) (text := "there is no alarm, or a verdict") X hz ke_60 (by decide) (by decide) dX6_refine_15 dX6_refine_18 dX6_refine_19 dX6_refine_21 dX6_refine_24 hw
end
abbrev rm_X6_verify : Room := { frames := 6, cells := 1, slots := 6, locals := 181 }
section
variable {p : Program} {l : Launch} {e : Env} {s : State} {m : MethodId} {args : Array Value} {below : List Frame} {meth : Method} {c : Code} {C : Cc} {Y : Ly} {A : Nat → Prop}
def w_X6_verify_L22 (Y : Ly) (post : Int32 → Mm → Prop) (xp : String → Mm → Prop) (ex_61 : Nat → Mm → Prop) : Nat → Nat → Int32 → Int32 → Mm → Prop
  | 0, _, _, _, _ => False
  | n22 + 1, k0, v1, v2, I => ((v1 ≤ v2 → ex_61 k0 I) ∧ (¬ v1 ≤ v2 → (ky_is Y k0 6 ∧ ((¬ (I k0 5) = 0 → ex_61 k0 I) ∧ ((I k0 5) = 0 → ((¬ (I k0 6) = (-1 : Int32) → w_X6_refineAlarm Y I k0 (fun r3 I2 => (∀ x4 : Int32, x4 = v2 + (1 : Int32) → w_X6_verify_L22 Y post xp ex_61 n22 k0 v1 x4 I2))) ∧ ((I k0 6) = (-1 : Int32) → w_X6_makeRound Y I k0 (fun r6 I5 => (∀ x7 : Int32, x7 = v2 + (1 : Int32) → w_X6_verify_L22 Y post xp ex_61 n22 k0 v1 x7 I5)))))))))
set_option maxHeartbeats 4000000 in
set_option maxRecDepth 100000 in
theorem s_X6_verify_L22 (X : ky_X p s m args meth c C cX6_verify 3 RX6) (hr : meth.sig.returnType = some .int) (hz : ky_Y l A s c) (post : Int32 → Mm → Prop) (xp : String → Mm → Prop) (ex_61 : Nat → Mm → Prop) (hx_61 : ∀ (k0 : Nat) (J : Mm), ex_61 k0 J → ky_G p l e rm_X6_verify s m args below meth c C Y A 3 (ky_XQ below (va_Qi post (ky_B C Y A) A) (ky_XC C Y A xp) args s A) 61 [(0, .ref (Y.2.1 k0))] [] J) : ∀ (n22 : Nat) (k0 : Nat) (v1 : Int32) (v2 : Int32) (I : Mm), w_X6_verify_L22 Y post xp ex_61 n22 k0 v1 v2 I → ky_G p l e rm_X6_verify s m args below meth c C Y A 3 (ky_XQ below (va_Qi post (ky_B C Y A) A) (ky_XC C Y A xp) args s A) 22 [(0, .ref (Y.2.1 k0)), (1, .int v1), (2, .int v2)] [] I := by
  intro n22
  induction n22 with
  | zero => intro k0 v1 v2 I hw; exact False.elim hw
  | succ n22 ih =>
    intro k0 v1 v2 I hw
    refine kg_iload_n X 2 dX6_verify_22 rfl rfl ?_
    refine kg_iload_n X 1 dX6_verify_23 rfl rfl ?_
    refine kg_icmp_ge (tgt := 61) X dX6_verify_24 (by decide) (fun h10 => ?_) (fun h10 => ?_)
    · have hw := hw.1 h10
      refine kg_sub [0] rfl ?_
      exact hx_61 _ _  hw
    · have hw := hw.2 h10
      refine kg_aload_n X 0 dX6_verify_27 rfl rfl ?_
      obtain ⟨h1, hw⟩ := hw
      refine kg_getI (j := 5) X kc_6 h1 (by decide) (by decide) rfl kw_204 dX6_verify_28 ?_
      refine kg_if_ne (tgt := 61) X dX6_verify_31 (by decide) (fun h9 => ?_) (fun h9 => ?_)
      · have hw := hw.1 h9
        refine kg_sub [0] rfl ?_
        exact hx_61 _ _  hw
      · have hw := hw.2 h9
        refine kg_aload_n X 0 dX6_verify_34 rfl rfl ?_
        refine kg_getI (j := 6) X kc_6 h1 (by decide) (by decide) rfl kw_205 dX6_verify_35 ?_
        refine kg_iconst (v := (-1 : Int32)) X dX6_verify_38 (by decide) ?_
        refine kg_icmp_ne (tgt := 50) X dX6_verify_39 (by decide) (fun h8 => ?_) (fun h8 => ?_)
        · have hw := hw.1 h8
          refine kg_aload_n X 0 dX6_verify_50 rfl rfl ?_
          refine kg_callVi (n := 0) (As := []) X (c_X6_refineAlarm l C Y A I k0 _ hw) kc_6 h1 rfl iv_X6_refineAlarm kw_530 (by decide +kernel) (by decide) rfl rfl (Nat.le_of_ble_eq_true rfl) dX6_verify_51 (fun r3 I2 hw => ?_)
          refine kg_pop X dX6_verify_54 rfl ?_
          refine kg_iinc (dd := (1 : Int32)) (lvf := fun x4 => [(2, .int x4), (0, .ref (Y.2.1 k0)), (1, .int v1)]) X 2 dX6_verify_55 rfl (by decide) (by decide) (fun _ => rfl) (fun x4 ex4 => ?_)
          have hw := hw x4 ex4
          refine kg_goto (tgt := 22) X dX6_verify_58 (by decide) ?_
          refine kg_sub [1, 2, 0] rfl ?_
          exact ih _ _ _ _  hw
        · have hw := hw.2 h8
          refine kg_aload_n X 0 dX6_verify_42 rfl rfl ?_
          refine kg_callVi (n := 0) (As := []) X (c_X6_makeRound l C Y A I k0 _ hw) kc_6 h1 rfl iv_X6_makeRound kw_482 (by decide +kernel) (by decide) rfl rfl (Nat.le_of_ble_eq_true rfl) dX6_verify_43 (fun r6 I5 hw => ?_)
          refine kg_pop X dX6_verify_46 rfl ?_
          refine kg_goto (tgt := 55) X dX6_verify_47 (by decide) ?_
          refine kg_iinc (dd := (1 : Int32)) (lvf := fun x7 => [(2, .int x7), (0, .ref (Y.2.1 k0)), (1, .int v1)]) X 2 dX6_verify_55 rfl (by decide) (by decide) (fun _ => rfl) (fun x7 ex7 => ?_)
          have hw := hw x7 ex7
          refine kg_goto (tgt := 22) X dX6_verify_58 (by decide) ?_
          refine kg_sub [1, 2, 0] rfl ?_
          exact ih _ _ _ _  hw
def w_X6_verify (Y : Ly) (I : Mm) (k0 : Nat) (v1 : Int32) (post : Int32 → Mm → Prop) (xp : String → Mm → Prop) : Prop := ((v1 < 0 → xp "java/lang/IllegalArgumentException" I) ∧ (¬ v1 < 0 → ((v1 ≤ (100 : Int32) → (∃ n22 : Nat, w_X6_verify_L22 Y post xp (fun k12 I11 => (ky_is Y k12 6 ∧ post (I11 k12 5) I11)) n22 k0 v1 (0 : Int32) I)) ∧ (¬ v1 ≤ (100 : Int32) → xp "java/lang/IllegalArgumentException" I))))
set_option maxHeartbeats 4000000 in
set_option maxRecDepth 100000 in
theorem c_X6_verify (l : Launch) (C : Cc) (Y : Ly) (A : Nat → Prop) (I : Mm) (k0 : Nat) (v1 : Int32) (post : Int32 → Mm → Prop) (xp : String → Mm → Prop) (hw : w_X6_verify Y I k0 v1 post xp) : ky_MX l yX6_verify cX6_verify 3 rm_X6_verify C Y A I [.ref (Y.2.1 k0), .int v1] post xp := by
  refine ky_metX (by decide) (Nat.le_of_ble_eq_true rfl) ?_
  intro p e s m args below meth c X hr hz
  have X : ky_X p s m args meth c C cX6_verify 3 RX6 := X
  show ky_G p l e rm_X6_verify s m args below meth c C Y A 3 (ky_XQ below (va_Qi post (ky_B C Y A) A) (ky_XC C Y A xp) args s A) 0 [(0, .ref (Y.2.1 k0)), (1, .int v1)] [] I
  refine kg_iload_n X 1 dX6_verify_0 rfl rfl ?_
  refine kg_if_lt (tgt := 10) X dX6_verify_1 (by decide) (fun h15 => ?_) (fun h15 => ?_)
  · have hw := hw.1 h15
    exact kx_throw (is := 151) (text := "fuel is 0 .. 100") X hz ke_50 (by decide) (by decide) dX6_verify_10 dX6_verify_13 dX6_verify_14 dX6_verify_16 dX6_verify_19 hw
  · have hw := hw.2 h15
    refine kg_iload_n X 1 dX6_verify_4 rfl rfl ?_
    refine kg_bipush (v := (100 : Int32)) X dX6_verify_5 (by decide) ?_
    refine kg_icmp_le (tgt := 20) X dX6_verify_7 (by decide) (fun h14 => ?_) (fun h14 => ?_)
    · have hw := hw.1 h14
      refine kg_iconst (v := (0 : Int32)) X dX6_verify_20 (by decide) ?_
      refine kg_istore_n (lv' := [(2, .int (0 : Int32)), (0, .ref (Y.2.1 k0)), (1, .int v1)]) X dX6_verify_21 rfl (by decide) rfl ?_
      obtain ⟨n22, hw⟩ := hw
      refine kg_sub [1, 2, 0] rfl ?_
      refine s_X6_verify_L22 X hr hz post xp _ ?_ n22 _ _ _ _  hw
      · intro k12 I11 hw
        refine kg_aload_n X 0 dX6_verify_61 rfl rfl ?_
        obtain ⟨h13, hw⟩ := hw
        refine kg_getI (j := 5) X kc_6 h13 (by decide) (by decide) rfl kw_204 dX6_verify_62 ?_
        exact kx_iret X hr hw dX6_verify_65
    · have hw := hw.2 h14
      exact kx_throw (is := 151) (text := "fuel is 0 .. 100") X hz ke_50 (by decide) (by decide) dX6_verify_10 dX6_verify_13 dX6_verify_14 dX6_verify_16 dX6_verify_19 hw
end
abbrev rm_X6_follows : Room := { frames := 6, cells := 1, slots := 6, locals := 90 }
section
variable {p : Program} {l : Launch} {e : Env} {s : State} {m : MethodId} {args : Array Value} {below : List Frame} {meth : Method} {c : Code} {C : Cc} {Y : Ly} {A : Nat → Prop}
def w_X6_follows (Y : Ly) (I : Mm) (k0 : Nat) (v1 : Int32) (v2 : Int32) (v3 : Int32) (post : Int32 → Mm → Prop) (xp : String → Mm → Prop) : Prop := ((v1 < 0 → xp "java/lang/IllegalArgumentException" I) ∧ (¬ v1 < 0 → (ky_is Y k0 6 ∧ (((I k0 3) ≤ v1 → xp "java/lang/IllegalArgumentException" I) ∧ (¬ (I k0 3) ≤ v1 → w_X6_areTwoPoints Y I v2 v3 (fun r3 I2 => ((¬ r3 = 0 → (ky_is Y (ky_rp Y k0 2) 9 ∧ (vp_in v1 (ky_ln Y (ky_rp Y k0 2)) ∧ (ky_is Y (ky_rp Y (ky_rp Y k0 2) v1.toNatClampNeg) 1 ∧ (∀ q7 : Nat, q7 = ky_rp Y (ky_rp Y (ky_rp Y k0 2) v1.toNatClampNeg) 3 → (ky_is Y q7 0 ∧ ((¬ (I2 q7 1) = 0 → w_X0_leastOf Y I2 q7 v2 v3 (fun r10 I9 => ((¬ r10 = (1000000000 : Int32) → post r10 I9) ∧ (r10 = (1000000000 : Int32) → xp "java/util/NoSuchElementException" I9)))) ∧ ((I2 q7 1) = 0 → xp "java/lang/ArithmeticException" I2)))))))) ∧ (r3 = 0 → xp "java/lang/IllegalArgumentException" I2))))))))
set_option maxHeartbeats 4000000 in
set_option maxRecDepth 100000 in
theorem c_X6_follows (l : Launch) (C : Cc) (Y : Ly) (A : Nat → Prop) (I : Mm) (k0 : Nat) (v1 : Int32) (v2 : Int32) (v3 : Int32) (post : Int32 → Mm → Prop) (xp : String → Mm → Prop) (hw : w_X6_follows Y I k0 v1 v2 v3 post xp) : ky_MX l yX6_follows cX6_follows 6 rm_X6_follows C Y A I [.ref (Y.2.1 k0), .int v1, .int v2, .int v3] post xp := by
  refine ky_metX (by decide) (Nat.le_of_ble_eq_true rfl) ?_
  intro p e s m args below meth c X hr hz
  have X : ky_X p s m args meth c C cX6_follows 6 RX6 := X
  show ky_G p l e rm_X6_follows s m args below meth c C Y A 6 (ky_XQ below (va_Qi post (ky_B C Y A) A) (ky_XC C Y A xp) args s A) 0 [(0, .ref (Y.2.1 k0)), (1, .int v1), (2, .int v2), (3, .int v3)] [] I
  refine kg_iload_n X 1 dX6_follows_0 rfl rfl ?_
  refine kg_if_lt (tgt := 20) X dX6_follows_1 (by decide) (fun h15 => ?_) (fun h15 => ?_)
  · have hw := hw.1 h15
    exact kx_throw (is := 157) (text := "no clause, or not two of its variables and ZERO") X hz ke_50 (by decide) (by decide) dX6_follows_20 dX6_follows_23 dX6_follows_24 dX6_follows_26 dX6_follows_29 hw
  · have hw := hw.2 h15
    refine kg_iload_n X 1 dX6_follows_4 rfl rfl ?_
    refine kg_aload_n X 0 dX6_follows_5 rfl rfl ?_
    obtain ⟨h1, hw⟩ := hw
    refine kg_getI (j := 3) X kc_6 h1 (by decide) (by decide) rfl kw_202 dX6_follows_6 ?_
    refine kg_icmp_ge (tgt := 20) X dX6_follows_9 (by decide) (fun h14 => ?_) (fun h14 => ?_)
    · have hw := hw.1 h14
      exact kx_throw (is := 157) (text := "no clause, or not two of its variables and ZERO") X hz ke_50 (by decide) (by decide) dX6_follows_20 dX6_follows_23 dX6_follows_24 dX6_follows_26 dX6_follows_29 hw
    · have hw := hw.2 h14
      refine kg_iload_n X 2 dX6_follows_12 rfl rfl ?_
      refine kg_iload_n X 3 dX6_follows_13 rfl rfl ?_
      refine kg_callSi (n := 2) (As := [.int v2, .int v3]) X (c_X6_areTwoPoints l C Y A I v2 v3 _ hw) rfl is_X6_areTwoPoints kw_467 (by decide +kernel) (by decide) rfl rfl (Nat.le_of_ble_eq_true rfl) dX6_follows_14 (fun r3 I2 hw => ?_)
      refine kg_if_ne (tgt := 30) X dX6_follows_17 (by decide) (fun h13 => ?_) (fun h13 => ?_)
      · have hw := hw.1 h13
        refine kg_aload_n X 0 dX6_follows_30 rfl rfl ?_
        refine kg_getR (j := 2) X kc_6 h1 (by decide) (by decide) rfl kw_201 dX6_follows_31 ?_
        refine kg_iload_n X 1 dX6_follows_34 rfl rfl ?_
        obtain ⟨h4, hw⟩ := hw
        obtain ⟨h5, hw⟩ := hw
        refine kg_aald (kc := 9) X 1 rfl (by decide) h4 h5 dX6_follows_35 ?_
        obtain ⟨h6, hw⟩ := hw
        refine kg_getR (j := 3) X kc_1 h6 (by decide) (by decide) rfl kw_186 dX6_follows_36 ?_
        refine kg_topr (fun q7 eq7 => ?_)
        have hw := hw q7 eq7
        refine kg_astore (lv' := [(4, .ref (Y.2.1 q7)), (0, .ref (Y.2.1 k0)), (1, .int v1), (2, .int v2), (3, .int v3)]) X dX6_follows_39 (by decide) rfl ?_
        refine kg_aload X 0 dX6_follows_41 rfl ?_
        obtain ⟨h8, hw⟩ := hw
        refine kg_getI (j := 1) X kc_0 h8 (by decide) (by decide) rfl kw_55 dX6_follows_43 ?_
        refine kg_if_ne (tgt := 59) X dX6_follows_46 (by decide) (fun h12 => ?_) (fun h12 => ?_)
        · have hw := hw.1 h12
          refine kg_aload X 0 dX6_follows_59 rfl ?_
          refine kg_iload_n X 3 dX6_follows_61 rfl rfl ?_
          refine kg_iload_n X 4 dX6_follows_62 rfl rfl ?_
          refine kg_callVi (n := 2) (As := [.int v2, .int v3]) X (c_X0_leastOf l C Y A I2 q7 v2 v3 _ hw) kc_0 h8 rfl iv_X0_leastOf kw_548 (by decide +kernel) (by decide) rfl rfl (Nat.le_of_ble_eq_true rfl) dX6_follows_63 (fun r10 I9 hw => ?_)
          refine kg_istore (lv' := [(5, .int r10), (4, .ref (Y.2.1 q7)), (0, .ref (Y.2.1 k0)), (1, .int v1), (2, .int v2), (3, .int v3)]) X dX6_follows_66 (by decide) rfl ?_
          refine kg_iload X 0 dX6_follows_68 rfl ?_
          refine kg_ldc (v := (1000000000 : Int32)) X kw_590 dX6_follows_70 ?_
          refine kg_icmp_ne (tgt := 85) X dX6_follows_72 (by decide) (fun h11 => ?_) (fun h11 => ?_)
          · have hw := hw.1 h11
            refine kg_iload X 0 dX6_follows_85 rfl ?_
            exact kx_iret X hr hw dX6_follows_87
          · have hw := hw.2 h11
            exact kx_throw (is := 175) (text := "no such bound follows") X hz ke_173 (by decide) (by decide) dX6_follows_75 dX6_follows_78 dX6_follows_79 dX6_follows_81 dX6_follows_84 hw
        · have hw := hw.2 h12
          exact kx_throw (is := 165) (text := "the bounds do not hold together") X hz ke_163 (by decide) (by decide) dX6_follows_49 dX6_follows_52 dX6_follows_53 dX6_follows_55 dX6_follows_58 hw
      · have hw := hw.2 h13
        exact kx_throw (is := 157) (text := "no clause, or not two of its variables and ZERO") X hz ke_50 (by decide) (by decide) dX6_follows_20 dX6_follows_23 dX6_follows_24 dX6_follows_26 dX6_follows_29 hw
end
abbrev rm_X6_shown : Room := { frames := 6, cells := 1, slots := 6, locals := 90 }
section
variable {p : Program} {l : Launch} {e : Env} {s : State} {m : MethodId} {args : Array Value} {below : List Frame} {meth : Method} {c : Code} {C : Cc} {Y : Ly} {A : Nat → Prop}
def w_X6_shown (Y : Ly) (I : Mm) (k0 : Nat) (v1 : Int32) (v2 : Int32) (v3 : Int32) (post : Int32 → Mm → Prop) (xp : String → Mm → Prop) : Prop := (ky_is Y k0 6 ∧ w_X6_isRelation Y I k0 v1 (fun r2 I1 => ((r2 = 0 → xp "java/lang/IllegalArgumentException" I1) ∧ (¬ r2 = 0 → ((v3 < 0 → xp "java/lang/IllegalArgumentException" I1) ∧ (¬ v3 < 0 → ((v3 ≤ (2 : Int32) → (ky_is Y (ky_rp Y k0 0) 12 ∧ (vp_in v1 (ky_ln Y (ky_rp Y k0 0)) ∧ (∀ q6 : Nat, q6 = ky_rp Y (ky_rp Y k0 0) v1.toNatClampNeg → ((v2 < 0 → xp "java/util/NoSuchElementException" I1) ∧ (¬ v2 < 0 → (ky_is Y q6 4 ∧ ((v2 < (I1 q6 1) → ((¬ v3 = 0 → ((¬ v3 = (1 : Int32) → (ky_is Y (ky_rp Y q6 4) 8 ∧ (vp_in v2 (ky_ln Y (ky_rp Y q6 4)) ∧ post (I1 (ky_rp Y q6 4) v2.toNatClampNeg) I1))) ∧ (v3 = (1 : Int32) → (ky_is Y (ky_rp Y q6 3) 8 ∧ (vp_in v2 (ky_ln Y (ky_rp Y q6 3)) ∧ post (I1 (ky_rp Y q6 3) v2.toNatClampNeg) I1))))) ∧ (v3 = 0 → (ky_is Y (ky_rp Y q6 2) 8 ∧ (vp_in v2 (ky_ln Y (ky_rp Y q6 2)) ∧ post (I1 (ky_rp Y q6 2) v2.toNatClampNeg) I1))))) ∧ (¬ v2 < (I1 q6 1) → xp "java/util/NoSuchElementException" I1))))))))) ∧ (¬ v3 ≤ (2 : Int32) → xp "java/lang/IllegalArgumentException" I1))))))))
set_option maxHeartbeats 4000000 in
set_option maxRecDepth 100000 in
theorem c_X6_shown (l : Launch) (C : Cc) (Y : Ly) (A : Nat → Prop) (I : Mm) (k0 : Nat) (v1 : Int32) (v2 : Int32) (v3 : Int32) (post : Int32 → Mm → Prop) (xp : String → Mm → Prop) (hw : w_X6_shown Y I k0 v1 v2 v3 post xp) : ky_MX l yX6_shown cX6_shown 5 rm_X6_shown C Y A I [.ref (Y.2.1 k0), .int v1, .int v2, .int v3] post xp := by
  refine ky_metX (by decide) (Nat.le_of_ble_eq_true rfl) ?_
  intro p e s m args below meth c X hr hz
  have X : ky_X p s m args meth c C cX6_shown 5 RX6 := X
  show ky_G p l e rm_X6_shown s m args below meth c C Y A 5 (ky_XQ below (va_Qi post (ky_B C Y A) A) (ky_XC C Y A xp) args s A) 0 [(0, .ref (Y.2.1 k0)), (1, .int v1), (2, .int v2), (3, .int v3)] [] I
  refine kg_aload_n X 0 dX6_shown_0 rfl rfl ?_
  refine kg_iload_n X 1 dX6_shown_1 rfl rfl ?_
  obtain ⟨h3, hw⟩ := hw
  refine kg_callVi (n := 1) (As := [.int v1]) X (c_X6_isRelation l C Y A I k0 v1 _ hw) kc_6 h3 rfl iv_X6_isRelation kw_403 (by decide +kernel) (by decide) rfl rfl (Nat.le_of_ble_eq_true rfl) dX6_shown_2 (fun r2 I1 hw => ?_)
  refine kg_if_eq (tgt := 17) X dX6_shown_5 (by decide) (fun h20 => ?_) (fun h20 => ?_)
  · have hw := hw.1 h20
    exact kx_throw (is := 187) (text := "no such relation, or nothing to show") X hz ke_50 (by decide) (by decide) dX6_shown_17 dX6_shown_20 dX6_shown_21 dX6_shown_23 dX6_shown_26 hw
  · have hw := hw.2 h20
    refine kg_iload_n X 3 dX6_shown_8 rfl rfl ?_
    refine kg_if_lt (tgt := 17) X dX6_shown_9 (by decide) (fun h19 => ?_) (fun h19 => ?_)
    · have hw := hw.1 h19
      exact kx_throw (is := 187) (text := "no such relation, or nothing to show") X hz ke_50 (by decide) (by decide) dX6_shown_17 dX6_shown_20 dX6_shown_21 dX6_shown_23 dX6_shown_26 hw
    · have hw := hw.2 h19
      refine kg_iload_n X 3 dX6_shown_12 rfl rfl ?_
      refine kg_iconst (v := (2 : Int32)) X dX6_shown_13 (by decide) ?_
      refine kg_icmp_le (tgt := 27) X dX6_shown_14 (by decide) (fun h18 => ?_) (fun h18 => ?_)
      · have hw := hw.1 h18
        refine kg_aload_n X 0 dX6_shown_27 rfl rfl ?_
        refine kg_getR (j := 0) X kc_6 h3 (by decide) (by decide) rfl kw_199 dX6_shown_28 ?_
        refine kg_iload_n X 1 dX6_shown_31 rfl rfl ?_
        obtain ⟨h4, hw⟩ := hw
        obtain ⟨h5, hw⟩ := hw
        refine kg_aald (kc := 12) X 4 rfl (by decide) h4 h5 dX6_shown_32 ?_
        refine kg_topr (fun q6 eq6 => ?_)
        have hw := hw q6 eq6
        refine kg_astore (lv' := [(4, .ref (Y.2.1 q6)), (0, .ref (Y.2.1 k0)), (1, .int v1), (2, .int v2), (3, .int v3)]) X dX6_shown_33 (by decide) rfl ?_
        refine kg_iload_n X 3 dX6_shown_35 rfl rfl ?_
        refine kg_if_lt (tgt := 48) X dX6_shown_36 (by decide) (fun h17 => ?_) (fun h17 => ?_)
        · have hw := hw.1 h17
          exact kx_throw (is := 189) (text := "no such mark") X hz ke_173 (by decide) (by decide) dX6_shown_48 dX6_shown_51 dX6_shown_52 dX6_shown_54 dX6_shown_57 hw
        · have hw := hw.2 h17
          refine kg_iload_n X 3 dX6_shown_39 rfl rfl ?_
          refine kg_aload X 0 dX6_shown_40 rfl ?_
          obtain ⟨h7, hw⟩ := hw
          refine kg_getI (j := 1) X kc_4 h7 (by decide) (by decide) rfl kw_118 dX6_shown_42 ?_
          refine kg_icmp_lt (tgt := 58) X dX6_shown_45 (by decide) (fun h16 => ?_) (fun h16 => ?_)
          · have hw := hw.1 h16
            refine kg_iload_n X 4 dX6_shown_58 rfl rfl ?_
            refine kg_if_ne (tgt := 70) X dX6_shown_59 (by decide) (fun h15 => ?_) (fun h15 => ?_)
            · have hw := hw.1 h15
              refine kg_iload_n X 4 dX6_shown_70 rfl rfl ?_
              refine kg_iconst (v := (1 : Int32)) X dX6_shown_71 (by decide) ?_
              refine kg_icmp_ne (tgt := 85) X dX6_shown_72 (by decide) (fun h12 => ?_) (fun h12 => ?_)
              · have hw := hw.1 h12
                refine kg_aload X 0 dX6_shown_85 rfl ?_
                refine kg_getR (j := 4) X kc_4 h7 (by decide) (by decide) rfl kw_124 dX6_shown_87 ?_
                refine kg_iload_n X 3 dX6_shown_90 rfl rfl ?_
                obtain ⟨h8, hw⟩ := hw
                obtain ⟨h9, hw⟩ := hw
                refine kg_iald X h8 h9 dX6_shown_91 ?_
                exact kx_iret X hr hw dX6_shown_92
              · have hw := hw.2 h12
                refine kg_aload X 0 dX6_shown_75 rfl ?_
                refine kg_getR (j := 3) X kc_4 h7 (by decide) (by decide) rfl kw_122 dX6_shown_77 ?_
                refine kg_iload_n X 3 dX6_shown_80 rfl rfl ?_
                obtain ⟨h10, hw⟩ := hw
                obtain ⟨h11, hw⟩ := hw
                refine kg_iald X h10 h11 dX6_shown_81 ?_
                refine kg_goto (tgt := 92) X dX6_shown_82 (by decide) ?_
                exact kx_iret X hr hw dX6_shown_92
            · have hw := hw.2 h15
              refine kg_aload X 0 dX6_shown_62 rfl ?_
              refine kg_getR (j := 2) X kc_4 h7 (by decide) (by decide) rfl kw_120 dX6_shown_64 ?_
              refine kg_iload_n X 3 dX6_shown_67 rfl rfl ?_
              obtain ⟨h13, hw⟩ := hw
              obtain ⟨h14, hw⟩ := hw
              refine kg_iald X h13 h14 dX6_shown_68 ?_
              exact kx_iret X hr hw dX6_shown_69
          · have hw := hw.2 h16
            exact kx_throw (is := 189) (text := "no such mark") X hz ke_173 (by decide) (by decide) dX6_shown_48 dX6_shown_51 dX6_shown_52 dX6_shown_54 dX6_shown_57 hw
      · have hw := hw.2 h18
        exact kx_throw (is := 187) (text := "no such relation, or nothing to show") X hz ke_50 (by decide) (by decide) dX6_shown_17 dX6_shown_20 dX6_shown_21 dX6_shown_23 dX6_shown_26 hw
end
abbrev rm_X6_cube : Room := { frames := 6, cells := 1, slots := 6, locals := 90 }
section
variable {p : Program} {l : Launch} {e : Env} {s : State} {m : MethodId} {args : Array Value} {below : List Frame} {meth : Method} {c : Code} {C : Cc} {Y : Ly} {A : Nat → Prop}
def w_X6_cube (Y : Ly) (I : Mm) (k0 : Nat) (v1 : Int32) (v2 : Int32) (v3 : Int32) (post : Int32 → Mm → Prop) (xp : String → Mm → Prop) : Prop := (ky_is Y k0 6 ∧ w_X6_isRelation Y I k0 v1 (fun r2 I1 => ((r2 = 0 → xp "java/lang/IllegalArgumentException" I1) ∧ (¬ r2 = 0 → ((v2 < 0 → xp "java/lang/IllegalArgumentException" I1) ∧ (¬ v2 < 0 → (ky_is Y (ky_rp Y k0 0) 12 ∧ (vp_in v1 (ky_ln Y (ky_rp Y k0 0)) ∧ (ky_is Y (ky_rp Y (ky_rp Y k0 0) v1.toNatClampNeg) 4 ∧ w_X4_cubes Y I1 (ky_rp Y (ky_rp Y k0 0) v1.toNatClampNeg) (fun r7 I6 => ((r7 ≤ v2 → xp "java/lang/IllegalArgumentException" I6) ∧ (¬ r7 ≤ v2 → ((v3 < 0 → xp "java/lang/IllegalArgumentException" I6) ∧ (¬ v3 < 0 → ((v3 ≤ (4 : Int32) → (∀ q9 : Nat, q9 = ky_rp Y (ky_rp Y k0 0) v1.toNatClampNeg → ((¬ v3 = 0 → ((¬ v3 = (4 : Int32) → (ky_is Y q9 4 ∧ (ky_is Y (ky_rp Y q9 5) 8 ∧ (vp_in v2 (ky_ln Y (ky_rp Y q9 5)) ∧ ((¬ (I6 (ky_rp Y q9 5) v2.toNatClampNeg) = 0 → ((¬ v3 = (1 : Int32) → ((¬ v3 = (2 : Int32) → (ky_is Y (ky_rp Y q9 8) 8 ∧ (vp_in v2 (ky_ln Y (ky_rp Y q9 8)) ∧ post (I6 (ky_rp Y q9 8) v2.toNatClampNeg) I6))) ∧ (v3 = (2 : Int32) → (ky_is Y (ky_rp Y q9 7) 8 ∧ (vp_in v2 (ky_ln Y (ky_rp Y q9 7)) ∧ post (I6 (ky_rp Y q9 7) v2.toNatClampNeg) I6))))) ∧ (v3 = (1 : Int32) → (ky_is Y (ky_rp Y q9 6) 8 ∧ (vp_in v2 (ky_ln Y (ky_rp Y q9 6)) ∧ post (I6 (ky_rp Y q9 6) v2.toNatClampNeg) I6))))) ∧ ((I6 (ky_rp Y q9 5) v2.toNatClampNeg) = 0 → post (-1 : Int32) I6)))))) ∧ (v3 = (4 : Int32) → (ky_is Y (ky_rp Y k0 11) 0 ∧ w_X0_clear Y I6 (ky_rp Y k0 11) (fun I22 => (ky_is Y q9 4 ∧ w_X4_restrict Y I22 q9 (ky_rp Y k0 11) v2 (0 : Int32) (1 : Int32) (fun I24 => (((I24 (ky_rp Y k0 11) 1) = 0 → post (0 : Int32) I24) ∧ (¬ (I24 (ky_rp Y k0 11) 1) = 0 → post (1 : Int32) I24))))))))) ∧ (v3 = 0 → (ky_is Y q9 4 ∧ (ky_is Y (ky_rp Y q9 5) 8 ∧ (vp_in v2 (ky_ln Y (ky_rp Y q9 5)) ∧ post (I6 (ky_rp Y q9 5) v2.toNatClampNeg) I6))))))) ∧ (¬ v3 ≤ (4 : Int32) → xp "java/lang/IllegalArgumentException" I6))))))))))))))))
set_option maxHeartbeats 4000000 in
set_option maxRecDepth 100000 in
theorem c_X6_cube (l : Launch) (C : Cc) (Y : Ly) (A : Nat → Prop) (I : Mm) (k0 : Nat) (v1 : Int32) (v2 : Int32) (v3 : Int32) (post : Int32 → Mm → Prop) (xp : String → Mm → Prop) (hw : w_X6_cube Y I k0 v1 v2 v3 post xp) : ky_MX l yX6_cube cX6_cube 5 rm_X6_cube C Y A I [.ref (Y.2.1 k0), .int v1, .int v2, .int v3] post xp := by
  refine ky_metX (by decide) (Nat.le_of_ble_eq_true rfl) ?_
  intro p e s m args below meth c X hr hz
  have X : ky_X p s m args meth c C cX6_cube 5 RX6 := X
  show ky_G p l e rm_X6_cube s m args below meth c C Y A 5 (ky_XQ below (va_Qi post (ky_B C Y A) A) (ky_XC C Y A xp) args s A) 0 [(0, .ref (Y.2.1 k0)), (1, .int v1), (2, .int v2), (3, .int v3)] [] I
  refine kg_aload_n X 0 dX6_cube_0 rfl rfl ?_
  refine kg_iload_n X 1 dX6_cube_1 rfl rfl ?_
  obtain ⟨h3, hw⟩ := hw
  refine kg_callVi (n := 1) (As := [.int v1]) X (c_X6_isRelation l C Y A I k0 v1 _ hw) kc_6 h3 rfl iv_X6_isRelation kw_403 (by decide +kernel) (by decide) rfl rfl (Nat.le_of_ble_eq_true rfl) dX6_cube_2 (fun r2 I1 hw => ?_)
  refine kg_if_eq (tgt := 34) X dX6_cube_5 (by decide) (fun h36 => ?_) (fun h36 => ?_)
  · have hw := hw.1 h36
    exact kx_throw (is := 204) (text := "no such relation or cube, or nothing to show") X hz ke_50 (by decide) (by decide) dX6_cube_34 dX6_cube_37 dX6_cube_38 dX6_cube_40 dX6_cube_43 hw
  · have hw := hw.2 h36
    refine kg_iload_n X 2 dX6_cube_8 rfl rfl ?_
    refine kg_if_lt (tgt := 34) X dX6_cube_9 (by decide) (fun h35 => ?_) (fun h35 => ?_)
    · have hw := hw.1 h35
      exact kx_throw (is := 204) (text := "no such relation or cube, or nothing to show") X hz ke_50 (by decide) (by decide) dX6_cube_34 dX6_cube_37 dX6_cube_38 dX6_cube_40 dX6_cube_43 hw
    · have hw := hw.2 h35
      refine kg_iload_n X 2 dX6_cube_12 rfl rfl ?_
      refine kg_aload_n X 0 dX6_cube_13 rfl rfl ?_
      refine kg_getR (j := 0) X kc_6 h3 (by decide) (by decide) rfl kw_199 dX6_cube_14 ?_
      refine kg_iload_n X 1 dX6_cube_17 rfl rfl ?_
      obtain ⟨h4, hw⟩ := hw
      obtain ⟨h5, hw⟩ := hw
      refine kg_aald (kc := 12) X 4 rfl (by decide) h4 h5 dX6_cube_18 ?_
      obtain ⟨h8, hw⟩ := hw
      refine kg_callVi (n := 0) (As := []) X (c_X4_cubes l C Y A I1 (ky_rp Y (ky_rp Y k0 0) v1.toNatClampNeg) _ hw) kc_4 h8 rfl iv_X4_cubes kw_264 (by decide +kernel) (by decide) rfl rfl (Nat.le_of_ble_eq_true rfl) dX6_cube_19 (fun r7 I6 hw => ?_)
      refine kg_icmp_ge (tgt := 34) X dX6_cube_22 (by decide) (fun h34 => ?_) (fun h34 => ?_)
      · have hw := hw.1 h34
        exact kx_throw (is := 204) (text := "no such relation or cube, or nothing to show") X hz ke_50 (by decide) (by decide) dX6_cube_34 dX6_cube_37 dX6_cube_38 dX6_cube_40 dX6_cube_43 hw
      · have hw := hw.2 h34
        refine kg_iload_n X 3 dX6_cube_25 rfl rfl ?_
        refine kg_if_lt (tgt := 34) X dX6_cube_26 (by decide) (fun h33 => ?_) (fun h33 => ?_)
        · have hw := hw.1 h33
          exact kx_throw (is := 204) (text := "no such relation or cube, or nothing to show") X hz ke_50 (by decide) (by decide) dX6_cube_34 dX6_cube_37 dX6_cube_38 dX6_cube_40 dX6_cube_43 hw
        · have hw := hw.2 h33
          refine kg_iload_n X 3 dX6_cube_29 rfl rfl ?_
          refine kg_iconst (v := (4 : Int32)) X dX6_cube_30 (by decide) ?_
          refine kg_icmp_le (tgt := 44) X dX6_cube_31 (by decide) (fun h32 => ?_) (fun h32 => ?_)
          · have hw := hw.1 h32
            refine kg_aload_n X 0 dX6_cube_44 rfl rfl ?_
            refine kg_getR (j := 0) X kc_6 h3 (by decide) (by decide) rfl kw_199 dX6_cube_45 ?_
            refine kg_iload_n X 1 dX6_cube_48 rfl rfl ?_
            refine kg_aald (kc := 12) X 4 rfl (by decide) h4 h5 dX6_cube_49 ?_
            refine kg_topr (fun q9 eq9 => ?_)
            have hw := hw q9 eq9
            refine kg_astore (lv' := [(4, .ref (Y.2.1 q9)), (0, .ref (Y.2.1 k0)), (1, .int v1), (2, .int v2), (3, .int v3)]) X dX6_cube_50 (by decide) rfl ?_
            refine kg_iload_n X 4 dX6_cube_52 rfl rfl ?_
            refine kg_if_ne (tgt := 64) X dX6_cube_53 (by decide) (fun h31 => ?_) (fun h31 => ?_)
            · have hw := hw.1 h31
              refine kg_iload_n X 4 dX6_cube_64 rfl rfl ?_
              refine kg_iconst (v := (4 : Int32)) X dX6_cube_65 (by decide) ?_
              refine kg_icmp_ne (tgt := 104) X dX6_cube_66 (by decide) (fun h27 => ?_) (fun h27 => ?_)
              · have hw := hw.1 h27
                refine kg_aload X 0 dX6_cube_104 rfl ?_
                obtain ⟨h10, hw⟩ := hw
                refine kg_getR (j := 5) X kc_4 h10 (by decide) (by decide) rfl kw_126 dX6_cube_106 ?_
                refine kg_iload_n X 3 dX6_cube_109 rfl rfl ?_
                obtain ⟨h11, hw⟩ := hw
                obtain ⟨h12, hw⟩ := hw
                refine kg_iald X h11 h12 dX6_cube_110 ?_
                refine kg_if_ne (tgt := 116) X dX6_cube_111 (by decide) (fun h21 => ?_) (fun h21 => ?_)
                · have hw := hw.1 h21
                  refine kg_iload_n X 4 dX6_cube_116 rfl rfl ?_
                  refine kg_iconst (v := (1 : Int32)) X dX6_cube_117 (by decide) ?_
                  refine kg_icmp_ne (tgt := 129) X dX6_cube_118 (by decide) (fun h20 => ?_) (fun h20 => ?_)
                  · have hw := hw.1 h20
                    refine kg_iload_n X 4 dX6_cube_129 rfl rfl ?_
                    refine kg_iconst (v := (2 : Int32)) X dX6_cube_130 (by decide) ?_
                    refine kg_icmp_ne (tgt := 144) X dX6_cube_131 (by decide) (fun h17 => ?_) (fun h17 => ?_)
                    · have hw := hw.1 h17
                      refine kg_aload X 0 dX6_cube_144 rfl ?_
                      refine kg_getR (j := 8) X kc_4 h10 (by decide) (by decide) rfl kw_132 dX6_cube_146 ?_
                      refine kg_iload_n X 3 dX6_cube_149 rfl rfl ?_
                      obtain ⟨h13, hw⟩ := hw
                      obtain ⟨h14, hw⟩ := hw
                      refine kg_iald X h13 h14 dX6_cube_150 ?_
                      exact kx_iret X hr hw dX6_cube_151
                    · have hw := hw.2 h17
                      refine kg_aload X 0 dX6_cube_134 rfl ?_
                      refine kg_getR (j := 7) X kc_4 h10 (by decide) (by decide) rfl kw_130 dX6_cube_136 ?_
                      refine kg_iload_n X 3 dX6_cube_139 rfl rfl ?_
                      obtain ⟨h15, hw⟩ := hw
                      obtain ⟨h16, hw⟩ := hw
                      refine kg_iald X h15 h16 dX6_cube_140 ?_
                      refine kg_goto (tgt := 151) X dX6_cube_141 (by decide) ?_
                      exact kx_iret X hr hw dX6_cube_151
                  · have hw := hw.2 h20
                    refine kg_aload X 0 dX6_cube_121 rfl ?_
                    refine kg_getR (j := 6) X kc_4 h10 (by decide) (by decide) rfl kw_128 dX6_cube_123 ?_
                    refine kg_iload_n X 3 dX6_cube_126 rfl rfl ?_
                    obtain ⟨h18, hw⟩ := hw
                    obtain ⟨h19, hw⟩ := hw
                    refine kg_iald X h18 h19 dX6_cube_127 ?_
                    exact kx_iret X hr hw dX6_cube_128
                · have hw := hw.2 h21
                  refine kg_iconst (v := (-1 : Int32)) X dX6_cube_114 (by decide) ?_
                  exact kx_iret X hr hw dX6_cube_115
              · have hw := hw.2 h27
                refine kg_aload_n X 1 dX6_cube_69 rfl rfl ?_
                refine kg_getR (j := 11) X kc_6 h3 (by decide) (by decide) rfl kw_210 dX6_cube_70 ?_
                obtain ⟨h23, hw⟩ := hw
                refine kg_callVv (n := 0) (As := []) X (c_X0_clear l C Y A I6 (ky_rp Y k0 11) _ hw) kc_0 h23 rfl iv_X0_clear kw_624 (by decide +kernel) (by decide) rfl rfl (Nat.le_of_ble_eq_true rfl) dX6_cube_73 (fun I22 hw => ?_)
                refine kg_aload X 0 dX6_cube_76 rfl ?_
                refine kg_aload_n X 1 dX6_cube_78 rfl rfl ?_
                refine kg_getR (j := 11) X kc_6 h3 (by decide) (by decide) rfl kw_210 dX6_cube_79 ?_
                refine kg_iload_n X 3 dX6_cube_82 rfl rfl ?_
                refine kg_iconst (v := (0 : Int32)) X dX6_cube_83 (by decide) ?_
                refine kg_iconst (v := (1 : Int32)) X dX6_cube_84 (by decide) ?_
                obtain ⟨h25, hw⟩ := hw
                refine kg_callVv (n := 4) (As := [.ref (Y.2.1 (ky_rp Y k0 11)), .int v2, .int (0 : Int32), .int (1 : Int32)]) X (c_X4_restrict l C Y A I22 q9 (ky_rp Y k0 11) v2 (0 : Int32) (1 : Int32) _ hw) kc_4 h25 rfl iv_X4_restrict kw_279 (by decide +kernel) (by decide) rfl rfl (Nat.le_of_ble_eq_true rfl) dX6_cube_85 (fun I24 hw => ?_)
                refine kg_aload_n X 1 dX6_cube_88 rfl rfl ?_
                refine kg_getR (j := 11) X kc_6 h3 (by decide) (by decide) rfl kw_210 dX6_cube_89 ?_
                refine kg_getI (j := 1) X kc_0 h23 (by decide) (by decide) rfl kw_55 dX6_cube_92 ?_
                refine kg_if_eq (tgt := 102) X dX6_cube_95 (by decide) (fun h26 => ?_) (fun h26 => ?_)
                · have hw := hw.1 h26
                  refine kg_iconst (v := (0 : Int32)) X dX6_cube_102 (by decide) ?_
                  exact kx_iret X hr hw dX6_cube_103
                · have hw := hw.2 h26
                  refine kg_iconst (v := (1 : Int32)) X dX6_cube_98 (by decide) ?_
                  refine kg_goto (tgt := 103) X dX6_cube_99 (by decide) ?_
                  exact kx_iret X hr hw dX6_cube_103
            · have hw := hw.2 h31
              refine kg_aload X 0 dX6_cube_56 rfl ?_
              obtain ⟨h28, hw⟩ := hw
              refine kg_getR (j := 5) X kc_4 h28 (by decide) (by decide) rfl kw_126 dX6_cube_58 ?_
              refine kg_iload_n X 3 dX6_cube_61 rfl rfl ?_
              obtain ⟨h29, hw⟩ := hw
              obtain ⟨h30, hw⟩ := hw
              refine kg_iald X h29 h30 dX6_cube_62 ?_
              exact kx_iret X hr hw dX6_cube_63
          · have hw := hw.2 h32
            exact kx_throw (is := 204) (text := "no such relation or cube, or nothing to show") X hz ke_50 (by decide) (by decide) dX6_cube_34 dX6_cube_37 dX6_cube_38 dX6_cube_40 dX6_cube_43 hw
end
abbrev rm_X6_node : Room := { frames := 6, cells := 1, slots := 6, locals := 90 }
section
variable {p : Program} {l : Launch} {e : Env} {s : State} {m : MethodId} {args : Array Value} {below : List Frame} {meth : Method} {c : Code} {C : Cc} {Y : Ly} {A : Nat → Prop}
def w_X6_node (Y : Ly) (I : Mm) (k0 : Nat) (v1 : Int32) (v2 : Int32) (post : Int32 → Mm → Prop) (xp : String → Mm → Prop) : Prop := ((v2 < 0 → xp "java/lang/IllegalArgumentException" I) ∧ (¬ v2 < 0 → ((v2 ≤ (2 : Int32) → (ky_is Y k0 6 ∧ (ky_is Y (ky_rp Y k0 7) 5 ∧ (((40 : Int32) < (I (ky_rp Y k0 7) 1) → xp "java/util/NoSuchElementException" I) ∧ (¬ (40 : Int32) < (I (ky_rp Y k0 7) 1) → ((v1 < 0 → xp "java/util/NoSuchElementException" I) ∧ (¬ v1 < 0 → ((v1 < (I (ky_rp Y k0 7) 1) → (ky_is Y (ky_rp Y (ky_rp Y k0 7) 0) 11 ∧ (vp_in v1 (ky_ln Y (ky_rp Y (ky_rp Y k0 7) 0)) ∧ (∀ q5 : Nat, q5 = ky_rp Y (ky_rp Y (ky_rp Y k0 7) 0) v1.toNatClampNeg → ((¬ v2 = 0 → ((¬ v2 = (1 : Int32) → (ky_is Y q5 3 ∧ post (I q5 3) I)) ∧ (v2 = (1 : Int32) → (ky_is Y q5 3 ∧ post (I q5 1) I)))) ∧ (v2 = 0 → (ky_is Y q5 3 ∧ post (I q5 0) I))))))) ∧ (¬ v1 < (I (ky_rp Y k0 7) 1) → xp "java/util/NoSuchElementException" I))))))))) ∧ (¬ v2 ≤ (2 : Int32) → xp "java/lang/IllegalArgumentException" I))))
set_option maxHeartbeats 4000000 in
set_option maxRecDepth 100000 in
theorem c_X6_node (l : Launch) (C : Cc) (Y : Ly) (A : Nat → Prop) (I : Mm) (k0 : Nat) (v1 : Int32) (v2 : Int32) (post : Int32 → Mm → Prop) (xp : String → Mm → Prop) (hw : w_X6_node Y I k0 v1 v2 post xp) : ky_MX l yX6_node cX6_node 4 rm_X6_node C Y A I [.ref (Y.2.1 k0), .int v1, .int v2] post xp := by
  refine ky_metX (by decide) (Nat.le_of_ble_eq_true rfl) ?_
  intro p e s m args below meth c X hr hz
  have X : ky_X p s m args meth c C cX6_node 4 RX6 := X
  show ky_G p l e rm_X6_node s m args below meth c C Y A 4 (ky_XQ below (va_Qi post (ky_B C Y A) A) (ky_XC C Y A xp) args s A) 0 [(0, .ref (Y.2.1 k0)), (1, .int v1), (2, .int v2)] [] I
  refine kg_iload_n X 2 dX6_node_0 rfl rfl ?_
  refine kg_if_lt (tgt := 9) X dX6_node_1 (by decide) (fun h15 => ?_) (fun h15 => ?_)
  · have hw := hw.1 h15
    exact kx_throw (is := 225) (text := "nothing to show") X hz ke_50 (by decide) (by decide) dX6_node_9 dX6_node_12 dX6_node_13 dX6_node_15 dX6_node_18 hw
  · have hw := hw.2 h15
    refine kg_iload_n X 2 dX6_node_4 rfl rfl ?_
    refine kg_iconst (v := (2 : Int32)) X dX6_node_5 (by decide) ?_
    refine kg_icmp_le (tgt := 19) X dX6_node_6 (by decide) (fun h14 => ?_) (fun h14 => ?_)
    · have hw := hw.1 h14
      refine kg_aload_n X 0 dX6_node_19 rfl rfl ?_
      obtain ⟨h1, hw⟩ := hw
      refine kg_getR (j := 7) X kc_6 h1 (by decide) (by decide) rfl kw_206 dX6_node_20 ?_
      obtain ⟨h2, hw⟩ := hw
      refine kg_getI (j := 1) X kc_5 h2 (by decide) (by decide) rfl kw_86 dX6_node_23 ?_
      refine kg_bipush (v := (40 : Int32)) X dX6_node_26 (by decide) ?_
      refine kg_icmp_gt (tgt := 46) X dX6_node_28 (by decide) (fun h13 => ?_) (fun h13 => ?_)
      · have hw := hw.1 h13
        exact kx_throw (is := 227) (text := "no such node, or more than 40") X hz ke_173 (by decide) (by decide) dX6_node_46 dX6_node_49 dX6_node_50 dX6_node_52 dX6_node_55 hw
      · have hw := hw.2 h13
        refine kg_iload_n X 1 dX6_node_31 rfl rfl ?_
        refine kg_if_lt (tgt := 46) X dX6_node_32 (by decide) (fun h12 => ?_) (fun h12 => ?_)
        · have hw := hw.1 h12
          exact kx_throw (is := 227) (text := "no such node, or more than 40") X hz ke_173 (by decide) (by decide) dX6_node_46 dX6_node_49 dX6_node_50 dX6_node_52 dX6_node_55 hw
        · have hw := hw.2 h12
          refine kg_iload_n X 1 dX6_node_35 rfl rfl ?_
          refine kg_aload_n X 0 dX6_node_36 rfl rfl ?_
          refine kg_getR (j := 7) X kc_6 h1 (by decide) (by decide) rfl kw_206 dX6_node_37 ?_
          refine kg_getI (j := 1) X kc_5 h2 (by decide) (by decide) rfl kw_86 dX6_node_40 ?_
          refine kg_icmp_lt (tgt := 56) X dX6_node_43 (by decide) (fun h11 => ?_) (fun h11 => ?_)
          · have hw := hw.1 h11
            refine kg_aload_n X 0 dX6_node_56 rfl rfl ?_
            refine kg_getR (j := 7) X kc_6 h1 (by decide) (by decide) rfl kw_206 dX6_node_57 ?_
            refine kg_getR (j := 0) X kc_5 h2 (by decide) (by decide) rfl kw_84 dX6_node_60 ?_
            refine kg_iload_n X 1 dX6_node_63 rfl rfl ?_
            obtain ⟨h3, hw⟩ := hw
            obtain ⟨h4, hw⟩ := hw
            refine kg_aald (kc := 11) X 3 rfl (by decide) h3 h4 dX6_node_64 ?_
            refine kg_topr (fun q5 eq5 => ?_)
            have hw := hw q5 eq5
            refine kg_astore_n (lv' := [(3, .ref (Y.2.1 q5)), (0, .ref (Y.2.1 k0)), (1, .int v1), (2, .int v2)]) X dX6_node_65 rfl (by decide) rfl ?_
            refine kg_iload_n X 3 dX6_node_66 rfl rfl ?_
            refine kg_if_ne (tgt := 75) X dX6_node_67 (by decide) (fun h10 => ?_) (fun h10 => ?_)
            · have hw := hw.1 h10
              refine kg_iload_n X 3 dX6_node_75 rfl rfl ?_
              refine kg_iconst (v := (1 : Int32)) X dX6_node_76 (by decide) ?_
              refine kg_icmp_ne (tgt := 87) X dX6_node_77 (by decide) (fun h8 => ?_) (fun h8 => ?_)
              · have hw := hw.1 h8
                refine kg_aload_n X 0 dX6_node_87 rfl rfl ?_
                obtain ⟨h6, hw⟩ := hw
                refine kg_getI (j := 3) X kc_3 h6 (by decide) (by decide) rfl kw_69 dX6_node_88 ?_
                exact kx_iret X hr hw dX6_node_91
              · have hw := hw.2 h8
                refine kg_aload_n X 0 dX6_node_80 rfl rfl ?_
                obtain ⟨h7, hw⟩ := hw
                refine kg_getI (j := 1) X kc_3 h7 (by decide) (by decide) rfl kw_65 dX6_node_81 ?_
                refine kg_goto (tgt := 91) X dX6_node_84 (by decide) ?_
                exact kx_iret X hr hw dX6_node_91
            · have hw := hw.2 h10
              refine kg_aload_n X 0 dX6_node_70 rfl rfl ?_
              obtain ⟨h9, hw⟩ := hw
              refine kg_getI (j := 0) X kc_3 h9 (by decide) (by decide) rfl kw_63 dX6_node_71 ?_
              exact kx_iret X hr hw dX6_node_74
          · have hw := hw.2 h11
            exact kx_throw (is := 227) (text := "no such node, or more than 40") X hz ke_173 (by decide) (by decide) dX6_node_46 dX6_node_49 dX6_node_50 dX6_node_52 dX6_node_55 hw
    · have hw := hw.2 h14
      exact kx_throw (is := 225) (text := "nothing to show") X hz ke_50 (by decide) (by decide) dX6_node_9 dX6_node_12 dX6_node_13 dX6_node_15 dX6_node_18 hw
end
