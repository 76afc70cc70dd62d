/-! THE LAW: its twelve methods, each with its table -/
theorem km_305 : Cond.classLink RL 13 xI ∈ ky_WS := ky_in 305 (by decide +kernel) (by decide +kernel)
theorem km_306 : Cond.classLink RL 15 xS ∈ ky_WS := ky_in 306 (by decide +kernel) (by decide +kernel)
theorem km_307 : Cond.methodLink RL 7 yX6_relation ∈ ky_WS := ky_in 307 (by decide +kernel) (by decide +kernel)
theorem km_399 : Cond.methodLink RL 17 yX6_mark ∈ ky_WS := ky_in 399 (by decide +kernel) (by decide +kernel)
theorem km_435 : Cond.methodLink RL 21 yX6_clause ∈ ky_WS := ky_in 435 (by decide +kernel) (by decide +kernel)
theorem km_455 : Cond.methodLink RL 25 yX6_atom ∈ ky_WS := ky_in 455 (by decide +kernel) (by decide +kernel)
theorem km_463 : Cond.methodLink RL 28 yX6_bound ∈ ky_WS := ky_in 463 (by decide +kernel) (by decide +kernel)
theorem km_477 : Cond.methodLink RL 31 yX6_round ∈ ky_WS := ky_in 477 (by decide +kernel) (by decide +kernel)
theorem km_525 : Cond.methodLink RL 35 yX6_refine ∈ ky_WS := ky_in 525 (by decide +kernel) (by decide +kernel)
theorem km_559 : Cond.methodLink RL 38 yX6_verify ∈ ky_WS := ky_in 559 (by decide +kernel) (by decide +kernel)
theorem km_567 : Cond.classLink RL 44 xA ∈ ky_WS := ky_in 567 (by decide +kernel) (by decide +kernel)
theorem km_568 : Cond.classLink RL 46 xN ∈ ky_WS := ky_in 568 (by decide +kernel) (by decide +kernel)
theorem km_569 : Cond.methodLink RL 41 yX6_follows ∈ ky_WS := ky_in 569 (by decide +kernel) (by decide +kernel)
theorem km_610 : Cond.methodLink RL 48 yX6_shown ∈ ky_WS := ky_in 610 (by decide +kernel) (by decide +kernel)
theorem km_619 : Cond.methodLink RL 51 yX6_cube ∈ ky_WS := ky_in 619 (by decide +kernel) (by decide +kernel)
theorem km_628 : Cond.methodLink RL 54 yX6_node ∈ ky_WS := ky_in 628 (by decide +kernel) (by decide +kernel)
abbrev hh_relation : List (Nat × Nat × Nat × Nat) := [(0, 9, 12, 13), (0, 9, 15, 15)]
set_option maxHeartbeats 4000000 in
theorem kl_relation (l : Launch) (C : Cc) (cJ : ClassId) (ad : Nat → Nat) (I : Mm) (o : Nat) (f : Nat → Int64) (v1 : Int32) (sz : Nat) {post : Int32 → Mm → Prop} {px : Int32 → Mm → Prop} {P : Int32 → Mm × (Nat → Int64) → Prop} (hP : ∀ r u, kl_po post px r u → P r u) (hw : w_X6_relation (cl_Y ad) I 0 v1 post (kl_xp [(xI, 1), (xS, 2)] px)) : kl_M l yL_relation cL_relation 4 hh_relation C cJ (cl_Y ad) I o f [.ref (ad 0), .int v1, .ref o] sz P := by
  refine kl_met (by decide) (Nat.le_of_ble_eq_true rfl) ?_
  intro p e s m args below meth c A X hr hT hJ hZ
  have X : kq_X p s m args meth c C cL_relation 4 RL A := X
  show kq_G p l e kl_rm s m args below meth c C A 4 _ 0 [(0, .ref (ad 0)), (1, .int v1), (2, .ref o)] [] 0 0 _
  refine kq_aload_n X 2 dL_relation_0 rfl rfl ?_
  refine kq_iconst (v := (0 : Int32)) X dL_relation_1 (by decide) ?_
  refine kq_aload_n X 0 dL_relation_2 rfl rfl ?_
  refine kq_iload_n X 1 dL_relation_3 rfl rfl ?_
  refine kl_call (n := 1) (As := [.int v1]) (ci := 6) (st := [.int 0, .ref o]) (tb := tableOf hh_relation) X hZ hT (fun A' => c_X6_relation l C (cl_Y ad) A' I 0 v1 _ _ hw) kc_6 cy_0 rfl iv_X6_relation km_307 ⟨by decide, by decide, by decide +kernel⟩ ⟨rfl, rfl, by decide, by decide⟩ ⟨by decide, by decide⟩ rfl rfl (Nat.le_of_ble_eq_true rfl) dL_relation_4 (fun E J hxp => ?_) (fun r J hp => ?_)
  · obtain ⟨k, hm, hx⟩ := hxp
    simp only [List.mem_cons, Prod.mk.injEq, List.not_mem_nil, or_false] at hm
    rcases hm with ⟨rfl, rfl⟩ | ⟨rfl, rfl⟩
    · refine ⟨12, ⟨[], ⟨0, 9, 12, 13⟩, [⟨0, 9, 15, 15⟩], rfl, (fun _ h => absurd h List.not_mem_nil), by decide, by decide, km_305, List.mem_append_right _ (List.mem_of_getElem? (i := 313) (by decide +kernel)), rfl⟩, fun q9 => ?_⟩
      refine kq_astore_n (lv' := [(3, .ref q9), (0, .ref (ad 0)), (1, .int v1), (2, .ref o)]) X dL_relation_12 rfl (by decide) rfl ?_
      refine kq_iconst (v := (1 : Int32)) X dL_relation_13 (by decide) ?_
      exact kl_iret X hr (hP _ _ (Or.inr ⟨by decide, hx⟩)) dL_relation_14
    · refine ⟨15, ⟨[⟨0, 9, 12, 13⟩], ⟨0, 9, 15, 15⟩, [], rfl, (List.forall_mem_cons.mpr ⟨⟨by decide, by decide, xI, km_305, by decide⟩, (fun _ h => absurd h List.not_mem_nil)⟩), by decide, by decide, km_306, List.mem_append_right _ (List.mem_of_getElem? (i := 382) (by decide +kernel)), rfl⟩, fun q9 => ?_⟩
      refine kq_astore_n (lv' := [(3, .ref q9), (0, .ref (ad 0)), (1, .int v1), (2, .ref o)]) X dL_relation_15 rfl (by decide) rfl ?_
      refine kq_iconst (v := (2 : Int32)) X dL_relation_16 (by decide) ?_
      exact kl_iret X hr (hP _ _ (Or.inr ⟨by decide, hx⟩)) dL_relation_17
  · refine kq_i2l X dL_relation_7 ?_
    refine kq_last9 X hJ dL_relation_8 (fun g hg => ?_)
    refine kq_goto (tgt := 18) X dL_relation_9 (by decide) ?_
    refine kq_iconst (v := (0 : Int32)) X dL_relation_18 (by decide) ?_
    exact kl_iret X hr (hP _ _ (Or.inl ⟨rfl, r, hp, hg⟩)) dL_relation_19
abbrev hh_mark : List (Nat × Nat × Nat × Nat) := [(0, 14, 17, 13), (0, 14, 21, 15)]
set_option maxHeartbeats 4000000 in
theorem kl_mark (l : Launch) (C : Cc) (cJ : ClassId) (ad : Nat → Nat) (I : Mm) (o : Nat) (f : Nat → Int64) (v1 v2 v3 v4 : Int32) (sz : Nat) {post : Int32 → Mm → Prop} {px : Int32 → Mm → Prop} {P : Int32 → Mm × (Nat → Int64) → Prop} (hP : ∀ r u, kl_po post px r u → P r u) (hw : w_X6_mark (cl_Y ad) I 0 v1 v2 v3 v4 post (kl_xp [(xI, 1), (xS, 2)] px)) : kl_M l yL_mark cL_mark 7 hh_mark C cJ (cl_Y ad) I o f [.ref (ad 0), .int v1, .int v2, .int v3, .int v4, .ref o] sz P := by
  refine kl_met (by decide) (Nat.le_of_ble_eq_true rfl) ?_
  intro p e s m args below meth c A X hr hT hJ hZ
  have X : kq_X p s m args meth c C cL_mark 7 RL A := X
  show kq_G p l e kl_rm s m args below meth c C A 7 _ 0 [(0, .ref (ad 0)), (1, .int v1), (2, .int v2), (3, .int v3), (4, .int v4), (5, .ref o)] [] 0 0 _
  refine kq_aload X 5 dL_mark_0 rfl ?_
  refine kq_iconst (v := (0 : Int32)) X dL_mark_2 (by decide) ?_
  refine kq_aload_n X 0 dL_mark_3 rfl rfl ?_
  refine kq_iload_n X 1 dL_mark_4 rfl rfl ?_
  refine kq_iload_n X 2 dL_mark_5 rfl rfl ?_
  refine kq_iload_n X 3 dL_mark_6 rfl rfl ?_
  refine kq_iload X 4 dL_mark_7 rfl ?_
  refine kl_call (n := 4) (As := [.int v1, .int v2, .int v3, .int v4]) (ci := 6) (st := [.int 0, .ref o]) (tb := tableOf hh_mark) X hZ hT (fun A' => c_X6_mark l C (cl_Y ad) A' I 0 v1 v2 v3 v4 _ _ hw) kc_6 cy_0 rfl iv_X6_mark km_399 ⟨by decide, by decide, by decide +kernel⟩ ⟨rfl, rfl, by decide, by decide⟩ ⟨by decide, by decide⟩ rfl rfl (Nat.le_of_ble_eq_true rfl) dL_mark_9 (fun E J hxp => ?_) (fun r J hp => ?_)
  · obtain ⟨k, hm, hx⟩ := hxp
    simp only [List.mem_cons, Prod.mk.injEq, List.not_mem_nil, or_false] at hm
    rcases hm with ⟨rfl, rfl⟩ | ⟨rfl, rfl⟩
    · refine ⟨17, ⟨[], ⟨0, 14, 17, 13⟩, [⟨0, 14, 21, 15⟩], rfl, (fun _ h => absurd h List.not_mem_nil), by decide, by decide, km_305, List.mem_append_right _ (List.mem_of_getElem? (i := 313) (by decide +kernel)), rfl⟩, fun q9 => ?_⟩
      refine kq_astore (lv' := [(6, .ref q9), (0, .ref (ad 0)), (1, .int v1), (2, .int v2), (3, .int v3), (4, .int v4), (5, .ref o)]) X dL_mark_17 (by decide) rfl ?_
      refine kq_iconst (v := (1 : Int32)) X dL_mark_19 (by decide) ?_
      exact kl_iret X hr (hP _ _ (Or.inr ⟨by decide, hx⟩)) dL_mark_20
    · refine ⟨21, ⟨[⟨0, 14, 17, 13⟩], ⟨0, 14, 21, 15⟩, [], rfl, (List.forall_mem_cons.mpr ⟨⟨by decide, by decide, xI, km_305, by decide⟩, (fun _ h => absurd h List.not_mem_nil)⟩), by decide, by decide, km_306, List.mem_append_right _ (List.mem_of_getElem? (i := 382) (by decide +kernel)), rfl⟩, fun q9 => ?_⟩
      refine kq_astore (lv' := [(6, .ref q9), (0, .ref (ad 0)), (1, .int v1), (2, .int v2), (3, .int v3), (4, .int v4), (5, .ref o)]) X dL_mark_21 (by decide) rfl ?_
      refine kq_iconst (v := (2 : Int32)) X dL_mark_23 (by decide) ?_
      exact kl_iret X hr (hP _ _ (Or.inr ⟨by decide, hx⟩)) dL_mark_24
  · refine kq_i2l X dL_mark_12 ?_
    refine kq_last9 X hJ dL_mark_13 (fun g hg => ?_)
    refine kq_goto (tgt := 25) X dL_mark_14 (by decide) ?_
    refine kq_iconst (v := (0 : Int32)) X dL_mark_25 (by decide) ?_
    exact kl_iret X hr (hP _ _ (Or.inl ⟨rfl, r, hp, hg⟩)) dL_mark_26
abbrev hh_clause : List (Nat × Nat × Nat × Nat) := [(0, 12, 15, 13), (0, 12, 19, 15)]
set_option maxHeartbeats 4000000 in
theorem kl_clause (l : Launch) (C : Cc) (cJ : ClassId) (ad : Nat → Nat) (I : Mm) (o : Nat) (f : Nat → Int64) (v1 v2 v3 : Int32) (sz : Nat) {post : Int32 → Mm → Prop} {px : Int32 → Mm → Prop} {P : Int32 → Mm × (Nat → Int64) → Prop} (hP : ∀ r u, kl_po post px r u → P r u) (hw : w_X6_clause (cl_Y ad) I 0 v1 v2 v3 post (kl_xp [(xI, 1), (xS, 2)] px)) : kl_M l yL_clause cL_clause 6 hh_clause C cJ (cl_Y ad) I o f [.ref (ad 0), .int v1, .int v2, .int v3, .ref o] sz P := by
  refine kl_met (by decide) (Nat.le_of_ble_eq_true rfl) ?_
  intro p e s m args below meth c A X hr hT hJ hZ
  have X : kq_X p s m args meth c C cL_clause 6 RL A := X
  show kq_G p l e kl_rm s m args below meth c C A 6 _ 0 [(0, .ref (ad 0)), (1, .int v1), (2, .int v2), (3, .int v3), (4, .ref o)] [] 0 0 _
  refine kq_aload X 4 dL_clause_0 rfl ?_
  refine kq_iconst (v := (0 : Int32)) X dL_clause_2 (by decide) ?_
  refine kq_aload_n X 0 dL_clause_3 rfl rfl ?_
  refine kq_iload_n X 1 dL_clause_4 rfl rfl ?_
  refine kq_iload_n X 2 dL_clause_5 rfl rfl ?_
  refine kq_iload_n X 3 dL_clause_6 rfl rfl ?_
  refine kl_call (n := 3) (As := [.int v1, .int v2, .int v3]) (ci := 6) (st := [.int 0, .ref o]) (tb := tableOf hh_clause) X hZ hT (fun A' => c_X6_clause l C (cl_Y ad) A' I 0 v1 v2 v3 _ _ hw) kc_6 cy_0 rfl iv_X6_clause km_435 ⟨by decide, by decide, by decide +kernel⟩ ⟨rfl, rfl, by decide, by decide⟩ ⟨by decide, by decide⟩ rfl rfl (Nat.le_of_ble_eq_true rfl) dL_clause_7 (fun E J hxp => ?_) (fun r J hp => ?_)
  · obtain ⟨k, hm, hx⟩ := hxp
    simp only [List.mem_cons, Prod.mk.injEq, List.not_mem_nil, or_false] at hm
    rcases hm with ⟨rfl, rfl⟩ | ⟨rfl, rfl⟩
    · refine ⟨15, ⟨[], ⟨0, 12, 15, 13⟩, [⟨0, 12, 19, 15⟩], rfl, (fun _ h => absurd h List.not_mem_nil), by decide, by decide, km_305, List.mem_append_right _ (List.mem_of_getElem? (i := 313) (by decide +kernel)), rfl⟩, fun q9 => ?_⟩
      refine kq_astore (lv' := [(5, .ref q9), (0, .ref (ad 0)), (1, .int v1), (2, .int v2), (3, .int v3), (4, .ref o)]) X dL_clause_15 (by decide) rfl ?_
      refine kq_iconst (v := (1 : Int32)) X dL_clause_17 (by decide) ?_
      exact kl_iret X hr (hP _ _ (Or.inr ⟨by decide, hx⟩)) dL_clause_18
    · refine ⟨19, ⟨[⟨0, 12, 15, 13⟩], ⟨0, 12, 19, 15⟩, [], rfl, (List.forall_mem_cons.mpr ⟨⟨by decide, by decide, xI, km_305, by decide⟩, (fun _ h => absurd h List.not_mem_nil)⟩), by decide, by decide, km_306, List.mem_append_right _ (List.mem_of_getElem? (i := 382) (by decide +kernel)), rfl⟩, fun q9 => ?_⟩
      refine kq_astore (lv' := [(5, .ref q9), (0, .ref (ad 0)), (1, .int v1), (2, .int v2), (3, .int v3), (4, .ref o)]) X dL_clause_19 (by decide) rfl ?_
      refine kq_iconst (v := (2 : Int32)) X dL_clause_21 (by decide) ?_
      exact kl_iret X hr (hP _ _ (Or.inr ⟨by decide, hx⟩)) dL_clause_22
  · refine kq_i2l X dL_clause_10 ?_
    refine kq_last9 X hJ dL_clause_11 (fun g hg => ?_)
    refine kq_goto (tgt := 23) X dL_clause_12 (by decide) ?_
    refine kq_iconst (v := (0 : Int32)) X dL_clause_23 (by decide) ?_
    exact kl_iret X hr (hP _ _ (Or.inl ⟨rfl, r, hp, hg⟩)) dL_clause_24
abbrev hh_atom : List (Nat × Nat × Nat × Nat) := [(0, 12, 15, 13), (0, 12, 19, 15)]
set_option maxHeartbeats 4000000 in
theorem kl_atom (l : Launch) (C : Cc) (cJ : ClassId) (ad : Nat → Nat) (I : Mm) (o : Nat) (f : Nat → Int64) (v1 v2 v3 : Int32) (sz : Nat) {post : Int32 → Mm → Prop} {px : Int32 → Mm → Prop} {P : Int32 → Mm × (Nat → Int64) → Prop} (hP : ∀ r u, kl_po post px r u → P r u) (hw : w_X6_atom (cl_Y ad) I 0 v1 v2 v3 post (kl_xp [(xI, 1), (xS, 2)] px)) : kl_M l yL_atom cL_atom 6 hh_atom C cJ (cl_Y ad) I o f [.ref (ad 0), .int v1, .int v2, .int v3, .ref o] sz P := by
  refine kl_met (by decide) (Nat.le_of_ble_eq_true rfl) ?_
  intro p e s m args below meth c A X hr hT hJ hZ
  have X : kq_X p s m args meth c C cL_atom 6 RL A := X
  show kq_G p l e kl_rm s m args below meth c C A 6 _ 0 [(0, .ref (ad 0)), (1, .int v1), (2, .int v2), (3, .int v3), (4, .ref o)] [] 0 0 _
  refine kq_aload X 4 dL_atom_0 rfl ?_
  refine kq_iconst (v := (0 : Int32)) X dL_atom_2 (by decide) ?_
  refine kq_aload_n X 0 dL_atom_3 rfl rfl ?_
  refine kq_iload_n X 1 dL_atom_4 rfl rfl ?_
  refine kq_iload_n X 2 dL_atom_5 rfl rfl ?_
  refine kq_iload_n X 3 dL_atom_6 rfl rfl ?_
  refine kl_call (n := 3) (As := [.int v1, .int v2, .int v3]) (ci := 6) (st := [.int 0, .ref o]) (tb := tableOf hh_atom) X hZ hT (fun A' => c_X6_atom l C (cl_Y ad) A' I 0 v1 v2 v3 _ _ hw) kc_6 cy_0 rfl iv_X6_atom km_455 ⟨by decide, by decide, by decide +kernel⟩ ⟨rfl, rfl, by decide, by decide⟩ ⟨by decide, by decide⟩ rfl rfl (Nat.le_of_ble_eq_true rfl) dL_atom_7 (fun E J hxp => ?_) (fun r J hp => ?_)
  · obtain ⟨k, hm, hx⟩ := hxp
    simp only [List.mem_cons, Prod.mk.injEq, List.not_mem_nil, or_false] at hm
    rcases hm with ⟨rfl, rfl⟩ | ⟨rfl, rfl⟩
    · refine ⟨15, ⟨[], ⟨0, 12, 15, 13⟩, [⟨0, 12, 19, 15⟩], rfl, (fun _ h => absurd h List.not_mem_nil), by decide, by decide, km_305, List.mem_append_right _ (List.mem_of_getElem? (i := 313) (by decide +kernel)), rfl⟩, fun q9 => ?_⟩
      refine kq_astore (lv' := [(5, .ref q9), (0, .ref (ad 0)), (1, .int v1), (2, .int v2), (3, .int v3), (4, .ref o)]) X dL_atom_15 (by decide) rfl ?_
      refine kq_iconst (v := (1 : Int32)) X dL_atom_17 (by decide) ?_
      exact kl_iret X hr (hP _ _ (Or.inr ⟨by decide, hx⟩)) dL_atom_18
    · refine ⟨19, ⟨[⟨0, 12, 15, 13⟩], ⟨0, 12, 19, 15⟩, [], rfl, (List.forall_mem_cons.mpr ⟨⟨by decide, by decide, xI, km_305, by decide⟩, (fun _ h => absurd h List.not_mem_nil)⟩), by decide, by decide, km_306, List.mem_append_right _ (List.mem_of_getElem? (i := 382) (by decide +kernel)), rfl⟩, fun q9 => ?_⟩
      refine kq_astore (lv' := [(5, .ref q9), (0, .ref (ad 0)), (1, .int v1), (2, .int v2), (3, .int v3), (4, .ref o)]) X dL_atom_19 (by decide) rfl ?_
      refine kq_iconst (v := (2 : Int32)) X dL_atom_21 (by decide) ?_
      exact kl_iret X hr (hP _ _ (Or.inr ⟨by decide, hx⟩)) dL_atom_22
  · refine kq_i2l X dL_atom_10 ?_
    refine kq_last9 X hJ dL_atom_11 (fun g hg => ?_)
    refine kq_goto (tgt := 23) X dL_atom_12 (by decide) ?_
    refine kq_iconst (v := (0 : Int32)) X dL_atom_23 (by decide) ?_
    exact kl_iret X hr (hP _ _ (Or.inl ⟨rfl, r, hp, hg⟩)) dL_atom_24
abbrev hh_bound : List (Nat × Nat × Nat × Nat) := [(0, 12, 15, 13), (0, 12, 19, 15)]
set_option maxHeartbeats 4000000 in
theorem kl_bound (l : Launch) (C : Cc) (cJ : ClassId) (ad : Nat → Nat) (I : Mm) (o : Nat) (f : Nat → Int64) (v1 v2 v3 : Int32) (sz : Nat) {post : Int32 → Mm → Prop} {px : Int32 → Mm → Prop} {P : Int32 → Mm × (Nat → Int64) → Prop} (hP : ∀ r u, kl_po post px r u → P r u) (hw : w_X6_bound (cl_Y ad) I 0 v1 v2 v3 post (kl_xp [(xI, 1), (xS, 2)] px)) : kl_M l yL_bound cL_bound 6 hh_bound C cJ (cl_Y ad) I o f [.ref (ad 0), .int v1, .int v2, .int v3, .ref o] sz P := by
  refine kl_met (by decide) (Nat.le_of_ble_eq_true rfl) ?_
  intro p e s m args below meth c A X hr hT hJ hZ
  have X : kq_X p s m args meth c C cL_bound 6 RL A := X
  show kq_G p l e kl_rm s m args below meth c C A 6 _ 0 [(0, .ref (ad 0)), (1, .int v1), (2, .int v2), (3, .int v3), (4, .ref o)] [] 0 0 _
  refine kq_aload X 4 dL_bound_0 rfl ?_
  refine kq_iconst (v := (0 : Int32)) X dL_bound_2 (by decide) ?_
  refine kq_aload_n X 0 dL_bound_3 rfl rfl ?_
  refine kq_iload_n X 1 dL_bound_4 rfl rfl ?_
  refine kq_iload_n X 2 dL_bound_5 rfl rfl ?_
  refine kq_iload_n X 3 dL_bound_6 rfl rfl ?_
  refine kl_call (n := 3) (As := [.int v1, .int v2, .int v3]) (ci := 6) (st := [.int 0, .ref o]) (tb := tableOf hh_bound) X hZ hT (fun A' => c_X6_bound l C (cl_Y ad) A' I 0 v1 v2 v3 _ _ hw) kc_6 cy_0 rfl iv_X6_bound km_463 ⟨by decide, by decide, by decide +kernel⟩ ⟨rfl, rfl, by decide, by decide⟩ ⟨by decide, by decide⟩ rfl rfl (Nat.le_of_ble_eq_true rfl) dL_bound_7 (fun E J hxp => ?_) (fun r J hp => ?_)
  · obtain ⟨k, hm, hx⟩ := hxp
    simp only [List.mem_cons, Prod.mk.injEq, List.not_mem_nil, or_false] at hm
    rcases hm with ⟨rfl, rfl⟩ | ⟨rfl, rfl⟩
    · refine ⟨15, ⟨[], ⟨0, 12, 15, 13⟩, [⟨0, 12, 19, 15⟩], rfl, (fun _ h => absurd h List.not_mem_nil), by decide, by decide, km_305, List.mem_append_right _ (List.mem_of_getElem? (i := 313) (by decide +kernel)), rfl⟩, fun q9 => ?_⟩
      refine kq_astore (lv' := [(5, .ref q9), (0, .ref (ad 0)), (1, .int v1), (2, .int v2), (3, .int v3), (4, .ref o)]) X dL_bound_15 (by decide) rfl ?_
      refine kq_iconst (v := (1 : Int32)) X dL_bound_17 (by decide) ?_
      exact kl_iret X hr (hP _ _ (Or.inr ⟨by decide, hx⟩)) dL_bound_18
    · refine ⟨19, ⟨[⟨0, 12, 15, 13⟩], ⟨0, 12, 19, 15⟩, [], rfl, (List.forall_mem_cons.mpr ⟨⟨by decide, by decide, xI, km_305, by decide⟩, (fun _ h => absurd h List.not_mem_nil)⟩), by decide, by decide, km_306, List.mem_append_right _ (List.mem_of_getElem? (i := 382) (by decide +kernel)), rfl⟩, fun q9 => ?_⟩
      refine kq_astore (lv' := [(5, .ref q9), (0, .ref (ad 0)), (1, .int v1), (2, .int v2), (3, .int v3), (4, .ref o)]) X dL_bound_19 (by decide) rfl ?_
      refine kq_iconst (v := (2 : Int32)) X dL_bound_21 (by decide) ?_
      exact kl_iret X hr (hP _ _ (Or.inr ⟨by decide, hx⟩)) dL_bound_22
  · refine kq_i2l X dL_bound_10 ?_
    refine kq_last9 X hJ dL_bound_11 (fun g hg => ?_)
    refine kq_goto (tgt := 23) X dL_bound_12 (by decide) ?_
    refine kq_iconst (v := (0 : Int32)) X dL_bound_23 (by decide) ?_
    exact kl_iret X hr (hP _ _ (Or.inl ⟨rfl, r, hp, hg⟩)) dL_bound_24
abbrev hh_round : List (Nat × Nat × Nat × Nat) := [(0, 8, 11, 15)]
set_option maxHeartbeats 4000000 in
theorem kl_round (l : Launch) (C : Cc) (cJ : ClassId) (ad : Nat → Nat) (I : Mm) (o : Nat) (f : Nat → Int64) (sz : Nat) {post : Int32 → Mm → Prop} {px : Int32 → Mm → Prop} {P : Int32 → Mm × (Nat → Int64) → Prop} (hP : ∀ r u, kl_po post px r u → P r u) (hw : w_X6_round (cl_Y ad) I 0 post (kl_xp [(xS, 1)] px)) : kl_M l yL_round cL_round 3 hh_round C cJ (cl_Y ad) I o f [.ref (ad 0), .ref o] sz P := by
  refine kl_met (by decide) (Nat.le_of_ble_eq_true rfl) ?_
  intro p e s m args below meth c A X hr hT hJ hZ
  have X : kq_X p s m args meth c C cL_round 3 RL A := X
  show kq_G p l e kl_rm s m args below meth c C A 3 _ 0 [(0, .ref (ad 0)), (1, .ref o)] [] 0 0 _
  refine kq_aload_n X 1 dL_round_0 rfl rfl ?_
  refine kq_iconst (v := (0 : Int32)) X dL_round_1 (by decide) ?_
  refine kq_aload_n X 0 dL_round_2 rfl rfl ?_
  refine kl_call (n := 0) (As := []) (ci := 6) (st := [.int 0, .ref o]) (tb := tableOf hh_round) X hZ hT (fun A' => c_X6_round l C (cl_Y ad) A' I 0 _ _ hw) kc_6 cy_0 rfl iv_X6_round km_477 ⟨by decide, by decide, by decide +kernel⟩ ⟨rfl, rfl, by decide, by decide⟩ ⟨by decide, by decide⟩ rfl rfl (Nat.le_of_ble_eq_true rfl) dL_round_3 (fun E J hxp => ?_) (fun r J hp => ?_)
  · obtain ⟨k, hm, hx⟩ := hxp
    simp only [List.mem_cons, Prod.mk.injEq, List.not_mem_nil, or_false] at hm
    obtain ⟨rfl, rfl⟩ := hm
    refine ⟨11, ⟨[], ⟨0, 8, 11, 15⟩, [], rfl, (fun _ h => absurd h List.not_mem_nil), by decide, by decide, km_306, List.mem_append_right _ (List.mem_of_getElem? (i := 382) (by decide +kernel)), rfl⟩, fun q9 => ?_⟩
    refine kq_astore_n (lv' := [(2, .ref q9), (0, .ref (ad 0)), (1, .ref o)]) X dL_round_11 rfl (by decide) rfl ?_
    refine kq_iconst (v := (1 : Int32)) X dL_round_12 (by decide) ?_
    exact kl_iret X hr (hP _ _ (Or.inr ⟨by decide, hx⟩)) dL_round_13
  · refine kq_i2l X dL_round_6 ?_
    refine kq_last9 X hJ dL_round_7 (fun g hg => ?_)
    refine kq_goto (tgt := 14) X dL_round_8 (by decide) ?_
    refine kq_iconst (v := (0 : Int32)) X dL_round_14 (by decide) ?_
    exact kl_iret X hr (hP _ _ (Or.inl ⟨rfl, r, hp, hg⟩)) dL_round_15
abbrev hh_refine : List (Nat × Nat × Nat × Nat) := [(0, 8, 11, 15)]
set_option maxHeartbeats 4000000 in
theorem kl_refine (l : Launch) (C : Cc) (cJ : ClassId) (ad : Nat → Nat) (I : Mm) (o : Nat) (f : Nat → Int64) (sz : Nat) {post : Int32 → Mm → Prop} {px : Int32 → Mm → Prop} {P : Int32 → Mm × (Nat → Int64) → Prop} (hP : ∀ r u, kl_po post px r u → P r u) (hw : w_X6_refine (cl_Y ad) I 0 post (kl_xp [(xS, 1)] px)) : kl_M l yL_refine cL_refine 3 hh_refine C cJ (cl_Y ad) I o f [.ref (ad 0), .ref o] sz P := by
  refine kl_met (by decide) (Nat.le_of_ble_eq_true rfl) ?_
  intro p e s m args below meth c A X hr hT hJ hZ
  have X : kq_X p s m args meth c C cL_refine 3 RL A := X
  show kq_G p l e kl_rm s m args below meth c C A 3 _ 0 [(0, .ref (ad 0)), (1, .ref o)] [] 0 0 _
  refine kq_aload_n X 1 dL_refine_0 rfl rfl ?_
  refine kq_iconst (v := (0 : Int32)) X dL_refine_1 (by decide) ?_
  refine kq_aload_n X 0 dL_refine_2 rfl rfl ?_
  refine kl_call (n := 0) (As := []) (ci := 6) (st := [.int 0, .ref o]) (tb := tableOf hh_refine) X hZ hT (fun A' => c_X6_refine l C (cl_Y ad) A' I 0 _ _ hw) kc_6 cy_0 rfl iv_X6_refine km_525 ⟨by decide, by decide, by decide +kernel⟩ ⟨rfl, rfl, by decide, by decide⟩ ⟨by decide, by decide⟩ rfl rfl (Nat.le_of_ble_eq_true rfl) dL_refine_3 (fun E J hxp => ?_) (fun r J hp => ?_)
  · obtain ⟨k, hm, hx⟩ := hxp
    simp only [List.mem_cons, Prod.mk.injEq, List.not_mem_nil, or_false] at hm
    obtain ⟨rfl, rfl⟩ := hm
    refine ⟨11, ⟨[], ⟨0, 8, 11, 15⟩, [], rfl, (fun _ h => absurd h List.not_mem_nil), by decide, by decide, km_306, List.mem_append_right _ (List.mem_of_getElem? (i := 382) (by decide +kernel)), rfl⟩, fun q9 => ?_⟩
    refine kq_astore_n (lv' := [(2, .ref q9), (0, .ref (ad 0)), (1, .ref o)]) X dL_refine_11 rfl (by decide) rfl ?_
    refine kq_iconst (v := (1 : Int32)) X dL_refine_12 (by decide) ?_
    exact kl_iret X hr (hP _ _ (Or.inr ⟨by decide, hx⟩)) dL_refine_13
  · refine kq_i2l X dL_refine_6 ?_
    refine kq_last9 X hJ dL_refine_7 (fun g hg => ?_)
    refine kq_goto (tgt := 14) X dL_refine_8 (by decide) ?_
    refine kq_iconst (v := (0 : Int32)) X dL_refine_14 (by decide) ?_
    exact kl_iret X hr (hP _ _ (Or.inl ⟨rfl, r, hp, hg⟩)) dL_refine_15
abbrev hh_verify : List (Nat × Nat × Nat × Nat) := [(0, 9, 12, 13)]
set_option maxHeartbeats 4000000 in
theorem kl_verify (l : Launch) (C : Cc) (cJ : ClassId) (ad : Nat → Nat) (I : Mm) (o : Nat) (f : Nat → Int64) (v1 : Int32) (sz : Nat) {post : Int32 → Mm → Prop} {px : Int32 → Mm → Prop} {P : Int32 → Mm × (Nat → Int64) → Prop} (hP : ∀ r u, kl_po post px r u → P r u) (hw : w_X6_verify (cl_Y ad) I 0 v1 post (kl_xp [(xI, 1)] px)) : kl_M l yL_verify cL_verify 4 hh_verify C cJ (cl_Y ad) I o f [.ref (ad 0), .int v1, .ref o] sz P := by
  refine kl_met (by decide) (Nat.le_of_ble_eq_true rfl) ?_
  intro p e s m args below meth c A X hr hT hJ hZ
  have X : kq_X p s m args meth c C cL_verify 4 RL A := X
  show kq_G p l e kl_rm s m args below meth c C A 4 _ 0 [(0, .ref (ad 0)), (1, .int v1), (2, .ref o)] [] 0 0 _
  refine kq_aload_n X 2 dL_verify_0 rfl rfl ?_
  refine kq_iconst (v := (0 : Int32)) X dL_verify_1 (by decide) ?_
  refine kq_aload_n X 0 dL_verify_2 rfl rfl ?_
  refine kq_iload_n X 1 dL_verify_3 rfl rfl ?_
  refine kl_call (n := 1) (As := [.int v1]) (ci := 6) (st := [.int 0, .ref o]) (tb := tableOf hh_verify) X hZ hT (fun A' => c_X6_verify l C (cl_Y ad) A' I 0 v1 _ _ hw) kc_6 cy_0 rfl iv_X6_verify km_559 ⟨by decide, by decide, by decide +kernel⟩ ⟨rfl, rfl, by decide, by decide⟩ ⟨by decide, by decide⟩ rfl rfl (Nat.le_of_ble_eq_true rfl) dL_verify_4 (fun E J hxp => ?_) (fun r J hp => ?_)
  · obtain ⟨k, hm, hx⟩ := hxp
    simp only [List.mem_cons, Prod.mk.injEq, List.not_mem_nil, or_false] at hm
    obtain ⟨rfl, rfl⟩ := hm
    refine ⟨12, ⟨[], ⟨0, 9, 12, 13⟩, [], rfl, (fun _ h => absurd h List.not_mem_nil), by decide, by decide, km_305, List.mem_append_right _ (List.mem_of_getElem? (i := 313) (by decide +kernel)), rfl⟩, fun q9 => ?_⟩
    refine kq_astore_n (lv' := [(3, .ref q9), (0, .ref (ad 0)), (1, .int v1), (2, .ref o)]) X dL_verify_12 rfl (by decide) rfl ?_
    refine kq_iconst (v := (1 : Int32)) X dL_verify_13 (by decide) ?_
    exact kl_iret X hr (hP _ _ (Or.inr ⟨by decide, hx⟩)) dL_verify_14
  · refine kq_i2l X dL_verify_7 ?_
    refine kq_last9 X hJ dL_verify_8 (fun g hg => ?_)
    refine kq_goto (tgt := 15) X dL_verify_9 (by decide) ?_
    refine kq_iconst (v := (0 : Int32)) X dL_verify_15 (by decide) ?_
    exact kl_iret X hr (hP _ _ (Or.inl ⟨rfl, r, hp, hg⟩)) dL_verify_16
abbrev hh_follows : List (Nat × Nat × Nat × Nat) := [(0, 12, 15, 13), (0, 12, 19, 44), (0, 12, 23, 46)]
set_option maxHeartbeats 4000000 in
theorem kl_follows (l : Launch) (C : Cc) (cJ : ClassId) (ad : Nat → Nat) (I : Mm) (o : Nat) (f : Nat → Int64) (v1 v2 v3 : Int32) (sz : Nat) {post : Int32 → Mm → Prop} {px : Int32 → Mm → Prop} {P : Int32 → Mm × (Nat → Int64) → Prop} (hP : ∀ r u, kl_po post px r u → P r u) (hw : w_X6_follows (cl_Y ad) I 0 v1 v2 v3 post (kl_xp [(xI, 1), (xA, 2), (xN, 3)] px)) : kl_M l yL_follows cL_follows 6 hh_follows C cJ (cl_Y ad) I o f [.ref (ad 0), .int v1, .int v2, .int v3, .ref o] sz P := by
  refine kl_met (by decide) (Nat.le_of_ble_eq_true rfl) ?_
  intro p e s m args below meth c A X hr hT hJ hZ
  have X : kq_X p s m args meth c C cL_follows 6 RL A := X
  show kq_G p l e kl_rm s m args below meth c C A 6 _ 0 [(0, .ref (ad 0)), (1, .int v1), (2, .int v2), (3, .int v3), (4, .ref o)] [] 0 0 _
  refine kq_aload X 4 dL_follows_0 rfl ?_
  refine kq_iconst (v := (0 : Int32)) X dL_follows_2 (by decide) ?_
  refine kq_aload_n X 0 dL_follows_3 rfl rfl ?_
  refine kq_iload_n X 1 dL_follows_4 rfl rfl ?_
  refine kq_iload_n X 2 dL_follows_5 rfl rfl ?_
  refine kq_iload_n X 3 dL_follows_6 rfl rfl ?_
  refine kl_call (n := 3) (As := [.int v1, .int v2, .int v3]) (ci := 6) (st := [.int 0, .ref o]) (tb := tableOf hh_follows) X hZ hT (fun A' => c_X6_follows l C (cl_Y ad) A' I 0 v1 v2 v3 _ _ hw) kc_6 cy_0 rfl iv_X6_follows km_569 ⟨by decide, by decide, by decide +kernel⟩ ⟨rfl, rfl, by decide, by decide⟩ ⟨by decide, by decide⟩ rfl rfl (Nat.le_of_ble_eq_true rfl) dL_follows_7 (fun E J hxp => ?_) (fun r J hp => ?_)
  · obtain ⟨k, hm, hx⟩ := hxp
    simp only [List.mem_cons, Prod.mk.injEq, List.not_mem_nil, or_false] at hm
    rcases hm with ⟨rfl, rfl⟩ | ⟨rfl, rfl⟩ | ⟨rfl, rfl⟩
    · refine ⟨15, ⟨[], ⟨0, 12, 15, 13⟩, [⟨0, 12, 19, 44⟩, ⟨0, 12, 23, 46⟩], rfl, (fun _ h => absurd h List.not_mem_nil), by decide, by decide, km_305, List.mem_append_right _ (List.mem_of_getElem? (i := 313) (by decide +kernel)), rfl⟩, fun q9 => ?_⟩
      refine kq_astore (lv' := [(5, .ref q9), (0, .ref (ad 0)), (1, .int v1), (2, .int v2), (3, .int v3), (4, .ref o)]) X dL_follows_15 (by decide) rfl ?_
      refine kq_iconst (v := (1 : Int32)) X dL_follows_17 (by decide) ?_
      exact kl_iret X hr (hP _ _ (Or.inr ⟨by decide, hx⟩)) dL_follows_18
    · refine ⟨19, ⟨[⟨0, 12, 15, 13⟩], ⟨0, 12, 19, 44⟩, [⟨0, 12, 23, 46⟩], rfl, (List.forall_mem_cons.mpr ⟨⟨by decide, by decide, xI, km_305, by decide⟩, (fun _ h => absurd h List.not_mem_nil)⟩), by decide, by decide, km_567, List.mem_append_right _ (List.mem_of_getElem? (i := 576) (by decide +kernel)), rfl⟩, fun q9 => ?_⟩
      refine kq_astore (lv' := [(5, .ref q9), (0, .ref (ad 0)), (1, .int v1), (2, .int v2), (3, .int v3), (4, .ref o)]) X dL_follows_19 (by decide) rfl ?_
      refine kq_iconst (v := (2 : Int32)) X dL_follows_21 (by decide) ?_
      exact kl_iret X hr (hP _ _ (Or.inr ⟨by decide, hx⟩)) dL_follows_22
    · refine ⟨23, ⟨[⟨0, 12, 15, 13⟩, ⟨0, 12, 19, 44⟩], ⟨0, 12, 23, 46⟩, [], rfl, (List.forall_mem_cons.mpr ⟨⟨by decide, by decide, xI, km_305, by decide⟩, (List.forall_mem_cons.mpr ⟨⟨by decide, by decide, xA, km_567, by decide⟩, (fun _ h => absurd h List.not_mem_nil)⟩)⟩), by decide, by decide, km_568, List.mem_append_right _ (List.mem_of_getElem? (i := 593) (by decide +kernel)), rfl⟩, fun q9 => ?_⟩
      refine kq_astore (lv' := [(5, .ref q9), (0, .ref (ad 0)), (1, .int v1), (2, .int v2), (3, .int v3), (4, .ref o)]) X dL_follows_23 (by decide) rfl ?_
      refine kq_iconst (v := (3 : Int32)) X dL_follows_25 (by decide) ?_
      exact kl_iret X hr (hP _ _ (Or.inr ⟨by decide, hx⟩)) dL_follows_26
  · refine kq_i2l X dL_follows_10 ?_
    refine kq_last9 X hJ dL_follows_11 (fun g hg => ?_)
    refine kq_goto (tgt := 27) X dL_follows_12 (by decide) ?_
    refine kq_iconst (v := (0 : Int32)) X dL_follows_27 (by decide) ?_
    exact kl_iret X hr (hP _ _ (Or.inl ⟨rfl, r, hp, hg⟩)) dL_follows_28
abbrev hh_shown : List (Nat × Nat × Nat × Nat) := [(0, 12, 15, 13), (0, 12, 19, 46)]
set_option maxHeartbeats 4000000 in
theorem kl_shown (l : Launch) (C : Cc) (cJ : ClassId) (ad : Nat → Nat) (I : Mm) (o : Nat) (f : Nat → Int64) (v1 v2 v3 : Int32) (sz : Nat) {post : Int32 → Mm → Prop} {px : Int32 → Mm → Prop} {P : Int32 → Mm × (Nat → Int64) → Prop} (hP : ∀ r u, kl_po post px r u → P r u) (hw : w_X6_shown (cl_Y ad) I 0 v1 v2 v3 post (kl_xp [(xI, 1), (xN, 2)] px)) : kl_M l yL_shown cL_shown 6 hh_shown C cJ (cl_Y ad) I o f [.ref (ad 0), .int v1, .int v2, .int v3, .ref o] sz P := by
  refine kl_met (by decide) (Nat.le_of_ble_eq_true rfl) ?_
  intro p e s m args below meth c A X hr hT hJ hZ
  have X : kq_X p s m args meth c C cL_shown 6 RL A := X
  show kq_G p l e kl_rm s m args below meth c C A 6 _ 0 [(0, .ref (ad 0)), (1, .int v1), (2, .int v2), (3, .int v3), (4, .ref o)] [] 0 0 _
  refine kq_aload X 4 dL_shown_0 rfl ?_
  refine kq_iconst (v := (0 : Int32)) X dL_shown_2 (by decide) ?_
  refine kq_aload_n X 0 dL_shown_3 rfl rfl ?_
  refine kq_iload_n X 1 dL_shown_4 rfl rfl ?_
  refine kq_iload_n X 2 dL_shown_5 rfl rfl ?_
  refine kq_iload_n X 3 dL_shown_6 rfl rfl ?_
  refine kl_call (n := 3) (As := [.int v1, .int v2, .int v3]) (ci := 6) (st := [.int 0, .ref o]) (tb := tableOf hh_shown) X hZ hT (fun A' => c_X6_shown l C (cl_Y ad) A' I 0 v1 v2 v3 _ _ hw) kc_6 cy_0 rfl iv_X6_shown km_610 ⟨by decide, by decide, by decide +kernel⟩ ⟨rfl, rfl, by decide, by decide⟩ ⟨by decide, by decide⟩ rfl rfl (Nat.le_of_ble_eq_true rfl) dL_shown_7 (fun E J hxp => ?_) (fun r J hp => ?_)
  · obtain ⟨k, hm, hx⟩ := hxp
    simp only [List.mem_cons, Prod.mk.injEq, List.not_mem_nil, or_false] at hm
    rcases hm with ⟨rfl, rfl⟩ | ⟨rfl, rfl⟩
    · refine ⟨15, ⟨[], ⟨0, 12, 15, 13⟩, [⟨0, 12, 19, 46⟩], rfl, (fun _ h => absurd h List.not_mem_nil), by decide, by decide, km_305, List.mem_append_right _ (List.mem_of_getElem? (i := 313) (by decide +kernel)), rfl⟩, fun q9 => ?_⟩
      refine kq_astore (lv' := [(5, .ref q9), (0, .ref (ad 0)), (1, .int v1), (2, .int v2), (3, .int v3), (4, .ref o)]) X dL_shown_15 (by decide) rfl ?_
      refine kq_iconst (v := (1 : Int32)) X dL_shown_17 (by decide) ?_
      exact kl_iret X hr (hP _ _ (Or.inr ⟨by decide, hx⟩)) dL_shown_18
    · refine ⟨19, ⟨[⟨0, 12, 15, 13⟩], ⟨0, 12, 19, 46⟩, [], rfl, (List.forall_mem_cons.mpr ⟨⟨by decide, by decide, xI, km_305, by decide⟩, (fun _ h => absurd h List.not_mem_nil)⟩), by decide, by decide, km_568, List.mem_append_right _ (List.mem_of_getElem? (i := 593) (by decide +kernel)), rfl⟩, fun q9 => ?_⟩
      refine kq_astore (lv' := [(5, .ref q9), (0, .ref (ad 0)), (1, .int v1), (2, .int v2), (3, .int v3), (4, .ref o)]) X dL_shown_19 (by decide) rfl ?_
      refine kq_iconst (v := (2 : Int32)) X dL_shown_21 (by decide) ?_
      exact kl_iret X hr (hP _ _ (Or.inr ⟨by decide, hx⟩)) dL_shown_22
  · refine kq_i2l X dL_shown_10 ?_
    refine kq_last9 X hJ dL_shown_11 (fun g hg => ?_)
    refine kq_goto (tgt := 23) X dL_shown_12 (by decide) ?_
    refine kq_iconst (v := (0 : Int32)) X dL_shown_23 (by decide) ?_
    exact kl_iret X hr (hP _ _ (Or.inl ⟨rfl, r, hp, hg⟩)) dL_shown_24
abbrev hh_cube : List (Nat × Nat × Nat × Nat) := [(0, 12, 15, 13)]
set_option maxHeartbeats 4000000 in
theorem kl_cube (l : Launch) (C : Cc) (cJ : ClassId) (ad : Nat → Nat) (I : Mm) (o : Nat) (f : Nat → Int64) (v1 v2 v3 : Int32) (sz : Nat) {post : Int32 → Mm → Prop} {px : Int32 → Mm → Prop} {P : Int32 → Mm × (Nat → Int64) → Prop} (hP : ∀ r u, kl_po post px r u → P r u) (hw : w_X6_cube (cl_Y ad) I 0 v1 v2 v3 post (kl_xp [(xI, 1)] px)) : kl_M l yL_cube cL_cube 6 hh_cube C cJ (cl_Y ad) I o f [.ref (ad 0), .int v1, .int v2, .int v3, .ref o] sz P := by
  refine kl_met (by decide) (Nat.le_of_ble_eq_true rfl) ?_
  intro p e s m args below meth c A X hr hT hJ hZ
  have X : kq_X p s m args meth c C cL_cube 6 RL A := X
  show kq_G p l e kl_rm s m args below meth c C A 6 _ 0 [(0, .ref (ad 0)), (1, .int v1), (2, .int v2), (3, .int v3), (4, .ref o)] [] 0 0 _
  refine kq_aload X 4 dL_cube_0 rfl ?_
  refine kq_iconst (v := (0 : Int32)) X dL_cube_2 (by decide) ?_
  refine kq_aload_n X 0 dL_cube_3 rfl rfl ?_
  refine kq_iload_n X 1 dL_cube_4 rfl rfl ?_
  refine kq_iload_n X 2 dL_cube_5 rfl rfl ?_
  refine kq_iload_n X 3 dL_cube_6 rfl rfl ?_
  refine kl_call (n := 3) (As := [.int v1, .int v2, .int v3]) (ci := 6) (st := [.int 0, .ref o]) (tb := tableOf hh_cube) X hZ hT (fun A' => c_X6_cube l C (cl_Y ad) A' I 0 v1 v2 v3 _ _ hw) kc_6 cy_0 rfl iv_X6_cube km_619 ⟨by decide, by decide, by decide +kernel⟩ ⟨rfl, rfl, by decide, by decide⟩ ⟨by decide, by decide⟩ rfl rfl (Nat.le_of_ble_eq_true rfl) dL_cube_7 (fun E J hxp => ?_) (fun r J hp => ?_)
  · obtain ⟨k, hm, hx⟩ := hxp
    simp only [List.mem_cons, Prod.mk.injEq, List.not_mem_nil, or_false] at hm
    obtain ⟨rfl, rfl⟩ := hm
    refine ⟨15, ⟨[], ⟨0, 12, 15, 13⟩, [], rfl, (fun _ h => absurd h List.not_mem_nil), by decide, by decide, km_305, List.mem_append_right _ (List.mem_of_getElem? (i := 313) (by decide +kernel)), rfl⟩, fun q9 => ?_⟩
    refine kq_astore (lv' := [(5, .ref q9), (0, .ref (ad 0)), (1, .int v1), (2, .int v2), (3, .int v3), (4, .ref o)]) X dL_cube_15 (by decide) rfl ?_
    refine kq_iconst (v := (1 : Int32)) X dL_cube_17 (by decide) ?_
    exact kl_iret X hr (hP _ _ (Or.inr ⟨by decide, hx⟩)) dL_cube_18
  · refine kq_i2l X dL_cube_10 ?_
    refine kq_last9 X hJ dL_cube_11 (fun g hg => ?_)
    refine kq_goto (tgt := 19) X dL_cube_12 (by decide) ?_
    refine kq_iconst (v := (0 : Int32)) X dL_cube_19 (by decide) ?_
    exact kl_iret X hr (hP _ _ (Or.inl ⟨rfl, r, hp, hg⟩)) dL_cube_20
abbrev hh_node : List (Nat × Nat × Nat × Nat) := [(0, 10, 13, 13), (0, 10, 17, 46)]
set_option maxHeartbeats 4000000 in
theorem kl_node (l : Launch) (C : Cc) (cJ : ClassId) (ad : Nat → Nat) (I : Mm) (o : Nat) (f : Nat → Int64) (v1 v2 : Int32) (sz : Nat) {post : Int32 → Mm → Prop} {px : Int32 → Mm → Prop} {P : Int32 → Mm × (Nat → Int64) → Prop} (hP : ∀ r u, kl_po post px r u → P r u) (hw : w_X6_node (cl_Y ad) I 0 v1 v2 post (kl_xp [(xI, 1), (xN, 2)] px)) : kl_M l yL_node cL_node 5 hh_node C cJ (cl_Y ad) I o f [.ref (ad 0), .int v1, .int v2, .ref o] sz P := by
  refine kl_met (by decide) (Nat.le_of_ble_eq_true rfl) ?_
  intro p e s m args below meth c A X hr hT hJ hZ
  have X : kq_X p s m args meth c C cL_node 5 RL A := X
  show kq_G p l e kl_rm s m args below meth c C A 5 _ 0 [(0, .ref (ad 0)), (1, .int v1), (2, .int v2), (3, .ref o)] [] 0 0 _
  refine kq_aload_n X 3 dL_node_0 rfl rfl ?_
  refine kq_iconst (v := (0 : Int32)) X dL_node_1 (by decide) ?_
  refine kq_aload_n X 0 dL_node_2 rfl rfl ?_
  refine kq_iload_n X 1 dL_node_3 rfl rfl ?_
  refine kq_iload_n X 2 dL_node_4 rfl rfl ?_
  refine kl_call (n := 2) (As := [.int v1, .int v2]) (ci := 6) (st := [.int 0, .ref o]) (tb := tableOf hh_node) X hZ hT (fun A' => c_X6_node l C (cl_Y ad) A' I 0 v1 v2 _ _ hw) kc_6 cy_0 rfl iv_X6_node km_628 ⟨by decide, by decide, by decide +kernel⟩ ⟨rfl, rfl, by decide, by decide⟩ ⟨by decide, by decide⟩ rfl rfl (Nat.le_of_ble_eq_true rfl) dL_node_5 (fun E J hxp => ?_) (fun r J hp => ?_)
  · obtain ⟨k, hm, hx⟩ := hxp
    simp only [List.mem_cons, Prod.mk.injEq, List.not_mem_nil, or_false] at hm
    rcases hm with ⟨rfl, rfl⟩ | ⟨rfl, rfl⟩
    · refine ⟨13, ⟨[], ⟨0, 10, 13, 13⟩, [⟨0, 10, 17, 46⟩], rfl, (fun _ h => absurd h List.not_mem_nil), by decide, by decide, km_305, List.mem_append_right _ (List.mem_of_getElem? (i := 313) (by decide +kernel)), rfl⟩, fun q9 => ?_⟩
      refine kq_astore (lv' := [(4, .ref q9), (0, .ref (ad 0)), (1, .int v1), (2, .int v2), (3, .ref o)]) X dL_node_13 (by decide) rfl ?_
      refine kq_iconst (v := (1 : Int32)) X dL_node_15 (by decide) ?_
      exact kl_iret X hr (hP _ _ (Or.inr ⟨by decide, hx⟩)) dL_node_16
    · refine ⟨17, ⟨[⟨0, 10, 13, 13⟩], ⟨0, 10, 17, 46⟩, [], rfl, (List.forall_mem_cons.mpr ⟨⟨by decide, by decide, xI, km_305, by decide⟩, (fun _ h => absurd h List.not_mem_nil)⟩), by decide, by decide, km_568, List.mem_append_right _ (List.mem_of_getElem? (i := 593) (by decide +kernel)), rfl⟩, fun q9 => ?_⟩
      refine kq_astore (lv' := [(4, .ref q9), (0, .ref (ad 0)), (1, .int v1), (2, .int v2), (3, .ref o)]) X dL_node_17 (by decide) rfl ?_
      refine kq_iconst (v := (2 : Int32)) X dL_node_19 (by decide) ?_
      exact kl_iret X hr (hP _ _ (Or.inr ⟨by decide, hx⟩)) dL_node_20
  · refine kq_i2l X dL_node_8 ?_
    refine kq_last9 X hJ dL_node_9 (fun g hg => ?_)
    refine kq_goto (tgt := 21) X dL_node_10 (by decide) ?_
    refine kq_iconst (v := (0 : Int32)) X dL_node_21 (by decide) ?_
    exact kl_iret X hr (hP _ _ (Or.inl ⟨rfl, r, hp, hg⟩)) dL_node_22
/-- behind a call of the desk: whatever the reference then does, it holds the same, and its number and answer are the desk's -/
def kl_ok (b : Nat) (wr : (Int32 → Mm → Prop) → Prop) (r : Int32) (u : Mm × (Nat → Int64)) : Prop := ∀ post : Int32 → Mm → Prop, (∀ (r' : Int32) (M : Mm), Rl (b + 100) u.1 M → M 0 0 = r → (r = 0 → u.2 0 = r'.toInt64) → post r' M) → wr post
theorem kl_okof {b b1 b2 : Nat} {wr : (Int32 → Mm → Prop) → Prop} (h1 : b1 ≤ b + 100) (h2 : b2 ≤ b + 100) (r : Int32) (u : Mm × (Nat → Int64)) (h : kl_po (fun x J => sm_R b1 0 J x wr) (fun k J => sm_X b2 k J wr) r u) : kl_ok b wr r u := by
  intro post hp
  rcases h with ⟨rfl, x, hx, hu⟩ | ⟨h0, hx⟩
  · exact hx post (fun M hM hc => hp x M (hM.mono h1) hc (fun _ => hu))
  · exact hx post (fun M r' hM hc => hp r' M (hM.mono h2) hc (fun h9 => absurd h9 h0))
theorem ks_relation (l : Launch) (C : Cc) (cJ : ClassId) (ad ad' : Nat → Nat) {I N : Mm} (o : Nat) (f : Nat → Int64) (v1 : Int32) (sz : Nat) {b : Nat} (h : Rl b I N) (hb : b + 100 < 1000000) : kl_M l yL_relation cL_relation 4 hh_relation C cJ (cl_Y ad) I o f [.ref (ad 0), .int v1, .ref o] sz (kl_ok b (w_X7_relation (md_Y ad') N 0 v1)) :=
  kl_relation l C cJ ad I o f v1 sz (kl_okof (b1 := b) (b2 := b) (by omega) (by omega)) (sm_relation (ad' := ad') h (fun _ _ h9 => h9) (fun J h9 => ⟨1, by simp, h9⟩) (fun J h9 => ⟨2, by simp, h9⟩))
theorem ks_mark (l : Launch) (C : Cc) (cJ : ClassId) (ad ad' : Nat → Nat) {I N : Mm} (o : Nat) (f : Nat → Int64) (v1 v2 v3 v4 : Int32) (sz : Nat) {b : Nat} (h : Rl b I N) (hb : b + 100 < 1000000) : kl_M l yL_mark cL_mark 7 hh_mark C cJ (cl_Y ad) I o f [.ref (ad 0), .int v1, .int v2, .int v3, .int v4, .ref o] sz (kl_ok b (w_X7_mark (md_Y ad') N 0 v1 v2 v3 v4)) :=
  kl_mark l C cJ ad I o f v1 v2 v3 v4 sz (kl_okof (b1 := b) (b2 := b) (by omega) (by omega)) (sm_mark (ad' := ad') h (fun _ _ h9 => h9) (fun J h9 => ⟨1, by simp, h9⟩) (fun J h9 => ⟨2, by simp, h9⟩))
theorem ks_clause (l : Launch) (C : Cc) (cJ : ClassId) (ad ad' : Nat → Nat) {I N : Mm} (o : Nat) (f : Nat → Int64) (v1 v2 v3 : Int32) (sz : Nat) {b : Nat} (h : Rl b I N) (hb : b + 100 < 1000000) : kl_M l yL_clause cL_clause 6 hh_clause C cJ (cl_Y ad) I o f [.ref (ad 0), .int v1, .int v2, .int v3, .ref o] sz (kl_ok b (w_X7_clause (md_Y ad') N 0 v1 v2 v3)) :=
  kl_clause l C cJ ad I o f v1 v2 v3 sz (kl_okof (b1 := b) (b2 := b) (by omega) (by omega)) (sm_clause (ad' := ad') h (fun _ _ h9 => h9) (fun J h9 => ⟨1, by simp, h9⟩) (fun J h9 => ⟨2, by simp, h9⟩))
theorem ks_atom (l : Launch) (C : Cc) (cJ : ClassId) (ad ad' : Nat → Nat) {I N : Mm} (o : Nat) (f : Nat → Int64) (v1 v2 v3 : Int32) (sz : Nat) {b : Nat} (h : Rl b I N) (hb : b + 100 < 1000000) : kl_M l yL_atom cL_atom 6 hh_atom C cJ (cl_Y ad) I o f [.ref (ad 0), .int v1, .int v2, .int v3, .ref o] sz (kl_ok b (w_X7_atom (md_Y ad') N 0 v1 v2 v3)) :=
  kl_atom l C cJ ad I o f v1 v2 v3 sz (kl_okof (b1 := b) (b2 := b) (by omega) (by omega)) (sm_atom (ad' := ad') h (fun _ _ h9 => h9) (fun J h9 => ⟨1, by simp, h9⟩) (fun J h9 => ⟨2, by simp, h9⟩))
theorem ks_bound (l : Launch) (C : Cc) (cJ : ClassId) (ad ad' : Nat → Nat) {I N : Mm} (o : Nat) (f : Nat → Int64) (v1 v2 v3 : Int32) (sz : Nat) {b : Nat} (h : Rl b I N) (hb : b + 100 < 1000000) : kl_M l yL_bound cL_bound 6 hh_bound C cJ (cl_Y ad) I o f [.ref (ad 0), .int v1, .int v2, .int v3, .ref o] sz (kl_ok b (w_X7_bound (md_Y ad') N 0 v1 v2 v3)) :=
  kl_bound l C cJ ad I o f v1 v2 v3 sz (kl_okof (b1 := b) (b2 := b) (by omega) (by omega)) (sm_bound (ad' := ad') h (fun _ _ h9 => h9) (fun J h9 => ⟨1, by simp, h9⟩) (fun J h9 => ⟨2, by simp, h9⟩))
theorem ks_round (l : Launch) (C : Cc) (cJ : ClassId) (ad ad' : Nat → Nat) {I N : Mm} (o : Nat) (f : Nat → Int64) (sz : Nat) {b : Nat} (h : Rl b I N) (hb : b + 100 < 1000000) : kl_M l yL_round cL_round 3 hh_round C cJ (cl_Y ad) I o f [.ref (ad 0), .ref o] sz (kl_ok b (w_X7_round (md_Y ad') N 0)) :=
  kl_round l C cJ ad I o f sz (kl_okof (b1 := b + 1) (b2 := b) (by omega) (by omega)) (sm_round (ad' := ad') h (by omega) (fun _ _ h9 => h9) (fun J h9 => ⟨1, by simp, h9⟩))
theorem ks_refine (l : Launch) (C : Cc) (cJ : ClassId) (ad ad' : Nat → Nat) {I N : Mm} (o : Nat) (f : Nat → Int64) (sz : Nat) {b : Nat} (h : Rl b I N) (hb : b + 100 < 1000000) : kl_M l yL_refine cL_refine 3 hh_refine C cJ (cl_Y ad) I o f [.ref (ad 0), .ref o] sz (kl_ok b (w_X7_refine (md_Y ad') N 0)) :=
  kl_refine l C cJ ad I o f sz (kl_okof (b1 := b + 1) (b2 := b) (by omega) (by omega)) (sm_refine (ad' := ad') h (fun _ _ h9 => h9) (fun J h9 => ⟨1, by simp, h9⟩))
theorem ks_verify (l : Launch) (C : Cc) (cJ : ClassId) (ad ad' : Nat → Nat) {I N : Mm} (o : Nat) (f : Nat → Int64) (v1 : Int32) (sz : Nat) {b : Nat} (h : Rl b I N) (hb : b + 100 < 1000000) : kl_M l yL_verify cL_verify 4 hh_verify C cJ (cl_Y ad) I o f [.ref (ad 0), .int v1, .ref o] sz (kl_ok b (w_X7_verify (md_Y ad') N 0 v1)) :=
  kl_verify l C cJ ad I o f v1 sz (kl_okof (b1 := b + 100) (b2 := b) (by omega) (by omega)) (sm_verify (ad' := ad') h hb (fun _ _ h9 => h9) (fun J h9 => ⟨1, by simp, h9⟩))
theorem ks_follows (l : Launch) (C : Cc) (cJ : ClassId) (ad ad' : Nat → Nat) {I N : Mm} (o : Nat) (f : Nat → Int64) (v1 v2 v3 : Int32) (sz : Nat) {b : Nat} (h : Rl b I N) (hb : b + 100 < 1000000) : kl_M l yL_follows cL_follows 6 hh_follows C cJ (cl_Y ad) I o f [.ref (ad 0), .int v1, .int v2, .int v3, .ref o] sz (kl_ok b (w_X7_follows (md_Y ad') N 0 v1 v2 v3)) :=
  kl_follows l C cJ ad I o f v1 v2 v3 sz (kl_okof (b1 := b) (b2 := b) (by omega) (by omega)) (sm_follows (ad' := ad') h (fun _ _ h9 => h9) (fun J h9 => ⟨1, by simp, h9⟩) (fun J h9 => ⟨2, by simp, h9⟩) (fun J h9 => ⟨3, by simp, h9⟩))
theorem ks_shown (l : Launch) (C : Cc) (cJ : ClassId) (ad ad' : Nat → Nat) {I N : Mm} (o : Nat) (f : Nat → Int64) (v1 v2 v3 : Int32) (sz : Nat) {b : Nat} (h : Rl b I N) (hb : b + 100 < 1000000) : kl_M l yL_shown cL_shown 6 hh_shown C cJ (cl_Y ad) I o f [.ref (ad 0), .int v1, .int v2, .int v3, .ref o] sz (kl_ok b (w_X7_shown (md_Y ad') N 0 v1 v2 v3)) :=
  kl_shown l C cJ ad I o f v1 v2 v3 sz (kl_okof (b1 := b) (b2 := b) (by omega) (by omega)) (sm_shown (ad' := ad') h (fun _ _ h9 => h9) (fun J h9 => ⟨1, by simp, h9⟩) (fun J h9 => ⟨2, by simp, h9⟩))
theorem ks_cube (l : Launch) (C : Cc) (cJ : ClassId) (ad ad' : Nat → Nat) {I N : Mm} (o : Nat) (f : Nat → Int64) (v1 v2 v3 : Int32) (sz : Nat) {b : Nat} (h : Rl b I N) (hb : b + 100 < 1000000) : kl_M l yL_cube cL_cube 6 hh_cube C cJ (cl_Y ad) I o f [.ref (ad 0), .int v1, .int v2, .int v3, .ref o] sz (kl_ok b (w_X7_cube (md_Y ad') N 0 v1 v2 v3)) :=
  kl_cube l C cJ ad I o f v1 v2 v3 sz (kl_okof (b1 := b) (b2 := b) (by omega) (by omega)) (sm_cube (ad' := ad') h (fun _ _ h9 => h9) (fun J h9 => ⟨1, by simp, h9⟩))
theorem ks_node (l : Launch) (C : Cc) (cJ : ClassId) (ad ad' : Nat → Nat) {I N : Mm} (o : Nat) (f : Nat → Int64) (v1 v2 : Int32) (sz : Nat) {b : Nat} (h : Rl b I N) (hb : b + 100 < 1000000) : kl_M l yL_node cL_node 5 hh_node C cJ (cl_Y ad) I o f [.ref (ad 0), .int v1, .int v2, .ref o] sz (kl_ok b (w_X7_node (md_Y ad') N 0 v1 v2)) :=
  kl_node l C cJ ad I o f v1 v2 sz (kl_okof (b1 := b) (b2 := b) (by omega) (by omega)) (sm_node (ad' := ad') h (fun _ _ h9 => h9) (fun J h9 => ⟨1, by simp, h9⟩) (fun J h9 => ⟨2, by simp, h9⟩))
