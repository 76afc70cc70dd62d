/-! THE LAW: rows for a world of two -/
theorem kr_liftL {X R : va_W} {k : Nat} {x : Nat × va_E} (h : X[k]? = some x) : (X ++ R)[k]? = some x := by
  rw [List.getElem?_append_left (List.getElem?_eq_some_iff.mp h).1]; exact h
theorem kr_liftR {X R : va_W} {k : Nat} {x : Nat × va_E} (h : R[k]? = some x) : (X ++ R)[X.length + k]? = some x := by
  rw [List.getElem?_append_right (by omega), Nat.add_sub_cancel_left]; exact h
theorem kr_PL {D : va_G} {cl : List vw_C} {X R : va_W} {H : Heap} (h : va_P D cl (X ++ R) H) : va_P D cl X H := fun k x hx => h k x (kr_liftL hx)
theorem kr_PR {D : va_G} {cl : List vw_C} {X R : va_W} {H : Heap} (h : va_P D cl (X ++ R) H) : va_P D cl R H := fun k x hx => h _ x (kr_liftR hx)
theorem kr_DL {A : Nat → Prop} {X R : va_W} (h : va_D A (X ++ R)) : va_D A X := ⟨fun i j x y hx hy => h.1 i j x y (kr_liftL hx) (kr_liftL hy), fun k x hx => h.2 k x (kr_liftL hx)⟩
theorem kr_DR {A : Nat → Prop} {X R : va_W} (h : va_D A (X ++ R)) : va_D A R := ⟨fun i j x y hx hy e => by have := h.1 _ _ x y (kr_liftR hx) (kr_liftR hy) e; omega, fun k x hx => h.2 _ x (kr_liftR hx)⟩
theorem kr_X {A : Nat → Prop} {X R : va_W} (h : va_D A (X ++ R)) {i j : Nat} {x y : Nat × va_E} (hx : X[i]? = some x) (hy : R[j]? = some y) : x.1 ≠ y.1 := fun e => by
  have h1 := h.1 _ _ x y (kr_liftL hx) (kr_liftR hy) e
  have h2 := (List.getElem?_eq_some_iff.mp hx).1
  omega
theorem kr_swap {D : va_G} {cl : List vw_C} {A : Nat → Prop} {X R : va_W} {H : Heap} (hP : va_P D cl (X ++ R) H) (hD : va_D A (X ++ R)) : va_P D cl (R ++ X) H ∧ va_D A (R ++ X) :=
  ⟨va_P.app (kr_PR hP) (kr_PL hP), va_D.app (kr_DR hD) (kr_DL hD) (fun _ _ _ _ hx hy e => kr_X hD hy hx e.symm)⟩
/-- behind a call that had the left part -/
theorem kr_L {A0 : Nat → Prop} {D : va_G} {cl : List vw_C} {X R X1 : va_W} {H H1 : Heap} (hP : va_P D cl (X ++ R) H) (hD : va_D A0 (X ++ R)) (hk : ∀ x : Nat, x < H.size → ¬ va_A X H.size x → H1[x]? = H[x]?) (hF : ∀ x, va_A X H.size x → A0 x) (hP1 : va_P D cl X1 H1) (hD1 : va_D (va_A X H.size) X1) : va_P D cl (X1 ++ R) H1 ∧ va_D A0 (X1 ++ R) := by
  have apart : ∀ (k : Nat) (x : Nat × va_E), R[k]? = some x → x.1 < H.size ∧ ¬ va_A X H.size x.1 := by
    intro k x hx
    have h1 := (kr_PR hP k x hx).lt
    refine ⟨h1, fun h => ?_⟩
    rcases h with ⟨k2, e2, h⟩ | h
    · exact kr_X hD h hx rfl
    · omega
  exact ⟨va_P.app hP1 (fun k x hx => (kr_PR hP k x hx).kept (hk x.1 (apart k x hx).1 (apart k x hx).2)), va_D.app (hD1.weaken (fun k x _ h => hF x.1 h)) (kr_DR hD) (fun i j x y hx hy hxy => (apart j y hy).2 (by rw [← hxy]; exact hD1.2 i x hx))⟩
theorem kr_R {A0 : Nat → Prop} {D : va_G} {cl : List vw_C} {X R X1 : va_W} {H H1 : Heap} (hP : va_P D cl (R ++ X) H) (hD : va_D A0 (R ++ X)) (hk : ∀ x : Nat, x < H.size → ¬ va_A X H.size x → H1[x]? = H[x]?) (hF : ∀ x, va_A X H.size x → A0 x) (hP1 : va_P D cl X1 H1) (hD1 : va_D (va_A X H.size) X1) : va_P D cl (R ++ X1) H1 ∧ va_D A0 (R ++ X1) := by
  obtain ⟨a1, a2⟩ := kr_swap hP hD
  obtain ⟨b1, b2⟩ := kr_L a1 a2 hk hF hP1 hD1
  exact kr_swap b1 b2
theorem kr_F {A0 : Nat → Prop} {X : va_W} {H0 H : Heap} {locs : List Loc} (hD : va_D A0 X) (hS : va_S A0 H0 H locs) (hA : ∀ q, H0.size ≤ q → A0 q) : ∀ x, va_A X H.size x → A0 x := by
  intro x h
  rcases h with ⟨k2, e2, h⟩ | h
  · exact hD.2 k2 (x, e2) h
  · exact hA x (Nat.le_trans hS.1 h)
section KRR
variable {p : Program} {l : Launch} {e : Env} {R : Room} {s : State} {m : MethodId} {args : Array Value} {below : List Frame} {meth : Method} {c : Code} {C : Cc} {A : Nat → Prop} {Q : State → Prop} {cc : ByteArray} {nL pc : Nat} {own : String} {lv lv' : List (Nat × Value)} {st : List Value} {kn zn : Nat} {ws ws' : va_W} {cJ : ClassId} {Y : Ly} {I N : Mm} {o : Nat} {f : Nat → Int64} {W1 : va_W}
theorem kq_sld (X : kq_X p s m args meth c C cc nL own A) {b L i : Nat} {xs : Nat → Int32} (hX : va_X b L xs s s.heap) (hbl : b < s.heap.size) (hbA : ¬ A b) (hi : i < L) (hL : L < 2147483648) (hdg : decode cc pc = .ok (.iaload, 1)) (h : kq_G p l e R s m args below meth c C A nL Q (pc + 1) lv (.int (xs i) :: st) kn zn ws) : kq_G p l e R s m args below meth c C A nL Q pc lv (.int (nI i) :: .ref b :: st) kn zn ws := fun H locs ls hP hD hS hl =>
  va_sld X.1 X.2.1 hX hbl hbA hS (kq_vin hi hL) hdg (by rw [in_c (by omega)]; exact h H locs ls hP hD hS hl)
theorem kq_slen (X : kq_X p s m args meth c C cc nL own A) {b L : Nat} {xs : Nat → Int32} (hX : va_X b L xs s s.heap) (hbl : b < s.heap.size) (hbA : ¬ A b) (hdg : decode cc pc = .ok (.arraylength, 1)) (h : kq_G p l e R s m args below meth c C A nL Q (pc + 1) lv (.int (nI L) :: st) kn zn ws) : kq_G p l e R s m args below meth c C A nL Q pc lv (.ref b :: st) kn zn ws := fun H locs ls hP hD hS hl =>
  va_slen X.1 X.2.1 hX hbl hbA hS hdg (h H locs ls hP hD hS hl)
theorem kq_lcmp (X : kq_X p s m args meth c C cc nL own A) {x y : Int64} (hdg : decode cc pc = .ok (.lcmp, 1)) (h : kq_G p l e R s m args below meth c C A nL Q (pc + 1) lv (.int (lg_cmp x y) :: st) kn zn ws) : kq_G p l e R s m args below meth c C A nL Q pc lv (.long y :: .long x :: st) kn zn ws := fun H locs ls hP hD hS hl => W.lcmp X.1 X.2.1 hdg (h H locs ls hP hD hS hl)
theorem kq_isub (X : kq_X p s m args meth c C cc nL own A) {x y : Int32} (hdg : decode cc pc = .ok (.isub, 1)) (h : kq_G p l e R s m args below meth c C A nL Q (pc + 1) lv (.int (x - y) :: st) kn zn ws) : kq_G p l e R s m args below meth c C A nL Q pc lv (.int y :: .int x :: st) kn zn ws := fun H locs ls hP hD hS hl => lv_isub X.1 X.2.1 hdg (h H locs ls hP hD hS hl)
theorem kq_lald (X : kq_X p s m args meth c C cc nL own A) (hJ : kl_J cJ s) (hdg : decode cc pc = .ok (.laload, 1)) (h : kq_G p l e R s m args below meth c C A nL Q (pc + 1) lv (.long (f 0) :: st) kn zn (kl_wl C cJ Y I o f ++ W1)) : kq_G p l e R s m args below meth c C A nL Q pc lv (.int 0 :: .ref o :: st) kn zn (kl_wl C cJ Y I o f ++ W1) := fun H locs ls hP hD hS hl =>
  va_lald (D := C.1) X.1 X.2.1 (kl_KJ X hJ) hP Y.1 0 (kr_liftL kl_ato) rfl (by unfold vp_in; decide) hdg (h H locs ls hP hD hS hl)
/-- an int of the script: script[i + k] -/
theorem kq_arg (X : kq_X p s m args meth c C cc nL own A) {b L i k : Nat} {xs : Nat → Int32} (hX : va_X b L xs s s.heap) (hbl : b < s.heap.size) (hbA : ¬ A b) (hi : i + k < L) (hL : L < 2147483648) (k0 k4 : Nat) (h0 : lv[k0]? = some (0, .ref b)) (h4 : lv[k4]? = some (4, .int (nI i))) (d1 : decode cc pc = .ok (.aload_n 0, 1)) (d2 : decode cc (pc + 1) = .ok (.iload 4, 2)) (d3 : decode cc (pc + 3) = .ok (.iconst k, 1)) (d4 : decode cc (pc + 4) = .ok (.iadd, 1)) (d5 : decode cc (pc + 5) = .ok (.iaload, 1)) (h : kq_G p l e R s m args below meth c C A nL Q (pc + 6) lv (.int (xs (i + k)) :: st) kn zn ws) : kq_G p l e R s m args below meth c C A nL Q pc lv st kn zn ws := by
  refine kq_aload_n X k0 d1 rfl h0 ?_
  refine kq_iload X k4 d2 h4 ?_
  refine kq_iconst (v := nI k) X d3 (by show Int32.ofInt (k : Int) = Int32.ofNat k; rfl) ?_
  refine kq_iadd X d4 ?_
  rw [nI_add]
  exact kq_sld X hX hbl hbA hi hL d5 h
def kr_sw (y : MethodName) (w : Cond) : Prop := Cond.static y ∈ ky_WS ∧ Cond.initialized y.cls ∈ ky_WS ∧ w ∈ ky_WS
set_option maxHeartbeats 4000000 in
/-- a call of one of the law's methods -/
theorem kr_S (X : kq_X p s m args meth c C cc nL own A) (hJ : kl_J cJ s) (hZ : kl_Z l A s) {idx n maxL : Nat} {y : MethodName} {bytes : ByteArray} {hh : List (Nat × Nat × Nat × Nat)} {As stk : List Value} {P : Int32 → Mm × (Nat → Int64) → Prop} (hM : ∀ sz, kl_M l y bytes maxL hh C cJ Y I o f As sz P) (hw : kr_sw y (.codeWith y bytes maxL (some .int) hh)) (hl9 : Cond.methodLink own idx y ∈ ky_WS) (hd : ky_dy y n) (hR : 8 ≤ R.frames ∧ 8 + (maxL + 11) + 250 ≤ R.locals) (hc : kn + 1 ≤ R.cells) (hz : zn + 6 ≤ R.slots) (hn : As.length = n) (hstk : stk = As.reverse ++ st) (hst : (st.map fun v => v.category).sum ≤ 8) (hdg : decode cc pc = .ok (.invokestatic idx, 3)) (h : ∀ (r : Int32) (u : Mm × (Nat → Int64)), P r u → kq_G p l e R s m args below meth c C A nL Q (pc + 3) lv (.int r :: st) (kn + 1) (zn + 6) (kl_wl C cJ Y u.1 o u.2 ++ W1)) : kq_G p l e R s m args below meth c C A nL Q pc lv stk kn zn (kl_wl C cJ Y I o f ++ W1) := fun H locs ls hP hD hS hl => by
  have hF := kr_F (kr_DL hD) hS X.2.2.2.2.2.2.2
  have hG : GoodIn ky_WS (va_wsS own idx y (.codeWith y bytes maxL (some .int) hh :: ky_WS)) := ky_g0 fun w9 h9 => by
    simp only [va_wsS, List.cons_append, List.nil_append, List.mem_cons] at h9
    rcases h9 with rfl | rfl | rfl | rfl | h9
    · exact hl9
    · exact hw.1
    · exact hw.2.1
    · exact hw.2.2
    · exact h9
  refine va_calli (vx_runSW (As := As) (rest := st) ⟨X.1, X.2.1, X.2.2.1, X.2.2.2.2.1, X.2.2.2.2.2.1⟩ (hM H.size) (vx_cwSW n X.2.2.2.2.2.1 hG rfl rfl rfl hd hR) ⟨kl_blind, fun U hU hW => ⟨rfl, by rw [hU], by rw [hU]; exact kr_PL hP, ⟨X.2.2.2.2.2.2.1.warm hW, hJ.moved hW.alike⟩, (kr_DL hD).weaken (fun _ _ _ _ => trivial), (hZ.go hW (fun a h1 h2 => by rw [hU]; exact hS.2.1 a h1 h2)).nar hF⟩⟩ rfl hn hl.1 hstk (lv_room hst) hdg ⟨hc, hz⟩) hS (fun q _ h9 => hF q h9) hF (fun r u t H1 locs1 ht _ hp hB _ hk1 hS1 => ?_)
  obtain ⟨hP2, hD2⟩ := kr_L hP hD hk1 hF (by rw [← ht]; exact hB.1) hB.2
  exact h r u hp H1 locs1 ls hP2 hD2 hS1 hl
set_option maxHeartbeats 4000000 in
/-- a call of a method of the right part -/
theorem kr_V (X : kq_X p s m args meth c C cc nL own A) {ci idx n maxL : Nat} {y : MethodName} {bytes : ByteArray} {ret : Option FieldType} {As stk : List Value} {rm : Room} {Cn : String} {Tn : u_T} {post : Int32 → Mm → Prop} (hM : ∀ A', ky_MI l y bytes maxL ret rm C Y A' N (.ref (Y.2.1 0) :: As) post) (hC : ky_C ci Cn Tn) (hk : ky_is Y 0 ci) (hyc : y.cls = Cn) (hw : ky_iv y Cn (.code y bytes maxL ret)) (hl9 : Cond.methodLink own idx y ∈ ky_WS) (hd : ky_dy y n) (hR : ky_rr R rm maxL) (hc : kn ≤ R.cells) (hz : zn ≤ R.slots) (hn : As.length = n) (hstk : stk = As.reverse ++ .ref (Y.2.1 0) :: st) (hst : (st.map fun v => v.category).sum ≤ 8) (hdg : decode cc pc = .ok (.invokevirtual idx, 3)) (h : ∀ (r : Int32) (M : Mm), post r M → kq_G p l e R s m args below meth c C A nL Q (pc + 3) lv (.int r :: st) kn zn (W1 ++ ky_wl C Y M)) : kq_G p l e R s m args below meth c C A nL Q pc lv stk kn zn (W1 ++ ky_wl C Y N) := fun H locs ls hP hD hS hl => by
  have hF := kr_F (kr_DR hD) hS X.2.2.2.2.2.2.2
  refine va_calli (va_runV (As := As) (rest := st) ⟨X.1, X.2.1, X.2.2.1, X.2.2.2.2.1, X.2.2.2.2.2.1⟩ (hM (va_A (ky_wl C Y N) H.size)) (cwV n X.2.2.2.2.2.1 (ky_gV hw hl9) rfl hR.1 hR.2.1 ⟨hyc, hd⟩ hR.2.2) ⟨ky_blind, va_recv (q := (Cn, Tn, ky_nf ci)) X.2.2.2.2.2.2.1.1.1 (kr_PR hP) hC.2.1 (q0 := 0) (by rw [ky_wl_get hk.1, ky_ce_o hk hC.1]), fun U hU hW => ⟨rfl, by rw [hU]; exact kr_PR hP, X.2.2.2.2.2.2.1.1.warm hW, (kr_DR hD).self⟩⟩ rfl hn hl.1 hstk (lv_room hst) hdg ⟨hc, hz⟩) hS (fun q _ h9 => hF q h9) hF (fun r M t H1 locs1 ht _ hp hB _ hk1 hS1 => ?_)
  obtain ⟨hP2, hD2⟩ := kr_R hP hD hk1 hF (by rw [← ht]; exact hB.1) hB.2
  exact h r M hp H1 locs1 ls hP2 hD2 hS1 hl
set_option maxHeartbeats 4000000 in
theorem kr_Vv (X : kq_X p s m args meth c C cc nL own A) {ci idx n maxL : Nat} {y : MethodName} {bytes : ByteArray} {As stk : List Value} {rm : Room} {Cn : String} {Tn : u_T} {post : Mm → Prop} (hM : ∀ A', ky_MV l y bytes maxL rm C Y A' N (.ref (Y.2.1 0) :: As) post) (hC : ky_C ci Cn Tn) (hk : ky_is Y 0 ci) (hyc : y.cls = Cn) (hw : ky_iv y Cn (.code y bytes maxL none)) (hl9 : Cond.methodLink own idx y ∈ ky_WS) (hd : ky_dy y n) (hR : ky_rr R rm maxL) (hc : kn ≤ R.cells) (hz : zn ≤ R.slots) (hn : As.length = n) (hstk : stk = As.reverse ++ .ref (Y.2.1 0) :: st) (hst : (st.map fun v => v.category).sum ≤ 8) (hdg : decode cc pc = .ok (.invokevirtual idx, 3)) (h : ∀ M : Mm, post M → kq_G p l e R s m args below meth c C A nL Q (pc + 3) lv st kn zn (W1 ++ ky_wl C Y M)) : kq_G p l e R s m args below meth c C A nL Q pc lv stk kn zn (W1 ++ ky_wl C Y N) := fun H locs ls hP hD hS hl => by
  have hF := kr_F (kr_DR hD) hS X.2.2.2.2.2.2.2
  refine va_callv (va_runV (As := As) (rest := st) ⟨X.1, X.2.1, X.2.2.1, X.2.2.2.2.1, X.2.2.2.2.2.1⟩ (hM (va_A (ky_wl C Y N) H.size)) (cwV n X.2.2.2.2.2.1 (ky_gV hw hl9) rfl hR.1 hR.2.1 ⟨hyc, hd⟩ hR.2.2) ⟨ky_blind, va_recv (q := (Cn, Tn, ky_nf ci)) X.2.2.2.2.2.2.1.1.1 (kr_PR hP) hC.2.1 (q0 := 0) (by rw [ky_wl_get hk.1, ky_ce_o hk hC.1]), fun U hU hW => ⟨rfl, by rw [hU]; exact kr_PR hP, X.2.2.2.2.2.2.1.1.warm hW, (kr_DR hD).self⟩⟩ rfl hn hl.1 hstk (lv_room hst) hdg ⟨hc, hz⟩) hS (fun q _ h9 => hF q h9) hF (fun M t H1 locs1 ht _ hp hB _ hk1 hS1 => ?_)
  obtain ⟨hP2, hD2⟩ := kr_R hP hD hk1 hF (by rw [← ht]; exact hB.1) hB.2
  exact h M hp H1 locs1 ls hP2 hD2 hS1 hl
/-- the two parts change places -/
theorem kr_sw2 {W2 : va_W} (h : kq_G p l e R s m args below meth c C A nL Q pc lv st kn zn (W2 ++ W1)) : kq_G p l e R s m args below meth c C A nL Q pc lv st kn zn (W1 ++ W2) := fun H locs ls hP hD hS hl => h H locs ls (kr_swap hP hD).1 (kr_swap hP hD).2 hS hl
theorem kr_wid {kn' zn' : Nat} (h1 : kn ≤ kn') (h2 : zn ≤ zn') (h : kq_G p l e R s m args below meth c C A nL Q pc lv st kn' zn' ws) : kq_G p l e R s m args below meth c C A nL Q pc lv st kn zn ws := fun H locs ls hP hD hS hl => W.widen h1 h2 (h H locs ls hP hD hS hl)
end KRR
