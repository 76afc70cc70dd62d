/-! CATCHING: a row of the method's own table takes what a callee threw, behind rows that don't -/
section KYH
variable {e : Env} {s0 : State} {f : JFrame} {a : Addr} {cell : Cell}
/-- a row that is looked at and doesn't take it, as the start sees it -/
def kh_no (e : Env) (s0 : State) (d : ClassId) (pc : Nat) (k : ClassId) (y : ExceptionTableEntry) : Prop := covers y pc = true ∧ y.catchType ≠ 0 ∧ ∃ c, s0.vm.ClassLinks e.platform d y.catchType c ∧ s0.vm.assignable k c = false
/-- a row that takes it -/
def kh_yes (e : Env) (s0 : State) (d : ClassId) (pc : Nat) (k : ClassId) (y : ExceptionTableEntry) : Prop := covers y pc = true ∧ y.catchType ≠ 0 ∧ ∃ c, s0.vm.ClassLinks e.platform d y.catchType c ∧ s0.vm.assignable k c = true
theorem kh_go (hobj : ∀ k, cell.vm ≠ .statics k) {x : ExceptionTableEntry} {suf : List ExceptionTableEntry} (hx : kh_yes e s0 f.method.cls f.pc cell.cls x) (hk : ∃ k, s0.vm.classes[cell.cls]? = some k) : ∀ (pre : List ExceptionTableEntry) (S : State), (∀ y ∈ pre, kh_no e s0 f.method.cls f.pc cell.cls y) → s0.WarmedH S.vm → S.heap[a]? = some cell →
    ∃ vm', s0.WarmedH vm' ∧ ∀ (Q : Handler → Pre) (E : CtlPost) (d : Bool) (acts : List Action), wp (findHandler.go f a (pre ++ x :: suf)) Q E e d acts S ↔ Q (.found x.handlerPc) d acts (S.setVm vm') := by
  have step : ∀ (y : ExceptionTableEntry) (c : ClassId) (S : State), y.catchType ≠ 0 → covers y f.pc = true → s0.vm.ClassLinks e.platform f.method.cls y.catchType c → s0.WarmedH S.vm → S.heap[a]? = some cell →
      s0.WarmedH (S.vm.noted f.method.cls y.catchType (.cls c)) ∧ ∀ (ys : List ExceptionTableEntry) (Q : Handler → Pre) (E : CtlPost) (d : Bool) (acts : List Action), wp (findHandler.go f a (y :: ys)) Q E e d acts S ↔ if s0.vm.assignable cell.cls c = true then Q (.found y.handlerPc) d acts (S.setVm (S.vm.noted f.method.cls y.catchType (.cls c))) else wp (findHandler.go f a ys) Q E e d acts (S.setVm (S.vm.noted f.method.cls y.catchType (.cls c))) := by
    intro y c S h0 hcov hl hW hcell
    obtain ⟨dk, _, _, kt, hd, _, _, _, _, hkt, _, hopen⟩ := hl.here
    refine ⟨hW.noted hd hopen (State.rightAt_cls hl), fun ys Q E d acts => ?_⟩
    simp only [covers] at hcov
    obtain ⟨ha, ht⟩ := (resolveClass_links e.toSetting (hW.classLinks hl)).op (op := VmOp.resolveClass f.method.cls y.catchType) rfl
    have hal : s0.vm.Alike (S.vm.noted f.method.cls y.catchType (.cls c)) := (hW.noted hd hopen (State.rightAt_cls hl)).alike
    obtain ⟨k1, hk1⟩ := hk
    obtain ⟨k1', hk1', -⟩ := hal.2.2 _ _ hk1
    obtain ⟨k2', hk2', -⟩ := hal.2.2 _ _ hkt
    have has : (S.vm.noted f.method.cls y.catchType (.cls c)).assignable cell.cls c = s0.vm.assignable cell.cls c := hal.assignable ..
    by_cases hz : s0.vm.assignable cell.cls c = true
    · rw [hz] at has
      simp [findHandler.go, hcov, h0, ha, ht, hcell, hobj, hk1', hk2', has, hz, VmOp.dirties, VmOp.acts]
    · have hz : s0.vm.assignable cell.cls c = false := by simpa using hz
      rw [hz] at has
      simp [findHandler.go, hcov, h0, ha, ht, hcell, hobj, hk1', hk2', has, hz, VmOp.dirties, VmOp.acts]
  intro pre
  induction pre with
  | nil =>
    intro S _ hW hcell
    obtain ⟨h1, h2, c, h3, h4⟩ := hx
    obtain ⟨g1, g2⟩ := step x c S h2 h1 h3 hW hcell
    exact ⟨_, g1, fun Q E d acts => by rw [List.nil_append, g2 suf Q E d acts, if_pos h4]⟩
  | cons y ys ih =>
    intro S hp hW hcell
    obtain ⟨h1, h2, c, h3, h4⟩ := hp y (List.mem_cons_self ..)
    obtain ⟨g1, g2⟩ := step y c S h2 h1 h3 hW hcell
    obtain ⟨vm', hW', hq⟩ := ih (S.setVm (S.vm.noted f.method.cls y.catchType (.cls c))) (fun z hz => hp z (List.mem_cons_of_mem _ hz)) g1 hcell
    exact ⟨vm', hW', fun Q E d acts => by rw [List.cons_append, g2 _ Q E d acts, if_neg (by rw [h4]; decide)]; exact hq Q E d acts⟩
end KYH
section KYH2
variable {p : Program} {l : Launch} {e : Env} {R : Room} {s : State} {m : MethodId} {args : Array Value} {below : List Frame} {meth : Method} {c : Code} {T : State} {locs : List Loc} {cells slots : Nat}
theorem kh_caught (X : Stand p l e R s m args below meth c T locs cells slots) {a : Addr} {g : JFrame} (hg : g.method = m) {cell : Cell} (hcell : T.heap[a]? = some cell) (hobj : cell.vm.isStatics = false) (hk : ∃ k, s.vm.classes[cell.cls]? = some k) (pre : List ExceptionTableEntry) (x : ExceptionTableEntry) (suf : List ExceptionTableEntry) (hsplit : c.exceptionTable.toList = pre ++ x :: suf) (hp : ∀ y ∈ pre, kh_no e s m.cls g.pc cell.cls y) (hx : kh_yes e s m.cls g.pc cell.cls x) :
    ∃ vm', Stand p l e R s m args below meth c (T.setVm vm') locs cells slots ∧ ∀ target, Steps p.tables e below ((T.setVm vm').setTop { g with pc := x.handlerPc, stack := [.ref a] }) target → Steps p.tables e below ((T.setTop g).pushFrame (.throwing a)) target := by
  subst hg
  obtain ⟨vm', hW', hq⟩ := kh_go (e := e) (s0 := s) (f := g) (a := a) (VmData.ne_statics_of hobj) (suf := suf) hx hk pre ((T.setTop g).pushFrame (.throwing a)) hp X.warmed hcell
  refine ⟨vm', X.noted hW', fun target hrest => ?_⟩
  have hfind : ∀ (Q : Handler → Pre) (E : CtlPost) (d : Bool) (acts : List Action), wp (findHandler g a) Q E e d acts ((T.setTop g).pushFrame (.throwing a)) ↔ Q (.found x.handlerPc) d acts (((T.setTop g).pushFrame (.throwing a)).setVm vm') := fun Q E d acts => by
    rw [W.findHandler_eq (s := (T.setTop g).pushFrame (.throwing a)) (meth := meth) (code := c) X.method' X.code, hsplit]; exact hq Q E d acts
  have hst : ∀ r : List Frame, (stepThrowing e ((T.setTop g).pushFrame (.throwing a)) a (.java g :: r)).Is ((((T.setTop g).pushFrame (.throwing a)).setVm vm').setFrames (.java { g with pc := x.handlerPc, stack := [.ref a] } :: r)) [] := fun r => by
    simp only [stepThrowing, searchFrame, vmDo]
    generalize hr : Sem.go _ e false [] ((T.setTop g).pushFrame (.throwing a)) = res
    obtain ⟨as, rfl, ha⟩ := Sem.eq_ok_of hr (a := Handler.found x.handlerPc) (s' := ((T.setTop g).pushFrame (.throwing a)).setVm vm') (acts' := []) (by simp [hfind _ _ _ _])
    exact ⟨rfl, ha⟩
  have h := X.here
  obtain ⟨hgo, hw⟩ := h.throwing a (g := g)
  refine Steps.head hgo hw ?_
  rw [stepThread_throwing (frames_entered h.top _), (hst _).1]
  obtain ⟨g₀, hg⟩ := Option.isSome_iff_exists.mp h.top
  obtain ⟨r, hr⟩ := State.topJava?_eq_some.mp hg
  have hr' : (T.setVm vm').frames = .java g₀ :: r := hr
  rw [State.setTop_of_frames _ hr'] at hrest
  have fv : ∀ (u : State) (F G : List Frame), ((u.setFrames F).setVm vm').setFrames G = (u.setVm vm').setFrames G := fun u F G => by
    rw [show (u.setFrames F).setVm vm' = (u.setVm vm').setFrames F from rfl, State.setFrames_setFrames]
  rw [hr, List.tail_cons, State.pushFrame, fv, State.setTop_of_frames _ hr, fv]
  exact hrest
end KYH2
theorem kh_W {p : Program} {l : Launch} {e : Env} {R : Room} {s : State} {m : MethodId} {args : Array Value} {below : List Frame} {meth : Method} {c : Code} {H : Heap} {locs : List Loc} {cells slots : Nat} {Q : State → Prop} {pc : Nat} {ls : Array Slot} {rest : List Value} {own name E : String} {ce : Cell} {q : Addr} (hown : s.vm.findClass own = some m.cls) (pre : List ExceptionTableEntry) (x : ExceptionTableEntry) (suf : List ExceptionTableEntry) (hsplit : c.exceptionTable.toList = pre ++ x :: suf)
    (hp : ∀ z ∈ pre, covers z pc = true ∧ z.catchType ≠ 0 ∧ ∃ nm : String, (Cond.classLink own z.catchType nm).before args s = true ∧ va_Nc E nm s) (hx : covers x pc = true) (h0 : x.catchType ≠ 0) (hlink : (Cond.classLink own x.catchType name).before args s = true) (hcast : (Cond.castable E name).before args s = true) (hcell : H[q]? = some ce) (hv : ce.vm = .none) (hcl : s.vm.findClass E = some ce.cls)
    (kk : W p l e R s m args below meth c H locs cells slots Q (F0 m x.handlerPc ls [.ref q])) : vx_W p l e R s m args below meth c H locs cells slots Q (F0 m pc ls rest) q := by
  intro T hT X
  have hpl : e.platform.magicAccessors = ({} : Platform).magicAccessors := by rw [X.admits.platform]
  obtain ⟨c3, c4, hc3, hc4, hasg⟩ := Cond.castable_spec hcast
  cases Option.some.inj (hc3.symm.trans hcl)
  obtain ⟨c5, hc5, hcl5⟩ := Cond.classLink_spec hown hlink e.platform hpl
  cases Option.some.inj (hc4.symm.trans hc5)
  obtain ⟨vm', X', st⟩ := kh_caught X (a := q) (g := F0 m pc ls rest) rfl (by rw [hT]; exact hcell) (by rw [hv]; rfl) (by obtain ⟨k9, h9, -⟩ := Vm.findClass_spec hcl; exact ⟨k9, h9⟩) pre x suf hsplit
    (fun z hz => by
      obtain ⟨h1, h2, nm, hl1, a8, b8, g1, g2, g3⟩ := hp z hz
      obtain ⟨c6, hc6, hcl6⟩ := Cond.classLink_spec hown hl1 e.platform hpl
      cases Option.some.inj (g1.symm.trans hcl)
      cases Option.some.inj (g2.symm.trans hc6)
      exact ⟨h1, h2, _, hcl6, g3⟩) ⟨hx, h0, c4, hcl5, hasg⟩
  obtain ⟨t, a1, b1⟩ := kk (T.setVm vm') hT X'
  exact ⟨t, st t a1, b1⟩
/-! THE LAW's METHODS: the desk's cells, and one long beside them -/
abbrev xI : String := "java/lang/IllegalArgumentException"
abbrev xS : String := "java/lang/IllegalStateException"
abbrev xA : String := "java/lang/ArithmeticException"
abbrev xN : String := "java/util/NoSuchElementException"
def kl_o (cJ : ClassId) (o : Nat) (f : Nat → Int64) : Nat × va_E := (o, .inl (cJ, 1, .inr (.inl f)))
def kl_wl (C : Cc) (cJ : ClassId) (Y : Ly) (I : Mm) (o : Nat) (f : Nat → Int64) : va_W := ky_wl C Y I ++ [kl_o cJ o f]
def kl_J (cJ : ClassId) (U : State) : Prop := ArrOfT U cJ .long ∧ va_RA U cJ .long
theorem kl_J.moved {cJ : ClassId} {u U : State} (hvm : u.vm.Alike U.vm) (h : kl_J cJ u) : kl_J cJ U := ⟨arrOfT_moved hvm h.1, h.2.moved hvm⟩
def kl_nc : List (String × String) := [(xS, xI), (xA, xI), (xN, xI), (xN, xA)]
def kl_Z (l : Launch) (A : Nat → Prop) (U : State) : Prop := ky_Z l A U ∧ ∀ q ∈ kl_nc, va_Nc q.1 q.2 U
theorem ky_Z.nar {l : Launch} {A B : Nat → Prop} {U : State} (h : ky_Z l A U) (hAB : ∀ q, B q → A q) : ky_Z l B U := ⟨h.1, h.2.1, h.2.2.1.narrow hAB, h.2.2.2.1.narrow hAB, h.2.2.2.2⟩
theorem kl_Z.go {l : Launch} {A : Nat → Prop} {s U : State} (hW : s.WarmedH U.vm) (hq : ∀ a : Nat, a < s.heap.size → ¬ A a → U.heap[a]? = s.heap[a]?) (h : kl_Z l A s) : kl_Z l A U := ⟨h.1.go hW hq, fun q hq9 => (h.2 q hq9).moved hW.alike⟩
theorem kl_Z.nar {l : Launch} {A B : Nat → Prop} {U : State} (h : kl_Z l A U) (hAB : ∀ q, B q → A q) : kl_Z l B U := ⟨h.1.nar hAB, h.2⟩
section KLD
variable {C : Cc} {cJ : ClassId} {Y : Ly} {I J : Mm} {o : Nat} {f g : Nat → Int64} {A : Nat → Prop} {H H1 : Heap}
theorem kl_len : (kl_wl C cJ Y I o f).length = Y.1 + 1 := by unfold kl_wl; rw [List.length_append, ky_wl_len]; rfl
theorem kl_at {k : Nat} (h : k < Y.1) : (kl_wl C cJ Y I o f)[k]? = some (Y.2.1 k, ky_ce C Y I k) := by
  unfold kl_wl
  rw [List.getElem?_append_left (by rw [ky_wl_len]; exact h), ky_wl_get h]
theorem kl_ato : (kl_wl C cJ Y I o f)[Y.1]? = some (kl_o cJ o f) := by
  unfold kl_wl
  rw [List.getElem?_append_right (by rw [ky_wl_len]; exact Nat.le_refl _), ky_wl_len, Nat.sub_self]
  rfl
theorem kl_ad {k : Nat} {q : Nat × va_E} (h : (kl_wl C cJ Y J o g)[k]? = some q) : ∃ e, (kl_wl C cJ Y I o f)[k]? = some (q.1, e) := by
  have hk := (List.getElem?_eq_some_iff.mp h).1
  rw [kl_len] at hk
  by_cases h1 : k < Y.1
  · rw [kl_at h1] at h
    cases h
    exact ⟨_, kl_at h1⟩
  · rw [show k = Y.1 by omega, kl_ato] at h
    cases h
    rw [show k = Y.1 by omega]
    exact ⟨_, kl_ato⟩
theorem kl_D (h : va_D A (kl_wl C cJ Y I o f)) : va_D A (kl_wl C cJ Y J o g) := by
  refine ⟨fun i j x y hx hy hxy => ?_, fun k x hx => ?_⟩
  · obtain ⟨e1, h1⟩ := kl_ad (I := I) (f := f) hx
    obtain ⟨e2, h2⟩ := kl_ad (I := I) (f := f) hy
    exact h.1 i j _ _ h1 h2 hxy
  · obtain ⟨e1, h1⟩ := kl_ad (I := I) (f := f) hx
    exact h.2 k (x.1, e1) h1
theorem kl_D1 (h : va_D A (kl_wl C cJ Y I o f)) : va_D (fun q => A q ∧ q ≠ o) (ky_wl C Y J) := by
  have lift : ∀ (k : Nat) (x : Nat × va_E), (ky_wl C Y J)[k]? = some x → k < Y.1 ∧ x.1 = Y.2.1 k := fun k x hx => by
    have hk := (List.getElem?_eq_some_iff.mp hx).1
    rw [ky_wl_len] at hk
    rw [ky_wl_get hk] at hx
    cases hx
    exact ⟨hk, rfl⟩
  refine ⟨fun i j x y hx hy hxy => ?_, fun k x hx => ?_⟩
  · obtain ⟨a1, a2⟩ := lift i x hx
    obtain ⟨b1, b2⟩ := lift j y hy
    exact h.1 i j _ _ (kl_at a1) (kl_at b1) (by show Y.2.1 i = Y.2.1 j; rw [← a2, ← b2, hxy])
  · obtain ⟨a1, a2⟩ := lift k x hx
    refine ⟨by rw [a2]; exact h.2 k _ (kl_at a1), fun e => ?_⟩
    have := h.1 k Y.1 _ _ (kl_at a1) kl_ato (by show Y.2.1 k = o; rw [← a2, e])
    omega
theorem kl_P1 (h : va_P C.1 vwCl (kl_wl C cJ Y I o f) H) : va_P C.1 vwCl (ky_wl C Y I) H := fun k x hx => by
  have hk := (List.getElem?_eq_some_iff.mp hx).1
  rw [ky_wl_len] at hk
  refine h k x ?_
  rw [kl_at hk, ← ky_wl_get hk]
  exact hx
theorem kl_P (h1 : va_P C.1 vwCl (ky_wl C Y J) H1) (h : va_P C.1 vwCl (kl_wl C cJ Y I o f) H) (ho : H1[o]? = H[o]?) : va_P C.1 vwCl (kl_wl C cJ Y J o f) H1 := by
  refine va_P.app h1 (fun k x hx => ?_)
  have hz : k < 1 := (List.getElem?_eq_some_iff.mp hx).1
  rw [show k = 0 by omega] at hx
  cases hx
  exact (h Y.1 _ kl_ato).kept ho
end KLD
abbrev kl_rm : Room := { frames := 7, cells := 1, slots := 6, locals := 250 }
def kl_Pre (l : Launch) (C : Cc) (cJ : ClassId) (Y : Ly) (I : Mm) (o : Nat) (f : Nat → Int64) (av : List Value) (sz : Nat) : Array Value → State → Prop := va_Pc av (fun U => U.heap.size = sz ∧ va_P C.1 vwCl (kl_wl C cJ Y I o f) U.heap ∧ (kq_K C U ∧ kl_J cJ U) ∧ va_D (fun _ => True) (kl_wl C cJ Y I o f) ∧ kl_Z l (va_A (kl_wl C cJ Y I o f) sz) U)
theorem ky_Z.same {l : Launch} {A : Nat → Prop} {u U : State} (hv : U.vm = u.vm) (hh : U.heap = u.heap) (h : ky_Z l A u) : ky_Z l A U := by
  obtain ⟨z1, z2, z3, z4, z5⟩ := h
  have hvm : u.vm.Alike U.vm := by rw [hv]; exact Vm.Alike.refl _
  exact ⟨z1, fun w hw hc => va_Nw.same (ky_cd.tab hc) hv.symm (z2 w hw hc), by rw [hh]; exact vx_Zq.moved hvm z3, by rw [hh]; exact vx_Zq.moved hvm z4, fun q9 h9 => (z5 q9 h9).elim fun a9 h8 => ⟨a9, vk_R.same hv h8⟩⟩
theorem kq_K.same {C : Cc} {u U : State} (hv : U.vm = u.vm) (h : kq_K C u) : kq_K C U := by
  obtain ⟨⟨q2, q4, q5, q6⟩, r1, r2, r3, r4, r5, r6, r7⟩ := h
  have hvm : u.vm.Alike U.vm := by rw [hv]; exact Vm.Alike.refl _
  exact ⟨⟨va_K.moved hvm q2, va_Nw.same rfl hv.symm q4, va_Nw.same rfl hv.symm q5, va_Nw.same rfl hv.symm q6⟩, va_Nw.same rfl hv.symm r1, va_Nw.same rfl hv.symm r2, va_Nw.same rfl hv.symm r3, r4.moved hvm, r5.moved hvm, r6.moved hvm, r7.moved hvm⟩
theorem kl_blind {l : Launch} {C : Cc} {cJ : ClassId} {Y : Ly} {I : Mm} {o : Nat} {f : Nat → Int64} {av : List Value} {sz : Nat} : FrameBlind (kl_Pre l C cJ Y I o f av sz) := fun a U g mk q => by
  obtain ⟨q0, q1, qP, ⟨qK, qJ⟩, qD, qZ, qN⟩ := q
  exact ⟨q0, q1, qP, ⟨kq_K.same (u := U) (U := U.calling g mk a) rfl qK, qJ.moved (u := U) (U := U.calling g mk a) (Vm.Alike.refl U.vm)⟩, qD, ky_Z.same (u := U) (U := U.calling g mk a) rfl rfl qZ, fun x hx => (qN x hx).moved (u := U) (U := U.calling g mk a) (Vm.Alike.refl U.vm)⟩
def kl_Q (C : Cc) (cJ : ClassId) (Y : Ly) (o : Nat) (A : Nat → Prop) (P : Int32 → Mm × (Nat → Int64) → Prop) : Array Value → State → Outcome → State → Prop := va_Qi P (fun u t => va_P C.1 vwCl (kl_wl C cJ Y u.1 o u.2) t.heap ∧ va_D A (kl_wl C cJ Y u.1 o u.2)) A
abbrev kl_M (l : Launch) (y : MethodName) (cc : ByteArray) (nL : Nat) (hh : List (Nat × Nat × Nat × Nat)) (C : Cc) (cJ : ClassId) (Y : Ly) (I : Mm) (o : Nat) (f : Nat → Int64) (av : List Value) (sz : Nat) (P : Int32 → Mm × (Nat → Int64) → Prop) : Prop :=
  Met l y (.codeWith y cc nL (some .int) hh :: ky_WS) kl_rm (kl_Pre l C cJ Y I o f av sz) (kl_Q C cJ Y o (va_A (kl_wl C cJ Y I o f) sz) P) 1 6 (va_A (kl_wl C cJ Y I o f) sz)
theorem kl_met {l : Launch} {y : MethodName} {cc : ByteArray} {nL : Nat} {hh : List (Nat × Nat × Nat × Nat)} {C : Cc} {cJ : ClassId} {Y : Ly} {I : Mm} {o : Nat} {f : Nat → Int64} {av : List Value} {sz : Nat} {P : Int32 → Mm × (Nat → Int64) → Prop} (hy : plainName y.cls = true) (hlen : (lg_sl av).length ≤ nL)
    (body : ∀ (p : Program) (e : Env) (s : State) (m : MethodId) (args : Array Value) (below : List Frame) (meth : Method) (c : Code) (A : Nat → Prop), kq_X p s m args meth c C cc nL y.cls A → meth.sig.returnType = some .int → c.exceptionTable.toList = tableOf hh → kl_J cJ s → kl_Z l A s → kq_G p l e kl_rm s m args below meth c C A nL (MQ below (kl_Q C cJ Y o A P) args s 1 6 A) 0 (lv_args 0 av) [] 0 0 (kl_wl C cJ Y I o f)) : kl_M l y cc nL hh C cJ Y I o f av sz P := by
  refine va_MetW (cc := cc) (maxL := nL) (ret := some .int) (hh := hh) hy rfl ?_
  intro p e s m args below meth c s₁ B hml hv
  obtain ⟨rfl, rfl, hP, ⟨hK, hJ⟩, hD, hZ⟩ := hv
  have hts := atoms_spec (ws := .codeWith y cc nL (some .int) hh :: ky_WS) B.pre
  have hown : s.vm.findClass y.cls = some m.cls := findClass_of_methodNamed B.named
  have hT := vx_table (x := y) B (hts _ List.mem_cons_self)
  rw [lg_entry_eq]
  exact body p e s m _ below meth c _ ⟨B.exec, B.bytes, hml, B.notSynchronized, hown, fun w hw => hts w (List.mem_cons_of_mem _ hw), hK, fun q h => Or.inr h⟩ B.returns hT hJ hZ s.heap [] _ hP hD.self va_S.rf (lv_entry av hlen)
/-- the row of a table that takes E, thrown at pc -/
def kl_h (pc : Nat) (tb : List ExceptionTableEntry) (E : String) (h : Nat) : Prop := ∃ (pre : List ExceptionTableEntry) (x : ExceptionTableEntry) (suf : List ExceptionTableEntry), tb = pre ++ x :: suf ∧ (∀ z ∈ pre, covers z pc = true ∧ z.catchType ≠ 0 ∧ ∃ nm : String, Cond.classLink RL z.catchType nm ∈ ky_WS ∧ (E, nm) ∈ kl_nc) ∧ covers x pc = true ∧ x.catchType ≠ 0 ∧ Cond.classLink RL x.catchType E ∈ ky_WS ∧ Cond.castable E E ∈ lw_tbl ∧ x.handlerPc = h
section KLR
variable {p : Program} {l : Launch} {e : Env} {R : Room} {s : State} {m : MethodId} {args : Array Value} {below : List Frame} {meth : Method} {c : Code} {C : Cc} {A : Nat → Prop} {Q : State → Prop} {cc : ByteArray} {nL pc : Nat} {own : String} {lv lv' : List (Nat × Value)} {st : List Value} {kn zn : Nat} {ws ws' : va_W} {cJ : ClassId} {Y : Ly} {I : Mm} {o : Nat} {f : Nat → Int64}
theorem kq_i2l (X : kq_X p s m args meth c C cc nL own A) {x : Int32} (hdg : decode cc pc = .ok (.i2l, 1)) (h : kq_G p l e R s m args below meth c C A nL Q (pc + 1) lv (.long x.toInt64 :: st) kn zn ws) : kq_G p l e R s m args below meth c C A nL Q pc lv (.int x :: st) kn zn ws := fun H locs ls hP hD hS hl => lv_i2l X.1 X.2.1 hdg rfl (h H locs ls hP hD hS hl)
theorem kl_KJ (X : kq_X p s m args meth c C cc nL own A) (hJ : kl_J cJ s) : va_K C.1 vwCl [(cJ, .long)] s := ⟨X.2.2.2.2.2.2.1.1.1.1, fun k q hq => by
  have hz : k < 1 := (List.getElem?_eq_some_iff.mp hq).1
  rw [show k = 0 by omega] at hq
  cases hq
  exact hJ⟩
theorem kq_last9 (X : kq_X p s m args meth c C cc nL own A) (hJ : kl_J cJ s) {x : Int64} (hdg : decode cc pc = .ok (.lastore, 1)) (h : ∀ g : Nat → Int64, g 0 = x → kq_G p l e R s m args below meth c C A nL Q (pc + 1) lv st kn zn (kl_wl C cJ Y I o g)) : kq_G p l e R s m args below meth c C A nL Q pc lv (.long x :: .int 0 :: .ref o :: st) kn zn (kl_wl C cJ Y I o f) := fun H locs ls hP hD hS hl => by
  have hset : (kl_wl C cJ Y I o f).set Y.1 (o, .inl (cJ, 1, .inr (.inl (vp_updL f (0 : Int32).toNatClampNeg x)))) = kl_wl C cJ Y I o (vp_updL f 0 x) := by
    unfold kl_wl
    rw [List.set_append_right _ _ (by rw [ky_wl_len]; exact Nat.le_refl _), ky_wl_len, Nat.sub_self]
    rfl
  exact va_last (D := C.1) X.1 X.2.1 (kl_KJ X hJ) hP hD hS Y.1 0 kl_ato rfl (by unfold vp_in; decide) hdg (fun H1 locs1 hP1 hD1 hS1 => h (vp_updL f 0 x) (by simp [vp_updL]) H1 locs1 ls (by rw [← hset]; exact hP1) (by rw [← hset]; exact hD1) hS1 hl)
theorem kl_iret (X : kq_X p s m args meth c C cc nL own A) {P : Int32 → Mm × (Nat → Int64) → Prop} {v : Int32} (hr : meth.sig.returnType = some .int) (hp : P v (I, f)) (hdg : decode cc pc = .ok (.ireturn, 1)) : kq_G p l e R s m args below meth c C A nL (MQ below (kl_Q C cJ Y o A P) args s 1 6 A) pc lv [.int v] 1 6 (kl_wl C cJ Y I o f) := fun H locs ls hP hD hS _ =>
  W.iret (v := v) X.1 X.2.1 hr (fun t ht _ => ⟨⟨v, (I, f), rfl, hp, by rw [ht]; exact hP, hD⟩, hS.F ht⟩) hS.2.2 hdg X.2.2.2.1
set_option maxHeartbeats 4000000 in
theorem kl_call (X : kq_X p s m args meth c C cc nL RL A) (hZ : kl_Z l A s) {ci idx n maxL : Nat} {y : MethodName} {bytes : ByteArray} {As stk : List Value} {rm : Room} {Cn : String} {Tn : u_T} {post : Int32 → Mm → Prop} {xp : String → Mm → Prop} {tb : List ExceptionTableEntry} (htb : c.exceptionTable.toList = tb) (hM : ∀ A', ky_MX l y bytes maxL rm C Y A' I (.ref (Y.2.1 0) :: As) post xp) (hC : ky_C ci Cn Tn) (hk : ky_is Y 0 ci) (hyc : y.cls = Cn) (hw : ky_iv y Cn (.code y bytes maxL (some .int))) (hl9 : Cond.methodLink RL idx y ∈ ky_WS) (hd : ky_dy y n) (hR : rm.cells = 1 ∧ rm.slots = 6 ∧ rm.frames + 1 ≤ R.frames ∧ 8 + (maxL + 11) + rm.locals ≤ R.locals) (hRc : 1 ≤ R.cells ∧ 6 ≤ R.slots) (hn : As.length = n) (hstk : stk = As.reverse ++ .ref (Y.2.1 0) :: st) (hst : (st.map fun v => v.category).sum ≤ 8) (hdg : decode cc pc = .ok (.invokevirtual idx, 3))
    (hx : ∀ (E : String) (J : Mm), xp E J → ∃ h, kl_h pc tb E h ∧ ∀ q9 : Nat, kq_G p l e R s m args below meth c C A nL Q h lv [.ref q9] 1 6 (kl_wl C cJ Y J o f))
    (h : ∀ (r : Int32) (J : Mm), post r J → kq_G p l e R s m args below meth c C A nL Q (pc + 3) lv (.int r :: st) 1 6 (kl_wl C cJ Y J o f)) : kq_G p l e R s m args below meth c C A nL Q pc lv stk 0 0 (kl_wl C cJ Y I o f) := fun H locs ls hP hD hS hl => by
  have hoA : ¬ (fun q => A q ∧ q ≠ o) o := fun h9 => h9.2 rfl
  have hol : o < H.size := (hP Y.1 _ kl_ato).lt
  refine vx_calli (vx_runV (As := As) (rest := st) ⟨X.1, X.2.1, X.2.2.1, X.2.2.2.2.1, X.2.2.2.2.2.1⟩ (hM (fun q => A q ∧ q ≠ o)) (cwV n X.2.2.2.2.2.1 (ky_gV hw hl9) rfl hR.1 hR.2.1 ⟨hyc, hd⟩ hR.2.2) ⟨ky_blindX, va_recv (q := (Cn, Tn, ky_nf ci)) X.2.2.2.2.2.2.1.1.1 (kl_P1 hP) hC.2.1 (q0 := 0) (by rw [ky_wl_get hk.1, ky_ce_o hk hC.1]), fun U hU hW => ⟨rfl, by rw [hU]; exact kl_P1 hP, X.2.2.2.2.2.2.1.1.warm hW, kl_D1 hD, (hZ.1.go hW (fun a h1 h2 => by rw [hU]; exact hS.2.1 a h1 h2)).nar (fun q h9 => h9.1)⟩⟩ rfl hn hl.1 hstk (lv_room hst) hdg ⟨by rw [Nat.zero_add]; exact hRc.1, by rw [Nat.zero_add]; exact hRc.2⟩) hS (fun q _ h9 => h9.1) (fun q h9 => h9.1) (fun q _ h9 => h9.1) (fun E ce q9 J t H1 locs1 ht _ _ hB _ hk1 hS1 hce hcv hcl => ?_) (fun r J t H1 locs1 ht _ hp hB _ hk1 hS1 => ?_)
  · obtain ⟨hxp, hB1, hB2⟩ := hB
    obtain ⟨hp, ⟨pre, x, suf, e1, e2, e3, e4, e5, e6, rfl⟩, hg⟩ := hx E J hxp
    refine kh_W X.2.2.2.2.1 pre x suf (htb.trans e1) (fun z hz => ?_) e3 e4 (X.2.2.2.2.2.1 _ e5) ?_ hce hcv hcl (hg q9 H1 locs1 ls (kl_P (by rw [← ht]; exact hB1) hP (hk1 o hol hoA)) (kl_D hD) hS1 hl)
    · obtain ⟨a1, a2, nm, a3, a4⟩ := e2 z hz
      exact ⟨a1, a2, nm, X.2.2.2.2.2.1 _ a3, hZ.2 _ a4⟩
    · exact (hZ.1.2.1 _ e6 rfl).use rfl
  · exact h r J hp H1 locs1 ls (kl_P (by rw [← ht]; exact hB.1) hP (hk1 o hol hoA)) (kl_D hD) hS1 hl
end KLR
/-- what a method of the law hands on: 0 and the answer, or the number of what was thrown -/
def kl_po (post : Int32 → Mm → Prop) (px : Int32 → Mm → Prop) (r : Int32) (u : Mm × (Nat → Int64)) : Prop := (r = 0 ∧ ∃ x, post x u.1 ∧ u.2 0 = x.toInt64) ∨ (r ≠ 0 ∧ px r u.1)
def kl_xp (cs : List (String × Int32)) (px : Int32 → Mm → Prop) (E : String) (J : Mm) : Prop := ∃ k, (E, k) ∈ cs ∧ px k J
