/-- castable and declares: on the tables, but not among the words that stay by themselves -/
def ky_cd : Cond → Bool
  | .castable .. => true
  | .declares _ => true
  | _ => false
theorem ky_cd.warm {w : Cond} {s U : State} (hw : ky_cd w = true) (hW : s.WarmedH U.vm) (h : va_Nw w s) : va_Nw w U := by
  cases w <;> first | exact va_Nw.warmC hW h | exact va_Nw.warmD hW h | exact absurd hw (by decide) | (simp [ky_cd] at hw)
theorem ky_cd.tab {w : Cond} (hw : ky_cd w = true) : w.onTables = true := by
  cases w <;> first | rfl | (simp [ky_cd] at hw)
def ky_strs : List (Nat × String) := [(52, "a relation has 1 or 2 places"), (62, "there are 4 relations"), (79, "no bound on the places of a relation"), (87, "the relation has 4 marks, or this one"), (96, "no relation with its variables"), (101, "there are 12 clauses"), (114, "there is no clause, or it has 2 atoms"), (127, "no bound on variables and ZERO"), (132, "there is no clause, or it has 8 bounds"), (140, "there is a verdict or an alarm"), (146, "there is no alarm, or a verdict"), (151, "fuel is 0 .. 100"), (157, "no clause, or not two of its variables and ZERO"), (165, "the bounds do not hold together"), (175, "no such bound follows"), (187, "no such relation, or nothing to show"), (189, "no such mark"), (204, "no such relation or cube, or nothing to show"), (225, "nothing to show"), (227, "no such node, or more than 40")]
/-- what a throw asks of the start: no traces, two statics of Throwable, the texts, the words beside -/
def ky_Z (l : Launch) (A : Nat → Prop) (U : State) : Prop := l.stackTraces = false ∧ (∀ w ∈ lw_tbl, ky_cd w = true → va_Nw w U) ∧ vx_Zq Bundle.tN "UNASSIGNED_STACK" Bundle.steD A U U.heap ∧ vx_Zq Bundle.tN "SUPPRESSED_SENTINEL" Bundle.listD A U U.heap ∧ ∀ q ∈ ky_strs, ∃ a, vk_R RX6 q.1 q.2 a U
theorem ky_Z.go {l : Launch} {A : Nat → Prop} {s U : State} (hW : s.WarmedH U.vm) (hq : ∀ a : Nat, a < s.heap.size → ¬ A a → U.heap[a]? = s.heap[a]?) (h : ky_Z l A s) : ky_Z l A U :=
  ⟨h.1, fun w hw hc => ky_cd.warm hc hW (h.2.1 w hw hc), vx_Zq.moved hW.alike (h.2.2.1.kept hq), vx_Zq.moved hW.alike (h.2.2.2.1.kept hq), fun q hq9 => (h.2.2.2.2 q hq9).elim fun a ha => ⟨a, ha.warm hW⟩⟩
def ky_PreX (l : Launch) (C : Cc) (Y : Ly) (A : Nat → Prop) (I : Mm) (av : List Value) : Array Value → State → Prop := va_Pc av (fun U => va_P C.1 vwCl (ky_wl C Y I) U.heap ∧ ky_K C U ∧ va_D A (ky_wl C Y I) ∧ ky_Z l A U)
theorem ky_blindX {l : Launch} {C : Cc} {Y : Ly} {A : Nat → Prop} {I : Mm} {av : List Value} : FrameBlind (ky_PreX l C Y A I av) := fun a U g mk q => by
  obtain ⟨q0, q1, ⟨q2, q4, q5, q6⟩, q3, z1, z2, z3, z4, z5⟩ := q
  exact ⟨q0, q1, ⟨va_K.moved (u := U) (U := U.calling g mk a) (Vm.Alike.refl U.vm) q2, va_Nw.same rfl rfl q4, va_Nw.same rfl rfl q5, va_Nw.same rfl rfl q6⟩, q3, z1, fun w hw hc => va_Nw.same (u := U) (U := U.calling g mk a) (ky_cd.tab hc) rfl (z2 w hw hc), vx_Zq.moved (u := U) (U := U.calling g mk a) (Vm.Alike.refl U.vm) z3, vx_Zq.moved (u := U) (U := U.calling g mk a) (Vm.Alike.refl U.vm) z4, fun q9 h9 => (z5 q9 h9).elim fun a9 h8 => ⟨a9, vk_R.same rfl h8⟩⟩
def ky_XC (C : Cc) (Y : Ly) (A : Nat → Prop) (xp : String → Mm → Prop) : String → State → State → Prop := vx_X (fun _ : Mm => True) (fun E J t => xp E J ∧ ky_B C Y A J t) A
abbrev ky_XQ (below : List Frame) (Qc : Array Value → State → Outcome → State → Prop) (XC : String → State → State → Prop) (args : Array Value) (s : State) (A : Nat → Prop) : State → Prop := vx_MQ below Qc XC args s 1 6 A
/-- a method that may throw, begun: its table of handlers is empty -/
abbrev ky_Y (l : Launch) (A : Nat → Prop) (s : State) (c : Code) : Prop := ky_Z l A s ∧ ∀ x ∈ c.exceptionTable.toList, False
theorem ky_metX {l : Launch} {y : MethodName} {cc : ByteArray} {nL : Nat} {ret : Option FieldType} {rm : Room} {C : Cc} {Y : Ly} {A : Nat → Prop} {I : Mm} {av : List Value} {Qc : Array Value → State → Outcome → State → Prop} {XC : String → State → State → Prop} (hy : plainName y.cls = true) (hlen : (lg_sl av).length ≤ nL)
    (body : ∀ (p : Program) (e : Env) (s : State) (m : MethodId) (args : Array Value) (below : List Frame) (meth : Method) (c : Code), ky_X p s m args meth c C cc nL y.cls → meth.sig.returnType = ret → ky_Y l A s c → ky_G p l e rm s m args below meth c C Y A nL (ky_XQ below Qc XC args s A) 0 (lv_args 0 av) [] I) : vx_Met l y (.code y cc nL ret :: ky_WS) rm (ky_PreX l C Y A I av) Qc XC 1 6 A := by
  refine vx_ofW (cc := cc) (maxL := nL) (ret := ret) hy rfl ?_
  intro p e s m args below meth c s₁ B hml hT hv
  obtain ⟨rfl, hP, hK, hD, hZ⟩ := hv
  have hts := atoms_spec (ws := .code y cc nL ret :: ky_WS) B.pre
  have hown : s.vm.findClass y.cls = some m.cls := findClass_of_methodNamed B.named
  rw [lg_entry_eq]
  exact body p e s m _ below meth c ⟨B.exec, B.bytes, hml, B.notSynchronized, hown, fun w hw => hts w (List.mem_cons_of_mem _ hw), hK⟩ B.returns ⟨hZ, hT⟩ s.heap [] _ hP hD va_S.rf (lv_entry av hlen)
abbrev ky_MX (l : Launch) (y : MethodName) (cc : ByteArray) (nL : Nat) (rm : Room) (C : Cc) (Y : Ly) (A : Nat → Prop) (I : Mm) (av : List Value) (post : Int32 → Mm → Prop) (xp : String → Mm → Prop) : Prop :=
  vx_Met l y (.code y cc nL (some .int) :: ky_WS) rm (ky_PreX l C Y A I av) (va_Qi post (ky_B C Y A) A) (ky_XC C Y A xp) 1 6 A
/-- an exception's words are in the tables -/
def ky_E (cls : String) (ik ic kx : Nat) (bx : ByteArray) : Prop := (decode bx 0 = .ok (.aload_n 0, 1) ∧ decode bx 1 = .ok (.aload_n 1, 1) ∧ decode bx 2 = .ok (.invokespecial kx, 3) ∧ decode bx 5 = .ok (.return_, 1)) ∧ Bundle.fit cls = true ∧ Cond.classLink RX6 ik cls ∈ ky_WS ∧ Cond.initialized cls ∈ ky_WS ∧ (∀ w ∈ (ky_oA RX6 ic cls "java/lang/RuntimeException" ["java/lang/Exception"] kx bx).filter vx_no, w ∈ lw_tbl ∧ (goodWord w = true ∨ ky_cd w = true)) ∧ ∀ w ∈ Cond.classLink RX6 ik cls :: Cond.initialized cls :: (ky_oA RX6 ic cls "java/lang/RuntimeException" ["java/lang/Exception"] kx bx).filter vx_no, vx_ot w = true
section KYT
variable {p : Program} {l : Launch} {e : Env} {R : Room} {s : State} {m : MethodId} {args : Array Value} {below : List Frame} {meth : Method} {c : Code} {C : Cc} {Y : Ly} {A : Nat → Prop} {cc : ByteArray} {nL pc : Nat} {own : String} {lv : List (Nat × Value)} {st : List Value} {I : Mm} {XC : String → State → State → Prop}
theorem kx_iret (X : ky_X p s m args meth c C cc nL own) {post : Int32 → Mm → Prop} {v : Int32} (hr : meth.sig.returnType = some .int) (hp : post v I) (hdg : decode cc pc = .ok (.ireturn, 1)) : ky_G p l e R s m args below meth c C Y A nL (ky_XQ below (va_Qi post (ky_B C Y A) A) XC args s A) pc lv [.int v] I := fun H locs ls hP hD hS _ =>
  W.widen (k := 1) (n := 6) (Nat.zero_le _) (Nat.zero_le _) (vx_ret (W.iret (v := v) X.1 X.2.1 hr (fun t ht _ => ⟨⟨v, I, rfl, hp, by rw [ht]; exact hP, hD⟩, hS.F ht⟩) hS.2.2 hdg X.2.2.2.1))
theorem kx_throw (X : ky_X p s m args meth c C cc nL RX6) (hz : ky_Y l A s c) {xp : String → Mm → Prop} {Qc : Array Value → State → Outcome → State → Prop} {cls text : String} {ik is ic kx : Nat} {bx : ByteArray} (hE : ky_E cls ik ic kx bx) (hs9 : (is, text) ∈ ky_strs) (hR : 5 < R.frames ∧ 82 ≤ R.locals ∧ 1 ≤ R.cells ∧ 6 ≤ R.slots) (d0 : decode cc pc = .ok (.new ik, 3)) (d3 : decode cc (pc + 3) = .ok (.dup, 1)) (d4 : decode cc (pc + 4) = .ok (.ldc is, 2)) (d6 : decode cc (pc + 6) = .ok (.invokespecial ic, 3)) (d9 : decode cc (pc + 9) = .ok (.athrow, 1)) (hw : xp cls I) : ky_G p l e R s m args below meth c C Y A nL (ky_XQ below Qc (ky_XC C Y A xp) args s A) pc lv [] I := fun H locs ls hP hD hS hl => by
  obtain ⟨⟨z1, z2, z3, z4, z5⟩, hT⟩ := hz
  obtain ⟨sa, hsa⟩ := z5 _ hs9
  refine ky_throwN X.1 X.2.1 z1 (own := RX6) (cls := cls) (text := text) (Y9 := "java/lang/RuntimeException") (r := ["java/lang/Exception"]) (kx := kx) (bx := bx) hE.1.1 hE.1.2.1 hE.1.2.2.1 hE.1.2.2.2 (ik := ik) (is := is) (ic := ic) (mc := 1) (ms := 6) (sa := sa) (A := A) X.2.2.2.2.1 hE.2.1 (by decide) (by decide) (X.2.2.2.2.2.1 _ hE.2.2.1) (X.2.2.2.2.2.1 _ hE.2.2.2.1) hsa ?_ hE.2.2.2.2.2 z3 z4 hS (hl.1.trans X.2.2.1.symm) d0 d3 d4 d6 d9 (fun x hx => (hT x hx).elim) hR.1 ?_ ?_ ?_ X.2.2.2.1 ?_ hS.2.2 (Nat.le_refl _) (Nat.le_refl _)
  · intro w hw9
    obtain ⟨h1, h2⟩ := hE.2.2.2.2.1 w hw9
    rcases h2 with h2 | h2
    · exact X.2.2.2.2.2.1 w (List.mem_filter.mpr ⟨h1, h2⟩)
    · exact (z2 w h1 h2).use (ky_cd.tab h2)
  · exact hR.2.1
  · exact hR.2.2.1
  · exact hR.2.2.2
  · intro t hvm hz9 hq9
    have hP9 : va_P C.1 vwCl (ky_wl C Y I) t.heap := hP.kept (fun k q hk => hq9 q.1 (hP k q hk).lt)
    refine ⟨I, trivial, ⟨hw, hP9, hD⟩, Nat.le_trans hS.1 hz9, fun q h1 h2 => ?_⟩
    rw [hq9 q (Nat.lt_of_lt_of_le h1 hS.1)]
    exact hS.2.1 q h1 h2
end KYT
theorem ke_50 : ky_E "java/lang/IllegalArgumentException" 50 54 7 prog_12_method_2_code := ⟨by decide +kernel, by decide, ky_in 311 (by decide +kernel) (by decide +kernel), ky_in 12 (by decide +kernel) (by decide +kernel), by decide +kernel, by decide +kernel⟩
theorem ke_60 : ky_E "java/lang/IllegalStateException" 60 64 7 prog_13_method_2_code := ⟨by decide +kernel, by decide, ky_in 380 (by decide +kernel) (by decide +kernel), ky_in 13 (by decide +kernel) (by decide +kernel), by decide +kernel, by decide +kernel⟩
theorem ke_163 : ky_E "java/lang/ArithmeticException" 163 167 7 prog_10_method_2_code := ⟨by decide +kernel, by decide, ky_in 574 (by decide +kernel) (by decide +kernel), ky_in 15 (by decide +kernel) (by decide +kernel), by decide +kernel, by decide +kernel⟩
theorem ke_173 : ky_E "java/util/NoSuchElementException" 173 177 13 prog_18_method_4_code := ⟨by decide +kernel, by decide, ky_in 591 (by decide +kernel) (by decide +kernel), ky_in 16 (by decide +kernel) (by decide +kernel), by decide +kernel, by decide +kernel⟩
