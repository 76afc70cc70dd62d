/-! THE LAW: from its entry to its loop -/
theorem kt_17 : Cond.classLink RL 8 RX6 ∈ ky_WS := ky_in 17 (by decide +kernel) (by decide +kernel)
theorem kt_19 : Cond.methodLink RL 58 yX6_init ∈ ky_WS := ky_in 19 (by decide +kernel) (by decide +kernel)
theorem kt_634 : Cond.classLink RL 59 RX7 ∈ ky_WS := ky_in 634 (by decide +kernel) (by decide +kernel)
theorem kt_636 : Cond.methodLink RL 61 yX7_init ∈ ky_WS := ky_in 636 (by decide +kernel) (by decide +kernel)
theorem kt_938 : Cond.arrayClass .long ∈ ky_WS := ky_in 938 (by decide +kernel) (by decide +kernel)
theorem kr_mid {D : va_G} {cl : List vw_C} {A : Nat → Prop} {X M O : va_W} {H : Heap} (hP : va_P D cl ((X ++ M) ++ O) H) (hD : va_D A ((X ++ M) ++ O)) : va_P D cl ((X ++ O) ++ M) H ∧ va_D A ((X ++ O) ++ M) := by
  refine ⟨va_P.app (va_P.app (kr_PL (kr_PL hP)) (kr_PR hP)) (kr_PR (kr_PL hP)), va_D.app (va_D.app (kr_DL (kr_DL hD)) (kr_DR hD) (fun i j x y hx hy => kr_X hD (kr_liftL hx) hy)) (kr_DR (kr_DL hD)) (fun i j x y hx hy => ?_)⟩
  by_cases hi : i < X.length
  · rw [List.getElem?_append_left hi] at hx
    exact kr_X (kr_DL hD) hx hy
  · rw [List.getElem?_append_right (by omega)] at hx
    exact fun e => kr_X hD (kr_liftR hy) hx e.symm
section KTB
variable {p : Program} {l : Launch} {e : Env} {R : Room} {s : State} {m : MethodId} {args : Array Value} {below : List Frame} {meth : Method} {c : Code} {C : Cc} {A : Nat → Prop} {Q : State → Prop} {cc : ByteArray} {nL pc : Nat} {own : String} {lv : List (Nat × Value)} {st : List Value} {kn zn : Nat} {ws ws' : va_W} {cJ : ClassId} {b : Nat}
theorem kq_cv (h : ∀ (A : Nat → Prop) (H : Heap), va_P C.1 vwCl ws H → va_D A ws → va_P C.1 vwCl ws' H ∧ va_D A ws') (k : kq_G p l e R s m args below meth c C A nL Q pc lv st kn zn ws') : kq_G p l e R s m args below meth c C A nL Q pc lv st kn zn ws := fun H locs ls hP hD hS hl => k H locs ls (h A H hP hD).1 (h A H hP hD).2 hS hl
theorem kq_newl (X : kq_X p s m args meth c C cc nL own A) (hJ : kl_J cJ s) (hc : kn + 1 ≤ R.cells) (hz : zn + 1 ≤ R.slots) (hdg : decode cc pc = .ok (.newarray .long, 2)) (h : ∀ o : Nat, kq_G p l e R s m args below meth c C A nL Q (pc + 2) lv (.ref o :: st) (kn + 1) (zn + 1) (ws ++ [kl_o cJ o (fun _ => 0)])) : kq_G p l e R s m args below meth c C A nL Q pc lv (.int 1 :: st) kn zn ws := fun H locs ls hP hD hS hl =>
  va_newa (atype := .long) (a0 := (1, .inr (.inl (fun _ => 0)))) (ty := .long) X.1 X.2.1 (X.2.2.2.2.2.1 _ kt_938) rfl (kl_KJ X hJ) hP hD hS X.2.2.2.2.2.2.2 (fun _ => rfl) (by decide) (by decide) (by decide) hc hz hdg (fun q cA H1 hK1 hP1 hD1 hS1 => by
    have e1 : s.vm.findClass ("[" ++ FieldType.long.toString) = some cA := (hK1.2 1 _ rfl).2
    have e2 : s.vm.findClass ("[" ++ FieldType.long.toString) = some cJ := hJ.2
    have e3 : cA = cJ := Option.some.inj (e1.symm.trans e2)
    subst e3
    exact h q H1 locs ls hP1 hD1 hS1 hl)
set_option maxHeartbeats 8000000 in
set_option maxRecDepth 100000 in
theorem kz_begin (X : kq_X p s m args meth c C cL_law 7 RL A) (hJ : kl_J cJ s) (hloop : ∀ (ad ad' : Nat → Nat) (o : Nat) (f : Nat → Int64), kq_G p l e room_1 s m args below meth c C A 7 Q 23 (kz_lv b ad ad' o 0) [] (283 + 0) (6856 + 6 * 0) (kz_W C cJ ad ad' o dk_I mk_I f)) : kq_G p l e room_1 s m args below meth c C A 7 Q 0 [(0, .ref b)] [] 0 0 [] := by
  refine kq_new (ci := 6) (fs := [.null, .int 0, .null, .int 0, .int 0, .int 0, .int 0, .null, .int 0, .null, .null, .null]) X tyX6 tyX6_ok kc_6 kt_17 kt_18 kj_X6.2.1 (by decide +kernel) (Nat.le_of_ble_eq_true rfl) (Nat.le_of_ble_eq_true rfl) dL_law_0 (fun q => ?_)
  refine kq_dup X dL_law_3 rfl ?_
  refine kq_init (q := q) X (fun sz => k_X6 l C q sz) kj_X6 kt_19 rfl ⟨by decide, by decide, by decide +kernel⟩ rfl rfl ⟨by decide, by decide⟩ (Nat.le_of_ble_eq_true rfl) (Nat.le_of_ble_eq_true rfl) (Nat.le_of_ble_eq_true rfl) dL_law_4 (fun u hu => ?_)
  refine kq_cv (ws' := ky_wl C (cl_Y (dk_ad u)) dk_I) (fun A H h1 h2 => dk_world hu h1 h2) ?_
  have hq : dk_ad u 0 = q := dk_h0 hu
  rw [← hq]
  refine kq_astore_n (lv' := [(1, .ref (dk_ad u 0)), (0, .ref b)]) X dL_law_7 rfl (by decide) rfl ?_
  refine kq_new (ci := 7) (fs := [.int 0, .int 0, .null, .null, .null, .null, .null, .int 0, .null, .null, .null, .null, .null, .null, .null, .null, .null, .null, .null, .null, .int 0, .int 0, .null, .int 0, .int 0, .int 0, .null, .null, .null, .null, .int 0, .null, .null, .null, .null, .null, .null, .int 0, .int 0]) X tyX7 tyX7_ok kc_7 kt_634 kt_635 kj_X7.2.1 (by decide +kernel) (Nat.le_of_ble_eq_true rfl) (Nat.le_of_ble_eq_true rfl) dL_law_8 (fun q2 => ?_)
  refine kq_dup X dL_law_11 rfl ?_
  refine kq_init (q := q2) X (fun sz => k_X7 l C q2 sz) kj_X7 kt_636 rfl ⟨by decide, by decide, by decide +kernel⟩ rfl rfl ⟨by decide, by decide⟩ (Nat.le_of_ble_eq_true rfl) (Nat.le_of_ble_eq_true rfl) (Nat.le_of_ble_eq_true rfl) dL_law_12 (fun a ha => ?_)
  subst ha
  rw [mk_eq]
  refine kq_astore_n (lv' := [(2, .ref (a 0)), (1, .ref (dk_ad u 0)), (0, .ref b)]) X dL_law_15 rfl (by decide) rfl ?_
  refine kq_iconst (v := (1 : Int32)) X dL_law_16 (by decide) ?_
  refine kq_newl X hJ (Nat.le_of_ble_eq_true rfl) (Nat.le_of_ble_eq_true rfl) dL_law_17 (fun o => ?_)
  refine kq_cv (ws' := kz_W C cJ (dk_ad u) a o dk_I mk_I (fun _ => 0)) (fun A H h1 h2 => kr_mid h1 h2) ?_
  refine kq_astore_n (lv' := [(3, .ref o), (2, .ref (a 0)), (1, .ref (dk_ad u 0)), (0, .ref b)]) X dL_law_19 rfl (by decide) rfl ?_
  refine kq_iconst (v := (0 : Int32)) X dL_law_20 (by decide) ?_
  refine kq_istore (lv' := [(4, .int (nI 0)), (3, .ref o), (2, .ref (a 0)), (1, .ref (dk_ad u 0)), (0, .ref b)]) X dL_law_21 (by decide) rfl ?_
  exact kq_w rfl rfl rfl (kq_sub [0, 4, 3, 2, 1] rfl (hloop (dk_ad u) a o (fun _ => 0)))
end KTB
