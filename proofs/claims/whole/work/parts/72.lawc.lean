/-! THE LAW: its fifteen cases -/
theorem km_0 : Cond.initialized RL ∈ ky_WS := ky_in 0 (by decide +kernel) (by decide +kernel)
theorem km_236 : Cond.methodLink RL 95 yX6_start ∈ ky_WS := ky_in 236 (by decide +kernel) (by decide +kernel)
theorem km_248 : Cond.methodLink RL 99 yX6_check ∈ ky_WS := ky_in 248 (by decide +kernel) (by decide +kernel)
theorem km_298 : Cond.methodLink RL 106 yX6_state ∈ ky_WS := ky_in 298 (by decide +kernel) (by decide +kernel)
theorem km_302 : Cond.methodLink RL 62 yL_relation ∈ ky_WS := ky_in 302 (by decide +kernel) (by decide +kernel)
theorem km_303 : Cond.static yL_relation ∈ ky_WS := ky_in 303 (by decide +kernel) (by decide +kernel)
theorem km_304 : Cond.codeWith yL_relation cL_relation 4 (some .int) hh_relation ∈ ky_WS := ky_in 304 (by decide +kernel) (by decide +kernel)
theorem km_396 : Cond.methodLink RL 71 yL_mark ∈ ky_WS := ky_in 396 (by decide +kernel) (by decide +kernel)
theorem km_397 : Cond.static yL_mark ∈ ky_WS := ky_in 397 (by decide +kernel) (by decide +kernel)
theorem km_398 : Cond.codeWith yL_mark cL_mark 7 (some .int) hh_mark ∈ ky_WS := ky_in 398 (by decide +kernel) (by decide +kernel)
theorem km_432 : Cond.methodLink RL 75 yL_clause ∈ ky_WS := ky_in 432 (by decide +kernel) (by decide +kernel)
theorem km_433 : Cond.static yL_clause ∈ ky_WS := ky_in 433 (by decide +kernel) (by decide +kernel)
theorem km_434 : Cond.codeWith yL_clause cL_clause 6 (some .int) hh_clause ∈ ky_WS := ky_in 434 (by decide +kernel) (by decide +kernel)
theorem km_452 : Cond.methodLink RL 79 yL_atom ∈ ky_WS := ky_in 452 (by decide +kernel) (by decide +kernel)
theorem km_453 : Cond.static yL_atom ∈ ky_WS := ky_in 453 (by decide +kernel) (by decide +kernel)
theorem km_454 : Cond.codeWith yL_atom cL_atom 6 (some .int) hh_atom ∈ ky_WS := ky_in 454 (by decide +kernel) (by decide +kernel)
theorem km_460 : Cond.methodLink RL 82 yL_bound ∈ ky_WS := ky_in 460 (by decide +kernel) (by decide +kernel)
theorem km_461 : Cond.static yL_bound ∈ ky_WS := ky_in 461 (by decide +kernel) (by decide +kernel)
theorem km_462 : Cond.codeWith yL_bound cL_bound 6 (some .int) hh_bound ∈ ky_WS := ky_in 462 (by decide +kernel) (by decide +kernel)
theorem km_474 : Cond.methodLink RL 85 yL_round ∈ ky_WS := ky_in 474 (by decide +kernel) (by decide +kernel)
theorem km_475 : Cond.static yL_round ∈ ky_WS := ky_in 475 (by decide +kernel) (by decide +kernel)
theorem km_476 : Cond.codeWith yL_round cL_round 3 (some .int) hh_round ∈ ky_WS := ky_in 476 (by decide +kernel) (by decide +kernel)
theorem km_522 : Cond.methodLink RL 89 yL_refine ∈ ky_WS := ky_in 522 (by decide +kernel) (by decide +kernel)
theorem km_523 : Cond.static yL_refine ∈ ky_WS := ky_in 523 (by decide +kernel) (by decide +kernel)
theorem km_524 : Cond.codeWith yL_refine cL_refine 3 (some .int) hh_refine ∈ ky_WS := ky_in 524 (by decide +kernel) (by decide +kernel)
theorem km_556 : Cond.methodLink RL 92 yL_verify ∈ ky_WS := ky_in 556 (by decide +kernel) (by decide +kernel)
theorem km_557 : Cond.static yL_verify ∈ ky_WS := ky_in 557 (by decide +kernel) (by decide +kernel)
theorem km_558 : Cond.codeWith yL_verify cL_verify 4 (some .int) hh_verify ∈ ky_WS := ky_in 558 (by decide +kernel) (by decide +kernel)
theorem km_564 : Cond.methodLink RL 103 yL_follows ∈ ky_WS := ky_in 564 (by decide +kernel) (by decide +kernel)
theorem km_565 : Cond.static yL_follows ∈ ky_WS := ky_in 565 (by decide +kernel) (by decide +kernel)
theorem km_566 : Cond.codeWith yL_follows cL_follows 6 (some .int) hh_follows ∈ ky_WS := ky_in 566 (by decide +kernel) (by decide +kernel)
theorem km_607 : Cond.methodLink RL 110 yL_shown ∈ ky_WS := ky_in 607 (by decide +kernel) (by decide +kernel)
theorem km_608 : Cond.static yL_shown ∈ ky_WS := ky_in 608 (by decide +kernel) (by decide +kernel)
theorem km_609 : Cond.codeWith yL_shown cL_shown 6 (some .int) hh_shown ∈ ky_WS := ky_in 609 (by decide +kernel) (by decide +kernel)
theorem km_616 : Cond.methodLink RL 113 yL_cube ∈ ky_WS := ky_in 616 (by decide +kernel) (by decide +kernel)
theorem km_617 : Cond.static yL_cube ∈ ky_WS := ky_in 617 (by decide +kernel) (by decide +kernel)
theorem km_618 : Cond.codeWith yL_cube cL_cube 6 (some .int) hh_cube ∈ ky_WS := ky_in 618 (by decide +kernel) (by decide +kernel)
theorem km_625 : Cond.methodLink RL 116 yL_node ∈ ky_WS := ky_in 625 (by decide +kernel) (by decide +kernel)
theorem km_626 : Cond.static yL_node ∈ ky_WS := ky_in 626 (by decide +kernel) (by decide +kernel)
theorem km_627 : Cond.codeWith yL_node cL_node 5 (some .int) hh_node ∈ ky_WS := ky_in 627 (by decide +kernel) (by decide +kernel)
theorem km_758 : Cond.methodLink RL 68 yX7_thrown ∈ ky_WS := ky_in 758 (by decide +kernel) (by decide +kernel)
theorem km_762 : Cond.methodLink RL 67 yX7_relation ∈ ky_WS := ky_in 762 (by decide +kernel) (by decide +kernel)
theorem km_777 : Cond.methodLink RL 74 yX7_mark ∈ ky_WS := ky_in 777 (by decide +kernel) (by decide +kernel)
theorem km_801 : Cond.methodLink RL 78 yX7_clause ∈ ky_WS := ky_in 801 (by decide +kernel) (by decide +kernel)
theorem km_809 : Cond.methodLink RL 81 yX7_atom ∈ ky_WS := ky_in 809 (by decide +kernel) (by decide +kernel)
theorem km_813 : Cond.methodLink RL 84 yX7_bound ∈ ky_WS := ky_in 813 (by decide +kernel) (by decide +kernel)
theorem km_817 : Cond.methodLink RL 98 yX7_start ∈ ky_WS := ky_in 817 (by decide +kernel) (by decide +kernel)
theorem km_821 : Cond.methodLink RL 88 yX7_round ∈ ky_WS := ky_in 821 (by decide +kernel) (by decide +kernel)
theorem km_882 : Cond.methodLink RL 91 yX7_refine ∈ ky_WS := ky_in 882 (by decide +kernel) (by decide +kernel)
theorem km_906 : Cond.methodLink RL 94 yX7_verify ∈ ky_WS := ky_in 906 (by decide +kernel) (by decide +kernel)
theorem km_910 : Cond.methodLink RL 102 yX7_check ∈ ky_WS := ky_in 910 (by decide +kernel) (by decide +kernel)
theorem km_918 : Cond.methodLink RL 105 yX7_follows ∈ ky_WS := ky_in 918 (by decide +kernel) (by decide +kernel)
theorem km_922 : Cond.methodLink RL 109 yX7_state ∈ ky_WS := ky_in 922 (by decide +kernel) (by decide +kernel)
theorem km_926 : Cond.methodLink RL 112 yX7_shown ∈ ky_WS := ky_in 926 (by decide +kernel) (by decide +kernel)
theorem km_930 : Cond.methodLink RL 115 yX7_cube ∈ ky_WS := ky_in 930 (by decide +kernel) (by decide +kernel)
theorem km_934 : Cond.methodLink RL 119 yX7_node ∈ ky_WS := ky_in 934 (by decide +kernel) (by decide +kernel)
/-- the law, begun: what holds all along -/
def kz_E (p : Program) (l : Launch) (s : State) (m : MethodId) (args : Array Value) (meth : Method) (c : Code) (C : Cc) (cJ : ClassId) (A : Nat → Prop) (b L : Nat) (xs : Nat → Int32) : Prop := kq_X p s m args meth c C cL_law 7 RL A ∧ kl_J cJ s ∧ kl_Z l A s ∧ va_X b L xs s s.heap ∧ b < s.heap.size ∧ ¬ A b ∧ L ≤ 2560
abbrev kz_W (C : Cc) (cJ : ClassId) (ad ad' : Nat → Nat) (o : Nat) (I N : Mm) (f : Nat → Int64) : va_W := kl_wl C cJ (cl_Y ad) I o f ++ ky_wl C (md_Y ad') N
abbrev kz_lv (b : Nat) (ad ad' : Nat → Nat) (o j : Nat) : List (Nat × Value) := [(4, .int (nI (5 * j))), (0, .ref b), (1, .ref (ad 0)), (2, .ref (ad' 0)), (3, .ref o)]
theorem kz_cmp (x : Int64) : lg_cmp x x = 0 := by simp [lg_cmp]
section KZC
variable {p : Program} {l : Launch} {e : Env} {s : State} {m : MethodId} {args : Array Value} {below : List Frame} {meth : Method} {c : Code} {C : Cc} {A : Nat → Prop} {Q : State → Prop} {cJ : ClassId} {ad ad' : Nat → Nat} {o b L : Nat} {xs : Nat → Int32} {I N : Mm} {f : Nat → Int64}
set_option maxHeartbeats 4000000 in
theorem kz_relation (E : kz_E p l s m args meth c C cJ A b L xs) {j kn zn bb : Nat} (hj : 5 * j + 5 ≤ L) (hR : Rl bb I N) (hb : bb + 100 < 1000000) (hc : kn + 1 ≤ 601024) (hz : zn + 6 ≤ 7293033) (hend : ∀ (I1 N1 : Mm) (f1 : Nat → Int64), Rl (bb + 100) I1 N1 → kq_G p l e room_1 s m args below meth c C A 7 Q 1001 (kz_lv b ad ad' o j) [] (kn + 1) (zn + 6) (kz_W C cJ ad ad' o I1 N1 f1)) : kq_G p l e room_1 s m args below meth c C A 7 Q 112 (kz_lv b ad ad' o j) [] kn zn (kz_W C cJ ad ad' o I N f) := by
  obtain ⟨X, hJ, hZ, hX, hbl, hbA, hL⟩ := E
  refine kq_aload_n X 2 dL_law_112 rfl rfl ?_
  refine kq_arg (k := 1) X hX hbl hbA (by omega) (by omega) 1 0 rfl rfl dL_law_113 dL_law_114 dL_law_116 dL_law_117 dL_law_118 ?_
  refine kq_aload_n X 4 dL_law_119 rfl rfl ?_
  refine kr_S (n := 3) (As := [.ref (ad 0), .int (xs (5 * j + 1)), .ref o]) (st := []) X hJ hZ (fun sz => ks_relation l C cJ ad ad' o f (xs (5 * j + 1)) sz hR hb) ⟨km_303, km_0, km_304⟩ km_302 ⟨by decide, by decide, by decide +kernel⟩ ⟨by decide, by decide⟩ hc hz rfl rfl (Nat.le_of_ble_eq_true rfl) dL_law_120 (fun r u hu => ?_)
  refine kq_istore (lv' := [(5, .int r), (4, .int (nI (5 * j))), (0, .ref b), (1, .ref (ad 0)), (2, .ref (ad' 0)), (3, .ref o)]) X dL_law_123 (by decide) rfl ?_
  refine kq_aload_n X 4 dL_law_125 rfl rfl ?_
  refine kq_arg (k := 1) X hX hbl hbA (by omega) (by omega) 2 1 rfl rfl dL_law_126 dL_law_127 dL_law_129 dL_law_130 dL_law_131 ?_
  refine kr_V (ret := some .int) (ci := 7) (n := 1) (As := [.int (xs (5 * j + 1))]) (st := []) (post := fun r' M => Rl (bb + 100) u.1 M ∧ M 0 0 = r ∧ (r = 0 → u.2 0 = r'.toInt64)) X (fun A' => c_X7_relation l C (md_Y ad') A' N 0 (xs (5 * j + 1)) _ (hu _ (fun r' M h1 h2 h3 => ⟨h1, h2, h3⟩))) kc_7 md_k0 rfl iv_X7_relation km_762 ⟨by decide, by decide, by decide +kernel⟩ ⟨rfl, rfl, by decide, by decide⟩ hc hz rfl rfl (Nat.le_of_ble_eq_true rfl) dL_law_132 (fun r' M hM => ?_)
  obtain ⟨hM1, hM2, hM3⟩ := hM
  refine kq_istore (lv' := [(6, .int r'), (5, .int r), (4, .int (nI (5 * j))), (0, .ref b), (1, .ref (ad 0)), (2, .ref (ad' 0)), (3, .ref o)]) X dL_law_135 (by decide) rfl ?_
  refine kq_aload_n X 5 dL_law_137 rfl rfl ?_
  refine kr_V (ret := some .int) (ci := 7) (n := 0) (As := []) (st := []) (post := fun r2 M2 => r2 = M 0 0 ∧ M2 = M) X (fun A' => c_X7_thrown l C (md_Y ad') A' M 0 _ ⟨md_k0, rfl, rfl⟩) kc_7 md_k0 rfl iv_X7_thrown km_758 ⟨by decide, by decide, by decide +kernel⟩ ⟨rfl, rfl, by decide, by decide⟩ hc hz rfl rfl (Nat.le_of_ble_eq_true rfl) dL_law_138 (fun r2 M2 h2 => ?_)
  obtain ⟨rfl, rfl⟩ := h2
  refine kq_iload X 1 dL_law_141 rfl ?_
  refine kq_icmp_eq (tgt := 148) X dL_law_143 (by decide) (fun _ => ?_) (fun h => absurd hM2 h)
  refine kq_iload X 1 dL_law_148 rfl ?_
  have hfin : kq_G p l e room_1 s m args below meth c C A 7 Q 165 [(6, .int r'), (5, .int r), (4, .int (nI (5 * j))), (0, .ref b), (1, .ref (ad 0)), (2, .ref (ad' 0)), (3, .ref o)] [] (kn + 1) (zn + 6) (kz_W C cJ ad ad' o u.1 M2 u.2) := kq_goto (tgt := 1001) X dL_law_165 (by decide) (kq_sub [2, 3, 4, 5, 6] rfl (hend u.1 M2 u.2 hM1))
  refine kq_if_ne (tgt := 165) X dL_law_150 (by decide) (fun _ => hfin) (fun h0 => ?_)
  refine kq_aload_n X 6 dL_law_153 rfl rfl ?_
  refine kq_iconst (v := (0 : Int32)) X dL_law_154 (by decide) ?_
  refine kq_lald X hJ dL_law_155 ?_
  refine kq_iload X 0 dL_law_156 rfl ?_
  refine kq_i2l X dL_law_158 ?_
  refine kq_lcmp X dL_law_159 ?_
  exact kq_if_eq (tgt := 165) X dL_law_160 (by decide) (fun _ => hfin) (fun h => absurd (by rw [hM3 h0]; exact kz_cmp _) h)
set_option maxHeartbeats 4000000 in
theorem kz_mark (E : kz_E p l s m args meth c C cJ A b L xs) {j kn zn bb : Nat} (hj : 5 * j + 5 ≤ L) (hR : Rl bb I N) (hb : bb + 100 < 1000000) (hc : kn + 1 ≤ 601024) (hz : zn + 6 ≤ 7293033) (hend : ∀ (I1 N1 : Mm) (f1 : Nat → Int64), Rl (bb + 100) I1 N1 → kq_G p l e room_1 s m args below meth c C A 7 Q 1001 (kz_lv b ad ad' o j) [] (kn + 1) (zn + 6) (kz_W C cJ ad ad' o I1 N1 f1)) : kq_G p l e room_1 s m args below meth c C A 7 Q 168 (kz_lv b ad ad' o j) [] kn zn (kz_W C cJ ad ad' o I N f) := by
  obtain ⟨X, hJ, hZ, hX, hbl, hbA, hL⟩ := E
  refine kq_aload_n X 2 dL_law_168 rfl rfl ?_
  refine kq_arg (k := 1) X hX hbl hbA (by omega) (by omega) 1 0 rfl rfl dL_law_169 dL_law_170 dL_law_172 dL_law_173 dL_law_174 ?_
  refine kq_arg (k := 2) X hX hbl hbA (by omega) (by omega) 1 0 rfl rfl dL_law_175 dL_law_176 dL_law_178 dL_law_179 dL_law_180 ?_
  refine kq_arg (k := 3) X hX hbl hbA (by omega) (by omega) 1 0 rfl rfl dL_law_181 dL_law_182 dL_law_184 dL_law_185 dL_law_186 ?_
  refine kq_arg (k := 4) X hX hbl hbA (by omega) (by omega) 1 0 rfl rfl dL_law_187 dL_law_188 dL_law_190 dL_law_191 dL_law_192 ?_
  refine kq_aload_n X 4 dL_law_193 rfl rfl ?_
  refine kr_S (n := 6) (As := [.ref (ad 0), .int (xs (5 * j + 1)), .int (xs (5 * j + 2)), .int (xs (5 * j + 3)), .int (xs (5 * j + 4)), .ref o]) (st := []) X hJ hZ (fun sz => ks_mark l C cJ ad ad' o f (xs (5 * j + 1)) (xs (5 * j + 2)) (xs (5 * j + 3)) (xs (5 * j + 4)) sz hR hb) ⟨km_397, km_0, km_398⟩ km_396 ⟨by decide, by decide, by decide +kernel⟩ ⟨by decide, by decide⟩ hc hz rfl rfl (Nat.le_of_ble_eq_true rfl) dL_law_194 (fun r u hu => ?_)
  refine kq_istore (lv' := [(5, .int r), (4, .int (nI (5 * j))), (0, .ref b), (1, .ref (ad 0)), (2, .ref (ad' 0)), (3, .ref o)]) X dL_law_197 (by decide) rfl ?_
  refine kq_aload_n X 4 dL_law_199 rfl rfl ?_
  refine kq_arg (k := 1) X hX hbl hbA (by omega) (by omega) 2 1 rfl rfl dL_law_200 dL_law_201 dL_law_203 dL_law_204 dL_law_205 ?_
  refine kq_arg (k := 2) X hX hbl hbA (by omega) (by omega) 2 1 rfl rfl dL_law_206 dL_law_207 dL_law_209 dL_law_210 dL_law_211 ?_
  refine kq_arg (k := 3) X hX hbl hbA (by omega) (by omega) 2 1 rfl rfl dL_law_212 dL_law_213 dL_law_215 dL_law_216 dL_law_217 ?_
  refine kq_arg (k := 4) X hX hbl hbA (by omega) (by omega) 2 1 rfl rfl dL_law_218 dL_law_219 dL_law_221 dL_law_222 dL_law_223 ?_
  refine kr_V (ret := some .int) (ci := 7) (n := 4) (As := [.int (xs (5 * j + 1)), .int (xs (5 * j + 2)), .int (xs (5 * j + 3)), .int (xs (5 * j + 4))]) (st := []) (post := fun r' M => Rl (bb + 100) u.1 M ∧ M 0 0 = r ∧ (r = 0 → u.2 0 = r'.toInt64)) X (fun A' => c_X7_mark l C (md_Y ad') A' N 0 (xs (5 * j + 1)) (xs (5 * j + 2)) (xs (5 * j + 3)) (xs (5 * j + 4)) _ (hu _ (fun r' M h1 h2 h3 => ⟨h1, h2, h3⟩))) kc_7 md_k0 rfl iv_X7_mark km_777 ⟨by decide, by decide, by decide +kernel⟩ ⟨rfl, rfl, by decide, by decide⟩ hc hz rfl rfl (Nat.le_of_ble_eq_true rfl) dL_law_224 (fun r' M hM => ?_)
  obtain ⟨hM1, hM2, hM3⟩ := hM
  refine kq_istore (lv' := [(6, .int r'), (5, .int r), (4, .int (nI (5 * j))), (0, .ref b), (1, .ref (ad 0)), (2, .ref (ad' 0)), (3, .ref o)]) X dL_law_227 (by decide) rfl ?_
  refine kq_aload_n X 5 dL_law_229 rfl rfl ?_
  refine kr_V (ret := some .int) (ci := 7) (n := 0) (As := []) (st := []) (post := fun r2 M2 => r2 = M 0 0 ∧ M2 = M) X (fun A' => c_X7_thrown l C (md_Y ad') A' M 0 _ ⟨md_k0, rfl, rfl⟩) kc_7 md_k0 rfl iv_X7_thrown km_758 ⟨by decide, by decide, by decide +kernel⟩ ⟨rfl, rfl, by decide, by decide⟩ hc hz rfl rfl (Nat.le_of_ble_eq_true rfl) dL_law_230 (fun r2 M2 h2 => ?_)
  obtain ⟨rfl, rfl⟩ := h2
  refine kq_iload X 1 dL_law_233 rfl ?_
  refine kq_icmp_eq (tgt := 240) X dL_law_235 (by decide) (fun _ => ?_) (fun h => absurd hM2 h)
  refine kq_iload X 1 dL_law_240 rfl ?_
  have hfin : kq_G p l e room_1 s m args below meth c C A 7 Q 257 [(6, .int r'), (5, .int r), (4, .int (nI (5 * j))), (0, .ref b), (1, .ref (ad 0)), (2, .ref (ad' 0)), (3, .ref o)] [] (kn + 1) (zn + 6) (kz_W C cJ ad ad' o u.1 M2 u.2) := kq_goto (tgt := 1001) X dL_law_257 (by decide) (kq_sub [2, 3, 4, 5, 6] rfl (hend u.1 M2 u.2 hM1))
  refine kq_if_ne (tgt := 257) X dL_law_242 (by decide) (fun _ => hfin) (fun h0 => ?_)
  refine kq_aload_n X 6 dL_law_245 rfl rfl ?_
  refine kq_iconst (v := (0 : Int32)) X dL_law_246 (by decide) ?_
  refine kq_lald X hJ dL_law_247 ?_
  refine kq_iload X 0 dL_law_248 rfl ?_
  refine kq_i2l X dL_law_250 ?_
  refine kq_lcmp X dL_law_251 ?_
  exact kq_if_eq (tgt := 257) X dL_law_252 (by decide) (fun _ => hfin) (fun h => absurd (by rw [hM3 h0]; exact kz_cmp _) h)
set_option maxHeartbeats 4000000 in
theorem kz_clause (E : kz_E p l s m args meth c C cJ A b L xs) {j kn zn bb : Nat} (hj : 5 * j + 5 ≤ L) (hR : Rl bb I N) (hb : bb + 100 < 1000000) (hc : kn + 1 ≤ 601024) (hz : zn + 6 ≤ 7293033) (hend : ∀ (I1 N1 : Mm) (f1 : Nat → Int64), Rl (bb + 100) I1 N1 → kq_G p l e room_1 s m args below meth c C A 7 Q 1001 (kz_lv b ad ad' o j) [] (kn + 1) (zn + 6) (kz_W C cJ ad ad' o I1 N1 f1)) : kq_G p l e room_1 s m args below meth c C A 7 Q 260 (kz_lv b ad ad' o j) [] kn zn (kz_W C cJ ad ad' o I N f) := by
  obtain ⟨X, hJ, hZ, hX, hbl, hbA, hL⟩ := E
  refine kq_aload_n X 2 dL_law_260 rfl rfl ?_
  refine kq_arg (k := 1) X hX hbl hbA (by omega) (by omega) 1 0 rfl rfl dL_law_261 dL_law_262 dL_law_264 dL_law_265 dL_law_266 ?_
  refine kq_arg (k := 2) X hX hbl hbA (by omega) (by omega) 1 0 rfl rfl dL_law_267 dL_law_268 dL_law_270 dL_law_271 dL_law_272 ?_
  refine kq_arg (k := 3) X hX hbl hbA (by omega) (by omega) 1 0 rfl rfl dL_law_273 dL_law_274 dL_law_276 dL_law_277 dL_law_278 ?_
  refine kq_aload_n X 4 dL_law_279 rfl rfl ?_
  refine kr_S (n := 5) (As := [.ref (ad 0), .int (xs (5 * j + 1)), .int (xs (5 * j + 2)), .int (xs (5 * j + 3)), .ref o]) (st := []) X hJ hZ (fun sz => ks_clause l C cJ ad ad' o f (xs (5 * j + 1)) (xs (5 * j + 2)) (xs (5 * j + 3)) sz hR hb) ⟨km_433, km_0, km_434⟩ km_432 ⟨by decide, by decide, by decide +kernel⟩ ⟨by decide, by decide⟩ hc hz rfl rfl (Nat.le_of_ble_eq_true rfl) dL_law_280 (fun r u hu => ?_)
  refine kq_istore (lv' := [(5, .int r), (4, .int (nI (5 * j))), (0, .ref b), (1, .ref (ad 0)), (2, .ref (ad' 0)), (3, .ref o)]) X dL_law_283 (by decide) rfl ?_
  refine kq_aload_n X 4 dL_law_285 rfl rfl ?_
  refine kq_arg (k := 1) X hX hbl hbA (by omega) (by omega) 2 1 rfl rfl dL_law_286 dL_law_287 dL_law_289 dL_law_290 dL_law_291 ?_
  refine kq_arg (k := 2) X hX hbl hbA (by omega) (by omega) 2 1 rfl rfl dL_law_292 dL_law_293 dL_law_295 dL_law_296 dL_law_297 ?_
  refine kq_arg (k := 3) X hX hbl hbA (by omega) (by omega) 2 1 rfl rfl dL_law_298 dL_law_299 dL_law_301 dL_law_302 dL_law_303 ?_
  refine kr_V (ret := some .int) (ci := 7) (n := 3) (As := [.int (xs (5 * j + 1)), .int (xs (5 * j + 2)), .int (xs (5 * j + 3))]) (st := []) (post := fun r' M => Rl (bb + 100) u.1 M ∧ M 0 0 = r ∧ (r = 0 → u.2 0 = r'.toInt64)) X (fun A' => c_X7_clause l C (md_Y ad') A' N 0 (xs (5 * j + 1)) (xs (5 * j + 2)) (xs (5 * j + 3)) _ (hu _ (fun r' M h1 h2 h3 => ⟨h1, h2, h3⟩))) kc_7 md_k0 rfl iv_X7_clause km_801 ⟨by decide, by decide, by decide +kernel⟩ ⟨rfl, rfl, by decide, by decide⟩ hc hz rfl rfl (Nat.le_of_ble_eq_true rfl) dL_law_304 (fun r' M hM => ?_)
  obtain ⟨hM1, hM2, hM3⟩ := hM
  refine kq_istore (lv' := [(6, .int r'), (5, .int r), (4, .int (nI (5 * j))), (0, .ref b), (1, .ref (ad 0)), (2, .ref (ad' 0)), (3, .ref o)]) X dL_law_307 (by decide) rfl ?_
  refine kq_aload_n X 5 dL_law_309 rfl rfl ?_
  refine kr_V (ret := some .int) (ci := 7) (n := 0) (As := []) (st := []) (post := fun r2 M2 => r2 = M 0 0 ∧ M2 = M) X (fun A' => c_X7_thrown l C (md_Y ad') A' M 0 _ ⟨md_k0, rfl, rfl⟩) kc_7 md_k0 rfl iv_X7_thrown km_758 ⟨by decide, by decide, by decide +kernel⟩ ⟨rfl, rfl, by decide, by decide⟩ hc hz rfl rfl (Nat.le_of_ble_eq_true rfl) dL_law_310 (fun r2 M2 h2 => ?_)
  obtain ⟨rfl, rfl⟩ := h2
  refine kq_iload X 1 dL_law_313 rfl ?_
  refine kq_icmp_eq (tgt := 320) X dL_law_315 (by decide) (fun _ => ?_) (fun h => absurd hM2 h)
  refine kq_iload X 1 dL_law_320 rfl ?_
  have hfin : kq_G p l e room_1 s m args below meth c C A 7 Q 337 [(6, .int r'), (5, .int r), (4, .int (nI (5 * j))), (0, .ref b), (1, .ref (ad 0)), (2, .ref (ad' 0)), (3, .ref o)] [] (kn + 1) (zn + 6) (kz_W C cJ ad ad' o u.1 M2 u.2) := kq_goto (tgt := 1001) X dL_law_337 (by decide) (kq_sub [2, 3, 4, 5, 6] rfl (hend u.1 M2 u.2 hM1))
  refine kq_if_ne (tgt := 337) X dL_law_322 (by decide) (fun _ => hfin) (fun h0 => ?_)
  refine kq_aload_n X 6 dL_law_325 rfl rfl ?_
  refine kq_iconst (v := (0 : Int32)) X dL_law_326 (by decide) ?_
  refine kq_lald X hJ dL_law_327 ?_
  refine kq_iload X 0 dL_law_328 rfl ?_
  refine kq_i2l X dL_law_330 ?_
  refine kq_lcmp X dL_law_331 ?_
  exact kq_if_eq (tgt := 337) X dL_law_332 (by decide) (fun _ => hfin) (fun h => absurd (by rw [hM3 h0]; exact kz_cmp _) h)
set_option maxHeartbeats 4000000 in
theorem kz_atom (E : kz_E p l s m args meth c C cJ A b L xs) {j kn zn bb : Nat} (hj : 5 * j + 5 ≤ L) (hR : Rl bb I N) (hb : bb + 100 < 1000000) (hc : kn + 1 ≤ 601024) (hz : zn + 6 ≤ 7293033) (hend : ∀ (I1 N1 : Mm) (f1 : Nat → Int64), Rl (bb + 100) I1 N1 → kq_G p l e room_1 s m args below meth c C A 7 Q 1001 (kz_lv b ad ad' o j) [] (kn + 1) (zn + 6) (kz_W C cJ ad ad' o I1 N1 f1)) : kq_G p l e room_1 s m args below meth c C A 7 Q 340 (kz_lv b ad ad' o j) [] kn zn (kz_W C cJ ad ad' o I N f) := by
  obtain ⟨X, hJ, hZ, hX, hbl, hbA, hL⟩ := E
  refine kq_aload_n X 2 dL_law_340 rfl rfl ?_
  refine kq_arg (k := 1) X hX hbl hbA (by omega) (by omega) 1 0 rfl rfl dL_law_341 dL_law_342 dL_law_344 dL_law_345 dL_law_346 ?_
  refine kq_arg (k := 2) X hX hbl hbA (by omega) (by omega) 1 0 rfl rfl dL_law_347 dL_law_348 dL_law_350 dL_law_351 dL_law_352 ?_
  refine kq_arg (k := 3) X hX hbl hbA (by omega) (by omega) 1 0 rfl rfl dL_law_353 dL_law_354 dL_law_356 dL_law_357 dL_law_358 ?_
  refine kq_aload_n X 4 dL_law_359 rfl rfl ?_
  refine kr_S (n := 5) (As := [.ref (ad 0), .int (xs (5 * j + 1)), .int (xs (5 * j + 2)), .int (xs (5 * j + 3)), .ref o]) (st := []) X hJ hZ (fun sz => ks_atom l C cJ ad ad' o f (xs (5 * j + 1)) (xs (5 * j + 2)) (xs (5 * j + 3)) sz hR hb) ⟨km_453, km_0, km_454⟩ km_452 ⟨by decide, by decide, by decide +kernel⟩ ⟨by decide, by decide⟩ hc hz rfl rfl (Nat.le_of_ble_eq_true rfl) dL_law_360 (fun r u hu => ?_)
  refine kq_istore (lv' := [(5, .int r), (4, .int (nI (5 * j))), (0, .ref b), (1, .ref (ad 0)), (2, .ref (ad' 0)), (3, .ref o)]) X dL_law_363 (by decide) rfl ?_
  refine kq_aload_n X 4 dL_law_365 rfl rfl ?_
  refine kq_arg (k := 1) X hX hbl hbA (by omega) (by omega) 2 1 rfl rfl dL_law_366 dL_law_367 dL_law_369 dL_law_370 dL_law_371 ?_
  refine kq_arg (k := 2) X hX hbl hbA (by omega) (by omega) 2 1 rfl rfl dL_law_372 dL_law_373 dL_law_375 dL_law_376 dL_law_377 ?_
  refine kq_arg (k := 3) X hX hbl hbA (by omega) (by omega) 2 1 rfl rfl dL_law_378 dL_law_379 dL_law_381 dL_law_382 dL_law_383 ?_
  refine kr_V (ret := some .int) (ci := 7) (n := 3) (As := [.int (xs (5 * j + 1)), .int (xs (5 * j + 2)), .int (xs (5 * j + 3))]) (st := []) (post := fun r' M => Rl (bb + 100) u.1 M ∧ M 0 0 = r ∧ (r = 0 → u.2 0 = r'.toInt64)) X (fun A' => c_X7_atom l C (md_Y ad') A' N 0 (xs (5 * j + 1)) (xs (5 * j + 2)) (xs (5 * j + 3)) _ (hu _ (fun r' M h1 h2 h3 => ⟨h1, h2, h3⟩))) kc_7 md_k0 rfl iv_X7_atom km_809 ⟨by decide, by decide, by decide +kernel⟩ ⟨rfl, rfl, by decide, by decide⟩ hc hz rfl rfl (Nat.le_of_ble_eq_true rfl) dL_law_384 (fun r' M hM => ?_)
  obtain ⟨hM1, hM2, hM3⟩ := hM
  refine kq_istore (lv' := [(6, .int r'), (5, .int r), (4, .int (nI (5 * j))), (0, .ref b), (1, .ref (ad 0)), (2, .ref (ad' 0)), (3, .ref o)]) X dL_law_387 (by decide) rfl ?_
  refine kq_aload_n X 5 dL_law_389 rfl rfl ?_
  refine kr_V (ret := some .int) (ci := 7) (n := 0) (As := []) (st := []) (post := fun r2 M2 => r2 = M 0 0 ∧ M2 = M) X (fun A' => c_X7_thrown l C (md_Y ad') A' M 0 _ ⟨md_k0, rfl, rfl⟩) kc_7 md_k0 rfl iv_X7_thrown km_758 ⟨by decide, by decide, by decide +kernel⟩ ⟨rfl, rfl, by decide, by decide⟩ hc hz rfl rfl (Nat.le_of_ble_eq_true rfl) dL_law_390 (fun r2 M2 h2 => ?_)
  obtain ⟨rfl, rfl⟩ := h2
  refine kq_iload X 1 dL_law_393 rfl ?_
  refine kq_icmp_eq (tgt := 400) X dL_law_395 (by decide) (fun _ => ?_) (fun h => absurd hM2 h)
  refine kq_iload X 1 dL_law_400 rfl ?_
  have hfin : kq_G p l e room_1 s m args below meth c C A 7 Q 417 [(6, .int r'), (5, .int r), (4, .int (nI (5 * j))), (0, .ref b), (1, .ref (ad 0)), (2, .ref (ad' 0)), (3, .ref o)] [] (kn + 1) (zn + 6) (kz_W C cJ ad ad' o u.1 M2 u.2) := kq_goto (tgt := 1001) X dL_law_417 (by decide) (kq_sub [2, 3, 4, 5, 6] rfl (hend u.1 M2 u.2 hM1))
  refine kq_if_ne (tgt := 417) X dL_law_402 (by decide) (fun _ => hfin) (fun h0 => ?_)
  refine kq_aload_n X 6 dL_law_405 rfl rfl ?_
  refine kq_iconst (v := (0 : Int32)) X dL_law_406 (by decide) ?_
  refine kq_lald X hJ dL_law_407 ?_
  refine kq_iload X 0 dL_law_408 rfl ?_
  refine kq_i2l X dL_law_410 ?_
  refine kq_lcmp X dL_law_411 ?_
  exact kq_if_eq (tgt := 417) X dL_law_412 (by decide) (fun _ => hfin) (fun h => absurd (by rw [hM3 h0]; exact kz_cmp _) h)
set_option maxHeartbeats 4000000 in
theorem kz_bound (E : kz_E p l s m args meth c C cJ A b L xs) {j kn zn bb : Nat} (hj : 5 * j + 5 ≤ L) (hR : Rl bb I N) (hb : bb + 100 < 1000000) (hc : kn + 1 ≤ 601024) (hz : zn + 6 ≤ 7293033) (hend : ∀ (I1 N1 : Mm) (f1 : Nat → Int64), Rl (bb + 100) I1 N1 → kq_G p l e room_1 s m args below meth c C A 7 Q 1001 (kz_lv b ad ad' o j) [] (kn + 1) (zn + 6) (kz_W C cJ ad ad' o I1 N1 f1)) : kq_G p l e room_1 s m args below meth c C A 7 Q 420 (kz_lv b ad ad' o j) [] kn zn (kz_W C cJ ad ad' o I N f) := by
  obtain ⟨X, hJ, hZ, hX, hbl, hbA, hL⟩ := E
  refine kq_aload_n X 2 dL_law_420 rfl rfl ?_
  refine kq_arg (k := 1) X hX hbl hbA (by omega) (by omega) 1 0 rfl rfl dL_law_421 dL_law_422 dL_law_424 dL_law_425 dL_law_426 ?_
  refine kq_arg (k := 2) X hX hbl hbA (by omega) (by omega) 1 0 rfl rfl dL_law_427 dL_law_428 dL_law_430 dL_law_431 dL_law_432 ?_
  refine kq_arg (k := 3) X hX hbl hbA (by omega) (by omega) 1 0 rfl rfl dL_law_433 dL_law_434 dL_law_436 dL_law_437 dL_law_438 ?_
  refine kq_aload_n X 4 dL_law_439 rfl rfl ?_
  refine kr_S (n := 5) (As := [.ref (ad 0), .int (xs (5 * j + 1)), .int (xs (5 * j + 2)), .int (xs (5 * j + 3)), .ref o]) (st := []) X hJ hZ (fun sz => ks_bound l C cJ ad ad' o f (xs (5 * j + 1)) (xs (5 * j + 2)) (xs (5 * j + 3)) sz hR hb) ⟨km_461, km_0, km_462⟩ km_460 ⟨by decide, by decide, by decide +kernel⟩ ⟨by decide, by decide⟩ hc hz rfl rfl (Nat.le_of_ble_eq_true rfl) dL_law_440 (fun r u hu => ?_)
  refine kq_istore (lv' := [(5, .int r), (4, .int (nI (5 * j))), (0, .ref b), (1, .ref (ad 0)), (2, .ref (ad' 0)), (3, .ref o)]) X dL_law_443 (by decide) rfl ?_
  refine kq_aload_n X 4 dL_law_445 rfl rfl ?_
  refine kq_arg (k := 1) X hX hbl hbA (by omega) (by omega) 2 1 rfl rfl dL_law_446 dL_law_447 dL_law_449 dL_law_450 dL_law_451 ?_
  refine kq_arg (k := 2) X hX hbl hbA (by omega) (by omega) 2 1 rfl rfl dL_law_452 dL_law_453 dL_law_455 dL_law_456 dL_law_457 ?_
  refine kq_arg (k := 3) X hX hbl hbA (by omega) (by omega) 2 1 rfl rfl dL_law_458 dL_law_459 dL_law_461 dL_law_462 dL_law_463 ?_
  refine kr_V (ret := some .int) (ci := 7) (n := 3) (As := [.int (xs (5 * j + 1)), .int (xs (5 * j + 2)), .int (xs (5 * j + 3))]) (st := []) (post := fun r' M => Rl (bb + 100) u.1 M ∧ M 0 0 = r ∧ (r = 0 → u.2 0 = r'.toInt64)) X (fun A' => c_X7_bound l C (md_Y ad') A' N 0 (xs (5 * j + 1)) (xs (5 * j + 2)) (xs (5 * j + 3)) _ (hu _ (fun r' M h1 h2 h3 => ⟨h1, h2, h3⟩))) kc_7 md_k0 rfl iv_X7_bound km_813 ⟨by decide, by decide, by decide +kernel⟩ ⟨rfl, rfl, by decide, by decide⟩ hc hz rfl rfl (Nat.le_of_ble_eq_true rfl) dL_law_464 (fun r' M hM => ?_)
  obtain ⟨hM1, hM2, hM3⟩ := hM
  refine kq_istore (lv' := [(6, .int r'), (5, .int r), (4, .int (nI (5 * j))), (0, .ref b), (1, .ref (ad 0)), (2, .ref (ad' 0)), (3, .ref o)]) X dL_law_467 (by decide) rfl ?_
  refine kq_aload_n X 5 dL_law_469 rfl rfl ?_
  refine kr_V (ret := some .int) (ci := 7) (n := 0) (As := []) (st := []) (post := fun r2 M2 => r2 = M 0 0 ∧ M2 = M) X (fun A' => c_X7_thrown l C (md_Y ad') A' M 0 _ ⟨md_k0, rfl, rfl⟩) kc_7 md_k0 rfl iv_X7_thrown km_758 ⟨by decide, by decide, by decide +kernel⟩ ⟨rfl, rfl, by decide, by decide⟩ hc hz rfl rfl (Nat.le_of_ble_eq_true rfl) dL_law_470 (fun r2 M2 h2 => ?_)
  obtain ⟨rfl, rfl⟩ := h2
  refine kq_iload X 1 dL_law_473 rfl ?_
  refine kq_icmp_eq (tgt := 480) X dL_law_475 (by decide) (fun _ => ?_) (fun h => absurd hM2 h)
  refine kq_iload X 1 dL_law_480 rfl ?_
  have hfin : kq_G p l e room_1 s m args below meth c C A 7 Q 497 [(6, .int r'), (5, .int r), (4, .int (nI (5 * j))), (0, .ref b), (1, .ref (ad 0)), (2, .ref (ad' 0)), (3, .ref o)] [] (kn + 1) (zn + 6) (kz_W C cJ ad ad' o u.1 M2 u.2) := kq_goto (tgt := 1001) X dL_law_497 (by decide) (kq_sub [2, 3, 4, 5, 6] rfl (hend u.1 M2 u.2 hM1))
  refine kq_if_ne (tgt := 497) X dL_law_482 (by decide) (fun _ => hfin) (fun h0 => ?_)
  refine kq_aload_n X 6 dL_law_485 rfl rfl ?_
  refine kq_iconst (v := (0 : Int32)) X dL_law_486 (by decide) ?_
  refine kq_lald X hJ dL_law_487 ?_
  refine kq_iload X 0 dL_law_488 rfl ?_
  refine kq_i2l X dL_law_490 ?_
  refine kq_lcmp X dL_law_491 ?_
  exact kq_if_eq (tgt := 497) X dL_law_492 (by decide) (fun _ => hfin) (fun h => absurd (by rw [hM3 h0]; exact kz_cmp _) h)
set_option maxHeartbeats 4000000 in
theorem kz_round (E : kz_E p l s m args meth c C cJ A b L xs) {j kn zn bb : Nat} (hj : 5 * j + 5 ≤ L) (hR : Rl bb I N) (hb : bb + 100 < 1000000) (hc : kn + 1 ≤ 601024) (hz : zn + 6 ≤ 7293033) (hend : ∀ (I1 N1 : Mm) (f1 : Nat → Int64), Rl (bb + 100) I1 N1 → kq_G p l e room_1 s m args below meth c C A 7 Q 1001 (kz_lv b ad ad' o j) [] (kn + 1) (zn + 6) (kz_W C cJ ad ad' o I1 N1 f1)) : kq_G p l e room_1 s m args below meth c C A 7 Q 500 (kz_lv b ad ad' o j) [] kn zn (kz_W C cJ ad ad' o I N f) := by
  obtain ⟨X, hJ, hZ, hX, hbl, hbA, hL⟩ := E
  refine kq_aload_n X 2 dL_law_500 rfl rfl ?_
  refine kq_aload_n X 4 dL_law_501 rfl rfl ?_
  refine kr_S (n := 2) (As := [.ref (ad 0), .ref o]) (st := []) X hJ hZ (fun sz => ks_round l C cJ ad ad' o f sz hR hb) ⟨km_475, km_0, km_476⟩ km_474 ⟨by decide, by decide, by decide +kernel⟩ ⟨by decide, by decide⟩ hc hz rfl rfl (Nat.le_of_ble_eq_true rfl) dL_law_502 (fun r u hu => ?_)
  refine kq_istore (lv' := [(5, .int r), (4, .int (nI (5 * j))), (0, .ref b), (1, .ref (ad 0)), (2, .ref (ad' 0)), (3, .ref o)]) X dL_law_505 (by decide) rfl ?_
  refine kq_aload_n X 4 dL_law_507 rfl rfl ?_
  refine kr_V (ret := some .int) (ci := 7) (n := 0) (As := []) (st := []) (post := fun r' M => Rl (bb + 100) u.1 M ∧ M 0 0 = r ∧ (r = 0 → u.2 0 = r'.toInt64)) X (fun A' => c_X7_round l C (md_Y ad') A' N 0 _ (hu _ (fun r' M h1 h2 h3 => ⟨h1, h2, h3⟩))) kc_7 md_k0 rfl iv_X7_round km_821 ⟨by decide, by decide, by decide +kernel⟩ ⟨rfl, rfl, by decide, by decide⟩ hc hz rfl rfl (Nat.le_of_ble_eq_true rfl) dL_law_508 (fun r' M hM => ?_)
  obtain ⟨hM1, hM2, hM3⟩ := hM
  refine kq_istore (lv' := [(6, .int r'), (5, .int r), (4, .int (nI (5 * j))), (0, .ref b), (1, .ref (ad 0)), (2, .ref (ad' 0)), (3, .ref o)]) X dL_law_511 (by decide) rfl ?_
  refine kq_aload_n X 5 dL_law_513 rfl rfl ?_
  refine kr_V (ret := some .int) (ci := 7) (n := 0) (As := []) (st := []) (post := fun r2 M2 => r2 = M 0 0 ∧ M2 = M) X (fun A' => c_X7_thrown l C (md_Y ad') A' M 0 _ ⟨md_k0, rfl, rfl⟩) kc_7 md_k0 rfl iv_X7_thrown km_758 ⟨by decide, by decide, by decide +kernel⟩ ⟨rfl, rfl, by decide, by decide⟩ hc hz rfl rfl (Nat.le_of_ble_eq_true rfl) dL_law_514 (fun r2 M2 h2 => ?_)
  obtain ⟨rfl, rfl⟩ := h2
  refine kq_iload X 1 dL_law_517 rfl ?_
  refine kq_icmp_eq (tgt := 524) X dL_law_519 (by decide) (fun _ => ?_) (fun h => absurd hM2 h)
  refine kq_iload X 1 dL_law_524 rfl ?_
  have hfin : kq_G p l e room_1 s m args below meth c C A 7 Q 541 [(6, .int r'), (5, .int r), (4, .int (nI (5 * j))), (0, .ref b), (1, .ref (ad 0)), (2, .ref (ad' 0)), (3, .ref o)] [] (kn + 1) (zn + 6) (kz_W C cJ ad ad' o u.1 M2 u.2) := kq_goto (tgt := 1001) X dL_law_541 (by decide) (kq_sub [2, 3, 4, 5, 6] rfl (hend u.1 M2 u.2 hM1))
  refine kq_if_ne (tgt := 541) X dL_law_526 (by decide) (fun _ => hfin) (fun h0 => ?_)
  refine kq_aload_n X 6 dL_law_529 rfl rfl ?_
  refine kq_iconst (v := (0 : Int32)) X dL_law_530 (by decide) ?_
  refine kq_lald X hJ dL_law_531 ?_
  refine kq_iload X 0 dL_law_532 rfl ?_
  refine kq_i2l X dL_law_534 ?_
  refine kq_lcmp X dL_law_535 ?_
  exact kq_if_eq (tgt := 541) X dL_law_536 (by decide) (fun _ => hfin) (fun h => absurd (by rw [hM3 h0]; exact kz_cmp _) h)
set_option maxHeartbeats 4000000 in
theorem kz_refine (E : kz_E p l s m args meth c C cJ A b L xs) {j kn zn bb : Nat} (hj : 5 * j + 5 ≤ L) (hR : Rl bb I N) (hb : bb + 100 < 1000000) (hc : kn + 1 ≤ 601024) (hz : zn + 6 ≤ 7293033) (hend : ∀ (I1 N1 : Mm) (f1 : Nat → Int64), Rl (bb + 100) I1 N1 → kq_G p l e room_1 s m args below meth c C A 7 Q 1001 (kz_lv b ad ad' o j) [] (kn + 1) (zn + 6) (kz_W C cJ ad ad' o I1 N1 f1)) : kq_G p l e room_1 s m args below meth c C A 7 Q 544 (kz_lv b ad ad' o j) [] kn zn (kz_W C cJ ad ad' o I N f) := by
  obtain ⟨X, hJ, hZ, hX, hbl, hbA, hL⟩ := E
  refine kq_aload_n X 2 dL_law_544 rfl rfl ?_
  refine kq_aload_n X 4 dL_law_545 rfl rfl ?_
  refine kr_S (n := 2) (As := [.ref (ad 0), .ref o]) (st := []) X hJ hZ (fun sz => ks_refine l C cJ ad ad' o f sz hR hb) ⟨km_523, km_0, km_524⟩ km_522 ⟨by decide, by decide, by decide +kernel⟩ ⟨by decide, by decide⟩ hc hz rfl rfl (Nat.le_of_ble_eq_true rfl) dL_law_546 (fun r u hu => ?_)
  refine kq_istore (lv' := [(5, .int r), (4, .int (nI (5 * j))), (0, .ref b), (1, .ref (ad 0)), (2, .ref (ad' 0)), (3, .ref o)]) X dL_law_549 (by decide) rfl ?_
  refine kq_aload_n X 4 dL_law_551 rfl rfl ?_
  refine kr_V (ret := some .int) (ci := 7) (n := 0) (As := []) (st := []) (post := fun r' M => Rl (bb + 100) u.1 M ∧ M 0 0 = r ∧ (r = 0 → u.2 0 = r'.toInt64)) X (fun A' => c_X7_refine l C (md_Y ad') A' N 0 _ (hu _ (fun r' M h1 h2 h3 => ⟨h1, h2, h3⟩))) kc_7 md_k0 rfl iv_X7_refine km_882 ⟨by decide, by decide, by decide +kernel⟩ ⟨rfl, rfl, by decide, by decide⟩ hc hz rfl rfl (Nat.le_of_ble_eq_true rfl) dL_law_552 (fun r' M hM => ?_)
  obtain ⟨hM1, hM2, hM3⟩ := hM
  refine kq_istore (lv' := [(6, .int r'), (5, .int r), (4, .int (nI (5 * j))), (0, .ref b), (1, .ref (ad 0)), (2, .ref (ad' 0)), (3, .ref o)]) X dL_law_555 (by decide) rfl ?_
  refine kq_aload_n X 5 dL_law_557 rfl rfl ?_
  refine kr_V (ret := some .int) (ci := 7) (n := 0) (As := []) (st := []) (post := fun r2 M2 => r2 = M 0 0 ∧ M2 = M) X (fun A' => c_X7_thrown l C (md_Y ad') A' M 0 _ ⟨md_k0, rfl, rfl⟩) kc_7 md_k0 rfl iv_X7_thrown km_758 ⟨by decide, by decide, by decide +kernel⟩ ⟨rfl, rfl, by decide, by decide⟩ hc hz rfl rfl (Nat.le_of_ble_eq_true rfl) dL_law_558 (fun r2 M2 h2 => ?_)
  obtain ⟨rfl, rfl⟩ := h2
  refine kq_iload X 1 dL_law_561 rfl ?_
  refine kq_icmp_eq (tgt := 568) X dL_law_563 (by decide) (fun _ => ?_) (fun h => absurd hM2 h)
  refine kq_iload X 1 dL_law_568 rfl ?_
  have hfin : kq_G p l e room_1 s m args below meth c C A 7 Q 585 [(6, .int r'), (5, .int r), (4, .int (nI (5 * j))), (0, .ref b), (1, .ref (ad 0)), (2, .ref (ad' 0)), (3, .ref o)] [] (kn + 1) (zn + 6) (kz_W C cJ ad ad' o u.1 M2 u.2) := kq_goto (tgt := 1001) X dL_law_585 (by decide) (kq_sub [2, 3, 4, 5, 6] rfl (hend u.1 M2 u.2 hM1))
  refine kq_if_ne (tgt := 585) X dL_law_570 (by decide) (fun _ => hfin) (fun h0 => ?_)
  refine kq_aload_n X 6 dL_law_573 rfl rfl ?_
  refine kq_iconst (v := (0 : Int32)) X dL_law_574 (by decide) ?_
  refine kq_lald X hJ dL_law_575 ?_
  refine kq_iload X 0 dL_law_576 rfl ?_
  refine kq_i2l X dL_law_578 ?_
  refine kq_lcmp X dL_law_579 ?_
  exact kq_if_eq (tgt := 585) X dL_law_580 (by decide) (fun _ => hfin) (fun h => absurd (by rw [hM3 h0]; exact kz_cmp _) h)
set_option maxHeartbeats 4000000 in
theorem kz_verify (E : kz_E p l s m args meth c C cJ A b L xs) {j kn zn bb : Nat} (hj : 5 * j + 5 ≤ L) (hR : Rl bb I N) (hb : bb + 100 < 1000000) (hc : kn + 1 ≤ 601024) (hz : zn + 6 ≤ 7293033) (hend : ∀ (I1 N1 : Mm) (f1 : Nat → Int64), Rl (bb + 100) I1 N1 → kq_G p l e room_1 s m args below meth c C A 7 Q 1001 (kz_lv b ad ad' o j) [] (kn + 1) (zn + 6) (kz_W C cJ ad ad' o I1 N1 f1)) : kq_G p l e room_1 s m args below meth c C A 7 Q 588 (kz_lv b ad ad' o j) [] kn zn (kz_W C cJ ad ad' o I N f) := by
  obtain ⟨X, hJ, hZ, hX, hbl, hbA, hL⟩ := E
  refine kq_aload_n X 2 dL_law_588 rfl rfl ?_
  refine kq_arg (k := 1) X hX hbl hbA (by omega) (by omega) 1 0 rfl rfl dL_law_589 dL_law_590 dL_law_592 dL_law_593 dL_law_594 ?_
  refine kq_aload_n X 4 dL_law_595 rfl rfl ?_
  refine kr_S (n := 3) (As := [.ref (ad 0), .int (xs (5 * j + 1)), .ref o]) (st := []) X hJ hZ (fun sz => ks_verify l C cJ ad ad' o f (xs (5 * j + 1)) sz hR hb) ⟨km_557, km_0, km_558⟩ km_556 ⟨by decide, by decide, by decide +kernel⟩ ⟨by decide, by decide⟩ hc hz rfl rfl (Nat.le_of_ble_eq_true rfl) dL_law_596 (fun r u hu => ?_)
  refine kq_istore (lv' := [(5, .int r), (4, .int (nI (5 * j))), (0, .ref b), (1, .ref (ad 0)), (2, .ref (ad' 0)), (3, .ref o)]) X dL_law_599 (by decide) rfl ?_
  refine kq_aload_n X 4 dL_law_601 rfl rfl ?_
  refine kq_arg (k := 1) X hX hbl hbA (by omega) (by omega) 2 1 rfl rfl dL_law_602 dL_law_603 dL_law_605 dL_law_606 dL_law_607 ?_
  refine kr_V (ret := some .int) (ci := 7) (n := 1) (As := [.int (xs (5 * j + 1))]) (st := []) (post := fun r' M => Rl (bb + 100) u.1 M ∧ M 0 0 = r ∧ (r = 0 → u.2 0 = r'.toInt64)) X (fun A' => c_X7_verify l C (md_Y ad') A' N 0 (xs (5 * j + 1)) _ (hu _ (fun r' M h1 h2 h3 => ⟨h1, h2, h3⟩))) kc_7 md_k0 rfl iv_X7_verify km_906 ⟨by decide, by decide, by decide +kernel⟩ ⟨rfl, rfl, by decide, by decide⟩ hc hz rfl rfl (Nat.le_of_ble_eq_true rfl) dL_law_608 (fun r' M hM => ?_)
  obtain ⟨hM1, hM2, hM3⟩ := hM
  refine kq_istore (lv' := [(6, .int r'), (5, .int r), (4, .int (nI (5 * j))), (0, .ref b), (1, .ref (ad 0)), (2, .ref (ad' 0)), (3, .ref o)]) X dL_law_611 (by decide) rfl ?_
  refine kq_aload_n X 5 dL_law_613 rfl rfl ?_
  refine kr_V (ret := some .int) (ci := 7) (n := 0) (As := []) (st := []) (post := fun r2 M2 => r2 = M 0 0 ∧ M2 = M) X (fun A' => c_X7_thrown l C (md_Y ad') A' M 0 _ ⟨md_k0, rfl, rfl⟩) kc_7 md_k0 rfl iv_X7_thrown km_758 ⟨by decide, by decide, by decide +kernel⟩ ⟨rfl, rfl, by decide, by decide⟩ hc hz rfl rfl (Nat.le_of_ble_eq_true rfl) dL_law_614 (fun r2 M2 h2 => ?_)
  obtain ⟨rfl, rfl⟩ := h2
  refine kq_iload X 1 dL_law_617 rfl ?_
  refine kq_icmp_eq (tgt := 624) X dL_law_619 (by decide) (fun _ => ?_) (fun h => absurd hM2 h)
  refine kq_iload X 1 dL_law_624 rfl ?_
  have hfin : kq_G p l e room_1 s m args below meth c C A 7 Q 641 [(6, .int r'), (5, .int r), (4, .int (nI (5 * j))), (0, .ref b), (1, .ref (ad 0)), (2, .ref (ad' 0)), (3, .ref o)] [] (kn + 1) (zn + 6) (kz_W C cJ ad ad' o u.1 M2 u.2) := kq_goto (tgt := 1001) X dL_law_641 (by decide) (kq_sub [2, 3, 4, 5, 6] rfl (hend u.1 M2 u.2 hM1))
  refine kq_if_ne (tgt := 641) X dL_law_626 (by decide) (fun _ => hfin) (fun h0 => ?_)
  refine kq_aload_n X 6 dL_law_629 rfl rfl ?_
  refine kq_iconst (v := (0 : Int32)) X dL_law_630 (by decide) ?_
  refine kq_lald X hJ dL_law_631 ?_
  refine kq_iload X 0 dL_law_632 rfl ?_
  refine kq_i2l X dL_law_634 ?_
  refine kq_lcmp X dL_law_635 ?_
  exact kq_if_eq (tgt := 641) X dL_law_636 (by decide) (fun _ => hfin) (fun h => absurd (by rw [hM3 h0]; exact kz_cmp _) h)
set_option maxHeartbeats 4000000 in
theorem kz_start (E : kz_E p l s m args meth c C cJ A b L xs) {j kn zn bb : Nat} (hj : 5 * j + 5 ≤ L) (hR : Rl bb I N) (hb : bb + 100 < 1000000) (hc : kn + 1 ≤ 601024) (hz : zn + 6 ≤ 7293033) (hend : ∀ (I1 N1 : Mm) (f1 : Nat → Int64), Rl (bb + 100) I1 N1 → kq_G p l e room_1 s m args below meth c C A 7 Q 1001 (kz_lv b ad ad' o j) [] (kn + 1) (zn + 6) (kz_W C cJ ad ad' o I1 N1 f1)) : kq_G p l e room_1 s m args below meth c C A 7 Q 644 (kz_lv b ad ad' o j) [] kn zn (kz_W C cJ ad ad' o I N f) := by
  obtain ⟨X, hJ, hZ, hX, hbl, hbA, hL⟩ := E
  refine kq_aload_n X 2 dL_law_644 rfl rfl ?_
  refine kq_w (kn' := kn) (zn' := zn) (ws' := ky_wl C (cl_Y ad) I ++ ([kl_o cJ o f] ++ ky_wl C (md_Y ad') N)) rfl rfl (List.append_assoc ..) (kr_sw2 ?_)
  refine kr_Vv (ci := 6) (n := 0) (As := []) (st := []) (post := fun J => ∀ post' : Mm → Prop, (∀ M, Rl bb J M → post' M) → w_X7_start (md_Y ad') N 0 post') X (fun A' => c_X6_start l C (cl_Y ad) A' I 0 _ (sm_start (ad' := ad') hR (fun J h => h))) kc_6 cy_0 rfl iv_X6_start km_236 ⟨by decide, by decide, by decide +kernel⟩ ⟨rfl, rfl, by decide, by decide⟩ (by show kn ≤ 601024; omega) (by show zn ≤ 7293033; omega) rfl rfl (Nat.le_of_ble_eq_true rfl) dL_law_645 (fun J hJ9 => ?_)
  refine kr_sw2 (kq_w (kn' := kn) (zn' := zn) (ws' := kz_W C cJ ad ad' o J N f) rfl rfl (List.append_assoc ..).symm ?_)
  refine kq_aload_n X 3 dL_law_648 rfl rfl ?_
  refine kr_Vv (ci := 7) (n := 0) (As := []) (st := []) (post := fun M => Rl bb J M) X (fun A' => c_X7_start l C (md_Y ad') A' N 0 _ (hJ9 _ (fun M h => h))) kc_7 md_k0 rfl iv_X7_start km_817 ⟨by decide, by decide, by decide +kernel⟩ ⟨rfl, rfl, by decide, by decide⟩ (by show kn ≤ 601024; omega) (by show zn ≤ 7293033; omega) rfl rfl (Nat.le_of_ble_eq_true rfl) dL_law_649 (fun M hM => ?_)
  exact kq_goto (tgt := 1001) X dL_law_652 (by decide) (kr_wid (Nat.le_add_right _ _) (Nat.le_add_right _ _) (hend J M f (hM.mono (by omega))))
set_option maxHeartbeats 4000000 in
theorem kz_check (E : kz_E p l s m args meth c C cJ A b L xs) {j kn zn bb : Nat} (hj : 5 * j + 5 ≤ L) (hR : Rl bb I N) (hb : bb + 100 < 1000000) (hc : kn + 1 ≤ 601024) (hz : zn + 6 ≤ 7293033) (hend : ∀ (I1 N1 : Mm) (f1 : Nat → Int64), Rl (bb + 100) I1 N1 → kq_G p l e room_1 s m args below meth c C A 7 Q 1001 (kz_lv b ad ad' o j) [] (kn + 1) (zn + 6) (kz_W C cJ ad ad' o I1 N1 f1)) : kq_G p l e room_1 s m args below meth c C A 7 Q 655 (kz_lv b ad ad' o j) [] kn zn (kz_W C cJ ad ad' o I N f) := by
  obtain ⟨X, hJ, hZ, hX, hbl, hbA, hL⟩ := E
  refine kq_aload_n X 2 dL_law_655 rfl rfl ?_
  refine kq_w (kn' := kn) (zn' := zn) (ws' := ky_wl C (cl_Y ad) I ++ ([kl_o cJ o f] ++ ky_wl C (md_Y ad') N)) rfl rfl (List.append_assoc ..) (kr_sw2 ?_)
  refine kr_V (ret := some .int) (ci := 6) (n := 0) (As := []) (st := []) (post := fun r J => sm_R bb 0 J r (w_X7_check (md_Y ad') N 0)) X (fun A' => c_X6_check l C (cl_Y ad) A' I 0 _ (sm_check (ad' := ad') hR (by omega) (fun r J h => h))) kc_6 cy_0 rfl iv_X6_check km_248 ⟨by decide, by decide, by decide +kernel⟩ ⟨rfl, rfl, by decide, by decide⟩ (by show kn ≤ 601024; omega) (by show zn ≤ 7293033; omega) rfl rfl (Nat.le_of_ble_eq_true rfl) dL_law_656 (fun r J hJ9 => ?_)
  refine kr_sw2 (kq_w (kn' := kn) (zn' := zn) (ws' := kz_W C cJ ad ad' o J N f) rfl rfl (List.append_assoc ..).symm ?_)
  refine kq_aload_n X 3 dL_law_659 rfl rfl ?_
  refine kr_V (ret := some .int) (ci := 7) (n := 0) (As := []) (st := [.int r]) (post := fun r2 M => r2 = r ∧ Rl bb J M) X (fun A' => c_X7_check l C (md_Y ad') A' N 0 _ (hJ9 _ (fun M h _ => ⟨rfl, h⟩))) kc_7 md_k0 rfl iv_X7_check km_910 ⟨by decide, by decide, by decide +kernel⟩ ⟨rfl, rfl, by decide, by decide⟩ (by show kn ≤ 601024; omega) (by show zn ≤ 7293033; omega) rfl rfl (Nat.le_of_ble_eq_true rfl) dL_law_660 (fun r2 M hM => ?_)
  exact kq_icmp_eq (tgt := 1001) X dL_law_663 (by decide) (fun _ => kr_wid (Nat.le_add_right _ _) (Nat.le_add_right _ _) (hend J M f (hM.2.mono (by omega)))) (fun h => absurd hM.1.symm h)
set_option maxHeartbeats 4000000 in
theorem kz_follows (E : kz_E p l s m args meth c C cJ A b L xs) {j kn zn bb : Nat} (hj : 5 * j + 5 ≤ L) (hR : Rl bb I N) (hb : bb + 100 < 1000000) (hc : kn + 1 ≤ 601024) (hz : zn + 6 ≤ 7293033) (hend : ∀ (I1 N1 : Mm) (f1 : Nat → Int64), Rl (bb + 100) I1 N1 → kq_G p l e room_1 s m args below meth c C A 7 Q 1001 (kz_lv b ad ad' o j) [] (kn + 1) (zn + 6) (kz_W C cJ ad ad' o I1 N1 f1)) : kq_G p l e room_1 s m args below meth c C A 7 Q 668 (kz_lv b ad ad' o j) [] kn zn (kz_W C cJ ad ad' o I N f) := by
  obtain ⟨X, hJ, hZ, hX, hbl, hbA, hL⟩ := E
  refine kq_aload_n X 2 dL_law_668 rfl rfl ?_
  refine kq_arg (k := 1) X hX hbl hbA (by omega) (by omega) 1 0 rfl rfl dL_law_669 dL_law_670 dL_law_672 dL_law_673 dL_law_674 ?_
  refine kq_arg (k := 2) X hX hbl hbA (by omega) (by omega) 1 0 rfl rfl dL_law_675 dL_law_676 dL_law_678 dL_law_679 dL_law_680 ?_
  refine kq_arg (k := 3) X hX hbl hbA (by omega) (by omega) 1 0 rfl rfl dL_law_681 dL_law_682 dL_law_684 dL_law_685 dL_law_686 ?_
  refine kq_aload_n X 4 dL_law_687 rfl rfl ?_
  refine kr_S (n := 5) (As := [.ref (ad 0), .int (xs (5 * j + 1)), .int (xs (5 * j + 2)), .int (xs (5 * j + 3)), .ref o]) (st := []) X hJ hZ (fun sz => ks_follows l C cJ ad ad' o f (xs (5 * j + 1)) (xs (5 * j + 2)) (xs (5 * j + 3)) sz hR hb) ⟨km_565, km_0, km_566⟩ km_564 ⟨by decide, by decide, by decide +kernel⟩ ⟨by decide, by decide⟩ hc hz rfl rfl (Nat.le_of_ble_eq_true rfl) dL_law_688 (fun r u hu => ?_)
  refine kq_istore (lv' := [(5, .int r), (4, .int (nI (5 * j))), (0, .ref b), (1, .ref (ad 0)), (2, .ref (ad' 0)), (3, .ref o)]) X dL_law_691 (by decide) rfl ?_
  refine kq_aload_n X 4 dL_law_693 rfl rfl ?_
  refine kq_arg (k := 1) X hX hbl hbA (by omega) (by omega) 2 1 rfl rfl dL_law_694 dL_law_695 dL_law_697 dL_law_698 dL_law_699 ?_
  refine kq_arg (k := 2) X hX hbl hbA (by omega) (by omega) 2 1 rfl rfl dL_law_700 dL_law_701 dL_law_703 dL_law_704 dL_law_705 ?_
  refine kq_arg (k := 3) X hX hbl hbA (by omega) (by omega) 2 1 rfl rfl dL_law_706 dL_law_707 dL_law_709 dL_law_710 dL_law_711 ?_
  refine kr_V (ret := some .int) (ci := 7) (n := 3) (As := [.int (xs (5 * j + 1)), .int (xs (5 * j + 2)), .int (xs (5 * j + 3))]) (st := []) (post := fun r' M => Rl (bb + 100) u.1 M ∧ M 0 0 = r ∧ (r = 0 → u.2 0 = r'.toInt64)) X (fun A' => c_X7_follows l C (md_Y ad') A' N 0 (xs (5 * j + 1)) (xs (5 * j + 2)) (xs (5 * j + 3)) _ (hu _ (fun r' M h1 h2 h3 => ⟨h1, h2, h3⟩))) kc_7 md_k0 rfl iv_X7_follows km_918 ⟨by decide, by decide, by decide +kernel⟩ ⟨rfl, rfl, by decide, by decide⟩ hc hz rfl rfl (Nat.le_of_ble_eq_true rfl) dL_law_712 (fun r' M hM => ?_)
  obtain ⟨hM1, hM2, hM3⟩ := hM
  refine kq_istore (lv' := [(6, .int r'), (5, .int r), (4, .int (nI (5 * j))), (0, .ref b), (1, .ref (ad 0)), (2, .ref (ad' 0)), (3, .ref o)]) X dL_law_715 (by decide) rfl ?_
  refine kq_aload_n X 5 dL_law_717 rfl rfl ?_
  refine kr_V (ret := some .int) (ci := 7) (n := 0) (As := []) (st := []) (post := fun r2 M2 => r2 = M 0 0 ∧ M2 = M) X (fun A' => c_X7_thrown l C (md_Y ad') A' M 0 _ ⟨md_k0, rfl, rfl⟩) kc_7 md_k0 rfl iv_X7_thrown km_758 ⟨by decide, by decide, by decide +kernel⟩ ⟨rfl, rfl, by decide, by decide⟩ hc hz rfl rfl (Nat.le_of_ble_eq_true rfl) dL_law_718 (fun r2 M2 h2 => ?_)
  obtain ⟨rfl, rfl⟩ := h2
  refine kq_iload X 1 dL_law_721 rfl ?_
  refine kq_icmp_eq (tgt := 728) X dL_law_723 (by decide) (fun _ => ?_) (fun h => absurd hM2 h)
  refine kq_iload X 1 dL_law_728 rfl ?_
  have hfin : kq_G p l e room_1 s m args below meth c C A 7 Q 745 [(6, .int r'), (5, .int r), (4, .int (nI (5 * j))), (0, .ref b), (1, .ref (ad 0)), (2, .ref (ad' 0)), (3, .ref o)] [] (kn + 1) (zn + 6) (kz_W C cJ ad ad' o u.1 M2 u.2) := kq_goto (tgt := 1001) X dL_law_745 (by decide) (kq_sub [2, 3, 4, 5, 6] rfl (hend u.1 M2 u.2 hM1))
  refine kq_if_ne (tgt := 745) X dL_law_730 (by decide) (fun _ => hfin) (fun h0 => ?_)
  refine kq_aload_n X 6 dL_law_733 rfl rfl ?_
  refine kq_iconst (v := (0 : Int32)) X dL_law_734 (by decide) ?_
  refine kq_lald X hJ dL_law_735 ?_
  refine kq_iload X 0 dL_law_736 rfl ?_
  refine kq_i2l X dL_law_738 ?_
  refine kq_lcmp X dL_law_739 ?_
  exact kq_if_eq (tgt := 745) X dL_law_740 (by decide) (fun _ => hfin) (fun h => absurd (by rw [hM3 h0]; exact kz_cmp _) h)
set_option maxHeartbeats 4000000 in
theorem kz_state (E : kz_E p l s m args meth c C cJ A b L xs) {j kn zn bb : Nat} (hj : 5 * j + 5 ≤ L) (hR : Rl bb I N) (hb : bb + 100 < 1000000) (hc : kn + 1 ≤ 601024) (hz : zn + 6 ≤ 7293033) (hend : ∀ (I1 N1 : Mm) (f1 : Nat → Int64), Rl (bb + 100) I1 N1 → kq_G p l e room_1 s m args below meth c C A 7 Q 1001 (kz_lv b ad ad' o j) [] (kn + 1) (zn + 6) (kz_W C cJ ad ad' o I1 N1 f1)) : kq_G p l e room_1 s m args below meth c C A 7 Q 748 (kz_lv b ad ad' o j) [] kn zn (kz_W C cJ ad ad' o I N f) := by
  obtain ⟨X, hJ, hZ, hX, hbl, hbA, hL⟩ := E
  refine kq_aload_n X 2 dL_law_748 rfl rfl ?_
  refine kq_arg (k := 1) X hX hbl hbA (by omega) (by omega) 1 0 rfl rfl dL_law_749 dL_law_750 dL_law_752 dL_law_753 dL_law_754 ?_
  refine kq_w (kn' := kn) (zn' := zn) (ws' := ky_wl C (cl_Y ad) I ++ ([kl_o cJ o f] ++ ky_wl C (md_Y ad') N)) rfl rfl (List.append_assoc ..) (kr_sw2 ?_)
  refine kr_V (ret := some .int) (ci := 6) (n := 1) (As := [.int (xs (5 * j + 1))]) (st := []) (post := fun r J => sm_R bb 0 J r (w_X7_state (md_Y ad') N 0 (xs (5 * j + 1)))) X (fun A' => c_X6_state l C (cl_Y ad) A' I 0 (xs (5 * j + 1)) _ (sm_state (ad' := ad') hR (fun r J h => h))) kc_6 cy_0 rfl iv_X6_state km_298 ⟨by decide, by decide, by decide +kernel⟩ ⟨rfl, rfl, by decide, by decide⟩ (by show kn ≤ 601024; omega) (by show zn ≤ 7293033; omega) rfl rfl (Nat.le_of_ble_eq_true rfl) dL_law_755 (fun r J hJ9 => ?_)
  refine kr_sw2 (kq_w (kn' := kn) (zn' := zn) (ws' := kz_W C cJ ad ad' o J N f) rfl rfl (List.append_assoc ..).symm ?_)
  refine kq_aload_n X 3 dL_law_758 rfl rfl ?_
  refine kq_arg (k := 1) X hX hbl hbA (by omega) (by omega) 1 0 rfl rfl dL_law_759 dL_law_760 dL_law_762 dL_law_763 dL_law_764 ?_
  refine kr_V (ret := some .int) (ci := 7) (n := 1) (As := [.int (xs (5 * j + 1))]) (st := [.int r]) (post := fun r2 M => r2 = r ∧ Rl bb J M) X (fun A' => c_X7_state l C (md_Y ad') A' N 0 (xs (5 * j + 1)) _ (hJ9 _ (fun M h _ => ⟨rfl, h⟩))) kc_7 md_k0 rfl iv_X7_state km_922 ⟨by decide, by decide, by decide +kernel⟩ ⟨rfl, rfl, by decide, by decide⟩ (by show kn ≤ 601024; omega) (by show zn ≤ 7293033; omega) rfl rfl (Nat.le_of_ble_eq_true rfl) dL_law_765 (fun r2 M hM => ?_)
  exact kq_icmp_eq (tgt := 1001) X dL_law_768 (by decide) (fun _ => kr_wid (Nat.le_add_right _ _) (Nat.le_add_right _ _) (hend J M f (hM.2.mono (by omega)))) (fun h => absurd hM.1.symm h)
set_option maxHeartbeats 4000000 in
theorem kz_shown (E : kz_E p l s m args meth c C cJ A b L xs) {j kn zn bb : Nat} (hj : 5 * j + 5 ≤ L) (hR : Rl bb I N) (hb : bb + 100 < 1000000) (hc : kn + 1 ≤ 601024) (hz : zn + 6 ≤ 7293033) (hend : ∀ (I1 N1 : Mm) (f1 : Nat → Int64), Rl (bb + 100) I1 N1 → kq_G p l e room_1 s m args below meth c C A 7 Q 1001 (kz_lv b ad ad' o j) [] (kn + 1) (zn + 6) (kz_W C cJ ad ad' o I1 N1 f1)) : kq_G p l e room_1 s m args below meth c C A 7 Q 773 (kz_lv b ad ad' o j) [] kn zn (kz_W C cJ ad ad' o I N f) := by
  obtain ⟨X, hJ, hZ, hX, hbl, hbA, hL⟩ := E
  refine kq_aload_n X 2 dL_law_773 rfl rfl ?_
  refine kq_arg (k := 1) X hX hbl hbA (by omega) (by omega) 1 0 rfl rfl dL_law_774 dL_law_775 dL_law_777 dL_law_778 dL_law_779 ?_
  refine kq_arg (k := 2) X hX hbl hbA (by omega) (by omega) 1 0 rfl rfl dL_law_780 dL_law_781 dL_law_783 dL_law_784 dL_law_785 ?_
  refine kq_arg (k := 3) X hX hbl hbA (by omega) (by omega) 1 0 rfl rfl dL_law_786 dL_law_787 dL_law_789 dL_law_790 dL_law_791 ?_
  refine kq_aload_n X 4 dL_law_792 rfl rfl ?_
  refine kr_S (n := 5) (As := [.ref (ad 0), .int (xs (5 * j + 1)), .int (xs (5 * j + 2)), .int (xs (5 * j + 3)), .ref o]) (st := []) X hJ hZ (fun sz => ks_shown l C cJ ad ad' o f (xs (5 * j + 1)) (xs (5 * j + 2)) (xs (5 * j + 3)) sz hR hb) ⟨km_608, km_0, km_609⟩ km_607 ⟨by decide, by decide, by decide +kernel⟩ ⟨by decide, by decide⟩ hc hz rfl rfl (Nat.le_of_ble_eq_true rfl) dL_law_793 (fun r u hu => ?_)
  refine kq_istore (lv' := [(5, .int r), (4, .int (nI (5 * j))), (0, .ref b), (1, .ref (ad 0)), (2, .ref (ad' 0)), (3, .ref o)]) X dL_law_796 (by decide) rfl ?_
  refine kq_aload_n X 4 dL_law_798 rfl rfl ?_
  refine kq_arg (k := 1) X hX hbl hbA (by omega) (by omega) 2 1 rfl rfl dL_law_799 dL_law_800 dL_law_802 dL_law_803 dL_law_804 ?_
  refine kq_arg (k := 2) X hX hbl hbA (by omega) (by omega) 2 1 rfl rfl dL_law_805 dL_law_806 dL_law_808 dL_law_809 dL_law_810 ?_
  refine kq_arg (k := 3) X hX hbl hbA (by omega) (by omega) 2 1 rfl rfl dL_law_811 dL_law_812 dL_law_814 dL_law_815 dL_law_816 ?_
  refine kr_V (ret := some .int) (ci := 7) (n := 3) (As := [.int (xs (5 * j + 1)), .int (xs (5 * j + 2)), .int (xs (5 * j + 3))]) (st := []) (post := fun r' M => Rl (bb + 100) u.1 M ∧ M 0 0 = r ∧ (r = 0 → u.2 0 = r'.toInt64)) X (fun A' => c_X7_shown l C (md_Y ad') A' N 0 (xs (5 * j + 1)) (xs (5 * j + 2)) (xs (5 * j + 3)) _ (hu _ (fun r' M h1 h2 h3 => ⟨h1, h2, h3⟩))) kc_7 md_k0 rfl iv_X7_shown km_926 ⟨by decide, by decide, by decide +kernel⟩ ⟨rfl, rfl, by decide, by decide⟩ hc hz rfl rfl (Nat.le_of_ble_eq_true rfl) dL_law_817 (fun r' M hM => ?_)
  obtain ⟨hM1, hM2, hM3⟩ := hM
  refine kq_istore (lv' := [(6, .int r'), (5, .int r), (4, .int (nI (5 * j))), (0, .ref b), (1, .ref (ad 0)), (2, .ref (ad' 0)), (3, .ref o)]) X dL_law_820 (by decide) rfl ?_
  refine kq_aload_n X 5 dL_law_822 rfl rfl ?_
  refine kr_V (ret := some .int) (ci := 7) (n := 0) (As := []) (st := []) (post := fun r2 M2 => r2 = M 0 0 ∧ M2 = M) X (fun A' => c_X7_thrown l C (md_Y ad') A' M 0 _ ⟨md_k0, rfl, rfl⟩) kc_7 md_k0 rfl iv_X7_thrown km_758 ⟨by decide, by decide, by decide +kernel⟩ ⟨rfl, rfl, by decide, by decide⟩ hc hz rfl rfl (Nat.le_of_ble_eq_true rfl) dL_law_823 (fun r2 M2 h2 => ?_)
  obtain ⟨rfl, rfl⟩ := h2
  refine kq_iload X 1 dL_law_826 rfl ?_
  refine kq_icmp_eq (tgt := 833) X dL_law_828 (by decide) (fun _ => ?_) (fun h => absurd hM2 h)
  refine kq_iload X 1 dL_law_833 rfl ?_
  have hfin : kq_G p l e room_1 s m args below meth c C A 7 Q 850 [(6, .int r'), (5, .int r), (4, .int (nI (5 * j))), (0, .ref b), (1, .ref (ad 0)), (2, .ref (ad' 0)), (3, .ref o)] [] (kn + 1) (zn + 6) (kz_W C cJ ad ad' o u.1 M2 u.2) := kq_goto (tgt := 1001) X dL_law_850 (by decide) (kq_sub [2, 3, 4, 5, 6] rfl (hend u.1 M2 u.2 hM1))
  refine kq_if_ne (tgt := 850) X dL_law_835 (by decide) (fun _ => hfin) (fun h0 => ?_)
  refine kq_aload_n X 6 dL_law_838 rfl rfl ?_
  refine kq_iconst (v := (0 : Int32)) X dL_law_839 (by decide) ?_
  refine kq_lald X hJ dL_law_840 ?_
  refine kq_iload X 0 dL_law_841 rfl ?_
  refine kq_i2l X dL_law_843 ?_
  refine kq_lcmp X dL_law_844 ?_
  exact kq_if_eq (tgt := 850) X dL_law_845 (by decide) (fun _ => hfin) (fun h => absurd (by rw [hM3 h0]; exact kz_cmp _) h)
set_option maxHeartbeats 4000000 in
theorem kz_cube (E : kz_E p l s m args meth c C cJ A b L xs) {j kn zn bb : Nat} (hj : 5 * j + 5 ≤ L) (hR : Rl bb I N) (hb : bb + 100 < 1000000) (hc : kn + 1 ≤ 601024) (hz : zn + 6 ≤ 7293033) (hend : ∀ (I1 N1 : Mm) (f1 : Nat → Int64), Rl (bb + 100) I1 N1 → kq_G p l e room_1 s m args below meth c C A 7 Q 1001 (kz_lv b ad ad' o j) [] (kn + 1) (zn + 6) (kz_W C cJ ad ad' o I1 N1 f1)) : kq_G p l e room_1 s m args below meth c C A 7 Q 853 (kz_lv b ad ad' o j) [] kn zn (kz_W C cJ ad ad' o I N f) := by
  obtain ⟨X, hJ, hZ, hX, hbl, hbA, hL⟩ := E
  refine kq_aload_n X 2 dL_law_853 rfl rfl ?_
  refine kq_arg (k := 1) X hX hbl hbA (by omega) (by omega) 1 0 rfl rfl dL_law_854 dL_law_855 dL_law_857 dL_law_858 dL_law_859 ?_
  refine kq_arg (k := 2) X hX hbl hbA (by omega) (by omega) 1 0 rfl rfl dL_law_860 dL_law_861 dL_law_863 dL_law_864 dL_law_865 ?_
  refine kq_arg (k := 3) X hX hbl hbA (by omega) (by omega) 1 0 rfl rfl dL_law_866 dL_law_867 dL_law_869 dL_law_870 dL_law_871 ?_
  refine kq_aload_n X 4 dL_law_872 rfl rfl ?_
  refine kr_S (n := 5) (As := [.ref (ad 0), .int (xs (5 * j + 1)), .int (xs (5 * j + 2)), .int (xs (5 * j + 3)), .ref o]) (st := []) X hJ hZ (fun sz => ks_cube l C cJ ad ad' o f (xs (5 * j + 1)) (xs (5 * j + 2)) (xs (5 * j + 3)) sz hR hb) ⟨km_617, km_0, km_618⟩ km_616 ⟨by decide, by decide, by decide +kernel⟩ ⟨by decide, by decide⟩ hc hz rfl rfl (Nat.le_of_ble_eq_true rfl) dL_law_873 (fun r u hu => ?_)
  refine kq_istore (lv' := [(5, .int r), (4, .int (nI (5 * j))), (0, .ref b), (1, .ref (ad 0)), (2, .ref (ad' 0)), (3, .ref o)]) X dL_law_876 (by decide) rfl ?_
  refine kq_aload_n X 4 dL_law_878 rfl rfl ?_
  refine kq_arg (k := 1) X hX hbl hbA (by omega) (by omega) 2 1 rfl rfl dL_law_879 dL_law_880 dL_law_882 dL_law_883 dL_law_884 ?_
  refine kq_arg (k := 2) X hX hbl hbA (by omega) (by omega) 2 1 rfl rfl dL_law_885 dL_law_886 dL_law_888 dL_law_889 dL_law_890 ?_
  refine kq_arg (k := 3) X hX hbl hbA (by omega) (by omega) 2 1 rfl rfl dL_law_891 dL_law_892 dL_law_894 dL_law_895 dL_law_896 ?_
  refine kr_V (ret := some .int) (ci := 7) (n := 3) (As := [.int (xs (5 * j + 1)), .int (xs (5 * j + 2)), .int (xs (5 * j + 3))]) (st := []) (post := fun r' M => Rl (bb + 100) u.1 M ∧ M 0 0 = r ∧ (r = 0 → u.2 0 = r'.toInt64)) X (fun A' => c_X7_cube l C (md_Y ad') A' N 0 (xs (5 * j + 1)) (xs (5 * j + 2)) (xs (5 * j + 3)) _ (hu _ (fun r' M h1 h2 h3 => ⟨h1, h2, h3⟩))) kc_7 md_k0 rfl iv_X7_cube km_930 ⟨by decide, by decide, by decide +kernel⟩ ⟨rfl, rfl, by decide, by decide⟩ hc hz rfl rfl (Nat.le_of_ble_eq_true rfl) dL_law_897 (fun r' M hM => ?_)
  obtain ⟨hM1, hM2, hM3⟩ := hM
  refine kq_istore (lv' := [(6, .int r'), (5, .int r), (4, .int (nI (5 * j))), (0, .ref b), (1, .ref (ad 0)), (2, .ref (ad' 0)), (3, .ref o)]) X dL_law_900 (by decide) rfl ?_
  refine kq_aload_n X 5 dL_law_902 rfl rfl ?_
  refine kr_V (ret := some .int) (ci := 7) (n := 0) (As := []) (st := []) (post := fun r2 M2 => r2 = M 0 0 ∧ M2 = M) X (fun A' => c_X7_thrown l C (md_Y ad') A' M 0 _ ⟨md_k0, rfl, rfl⟩) kc_7 md_k0 rfl iv_X7_thrown km_758 ⟨by decide, by decide, by decide +kernel⟩ ⟨rfl, rfl, by decide, by decide⟩ hc hz rfl rfl (Nat.le_of_ble_eq_true rfl) dL_law_903 (fun r2 M2 h2 => ?_)
  obtain ⟨rfl, rfl⟩ := h2
  refine kq_iload X 1 dL_law_906 rfl ?_
  refine kq_icmp_eq (tgt := 913) X dL_law_908 (by decide) (fun _ => ?_) (fun h => absurd hM2 h)
  refine kq_iload X 1 dL_law_913 rfl ?_
  have hfin : kq_G p l e room_1 s m args below meth c C A 7 Q 930 [(6, .int r'), (5, .int r), (4, .int (nI (5 * j))), (0, .ref b), (1, .ref (ad 0)), (2, .ref (ad' 0)), (3, .ref o)] [] (kn + 1) (zn + 6) (kz_W C cJ ad ad' o u.1 M2 u.2) := kq_goto (tgt := 1001) X dL_law_930 (by decide) (kq_sub [2, 3, 4, 5, 6] rfl (hend u.1 M2 u.2 hM1))
  refine kq_if_ne (tgt := 930) X dL_law_915 (by decide) (fun _ => hfin) (fun h0 => ?_)
  refine kq_aload_n X 6 dL_law_918 rfl rfl ?_
  refine kq_iconst (v := (0 : Int32)) X dL_law_919 (by decide) ?_
  refine kq_lald X hJ dL_law_920 ?_
  refine kq_iload X 0 dL_law_921 rfl ?_
  refine kq_i2l X dL_law_923 ?_
  refine kq_lcmp X dL_law_924 ?_
  exact kq_if_eq (tgt := 930) X dL_law_925 (by decide) (fun _ => hfin) (fun h => absurd (by rw [hM3 h0]; exact kz_cmp _) h)
set_option maxHeartbeats 4000000 in
theorem kz_node (E : kz_E p l s m args meth c C cJ A b L xs) {j kn zn bb : Nat} (hj : 5 * j + 5 ≤ L) (hR : Rl bb I N) (hb : bb + 100 < 1000000) (hc : kn + 1 ≤ 601024) (hz : zn + 6 ≤ 7293033) (hend : ∀ (I1 N1 : Mm) (f1 : Nat → Int64), Rl (bb + 100) I1 N1 → kq_G p l e room_1 s m args below meth c C A 7 Q 1001 (kz_lv b ad ad' o j) [] (kn + 1) (zn + 6) (kz_W C cJ ad ad' o I1 N1 f1)) : kq_G p l e room_1 s m args below meth c C A 7 Q 933 (kz_lv b ad ad' o j) [] kn zn (kz_W C cJ ad ad' o I N f) := by
  obtain ⟨X, hJ, hZ, hX, hbl, hbA, hL⟩ := E
  refine kq_aload_n X 2 dL_law_933 rfl rfl ?_
  refine kq_arg (k := 1) X hX hbl hbA (by omega) (by omega) 1 0 rfl rfl dL_law_934 dL_law_935 dL_law_937 dL_law_938 dL_law_939 ?_
  refine kq_arg (k := 2) X hX hbl hbA (by omega) (by omega) 1 0 rfl rfl dL_law_940 dL_law_941 dL_law_943 dL_law_944 dL_law_945 ?_
  refine kq_aload_n X 4 dL_law_946 rfl rfl ?_
  refine kr_S (n := 4) (As := [.ref (ad 0), .int (xs (5 * j + 1)), .int (xs (5 * j + 2)), .ref o]) (st := []) X hJ hZ (fun sz => ks_node l C cJ ad ad' o f (xs (5 * j + 1)) (xs (5 * j + 2)) sz hR hb) ⟨km_626, km_0, km_627⟩ km_625 ⟨by decide, by decide, by decide +kernel⟩ ⟨by decide, by decide⟩ hc hz rfl rfl (Nat.le_of_ble_eq_true rfl) dL_law_947 (fun r u hu => ?_)
  refine kq_istore (lv' := [(5, .int r), (4, .int (nI (5 * j))), (0, .ref b), (1, .ref (ad 0)), (2, .ref (ad' 0)), (3, .ref o)]) X dL_law_950 (by decide) rfl ?_
  refine kq_aload_n X 4 dL_law_952 rfl rfl ?_
  refine kq_arg (k := 1) X hX hbl hbA (by omega) (by omega) 2 1 rfl rfl dL_law_953 dL_law_954 dL_law_956 dL_law_957 dL_law_958 ?_
  refine kq_arg (k := 2) X hX hbl hbA (by omega) (by omega) 2 1 rfl rfl dL_law_959 dL_law_960 dL_law_962 dL_law_963 dL_law_964 ?_
  refine kr_V (ret := some .int) (ci := 7) (n := 2) (As := [.int (xs (5 * j + 1)), .int (xs (5 * j + 2))]) (st := []) (post := fun r' M => Rl (bb + 100) u.1 M ∧ M 0 0 = r ∧ (r = 0 → u.2 0 = r'.toInt64)) X (fun A' => c_X7_node l C (md_Y ad') A' N 0 (xs (5 * j + 1)) (xs (5 * j + 2)) _ (hu _ (fun r' M h1 h2 h3 => ⟨h1, h2, h3⟩))) kc_7 md_k0 rfl iv_X7_node km_934 ⟨by decide, by decide, by decide +kernel⟩ ⟨rfl, rfl, by decide, by decide⟩ hc hz rfl rfl (Nat.le_of_ble_eq_true rfl) dL_law_965 (fun r' M hM => ?_)
  obtain ⟨hM1, hM2, hM3⟩ := hM
  refine kq_istore (lv' := [(6, .int r'), (5, .int r), (4, .int (nI (5 * j))), (0, .ref b), (1, .ref (ad 0)), (2, .ref (ad' 0)), (3, .ref o)]) X dL_law_968 (by decide) rfl ?_
  refine kq_aload_n X 5 dL_law_970 rfl rfl ?_
  refine kr_V (ret := some .int) (ci := 7) (n := 0) (As := []) (st := []) (post := fun r2 M2 => r2 = M 0 0 ∧ M2 = M) X (fun A' => c_X7_thrown l C (md_Y ad') A' M 0 _ ⟨md_k0, rfl, rfl⟩) kc_7 md_k0 rfl iv_X7_thrown km_758 ⟨by decide, by decide, by decide +kernel⟩ ⟨rfl, rfl, by decide, by decide⟩ hc hz rfl rfl (Nat.le_of_ble_eq_true rfl) dL_law_971 (fun r2 M2 h2 => ?_)
  obtain ⟨rfl, rfl⟩ := h2
  refine kq_iload X 1 dL_law_974 rfl ?_
  refine kq_icmp_eq (tgt := 981) X dL_law_976 (by decide) (fun _ => ?_) (fun h => absurd hM2 h)
  refine kq_iload X 1 dL_law_981 rfl ?_
  have hfin : kq_G p l e room_1 s m args below meth c C A 7 Q 998 [(6, .int r'), (5, .int r), (4, .int (nI (5 * j))), (0, .ref b), (1, .ref (ad 0)), (2, .ref (ad' 0)), (3, .ref o)] [] (kn + 1) (zn + 6) (kz_W C cJ ad ad' o u.1 M2 u.2) := kq_goto (tgt := 1001) X dL_law_998 (by decide) (kq_sub [2, 3, 4, 5, 6] rfl (hend u.1 M2 u.2 hM1))
  refine kq_if_ne (tgt := 998) X dL_law_983 (by decide) (fun _ => hfin) (fun h0 => ?_)
  refine kq_aload_n X 6 dL_law_986 rfl rfl ?_
  refine kq_iconst (v := (0 : Int32)) X dL_law_987 (by decide) ?_
  refine kq_lald X hJ dL_law_988 ?_
  refine kq_iload X 0 dL_law_989 rfl ?_
  refine kq_i2l X dL_law_991 ?_
  refine kq_lcmp X dL_law_992 ?_
  exact kq_if_eq (tgt := 998) X dL_law_993 (by decide) (fun _ => hfin) (fun h => absurd (by rw [hM3 h0]; exact kz_cmp _) h)
end KZC
