/-! THE LAW: its loop -/
theorem in_15 (x : Int32) : ∃ v : Nat, v < 16 ∧ x &&& 15 = nI v := by
  have h1 : (x &&& 15).toBitVec = x.toBitVec &&& 15#32 := rfl
  have h2 : (x &&& 15).toBitVec.toNat < 16 := by
    rw [h1, BitVec.toNat_and]
    exact Nat.lt_of_le_of_lt Nat.and_le_right (by decide)
  refine ⟨(x &&& 15).toBitVec.toNat, h2, ?_⟩
  apply Int32.toBitVec_inj.mp
  apply BitVec.eq_of_toNat_eq
  show _ = (BitVec.ofNat 32 _).toNat
  rw [BitVec.toNat_ofNat, Nat.mod_eq_of_lt (by omega)]
section KZL
variable {p : Program} {l : Launch} {e : Env} {s : State} {m : MethodId} {args : Array Value} {below : List Frame} {meth : Method} {c : Code} {C : Cc} {A : Nat → Prop} {Q : State → Prop} {cJ : ClassId} {ad ad' : Nat → Nat} {o b L : Nat} {xs : Nat → Int32}
set_option maxHeartbeats 4000000 in
theorem kz_loop (E : kz_E p l s m args meth c C cJ A b L xs) (hexit : ∀ (j : Nat) (I N : Mm) (f : Nat → Int64), j ≤ 512 → kq_G p l e room_1 s m args below meth c C A 7 Q 1007 (kz_lv b ad ad' o j) [] (283 + j) (6856 + 6 * j) (kz_W C cJ ad ad' o I N f)) : ∀ (r j bb : Nat) (I N : Mm) (f : Nat → Int64), j + r = 512 → Rl bb I N → bb ≤ 100 * j → kq_G p l e room_1 s m args below meth c C A 7 Q 23 (kz_lv b ad ad' o j) [] (283 + j) (6856 + 6 * j) (kz_W C cJ ad ad' o I N f) := by
  have E0 := E
  obtain ⟨X, hJ, hZ, hX, hbl, hbA, hL⟩ := E
  intro r
  induction r with
  | zero =>
    intro j bb I N f hj hR hb
    refine kq_iload X 0 dL_law_23 rfl ?_
    refine kq_aload_n X 1 dL_law_25 rfl rfl ?_
    refine kq_slen X hX hbl hbA dL_law_26 ?_
    refine kq_iconst (v := (5 : Int32)) X dL_law_27 (by decide) ?_
    refine kq_isub X dL_law_28 ?_
    refine kq_icmp_gt (tgt := 1007) X dL_law_29 (by decide) (fun _ => hexit j I N f (by omega)) (fun h => absurd ?_ h)
    have h5 : (5 : Int32).toInt = 5 := by decide
    rw [in_lt, in_sub (by rw [in_n (by omega), h5]; omega) (by rw [in_n (by omega), h5]; omega), in_n (by omega), in_n (by omega), h5]
    omega
  | succ r ih =>
    intro j bb I N f hj hR hb
    refine kq_iload X 0 dL_law_23 rfl ?_
    refine kq_aload_n X 1 dL_law_25 rfl rfl ?_
    refine kq_slen X hX hbl hbA dL_law_26 ?_
    refine kq_iconst (v := (5 : Int32)) X dL_law_27 (by decide) ?_
    refine kq_isub X dL_law_28 ?_
    refine kq_icmp_gt (tgt := 1007) X dL_law_29 (by decide) (fun _ => hexit j I N f (by omega)) (fun h => ?_)
    have h5 : (5 : Int32).toInt = 5 := by decide
    have hjL : 5 * j + 5 ≤ L := by
      rw [in_lt, in_sub (by rw [in_n (by omega), h5]; omega) (by rw [in_n (by omega), h5]; omega), in_n (by omega), in_n (by omega), h5] at h
      omega
    have next : ∀ (I1 N1 : Mm) (f1 : Nat → Int64), Rl (bb + 100) I1 N1 → kq_G p l e room_1 s m args below meth c C A 7 Q 1001 (kz_lv b ad ad' o j) [] (283 + j + 1) (6856 + 6 * j + 6) (kz_W C cJ ad ad' o I1 N1 f1) := fun I1 N1 f1 h9 => by
      refine kq_iinc0 (v := nI (5 * (j + 1))) (lv' := kz_lv b ad ad' o (j + 1)) X 0 dL_law_1001 rfl ?_ (by decide) rfl ?_
      · show nI (5 * j) + nI 5 = nI (5 * (j + 1))
        rw [nI_add]
        rfl
      refine kq_goto (tgt := 23) X dL_law_1004 (by decide) ?_
      exact kq_w (by omega) (by omega) rfl (ih (j + 1) (bb + 100) I1 N1 f1 (by omega) h9 (by omega))
    refine kq_aload_n X 1 dL_law_32 rfl rfl ?_
    refine kq_iload X 0 dL_law_33 rfl ?_
    refine kq_sld X hX hbl hbA (by omega) (by omega) dL_law_35 ?_
    refine kq_bipush (v := (15 : Int32)) X dL_law_36 (by decide) ?_
    refine kq_iand X dL_law_38 ?_
    obtain ⟨v, hv, hx⟩ := in_15 (xs (5 * j))
    rw [hx]
    have hbb : bb + 100 < 1000000 := by omega
    have hc : 283 + j + 1 ≤ 601024 := by omega
    have hz : 6856 + 6 * j + 6 ≤ 7293033 := by omega
    match v, hv with
    | 0, _ => exact kq_tabIn (off := 73) (tgt := 112) X dL_law_39 (by decide) (by decide) rfl (by decide) (kz_relation E0 hjL hR hbb hc hz next)
    | 1, _ => exact kq_tabIn (off := 129) (tgt := 168) X dL_law_39 (by decide) (by decide) rfl (by decide) (kz_mark E0 hjL hR hbb hc hz next)
    | 2, _ => exact kq_tabIn (off := 221) (tgt := 260) X dL_law_39 (by decide) (by decide) rfl (by decide) (kz_clause E0 hjL hR hbb hc hz next)
    | 3, _ => exact kq_tabIn (off := 301) (tgt := 340) X dL_law_39 (by decide) (by decide) rfl (by decide) (kz_atom E0 hjL hR hbb hc hz next)
    | 4, _ => exact kq_tabIn (off := 381) (tgt := 420) X dL_law_39 (by decide) (by decide) rfl (by decide) (kz_bound E0 hjL hR hbb hc hz next)
    | 5, _ => exact kq_tabIn (off := 461) (tgt := 500) X dL_law_39 (by decide) (by decide) rfl (by decide) (kz_round E0 hjL hR hbb hc hz next)
    | 6, _ => exact kq_tabIn (off := 505) (tgt := 544) X dL_law_39 (by decide) (by decide) rfl (by decide) (kz_refine E0 hjL hR hbb hc hz next)
    | 7, _ => exact kq_tabIn (off := 549) (tgt := 588) X dL_law_39 (by decide) (by decide) rfl (by decide) (kz_verify E0 hjL hR hbb hc hz next)
    | 8, _ => exact kq_tabIn (off := 605) (tgt := 644) X dL_law_39 (by decide) (by decide) rfl (by decide) (kz_start E0 hjL hR hbb hc hz next)
    | 9, _ => exact kq_tabIn (off := 616) (tgt := 655) X dL_law_39 (by decide) (by decide) rfl (by decide) (kz_check E0 hjL hR hbb hc hz next)
    | 10, _ => exact kq_tabIn (off := 629) (tgt := 668) X dL_law_39 (by decide) (by decide) rfl (by decide) (kz_follows E0 hjL hR hbb hc hz next)
    | 11, _ => exact kq_tabIn (off := 709) (tgt := 748) X dL_law_39 (by decide) (by decide) rfl (by decide) (kz_state E0 hjL hR hbb hc hz next)
    | 12, _ => exact kq_tabIn (off := 734) (tgt := 773) X dL_law_39 (by decide) (by decide) rfl (by decide) (kz_shown E0 hjL hR hbb hc hz next)
    | 13, _ => exact kq_tabIn (off := 814) (tgt := 853) X dL_law_39 (by decide) (by decide) rfl (by decide) (kz_cube E0 hjL hR hbb hc hz next)
    | 14, _ => exact kq_tabIn (off := 894) (tgt := 933) X dL_law_39 (by decide) (by decide) rfl (by decide) (kz_node E0 hjL hR hbb hc hz next)
    | 15, _ => exact kq_tabOut (tgt := 1001) X dL_law_39 (Or.inr (by decide)) (by decide) (kr_wid (Nat.le_add_right _ _) (Nat.le_add_right _ _) (next I N f (hR.mono (by omega))))
    | v + 16, hv => exact absurd hv (by omega)
end KZL
