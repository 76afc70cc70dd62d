/-! THE LAW: what holds at its start -/
theorem kt_in {w : Cond} (i : Nat) (h : tables_1[i]? = some w) : w ∈ lw_tbl := List.mem_append_right _ (List.mem_of_getElem? h)
theorem kt_18 : Cond.instantiable RX6 12 ∈ ky_WS := ky_in 18 (by decide +kernel) (by decide +kernel)
theorem kt_635 : Cond.instantiable RX7 39 ∈ ky_WS := ky_in 635 (by decide +kernel) (by decide +kernel)
section KTS
variable {s : State} {args : Array Value}
theorem kt_arr {ty : FieldType} (h : (Cond.arrayClass ty).before args s = true) : ∃ c, ArrOfT s c ty ∧ s.vm.findClass ("[" ++ ty.toString) = some c := by
  obtain ⟨c, k, comp, h1, h2, h3⟩ := Cond.arrayClass_spec h
  exact ⟨c, fun N z => ⟨(fun k h => by cases h), k, h2, comp, h3⟩, h1⟩
theorem kt_arrO {Cn : String} (h : (Cond.arrayOver (.object Cn)).before args s = true) : ∃ c, ArrOfT s c (.object Cn) ∧ va_RA s c (.object Cn) := by
  obtain ⟨comp, c, k, h1, h2, h3, h4, h5⟩ := Cond.arrayOver_spec h
  exact ⟨c, fun N z => ⟨(fun k h => by cases h), k, h3, comp, h4⟩, k, comp, h3, h4, h1, h5⟩
set_option maxHeartbeats 4000000 in
theorem kt_K (hts : ∀ w ∈ lw_tbl, w.before args s = true) : ∃ C : Cc, kq_K C s := by
  have hw : ∀ w ∈ ky_WS, w.before args s = true := fun w h => hts w (List.mem_filter.mp h).1
  obtain ⟨c0, i0, h0⟩ := u_known (C := RX0) (T := TX0) (N := 2) (n := 2) hw kc_0.2.2 (hw _ kr_43)
  obtain ⟨c1, i1, h1⟩ := u_known (C := RX1) (T := TX1) (N := 5) (n := 5) hw kc_1.2.2 (hw _ kr_152)
  obtain ⟨c2, i2, h2⟩ := u_known (C := RX2) (T := TX2) (N := 3) (n := 3) hw kc_2.2.2 (hw _ kr_158)
  obtain ⟨c3, i3, h3⟩ := u_known (C := RX3) (T := TX3) (N := 5) (n := 5) hw kc_3.2.2 (hw _ kr_37)
  obtain ⟨c4, i4, h4⟩ := u_known (C := RX4) (T := TX4) (N := 9) (n := 9) hw kc_4.2.2 (hw _ kr_110)
  obtain ⟨c5, i5, h5⟩ := u_known (C := RX5) (T := TX5) (N := 6) (n := 6) hw kc_5.2.2 (hw _ kr_30)
  obtain ⟨c6, i6, h6⟩ := u_known (C := RX6) (T := TX6) (N := 12) (n := 12) hw kc_6.2.2 (hw _ kt_18)
  obtain ⟨c7, i7, h7⟩ := u_known (C := RX7) (T := TX7) (N := 39) (n := 39) hw kc_7.2.2 (hw _ kt_635)
  obtain ⟨cI, a1, a2⟩ := kt_arr (hw _ kr_61)
  have w1 := hts _ (kt_in (w := .arrayOver (.object RX1)) 28 (by decide +kernel))
  have w2 := hts _ (kt_in (w := .arrayOver (.object RX2)) 175 (by decide +kernel))
  have w3 := hts _ (kt_in (w := .arrayOver (.object RX3)) 36 (by decide +kernel))
  have w4 := hts _ (kt_in (w := .arrayOver (.object RX4)) 26 (by decide +kernel))
  obtain ⟨d1, b1⟩ := kt_arrO w1
  obtain ⟨d2, b2⟩ := kt_arrO w2
  obtain ⟨d3, b3⟩ := kt_arrO w3
  obtain ⟨d4, b4⟩ := kt_arrO w4
  refine ⟨((fun k => [c0, c1, c2, c3, c4, c5, c6, c7].getD k 0, fun k => [i0, i1, i2, i3, i4, i5, i6, i7].getD k (fun _ => 0)), cI, fun k => [d1, d2, d3, d4].getD (k - 9) 0), ⟨⟨?_, ?_⟩, ?_⟩, ?_⟩
  · intro c q hq
    match c, hq with
    | 0, hq => cases hq; exact h0
    | 1, hq => cases hq; exact h1
    | 2, hq => cases hq; exact h2
    | 3, hq => cases hq; exact h3
    | 4, hq => cases hq; exact h4
    | 5, hq => cases hq; exact h5
    | 6, hq => cases hq; exact h6
    | 7, hq => cases hq; exact h7
    | c + 8, hq => simp [vwCl] at hq
  · intro k q hq
    match k, hq with
    | 0, hq => cases hq; exact ⟨a1, a2⟩
    | 1, hq => cases hq; exact b1
    | 2, hq => cases hq; exact b2
    | 3, hq => cases hq; exact b3
    | 4, hq => cases hq; exact b4
    | k + 5, hq => simp [ky_ty] at hq
  · exact ⟨va_Nw.of rfl (hts _ (kt_in (w := .methodLinkNest RX2 16 yX6_pointAt RX6) 547 (by decide +kernel))), va_Nw.of rfl (hts _ (kt_in (w := .methodLinkNest RX4 48 yX6_isLimit RX6) 419 (by decide +kernel))), va_Nw.of rfl (hts _ (kt_in (w := .methodLinkNest RX4 51 yX6_pointAt RX6) 283 (by decide +kernel)))⟩
  · exact ⟨va_Nw.of rfl (hts _ (kt_in (w := .methodLinkNest RX6 41 yX4_init RX6) 111 (by decide +kernel))), va_Nw.of rfl (hts _ (kt_in (w := .methodLinkNest RX1 11 yX2_init RX6) 159 (by decide +kernel))), va_Nw.of rfl (hts _ (kt_in (w := .methodLinkNest RX5 27 yX3_init RX6) 38 (by decide +kernel))), va_AO.of w1, va_AO.of w2, va_AO.of w3, va_AO.of w4⟩
theorem kt_J (hts : ∀ w ∈ lw_tbl, w.before args s = true) : ∃ cJ, kl_J cJ s := by
  obtain ⟨c, a1, a2⟩ := kt_arr (hts _ (kt_in (w := .arrayClass .long) 938 (by decide +kernel)))
  exact ⟨c, a1, a2⟩
theorem kt_strs : ∀ q ∈ ky_strs, Cond.stringRef RX6 q.1 q.2 ∈ lw_tbl := by decide +kernel
theorem kt_Z {l : Launch} (hl : l.stackTraces = false) (hts : ∀ w ∈ lw_tbl, w.before args s = true) (hgv : (Jvm.Cond.and given_1 narrow_1).before args s = true) : kl_Z l (fun q => s.heap.size ≤ q) s := by
  have hs := flat_of_before _ hgv
  have hA : ∀ a : Nat, a < s.heap.size → ¬ (fun q : Nat => s.heap.size ≤ q) a := fun a h => Nat.not_le.mpr h
  have hini := hts _ (kt_in (w := .initialized Bundle.tN) 9 (by decide +kernel))
  have hcur : ∃ cur, s.vm.findClass RX6 = some cur := by
    obtain ⟨c6, i6, h6⟩ := u_known (C := RX6) (T := TX6) (N := 12) (n := 12) (fun w h => hts w (List.mem_filter.mp h).1) kc_6.2.2 (hts _ (List.mem_filter.mp kt_18).1)
    exact ⟨c6, h6.2.1⟩
  refine ⟨⟨hl, fun w hw hc => va_Nw.of (ky_cd.tab hc) (hts w hw), vx_Zqof (hts _ (kt_in 338 (by decide +kernel))) hini (hs _ (by decide +kernel)) hA, vx_Zqof (hts _ (kt_in 340 (by decide +kernel))) hini (hs _ (by decide +kernel)) hA, fun q hq => ?_⟩, fun q hq => ?_⟩
  · obtain ⟨cur, hcur⟩ := hcur
    have h1 := hts _ (kt_strs q hq)
    obtain ⟨_, _, _, a, _, _, _, _, _, h2⟩ := Cond.stringRef_spec hcur h1
    exact ⟨a, vk_R.of h1 h2⟩
  · simp only [kl_nc, List.mem_cons, List.not_mem_nil, or_false] at hq
    rcases hq with rfl | rfl | rfl | rfl
    · exact va_Nc.of (hs (.not (.castable xS xI)) (by decide +kernel))
    · exact va_Nc.of (hs (.not (.castable xA xI)) (by decide +kernel))
    · exact va_Nc.of (hs (.not (.castable xN xI)) (by decide +kernel))
    · exact va_Nc.of (hs (.not (.castable xN xA)) (by decide +kernel))
end KTS
