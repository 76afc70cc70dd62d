/-! CALLS: bound -/
def tp_ok (u v : Int32) : Prop := (0 ≤ u.toInt ∧ u.toInt ≤ 5) ∧ (0 ≤ v.toInt ∧ v.toInt ≤ 5) ∧ u ≠ v
theorem in_v5 : (5 : Int32).toInt = 5 := by decide
theorem in_v6 : (6 : Int32).toInt = 6 := by decide
theorem p_areTwoPoints {Y : Ly} {I : Mm} {u v : Int32} {post : Int32 → Mm → Prop} (h1 : tp_ok u v → post 1 I) (h0 : ¬ tp_ok u v → post 0 I) : w_X6_areTwoPoints Y I u v post := by
  unfold tp_ok at h1 h0
  refine ⟨fun a => h0 ?_, fun a => ⟨fun b => h0 ?_, fun b => ⟨fun c => h0 ?_, fun c => ⟨fun d => h0 ?_, fun d => ⟨fun e => h0 (fun h9 => h9.2.2 e), fun e => h1 ?_⟩⟩⟩⟩⟩
  · rw [in_lt, in_0] at a; omega
  · rw [in_le, in_v6] at b; omega
  · rw [in_lt, in_0] at c; omega
  · rw [in_le, in_v6] at d; omega
  · rw [in_lt, in_0] at a c; rw [in_le, in_v6] at b d
    exact ⟨⟨by omega, by omega⟩, ⟨by omega, by omega⟩, e⟩
theorem tp_n {u : Int32} (h : 0 ≤ u.toInt ∧ u.toInt ≤ 5) : ∃ j, j < 6 ∧ u = nI j := in_of (n := 6) h.1 (by omega)
theorem dt_sh_0 {u : Nat} (h : u < 6) : dt_sh 0 5 u = u := by unfold dt_sh; split <;> omega
set_option maxHeartbeats 2000000 in
theorem sm_bound {ad ad' : Nat → Nat} {b : Nat} {I N : Mm} (h : Rl b I N) {u v w : Int32} {post : Int32 → Mm → Prop} {xp : String → Mm → Prop} (hk : ∀ (r : Int32) (J : Mm), sm_R b 0 J r (w_X7_bound (md_Y ad') N 0 u v w) → post r J) (hx1 : ∀ J, sm_X b 1 J (w_X7_bound (md_Y ad') N 0 u v w) → xp "java/lang/IllegalArgumentException" J) (hx2 : ∀ J, sm_X b 2 J (w_X7_bound (md_Y ad') N 0 u v w) → xp "java/lang/IllegalStateException" J) : w_X6_bound (cl_Y ad) I 0 u v w post xp := by
  obtain ⟨hw, hs, hu⟩ := id h
  have hr4 := hw.1.2.1
  have h12 := hw.2.2.1
  have bad : ¬ (tp_ok u v ∧ -1000 ≤ w.toInt ∧ w.toInt ≤ 1000) → sm_X b 1 I (w_X7_bound (md_Y ad') N 0 u v w) := fun hno post' hp => by
    have b42 : w_X7_bound_B42 (md_Y ad') post' 0 u v w 1 0 N := ⟨md_k0, fun N' e0 => ⟨md_k0, fun h9 => absurd (by rw [ky_up_f e0] at h9; exact h9) (by decide), fun _ => hp N' 0 (h.fn (fn_F.code e0)) (ky_up_f e0)⟩⟩
    refine m_in (fun a1 a2 => ⟨fun h9 => absurd h9 (by decide), fun _ => m_in (fun b1 b2 => ⟨fun h9 => absurd h9 (by decide), fun _ => ⟨fun _ => b42, fun e => m_in (fun c1 c2 => ?_) (fun _ => ⟨fun _ => b42, fun h9 => absurd rfl h9⟩)⟩⟩) (fun _ => ⟨fun _ => b42, fun h9 => absurd rfl h9⟩)⟩) (fun _ => ⟨fun _ => b42, fun h9 => absurd rfl h9⟩)
    rw [in_0] at a1 b1
    rw [in_v5] at a2 b2
    rw [in_mk] at c1
    rw [in_k] at c2
    exact absurd ⟨⟨⟨a1, a2⟩, ⟨b1, b2⟩, e⟩, c1, c2⟩ hno
  refine p_areTwoPoints (fun htp => ⟨fun h9 => absurd h9 (by decide), fun _ => p_isLimit (fun w1 w2 => ⟨fun _ => ⟨cy_0, ?_⟩, fun h9 => absurd h9 (by decide)⟩) (fun hno => ⟨fun h9 => absurd rfl h9, fun _ => hx1 I (bad (fun h9 => hno h9.2))⟩)⟩) (fun hno => ⟨fun _ => hx1 I (bad (fun h9 => hno h9.1)), fun h9 => absurd rfl h9⟩)
  have yes : ∀ (post' : Int32 → Mm → Prop), w_X7_bound_B42 (md_Y ad') post' 0 u v w 0 0 N → w_X7_bound (md_Y ad') N 0 u v w post' := fun post' hp => m_in (fun _ _ => ⟨fun h9 => absurd h9 (by decide), fun _ => m_in (fun _ _ => ⟨fun h9 => absurd h9 (by decide), fun _ => ⟨fun e => absurd e htp.2.2, fun _ => m_in (fun _ _ => ⟨fun h9 => absurd h9 (by decide), fun _ => hp⟩) (fun h9 => absurd (by rw [in_mk, in_k]; exact ⟨w1, w2⟩) h9)⟩⟩) (fun h9 => absurd (by rw [in_0, in_v5]; exact htp.2.1) h9)⟩) (fun h9 => absurd (by rw [in_0, in_v5]; exact htp.1) h9)
  have fails : ∀ (post' : Int32 → Mm → Prop), (∀ (M : Mm) (r : Int32), Rl b I M → M 0 0 = 2 → post' r M) → ∀ N', N' = ky_up N 0 0 0 → w_X7_bound_B77 (md_Y ad') post' 0 N' := fun post' hp N' e0 => ⟨md_k0, md_k0, fun N2 e2 => hp N2 0 ((h.fn (fn_F.code e0)).fn (fn_F.code e2)) (ky_up_f e2)⟩
  obtain ⟨u', hu6, rfl⟩ := tp_n htp.1
  obtain ⟨v', hv6, rfl⟩ := tp_n htp.2.1
  rw [hs.2.1, hw.2.1]
  refine ⟨fun h0 => hx2 I (fun post' hp => yes post' ⟨md_k0, fun N' e0 => ⟨md_k0, fun _ => ⟨fun _ => fails post' hp N' e0, fun h9 => absurd (by rw [ky_up_o e0 (by decide), hw.2.1]; exact h0) h9⟩, fun h9 => absurd (by rw [ky_up_f e0]; decide) h9⟩⟩), fun h0 => ?_⟩
  have hpos := in_pos (by omega) h0
  obtain ⟨c, hc⟩ : ∃ c, dt_nc N = c + 1 := ⟨dt_nc N - 1, by omega⟩
  have hcc : c < dt_nc N := by omega
  rw [hc, in_sub1 (by omega)]
  obtain ⟨_, _, _, _, _, nb1, nb2, nb3⟩ := hw.2.2.2 c hcc
  obtain ⟨r1, r2, r3, r4, r5, r6, r7⟩ := hs.2.2.1 c hcc
  have h8 : (8 : Int32) = nI 8 := rfl
  refine ⟨cy_2, vp_in_nI (N := 12) (by omega) (by decide), ?_⟩
  rw [cy_p2, in_c (by omega), cy_cla, r5, nb1]
  have ref : ∀ (post' : Int32 → Mm → Prop), (∀ N', N' = ky_up N 0 0 0 → ((¬ nI (dt_nb N c) = (8 : Int32) → ∀ M1 M2 M3 M4, M1 = ky_up N' 12 (8 * c + dt_nb N c) (nI u') → M2 = ky_up M1 13 (8 * c + dt_nb N c) (nI v') → M3 = ky_up M2 14 (8 * c + dt_nb N c) w → M4 = ky_up M3 11 c (nI (dt_nb N c + 1)) → w_X7_made (md_Y ad') M4 0 (nI (dt_nb N c + 1)) post') ∧ (nI (dt_nb N c) = (8 : Int32) → w_X7_bound_B77 (md_Y ad') post' 0 N'))) → w_X7_bound_B42 (md_Y ad') post' 0 (nI u') (nI v') w 0 0 N := fun post' hp => by
    refine ⟨md_k0, fun N' e0 => ⟨md_k0, fun _ => ⟨fun h9 => absurd (by rw [ky_up_o e0 (by decide), hw.2.1] at h9; exact h9) h0, fun _ => ⟨md_k11, ?_⟩⟩, fun h9 => absurd (by rw [ky_up_f e0]; decide) h9⟩⟩
    have n11 : N' 11 c = nI (dt_nb N c) := by rw [e0, ky_up_ne (by decide)]; exact nb1
    have n07 : N' 0 7 = nI (c + 1) := by rw [ky_up_o e0 (by decide), hw.2.1, hc]
    rw [n07, in_sub1 (by omega), md_r13, in_c (by omega), n11, in_mul8, nI_add]
    refine ⟨vp_in_nI (N := 12) (by omega) (by decide), fun h9 x11 hx11 => ?_, fun h9 => (hp N' e0).2 h9⟩
    have hlt8 : dt_nb N c < 8 := by
      rcases Nat.lt_or_ge (dt_nb N c) 8 with h8 | h8
      · exact h8
      · exact absurd (by rw [show dt_nb N c = 8 by omega]; rfl) h9
    subst hx11
    refine ⟨md_k12, vp_in_nI (N := 96) (by omega) (by decide), fun M1 f1 => ⟨md_k13, vp_in_nI (N := 96) (by omega) (by decide), fun M2 f2 => ⟨md_k14, vp_in_nI (N := 96) (by omega) (by decide), fun M3 f3 => ?_⟩⟩⟩
    rw [md_r14, in_c (by omega)] at f1
    rw [md_r15, in_c (by omega)] at f2
    rw [md_r16, in_c (by omega)] at f3
    have k07 : M3 0 7 = nI (c + 1) := by rw [f3, ky_up_ne (by decide), f2, ky_up_ne (by decide), f1, ky_up_ne (by decide)]; exact n07
    have k11 : M3 11 c = nI (dt_nb N c) := by rw [f3, ky_up_ne (by decide), f2, ky_up_ne (by decide), f1, ky_up_ne (by decide)]; exact n11
    rw [k07, in_sub1 (by omega), in_c (by omega), k11, in_s]
    refine ⟨vp_in_nI (N := 12) (by omega) (by decide), fun M4 f4 => ?_⟩
    have l07 : M4 0 7 = nI (c + 1) := by rw [f4, ky_up_ne (by decide)]; exact k07
    rw [l07, in_sub1 (by omega), in_c (by omega), ky_up_f f4]
    exact ⟨vp_in_nI (N := 12) (by omega) (by decide), (hp N' e0).1 h9 M1 M2 M3 M4 f1 f2 f3 f4⟩
  refine ⟨cy_kc (by omega), fun h2 q9 hq9 => ?_, fun h2 => hx2 I (fun post' hp => yes post' (ref post' (fun N' e0 => ⟨fun h9 => absurd h2 h9, fun _ => fails post' hp N' e0⟩)))⟩
  subst hq9
  have hlt8 : dt_nb N c < 8 := by
    rcases Nat.lt_or_ge (dt_nb N c) 8 with h8 | h8
    · exact h8
    · exact absurd (by rw [show dt_nb N c = 8 by omega]; rfl) h2
  rw [cy_rc3 (by omega)]
  refine ⟨cy_kc (by omega), (cy_Bo (by omega)).1, p_add (K := 1001) (cy_Bo (by omega)) hu6 hv6 r7 (by decide) (dt_bE_ok hw hcc) (by omega) (fun J1 j1 hS1 J2 e2 => ?_)⟩
  rw [j1.1 (169 + 7 * c) (by omega) (by omega), r5, nb1, in_s] at e2
  have ja : ∀ a, a ≠ 169 + 7 * c → a ≠ 172 + 7 * c → a ≠ 173 + 7 * c → J2 a = I a := fun a a0 a1 a2 => by rw [e2, ky_up_ne a0]; exact j1.1 a a1 (by omega)
  have j94 : J2 (169 + 7 * c) 4 = nI (dt_nb N c + 1) := ky_up_f e2
  have j9o : ∀ j, j ≠ 4 → J2 (169 + 7 * c) j = I (169 + 7 * c) j := fun j hj => by rw [ky_up_o e2 hj, j1.1 _ (by omega) (by omega)]
  have hS2 : cl_S J2 (172 + 7 * c) ((u', v', w.toInt) :: dt_bE N c 0 5) := cl_S_keep (by rw [e2, ky_up_ne (by omega)]) (by rw [e2, ky_up_ne (by omega)]) hS1
  have key : ∀ M : Mm, M 12 = upd (N 12) (8 * c + dt_nb N c) (nI u') → M 13 = upd (N 13) (8 * c + dt_nb N c) (nI v') → M 14 = upd (N 14) (8 * c + dt_nb N c) w → M 11 = upd (N 11) c (nI (dt_nb N c + 1)) → (∀ a, a ≠ 0 → a ≠ 11 → a ≠ 12 → a ≠ 13 → a ≠ 14 → M a = N a) → (∀ j, j ≠ 0 → M 0 j = N 0 j) → Rs J2 M := fun M m12 m13 m14 m11 mo m0o => by
    have mr : ∀ a, a ≠ 0 → a < 6 → M a = N a := fun a a0 a1 => mo a a0 (by omega) (by omega) (by omega) (by omega)
    have m01 := m0o 1 (by decide)
    have nr' : dt_nr M = dt_nr N := by unfold dt_nr; rw [m01]
    have nc' : dt_nc M = dt_nc N := by unfold dt_nc; rw [m0o 7 (by decide)]
    have o6 : ∀ c', M 6 c' = N 6 c' := fun c' => by rw [mo 6 (by decide) (by decide) (by decide) (by decide) (by decide)]
    have o7 : ∀ c' q, q < 2 → M 7 (2 * c' + q) = N 7 (2 * c' + q) := fun c' q _ => by rw [mo 7 (by decide) (by decide) (by decide) (by decide) (by decide)]
    have o8 : ∀ c', M 8 c' = N 8 c' := fun c' => by rw [mo 8 (by decide) (by decide) (by decide) (by decide) (by decide)]
    have o11 : ∀ c', c' ≠ c → M 11 c' = N 11 c' := fun c' hc' => by rw [m11]; unfold upd; rw [if_neg hc']
    have oa : ∀ c' a, M 9 (2 * c' + a) = N 9 (2 * c' + a) ∧ ∀ q, q < 2 → M 10 (2 * (2 * c' + a) + q) = N 10 (2 * (2 * c' + a) + q) := fun c' a => by rw [mo 9 (by decide) (by decide) (by decide) (by decide) (by decide), mo 10 (by decide) (by decide) (by decide) (by decide) (by decide)]; exact ⟨rfl, fun _ _ => rfl⟩
    have ob : ∀ c' j, j < 8 → (c' ≠ c ∨ j ≠ dt_nb N c) → M 12 (8 * c' + j) = N 12 (8 * c' + j) ∧ M 13 (8 * c' + j) = N 13 (8 * c' + j) ∧ M 14 (8 * c' + j) = N 14 (8 * c' + j) := fun c' j hj hne => by
      rw [m12, m13, m14]
      unfold upd
      rw [if_neg (by omega), if_neg (by omega), if_neg (by omega)]
      exact ⟨rfl, rfl, rfl⟩
    have nb' : dt_nb M c = dt_nb N c + 1 := by show nu (M 11 c) = _; rw [m11]; unfold upd; rw [if_pos rfl]; exact nu_n (by omega)
    have x12 : M 12 (8 * c + dt_nb N c) = nI u' := by rw [m12]; unfold upd; rw [if_pos rfl]
    have x13 : M 13 (8 * c + dt_nb N c) = nI v' := by rw [m13]; unfold upd; rw [if_pos rfl]
    have x14 : M 14 (8 * c + dt_nb N c) = w := by rw [m14]; unfold upd; rw [if_pos rfl]
    refine ⟨⟨dt_w1_congr m01 mr hw.1, by rw [nc', m0o 7 (by decide)]; exact hw.2.1, by omega, fun c' hc' => ?_⟩, ⟨rl_r_congr (fun a a1 a2 => ja a (by omega) (by omega) (by omega)) (by rw [ja 0 (by omega) (by omega) (by omega)]) m01 hr4 mr hs.1, by rw [ja 0 (by omega) (by omega) (by omega), m0o 7 (by decide)]; exact hs.2.1, fun c' hc' => ?_, fun c' hc1 hc2 => ?_⟩, fun r m h1 h2 h3 => ?_, ?_⟩
    · rw [nc'] at hc'
      by_cases e : c' = c
      · subst e
        obtain ⟨d1, d2, d3, d4, d5, d6, d7, d8⟩ := hw.2.2.2 c' hc'
        have ena : dt_na M c' = dt_na N c' := by unfold dt_na; rw [o8]
        refine ⟨?_, fun q hq => ?_, by rw [ena, o8]; exact d3, by rw [ena]; exact d4, fun a ha => ?_, by rw [nb', m11]; unfold upd; rw [if_pos rfl], by omega, fun j hj => ?_⟩
        · unfold dt_hr; rw [o6, nr']; exact d1
        · unfold dt_hv; rw [o7 c' q hq]; exact d2 q hq
        · rw [ena] at ha
          obtain ⟨g1, g2⟩ := oa c' a
          unfold dt_ar dt_av
          rw [g1, nr']
          refine ⟨(d5 a ha).1, (d5 a ha).2.1, fun q hq => ?_⟩
          rw [g2 q hq]
          exact (d5 a ha).2.2 q hq
        · rw [nb'] at hj
          by_cases ej : j = dt_nb N c'
          · rw [ej, x12, x13, x14]
            exact ⟨u', v', rfl, rfl, hu6, hv6, w1, w2⟩
          · obtain ⟨g1, g2, g3⟩ := ob c' j (by omega) (Or.inr ej)
            rw [g1, g2, g3]
            exact d8 j (by omega)
      · exact dt_cl_congr (by omega) (o6 c') (o7 c') (o8 c') (fun a _ => oa c' a) (o11 c' e) (fun j hj => ob c' j (by have := (hw.2.2.2 c' hc').2.2.2.2.2.2.1; omega) (Or.inl e)) (hw.2.2.2 c' hc')
    · rw [nc'] at hc'
      by_cases e : c' = c
      · subst e
        refine ⟨by rw [ja _ (by omega) (by omega) (by omega), o6]; exact r1, by rw [ja _ (by omega) (by omega) (by omega), mo 7 (by decide) (by decide) (by decide) (by decide) (by decide)]; exact r2, by rw [ja _ (by omega) (by omega) (by omega), mo 7 (by decide) (by decide) (by decide) (by decide) (by decide)]; exact r3, by rw [j9o 2 (by decide), o8]; exact r4, by rw [j94, m11]; unfold upd; rw [if_pos rfl], fun a ha => ?_, ?_⟩
        · have ena : dt_na M c' = dt_na N c' := by unfold dt_na; rw [o8]
          rw [ena] at ha
          rw [ja _ (by omega) (by omega) (by omega), mo 9 (by decide) (by decide) (by decide) (by decide) (by decide), mo 10 (by decide) (by decide) (by decide) (by decide) (by decide)]
          exact r6 a ha
        · have ebe : dt_bE M c' 0 5 = dt_bE N c' 0 5 ++ [(u', v', w.toInt)] := by
            unfold dt_bE
            rw [nb', List.range_succ, List.map_append]
            congr 1
            · refine List.map_congr_left (fun j hj => ?_)
              obtain ⟨g1, g2, g3⟩ := ob c' j (by have := List.mem_range.mp hj; omega) (Or.inr (by have := List.mem_range.mp hj; omega))
              unfold dt_be
              rw [g1, g2, g3]
            · show [dt_be M c' 0 5 (dt_nb N c')] = _
              unfold dt_be
              rw [x12, x13, x14, nu_n (by omega), nu_n (by omega), dt_sh_0 hu6, dt_sh_0 hv6]
          rw [ebe]
          refine cl_S_mem (fun e => ?_) hS2
          rw [List.mem_cons, List.mem_append, List.mem_singleton]
          exact Or.comm
      · exact rl_1_congr (fun a a1 a2 => ja a (by omega) (by omega) (by omega)) (o6 c') (o7 c') (o8 c') (hw.2.2.2 c' hc').2.2.2.1 (fun a _ => oa c' a) (o11 c' e) (fun j hj => ob c' j (by have := (hw.2.2.2 c' hc').2.2.2.2.2.2.1; omega) (Or.inl e)) (hs.2.2.1 c' hc')
    · rw [nc'] at hc1
      obtain ⟨g1, g2, g3⟩ := hs.2.2.2 c' hc1 hc2
      exact ⟨by rw [ja _ (by omega) (by omega) (by omega)]; exact g1, by rw [ja _ (by omega) (by omega) (by omega)]; exact g2, cl_S_keep (ja _ (by omega) (by omega) (by omega)) (ja _ (by omega) (by omega) (by omega)) g3⟩
    · rw [nr'] at h1
      rw [ja _ (by omega) (by omega) (by omega)]
      exact h.Rs.2.2.1 r m h1 h2 h3
    · rw [ja 0 (by omega) (by omega) (by omega), m0o 24 (by decide)]
      exact h.Rs.2.2.2
  refine p_fresh (n := dt_nr N) hr4 (by rw [ja 0 (by omega) (by omega) (by omega), hs.1.1]; exact hw.1.1) (fun r m h1 h2 h3 => by rw [ja _ (by omega) (by omega) (by omega)]; exact h.Rs.2.2.1 r m h1 h2 h3) (fun J3 hJ3 => ?_)
  rw [hJ3.1 (169 + 7 * c) (by omega) (by omega) (fun r hr => by omega), j94]
  refine hk _ J3 (fun post' hp => yes post' (ref post' (fun N' e0 => ⟨fun _ M1 M2 M3 M4 f1 f2 f3 f4 => ?_, fun h9 => absurd h9 h2⟩)))
  refine m_made (key M4 ?_ ?_ ?_ ?_ ?_ ?_) hJ3 (fun M hM h0 => hp M hM ?_)
  · rw [f4, ky_up_ne (by decide), f3, ky_up_ne (by decide), f2, ky_up_ne (by decide), f1, ky_up_eq, e0, ky_up_ne (by decide)]
  · rw [f4, ky_up_ne (by decide), f3, ky_up_ne (by decide), f2, ky_up_eq, f1, ky_up_ne (by decide), e0, ky_up_ne (by decide)]
  · rw [f4, ky_up_ne (by decide), f3, ky_up_eq, f2, ky_up_ne (by decide), f1, ky_up_ne (by decide), e0, ky_up_ne (by decide)]
  · rw [f4, ky_up_eq, f3, ky_up_ne (by decide), f2, ky_up_ne (by decide), f1, ky_up_ne (by decide), e0, ky_up_ne (by decide)]
  · intro a a0 a11 a12 a13 a14
    rw [f4, ky_up_ne a11, f3, ky_up_ne a14, f2, ky_up_ne a13, f1, ky_up_ne a12, e0, ky_up_ne a0]
  · intro j j0
    rw [f4, ky_up_ne (by decide), f3, ky_up_ne (by decide), f2, ky_up_ne (by decide), f1, ky_up_ne (by decide), ky_up_o e0 j0]
  · rw [h0, f4, ky_up_ne (by decide), f3, ky_up_ne (by decide), f2, ky_up_ne (by decide), f1, ky_up_ne (by decide)]
    exact ky_up_f e0
