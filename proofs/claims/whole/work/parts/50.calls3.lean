/-! CALLS: atom, bound -/
theorem in_pos {n : Nat} (h : n < 2147483648) (h9 : ¬ nI n = 0) : 0 < n := by
  rcases Nat.eq_zero_or_pos n with h8 | h8
  · exact absurd (by rw [h8]; rfl) h9
  · exact h8
set_option maxHeartbeats 2000000 in
theorem sm_atom {ad ad' : Nat → Nat} {b : Nat} {I N : Mm} (h : Rl b I N) {v x y : Int32} {post : Int32 → Mm → Prop} {xp : String → Mm → Prop} (hk : ∀ (r : Int32) (J : Mm), sm_R b 0 J r (w_X7_atom (md_Y ad') N 0 v x y) → post r J) (hx1 : ∀ J, sm_X b 1 J (w_X7_atom (md_Y ad') N 0 v x y) → xp "java/lang/IllegalArgumentException" J) (hx2 : ∀ J, sm_X b 2 J (w_X7_atom (md_Y ad') N 0 v x y) → xp "java/lang/IllegalStateException" J) : w_X6_atom (cl_Y ad) I 0 v x y post xp := by
  obtain ⟨hw, hs, hu⟩ := id h
  have hr4 := hw.1.2.1
  have h12 := hw.2.2.1
  refine ⟨cy_0, p_isLiteral hw hs.1 (fun hl => ⟨fun _ => ?_, fun h9 => absurd h9 (by decide)⟩) (fun hl => ⟨fun h9 => absurd rfl h9, fun _ => hx1 I (fun post' hp => ?_)⟩)⟩
  · -- a good literal
    have yes : ∀ (post' : Int32 → Mm → Prop), w_X7_atom_B24 (md_Y ad') post' 0 v x y 0 0 N → w_X7_atom (md_Y ad') N 0 v x y post' := fun post' hp => by
      refine ⟨md_k0, m_isRelation hw (fun r hr e => ⟨fun h9 => absurd h9 (by decide), fun _ => ?_⟩) (fun h9 => ?_)⟩
      · subst e
        exact m_areVariables hw hr (fun _ => ⟨fun h9 => absurd h9 (by decide), fun _ => hp⟩) (fun h9 => absurd hl h9)
      · obtain ⟨r, hr, e, _⟩ := hl
        exact absurd ⟨r, hr, e⟩ h9
    have fails : ∀ (post' : Int32 → Mm → Prop), (∀ (M : Mm) (r : Int32), Rl b I M → M 0 0 = 2 → post' r M) → ∀ N', N' = ky_up N 0 0 0 → w_X7_atom_B58 (md_Y ad') post' 0 N' := fun post' hp N' e0 => ⟨md_k0, md_k0, fun N2 e2 => hp N2 0 ((h.fn (fn_F.code e0)).fn (fn_F.code e2)) (ky_up_f e2)⟩
    obtain ⟨r, hr, ev, hxv, hyv⟩ := id hl
    have hv' : v = -1 ∨ ∃ r, r < dt_nr N ∧ v = nI r := Or.inr ⟨r, hr, ev⟩
    have hxy := hl.xy hw
    have hne1 : ¬ v = -1 := by rw [ev]; exact in_ne1 (by omega)
    have ex : li_x v x = x := by unfold li_x; rw [if_neg hne1]
    rw [ex] at hxy
    rw [hs.2.1, hw.2.1]
    refine ⟨fun h0 => hx2 I (fun post' hp => yes post' ⟨md_k0, fun N' e0 => ⟨md_k0, fun _ => ⟨fun _ => fails post' hp N' e0, fun h9 => absurd (by rw [ky_up_o e0 (by decide), hw.2.1]; exact h0) h9⟩, fun h9 => absurd (by rw [ky_up_f e0]; decide) h9⟩⟩), fun h0 => ?_⟩
    have hpos := in_pos (by omega) h0
    obtain ⟨c, hc⟩ : ∃ c, dt_nc N = c + 1 := ⟨dt_nc N - 1, by omega⟩
    have hcc : c < dt_nc N := by omega
    rw [hc, in_sub1 (by omega)]
    obtain ⟨_, _, na1, na2, na3, _⟩ := hw.2.2.2 c hcc
    obtain ⟨r1, r2, r3, r4, r5, r6, r7⟩ := hs.2.2.1 c hcc
    refine ⟨cy_2, vp_in_nI (N := 12) (by omega) (by decide), ?_⟩
    rw [cy_p2, in_c (by omega), cy_cla, r4, na1]
    -- the reference up to the question
    have ref : ∀ (post' : Int32 → Mm → Prop), (∀ N', N' = ky_up N 0 0 0 → ((¬ nI (dt_na N c) = (2 : Int32) → ∀ M3, (∀ M1 M2, M1 = ky_up N' 9 (2 * c + dt_na N c) v → M2 = ky_up M1 10 (2 * (2 * c + dt_na N c)) x → M3 = ky_up M2 10 (2 * (2 * c + dt_na N c) + 1) (li_y N v y) → ∀ M4, M4 = ky_up M3 8 c (nI (dt_na N c + 1)) → w_X7_made (md_Y ad') M4 0 (nI (dt_na N c + 1) - 1) post')) ∧ (nI (dt_na N c) = (2 : Int32) → w_X7_atom_B58 (md_Y ad') post' 0 N'))) → w_X7_atom_B24 (md_Y ad') post' 0 v x y 0 0 N := fun post' hp => by
      refine ⟨md_k0, fun N' e0 => ⟨md_k0, fun _ => ⟨fun h9 => absurd (by rw [ky_up_o e0 (by decide), hw.2.1] at h9; exact h9) h0, fun _ => ⟨md_k8, ?_⟩⟩, fun h9 => absurd (by rw [ky_up_f e0]; decide) h9⟩⟩
      have n8 : N' 8 c = nI (dt_na N c) := by rw [e0, ky_up_ne (by decide)]; exact na1
      rw [ky_up_o e0 (by decide), hw.2.1, hc, in_sub1 (by omega), md_r10, in_c (by omega), n8]
      refine ⟨vp_in_nI (N := 12) (by omega) (by decide), fun h9 x12 hx12 => ?_, fun h9 => (hp N' e0).2 h9⟩
      have hlt2 : dt_na N c < 2 := by
        rcases Nat.lt_or_ge (dt_na N c) 2 with h8 | h8
        · exact h8
        · exact absurd (by rw [show dt_na N c = 2 by omega]; rfl) h9
      subst hx12
      rw [in_c (by omega), n8, in_mul2, nI_add]
      refine ⟨vp_in_nI (N := 12) (by omega) (by decide), fun x14 hx14 => ?_⟩
      subst hx14
      refine ⟨md_k9, vp_in_nI (N := 24) (by omega) (by decide), fun M1 f1 => ⟨md_k10, by rw [in_mul2]; exact vp_in_nI (N := 48) (by omega) (by decide), fun M2 f2 => ⟨md_k1, by rw [ev]; exact vp_in_nI (N := 4) (by omega) (by decide), ?_⟩⟩⟩
      rw [md_r11, in_c (by omega)] at f1
      rw [md_r12, in_mul2, in_c (by omega)] at f2
      have ec : v.toNatClampNeg = r := by rw [ev]; exact in_c (by omega)
      have er : nu v = r := by rw [ev]; exact nu_n (by omega)
      have p1 : M2 1 r = N 1 r := by rw [f2, ky_up_ne (by decide), f1, ky_up_ne (by decide), e0, ky_up_ne (by decide)]
      have b129 : ∀ t, t = li_y N v y → w_X7_atom_B129 (md_Y ad') post' 0 (nI c) t (2 * nI (2 * c + dt_na N c) + 1) (ky_rp (md_Y ad') 0 12) M2 := fun t ht => by
        rw [in_mul2, in_s]
        refine ⟨md_k10, vp_in_nI (N := 48) (by omega) (by decide), fun M3 f3 => ?_⟩
        rw [md_r12, in_c (by omega), ht] at f3
        have k8 : M3 8 c = nI (dt_na N c) := by rw [f3, ky_up_ne (by decide), f2, ky_up_ne (by decide), f1, ky_up_ne (by decide)]; exact n8
        refine ⟨md_k0, md_k8, vp_in_nI (N := 12) (by omega) (by decide), fun M4 f4 => ?_⟩
        rw [md_r10, in_c (by omega), k8, in_s] at f4
        rw [md_r10, in_c (by omega), ky_up_f f4]
        exact (hp N' e0).1 h9 M3 M1 M2 f1 f2 f3 M4 f4
      rw [md_r2, ec, p1]
      refine ⟨fun hp9 => b129 y ?_, fun hp9 => b129 0 ?_⟩
      · unfold li_y; rw [if_neg hne1, er, if_neg hp9]
      · unfold li_y; rw [if_neg hne1, er, if_pos hp9]
    refine ⟨cy_kc (by omega), fun h2 q7 hq7 => ?_, fun h2 => hx2 I (fun post' hp => yes post' (ref post' (fun N' e0 => ⟨fun h9 => absurd h2 h9, fun _ => fails post' hp N' e0⟩)))⟩
    subst hq7
    have hlt2 : dt_na N c < 2 := by
      rcases Nat.lt_or_ge (dt_na N c) 2 with h8 | h8
      · exact h8
      · exact absurd (by rw [show dt_na N c = 2 by omega]; rfl) h2
    obtain ⟨kb1, kb2⟩ := cy_kb (ad := ad) (c := c) (by omega)
    rw [cy_rc1 (by omega), r4, na1, kb2, in_c (by omega), cy_rb (by omega)]
    refine ⟨cy_kc (by omega), kb1, vp_in_nI (by omega) (by decide), p_fill hw hs.1 (cy_ka (by omega) hlt2) (by omega) hv' (fun J1 j1 jh J2 e2 => ?_)⟩
    rw [j1 _ (by omega), r4, na1, in_s] at e2
    rw [ex] at jh
    have ja : ∀ a, a ≠ 169 + 7 * c → a ≠ 174 + 7 * c + dt_na N c → J2 a = I a := fun a a0 a1 => by rw [e2, ky_up_ne a0]; exact j1 a a1
    have jc : J2 (174 + 7 * c + dt_na N c) = upd (upd (upd (I (174 + 7 * c + dt_na N c)) 0 v) 1 x) 2 (li_y N v y) := by rw [e2, ky_up_ne (by omega)]; exact jh
    have j92 : J2 (169 + 7 * c) 2 = nI (dt_na N c + 1) := ky_up_f e2
    have j9o : ∀ j, j ≠ 2 → J2 (169 + 7 * c) j = I (169 + 7 * c) j := fun j hj => by rw [ky_up_o e2 hj, j1 _ (by omega)]
    have key : ∀ M : Mm, M 9 = upd (N 9) (2 * c + dt_na N c) v → M 10 = upd (upd (N 10) (2 * (2 * c + dt_na N c)) x) (2 * (2 * c + dt_na N c) + 1) (li_y N v y) → M 8 = upd (N 8) c (nI (dt_na N c + 1)) → (∀ a, a ≠ 0 → a ≠ 8 → a ≠ 9 → a ≠ 10 → M a = N a) → (∀ j, j ≠ 0 → M 0 j = N 0 j) → Rs J2 M := fun M m9 m10 m8 mo m0o => by
      have mr : ∀ a, a ≠ 0 → a < 6 → M a = N a := fun a a0 a1 => mo a a0 (by omega) (by omega) (by omega)
      have m01 := m0o 1 (by decide)
      have nr' : dt_nr M = dt_nr N := by unfold dt_nr; rw [m01]
      have nc' : dt_nc M = dt_nc N := by unfold dt_nc; rw [m0o 7 (by decide)]
      have o6 : ∀ c', M 6 c' = N 6 c' := fun c' => by rw [mo 6 (by decide) (by decide) (by decide) (by decide)]
      have o7 : ∀ c' q, q < 2 → M 7 (2 * c' + q) = N 7 (2 * c' + q) := fun c' q _ => by rw [mo 7 (by decide) (by decide) (by decide) (by decide)]
      have o8 : ∀ c', c' ≠ c → M 8 c' = N 8 c' := fun c' hc' => by rw [m8]; unfold upd; rw [if_neg hc']
      have o11 : ∀ c', M 11 c' = N 11 c' := fun c' => by rw [mo 11 (by decide) (by decide) (by decide) (by decide)]
      have oa : ∀ c' a, a < 2 → (c' ≠ c ∨ a ≠ dt_na N c) → M 9 (2 * c' + a) = N 9 (2 * c' + a) ∧ ∀ q, q < 2 → M 10 (2 * (2 * c' + a) + q) = N 10 (2 * (2 * c' + a) + q) := fun c' a ha hne => by
        rw [m9, m10]
        unfold upd
        rw [if_neg (by omega)]
        exact ⟨rfl, fun q hq => by rw [if_neg (by omega), if_neg (by omega)]⟩
      have ob : ∀ c' j, M 12 (8 * c' + j) = N 12 (8 * c' + j) ∧ M 13 (8 * c' + j) = N 13 (8 * c' + j) ∧ M 14 (8 * c' + j) = N 14 (8 * c' + j) := fun c' j => by rw [mo 12 (by decide) (by decide) (by decide) (by decide), mo 13 (by decide) (by decide) (by decide) (by decide), mo 14 (by decide) (by decide) (by decide) (by decide)]; exact ⟨rfl, rfl, rfl⟩
      have na' : dt_na M c = dt_na N c + 1 := by show nu (M 8 c) = _; rw [m8]; unfold upd; rw [if_pos rfl]; exact nu_n (by omega)
      have x9 : M 9 (2 * c + dt_na N c) = v := by rw [m9]; unfold upd; rw [if_pos rfl]
      have x0 : M 10 (2 * (2 * c + dt_na N c)) = x := by rw [m10]; unfold upd; rw [if_neg (by omega), if_pos rfl]
      have x1 : M 10 (2 * (2 * c + dt_na N c) + 1) = li_y N v y := by rw [m10]; unfold upd; rw [if_pos rfl]
      refine ⟨⟨dt_w1_congr m01 mr hw.1, by rw [nc', m0o 7 (by decide)]; exact hw.2.1, by omega, fun c' hc' => ?_⟩, ⟨rl_r_congr (fun a a1 a2 => ja a (by omega) (by omega)) (by rw [ja 0 (by omega) (by omega)]) m01 hr4 mr hs.1, by rw [ja 0 (by omega) (by omega), m0o 7 (by decide)]; exact hs.2.1, fun c' hc' => ?_, fun c' hc1 hc2 => ?_⟩, fun r m h1 h2 h3 => ?_, ?_⟩
      · rw [nc'] at hc'
        by_cases e : c' = c
        · subst e
          obtain ⟨d1, d2, d3, d4, d5, d6, d7, d8⟩ := hw.2.2.2 c' hc'
          have enb : dt_nb M c' = dt_nb N c' := by unfold dt_nb; rw [o11]
          refine ⟨?_, fun q hq => ?_, by rw [na', m8]; unfold upd; rw [if_pos rfl], by omega, fun a ha => ?_, by rw [enb, o11]; exact d6, by rw [enb]; exact d7, fun j hj => ?_⟩
          · unfold dt_hr; rw [o6, nr']; exact d1
          · unfold dt_hv; rw [o7 c' q hq]; exact d2 q hq
          · rw [na'] at ha
            unfold dt_ar dt_av
            by_cases ea : a = dt_na N c'
            · rw [ea, x9, nr']
              refine ⟨by rw [ev, nu_n (by omega)], by rw [ev, nu_n (by omega)]; exact hr, fun q hq => ?_⟩
              rcases (show q = 0 ∨ q = 1 by omega) with rfl | rfl
              · rw [Nat.add_zero, x0]; exact li_v_n hxy.1
              · rw [x1]; exact li_v_n hxy.2
            · obtain ⟨g1, g2⟩ := oa c' a (by omega) (Or.inr ea)
              rw [g1, nr']
              refine ⟨(d5 a (by omega)).1, (d5 a (by omega)).2.1, fun q hq => ?_⟩
              rw [g2 q hq]
              exact (d5 a (by omega)).2.2 q hq
          · rw [enb] at hj
            obtain ⟨g1, g2, g3⟩ := ob c' j
            rw [g1, g2, g3]
            exact d8 j hj
        · exact dt_cl_congr (by omega) (o6 c') (o7 c') (o8 c' e) (fun a ha => oa c' a (by have := (hw.2.2.2 c' hc').2.2.2.1; omega) (Or.inl e)) (o11 c') (fun j _ => ob c' j) (hw.2.2.2 c' hc')
      · rw [nc'] at hc'
        by_cases e : c' = c
        · subst e
          refine ⟨by rw [ja _ (by omega) (by omega), o6]; exact r1, by rw [ja _ (by omega) (by omega), mo 7 (by decide) (by decide) (by decide) (by decide)]; exact r2, by rw [ja _ (by omega) (by omega), mo 7 (by decide) (by decide) (by decide) (by decide)]; exact r3, by rw [j92, m8]; unfold upd; rw [if_pos rfl], by rw [j9o 4 (by decide), o11]; exact r5, fun a ha => ?_, by rw [dt_be_congr (o11 c') (fun j _ => ob c' j)]; exact cl_S_keep (ja _ (by omega) (by omega)) (ja _ (by omega) (by omega)) r7⟩
          rw [na'] at ha
          by_cases ea : a = dt_na N c'
          · rw [ea, jc, x9, x0, x1]
            exact ⟨rfl, rfl, rfl⟩
          · obtain ⟨g1, g2⟩ := oa c' a (by omega) (Or.inr ea)
            have g3 := g2 0 (by decide)
            rw [Nat.add_zero] at g3
            rw [ja _ (by omega) (by omega), g1, g3, g2 1 (by decide)]
            exact r6 a (by omega)
        · have := (hw.2.2.2 c' hc').2.2.2.1
          exact rl_1_congr (fun a a1 a2 => ja a (by omega) (by omega)) (o6 c') (o7 c') (o8 c' e) this (fun a ha => oa c' a (by omega) (Or.inl e)) (o11 c') (fun j _ => ob c' j) (hs.2.2.1 c' hc')
      · rw [nc'] at hc1
        obtain ⟨g1, g2, g3⟩ := hs.2.2.2 c' hc1 hc2
        exact ⟨by rw [ja _ (by omega) (by omega)]; exact g1, by rw [ja _ (by omega) (by omega)]; exact g2, cl_S_keep (ja _ (by omega) (by omega)) (ja _ (by omega) (by omega)) g3⟩
      · rw [nr'] at h1
        rw [ja _ (by omega) (by omega)]
        exact h.Rs.2.2.1 r m h1 h2 h3
      · rw [ja 0 (by omega) (by omega), m0o 24 (by decide)]
        exact h.Rs.2.2.2
    refine p_fresh (n := dt_nr N) hr4 (by rw [ja 0 (by omega) (by omega), hs.1.1]; exact hw.1.1) (fun r m h1 h2 h3 => by rw [ja _ (by omega) (by omega)]; exact h.Rs.2.2.1 r m h1 h2 h3) (fun J3 hJ3 => ?_)
    rw [hJ3.1 (169 + 7 * c) (by omega) (by omega) (fun r hr => by omega), j92]
    refine hk _ J3 (fun post' hp => yes post' (ref post' (fun N' e0 => ⟨fun _ M3 M1 M2 f1 f2 f3 M4 f4 => ?_, fun h9 => absurd h9 h2⟩)))
    refine m_made (key M4 ?_ ?_ ?_ ?_ ?_) hJ3 (fun M hM h0 => hp M hM ?_)
    · rw [f4, ky_up_ne (by decide), f3, ky_up_ne (by decide), f2, ky_up_ne (by decide), f1, ky_up_eq, e0, ky_up_ne (by decide)]
    · rw [f4, ky_up_ne (by decide), f3, ky_up_eq, f2, ky_up_eq, f1, ky_up_ne (by decide), e0, ky_up_ne (by decide)]
    · rw [f4, ky_up_eq, f3, ky_up_ne (by decide), f2, ky_up_ne (by decide), f1, ky_up_ne (by decide), e0, ky_up_ne (by decide)]
    · intro a a0 a8 a9 a10
      rw [f4, ky_up_ne a8, f3, ky_up_ne a10, f2, ky_up_ne a10, f1, ky_up_ne a9, e0, ky_up_ne a0]
    · intro j j0
      rw [f4, ky_up_ne (by decide), f3, ky_up_ne (by decide), f2, ky_up_ne (by decide), f1, ky_up_ne (by decide), ky_up_o e0 j0]
    · rw [h0, f4, ky_up_ne (by decide), f3, ky_up_ne (by decide), f2, ky_up_ne (by decide), f1, ky_up_ne (by decide)]
      exact ky_up_f e0
  · have bad : w_X7_atom_B24 (md_Y ad') post' 0 v x y 1 0 N := ⟨md_k0, fun N' e0 => ⟨md_k0, fun h9 => absurd (by rw [ky_up_f e0] at h9; exact h9) (by decide), fun _ => hp N' 0 (h.fn (fn_F.code e0)) (ky_up_f e0)⟩⟩
    refine ⟨md_k0, m_isRelation hw (fun r hr e => ⟨fun h9 => absurd h9 (by decide), fun _ => ?_⟩) (fun _ => ⟨fun _ => bad, fun h9 => absurd rfl h9⟩)⟩
    subst e
    exact m_areVariables hw hr (fun h9 => absurd h9 hl) (fun _ => ⟨fun _ => bad, fun h9 => absurd rfl h9⟩)
