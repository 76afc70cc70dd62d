/-! CALLS: clause, atom, bound -/
theorem in_12 {n : Nat} (h : n ≤ 12) (h9 : ¬ nI n = (12 : Int32)) : n < 12 := by
  rcases Nat.lt_or_ge n 12 with h8 | h8
  · exact h8
  · exact absurd (by rw [show n = 12 by omega]; rfl) h9
set_option maxHeartbeats 2000000 in
theorem sm_clause {ad ad' : Nat → Nat} {b : Nat} {I N : Mm} (h : Rl b I N) {v x y : Int32} {post : Int32 → Mm → Prop} {xp : String → Mm → Prop} (hk : ∀ (r : Int32) (J : Mm), sm_R b 0 J r (w_X7_clause (md_Y ad') N 0 v x y) → post r J) (hx1 : ∀ J, sm_X b 1 J (w_X7_clause (md_Y ad') N 0 v x y) → xp "java/lang/IllegalArgumentException" J) (hx2 : ∀ J, sm_X b 2 J (w_X7_clause (md_Y ad') N 0 v x y) → xp "java/lang/IllegalStateException" J) : w_X6_clause (cl_Y ad) I 0 v x y post xp := by
  obtain ⟨hw, hs, hu⟩ := id h
  have hr4 := hw.1.2.1
  have h12 := hw.2.2.1
  have good : (v = -1 ∨ li_ok N v x y) → w_X6_clause_B25 (cl_Y ad) post xp 0 v x y I := fun hv => by
    have yes : ∀ (post' : Int32 → Mm → Prop), w_X7_clause_B29 (md_Y ad') post' 0 v x y 0 0 N → w_X7_clause (md_Y ad') N 0 v x y post' := fun post' hp => by
      refine ⟨fun _ => hp, fun h1 => ⟨md_k0, m_isRelation hw (fun r hr e => ⟨fun h9 => absurd h9 (by decide), fun _ => ?_⟩) (fun h9 => ?_)⟩⟩
      · subst e
        exact m_areVariables hw hr (fun _ => ⟨fun h9 => absurd h9 (by decide), fun _ => hp⟩) (fun h9 => absurd (hv.resolve_left h1) h9)
      · obtain ⟨r, hr, e, _⟩ := hv.resolve_left h1
        exact absurd ⟨r, hr, e⟩ h9
    have hv' : v = -1 ∨ ∃ r, r < dt_nr N ∧ v = nI r := hv.imp id (fun ⟨r, a, b, _⟩ => ⟨r, a, b⟩)
    have hxy : li_v (li_x v x) ∧ li_v (li_y N v y) := by
      rcases hv with e | e
      · unfold li_x li_y
        rw [if_pos e, if_pos e]
        exact ⟨⟨by decide, by decide⟩, ⟨by decide, by decide⟩⟩
      · exact e.xy hw
    refine ⟨cy_0, ?_⟩
    rw [hs.2.1, hw.2.1]
    refine ⟨fun hne => ?_, fun he => hx2 I (fun post' hp => yes post' ⟨md_k0, fun N' e0 => ⟨md_k0, fun _ => ⟨fun h9 => absurd (by rw [ky_up_o e0 (by decide), hw.2.1]; exact he) h9, fun _ => ⟨md_k0, fun N2 e2 => hp N2 0 ((h.fn (fn_F.code e0)).fn (fn_F.code e2)) (ky_up_f e2)⟩⟩, fun h9 => absurd (by rw [ky_up_f e0]; decide) h9⟩⟩)⟩
    have hlt : dt_nc N < 12 := in_12 h12 hne
    refine ⟨cy_2, vp_in_nI (N := 12) (by omega) (by decide), ?_⟩
    rw [cy_p2, in_c (by omega), cy_cla, cy_rc0 (by omega)]
    refine ⟨cy_kc (by omega), p_fill hw hs.1 (cy_kh (by omega)) (by omega) hv' (fun J1 j1 jh J2 e2 => ?_)⟩
    rw [j1 0 (by omega), hs.2.1, hw.2.1, in_s] at e2
    have ja : ∀ a, a ≠ 0 → a ≠ 170 + 7 * dt_nc N → J2 a = I a := fun a a0 a1 => by rw [e2, ky_up_ne a0]; exact j1 a a1
    have jc : J2 (170 + 7 * dt_nc N) = upd (upd (upd (I (170 + 7 * dt_nc N)) 0 v) 1 (li_x v x)) 2 (li_y N v y) := by rw [e2, ky_up_ne (by omega)]; exact jh
    have j03 : J2 0 3 = nI (dt_nc N + 1) := ky_up_f e2
    have j0o : ∀ j, j ≠ 3 → J2 0 j = I 0 j := fun j hj => by rw [ky_up_o e2 hj, j1 0 (by omega)]
    have key : ∀ M : Mm, M 6 = upd (N 6) (dt_nc N) v → M 7 = upd (upd (N 7) (2 * dt_nc N) (li_x v x)) (2 * dt_nc N + 1) (li_y N v y) → M 8 = upd (N 8) (dt_nc N) 0 → M 11 = upd (N 11) (dt_nc N) 0 → (∀ a, a ≠ 0 → a ≠ 6 → a ≠ 7 → a ≠ 8 → a ≠ 11 → M a = N a) → M 0 7 = nI (dt_nc N + 1) → (∀ j, j ≠ 0 → j ≠ 7 → M 0 j = N 0 j) → Rs J2 M := fun M m6 m7 m8 m11 mo m07 m0o => by
      have mr : ∀ a, a ≠ 0 → a < 6 → M a = N a := fun a a0 a1 => mo a a0 (by omega) (by omega) (by omega) (by omega)
      have m01 := m0o 1 (by decide) (by decide)
      have nr' : dt_nr M = dt_nr N := by unfold dt_nr; rw [m01]
      have nc' : dt_nc M = dt_nc N + 1 := by show nu (M 0 7) = _; rw [m07]; exact nu_n (by omega)
      have o6 : ∀ c, c ≠ dt_nc N → M 6 c = N 6 c := fun c hc => by rw [m6]; unfold upd; rw [if_neg hc]
      have o7 : ∀ c, c ≠ dt_nc N → ∀ q, q < 2 → M 7 (2 * c + q) = N 7 (2 * c + q) := fun c hc q hq => by rw [m7]; unfold upd; rw [if_neg (by omega), if_neg (by omega)]
      have o8 : ∀ c, c ≠ dt_nc N → M 8 c = N 8 c := fun c hc => by rw [m8]; unfold upd; rw [if_neg hc]
      have o11 : ∀ c, c ≠ dt_nc N → M 11 c = N 11 c := fun c hc => by rw [m11]; unfold upd; rw [if_neg hc]
      have oa : ∀ c a, M 9 (2 * c + a) = N 9 (2 * c + a) ∧ ∀ q, q < 2 → M 10 (2 * (2 * c + a) + q) = N 10 (2 * (2 * c + a) + q) := fun c a => by rw [mo 9 (by decide) (by decide) (by decide) (by decide) (by decide), mo 10 (by decide) (by decide) (by decide) (by decide) (by decide)]; exact ⟨rfl, fun _ _ => rfl⟩
      have ob : ∀ c j, M 12 (8 * c + j) = N 12 (8 * c + j) ∧ M 13 (8 * c + j) = N 13 (8 * c + j) ∧ M 14 (8 * c + j) = N 14 (8 * c + j) := fun c j => by rw [mo 12 (by decide) (by decide) (by decide) (by decide) (by decide), mo 13 (by decide) (by decide) (by decide) (by decide) (by decide), mo 14 (by decide) (by decide) (by decide) (by decide) (by decide)]; exact ⟨rfl, rfl, rfl⟩
      have na0 : dt_na M (dt_nc N) = 0 := by unfold dt_na; rw [m8]; unfold upd; rw [if_pos rfl]; rfl
      have nb0 : dt_nb M (dt_nc N) = 0 := by unfold dt_nb; rw [m11]; unfold upd; rw [if_pos rfl]; rfl
      have x0 : M 7 (2 * dt_nc N) = li_x v x := by rw [m7]; unfold upd; rw [if_neg (by omega), if_pos rfl]
      have x1 : M 7 (2 * dt_nc N + 1) = li_y N v y := by rw [m7]; unfold upd; rw [if_pos rfl]
      have v6 : M 6 (dt_nc N) = v := by rw [m6]; unfold upd; rw [if_pos rfl]
      refine ⟨⟨dt_w1_congr m01 mr hw.1, by rw [nc']; exact m07, by omega, fun c hc => ?_⟩, ⟨rl_r_congr (fun a a1 a2 => ja a (by omega) (by omega)) (j0o 1 (by decide)) m01 hr4 mr hs.1, by rw [j03, m07], fun c hc => ?_, fun c hc1 hc2 => ?_⟩, fun r m h1 h2 h3 => ?_, ?_⟩
      · rw [nc'] at hc
        by_cases e : c = dt_nc N
        · subst e
          refine ⟨?_, fun q hq => ?_, by rw [na0, m8]; unfold upd; rw [if_pos rfl]; rfl, by omega, fun a ha => by omega, by rw [nb0, m11]; unfold upd; rw [if_pos rfl]; rfl, by omega, fun j hj => by omega⟩
          · unfold dt_hr
            rw [v6, nr']
            rcases hv' with e | ⟨r, hr, e⟩
            · exact Or.inl e
            · refine Or.inr ?_
              rw [e, nu_n (by omega)]
              exact ⟨rfl, hr⟩
          · unfold dt_hv
            rcases (show q = 0 ∨ q = 1 by omega) with rfl | rfl
            · rw [Nat.add_zero, x0]; exact li_v_n hxy.1
            · rw [x1]; exact li_v_n hxy.2
        · exact dt_cl_congr (by omega) (o6 c e) (o7 c e) (o8 c e) (fun a _ => oa c a) (o11 c e) (fun j _ => ob c j) (hw.2.2.2 c (by omega))
      · rw [nc'] at hc
        by_cases e : c = dt_nc N
        · subst e
          obtain ⟨g1, g2, g3⟩ := hs.2.2.2 _ (Nat.le_refl _) hlt
          refine ⟨?_, ?_, ?_, ?_, ?_, fun a ha => by omega, ?_⟩
          · rw [jc, v6]; rfl
          · rw [jc, x0]; rfl
          · rw [jc, x1]; rfl
          · rw [ja _ (by omega) (by omega), g1, m8]; unfold upd; rw [if_pos rfl]
          · rw [ja _ (by omega) (by omega), g2, m11]; unfold upd; rw [if_pos rfl]
          · have : dt_bE M (dt_nc N) 0 5 = [] := by unfold dt_bE; rw [nb0]; rfl
            rw [this]
            exact cl_S_keep (ja _ (by omega) (by omega)) (ja _ (by omega) (by omega)) g3
        · exact rl_1_congr (fun a a1 a2 => ja a (by omega) (by omega)) (o6 c e) (o7 c e) (o8 c e) (hw.2.2.2 c (by omega)).2.2.2.1 (fun a _ => oa c a) (o11 c e) (fun j _ => ob c j) (hs.2.2.1 c (by omega))
      · rw [nc'] at hc1
        obtain ⟨g1, g2, g3⟩ := hs.2.2.2 c (by omega) hc2
        exact ⟨by rw [ja _ (by omega) (by omega)]; exact g1, by rw [ja _ (by omega) (by omega)]; exact g2, cl_S_keep (ja _ (by omega) (by omega)) (ja _ (by omega) (by omega)) g3⟩
      · rw [nr'] at h1
        rw [ja _ (by omega) (by omega)]
        exact h.Rs.2.2.1 r m h1 h2 h3
      · rw [j0o 8 (by decide), m0o 24 (by decide) (by decide)]
        exact h.Rs.2.2.2
    refine p_fresh (n := dt_nr N) hr4 (by rw [j0o 1 (by decide), hs.1.1]; exact hw.1.1) (fun r m h1 h2 h3 => by rw [ja _ (by omega) (by omega)]; exact h.Rs.2.2.1 r m h1 h2 h3) (fun J3 hJ3 => ?_)
    rw [hJ3.2.2.1 3 (by decide) (by decide) (by decide), j03]
    refine hk _ J3 (fun post' hp => yes post' ⟨md_k0, fun N' e0 => ⟨md_k0, fun _ => ⟨fun _ => ⟨md_k6, ?_⟩, fun h9 => absurd (by rw [ky_up_o e0 (by decide), hw.2.1] at h9; exact h9) hne⟩, fun h9 => absurd (by rw [ky_up_f e0]; decide) h9⟩⟩)
    have n07 : N' 0 7 = nI (dt_nc N) := by rw [ky_up_o e0 (by decide)]; exact hw.2.1
    rw [n07, md_r8, in_c (by omega)]
    refine ⟨vp_in_nI (N := 12) (by omega) (by decide), fun M1 f1 => ?_⟩
    have k07 : M1 0 7 = nI (dt_nc N) := by rw [f1, ky_up_ne (by decide)]; exact n07
    have b117 : ∀ (M2 : Mm) (t : Int32), M2 = ky_up M1 7 (2 * dt_nc N) (li_x v x) → t = li_y N v y → w_X7_clause_B117 (md_Y ad') post' 0 t (2 * (M2 0 7) + 1) (ky_rp (md_Y ad') 0 9) M2 := fun M2 t f2 ht => by
      have k2 : M2 0 7 = nI (dt_nc N) := by rw [f2, ky_up_ne (by decide)]; exact k07
      rw [k2, in_mul2, in_s]
      refine ⟨md_k7, vp_in_nI (N := 24) (by omega) (by decide), fun M3 f3 => ?_⟩
      rw [md_r9, in_c (by omega)] at f3
      have k3 : M3 0 7 = nI (dt_nc N) := by rw [f3, ky_up_ne (by decide)]; exact k2
      refine ⟨md_k0, md_k8, by rw [k3]; exact vp_in_nI (N := 12) (by omega) (by decide), fun M4 f4 => ?_⟩
      rw [md_r10, k3, in_c (by omega)] at f4
      have k4 : M4 0 7 = nI (dt_nc N) := by rw [f4, ky_up_ne (by decide)]; exact k3
      refine ⟨md_k11, by rw [k4]; exact vp_in_nI (N := 12) (by omega) (by decide), fun M5 f5 M6 f6 => ?_⟩
      rw [md_r13, k4, in_c (by omega)] at f5
      have k5 : M5 0 7 = nI (dt_nc N) := by rw [f5, ky_up_ne (by decide)]; exact k4
      rw [k5, in_s] at f6
      rw [ky_up_f f6]
      refine m_made (key M6 ?_ ?_ ?_ ?_ ?_ (ky_up_f f6) ?_) hJ3 (fun M hM h0 => hp M hM ?_)
      · rw [f6, ky_up_ne (by decide), f5, ky_up_ne (by decide), f4, ky_up_ne (by decide), f3, ky_up_ne (by decide), f2, ky_up_ne (by decide), f1, ky_up_eq, e0, ky_up_ne (by decide)]
      · rw [f6, ky_up_ne (by decide), f5, ky_up_ne (by decide), f4, ky_up_ne (by decide), f3, ky_up_eq, f2, ky_up_eq, f1, ky_up_ne (by decide), e0, ky_up_ne (by decide), ht]
      · rw [f6, ky_up_ne (by decide), f5, ky_up_ne (by decide), f4, ky_up_eq, f3, ky_up_ne (by decide), f2, ky_up_ne (by decide), f1, ky_up_ne (by decide), e0, ky_up_ne (by decide)]
      · rw [f6, ky_up_ne (by decide), f5, ky_up_eq, f4, ky_up_ne (by decide), f3, ky_up_ne (by decide), f2, ky_up_ne (by decide), f1, ky_up_ne (by decide), e0, ky_up_ne (by decide)]
      · intro a a0 a6 a7 a8 a11
        rw [f6, ky_up_ne a0, f5, ky_up_ne a11, f4, ky_up_ne a8, f3, ky_up_ne a7, f2, ky_up_ne a7, f1, ky_up_ne a6, e0, ky_up_ne a0]
      · intro j j0 j7
        rw [ky_up_o f6 j7, f5, ky_up_ne (by decide), f4, ky_up_ne (by decide), f3, ky_up_ne (by decide), f2, ky_up_ne (by decide), f1, ky_up_ne (by decide), ky_up_o e0 j0]
      · rw [h0, ky_up_o f6 (by decide), f5, ky_up_ne (by decide), f4, ky_up_ne (by decide), f3, ky_up_ne (by decide), f2, ky_up_ne (by decide), f1, ky_up_ne (by decide)]
        exact ky_up_f e0
    have b85 : ∀ s, s = li_x v x → w_X7_clause_B85 (md_Y ad') post' 0 v y s (2 * (M1 0 7)) (ky_rp (md_Y ad') 0 9) M1 := fun s hs9 => by
      rw [k07, in_mul2]
      refine ⟨md_k7, vp_in_nI (N := 24) (by omega) (by decide), fun M2 f2 => ?_⟩
      rw [md_r9, in_c (by omega), hs9] at f2
      refine ⟨md_k0, fun hlt9 => b117 M2 0 f2 ?_, fun hge => ?_⟩
      · rcases hv' with e | ⟨r, hr, e⟩
        · unfold li_y; rw [if_pos e]
        · rw [e, in_lt, in_n (by omega), in_0] at hlt9
          omega
      · rcases hv' with e | ⟨r, hr, e⟩
        · rw [e] at hge; exact absurd (by decide) hge
        · have hne9 : ¬ v = -1 := by rw [e]; exact in_ne1 (by omega)
          have p1 : M2 1 r = N 1 r := by rw [f2, ky_up_ne (by decide), f1, ky_up_ne (by decide), e0, ky_up_ne (by decide)]
          rw [md_r2]
          have ec : v.toNatClampNeg = r := by rw [e]; exact in_c (by omega)
          rw [ec, p1]
          have er : nu v = r := by rw [e]; exact nu_n (by omega)
          refine ⟨md_k1, by rw [e]; exact vp_in_nI (N := 4) (by omega) (by decide), fun hp9 => b117 M2 y f2 ?_, fun hp9 => b117 M2 0 f2 ?_⟩
          · unfold li_y; rw [if_neg hne9, er, if_neg hp9]
          · unfold li_y; rw [if_neg hne9, er, if_pos hp9]
    refine ⟨fun h9 => b85 x ?_, fun h9 => b85 0 ?_⟩
    · unfold li_x
      rw [if_neg (fun e => by rw [e] at h9; exact absurd h9 (by decide))]
    · unfold li_x
      rcases hv' with e | ⟨r, hr, e⟩
      · rw [if_pos e]
      · exfalso
        rw [e, in_le, in_n (by omega), in_0] at h9
        omega
  refine ⟨fun h1 => good (Or.inl h1), fun h1 => ⟨cy_0, p_isLiteral hw hs.1 (fun hl => ⟨fun _ => good (Or.inr hl), fun h9 => absurd h9 (by decide)⟩) (fun hl => ⟨fun h9 => absurd rfl h9, fun _ => hx1 I (fun post' hp => ⟨fun h9 => absurd h9 h1, fun _ => ?_⟩)⟩)⟩⟩
  have bad : w_X7_clause_B29 (md_Y ad') post' 0 v x y 1 0 N := ⟨md_k0, fun N' e0 => ⟨md_k0, fun h9 => absurd (by rw [ky_up_f e0] at h9; exact h9) (by decide), fun _ => hp N' 0 (h.fn (fn_F.code e0)) (ky_up_f e0)⟩⟩
  refine ⟨md_k0, m_isRelation hw (fun r hr e => ⟨fun h9 => absurd h9 (by decide), fun _ => ?_⟩) (fun _ => ⟨fun _ => bad, fun h9 => absurd rfl h9⟩)⟩
  subst e
  exact m_areVariables hw hr (fun h9 => absurd h9 hl) (fun _ => ⟨fun _ => bad, fun h9 => absurd rfl h9⟩)
