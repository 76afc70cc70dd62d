/-! CALLS: start, relation, mark -/
theorem ky_up_f {N J : Mm} {k j : Nat} {v : Int32} (h : J = ky_up N k j v) : J k j = v := by rw [h, ky_up_eq]; unfold upd; rw [if_pos rfl]
theorem ky_up_o {N J : Mm} {k j i : Nat} {v : Int32} (h : J = ky_up N k j v) (hi : i ≠ j) : J k i = N k i := by rw [h, ky_up_eq]; unfold upd; rw [if_neg hi]
theorem sm_start {ad ad' : Nat → Nat} {b : Nat} {I N : Mm} (h : Rl b I N) {post : Mm → Prop} (hk : ∀ J : Mm, (∀ post' : Mm → Prop, (∀ M, Rl b J M → post' M) → w_X7_start (md_Y ad') N 0 post') → post J) : w_X6_start (cl_Y ad) I 0 post :=
  ⟨cy_0, h.Rs.fresh (fun J hJ => hk J (fun post' hp => ⟨md_k0, fun N' hN' => m_made (h.fn (fn_F.code hN')).Rs hJ (fun M hM _ => hp M hM)⟩))⟩
set_option maxHeartbeats 2000000 in
theorem sm_relation {ad ad' : Nat → Nat} {b : Nat} {I N : Mm} (h : Rl b I N) {v : Int32} {post : Int32 → Mm → Prop} {xp : String → Mm → Prop} (hk : ∀ (r : Int32) (J : Mm), sm_R b 0 J r (w_X7_relation (md_Y ad') N 0 v) → post r J) (hx1 : ∀ J, sm_X b 1 J (w_X7_relation (md_Y ad') N 0 v) → xp "java/lang/IllegalArgumentException" J) (hx2 : ∀ J, sm_X b 2 J (w_X7_relation (md_Y ad') N 0 v) → xp "java/lang/IllegalStateException" J) : w_X6_relation (cl_Y ad) I 0 v post xp := by
  obtain ⟨hw, hs, hu⟩ := id h
  have hr4 := hw.1.2.1
  have fail : ∀ (c : Int32), c = 1 ∨ c = 2 → ∀ (post' : Int32 → Mm → Prop), (∀ (M : Mm) (r : Int32), Rl b I M → M 0 0 = c → post' r M) → w_X7_relation_B27 (md_Y ad') post' 0 v c 0 N := fun c hc post' hp => by
    refine ⟨md_k0, fun N' hN' => ⟨md_k0, fun h9 => ?_, fun _ => hp N' 0 (h.fn (fn_F.code hN')) (ky_up_f hN')⟩⟩
    rw [ky_up_f hN'] at h9
    rcases hc with rfl | rfl <;> exact absurd h9 (by decide)
  have good : v = nI 1 ∨ v = nI 2 → w_X6_relation_B20 (cl_Y ad) post xp 0 v I := fun hv => by
    have hin : ∀ (p : Int32 → Mm → Prop), p 1 N → w_X7_in (md_Y ad') N v 1 2 p := fun p hp => m_in (fun _ _ => hp) (fun h9 => absurd (by rw [in_1, in_2]; rcases hv with rfl | rfl <;> decide) h9)
    refine ⟨cy_0, ?_⟩
    rw [hs.1.1, hw.1.1]
    refine ⟨fun h4 => ?_, fun h4 => hx2 I (fun post' hp => hin _ ⟨fun _ => ⟨md_k0, fun h9 => absurd (hw.1.1.trans h4) h9, fun _ => fail 2 (Or.inr rfl) post' hp⟩, fun h9 => absurd h9 (by decide)⟩)⟩
    have hlt : dt_nr N < 4 := by
      rcases Nat.lt_or_ge (dt_nr N) 4 with h9 | h9
      · exact h9
      · exact absurd (by rw [show dt_nr N = 4 by omega]; rfl) h4
    refine ⟨cy_1, vp_in_nI (N := 4) (by omega) (by decide), ?_⟩
    rw [cy_p0, in_c (by omega), cy_rel]
    refine ⟨cy_kr (by omega), fun J1 j1 J2 j2 => ?_⟩
    have e01 : J1 0 1 = nI (dt_nr N) := by rw [j1, ky_up_ne (by omega), hs.1.1]; exact hw.1.1
    rw [e01, in_s] at j2
    have ja : ∀ a, a ≠ 0 → a ≠ 137 + 8 * dt_nr N → J2 a = I a := fun a a0 a1 => by rw [j2, ky_up_ne a0, j1, ky_up_ne a1]
    have jr : J2 (137 + 8 * dt_nr N) = upd (I (137 + 8 * dt_nr N)) 0 v := by rw [j2, ky_up_ne (by omega), j1, ky_up_eq]
    have j01 : J2 0 1 = nI (dt_nr N + 1) := ky_up_f j2
    have j0o : ∀ j, j ≠ 1 → J2 0 j = I 0 j := fun j hj => by rw [ky_up_o j2 hj, j1, ky_up_ne (by omega)]
    -- the reference's memory after
    have key : ∀ (N' M1 M2 : Mm), N' = ky_up N 0 0 0 → M1 = ky_up N' 1 (dt_nr N) v → M2 = ky_up M1 0 1 (nI (dt_nr N + 1)) → Rs J2 M2 := fun N' M1 M2 e0 e1 e2 => by
      have ma : ∀ a, a ≠ 0 → a ≠ 1 → M2 a = N a := fun a a0 a1 => by rw [e2, ky_up_ne a0, e1, ky_up_ne a1, e0, ky_up_ne a0]
      have m1 : M2 1 = upd (N 1) (dt_nr N) v := by rw [e2, ky_up_ne (by decide), e1, ky_up_eq, e0, ky_up_ne (by decide)]
      have m01 : M2 0 1 = nI (dt_nr N + 1) := ky_up_f e2
      have m0o : ∀ j, j ≠ 0 → j ≠ 1 → M2 0 j = N 0 j := fun j j0 j1 => by rw [ky_up_o e2 j1, e1, ky_up_ne (by decide), ky_up_o e0 j0]
      have nr' : dt_nr M2 = dt_nr N + 1 := by unfold dt_nr; rw [m01]; exact nu_n (by have : dt_nr N = nu (N 0 1) := rfl; omega)
      have pl' : ∀ r, r < dt_nr N → dt_pl M2 r = dt_pl N r := fun r hr => by unfold dt_pl; rw [m1]; unfold upd; rw [if_neg (by omega)]
      have nm' : dt_nm M2 = dt_nm N := by funext x; unfold dt_nm; rw [ma 2 (by decide) (by decide)]
      obtain ⟨w1, w2, w3, w4, w5⟩ := id hw.1
      refine ⟨⟨⟨by rw [nr']; exact m01, by omega, fun r hr => ?_, fun r hr => ?_, fun r k hr hk => ?_⟩, ?_⟩, ⟨⟨by rw [j01, m01], fun r hr => ?_, fun r hr => ?_, fun r k hr hk => ?_⟩, ?_⟩, fun r m h1 h2 h3 => ?_, ?_⟩
      · rw [nr'] at hr
        by_cases e : r = dt_nr N
        · have : M2 1 r = v := by rw [m1]; unfold upd; rw [if_pos e]
          unfold dt_pl
          rw [this]
          rcases hv with rfl | rfl
          · exact ⟨rfl, Or.inl rfl⟩
          · exact ⟨rfl, Or.inr rfl⟩
        · rw [pl' r (by omega), m1]
          unfold upd
          rw [if_neg e]
          exact w3 r (by omega)
      · rw [nm', nr', ma 2 (by decide) (by decide)]
        obtain ⟨a1, a2, a3⟩ := w4 r hr
        exact ⟨a1, a2, fun h9 => a3 (by omega)⟩
      · rw [nr'] at hr
        rw [nm'] at hk
        have hrn : r < dt_nr N := by
          rcases Nat.lt_or_ge r (dt_nr N) with h9 | h9
          · exact h9
          · have := (w4 r (by omega)).2.2 h9
            omega
        rw [pl' r hrn, ma 3 (by decide) (by decide), ma 4 (by decide) (by decide), ma 5 (by decide) (by decide)]
        exact w5 r k hrn hk
      · have w2' := hw.2
        have e7 : M2 0 7 = N 0 7 := m0o 7 (by decide) (by decide)
        refine ⟨by unfold dt_nc; rw [e7]; exact w2'.1, by unfold dt_nc; rw [e7]; exact w2'.2.1, fun c hc => ?_⟩
        have hc' : c < dt_nc N := by unfold dt_nc at hc; rw [e7] at hc; exact hc
        obtain ⟨c1, c2, c3, c4, c5, c6⟩ := w2'.2.2 c hc'
        unfold dt_cl
        rw [nr']
        unfold dt_hr dt_hv dt_na dt_ar dt_av dt_nb at *
        rw [ma 6 (by decide) (by decide), ma 7 (by decide) (by decide), ma 8 (by decide) (by decide), ma 9 (by decide) (by decide), ma 10 (by decide) (by decide), ma 11 (by decide) (by decide), ma 12 (by decide) (by decide), ma 13 (by decide) (by decide), ma 14 (by decide) (by decide)]
        exact ⟨c1.imp id (fun ⟨a, b⟩ => ⟨a, by omega⟩), c2, c3, c4, fun a ha => ⟨(c5 a ha).1, by have := (c5 a ha).2.1; omega, (c5 a ha).2.2⟩, c6⟩
      · rw [nr'] at hr
        by_cases e : r = dt_nr N
        · rw [e, jr, m1]; unfold upd; rw [if_pos rfl, if_pos rfl]
        · rw [ja _ (by omega) (by omega), m1]; unfold upd; rw [if_neg e]; exact hs.1.2.1 r (by omega)
      · rw [ma 2 (by decide) (by decide)]
        by_cases e : r = dt_nr N
        · rw [e, jr]; unfold upd; rw [if_neg (by decide), ← e]; exact hs.1.2.2.1 r hr
        · rw [ja _ (by omega) (by omega)]; exact hs.1.2.2.1 r hr
      · rw [nr'] at hr
        rw [nm'] at hk
        have hrn : r < dt_nr N := by
          rcases Nat.lt_or_ge r (dt_nr N) with h9 | h9
          · exact h9
          · have := (w4 r (by omega)).2.2 h9
            omega
        rw [ja _ (by omega) (by omega), ja _ (by omega) (by omega), ja _ (by omega) (by omega), ma 3 (by decide) (by decide), ma 4 (by decide) (by decide), ma 5 (by decide) (by decide)]
        exact hs.1.2.2.2 r k hrn hk
      · have q : ∀ a, 169 ≤ a → J2 a = I a := fun a ha => ja a (by omega) (by omega)
        have nc' : dt_nc M2 = dt_nc N := by unfold dt_nc; rw [m0o 7 (by decide) (by decide)]
        have na' : dt_na M2 = dt_na N := by funext x; unfold dt_na; rw [ma 8 (by decide) (by decide)]
        have bE' : dt_bE M2 = dt_bE N := by
          funext c at9 z
          unfold dt_bE dt_be dt_nb
          rw [ma 11 (by decide) (by decide), ma 12 (by decide) (by decide), ma 13 (by decide) (by decide), ma 14 (by decide) (by decide)]
        refine ⟨by rw [j0o 3 (by decide), m0o 7 (by decide) (by decide)]; exact hs.2.1, fun y h9 => ?_, fun y h8 h9 => ?_⟩
        · rw [nc'] at h9
          obtain ⟨h1, h2, h3, h4, h5, h6, h7⟩ := hs.2.2.1 y h9
          unfold rl_1
          rw [na', bE', ma 6 (by decide) (by decide), ma 7 (by decide) (by decide), ma 8 (by decide) (by decide), ma 9 (by decide) (by decide), ma 10 (by decide) (by decide), ma 11 (by decide) (by decide)]
          exact ⟨by rw [q _ (by omega)]; exact h1, by rw [q _ (by omega)]; exact h2, by rw [q _ (by omega)]; exact h3, by rw [q _ (by omega)]; exact h4, by rw [q _ (by omega)]; exact h5, fun a ha => by rw [q _ (by omega)]; exact h6 a ha, cl_S_keep (q _ (by omega)) (q _ (by omega)) h7⟩
        · rw [nc'] at h8
          obtain ⟨h1, h2, h3⟩ := hs.2.2.2 y h8 h9
          exact ⟨by rw [q _ (by omega)]; exact h1, by rw [q _ (by omega)]; exact h2, cl_S_keep (q _ (by omega)) (q _ (by omega)) h3⟩
      · rw [ja _ (by omega) (by omega)]
        exact h.Rs.2.2.1 r m (by omega) h2 h3
      · rw [j0o 8 (by decide), m0o 24 (by decide) (by decide)]
        exact h.Rs.2.2.2
    have hRs := key _ _ _ rfl rfl rfl
    refine hRs.fresh (fun J3 hJ3 => ?_)
    rw [hJ3.2.2.1 1 (by decide) (by decide) (by decide), j01]
    refine hk _ J3 (fun post' hp => hin _ ⟨fun _ => ⟨md_k0, fun _ => ?_, fun h9 => absurd (hw.1.1.symm.trans h9) h4⟩, fun h9 => absurd h9 (by decide)⟩)
    refine ⟨md_k0, fun N' e0 => ⟨md_k0, fun _ => ⟨md_k1, ?_⟩, fun h9 => absurd (by rw [ky_up_f e0]; decide) h9⟩⟩
    rw [ky_up_o e0 (by decide), hw.1.1]
    refine ⟨vp_in_nI (N := 4) (by omega) (by decide), fun M1 e1 M2 e2 => ?_⟩
    rw [md_r2, in_c (by omega)] at e1
    rw [e1, ky_up_ne (by decide), ky_up_o e0 (by decide), hw.1.1, in_s, ← e1] at e2
    rw [ky_up_f e2]
    refine m_made (key N' M1 M2 e0 e1 e2) hJ3 (fun M hM h0 => hp M hM ?_)
    rw [h0, ky_up_o e2 (by decide), e1, ky_up_ne (by decide)]
    exact ky_up_f e0
  refine ⟨fun h1 => good (Or.inl h1), fun h1 => ⟨fun h2 => good (Or.inr h2), fun h2 => hx1 I (fun post' hp => m_in (fun a1 a2 => ?_) (fun a1 => ⟨fun h9 => absurd rfl h9, fun _ => fail 1 (Or.inl rfl) post' hp⟩))⟩⟩
  exfalso
  rw [in_1] at a1
  rw [in_2] at a2
  rw [in_eq, in_1] at h1
  rw [in_eq, in_2] at h2
  omega
set_option maxHeartbeats 2000000 in
theorem sm_mark {ad ad' : Nat → Nat} {b : Nat} {I N : Mm} (h : Rl b I N) {v1 v2 v3 v4 : Int32} {post : Int32 → Mm → Prop} {xp : String → Mm → Prop} (hk : ∀ (r : Int32) (J : Mm), sm_R b 0 J r (w_X7_mark (md_Y ad') N 0 v1 v2 v3 v4) → post r J) (hx1 : ∀ J, sm_X b 1 J (w_X7_mark (md_Y ad') N 0 v1 v2 v3 v4) → xp "java/lang/IllegalArgumentException" J) (hx2 : ∀ J, sm_X b 2 J (w_X7_mark (md_Y ad') N 0 v1 v2 v3 v4) → xp "java/lang/IllegalStateException" J) : w_X6_mark (cl_Y ad) I 0 v1 v2 v3 v4 post xp := by
  obtain ⟨hw, hs, hu⟩ := id h
  have hr4 := hw.1.2.1
  -- refused
  have bad : ∀ (post' : Int32 → Mm → Prop), (∀ (M : Mm) (r : Int32), Rl b I M → M 0 0 = 1 → post' r M) → w_X7_mark_B63 (md_Y ad') post' 0 v1 v2 v3 v4 1 0 N := fun post' hp =>
    ⟨md_k0, fun N' hN' => ⟨md_k0, fun h9 => absurd (by rw [ky_up_f hN'] at h9; exact h9) (by decide), fun _ => hp N' 0 (h.fn (fn_F.code hN')) (ky_up_f hN')⟩⟩
  have b32 : ∀ (post' : Int32 → Mm → Prop), (∀ (M : Mm) (r : Int32), Rl b I M → M 0 0 = 1 → post' r M) → w_X7_mark_B32 (md_Y ad') post' 0 v1 v2 v3 v4 0 N := fun post' hp => ⟨fun _ => bad post' hp, fun h9 => absurd rfl h9⟩
  refine ⟨cy_0, p_isRelation hw hs.1 (fun r hr hv => ⟨fun h9 => absurd h9 (by decide), fun _ => ?_⟩) (fun hno => ⟨fun _ => hx1 I (fun post' hp => ⟨md_k0, m_isRelation hw (fun r hr hv => absurd ⟨r, hr, hv⟩ hno) (fun _ => ⟨fun _ => b32 post' hp, fun h9 => absurd rfl h9⟩)⟩), fun h9 => absurd rfl h9⟩)⟩
  subst hv
  have hin : ∀ (p : Int32 → Mm → Prop), p 1 N → w_X7_isRelation (md_Y ad') N 0 (nI r) p := fun p hp => m_isRelation hw (fun _ _ _ => hp) (fun h9 => absurd ⟨r, hr, rfl⟩ h9)
  refine ⟨cy_1, vp_in_nI (N := 4) (by omega) (by decide), ?_⟩
  rw [cy_p0, in_c (by omega), cy_rel]
  refine ⟨cy_kr (by omega), p_canMark hw hs.1 hr (fun hok => ⟨fun _ q9 hq9 => ?_, fun h9 => absurd h9 (by decide)⟩) (fun hno => ⟨fun h9 => absurd rfl h9, fun _ => hx1 I (fun post' hp => ⟨md_k0, hin _ ⟨fun h9 => absurd h9 (by decide), fun _ => ?_⟩⟩)⟩)⟩
  · subst hq9
    have yes : ∀ (post' : Int32 → Mm → Prop), w_X7_mark_B63 (md_Y ad') post' 0 (nI r) v2 v3 v4 0 0 N → w_X7_mark (md_Y ad') N 0 (nI r) v2 v3 v4 post' := fun post' hp => ⟨md_k0, hin _ ⟨fun h9 => absurd h9 (by decide), fun _ => m_in (fun _ _ => ⟨fun h9 => absurd h9 (by decide), fun _ => ⟨fun h9 => absurd h9 hok.2.2.1, fun _ => ⟨fun h9 => absurd h9 (by decide), fun _ => ⟨md_k0, m_isPlace hw hr (fun _ => ⟨fun h9 => absurd h9 (by decide), fun _ => m_isPlace hw hr (fun _ => ⟨fun _ => hp, fun h9 => absurd h9 (by decide)⟩) (fun h9 => absurd hok.2.1 h9)⟩) (fun h9 => absurd hok.1 h9)⟩⟩⟩⟩) (fun h9 => absurd (by rw [in_k, in_mk]; exact hok.2.2.2) h9)⟩⟩
    have h2 : ∀ (post' : Int32 → Mm → Prop), (∀ (M : Mm) (r : Int32), Rl b I M → M 0 0 = 2 → post' r M) → ∀ N', N' = ky_up N 0 0 0 → w_X7_mark_B97 (md_Y ad') post' 0 N' := fun post' hp N' e0 => ⟨md_k0, md_k0, fun N2 e2 => hp N2 0 ((h.fn (fn_F.code e0)).fn (fn_F.code e2)) (ky_up_f e2)⟩
    obtain ⟨n1, n2, _⟩ := hw.1.2.2.2.1 r (by omega)
    refine ⟨cy_kr (by omega), ?_⟩
    rw [hs.1.2.2.1 r (by omega)]
    refine ⟨fun h4 => hx2 I (fun post' hp => yes post' ⟨md_k0, fun N' e0 => ⟨md_k0, fun _ => ⟨md_k2, vp_in_nI (N := 4) (by omega) (by decide), ?_⟩, fun h9 => absurd (by rw [ky_up_f e0]; decide) h9⟩⟩), fun h4 => ?_⟩
    · rw [md_r3, in_c (by omega)]
      refine ⟨fun _ => h2 post' hp N' e0, fun h9 => absurd (by rw [e0, ky_up_ne (by decide)]; exact h4) h9⟩
    · have hlt : dt_nm N r < 4 := by
        rcases Nat.lt_or_ge (dt_nm N r) 4 with h9 | h9
        · exact h9
        · exact absurd (by rw [n1, show dt_nm N r = 4 by omega]; rfl) h4
      have b63 : ∀ (post' : Int32 → Mm → Prop), (∀ N', N' = ky_up N 0 0 0 → w_X7_isMark (md_Y ad') N' 0 (nI r) v2 v3 v4 (fun r13 I12 => ((r13 = 0 → w_X7_keepMark (md_Y ad') I12 0 (nI r) v2 v3 v4 (fun I14 => w_X7_made (md_Y ad') I14 0 ((I14 2 r) - (1 : Int32)) (fun r16 I15 => post' r16 I15))) ∧ (¬ r13 = 0 → w_X7_mark_B97 (md_Y ad') post' 0 I12)))) → w_X7_mark_B63 (md_Y ad') post' 0 (nI r) v2 v3 v4 0 0 N := fun post' hp => by
        refine ⟨md_k0, fun N' e0 => ⟨md_k0, fun _ => ⟨md_k2, vp_in_nI (N := 4) (by omega) (by decide), ?_⟩, fun h9 => absurd (by rw [ky_up_f e0]; decide) h9⟩⟩
        rw [md_r3, in_c (by omega)]
        exact ⟨fun h9 => absurd (by rw [e0, ky_up_ne (by decide)] at h9; exact h9) h4, fun _ => hp N' e0⟩
      have hmk : ∀ N', N' = ky_up N 0 0 0 → (mk_h N' r v2 v3 v4 (dt_nm N' r) ↔ mk_h N r v2 v3 v4 (dt_nm N r)) := fun N' e0 => by
        unfold mk_h dt_nm
        rw [e0, ky_up_ne (by decide), ky_up_ne (by decide), ky_up_ne (by decide), ky_up_ne (by decide)]
      refine p_hasMark hw hs.1 hr (fun hm => ⟨fun h9 => absurd h9 (by decide), fun _ => hx2 I (fun post' hp => yes post' (b63 post' (fun N' e0 => ?_)))⟩) (fun hm => ⟨fun _ => ?_, fun h9 => absurd rfl h9⟩)
      · have h' := h.fn (fn_F.code e0)
        refine m_isMark h'.1 (by rw [(fn_F.code e0).nr]; exact hr) (fun _ => ⟨fun h9 => absurd h9 (by decide), fun _ => h2 post' hp N' e0⟩) (fun h9 => absurd ((hmk N' e0).mpr hm) h9)
      · refine p_addMark hw hs.1 hr hlt (fun J1 hJ1 => ?_)
        have rest : ∀ N' M1, N' = ky_up N 0 0 0 → am_m N' M1 r (dt_nm N' r) v2 v3 v4 → Rs J1 M1 := fun N' M1 e0 hM1 => by
          have h' := h.fn (fn_F.code e0)
          have enm : dt_nm N' = dt_nm N := (fn_F.code e0).nm
          rw [enm] at hM1
          have hok' : mk_ok N' r v2 v3 v4 := by
            unfold mk_ok mk_co dt_pl
            rw [e0, ky_up_ne (by decide)]
            exact hok
          obtain ⟨g1, g2⟩ := am_go (J := J1) (M := M1) h'.1 h'.2.1 (by rw [(fn_F.code e0).nr]; exact hr) (by rw [enm]; exact hlt) hok' (by rw [enm]; exact hJ1) (by rw [enm]; exact hM1)
          refine ⟨g1, g2, fun r' m a1 a2 a3 => ?_, ?_⟩
          · have : dt_nr M1 = dt_nr N := by unfold dt_nr; rw [hM1.2.2.2.2 0 (by decide) (by decide) (by decide) (by decide), e0, ky_up_o rfl (by decide)]
            rw [this] at a1
            rw [hJ1.2.2.2.2 _ (by omega) (by omega) (by omega) (by omega)]
            exact h.Rs.2.2.1 r' m a1 a2 a3
          · rw [hJ1.2.2.2.2 0 (by omega) (by omega) (by omega) (by omega), hM1.2.2.2.2 0 (by decide) (by decide) (by decide) (by decide)]
            exact h'.Rs.2.2.2
        obtain ⟨Mx, hMx⟩ : ∃ Mx : Mm, am_m (ky_up N 0 0 0) Mx r (dt_nm (ky_up N 0 0 0) r) v2 v3 v4 := ⟨fun a => if a = 2 then upd (ky_up N 0 0 0 2) r (nI (dt_nm (ky_up N 0 0 0) r + 1)) else if a = 3 then upd (ky_up N 0 0 0 3) (4 * r + dt_nm (ky_up N 0 0 0) r) v2 else if a = 4 then upd (ky_up N 0 0 0 4) (4 * r + dt_nm (ky_up N 0 0 0) r) v3 else if a = 5 then upd (ky_up N 0 0 0 5) (4 * r + dt_nm (ky_up N 0 0 0) r) v4 else ky_up N 0 0 0 a, rfl, rfl, rfl, rfl, fun a a2 a3 a4 a5 => by simp only [if_neg a2, if_neg a3, if_neg a4, if_neg a5]⟩
        refine (rest _ Mx rfl hMx).fresh (fun J2 hJ2 => ?_)
        have e1 : J2 (137 + 8 * r) 1 = nI (dt_nm N r + 1) := by
          rw [hJ2.1 _ (by omega) (by omega) (fun r' _ => by omega), hJ1.1]; unfold upd; rw [if_pos rfl]
        rw [e1]
        refine hk _ J2 (fun post' hp => yes post' (b63 post' (fun N' e0 => ?_)))
        have h' := h.fn (fn_F.code e0)
        have enm : dt_nm N' = dt_nm N := (fn_F.code e0).nm
        have enr : dt_nr N' = dt_nr N := (fn_F.code e0).nr
        refine m_isMark h'.1 (by rw [enr]; exact hr) (fun h9 => absurd ((hmk N' e0).mp h9) hm) (fun _ => ⟨fun _ => m_keepMark h'.1 (by rw [enr]; exact hr) (by rw [enm]; exact hlt) (fun M1 hM1 => ?_), fun h9 => absurd rfl h9⟩)
        have e2 : M1 2 r = nI (dt_nm N r + 1) := by rw [hM1.1, enm]; unfold upd; rw [if_pos rfl]
        rw [e2]
        refine m_made (rest N' M1 e0 hM1) hJ2 (fun M hM h0 => hp M hM ?_)
        rw [h0, hM1.2.2.2.2 0 (by decide) (by decide) (by decide) (by decide)]
        exact ky_up_f e0
  · -- the reference refuses too
    refine m_in (fun a1 a2 => ⟨fun h9 => absurd h9 (by decide), fun _ => ⟨fun _ => b32 post' hp, fun hne => ⟨fun h9 => absurd h9 (by decide), fun _ => ⟨md_k0, m_isPlace hw hr (fun p1 => ⟨fun h9 => absurd h9 (by decide), fun _ => m_isPlace hw hr (fun p2 => ?_) (fun _ => ⟨fun h9 => absurd rfl h9, fun _ => bad post' hp⟩)⟩) (fun _ => ⟨fun _ => bad post' hp, fun h9 => absurd rfl h9⟩)⟩⟩⟩⟩) (fun _ => ⟨fun _ => b32 post' hp, fun h9 => absurd rfl h9⟩)
    rw [in_mk] at a1
    rw [in_k] at a2
    exact absurd ⟨p1, p2, hne, a1, a2⟩ hno
