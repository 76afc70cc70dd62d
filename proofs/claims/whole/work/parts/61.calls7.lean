/-! CALLS: refine, round -/
theorem rl_T.td {N : Mm} {c : Nat} {ns : List Nd} {en : Nat → Nat} (hw : dt_w N) (h : rl_T N c ns en) (h40 : ns.length ≤ 40) : td_ok N ns := by
  obtain ⟨_, _, _, hsm, _, _, hc, hj⟩ := h
  exact ⟨hw, h40, hsm, hc, fun k h0 hk => ⟨(hj k h0 hk).1, (hj k h0 hk).2.1⟩⟩
/-- a verdict is given -/
theorem Rl.verdict {b : Nat} {I J N M : Mm} {v : Int32} (h : Rl b I N) (hi : fi_F I J) (hn : fn_F N M) {J' M' : Mm} (hJ : J' = ky_up J 0 5 v) (hM : M' = ky_up M 0 23 v) (hv : 0 ≤ v.toInt) : Rl b J' M' ∧ M' 0 0 = M 0 0 := by
  obtain ⟨hw, hs, hu⟩ := (h.fi hi).fn hn
  have hr4 := hw.1.2.1
  have hz : fz_F M M' := fz_F.up0 (by decide) (by decide) hM
  have hfs : fs_F J J' := ⟨fun a ha => by rw [hJ]; exact ky_up_ne (by omega), ky_up_o hJ (by decide), ky_up_o hJ (by decide)⟩
  refine ⟨⟨hz.w hw, hz.s (hfs.s hs), rl_u_go hu hr4 (fun r j _ _ _ => by rw [hJ]; exact ky_up_ne (by omega)) (fun j hj => ky_up_o hJ hj) (by rw [hJ, ky_up_ne (by decide)]) (fun k _ => by rw [hJ]; exact ky_up_ne (by omega)) (fun a a0 _ => by rw [hM]; exact ky_up_ne a0) (fun j _ hj _ _ _ => ky_up_o hM hj) hv (ky_up_f hJ) (ky_up_f hM)⟩, ky_up_o hM (by decide)⟩
set_option maxHeartbeats 4000000 in
theorem sm_refineAlarm {ad ad' : Nat → Nat} {b : Nat} {I N : Mm} (h : Rl b I N) (hv : N 0 23 = 0) (ha : N 0 21 ≠ -1) {post : Int32 → Mm → Prop} (hk : ∀ (r : Int32) (J : Mm), sm_R (b + 1) (N 0 0) J r (w_X7_improve (md_Y ad') N 0) → post r J) : w_X6_refineAlarm (cl_Y ad) I 0 post := by
  obtain ⟨hw, hs, hu⟩ := id h
  obtain ⟨u1, u2, u3, u4, u5, u6, u7, u8, u9, u10⟩ := id hu
  have hr4 := hw.1.2.1
  have h40' : (40 : Int32).toInt = 40 := by decide
  rcases u10 with ⟨a1, _⟩ | ⟨c, ns, en, a1, a2, a3, a4, a5, a6, a7, a8, a9⟩
  · exact absurd a1 ha
  obtain ⟨l1, l2, _, hsm, hen, hle, _, _⟩ := id a6
  refine ⟨cy_0, cy_3, ?_⟩
  rw [cy_p7, a5]
  refine ⟨fun h4 => ?_, fun h4 J hJ => hk 0 J (fun post' hp => ⟨md_k0, fun h9 => absurd (by rw [a4] at h9; exact h9) h4, fun _ M hM => ?_⟩)⟩
  · rw [in_le, in_n (by omega), h40'] at h4
    have h40 : ns.length ≤ 40 := by omega
    have hok := a6.td hw h40
    refine p_closeTree hok l1 hs a7 a5 (fun J3 hF3 hq3 => ?_)
    -- the reference's first question
    have ref : ∀ (post' : Int32 → Mm → Prop), (∀ K : Mm, md_F N K → ((∃ n42 : Nat, w_X7_improve_L42 (md_Y ad') post' (fun k17 v18 I16 => ((¬ v18 = 0 → (ky_is (md_Y ad') k17 7 ∧ (∀ I20 : Mm, I20 = ky_up I16 k17 24 ((I16 k17 24) + (1 : Int32)) → w_X7_freshStart (md_Y ad') I20 k17 (fun I21 => post' v18 I21)))) ∧ (v18 = 0 → (ky_is (md_Y ad') k17 7 ∧ (∀ I23 : Mm, I23 = ky_up I16 k17 23 (3 : Int32) → post' (0 : Int32) I23))))) n42 0 (0 : Int32) (1 : Int32) K) ∨ J3 9 1 ≠ 0)) → (∀ K : Mm, md_F N K → ((∀ I25 : Mm, I25 = ky_up K 0 23 (2 : Int32) → post' (0 : Int32) I25) ∨ J3 9 1 = 0)) → w_X7_improve (md_Y ad') N 0 post' := fun post' hp0 hp1 => by
      refine ⟨md_k0, fun _ => ?_, fun h9 => absurd (by rw [a4, in_le, in_n (by omega), h40']; omega) h9⟩
      refine m_gather hok a8 a9 hen hle (n := 0) (by omega) md_F.rf (fun L E hL hE hm hok9 => m_holds (nv := 201) hok9 hE (fun K r hK hr => ?_))
      rw [df_S_mem hm] at hr
      have hKF : md_F N K := hL.tr (md_F.of22 hK)
      have hq0 := cq_D hok (hq3 0 (by omega))
      refine ⟨fun h0 => ?_, fun h1 => ?_⟩
      · rcases hr with ⟨hr, _⟩ | ⟨_, hr⟩
        · rw [hr] at h0; exact absurd h0 (by decide)
        · rcases hq0 with ⟨_, q, _⟩ | ⟨q, _⟩
          · exact absurd q hr
          · exact (hp0 K hKF).resolve_right (fun h9 => h9 q)
      · rcases hr with ⟨_, hr⟩ | ⟨hr, _⟩
        · rcases hq0 with ⟨q, _⟩ | ⟨_, q⟩
          · exact (hp1 K hKF).resolve_right (fun h9 => absurd (q.symm.trans h9) (by decide))
          · exact absurd hr q
        · exact absurd hr h1
    refine ⟨cy_4, vp_in_nI (n := 0) (N := 41) (by decide) (by decide), cy_kn (n := 0) (by decide), (cy_Bn (n := 0) (by decide)).1, ?_⟩
    show (J3 9 1 = 0 → _) ∧ (¬ J3 9 1 = 0 → _)
    refine ⟨fun h0 => ?_, fun h1 J hJ => hk 0 J (fun post' hp => ref post' (fun K hK => Or.inr h1) (fun K hK => Or.inl (fun M hM => ?_)))⟩
    · -- marks
      have h31 : J3 3 1 = nI ns.length := by rw [hF3 3 (by omega)]; exact a5
      have hn3 := hF3.n (by omega) a7
      have hs3 := hF3.fs.s hs
      refine ⟨ns.length - 1 + 1, ?_⟩
      refine p_marks_L hok hn3 hs3 h31 (fun k hk => cq_fl (hq3 k hk)) (fun L hL hH hsL => ?_) (ns.length - 1) 0 (by omega) J3 mb_F.rf (fun _ _ _ _ _ => rfl) hs3
      obtain ⟨hFn, hle9⟩ := mn_r_F (I := J3) hok (ns.length - 1) (by omega)
      have ref2 : J3 9 1 = 0 → ∀ (post' : Int32 → Mm → Prop), (∀ M : Mm, md_F (mn_r N J3 ns (ns.length - 1)).1 M → ((¬ nI (mn_r N J3 ns (ns.length - 1)).2 = 0 → (∀ I20 : Mm, I20 = ky_up M 0 24 ((M 0 24) + (1 : Int32)) → w_X7_freshStart (md_Y ad') I20 0 (fun I21 => post' (nI (mn_r N J3 ns (ns.length - 1)).2) I21))) ∧ (nI (mn_r N J3 ns (ns.length - 1)).2 = 0 → (∀ I23 : Mm, I23 = ky_up M 0 23 (3 : Int32) → post' (0 : Int32) I23)))) → w_X7_improve (md_Y ad') N 0 post' := fun h0 post' hp => by
        refine ref post' (fun K hK => Or.inl ⟨ns.length - 1 + 1, m_marks_L hok a8 a9 hen hle a4 hq3 (fun M hM => ⟨fun h9 => ⟨md_k0, (hp M hM).1 h9⟩, fun h9 => ⟨md_k0, (hp M hM).2 h9⟩⟩) (ns.length - 1) 0 (by omega) K hK⟩) (fun K hK => Or.inr h0)
      have l0 : L 0 = I 0 := by rw [hL 0 (by omega), hF3 0 (by omega)]
      have l3 : L 3 = I 3 := by rw [hL 3 (by omega), hF3 3 (by omega)]
      have l8 : ∀ k, k < 41 → L (8 + 3 * k) = I (8 + 3 * k) := fun k hk => by rw [hL _ (by omega), hF3 _ (by omega)]
      have lh : ∀ r j, r < 4 → 4 ≤ j → j < 8 → L (137 + 8 * r + j) = I (137 + 8 * r + j) := fun r j h1 h2 h3 => by rw [hH r j h1 h2 h3, hF3 _ (by omega)]
      refine ⟨fun h9 => ⟨cy_0, fun J1 j1 => ?_⟩, fun h9 => ⟨cy_0, fun J1 j1 => hk _ J1 (fun post' hp => ref2 h0 post' (fun M hM => ⟨fun h8 => absurd h9 h8, fun _ M' hM' => ?_⟩))⟩⟩
      · -- marks have come: a fresh start
        have j8 : J1 0 8 = I 0 8 + 1 := by rw [ky_up_f j1, l0]
        have jo : ∀ j, j ≠ 8 → J1 0 j = I 0 j := fun j hj => by rw [ky_up_o j1 hj, l0]
        have ja : ∀ a, a ≠ 0 → J1 a = L a := fun a ha => by rw [j1]; exact ky_up_ne ha
        have hfs1 : fs_F L J1 := ⟨fun a ha => ja a (by omega), ky_up_o j1 (by decide), ky_up_o j1 (by decide)⟩
        have hs1 := hfs1.s hsL
        have hz1 : ∀ r m, dt_nr N ≤ r → r < 4 → m < 16 → J1 (137 + 8 * r + 4) m = 0 := fun r m g1 g2 g3 => by
          rw [ja _ (by omega), lh r 4 g2 (by decide) (by decide)]
          exact h.Rs.2.2.1 r m g1 g2 g3
        refine p_fresh (n := dt_nr N) hr4 (by rw [jo 1 (by decide), hs.1.1]; exact hw.1.1) hz1 (fun J2 hJ2 => hk _ J2 (fun post' hp => ref2 h0 post' (fun M hM => ⟨fun _ M1 e1 => m_fresh (fun M2 hM2 => hp M2 ?_ ?_), fun h8 => absurd h8 h9⟩)))
        · have hfM := hM.fn
          have hwM := hfM.w hFn.1
          have hsM := hfM.s hs1
          have hz : fz_F M M1 := fz_F.up0 (by decide) (by decide) e1
          have f0 : ∀ j, j ≠ 25 → M 0 j = N 0 j := fun j hj => by rw [hM.2 j hj, hFn.2 0 (by decide) (by decide) (by decide) (by decide)]
          have hRs : Rs J1 M1 := ⟨hz.w hwM, hz.s hsM, fun r m g1 g2 g3 => hz1 r m (by
            have : dt_nr M1 = dt_nr N := by rw [hz.nr]; unfold dt_nr; rw [f0 1 (by decide)]
            rw [this] at g1; exact g1) g2 g3, by rw [j8, ky_up_f e1, f0 24 (by decide), u9]⟩
          exact hRs.go hJ2 hM2 (fun _ _ => rfl) (by rw [hM2.2.2.1 23 (by decide) (by decide) (by decide), ky_up_o e1 (by decide), f0 23 (by decide)]; exact hv) (fun _ _ => rfl)
        · rw [hM2.2.2.1 0 (by decide) (by decide) (by decide), ky_up_o e1 (by decide), hM.2 0 (by decide), hFn.2 0 (by decide) (by decide) (by decide) (by decide)]
      · -- none has come
        have hfM := hM.fn
        have hwM := hfM.w hFn.1
        have ja : ∀ a, a ≠ 0 → J1 a = L a := fun a ha => by rw [j1]; exact ky_up_ne ha
        have hfs1 : fs_F L J1 := ⟨fun a ha => ja a (by omega), ky_up_o j1 (by decide), ky_up_o j1 (by decide)⟩
        have hz : fz_F M M' := fz_F.up0 (by decide) (by decide) hM'
        have f0 : ∀ j, j ≠ 25 → M 0 j = N 0 j := fun j hj => by rw [hM.2 j hj, hFn.2 0 (by decide) (by decide) (by decide) (by decide)]
        have hR : Rl b J1 M' := ⟨hz.w hwM, hz.s (hfM.s (hfs1.s hsL)), rl_u_go (v := 3) hu hr4 (fun r j g1 g2 g3 => by rw [ja _ (by omega)]; exact lh r j g1 g2 g3) (fun j hj => by rw [ky_up_o j1 hj, l0]) (by rw [ja 3 (by decide), l3]) (fun k hk => by rw [ja _ (by omega)]; exact l8 k hk) (fun a g0 g1 => by rw [hM', ky_up_ne g0, hM.1 a g0 (by omega) (by omega) (by omega) (by omega), hFn.2 a (by omega) (by omega) (by omega) (by omega)]) (fun j g0 g1 g2 _ _ => by rw [ky_up_o hM' g1, f0 j g2]) (by decide) (ky_up_f j1) (ky_up_f hM')⟩
        rw [h9] at hp
        exact hp M' (hR.mono (Nat.le_succ _)) (by rw [ky_up_o hM' (by decide), f0 0 (by decide)])
    · obtain ⟨g1, g2⟩ := h.verdict hF3.fi hK.fn hJ hM (by decide)
      exact hp M (g1.mono (Nat.le_succ _)) (by rw [g2, hK.2 0 (by decide)])
  · obtain ⟨g1, g2⟩ := h.verdict fi_F.rf fn_F.rf hJ hM (by decide)
    exact hp M (g1.mono (Nat.le_succ _)) g2
theorem Rl.al {b : Nat} {I N : Mm} (h : Rl b I N) : I 0 6 = N 0 21 ∧ (N 0 21 < 0 ↔ N 0 21 = -1) := by
  obtain ⟨hw, _, _, _, _, _, _, _, _, _, _, u10⟩ := h
  have h12 := hw.2.2.1
  rcases u10 with ⟨a1, a2, _⟩ | ⟨c, ns, en, a1, a2, a3, _⟩
  · rw [a1, a2]; exact ⟨rfl, by decide⟩
  · rw [a1, a2]
    refine ⟨rfl, fun h9 => ?_, fun h9 => absurd h9 (in_ne1 (by omega))⟩
    rw [in_lt, in_n (by omega), in_0] at h9
    omega
theorem Rl.vd {b : Nat} {I N : Mm} (h : Rl b I N) : I 0 5 = N 0 23 ∧ (0 < N 0 23 ↔ ¬ N 0 23 = 0) := by
  obtain ⟨_, _, _, _, _, _, _, _, u7, u8, _, _⟩ := h
  refine ⟨u7, ?_⟩
  rw [in_lt, in_eq, in_0]
  omega
theorem sm_round {ad ad' : Nat → Nat} {b : Nat} {I N : Mm} (h : Rl b I N) (hb : b < 1000000) {post : Int32 → Mm → Prop} {xp : String → Mm → Prop} (hk : ∀ (r : Int32) (J : Mm), sm_R (b + 1) 0 J r (w_X7_round (md_Y ad') N 0) → post r J) (hx1 : ∀ J, sm_X b 1 J (w_X7_round (md_Y ad') N 0) → xp "java/lang/IllegalStateException" J) : w_X6_round (cl_Y ad) I 0 post xp := by
  obtain ⟨v1, v2⟩ := h.vd
  obtain ⟨l1, l2⟩ := h.al
  have bad : ∀ (post' : Int32 → Mm → Prop), (∀ (M : Mm) (r : Int32), Rl b I M → M 0 0 = 1 → post' r M) → w_X7_round_B20 (md_Y ad') post' 0 1 0 N := fun post' hp => ⟨md_k0, fun N' e0 => ⟨md_k0, fun h9 => absurd (by rw [ky_up_f e0] at h9; exact h9) (by decide), fun _ => hp N' 0 (h.fn (fn_F.code e0)) (ky_up_f e0)⟩⟩
  refine ⟨cy_0, ?_⟩
  rw [v1, l1]
  refine ⟨fun hv => hx1 I (fun post' hp => ⟨md_k0, fun _ => bad post' hp, fun h9 => absurd (v2.mpr hv) h9⟩), fun hv => ⟨fun ha => ?_, fun ha => hx1 I (fun post' hp => ⟨md_k0, fun _ => bad post' hp, fun _ => ⟨fun h9 => absurd (l2.mp h9) ha, fun _ => bad post' hp⟩⟩)⟩⟩
  obtain ⟨N', hN'⟩ : ∃ N' : Mm, N' = ky_up N 0 0 0 := ⟨_, rfl⟩
  refine sm_makeRound (ad' := ad') (N := N') (h.fn (fn_F.code hN')) hb (by rw [ky_up_o hN' (by decide)]; exact hv) (by rw [ky_up_o hN' (by decide)]; exact ha) (fun r J hsm => hk r J (fun post' hp => ?_))
  refine ⟨md_k0, fun h9 => absurd hv (v2.mp h9), fun _ => ⟨fun _ => ⟨md_k0, fun N2 e2 => ⟨md_k0, fun _ => ?_, fun h9 => absurd (by rw [ky_up_f e2]; decide) h9⟩⟩, fun h9 => absurd (l2.mpr ha) h9⟩⟩
  rw [← hN'] at e2
  subst e2
  exact hsm post' (fun M hM h0 => hp M hM (by rw [h0]; exact ky_up_f hN'))
theorem sm_refine {ad ad' : Nat → Nat} {b : Nat} {I N : Mm} (h : Rl b I N) {post : Int32 → Mm → Prop} {xp : String → Mm → Prop} (hk : ∀ (r : Int32) (J : Mm), sm_R (b + 1) 0 J r (w_X7_refine (md_Y ad') N 0) → post r J) (hx1 : ∀ J, sm_X b 1 J (w_X7_refine (md_Y ad') N 0) → xp "java/lang/IllegalStateException" J) : w_X6_refine (cl_Y ad) I 0 post xp := by
  obtain ⟨v1, v2⟩ := h.vd
  obtain ⟨l1, l2⟩ := h.al
  have hv0 : N 0 23 ≤ 0 ↔ N 0 23 = 0 := by
    obtain ⟨_, _, _, _, _, _, _, _, _, u8, _, _⟩ := id h
    rw [in_le, in_eq, in_0]
    omega
  have bad : ∀ (post' : Int32 → Mm → Prop), (∀ (M : Mm) (r : Int32), Rl b I M → M 0 0 = 1 → post' r M) → w_X7_refine_B20 (md_Y ad') post' 0 1 0 N := fun post' hp => ⟨md_k0, fun N' e0 => ⟨md_k0, fun h9 => absurd (by rw [ky_up_f e0] at h9; exact h9) (by decide), fun _ => hp N' 0 (h.fn (fn_F.code e0)) (ky_up_f e0)⟩⟩
  refine ⟨cy_0, ?_⟩
  rw [v1, l1]
  refine ⟨fun hv => hx1 I (fun post' hp => ⟨md_k0, fun _ => bad post' hp, fun _ => ⟨fun h9 => absurd (hv0.mp h9) hv, fun _ => bad post' hp⟩⟩), fun hv => ⟨fun ha => ?_, fun ha => hx1 I (fun post' hp => ⟨md_k0, fun _ => bad post' hp, fun h9 => absurd (l2.mpr ha) h9⟩)⟩⟩
  obtain ⟨N', hN'⟩ : ∃ N' : Mm, N' = ky_up N 0 0 0 := ⟨_, rfl⟩
  refine sm_refineAlarm (ad' := ad') (N := N') (h.fn (fn_F.code hN')) (by rw [ky_up_o hN' (by decide)]; exact hv) (by rw [ky_up_o hN' (by decide)]; exact ha) (fun r J hsm => hk r J (fun post' hp => ?_))
  refine ⟨md_k0, fun h9 => absurd (l2.mp h9) ha, fun _ => ⟨fun _ => ⟨md_k0, fun N2 e2 => ⟨md_k0, fun _ => ?_, fun h9 => absurd (by rw [ky_up_f e2]; decide) h9⟩⟩, fun h9 => absurd (hv0.mpr hv) h9⟩⟩
  rw [← hN'] at e2
  subst e2
  exact hsm post' (fun M hM h0 => hp M hM (by rw [h0]; exact ky_up_f hN'))
