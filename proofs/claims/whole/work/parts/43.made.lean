/-! A ROUND without an alarm, and the two together -/
theorem rc_0m {I N : Mm} : rc_m I I N rc_0 := ⟨fun _ _ _ => rfl, fun r m _ _ => ⟨fun _ _ _ _ => rfl, fun c k h => by cases h⟩⟩
theorem dt_dn_0 {N : Mm} : dt_dn N rc_0 0 (fun _ _ => 0) := fun r m _ _ => ⟨fun c k h => (by cases h), fun _ h => by
  obtain ⟨_, c, k, hl, _⟩ := h
  rcases hl with hl | ⟨_, hl⟩
  · exact Nat.not_lt_zero _ hl
  · exact Nat.not_lt_zero _ hl⟩
set_option maxHeartbeats 4000000 in
theorem sm_reached {b : Nat} {I J0 J N N1 M : Mm} {d d' : Rd} (h : Rl b I N) (hb : b < 1000000) (hv : N 0 23 = 0) (ha : N 0 21 = -1) (hN1 : N1 = ky_up N 0 20 (N 0 20 + 1)) (hJ0 : cs_F I J0) (hc : rc_m J0 J N1 d) (hdc : dt_dn N1 d (dt_nc N1) (fun _ _ => 0)) (hm : rn_m N1 M d') (hdm : dt_dn N1 d' (dt_nc N1) (fun _ _ => 0))
    {J' M' : Mm} {v : Int32} (hvv : 0 ≤ v.toInt) (j0 : ∀ a, a ≠ 0 → J' a = J a) (j4 : J' 0 4 = J 0 4 + 1) (j5 : J' 0 5 = v) (jo : ∀ j, j ≠ 4 → j ≠ 5 → J' 0 j = J 0 j) (m0 : ∀ a, a ≠ 0 → M' a = M a) (m23 : M' 0 23 = v) (mo : ∀ j, j ≠ 23 → M' 0 j = M 0 j) : Rl (b + 1) J' M' ∧ M' 0 0 = N 0 0 := by
  have hw1 : fz_F N N1 := fz_F.up0 (by decide) (by decide) hN1
  have n1w : dt_w N1 := hw1.w h.1
  have hr4 := n1w.1.2.1
  have ti := rl_toInt h hb
  have nrow : ∀ a, a ≠ 0 → N1 a = N a := fun a ha => by rw [hN1]; exact ky_up_ne ha
  have nf0 : ∀ j, j ≠ 20 → N1 0 j = N 0 j := fun j hj => by rw [hN1, ky_up_eq]; unfold upd; rw [if_neg hj]
  have n20 : N1 0 20 = N 0 20 + 1 := by rw [hN1, ky_up_eq]; unfold upd; rw [if_pos rfl]
  obtain ⟨_, hs, u1, u2, u3, u4, u5, u6, u7, u8, u9, u10⟩ := id h
  have hz : fz_F N M' := ⟨fun a a0 a1 => by rw [m0 a a0, hm.st a0 a1, nrow a a0], by rw [mo 1 (by decide), hm.2.1 1 (by decide) (by decide) (by decide), nf0 1 (by decide)], by rw [mo 7 (by decide), hm.2.1 7 (by decide) (by decide) (by decide), nf0 7 (by decide)]⟩
  have hJc : J 0 = I 0 := by rw [hc.1 0 (by omega) (fun r j _ _ _ => by omega), hJ0 0 (by omega)]
  have s1 : rl_s J N := by
    refine ⟨?_, ?_⟩
    · have := (hc.s ((hw1.s (hJ0.s hs))) n1w).1
      unfold rl_r at this ⊢
      rw [hw1.nr, hw1.nm, hw1.2.1, nrow 1 (by decide), nrow 2 (by decide), nrow 3 (by decide), nrow 4 (by decide), nrow 5 (by decide)] at this
      exact this
    · have := (hc.s ((hw1.s (hJ0.s hs))) n1w).2
      unfold rl_c rl_1 at this ⊢
      rw [hw1.nc, hw1.na, hw1.bE, hw1.2.2, nrow 6 (by decide), nrow 7 (by decide), nrow 8 (by decide), nrow 9 (by decide), nrow 10 (by decide), nrow 11 (by decide)] at this
      exact this
  have hfs : fs_F J J' := ⟨fun a ha => j0 a (by omega), jo 1 (by decide) (by decide), jo 3 (by decide) (by decide)⟩
  have e20 : M' 0 20 = N 0 20 + 1 := by rw [mo 20 (by decide), hm.2.1 20 (by decide) (by decide) (by decide), n20]
  have deq : ∀ r m, r < 4 → m < 16 → d r m = d' r m := fun r m hr hm9 => dt_dn_eq hdc hdm hr hm9
  -- what the reference keeps of a state
  have old : ∀ r m, r < 4 → m < 16 → d' r m = none → M' 15 (16 * r + m) = N 15 (16 * r + m) ∧ M' 16 (16 * r + m) = N 16 (16 * r + m) ∧ M' 17 (2 * (16 * r + m)) = N 17 (2 * (16 * r + m)) ∧ M' 17 (2 * (16 * r + m) + 1) = N 17 (2 * (16 * r + m) + 1) := fun r m hr hm9 hn => by
    obtain ⟨a1, a2, a3, a4⟩ := (hm.2.2 r m hr hm9).1 hn
    rw [m0 15 (by decide), m0 16 (by decide), m0 17 (by decide), a1, a2, a3, a4, nrow 15 (by decide), nrow 16 (by decide), nrow 17 (by decide)]
    exact ⟨rfl, rfl, rfl, rfl⟩
  have new : ∀ r m, r < 4 → m < 16 → ∀ c k, d' r m = some (c, k) → M' 15 (16 * r + m) = N 0 20 + 1 ∧ M' 16 (16 * r + m) = nI c ∧ M' 17 (2 * (16 * r + m)) = dt_on N1 c 0 (k / 16) ∧ M' 17 (2 * (16 * r + m) + 1) = dt_on N1 c 1 (k % 16) := fun r m hr hm9 c k hn => by
    obtain ⟨a1, a2, a3, a4⟩ := (hm.2.2 r m hr hm9).2 c k hn
    rw [m0 15 (by decide), m0 16 (by decide), m0 17 (by decide), a1, a2, a3, a4, n20]
    exact ⟨rfl, rfl, rfl, rfl⟩
  have grow : ∀ r m, r < 4 → m < 16 → ¬ N 15 (16 * r + m) = 0 → ¬ M' 15 (16 * r + m) = 0 := fun r m hr hm9 hne => by
    cases hd : d' r m with
    | none => rw [(old r m hr hm9 hd).1]; exact hne
    | some ck =>
      obtain ⟨c, k⟩ := ck
      rw [(new r m hr hm9 c k hd).1]
      intro h9
      rw [in_eq, ti, in_0] at h9
      omega
  refine ⟨⟨hz.w h.1, hz.s (hfs.s s1), fun r m hr hm9 => ?_, ?_, by rw [e20, ti]; omega, by rw [e20, ti]; omega, fun r m hr hm9 hne => ?_, fun r m hr hm9 hne => ?_, by rw [j5, m23], by rw [m23]; exact hvv, ?_, Or.inl ⟨?_, ?_, ?_, ?_⟩⟩, ?_⟩
  · rw [j0 _ (by omega), e20, ti, hz.nr]
    obtain ⟨a1, a2, a3, a4⟩ := u1 r m hr hm9
    cases hd : d' r m with
    | none =>
      rw [(old r m hr hm9 hd).1, (hc.2 r m hr hm9).1 ((deq r m hr hm9).trans hd) 4 (by decide) (by decide), hJ0 _ (by omega)]
      exact ⟨a1, a2, by omega, a4⟩
    | some ck =>
      obtain ⟨c, k⟩ := ck
      obtain ⟨b1, _⟩ := (hc.2 r m hr hm9).2 c k ((deq r m hr hm9).trans hd)
      rw [(new r m hr hm9 c k hd).1, b1, hJ0 0 (by omega), u2, ti]
      refine ⟨rfl, by omega, by omega, fun h9 => ?_⟩
      have := ((hdm r m hr hm9).1 c k hd).1.1
      rw [hw1.nr] at this
      omega
  · rw [j4, hJc, u2, e20]
  · rw [hz.nr] at hr
    have hr4' : r < 4 := by rw [hw1.nr] at hr4; omega
    rw [j0 _ (by omega), j0 _ (by omega), j0 _ (by omega)]
    cases hd : d' r m with
    | none =>
      obtain ⟨a1, a2, a3, a4⟩ := old r m hr4' hm9 hd
      have hk := (hc.2 r m hr4' hm9).1 ((deq r m hr4' hm9).trans hd)
      rw [a1] at hne
      rw [a2, a3, a4, hk 5 (by decide) (by decide), hk 6 (by decide) (by decide), hk 7 (by decide) (by decide), hJ0 _ (by omega), hJ0 _ (by omega), hJ0 _ (by omega)]
      exact u5 r m hr hm9 hne
    | some ck =>
      obtain ⟨c, k⟩ := ck
      obtain ⟨_, a2, a3, a4⟩ := new r m hr4' hm9 c k hd
      obtain ⟨_, b2, b3, b4⟩ := (hc.2 r m hr4' hm9).2 c k ((deq r m hr4' hm9).trans hd)
      rw [a2, a3, a4, b2, b3, b4]
      exact ⟨rfl, rfl, rfl⟩
  · rw [hz.nr] at hr
    have hr4' : r < 4 := by rw [hw1.nr] at hr4; omega
    rw [hz.nc, hz.na, hz.ar, hz.1 6 (by decide) (by decide)]
    cases hd : d' r m with
    | none =>
      obtain ⟨a1, a2, a3, a4⟩ := old r m hr4' hm9 hd
      rw [a1] at hne
      obtain ⟨c, c1, c2, c3, c4⟩ := u6 r m hr hm9 hne
      refine ⟨c, c1, by rw [a2]; exact c2, c3, fun a ha9 => ?_⟩
      obtain ⟨x, x1, x2, x3⟩ := c4 a ha9
      obtain ⟨g1, g2⟩ := (h.1.2.2.2 c c1).2.2.2
      have hna2 := g1
      have harr : dt_ar N c a < 4 := by have := (g2.1 a ha9).2.1; rw [hw1.nr] at hr4; omega
      refine ⟨x, x1, ?_, grow _ _ harr x1 x3⟩
      rcases (show a = 0 ∨ a = 1 by omega) with rfl | rfl
      · rw [Nat.add_zero] at x2 ⊢; rw [a3]; exact x2
      · rw [a4]; exact x2
    | some ck =>
      obtain ⟨c, k⟩ := ck
      obtain ⟨_, a2, a3, a4⟩ := new r m hr4' hm9 c k hd
      obtain ⟨_, ⟨w1, w2, w3, w4, w5⟩, _⟩ := (hdm r m hr4' hm9).1 c k hd
      obtain ⟨_, hn1, _, hn2⟩ := dt_n1_le n1w w1
      rw [hw1.nc] at w1
      rw [nrow 6 (by decide)] at w2
      refine ⟨c, w1, a2, w2, fun a ha9 => ?_⟩
      obtain ⟨g1, g2⟩ := (h.1.2.2.2 c w1).2.2.2
      have harr : dt_ar N c a < 4 := by have := (g2.1 a ha9).2.1; rw [hw1.nr] at hr4; omega
      have hbf : ∀ p, dt_bf N1 (dt_ar N1 c a) p → ¬ N 15 (16 * dt_ar N c a + p) = 0 := fun p hp h9 => by
        have := hp.1
        rw [nrow 15 (by decide), hw1.ar, h9, in_0] at this
        omega
      rcases (show a = 0 ∨ a = 1 by omega) with rfl | rfl
      · refine ⟨k / 16, by omega, ?_, grow _ _ harr (by omega) (hbf _ (w5.1.1 (by rw [hw1.na]; exact ha9)))⟩
        rw [Nat.add_zero, a3]
        unfold dt_on
        rw [hw1.na, if_pos ha9]
      · refine ⟨k % 16, by omega, ?_, grow _ _ harr (by omega) (hbf _ (w5.1.2 (by rw [hw1.na]; exact ha9)))⟩
        rw [a4]
        unfold dt_on
        rw [hw1.na, if_pos ha9]
  · rw [jo 8 (by decide) (by decide), hJc, mo 24 (by decide), hm.2.1 24 (by decide) (by decide) (by decide), nf0 24 (by decide)]
    exact u9
  all_goals (
    rcases u10 with ⟨a1, a2, a3, a4⟩ | ⟨c, ns, en, a1, _, a3, _⟩
    · first
      | (rw [mo 21 (by decide), hm.2.1 21 (by decide) (by decide) (by decide), nf0 21 (by decide)]; exact a1)
      | (rw [jo 6 (by decide) (by decide), hJc]; exact a2)
      | (rw [mo 30 (by decide), hm.2.1 30 (by decide) (by decide) (by decide), nf0 30 (by decide)]; exact a3)
      | (rw [j0 3 (by decide), hc.1 3 (by omega) (fun r j _ _ _ => by omega), hJ0 3 (by omega)]; exact a4)
      | (rw [mo 0 (by decide), hm.2.1 0 (by decide) (by decide) (by decide), nf0 0 (by decide)])
    · exfalso
      have := h.1.2.2.1
      rw [a1, in_eq, in_n (by omega)] at ha
      have : (-1 : Int32).toInt = -1 := by decide
      omega)
set_option maxHeartbeats 4000000 in
theorem sm_makeRound {ad ad' : Nat → Nat} {b : Nat} {I N : Mm} (h : Rl b I N) (hb : b < 1000000) (hv : N 0 23 = 0) (ha : N 0 21 = -1) {post : Int32 → Mm → Prop} (hk : ∀ (r : Int32) (J : Mm), sm_R (b + 1) (N 0 0) J r (w_X7_next (md_Y ad') N 0) → post r J) : w_X6_makeRound (cl_Y ad) I 0 post := by
  obtain ⟨N1, hN1⟩ : ∃ N1 : Mm, N1 = ky_up N 0 20 (N 0 20 + 1) := ⟨_, rfl⟩
  have hw1 : fz_F N N1 := fz_F.up0 (by decide) (by decide) hN1
  have n1w : dt_w N1 := hw1.w h.1
  have hr4 := n1w.1.2.1
  have h12 := n1w.2.2.1
  have hs1 : rl_s I N1 := hw1.s h.2.1
  have hh1 : rl_h I N1 := h.h hb (by rw [hN1]; exact ky_up_ne (by decide)) (by rw [hN1, ky_up_eq]; unfold upd; rw [if_pos rfl]; exact rl_toInt h hb)
  refine ⟨cy_0, dt_nc N1 + 1, p_alarm_L n1w hs1 hh1.q (fun J c k hJ hc h6 hk9 hls hno => ⟨cy_0, sm_alarmed h hb hv hN1 hJ hc h6 hk9 hls hno (fun J3 hJ3 => ⟨fun _ => ⟨cy_0, fun J' hJ' => hk 0 J' (hJ3 J' hJ')⟩, fun h9 => absurd h9 (by decide)⟩)⟩) (fun J hJ hno => ⟨fun h9 => absurd rfl h9, fun _ => ?_⟩) (dt_nc N1) 0 (by omega) I cs_F.rf (fun c' h9 => absurd h9 (Nat.not_lt_zero c'))⟩
  have hhJ : rl_h J N1 := by
    obtain ⟨a1, a2, a3⟩ := hh1
    unfold rl_h
    rw [hJ 0 (by omega)]
    exact ⟨fun r m hr hm => by rw [hJ _ (by omega)]; exact a1 r m hr hm, a2, a3⟩
  refine ⟨dt_nc N1 + 1, ?_⟩
  have hgo := p_reach_L (ad := ad) (post := post) (ex := fun k13 v14 I12 => ((¬ v14 = 0 → w_X6_makeRound_B42 (cl_Y ad) post k13 v14 I12) ∧ (v14 = 0 → (ky_is (cl_Y ad) k13 6 ∧ (∀ I16 : Mm, I16 = ky_up I12 k13 5 (1 : Int32) → w_X6_makeRound_B42 (cl_Y ad) post k13 v14 I16))))) n1w (hJ.s hs1) hhJ (fun L d hL hd => ?_) (dt_nc N1) 0 (by omega) J rc_0 rc_0m dt_dn_0
  · rw [rc_ct_0] at hgo
    exact hgo
  -- the class has reached d; the reference does too
  have hl0 : L 0 = I 0 := by rw [hL.1 0 (by omega) (fun r j _ _ _ => by omega), hJ 0 (by omega)]
  obtain ⟨_, _, _, u2, _, _, _, _, u7, _⟩ := id h
  have ref : ∀ (J' : Mm) (v : Int32), 0 ≤ v.toInt → (∀ a, a ≠ 0 → J' a = L a) → J' 0 4 = L 0 4 + 1 → J' 0 5 = v → (∀ j, j ≠ 4 → j ≠ 5 → J' 0 j = L 0 j) → v = (if rc_ct d 64 = 0 then 1 else 0) → sm_R (b + 1) (N 0 0) J' (nI (rc_ct d 64)) (w_X7_next (md_Y ad') N 0) := fun J' v hvv j0 j4 j5 jo hve post' hpost => by
    refine ⟨md_k0, fun N1' hN1' => ⟨dt_nc N1 + 1, ?_⟩⟩
    rw [← hN1] at hN1'
    subst hN1'
    refine m_alarm_L n1w (fun M c' p q hM hc' h6' hls' h37 h38 hno' => absurd hls'.2.2.1 (hno c' hc' h6' p q hls'.1 hls'.2.1)) (fun M hM hno' => ⟨16 * dt_nr N1' + 1, ?_⟩) (dt_nc N1') 0 (by omega) N1' md_G.rf (fun c' h9 => absurd h9 (Nat.not_lt_zero c'))
    have hgo := m_reach_L (ad := ad') (post := post') (ex := fun k43 v44 I42 => ((¬ v44 = 0 → (ky_is (md_Y ad') k43 7 ∧ (∀ I46 : Mm, I46 = ky_up I42 k43 23 (0 : Int32) → post' v44 I46))) ∧ (v44 = 0 → (ky_is (md_Y ad') k43 7 ∧ (∀ I48 : Mm, I48 = ky_up I42 k43 23 (1 : Int32) → post' v44 I48))))) n1w (fun M2 d' hM2 hd' => ?_) (16 * dt_nr N1') 0 (by omega) M rc_0 (rn_0.G hM) rn_ok_0 (fun r m _ _ h9 => absurd h9 (Nat.not_lt_zero _)) (fun r m _ _ _ => rfl)
    · rw [rc_ct_0] at hgo
      exact hgo
    have hct : rc_ct d' 64 = rc_ct d 64 := rc_ct_eq (fun r m hr hm => (dt_dn_eq hd hd' hr hm).symm) 64 (Nat.le_refl _)
    have hle := rc_ct_le d 64
    rw [hct]
    have fin : ∀ M3, M3 = ky_up M2 0 23 v → post' (nI (rc_ct d 64)) M3 := fun M3 h3 => by
      obtain ⟨g1, g2⟩ := sm_reached (M' := M3) h hb hv ha hN1 hJ hL hd hM2 hd' hvv j0 j4 j5 jo (fun a a0 => by rw [h3]; exact ky_up_ne a0) (by rw [h3, ky_up_eq]; unfold upd; rw [if_pos rfl]) (fun j hj => by rw [h3, ky_up_eq]; unfold upd; rw [if_neg hj])
      exact hpost M3 g1 g2
    refine ⟨fun h9 => ⟨md_k0, ?_⟩, fun h9 => ⟨md_k0, ?_⟩⟩
    · rw [in_e0 (by omega)] at h9
      rw [if_neg h9] at hve
      rw [hve] at fin
      exact fin
    · rw [in_e0 (by omega)] at h9
      rw [if_pos h9] at hve
      rw [hve] at fin
      exact fin
  have hle := rc_ct_le d 64
  refine ⟨fun h9 => ⟨cy_0, fun J' hJ' => hk _ J' ?_⟩, fun h9 => ⟨cy_0, fun L2 hL2 => ⟨cy_0, fun J' hJ' => hk _ J' ?_⟩⟩⟩
  · rw [in_e0 (by omega)] at h9
    refine ref J' 0 (by decide) (fun a a0 => by rw [hJ']; exact ky_up_ne a0) (by rw [hJ', ky_up_eq]; unfold upd; rw [if_pos rfl]) ?_ (fun j a1 _ => by rw [hJ', ky_up_eq]; unfold upd; rw [if_neg a1]) (by rw [if_neg h9])
    rw [hJ', ky_up_eq]
    unfold upd
    rw [if_neg (by decide), hl0, u7, hv]
  · rw [in_e0 (by omega)] at h9
    have e4 : L2 0 4 = L 0 4 := by rw [hL2, ky_up_eq]; unfold upd; rw [if_neg (by decide)]
    rw [e4] at hJ'
    refine ref J' 1 (by decide) (fun a a0 => by rw [hJ', ky_up_ne a0, hL2, ky_up_ne a0]) (by rw [hJ', ky_up_eq]; unfold upd; rw [if_pos rfl]) (by rw [hJ', ky_up_eq]; unfold upd; rw [if_neg (by decide), hL2, ky_up_eq]; unfold upd; rw [if_pos rfl]) (fun j a1 a2 => by rw [hJ', ky_up_eq]; unfold upd; rw [if_neg a1, hL2, ky_up_eq]; unfold upd; rw [if_neg a2]) (by rw [if_pos h9])
