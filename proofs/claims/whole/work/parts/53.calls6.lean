/-! CALLS that only look: follows, cube -/
theorem md_E_nil {N J : Mm} (h : J = ky_up N 0 25 0) : md_E J [] := ⟨by rw [ky_up_f h]; rfl, by decide, fun k e he => by cases he⟩
theorem fn_F.st {N J : Mm} {v : Int32} (h : J = ky_up N 0 25 v) : fn_F N J := ⟨fun a a0 _ _ _ _ _ _ => by rw [h]; exact ky_up_ne a0, fun j _ h1 _ _ => ky_up_o h h1⟩
theorem fn_F.of22 {N J : Mm} (h : ∀ a, a ≠ 22 → J a = N a) : fn_F N J := ⟨fun a _ _ _ _ _ a5 _ => h a a5, fun j _ _ _ _ => by rw [h 0 (by decide)]⟩
set_option maxHeartbeats 2000000 in
theorem sm_follows {ad ad' : Nat → Nat} {b : Nat} {I N : Mm} (h : Rl b I N) {v1 v2 v3 : Int32} {post : Int32 → Mm → Prop} {xp : String → Mm → Prop} (hk : ∀ (r : Int32) (J : Mm), sm_R b 0 J r (w_X7_follows (md_Y ad') N 0 v1 v2 v3) → post r J) (hx1 : ∀ J, sm_X b 1 J (w_X7_follows (md_Y ad') N 0 v1 v2 v3) → xp "java/lang/IllegalArgumentException" J) (hx2 : ∀ J, sm_X b 2 J (w_X7_follows (md_Y ad') N 0 v1 v2 v3) → xp "java/lang/ArithmeticException" J) (hx3 : ∀ J, sm_X b 3 J (w_X7_follows (md_Y ad') N 0 v1 v2 v3) → xp "java/util/NoSuchElementException" J) : w_X6_follows (cl_Y ad) I 0 v1 v2 v3 post xp := by
  obtain ⟨hw, hs, hu⟩ := id h
  have h12 := hw.2.2.1
  have bad : ¬ ((0 ≤ v1.toInt ∧ v1.toInt < dt_nc N) ∧ tp_ok v2 v3) → sm_X b 1 I (w_X7_follows (md_Y ad') N 0 v1 v2 v3) := fun hno post' hp => by
    have b43 : w_X7_follows_B43 (md_Y ad') post' 0 v1 v2 v3 1 0 N := ⟨md_k0, fun N' e0 => ⟨md_k0, fun h9 => absurd (by rw [ky_up_f e0] at h9; exact h9) (by decide), fun _ => hp N' 0 (h.fn (fn_F.code e0)) (ky_up_f e0)⟩⟩
    refine ⟨md_k0, m_in (fun a1 a2 => ⟨fun h9 => absurd h9 (by decide), fun _ => m_in (fun b1 b2 => ⟨fun h9 => absurd h9 (by decide), fun _ => m_in (fun c1 c2 => ⟨fun h9 => absurd h9 (by decide), fun _ => ⟨fun _ => b43, fun e => ?_⟩⟩) (fun _ => ⟨fun _ => b43, fun h9 => absurd rfl h9⟩)⟩) (fun _ => ⟨fun _ => b43, fun h9 => absurd rfl h9⟩)⟩) (fun _ => ⟨fun _ => b43, fun h9 => absurd rfl h9⟩)⟩
    rw [in_0] at a1 b1 c1
    rw [in_v5] at b2 c2
    rw [hw.2.1, in_n1 (by omega)] at a2
    exact absurd ⟨⟨a1, by omega⟩, ⟨b1, b2⟩, ⟨c1, c2⟩, e⟩ hno
  refine ⟨fun g => hx1 I (bad (fun h9 => by rw [in_lt, in_0] at g; omega)), fun g => ⟨cy_0, ?_⟩⟩
  rw [hs.2.1, hw.2.1]
  refine ⟨fun g2 => hx1 I (bad (fun h9 => by rw [in_le, in_n (by omega)] at g2; omega)), fun g2 => p_areTwoPoints (fun htp => ⟨fun _ => ?_, fun h9 => absurd h9 (by decide)⟩) (fun hno => ⟨fun h9 => absurd rfl h9, fun _ => hx1 I (bad (fun h9 => hno h9.2))⟩)⟩
  rw [in_lt, in_0] at g
  rw [in_le, in_n (by omega)] at g2
  obtain ⟨c, hc, rfl⟩ := in_of (x := v1) (n := dt_nc N) (by omega) (by omega)
  obtain ⟨u, hu6, rfl⟩ := tp_n htp.1
  obtain ⟨v, hv6, rfl⟩ := tp_n htp.2.1
  have r7 := (hs.2.2.1 c hc).2.2.2.2.2.2
  have hsm := dt_bE_ok hw hc
  -- the reference up to the bounds
  have ref : ∀ (post' : Int32 → Mm → Prop), (∀ J : Mm, Rl b I J → J 0 0 = 0 → md_E J (dt_bE N c 0 5) → w_X7_holdsTogether (md_Y ad') J 0 6 (fun r10 I9 => ((¬ r10 = 0 → w_X7_least (md_Y ad') I9 0 6 (nI u) (nI v) (fun r12 I11 => ((¬ r12 = (1000000000 : Int32) → post' r12 I11) ∧ (r12 = (1000000000 : Int32) → w_X7_fails (md_Y ad') I11 0 3 (fun r14 I13 => post' r14 I13))))) ∧ (r10 = 0 → w_X7_fails (md_Y ad') I9 0 2 (fun r17 I16 => post' r17 I16))))) → w_X7_follows (md_Y ad') N 0 (nI c) (nI u) (nI v) post' := fun post' hp => by
    refine ⟨md_k0, m_in (fun a1 a2 => ⟨fun h9 => absurd h9 (by decide), fun _ => m_in (fun b1 b2 => ⟨fun h9 => absurd h9 (by decide), fun _ => m_in (fun c1 c2 => ⟨fun h9 => absurd h9 (by decide), fun _ => ⟨fun e => absurd e htp.2.2, fun _ => ⟨md_k0, fun N' e0 => ⟨md_k0, fun _ N2 e2 => ?_, fun h9 => absurd (by rw [ky_up_f e0]; decide) h9⟩⟩⟩⟩) (fun h9 => absurd (by rw [in_0, in_v5]; exact htp.2.1) h9)⟩) (fun h9 => absurd (by rw [in_0, in_v5]; exact htp.1) h9)⟩) (fun h9 => absurd (by rw [hw.2.1, in_n1 (by omega), in_n (by omega), in_0]; omega) h9)⟩
    have f0 := fn_F.code e0
    have f2 := fn_F.st e2
    have f02 := f0.tr f2
    refine m_addBounds (at9 := 0) (z := 5) (f02.w hw) (by rw [f02.nc]; exact hc) (by decide) (by decide) (md_E_nil e2) ?_ (fun J hJ hE => hp J ((h.fn f02).fn hJ.fn) ?_ ?_)
    · show 0 + _ ≤ 800
      have := ((f02.w hw).2.2.2 c (by rw [f02.nc]; exact hc)).2.2.2.2.2.2.1
      omega
    · rw [hJ.2 0 (by decide), ky_up_o e2 (by decide), ky_up_f e0]
    · rw [f02.bE] at hE
      exact hE
  refine ⟨cy_2, vp_in_nI (N := 12) (by omega) (by decide), ?_⟩
  rw [cy_p2, in_c (by omega), cy_cla, cy_rc3 (by omega)]
  refine ⟨cy_kc (by omega), fun q7 hq7 => ?_⟩
  subst hq7
  refine ⟨(cy_Bo (by omega)).1, fun ht => ?_, fun ht => hx2 I (fun post' hp => ref post' (fun J hJ h0 hE => m_holds (nv := 6) hsm.md hE (fun K r hK hr => ?_)))⟩
  · rcases r7 with ⟨t1, hC⟩ | ⟨t0, _⟩
    · refine p_leastOf (cy_Bo (by omega)) hu6 hv6 ?_
      rw [show 172 + 7 * c + 1 = 173 + 7 * c by omega] at hC ⊢
      have hM : ∀ x : Int32, md_o x = cl_M (I (173 + 7 * c)) u v → x = I (173 + 7 * c) (u * 6 + v) := fun x hx => md_o_inj hx
      refine ⟨fun hne => hk _ I (fun post' hp => ref post' (fun J hJ h0 hE => m_holds (nv := 6) hsm.md hE (fun K r hK hr => ?_))), fun hfr => hx3 I (fun post' hp => ref post' (fun J hJ h0 hE => m_holds (nv := 6) hsm.md hE (fun K r hK hr => ?_)))⟩
      · rcases hr with ⟨rfl, _⟩ | ⟨_, hn⟩
        · refine ⟨fun _ => m_least (nv := 6) hsm.md hC (md_E_keep hE (hK 0 (by decide)) (hK 19 (by decide)) (hK 20 (by decide)) (hK 21 (by decide))) hu6 hv6 (fun L x hL hx => ?_), fun h9 => absurd h9 (by decide)⟩
          rw [hM x hx]
          refine ⟨fun _ => hp L ((hJ.fn (fn_F.of22 hK)).fn (fn_F.of22 hL)) (by rw [hL 0 (by decide), hK 0 (by decide)]; exact h0), fun h9 => absurd h9 hne⟩
        · exact absurd (df_C_S hC hsm.P) hn
      · rcases hr with ⟨rfl, _⟩ | ⟨_, hn⟩
        · refine ⟨fun _ => m_least (nv := 6) hsm.md hC (md_E_keep hE (hK 0 (by decide)) (hK 19 (by decide)) (hK 20 (by decide)) (hK 21 (by decide))) hu6 hv6 (fun L x hL hx => ?_), fun h9 => absurd h9 (by decide)⟩
          rw [hM x hx]
          refine ⟨fun h9 => absurd hfr h9, fun _ => ⟨md_k0, fun N3 e3 => hp N3 0 (((hJ.fn (fn_F.of22 hK)).fn (fn_F.of22 hL)).fn (fn_F.code e3)) (ky_up_f e3)⟩⟩
        · exact absurd (df_C_S hC hsm.P) hn
    · exact absurd t0 ht
  · rcases r7 with ⟨t1, _⟩ | ⟨_, hn⟩
    · rw [t1] at ht; exact absurd ht (by decide)
    · rcases hr with ⟨_, hy⟩ | ⟨rfl, _⟩
      · exact absurd hy hn
      · exact ⟨fun h9 => absurd rfl h9, fun _ => ⟨md_k0, fun N3 e3 => hp N3 0 ((hJ.fn (fn_F.of22 hK)).fn (fn_F.code e3)) (ky_up_f e3)⟩⟩
set_option maxHeartbeats 4000000 in
theorem sm_cube {ad ad' : Nat → Nat} {b : Nat} {I N : Mm} (h : Rl b I N) {v1 v2 v3 : Int32} {post : Int32 → Mm → Prop} {xp : String → Mm → Prop} (hk : ∀ (r : Int32) (J : Mm), sm_R b 0 J r (w_X7_cube (md_Y ad') N 0 v1 v2 v3) → post r J) (hx1 : ∀ J, sm_X b 1 J (w_X7_cube (md_Y ad') N 0 v1 v2 v3) → xp "java/lang/IllegalArgumentException" J) : w_X6_cube (cl_Y ad) I 0 v1 v2 v3 post xp := by
  obtain ⟨hw, hs, u1, u2, u3, u4, u5, u6, u7, u8, u9, u10⟩ := id h
  have hr4 := hw.1.2.1
  have b48 : ∀ (post' : Int32 → Mm → Prop), (∀ (M : Mm) (r : Int32), Rl b I M → M 0 0 = 1 → post' r M) → ∀ N', fn_F N N' → w_X7_cube_B48 (md_Y ad') post' 0 N' := fun post' hp N' f0 => ⟨md_k0, md_k0, fun N2 e2 => hp N2 0 ((h.fn f0).fn (fn_F.code e2)) (ky_up_f e2)⟩
  have bad1 : ∀ (post' : Int32 → Mm → Prop), (∀ (M : Mm) (r : Int32), Rl b I M → M 0 0 = 1 → post' r M) → w_X7_cube_B23 (md_Y ad') post' 0 v1 v2 v3 1 0 N := fun post' hp => ⟨md_k0, fun N' e0 => ⟨md_k0, fun _ => b48 post' hp N' (fn_F.code e0), fun h9 => absurd (by rw [ky_up_f e0]; decide) h9⟩⟩
  refine ⟨cy_0, p_isRelation hw hs.1 (fun r hr hv => ⟨fun h9 => absurd h9 (by decide), fun _ => ?_⟩) (fun hno => ⟨fun _ => hx1 I (fun post' hp => ⟨md_k0, m_isRelation hw (fun r hr hv => absurd ⟨r, hr, hv⟩ hno) (fun _ => ⟨fun _ => bad1 post' hp, fun h9 => absurd rfl h9⟩)⟩), fun h9 => absurd rfl h9⟩)⟩
  subst hv
  have hin : ∀ (p : Int32 → Mm → Prop), p 1 N → w_X7_isRelation (md_Y ad') N 0 (nI r) p := fun p hp => m_isRelation hw (fun _ _ _ => hp) (fun h9 => absurd ⟨r, hr, rfl⟩ h9)
  obtain ⟨n1, n2, _⟩ := hw.1.2.2.2.1 r (by omega)
  have h16 := dt_p16 n2
  -- the reference up to its question about the cube
  have b23 : ∀ (post' : Int32 → Mm → Prop), (∀ N', N' = ky_up N 0 0 0 → (0 ≤ v2.toInt → v2.toInt < 2 ^ dt_nm N r → (∀ x14 : Int32, x14 = ((16 : Int32) * nI r) + v2 → ((¬ v3 = (4 : Int32) → ((¬ v3 = 0 → (ky_is (md_Y ad') (ky_rp (md_Y ad') 0 17) 8 ∧ (vp_in x14 (ky_ln (md_Y ad') (ky_rp (md_Y ad') 0 17)) ∧ ((¬ (N' (ky_rp (md_Y ad') 0 17) x14.toNatClampNeg) = 0 → ((¬ v3 = (1 : Int32) → (ky_is (md_Y ad') (ky_rp (md_Y ad') 0 19) 8 ∧ (vp_in ((((2 : Int32) * x14) + v3) - (2 : Int32)) (ky_ln (md_Y ad') (ky_rp (md_Y ad') 0 19)) ∧ post' (N' (ky_rp (md_Y ad') 0 19) ((((2 : Int32) * x14) + v3) - (2 : Int32)).toNatClampNeg) N'))) ∧ (v3 = (1 : Int32) → (ky_is (md_Y ad') (ky_rp (md_Y ad') 0 18) 8 ∧ (vp_in x14 (ky_ln (md_Y ad') (ky_rp (md_Y ad') 0 18)) ∧ post' (N' (ky_rp (md_Y ad') 0 18) x14.toNatClampNeg) N'))))) ∧ ((N' (ky_rp (md_Y ad') 0 17) x14.toNatClampNeg) = 0 → post' (-1 : Int32) N'))))) ∧ (v3 = 0 → (ky_is (md_Y ad') (ky_rp (md_Y ad') 0 17) 8 ∧ (vp_in x14 (ky_ln (md_Y ad') (ky_rp (md_Y ad') 0 17)) ∧ post' (N' (ky_rp (md_Y ad') 0 17) x14.toNatClampNeg) N'))))) ∧ (v3 = (4 : Int32) → (∀ I26 : Mm, I26 = ky_up N' 0 25 (0 : Int32) → w_X7_addCube (md_Y ad') I26 0 (nI r) v2 (0 : Int32) (1 : Int32) (5 : Int32) (fun I27 => w_X7_holdsTogether (md_Y ad') I27 0 (6 : Int32) (fun r29 I28 => ((r29 = 0 → post' (0 : Int32) I28) ∧ (¬ r29 = 0 → post' (1 : Int32) I28))))))))) ∧ (¬ (0 ≤ v2.toInt ∧ v2.toInt < 2 ^ dt_nm N r) → w_X7_cube_B48 (md_Y ad') post' 0 N')) → w_X7_cube_B23 (md_Y ad') post' 0 (nI r) v2 v3 0 0 N := fun post' hp => by
    refine ⟨md_k0, fun N' e0 => ⟨md_k0, fun h9 => absurd h9 (by rw [ky_up_f e0]; decide), fun _ => ?_⟩⟩
    have f0 := fn_F.code e0
    refine m_cubesOf (f0.w hw) (by rw [f0.nr]; exact hr) ?_
    rw [f0.nm]
    refine m_in (fun a1 a2 => ⟨fun _ => (hp N' e0).1 ?_ ?_, fun h9 => absurd h9 (by decide)⟩) (fun a1 => ⟨fun h9 => absurd rfl h9, fun _ => (hp N' e0).2 (fun h9 => a1 ?_)⟩)
    · rw [in_0] at a1; exact a1
    · rw [in_n1 (by omega)] at a2
      have : (2 ^ dt_nm N r : Int) = ((2 ^ dt_nm N r : Nat) : Int) := by simp
      omega
    · rw [in_n1 (by omega), in_0]
      have : (2 ^ dt_nm N r : Int) = ((2 ^ dt_nm N r : Nat) : Int) := by simp
      omega
  have hpow : (2 ^ dt_nm N r : Int) = ((2 ^ dt_nm N r : Nat) : Int) := by simp
  have bad : ¬ ((0 ≤ v2.toInt ∧ v2.toInt < 2 ^ dt_nm N r) ∧ 0 ≤ v3.toInt ∧ v3.toInt ≤ 4) → sm_X b 1 I (w_X7_cube (md_Y ad') N 0 (nI r) v2 v3) := fun hno post' hp => by
    refine ⟨md_k0, hin _ ⟨fun h9 => absurd h9 (by decide), fun _ => m_in (fun a1 a2 => ⟨fun h9 => absurd h9 (by decide), fun _ => b23 post' (fun N' e0 => ⟨fun c1 c2 => ?_, fun _ => b48 post' hp N' (fn_F.code e0)⟩)⟩) (fun _ => ⟨fun _ => bad1 post' hp, fun h9 => absurd rfl h9⟩)⟩⟩
    rw [in_0] at a1
    rw [in_4] at a2
    exact absurd ⟨⟨c1, c2⟩, a1, a2⟩ hno
  refine ⟨fun g => hx1 I (bad (fun h9 => by rw [in_lt, in_0] at g; omega)), fun g => ⟨cy_1, vp_in_nI (N := 4) (by omega) (by decide), ?_⟩⟩
  rw [in_lt, in_0] at g
  rw [cy_p0, in_c (by omega), cy_rel]
  refine ⟨cy_kr (by omega), p_cubes hw hs.1 hr ⟨fun g2 => hx1 I (bad (fun h9 => by rw [in_le, in_n (by omega)] at g2; omega)), fun g2 => ⟨fun g3 => hx1 I (bad (fun h9 => by rw [in_lt, in_0] at g3; omega)), fun g3 => ⟨fun g4 => ?_, fun g4 => hx1 I (bad (fun h9 => by rw [in_le, in_4] at g4; omega))⟩⟩⟩⟩
  rw [in_le, in_n (by omega)] at g2
  rw [in_lt, in_0] at g3
  rw [in_le, in_4] at g4
  obtain ⟨m, hm, rfl⟩ := in_of (x := v2) (n := 2 ^ dt_nm N r) (by omega) (by omega)
  have hm16 : m < 16 := by omega
  intro q9 hq9
  subst hq9
  have yes : ∀ (post' : Int32 → Mm → Prop), (∀ N', N' = ky_up N 0 0 0 → (¬ v3 = (4 : Int32) → ((¬ v3 = 0 → ((¬ (N 15 (16 * r + m)) = 0 → ((¬ v3 = (1 : Int32) → (¬ v3 = 2 → post' (N 17 (2 * (16 * r + m) + 1)) N') ∧ (v3 = 2 → post' (N 17 (2 * (16 * r + m))) N')) ∧ (v3 = (1 : Int32) → post' (N 16 (16 * r + m)) N'))) ∧ ((N 15 (16 * r + m)) = 0 → post' (-1 : Int32) N'))) ∧ (v3 = 0 → post' (N 15 (16 * r + m)) N'))) ∧ (v3 = (4 : Int32) → ∀ J : Mm, Rl b I J → J 0 0 = 0 → md_E J (dt_cE N r 5 0 1 m) → w_X7_holdsTogether (md_Y ad') J 0 (6 : Int32) (fun r29 I28 => ((r29 = 0 → post' (0 : Int32) I28) ∧ (¬ r29 = 0 → post' (1 : Int32) I28))))) → w_X7_cube (md_Y ad') N 0 (nI r) (nI m) v3 post' := fun post' hp => by
    refine ⟨md_k0, hin _ ⟨fun h9 => absurd h9 (by decide), fun _ => m_in (fun _ _ => ⟨fun h9 => absurd h9 (by decide), fun _ => b23 post' (fun N' e0 => ⟨fun _ _ x14 hx14 => ?_, fun h9 => absurd (by rw [in_n (by omega)]; omega) h9⟩)⟩) (fun h9 => absurd (by rw [in_0, in_4]; omega) h9)⟩⟩
    rw [in_mul16, nI_add] at hx14
    subst hx14
    have o15 : N' 15 = N 15 := by rw [e0]; exact ky_up_ne (by decide)
    have o16 : N' 16 = N 16 := by rw [e0]; exact ky_up_ne (by decide)
    have o17 : N' 17 = N 17 := by rw [e0]; exact ky_up_ne (by decide)
    rw [md_r17, md_r18, md_r19, in_c (by omega), o15, o16, o17]
    obtain ⟨p1, p2⟩ := hp N' e0
    refine ⟨fun h4 => ⟨fun h0 => ⟨md_k15, vp_in_nI (N := 64) (by omega) (by decide), fun hne => ⟨fun h1 => ⟨md_k17, ?_⟩, fun h1 => ⟨md_k16, vp_in_nI (N := 64) (by omega) (by decide), (((p1 h4).1 h0).1 hne).2 h1⟩⟩, fun he => ((p1 h4).1 h0).2 he⟩, fun h0 => ⟨md_k15, vp_in_nI (N := 64) (by omega) (by decide), (p1 h4).2 h0⟩⟩, fun h4 N2 e2 => ?_⟩
    · by_cases h2 : v3 = 2
      · have e9 : (2 : Int32) * nI (16 * r + m) + v3 - 2 = nI (2 * (16 * r + m)) := by
          rw [h2, in_mul2, in_eq, in_sub, in_add, in_n (by omega), in_2]
          · omega
          all_goals (try rw [in_add]) <;> (try rw [in_n (by omega), in_2]) <;> omega
        rw [e9, in_c (by omega)]
        exact ⟨vp_in_nI (N := 128) (by omega) (by decide), ((((p1 h4).1 h0).1 hne).1 h1).2 h2⟩
      · have h3 : v3 = 3 := by
          rw [in_eq]
          rw [in_eq, in_0] at h0
          rw [in_eq, in_1] at h1
          rw [in_eq, in_2] at h2
          rw [in_eq, in_4] at h4
          have : (3 : Int32).toInt = 3 := by decide
          omega
        have t3 : (3 : Int32).toInt = 3 := by decide
        have e9 : (2 : Int32) * nI (16 * r + m) + v3 - 2 = nI (2 * (16 * r + m) + 1) := by
          rw [h3, in_mul2, in_eq, in_sub, in_add, in_n (by omega), in_n (by omega), in_2, t3]
          · omega
          all_goals (try rw [in_add]) <;> (try rw [in_n (by omega), t3]) <;> (try rw [in_2]) <;> omega
        rw [e9, in_c (by omega)]
        exact ⟨vp_in_nI (N := 128) (by omega) (by decide), ((((p1 h4).1 h0).1 hne).1 h1).1 h2⟩
    · have f02 := (fn_F.code e0).tr (fn_F.st e2)
      refine m_addCube (x := 0) (y := 1) (z := 5) (f02.w hw) (by rw [f02.nr]; exact hr) hm16 (md_E_nil e2) (by decide) (fun J hJ hE => p2 h4 J ((h.fn f02).fn hJ.fn) ?_ ?_)
      · rw [hJ.2 0 (by decide), ky_up_o e2 (by decide), ky_up_f e0]
      · have : dt_cE N2 = dt_cE N := by
          funext r z x y cube
          unfold dt_cE dt_me dt_nm
          rw [f02.row (a := 2) (by decide) (by decide), f02.row (a := 3) (by decide) (by decide), f02.row (a := 4) (by decide) (by decide), f02.row (a := 5) (by decide) (by decide)]
        rw [this] at hE
        exact hE
  obtain ⟨a4, b4⟩ := cy_krh (ad := ad) (r := r) (j := 4) (by omega) (by decide) (by decide)
  obtain ⟨a5, b5⟩ := cy_krh (ad := ad) (r := r) (j := 5) (by omega) (by decide) (by decide)
  obtain ⟨a6, b6⟩ := cy_krh (ad := ad) (r := r) (j := 6) (by omega) (by decide) (by decide)
  obtain ⟨a7, b7⟩ := cy_krh (ad := ad) (r := r) (j := 7) (by omega) (by decide) (by decide)
  have hi : vp_in (nI m) 16 := vp_in_nI (by omega) (by decide)
  have hh := (u1 r m (by omega) hm16).1
  rw [cy_rr (by omega) (by decide) (by decide), cy_rr (by omega) (by decide) (by decide), cy_rr (by omega) (by decide) (by decide), cy_rr (by omega) (by decide) (by decide), show 5 - 1 = 4 from rfl, show 6 - 1 = 5 from rfl, show 7 - 1 = 6 from rfl, show 8 - 1 = 7 from rfl, b4, b5, b6, b7, in_c (by omega), hh]
  have base : ∀ N', N' = ky_up N 0 0 0 → Rl b I N' ∧ N' 0 0 = 0 := fun N' e0 => ⟨h.fn (fn_F.code e0), ky_up_f e0⟩
  refine ⟨fun h0 => ⟨fun h4 => ⟨cy_kr (by omega), a4, hi, fun hne => ?_, fun he => hk _ I (fun post' hp => yes post' (fun N' e0 => ⟨fun _ => ⟨fun _ => ⟨fun h9 => absurd he h9, fun _ => hp N' (base N' e0).1 (base N' e0).2⟩, fun h9 => absurd h9 h0⟩, fun h9 => absurd h9 h4⟩))⟩, fun h4 => ⟨cy_B3.1, p_clear cy_B3 (fun J1 hJ1 hS1 => ⟨cy_kr (by omega), ?_⟩)⟩⟩, fun h0 => ⟨cy_kr (by omega), a4, hi, hk _ I (fun post' hp => yes post' (fun N' e0 => ⟨fun _ => ⟨fun h9 => absurd h0 h9, fun _ => hp N' (base N' e0).1 (base N' e0).2⟩, fun h9 => absurd h0 (by rw [h9]; decide)⟩))⟩⟩
  · obtain ⟨y5, y6, y7⟩ := u5 r m hr hm16 hne
    rw [y5, y6, y7]
    refine ⟨fun h1 => ⟨fun h2 => ⟨a7, hi, hk _ I (fun post' hp => yes post' (fun N' e0 => ⟨fun _ => ⟨fun _ => ⟨fun _ => ⟨fun _ => ⟨fun _ => hp N' (base N' e0).1 (base N' e0).2, fun h9 => absurd h9 h2⟩, fun h9 => absurd h9 h1⟩, fun h9 => absurd h9 hne⟩, fun h9 => absurd h9 h0⟩, fun h9 => absurd h9 h4⟩))⟩, fun h2 => ⟨a6, hi, hk _ I (fun post' hp => yes post' (fun N' e0 => ⟨fun _ => ⟨fun _ => ⟨fun _ => ⟨fun _ => ⟨fun h9 => absurd h2 h9, fun _ => hp N' (base N' e0).1 (base N' e0).2⟩, fun h9 => absurd h9 h1⟩, fun h9 => absurd h9 hne⟩, fun h9 => absurd h9 h0⟩, fun h9 => absurd h9 h4⟩))⟩⟩, fun h1 => ⟨a5, hi, hk _ I (fun post' hp => yes post' (fun N' e0 => ⟨fun _ => ⟨fun _ => ⟨fun _ => ⟨fun h9 => absurd h1 h9, fun _ => hp N' (base N' e0).1 (base N' e0).2⟩, fun h9 => absurd h9 hne⟩, fun h9 => absurd h9 h0⟩, fun h9 => absurd h9 h4⟩))⟩⟩
  · have hcs := cs_F.of hJ1 (by decide) (by decide)
    have hsm0 : cl_sm 1001 [] := fun e he => by cases he
    refine p_restrict (x := 0) (y := 1) hw (hcs.r hs.1) hr hm16 (by decide) (by decide) cy_B3 (by decide) (by decide) hS1 hsm0 (fun J2 hJ2 hS2 => ?_)
    have hok : cl_sm 1001 (dt_cE N r 5 0 1 m) := dt_cE_ok hw hr (by decide) (by decide)
    rw [List.nil_append] at hS2
    have hR := (h.fi hcs.fi).fi (cs_F.of hJ2 (by decide) (by decide)).fi
    rw [cy_p11]
    have tail : ∀ x : Int32, ((x = 1 ∧ df_S (dt_cE N r 5 0 1 m)) ∨ (x = 0 ∧ ¬ df_S (dt_cE N r 5 0 1 m))) → sm_R b 0 J2 x (w_X7_cube (md_Y ad') N 0 (nI r) (nI m) v3) := fun x hx post' hp => yes post' (fun N' e0 => ⟨fun h9 => absurd h4 h9, fun _ J hJ hJ0 hE => m_holds (nv := 6) hok.md hE (fun K y hK hy => by
      have hRK : Rl b J2 K := by
        have h1 := hJ.fn (fn_F.of22 hK)
        exact (h1.fi hcs.fi).fi (cs_F.of hJ2 (by decide) (by decide)).fi
      have hxy : y = x := by
        rcases hx with ⟨rfl, hx⟩ | ⟨rfl, hx⟩ <;> rcases hy with ⟨rfl, hy⟩ | ⟨rfl, hy⟩
        · rfl
        · exact absurd hx hy
        · exact absurd hy hx
        · rfl
      have hfin := hp K hRK (by rw [hK 0 (by decide)]; exact hJ0)
      rw [← hxy] at hfin
      rcases hy with ⟨rfl, _⟩ | ⟨rfl, _⟩
      · exact ⟨fun h9 => absurd h9 (by decide), fun _ => hfin⟩
      · exact ⟨fun _ => hfin, fun h9 => absurd rfl h9⟩)⟩)
    rcases cl_S_fl hok.P hS2 with ⟨f1, f2⟩ | ⟨f1, f2⟩
    · exact ⟨fun h9 => absurd (f1.symm.trans h9) (by decide), fun _ => hk _ J2 (tail 1 (Or.inl ⟨rfl, f2⟩))⟩
    · exact ⟨fun _ => hk _ J2 (tail 0 (Or.inr ⟨rfl, f2⟩)), fun h9 => absurd f1 h9⟩
