/-! CALLS that only look: state, shown, node, follows, cube -/
theorem sm_state {ad ad' : Nat → Nat} {b : Nat} {I N : Mm} (h : Rl b I N) {v : Int32} {post : Int32 → Mm → Prop} (hk : ∀ (r : Int32) (J : Mm), sm_R b 0 J r (w_X7_state (md_Y ad') N 0 v) → post r J) : w_X6_state (cl_Y ad) I 0 v post := by
  obtain ⟨hw, hs, u1, u2, u3, u4, u5, u6, u7, u8, u9, u10⟩ := id h
  have e6 : I 0 6 = N 0 21 := by
    rcases u10 with ⟨a1, a2, _⟩ | ⟨c, ns, en, a1, a2, _⟩
    · rw [a1, a2]
    · rw [a1, a2]
  have e31 : I 3 1 = N 0 30 := by
    rcases u10 with ⟨_, _, a3, a4⟩ | ⟨c, ns, en, _, _, _, a4, a5, _⟩
    · rw [a3, a4]
    · rw [a4, a5]
  have go : ∀ (r : Int32), (∀ N2, N2 = ky_up N 0 0 0 → ∀ post' : Int32 → Mm → Prop, post' r N2 → (((v.toInt < 0 ∨ 6 < v.toInt) → post' (-1 : Int32) N2) ∧ (v.toInt = 0 → post' (N2 0 1) N2) ∧ (v.toInt = 1 → post' (N2 0 7) N2) ∧ (v.toInt = 2 → post' (N2 0 23) N2) ∧ (v.toInt = 3 → post' (N2 0 20) N2) ∧ (v.toInt = 4 → post' (N2 0 21) N2) ∧ (v.toInt = 5 → post' (N2 0 30) N2) ∧ (v.toInt = 6 → post' (N2 0 24) N2))) → post r I := fun r hr => hk r I (fun post' hp => ⟨md_k0, fun N2 e2 => hr N2 e2 post' (hp N2 (h.fn (fn_F.code e2)) (ky_up_f e2))⟩)
  refine ⟨fun hv => go _ (fun N2 e2 post' hp => ?_), fun hv => ⟨cy_0, go _ (fun N2 e2 post' hp => ?_)⟩, fun hv => ⟨cy_0, go _ (fun N2 e2 post' hp => ?_)⟩, fun hv => ⟨cy_0, go _ (fun N2 e2 post' hp => ?_)⟩, fun hv => ⟨cy_0, go _ (fun N2 e2 post' hp => ?_)⟩, fun hv => ⟨cy_0, go _ (fun N2 e2 post' hp => ?_)⟩, fun hv => ⟨cy_0, cy_3, go _ (fun N2 e2 post' hp => ?_)⟩, fun hv => ⟨cy_0, go _ (fun N2 e2 post' hp => ?_)⟩⟩
  · refine ⟨fun _ => hp, fun h9 => ?_, fun h9 => ?_, fun h9 => ?_, fun h9 => ?_, fun h9 => ?_, fun h9 => ?_, fun h9 => ?_⟩ <;> (exfalso; omega)
  · rw [hs.1.1] at hp
    refine ⟨fun h9 => by exfalso; omega, fun _ => by rw [ky_up_o e2 (by decide)]; exact hp, fun h9 => ?_, fun h9 => ?_, fun h9 => ?_, fun h9 => ?_, fun h9 => ?_, fun h9 => ?_⟩ <;> (exfalso; omega)
  · rw [hs.2.1] at hp
    refine ⟨fun h9 => by exfalso; omega, fun h9 => by exfalso; omega, fun _ => by rw [ky_up_o e2 (by decide)]; exact hp, fun h9 => ?_, fun h9 => ?_, fun h9 => ?_, fun h9 => ?_, fun h9 => ?_⟩ <;> (exfalso; omega)
  · rw [u7] at hp
    refine ⟨fun h9 => by exfalso; omega, fun h9 => by exfalso; omega, fun h9 => by exfalso; omega, fun _ => by rw [ky_up_o e2 (by decide)]; exact hp, fun h9 => ?_, fun h9 => ?_, fun h9 => ?_, fun h9 => ?_⟩ <;> (exfalso; omega)
  · rw [u2] at hp
    refine ⟨fun h9 => by exfalso; omega, fun h9 => by exfalso; omega, fun h9 => by exfalso; omega, fun h9 => by exfalso; omega, fun _ => by rw [ky_up_o e2 (by decide)]; exact hp, fun h9 => ?_, fun h9 => ?_, fun h9 => ?_⟩ <;> (exfalso; omega)
  · rw [e6] at hp
    refine ⟨fun h9 => by exfalso; omega, fun h9 => by exfalso; omega, fun h9 => by exfalso; omega, fun h9 => by exfalso; omega, fun h9 => by exfalso; omega, fun _ => by rw [ky_up_o e2 (by decide)]; exact hp, fun h9 => ?_, fun h9 => ?_⟩ <;> (exfalso; omega)
  · rw [cy_p7, e31] at hp
    refine ⟨fun h9 => by exfalso; omega, fun h9 => by exfalso; omega, fun h9 => by exfalso; omega, fun h9 => by exfalso; omega, fun h9 => by exfalso; omega, fun h9 => by exfalso; omega, fun _ => by rw [ky_up_o e2 (by decide)]; exact hp, fun h9 => ?_⟩ <;> (exfalso; omega)
  · rw [u9] at hp
    exact ⟨fun h9 => by exfalso; omega, fun h9 => by exfalso; omega, fun h9 => by exfalso; omega, fun h9 => by exfalso; omega, fun h9 => by exfalso; omega, fun h9 => by exfalso; omega, fun h9 => by exfalso; omega, fun _ => by rw [ky_up_o e2 (by decide)]; exact hp⟩
set_option maxHeartbeats 2000000 in
theorem sm_shown {ad ad' : Nat → Nat} {b : Nat} {I N : Mm} (h : Rl b I N) {v1 v2 v3 : Int32} {post : Int32 → Mm → Prop} {xp : String → Mm → Prop} (hk : ∀ (r : Int32) (J : Mm), sm_R b 0 J r (w_X7_shown (md_Y ad') N 0 v1 v2 v3) → post r J) (hx1 : ∀ J, sm_X b 1 J (w_X7_shown (md_Y ad') N 0 v1 v2 v3) → xp "java/lang/IllegalArgumentException" J) (hx2 : ∀ J, sm_X b 2 J (w_X7_shown (md_Y ad') N 0 v1 v2 v3) → xp "java/util/NoSuchElementException" J) : w_X6_shown (cl_Y ad) I 0 v1 v2 v3 post xp := by
  obtain ⟨hw, hs, hu⟩ := id h
  have hr4 := hw.1.2.1
  have fail : ∀ (c : Int32), c = 1 ∨ c = 2 → ∀ (post' : Int32 → Mm → Prop), (∀ (M : Mm) (r : Int32), Rl b I M → M 0 0 = c → post' r M) → w_X7_shown_B43 (md_Y ad') post' 0 v1 v2 v3 c 0 N := fun c hc post' hp => by
    refine ⟨md_k0, fun N' hN' => ⟨md_k0, fun h9 => ?_, fun _ => hp N' 0 (h.fn (fn_F.code hN')) (ky_up_f hN')⟩⟩
    rw [ky_up_f hN'] at h9
    rcases hc with rfl | rfl <;> exact absurd h9 (by decide)
  refine ⟨cy_0, p_isRelation hw hs.1 (fun r hr hv => ⟨fun h9 => absurd h9 (by decide), fun _ => ?_⟩) (fun hno => ⟨fun _ => hx1 I (fun post' hp => ⟨md_k0, m_isRelation hw (fun r hr hv => absurd ⟨r, hr, hv⟩ hno) (fun _ => ⟨fun _ => fail 1 (Or.inl rfl) post' hp, fun h9 => absurd rfl h9⟩)⟩), fun h9 => absurd rfl h9⟩)⟩
  subst hv
  have hin : ∀ (p : Int32 → Mm → Prop), p 1 N → w_X7_isRelation (md_Y ad') N 0 (nI r) p := fun p hp => m_isRelation hw (fun _ _ _ => hp) (fun h9 => absurd ⟨r, hr, rfl⟩ h9)
  have bad3 : ¬ (0 ≤ v3.toInt ∧ v3.toInt ≤ 2) → sm_X b 1 I (w_X7_shown (md_Y ad') N 0 (nI r) v2 v3) := fun hno post' hp => ⟨md_k0, hin _ ⟨fun h9 => absurd h9 (by decide), fun _ => m_in (fun a1 a2 => absurd ⟨by rw [in_0] at a1; exact a1, by rw [in_2] at a2; exact a2⟩ hno) (fun _ => ⟨fun h9 => absurd rfl h9, fun _ => fail 1 (Or.inl rfl) post' hp⟩)⟩⟩
  refine ⟨fun h3 => hx1 I (bad3 (fun h9 => by rw [in_lt, in_0] at h3; omega)), fun h3 => ⟨fun h32 => ?_, fun h32 => hx1 I (bad3 (fun h9 => by rw [in_le, in_2] at h32; omega))⟩⟩
  rw [in_lt, in_0] at h3
  rw [in_le, in_2] at h32
  obtain ⟨n1, n2, _⟩ := hw.1.2.2.2.1 r (by omega)
  -- the reference up to the mark's number
  have yes : ∀ (post' : Int32 → Mm → Prop), (0 ≤ v2.toInt → v2.toInt < dt_nm N r → w_X7_shown_B43 (md_Y ad') post' 0 (nI r) v2 v3 0 0 N) → (¬ (0 ≤ v2.toInt ∧ v2.toInt < dt_nm N r) → w_X7_shown_B43 (md_Y ad') post' 0 (nI r) v2 v3 2 0 N) → w_X7_shown (md_Y ad') N 0 (nI r) v2 v3 post' := fun post' hp hq => ⟨md_k0, hin _ ⟨fun h9 => absurd h9 (by decide), fun _ => m_in (fun a1 a2 => ⟨fun _ => ⟨md_k2, vp_in_nI (N := 4) (by omega) (by decide), by
      rw [md_r3, in_c (by omega), n1]
      refine m_in (fun b1 b2 => ⟨fun _ => hp (by rw [in_0] at b1; exact b1) (by rw [in_n1 (by omega)] at b2; omega), fun h9 => absurd h9 (by decide)⟩) (fun b1 => ⟨fun h9 => absurd rfl h9, fun _ => hq (fun h9 => b1 ?_)⟩)
      rw [in_n1 (by omega), in_0]
      omega⟩, fun h9 => absurd h9 (by decide)⟩) (fun a1 => absurd (by rw [in_0, in_2]; omega) a1)⟩⟩
  refine ⟨cy_1, vp_in_nI (N := 4) (by omega) (by decide), fun q6 hq6 => ?_⟩
  rw [cy_p0, in_c (by omega), cy_rel] at hq6
  subst hq6
  have no2 : ¬ (0 ≤ v2.toInt ∧ v2.toInt < dt_nm N r) → sm_X b 2 I (w_X7_shown (md_Y ad') N 0 (nI r) v2 v3) := fun hno post' hp => yes post' (fun a1 a2 => absurd ⟨a1, a2⟩ hno) (fun _ => fail 2 (Or.inr rfl) post' hp)
  refine ⟨fun h2 => hx2 I (no2 (fun h9 => by rw [in_lt, in_0] at h2; omega)), fun h2 => ⟨cy_kr (by omega), ?_⟩⟩
  rw [hs.1.2.2.1 r (by omega), n1]
  rw [in_lt, in_0] at h2
  refine ⟨fun h22 => ?_, fun h22 => hx2 I (no2 (fun h9 => by rw [in_lt, in_n (by omega)] at h22; omega))⟩
  rw [in_lt, in_n (by omega)] at h22
  obtain ⟨k, hkn, rfl⟩ := in_of (x := v2) (n := dt_nm N r) (by omega) h22
  obtain ⟨a1, b1⟩ := cy_krm (ad := ad) (r := r) (j := 1) (by omega) (by decide) (by decide)
  obtain ⟨a2, b2⟩ := cy_krm (ad := ad) (r := r) (j := 2) (by omega) (by decide) (by decide)
  obtain ⟨a3, b3⟩ := cy_krm (ad := ad) (r := r) (j := 3) (by omega) (by decide) (by decide)
  obtain ⟨i1, i2, i3⟩ := hs.1.2.2.2 r k hr hkn
  rw [cy_rr (by omega) (by decide) (by decide), cy_rr (by omega) (by decide) (by decide), cy_rr (by omega) (by decide) (by decide), show 2 - 1 = 1 from rfl, show 3 - 1 = 2 from rfl, show 4 - 1 = 3 from rfl, b1, b2, b3, in_c (by omega), i1, i2, i3]
  have hi4 : vp_in (nI k) 4 := vp_in_nI (by omega) (by decide)
  have fin : ∀ (x : Int32), (∀ N', N' = ky_up N 0 0 0 → ∀ post' : Int32 → Mm → Prop, post' x N' → ((¬ v3 = 0 → ((¬ v3 = (1 : Int32) → post' (N' 5 (4 * r + k)) N') ∧ (v3 = (1 : Int32) → post' (N' 4 (4 * r + k)) N'))) ∧ (v3 = 0 → post' (N' 3 (4 * r + k)) N'))) → post x I := fun x hx => hk x I (fun post' hp => yes post' (fun _ _ => ⟨md_k0, fun N' e0 => ⟨md_k0, fun _ => by
    obtain ⟨g1, g2⟩ := hx N' e0 post' (hp N' (h.fn (fn_F.code e0)) (ky_up_f e0))
    have e4 : (4 : Int32) * nI r + nI k = nI (4 * r + k) := by rw [in_mul4, nI_add]
    rw [e4, md_r4, md_r5, md_r6, in_c (by omega)]
    exact ⟨fun h9 => ⟨fun h8 => ⟨md_k5, vp_in_nI (N := 16) (by omega) (by decide), (g1 h9).1 h8⟩, fun h8 => ⟨md_k4, vp_in_nI (N := 16) (by omega) (by decide), (g1 h9).2 h8⟩⟩, fun h9 => ⟨md_k3, vp_in_nI (N := 16) (by omega) (by decide), g2 h9⟩⟩, fun h9 => absurd (by rw [ky_up_f e0]; decide) h9⟩⟩) (fun h9 => by exfalso; rw [in_n (by omega)] at h9; omega))
  refine ⟨fun h0 => ⟨fun h1 => ⟨a3, hi4, fin _ (fun N' e0 post' hp => ⟨fun _ => ⟨fun _ => by rw [e0, ky_up_ne (by decide), ← e0]; exact hp, fun h9 => absurd h9 h1⟩, fun h9 => absurd h9 h0⟩)⟩, fun h1 => ⟨a2, hi4, fin _ (fun N' e0 post' hp => ⟨fun _ => ⟨fun h9 => absurd h1 h9, fun _ => by rw [e0, ky_up_ne (by decide), ← e0]; exact hp⟩, fun h9 => absurd h9 h0⟩)⟩⟩, fun h0 => ⟨a1, hi4, fin _ (fun N' e0 post' hp => ⟨fun h9 => absurd h0 h9, fun _ => by rw [e0, ky_up_ne (by decide), ← e0]; exact hp⟩)⟩⟩
set_option maxHeartbeats 2000000 in
theorem sm_node {ad ad' : Nat → Nat} {b : Nat} {I N : Mm} (h : Rl b I N) {v1 v2 : Int32} {post : Int32 → Mm → Prop} {xp : String → Mm → Prop} (hk : ∀ (r : Int32) (J : Mm), sm_R b 0 J r (w_X7_node (md_Y ad') N 0 v1 v2) → post r J) (hx1 : ∀ J, sm_X b 1 J (w_X7_node (md_Y ad') N 0 v1 v2) → xp "java/lang/IllegalArgumentException" J) (hx2 : ∀ J, sm_X b 2 J (w_X7_node (md_Y ad') N 0 v1 v2) → xp "java/util/NoSuchElementException" J) : w_X6_node (cl_Y ad) I 0 v1 v2 post xp := by
  obtain ⟨hw, hs, u1, u2, u3, u4, u5, u6, u7, u8, u9, u10⟩ := id h
  have h12 := hw.2.2.1
  have h40 : (40 : Int32).toInt = 40 := by decide
  have fail : ∀ (c : Int32), c = 1 ∨ c = 2 → ∀ (post' : Int32 → Mm → Prop), (∀ (M : Mm) (r : Int32), Rl b I M → M 0 0 = c → post' r M) → w_X7_node_B49 (md_Y ad') post' 0 v1 v2 c 0 N := fun c hc post' hp => by
    refine ⟨md_k0, fun N' hN' => ⟨md_k0, fun h9 => ?_, fun _ => hp N' 0 (h.fn (fn_F.code hN')) (ky_up_f hN')⟩⟩
    rw [ky_up_f hN'] at h9
    rcases hc with rfl | rfl <;> exact absurd h9 (by decide)
  have bad : ¬ (0 ≤ v2.toInt ∧ v2.toInt ≤ 2) → sm_X b 1 I (w_X7_node (md_Y ad') N 0 v1 v2) := fun hno post' hp => m_in (fun a1 a2 => absurd ⟨by rw [in_0] at a1; exact a1, by rw [in_2] at a2; exact a2⟩ hno) (fun _ => ⟨fun h9 => absurd rfl h9, fun _ => fail 1 (Or.inl rfl) post' hp⟩)
  refine ⟨fun g => hx1 I (bad (fun h9 => by rw [in_lt, in_0] at g; omega)), fun g => ⟨fun g2 => ?_, fun g2 => hx1 I (bad (fun h9 => by rw [in_le, in_2] at g2; omega))⟩⟩
  rw [in_lt, in_0] at g
  rw [in_le, in_2] at g2
  have hin : ∀ (p : Int32 → Mm → Prop), p 1 N → w_X7_in (md_Y ad') N v2 0 2 p := fun p hp => m_in (fun _ _ => hp) (fun h9 => absurd (by rw [in_0, in_2]; omega) h9)
  refine ⟨cy_0, cy_3, ?_⟩
  rw [cy_p7]
  rcases u10 with ⟨a1, a2, a3, a4⟩ | ⟨c, ns, en, a1, a2, a3, a4, a5, a6, a7, a8, a9⟩
  · rw [a4]
    have no2 : sm_X b 2 I (w_X7_node (md_Y ad') N 0 v1 v2) := fun post' hp => hin _ ⟨fun _ => ⟨md_k0, fun _ => fail 2 (Or.inr rfl) post' hp, fun h9 => absurd (by rw [a1]; decide) h9⟩, fun h9 => absurd h9 (by decide)⟩
    refine ⟨fun h9 => absurd h9 (by decide), fun _ => ⟨fun _ => hx2 I no2, fun h1 => ⟨fun h9 => ?_, fun _ => hx2 I no2⟩⟩⟩
    exfalso
    rw [in_lt, in_0] at h1 h9
    omega
  · rw [a5]
    obtain ⟨t1, t2, _⟩ := a6
    have hc0 : ¬ N 0 21 < 0 := fun h9 => by rw [a1, in_lt, in_n (by omega), in_0] at h9; omega
    have no2 : ¬ (ns.length ≤ 40 ∧ 0 ≤ v1.toInt ∧ v1.toInt < ns.length) → sm_X b 2 I (w_X7_node (md_Y ad') N 0 v1 v2) := fun hno post' hp => hin _ ⟨fun _ => ⟨md_k0, fun h9 => absurd h9 hc0, fun _ => ⟨fun _ => fail 2 (Or.inr rfl) post' hp, fun h9 => m_in (fun b1 b2 => ?_) (fun _ => ⟨fun h9 => absurd rfl h9, fun _ => fail 2 (Or.inr rfl) post' hp⟩)⟩⟩, fun h9 => absurd h9 (by decide)⟩
    · refine ⟨fun h9 => hx2 I (no2 (fun h8 => by rw [in_lt, h40, in_n (by omega)] at h9; omega)), fun h9 => ⟨fun h1 => hx2 I (no2 (fun h8 => by rw [in_lt, in_0] at h1; omega)), fun h1 => ⟨fun h2 => ?_, fun h2 => hx2 I (no2 (fun h8 => by rw [in_lt, in_n (by omega)] at h2; omega))⟩⟩⟩
      rw [in_lt, h40, in_n (by omega)] at h9
      rw [in_lt, in_0] at h1
      rw [in_lt, in_n (by omega)] at h2
      obtain ⟨k, hkn, rfl⟩ := in_of (x := v1) (n := ns.length) (by omega) h2
      refine ⟨cy_4, vp_in_nI (N := 41) (by omega) (by decide), fun q5 hq5 => ?_⟩
      rw [cy_t0, in_c (by omega), cy_nod] at hq5
      subst hq5
      obtain ⟨n1, n2, n3, n4⟩ := a7 k hkn
      obtain ⟨m1, m2, m3, m4⟩ := a8 k hkn
      rw [n1, n2, n4, ← m1, ← m2, ← m4]
      have fin : ∀ (x : Int32), (∀ N', N' = ky_up N 0 0 0 → ∀ post' : Int32 → Mm → Prop, post' x N' → ((¬ v2 = 0 → ((¬ v2 = (1 : Int32) → post' (N' 26 k) N') ∧ (v2 = (1 : Int32) → post' (N' 24 k) N'))) ∧ (v2 = 0 → post' (N' 23 k) N'))) → post x I := fun x hx => hk x I (fun post' hp => hin _ ⟨fun _ => ⟨md_k0, fun h9 => absurd h9 hc0, fun _ => ⟨fun h8 => by exfalso; rw [a4, in_lt, h40, in_n (by omega)] at h8; omega, fun _ => m_in (fun _ _ => ⟨fun _ => ⟨md_k0, fun N' e0 => ⟨md_k0, fun _ => by
        obtain ⟨g1, g2⟩ := hx N' e0 post' (hp N' (h.fn (fn_F.code e0)) (ky_up_f e0))
        rw [md_r34, md_r32, md_r31, in_c (by omega)]
        exact ⟨fun h9 => ⟨fun h8 => ⟨md_k26, vp_in_nI (N := 41) (by omega) (by decide), (g1 h9).1 h8⟩, fun h8 => ⟨md_k24, vp_in_nI (N := 41) (by omega) (by decide), (g1 h9).2 h8⟩⟩, fun h9 => ⟨md_k23, vp_in_nI (N := 41) (by omega) (by decide), g2 h9⟩⟩, fun h9 => absurd (by rw [ky_up_f e0]; decide) h9⟩⟩, fun h9 => absurd h9 (by decide)⟩) (fun h8 => absurd (by rw [a4, in_n1 (by omega), in_n (by omega), in_0]; omega) h8)⟩⟩, fun h9 => absurd h9 (by decide)⟩)
      refine ⟨fun h0 => ⟨fun h1 => ⟨cy_kn (by omega), fin _ (fun N' e0 post' hp => ⟨fun _ => ⟨fun _ => by rw [e0, ky_up_ne (by decide), ← e0]; exact hp, fun h9 => absurd h9 h1⟩, fun h9 => absurd h9 h0⟩)⟩, fun h1 => ⟨cy_kn (by omega), fin _ (fun N' e0 post' hp => ⟨fun _ => ⟨fun h9 => absurd h1 h9, fun _ => by rw [e0, ky_up_ne (by decide), ← e0]; exact hp⟩, fun h9 => absurd h9 h0⟩)⟩⟩, fun h0 => ⟨cy_kn (by omega), fin _ (fun N' e0 post' hp => ⟨fun h9 => absurd h0 h9, fun _ => by rw [e0, ky_up_ne (by decide), ← e0]; exact hp⟩)⟩⟩
    · exfalso
      rw [a4, in_lt, h40, in_n (by omega)] at h9
      rw [in_0] at b1
      rw [a4, in_n1 (by omega)] at b2
      exact hno ⟨by omega, b1, by omega⟩
