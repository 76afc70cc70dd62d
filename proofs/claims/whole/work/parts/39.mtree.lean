/-! THE REFERENCE: grow -/
def tm_n (J : Mm) (ns : List Nd) : Prop := ∀ k, k < ns.length → J 23 k = nI (tr_nd ns k).1 ∧ J 24 k = (if k = 0 then -1 else nI (tr_nd ns k).2.1) ∧ J 25 k = nI (tr_nd ns k).2.2.1 ∧ J 26 k = (if k = 0 then -1 else nI (tr_nd ns k).2.2.2)
def tm_k (J : Mm) (st : List (Nat × Nat)) : Prop := ∀ (i : Nat) (x : Nat × Nat), st.reverse[i]? = some x → J 28 i = nI (2 * (x.1 + 1) + x.2)
def tm_m (J : Mm) (s : List Nd × List (Nat × Nat)) : Prop := tm_n J s.1 ∧ J 0 30 = nI s.1.length ∧ tm_k J s.2
def tm_F (N J : Mm) : Prop := (∀ a, a ≠ 0 → (a < 23 ∨ 28 < a) → J a = N a) ∧ ∀ j, j ≠ 30 → J 0 j = N 0 j
theorem tm_F.rf {N : Mm} : tm_F N N := ⟨fun _ _ _ => rfl, fun _ _ => rfl⟩
theorem tm_F.tr {N J L : Mm} (h1 : tm_F N J) (h2 : tm_F J L) : tm_F N L := ⟨fun a b c => (h2.1 a b c).trans (h1.1 a b c), fun j hj => (h2.2 j hj).trans (h1.2 j hj)⟩
theorem tm_F.up {N J : Mm} {k j : Nat} {v : Int32} (h1 : 22 < k) (h2 : k < 29) (h : J = ky_up N k j v) : tm_F N J := ⟨fun a _ hb => by rw [h]; exact ky_up_ne (by omega), fun j _ => by rw [h, ky_up_ne (by omega)]⟩
theorem in_sub1 {n : Nat} (h : n < 2147483647) : nI (n + 1) - 1 = nI n := by
  rw [in_eq, in_sub (by rw [in_n (by omega), in_1]; omega) (by rw [in_n (by omega), in_1]; omega), in_n (by omega), in_n (by omega), in_1]
  omega
theorem in_m1 {x : Int32} : x + (-1) = x - 1 := (Int32.sub_eq_add_neg x 1).symm
theorem m_push_L {ad : Nat → Nat} {n : Nat} (hn : n < 41) {post : Mm → Prop} {ex : Nat → Int32 → Mm → Prop} {J0 : Mm} {s0 : List (Nat × Nat)} {b0 : Nat} (hk : ∀ L : Mm, (∀ a, a ≠ 28 → L a = J0 a) → tm_k L ((List.range b0).map (fun a => (n, a)) ++ s0) → ex 0 (nI ((List.range b0).map (fun a => (n, a)) ++ s0).length) L) :
    ∀ (b : Nat), b ≤ 2 → ∀ (J : Mm) (st : List (Nat × Nat)), (List.range b).map (fun a => (n, a)) ++ st = (List.range b0).map (fun a => (n, a)) ++ s0 → st.length + b ≤ 90 → (∀ a, a ≠ 28 → J a = J0 a) → tm_k J st → w_X7_grow_L94 (md_Y ad) post ex (b + 1) 0 (nI st.length) (nI n) (nI b - 1) J := by
  intro b
  induction b with
  | zero =>
    intro _ J st he hl hJ hs
    refine ⟨fun _ => ?_, fun h => absurd (by decide) h⟩
    have he : st = (List.range b0).map (fun a => (n, a)) ++ s0 := he
    rw [he] at hs ⊢
    exact hk J hJ hs
  | succ b ih =>
    intro hb J st he hl hJ hs
    rw [in_sub1 (by omega)]
    refine ⟨fun h => ?_, fun _ => ⟨md_k0, md_k28, vp_in_nI (N := 90) (by omega) (by decide), fun J1 h1 x28 hx28 x29 hx29 => ?_⟩⟩
    · rw [in_lt, in_n (by omega), in_0] at h
      omega
    · rw [hx28, hx29, in_s, in_m1]
      rw [md_r36, in_c (by omega), in_s, in_mul2, nI_add] at h1
      refine ih (by omega) J1 ((n, b) :: st) ?_ (by show st.length + 1 + b ≤ 90; omega) (fun a ha => by rw [h1, ky_up_ne ha]; exact hJ a ha) (fun i x hx => ?_)
      · rw [← he, List.range_succ, List.map_append, List.append_assoc]
        rfl
      · rw [h1, ky_up_eq]
        unfold upd
        rw [List.reverse_cons] at hx
        by_cases hi : i < st.length
        · rw [List.getElem?_append_left (by rw [List.length_reverse]; exact hi)] at hx
          rw [if_neg (by omega)]
          exact hs i x hx
        · rw [List.getElem?_append_right (by rw [List.length_reverse]; omega), List.length_reverse] at hx
          have hz : i - st.length < 1 := (List.getElem?_eq_some_iff.mp hx).1
          have hi0 : i = st.length := by omega
          rw [hi0, Nat.sub_self] at hx
          cases hx
          rw [if_pos hi0]
theorem tr_push_eq {N : Mm} {n c : Nat} {st : List (Nat × Nat)} (h2 : dt_na N c ≤ 2) : tr_push N n c st = (List.range (dt_na N c)).map (fun a => (n, a)) ++ st := by
  unfold tr_push
  rcases (show dt_na N c = 0 ∨ dt_na N c = 1 ∨ dt_na N c = 2 by omega) with h | h | h
  · rw [h, if_pos rfl]; rfl
  · rw [h, if_neg (by decide), if_pos rfl]; rfl
  · rw [h, if_neg (by decide), if_neg (by decide)]; rfl
set_option maxHeartbeats 2000000 in
theorem m_place {ad : Nat → Nat} {N J : Mm} {c p a : Nat} {ns : List Nd} {st : List (Nat × Nat)} (hw : dt_w N) (hdy : dt_y N) (hz : dt_z N c) (hF : tm_F N J) (hok : tr_ok N c (ns, (p, a) :: st)) (hl : ns.length ≤ 40) (hn : tm_n J ns) (h24 : J 24 ns.length = nI p) (h25 : J 25 ns.length = nI a) {post : Mm → Prop} (hk : ∀ L : Mm, (∀ b, b ≠ 23 → b ≠ 26 → L b = J b) → tm_n L (ns ++ [(tr_cl N ns p a, p, a, tr_pm N ns p a)]) → post L) : w_X7_place (md_Y ad) J 0 (nI ns.length) post := by
  have h12 := hw.2.2.1
  have hr4 := hw.1.2.1
  obtain ⟨hp, ha⟩ := hok.2.2.2.2 (p, a) List.mem_cons_self
  have hp : p < ns.length := hp
  have ha : a < dt_na N (tr_nd ns p).1 := ha
  obtain ⟨m1, m2, m3, m4, m5, m6, m7⟩ := tr_pm_ok hw hdy hz hok hp ha
  have m1 : tr_pv N ns p a = nI (tr_pm N ns p a) := m1
  have m2 : tr_pm N ns p a < 16 := m2
  have m3 : dt_ar N (tr_nd ns p).1 a < dt_nr N := m3
  have m6 : N 16 (16 * dt_ar N (tr_nd ns p).1 a + tr_pm N ns p a) = nI (tr_cl N ns p a) := m6
  have hcp : (tr_nd ns p).1 < dt_nc N := hok.cl hz hp
  obtain ⟨_, _, ca1, ca2, ca3, _⟩ := hw.2.2.2 _ hcp
  obtain ⟨g1, g2, _⟩ := ca3 a ha
  obtain ⟨n1, n2, n3, n4⟩ := hn p hp
  have b107 : w_X7_place_B107 (md_Y ad) post 0 (nI ns.length) (nI (dt_ar N (tr_nd ns p).1 a)) (nI (tr_pm N ns p a)) (nI ns.length) 26 J := by
    refine ⟨md_k26, vp_in_nI (N := 41) (by omega) (by decide), fun J1 h1 => ?_⟩
    rw [in_c (by omega)] at h1
    have e26 : J1 26 ns.length = nI (tr_pm N ns p a) := by rw [h1, ky_up_eq]; unfold upd; rw [if_pos rfl]
    have e16 : J1 16 = N 16 := by rw [h1, ky_up_ne (by decide)]; exact hF.1 16 (by decide) (by decide)
    refine ⟨md_k0, md_k26, vp_in_nI (N := 41) (by omega) (by decide), md_k16, ?_⟩
    rw [md_r34, md_r18, in_c (by omega), e26, in_mul16, nI_add, in_c (by omega), e16, m6]
    refine ⟨vp_in_nI (N := 64) (by omega) (by decide), md_k23, vp_in_nI (N := 41) (by omega) (by decide), fun J2 h2 => ?_⟩
    rw [md_r31] at h2
    have q23 : J2 23 = upd (J 23) ns.length (nI (tr_cl N ns p a)) := by rw [h2, ky_up_eq, h1, ky_up_ne (by decide)]
    have q26 : J2 26 = upd (J 26) ns.length (nI (tr_pm N ns p a)) := by rw [h2, ky_up_ne (by decide), h1, ky_up_eq]
    have qo : ∀ b, b ≠ 23 → b ≠ 26 → J2 b = J b := fun b b1 b2 => by rw [h2, ky_up_ne b1, h1, ky_up_ne b2]
    refine hk J2 qo (fun k hk9 => ?_)
    rw [List.length_append] at hk9
    have hk9 : k < ns.length + 1 := hk9
    rw [q23, q26, qo 24 (by decide) (by decide), qo 25 (by decide) (by decide)]
    unfold upd
    by_cases hkn : k = ns.length
    · subst hkn
      rw [tr_nd_n, if_pos rfl, if_pos rfl, if_neg (by omega), if_neg (by omega), h24, h25]
      exact ⟨rfl, rfl, rfl, rfl⟩
    · rw [if_neg hkn, if_neg hkn, tr_nd_l (by omega)]
      exact hn k (by omega)
  have e9 : J 9 = N 9 := hF.1 9 (by decide) (by decide)
  refine ⟨md_k0, md_k24, vp_in_nI (N := 41) (by omega) (by decide), ?_⟩
  rw [md_r32, md_r31, md_r33, md_r11, in_c (by omega), h24, h25, in_c (by omega), n1]
  refine ⟨fun _ => ⟨md_k23, vp_in_nI (N := 41) (by omega) (by decide), fun x6 hx6 => ?_⟩, fun h => ?_⟩
  · subst hx6
    rw [in_mul2, nI_add, in_c (by omega), e9, g1]
    refine ⟨md_k25, vp_in_nI (N := 41) (by omega) (by decide), md_k9, vp_in_nI (N := 24) (by omega) (by decide), fun x11 hx11 => ?_⟩
    subst hx11
    refine ⟨fun h => ?_, fun h => ?_⟩
    · rw [in_e0 (by omega)] at h
      obtain ⟨t1, t2, t3, t4, t5, t6, t7, t8, t9⟩ := hok.2.2.2.1 p (by omega) hp
      have t3 : (tr_nd ns p).2.2.2 < 16 := t3
      have t7 : N 6 (tr_nd ns p).1 = nI (dt_hr N (tr_nd ns p).1) := t7
      have t56 : dt_hr N (tr_nd ns p).1 < dt_nr N := by
        have t5' := t5
        rw [← t6] at t5'
        exact t5'
      rw [if_neg h] at n4
      have e6 : J 6 = N 6 := hF.1 6 (by decide) (by decide)
      refine ⟨md_k0, md_k23, vp_in_nI (N := 41) (by omega) (by decide), md_k6, ?_⟩
      rw [md_r31, md_r8, md_r34, in_c (by omega), n1, in_c (by omega), e6, t7, n4, in_mul16, nI_add]
      refine ⟨vp_in_nI (N := 12) (by omega) (by decide), md_k26, vp_in_nI (N := 41) (by omega) (by decide), md_k17, ?_⟩
      have e17 : J 17 = N 17 := hF.1 17 (by decide) (by decide)
      have hpv : N 17 (2 * (16 * dt_hr N (tr_nd ns p).1 + (tr_nd ns p).2.2.2) + a) = nI (tr_pm N ns p a) := by
        rw [← m1]
        unfold tr_pv
        rw [if_neg h]
      rw [h25, in_mul2, nI_add, in_c (by omega), md_r19, e17, hpv]
      exact ⟨vp_in_nI (N := 128) (by omega) (by decide), b107⟩
    · rw [in_e0 (by omega)] at h
      have e18 : J 18 = N 18 := hF.1 18 (by decide) (by decide)
      have hpv : N 18 a = nI (tr_pm N ns p a) := by
        rw [← m1]
        unfold tr_pv
        rw [if_pos h]
      rw [md_r22, in_c (by omega), e18, hpv]
      exact ⟨md_k18, vp_in_nI (N := 2) (by omega) (by decide), b107⟩
  · exfalso
    rw [in_le, in_n (by omega), in_0] at h
    omega
set_option maxHeartbeats 2000000 in
theorem m_grow_L {ad : Nat → Nat} {N : Mm} {c : Nat} (hw : dt_w N) (hdy : dt_y N) (hz : dt_z N c) {post : Mm → Prop} {ex : Nat → Mm → Prop} (hk : ∀ J : Mm, tm_F N J → tm_m J (tr_it N c 40) → ex 0 J) :
    ∀ (r t : Nat), t + r = 40 → ∀ J : Mm, tm_F N J → tm_m J (tr_it N c t) → (∀ u, u < t → (tr_it N c u).2 ≠ []) → w_X7_grow_L14 (md_Y ad) post ex (r + 1) 0 (nI (tr_it N c t).2.length) J := by
  have h12 := hw.2.2.1
  have h41 : (41 : Int32).toInt = 41 := by decide
  intro r
  induction r with
  | zero =>
    intro t ht J hF hm hne
    have hok := tr_ok_it hw hdy hz t
    have hlen := tr_it_len t hne
    have hb : (tr_it N c t).2.length ≤ (tr_it N c t).1.length + 1 := hok.2.1
    have done : ex 0 J := hk J hF (by rw [← show t = 40 by omega]; exact hm)
    refine ⟨fun _ => done, fun _ => ⟨md_k0, fun _ => done, fun h => ?_⟩⟩
    rw [hm.2.1, in_le, in_n (by omega)] at h
    omega
  | succ r ih =>
    intro t ht J hF hm hne
    have hok := tr_ok_it hw hdy hz t
    have hlen := tr_it_len t hne
    have hb : (tr_it N c t).2.length ≤ (tr_it N c t).1.length + 1 := hok.2.1
    refine ⟨fun h => ?_, fun h => ⟨md_k0, fun h9 => ?_, fun _ => ?_⟩⟩
    · rw [in_le, in_n (by omega), in_0] at h
      have h0 : (tr_it N c t).2 = [] := List.length_eq_zero_iff.mp (by omega)
      refine hk J hF ?_
      rw [tr_it_stop h0 40 (by omega)]
      exact hm
    · rw [hm.2.1, in_le, in_n (by omega)] at h9
      omega
    · rw [in_le, in_n (by omega), in_0] at h
      intro x7 hx7 x8 hx8
      rw [hm.2.1] at hx8
      subst hx8
      have hstep : tr_it N c (t + 1) = tr_step N (tr_it N c t) := rfl
      have hih := ih (t + 1) (by omega)
      generalize hgs : tr_it N c t = s at *
      obtain ⟨ns, st⟩ := s
      cases st with
      | nil => exact absurd (Int.le_refl 0) h
      | cons x st =>
        obtain ⟨p, a⟩ := x
        obtain ⟨hm1, hm2, hm3⟩ := hm
        have hm1 : tm_n J ns := hm1
        have hm2 : J 0 30 = nI ns.length := hm2
        have hlen : ns.length = t + 1 := hlen
        have hb : st.length + 1 ≤ ns.length + 1 := hb
        have hx7 : x7 = nI (st.length + 1) + (-1) := hx7
        rw [in_m1, in_sub1 (by omega)] at hx7
        subst hx7
        show ky_is (md_Y ad) (ky_rp (md_Y ad) 0 36) 8 ∧ vp_in (nI st.length) (ky_ln (md_Y ad) (ky_rp (md_Y ad) 0 36)) ∧ ky_is (md_Y ad) (ky_rp (md_Y ad) 0 32) 8 ∧ vp_in (nI ns.length) (ky_ln (md_Y ad) (ky_rp (md_Y ad) 0 32)) ∧ _
        obtain ⟨hp, ha⟩ := hok.2.2.2.2 (p, a) List.mem_cons_self
        have hp : p < ns.length := hp
        have ha : a < dt_na N (tr_nd ns p).1 := ha
        have hna9 := (hw.2.2.2 _ (hok.cl hz hp)).2.2.2.1
        have hna9 : dt_na N (tr_nd ns p).1 ≤ 2 := hna9
        have top : J 28 st.length = nI (2 * (p + 1) + a) := by
          refine hm3 st.length (p, a) ?_
          show ((p, a) :: st).reverse[st.length]? = _
          rw [List.reverse_cons, List.getElem?_append_right (by rw [List.length_reverse]; exact Nat.le_refl _), List.length_reverse, Nat.sub_self]
          rfl
        refine ⟨md_k28, vp_in_nI (N := 90) (by omega) (by decide), md_k24, vp_in_nI (N := 41) (by omega) (by decide), fun J1 h1 => ?_⟩
        rw [md_r32, md_r36, in_c (by omega), in_c (by omega), top, show nI (2 * (p + 1) + a) / (2 : Int32) = nI ((2 * (p + 1) + a) / 2) from pk_div (by omega) (by decide) (by decide), show (2 * (p + 1) + a) / 2 = p + 1 by omega, in_sub1 (by omega)] at h1
        have t1 : J1 28 st.length = nI (2 * (p + 1) + a) := by rw [h1, ky_up_ne (by decide)]; exact top
        refine ⟨md_k25, vp_in_nI (N := 41) (by omega) (by decide), fun J2 h2 => ?_⟩
        rw [md_r33, md_r36, in_c (by omega), in_c (by omega), t1, show nI (2 * (p + 1) + a) - nI (2 * (p + 1) + a) / (2 : Int32) * (2 : Int32) = nI ((2 * (p + 1) + a) % 2) from pk_rem (by omega) (by decide) (by decide), show (2 * (p + 1) + a) % 2 = a by omega] at h2
        have q24 : J2 24 = upd (J 24) ns.length (nI p) := by rw [h2, ky_up_ne (by decide), h1, ky_up_eq]
        have q25 : J2 25 = upd (J 25) ns.length (nI a) := by rw [h2, ky_up_eq, h1, ky_up_ne (by decide)]
        have qo : ∀ b, b ≠ 24 → b ≠ 25 → J2 b = J b := fun b b1 b2 => by rw [h2, ky_up_ne b2, h1, ky_up_ne b1]
        have hF2 : tm_F N J2 := hF.tr ((tm_F.up (by decide) (by decide) h1).tr (tm_F.up (by decide) (by decide) h2))
        refine m_place hw hdy hz hF2 hok (by omega) (fun k hk9 => ?_) (by rw [q24]; unfold upd; rw [if_pos rfl]) (by rw [q25]; unfold upd; rw [if_pos rfl]) (fun L hL hnL J4 h4 => ?_)
        · rw [qo 23 (by decide) (by decide), qo 26 (by decide) (by decide), q24, q25]
          unfold upd
          have hkn : k ≠ ns.length := by omega
          rw [if_neg hkn, if_neg hkn]
          exact hm1 k hk9
        · obtain ⟨_, _, _, _, m5, _, _⟩ := tr_pm_ok hw hdy hz hok hp ha
          have m5 : tr_cl N ns p a < dt_nc N := m5
          obtain ⟨_, _, na1, na2, _⟩ := hw.2.2.2 _ m5
          have l0 : L 0 = J 0 := by rw [hL 0 (by decide) (by decide), qo 0 (by decide) (by decide)]
          rw [l0, hm2, in_s] at h4
          have hL4 : ∀ b, b ≠ 0 → J4 b = L b := fun b hb => by rw [h4]; exact ky_up_ne hb
          have hFL : tm_F N J4 := by
            refine ⟨fun b b0 b1 => ?_, fun j hj => ?_⟩
            · rw [hL4 b b0, hL b (by omega) (by omega)]; exact hF2.1 b b0 b1
            · rw [h4, ky_up_eq]; unfold upd; rw [if_neg hj, l0]; exact hF.2 j hj
          have c23 : J4 23 ns.length = nI (tr_cl N ns p a) := by
            rw [hL4 23 (by decide), (hnL ns.length (by rw [List.length_append]; exact Nat.lt_succ_self _)).1, tr_nd_n]
          refine ⟨md_k23, vp_in_nI (N := 41) (by omega) (by decide), md_k8, ?_⟩
          rw [md_r31, md_r10, in_c (by omega), c23, in_c (by omega), hFL.1 8 (by decide) (by decide), na1]
          refine ⟨vp_in_nI (N := 12) (by omega) (by decide), fun x23 hx23 => ⟨dt_na N (tr_cl N ns p a) + 1, ?_⟩⟩
          rw [hx23]
          refine m_push_L (b0 := dt_na N (tr_cl N ns p a)) (s0 := st) (J0 := J4) (by omega) (fun K hK hsK => ?_) (dt_na N (tr_cl N ns p a)) na2 J4 st rfl (by omega) (fun _ _ => rfl) (fun i x hx => ?_)
          · rw [← tr_push_eq na2] at hsK ⊢
            rw [hstep] at hih
            refine hih K (hFL.tr ⟨fun b b0 b1 => hK b (by omega), fun j hj => by rw [hK 0 (by decide)]⟩) ⟨fun k hk9 => ?_, ?_, hsK⟩ (fun u hu => ?_)
            · rw [hK 23 (by decide), hK 24 (by decide), hK 25 (by decide), hK 26 (by decide), hL4 23 (by decide), hL4 24 (by decide), hL4 25 (by decide), hL4 26 (by decide)]
              exact hnL k hk9
            · rw [hK 0 (by decide), h4, ky_up_eq]
              unfold upd
              rw [if_pos rfl]
              show nI (ns.length + 1) = nI (ns ++ [_]).length
              rw [List.length_append]
              rfl
            · by_cases hut : u = t
              · rw [hut, hgs]; intro h9; cases h9
              · exact hne u (by omega)
          · rw [hL4 28 (by decide), hL 28 (by decide) (by decide), qo 28 (by decide) (by decide)]
            refine hm3 i x ?_
            show ((p, a) :: st).reverse[i]? = some x
            rw [List.reverse_cons, List.getElem?_append_left (List.getElem?_eq_some_iff.mp hx).1]
            exact hx
/-- the row of ends -/
def tm_e (J : Mm) (ns : List Nd) (en : Nat → Nat) : Prop := ∀ k, k < ns.length → J 27 k = nI (en k)
theorem m_ends_1 {ad : Nat → Nat} {ns : List Nd} (hl : ns.length ≤ 41) {post : Mm → Prop} {ex : Nat → Mm → Prop} {J0 : Mm} (h30 : J0 0 30 = nI ns.length) (hk : ∀ J : Mm, (∀ a, a ≠ 27 → J a = J0 a) → tm_e J ns (fun k => k + 1) → ex 0 J) : ∀ (r t : Nat), t + r = ns.length → ∀ J : Mm, (∀ a, a ≠ 27 → J a = J0 a) → (∀ k, k < t → J 27 k = nI (k + 1)) → w_X7_grow_L125 (md_Y ad) post ex (r + 1) 0 (nI t) J := by
  intro r
  induction r with
  | zero =>
    intro t ht J hJ h
    refine ⟨md_k0, ?_⟩
    rw [hJ 0 (by decide), h30]
    refine ⟨fun _ => hk J hJ (fun k hk9 => h k (by omega)), fun h9 => ?_⟩
    rw [in_le, in_n (by omega), in_n (by omega)] at h9
    omega
  | succ r ih =>
    intro t ht J hJ h
    refine ⟨md_k0, ?_⟩
    rw [hJ 0 (by decide), h30]
    refine ⟨fun h9 => ?_, fun _ => ⟨md_k27, vp_in_nI (N := 41) (by omega) (by decide), fun J1 h1 x42 hx42 => ?_⟩⟩
    · rw [in_le, in_n (by omega), in_n (by omega)] at h9
      omega
    · rw [hx42, in_s]
      rw [md_r35, in_c (by omega), in_s] at h1
      refine ih (t + 1) (by omega) J1 (fun a ha => by rw [h1, ky_up_ne ha]; exact hJ a ha) (fun k hk9 => ?_)
      rw [h1, ky_up_eq]
      unfold upd
      by_cases hkt : k = t
      · rw [if_pos hkt, hkt]
      · rw [if_neg hkt]; exact h k (by omega)
set_option maxHeartbeats 2000000 in
theorem m_ends_2 {ad : Nat → Nat} {ns : List Nd} (hl : ns.length ≤ 41) (hsm : tr_sm ns) {post : Mm → Prop} {J0 : Mm} (hn : tm_n J0 ns) (hk : ∀ (J : Mm) (en : Nat → Nat), (∀ a, a ≠ 27 → J a = J0 a) → tr_e ns en 0 → tm_e J ns en → post J) : ∀ (t : Nat), t < ns.length → ∀ (J : Mm) (en : Nat → Nat), (∀ a, a ≠ 27 → J a = J0 a) → tr_e ns en t → tm_e J ns en → w_X7_grow_L155 (md_Y ad) post (fun J => post J) (t + 1) 0 (nI t) J := by
  intro t
  induction t with
  | zero =>
    intro _ J en hJ he h
    exact ⟨fun _ => hk J en hJ he h, fun h9 => absurd (by decide) h9⟩
  | succ t ih =>
    intro ht J en hJ he h
    obtain ⟨_, n2, _, _⟩ := hn (t + 1) ht
    rw [if_neg (by omega)] at n2
    have hp := hsm.2 (t + 1) (by omega) ht
    have hs := tr_e_step hsm (by omega) ht he
    obtain ⟨a1, a2, _⟩ := he.1 (t + 1) ht
    obtain ⟨b1, b2, _⟩ := he.1 (tr_nd ns (t + 1)).2.1 (by omega)
    have e24 : J 24 (t + 1) = nI (tr_nd ns (t + 1)).2.1 := by rw [hJ 24 (by decide)]; exact n2
    have e27 := h (t + 1) ht
    have p27 := h (tr_nd ns (t + 1)).2.1 (by omega)
    have go : ∀ v, v = nI (if en (t + 1) ≤ en (tr_nd ns (t + 1)).2.1 then en (tr_nd ns (t + 1)).2.1 else en (t + 1)) → ∀ J1, J1 = ky_up J 27 (tr_nd ns (t + 1)).2.1 v → ∀ x, x = nI (t + 1) + (-1 : Int32) → w_X7_grow_L155 (md_Y ad) post (fun J => post J) (t + 1) 0 x J1 := fun v hv J1 h1 x hx => by
      rw [hx, in_m1, in_sub1 (by omega)]
      refine ih (by omega) J1 _ (fun a ha => by rw [h1, ky_up_ne ha]; exact hJ a ha) hs (fun k hk9 => ?_)
      rw [h1, ky_up_eq]
      unfold upd
      by_cases hkp : k = (tr_nd ns (t + 1)).2.1
      · simp only [if_pos hkp]
        rw [hv, hkp]
      · simp only [if_neg hkp]
        exact h k hk9
    refine ⟨fun h9 => ?_, fun _ => ⟨md_k0, md_k24, vp_in_nI (N := 41) (by omega) (by decide), md_k27, vp_in_nI (N := 41) (by omega) (by decide), ?_⟩⟩
    · rw [in_le, in_n (by omega), in_0] at h9
      omega
    · rw [md_r32, md_r35, in_c (by omega), e24, in_c (by omega), e27, p27]
      refine ⟨vp_in_nI (N := 41) (by omega) (by decide), fun h9 => ?_, fun h9 => ?_⟩
      · rw [in_le, in_n (by omega), in_n (by omega)] at h9
        exact go _ (by rw [if_pos (by omega)])
      · rw [in_le, in_n (by omega), in_n (by omega)] at h9
        exact go _ (by rw [if_neg (by omega)])
theorem tr_it_le {N : Mm} {c : Nat} : ∀ t, 1 ≤ (tr_it N c t).1.length ∧ (tr_it N c t).1.length ≤ t + 1 := by
  intro t
  induction t with
  | zero => exact ⟨Nat.le_refl _, Nat.le_refl _⟩
  | succ t ih =>
    show 1 ≤ (tr_step N (tr_it N c t)).1.length ∧ (tr_step N (tr_it N c t)).1.length ≤ t + 1 + 1
    unfold tr_step
    cases (tr_it N c t).2 with
    | nil => exact ⟨ih.1, Nat.le_succ_of_le ih.2⟩
    | cons x st =>
      show 1 ≤ ((tr_it N c t).1 ++ [_]).length ∧ ((tr_it N c t).1 ++ [_]).length ≤ _
      rw [List.length_append]
      show 1 ≤ _ + 1 ∧ _ + 1 ≤ _
      omega
set_option maxHeartbeats 2000000 in
theorem m_grow {ad : Nat → Nat} {N : Mm} {c : Nat} (hw : dt_w N) (hdy : dt_y N) (hz : dt_z N c) (h21 : N 0 21 = nI c) {post : Mm → Prop} (hk : ∀ (J : Mm) (en : Nat → Nat), tm_F N J → tm_m J (tr_it N c 40) → tr_e (tr_it N c 40).1 en 0 → tm_e J (tr_it N c 40).1 en → post J) : w_X7_grow (md_Y ad) N 0 post := by
  have h12 := hw.2.2.1
  have hc := hz.1
  obtain ⟨_, _, na1, na2, _⟩ := hw.2.2.2 _ hc
  refine ⟨md_k0, fun J1 h1 => ⟨md_k28, vp_in_nI (n := 0) (N := 90) (by decide) (by decide), fun J2 h2 => ⟨41 + 1, ?_⟩⟩⟩
  have h2 : J2 = ky_up J1 28 0 0 := h2
  have g0 : J2 0 30 = 0 := by rw [h2, ky_up_ne (by decide), h1, ky_up_eq]; unfold upd; rw [if_pos rfl]
  have g28 : J2 28 0 = 0 := by rw [h2, ky_up_eq]; unfold upd; rw [if_pos rfl]
  have hF2 : tm_F N J2 := ⟨fun a b0 b1 => by rw [h2, ky_up_ne (by omega), h1, ky_up_ne b0], fun j hj => by rw [h2, ky_up_ne (by decide), h1, ky_up_eq]; unfold upd; rw [if_neg hj]⟩
  refine ⟨fun h => absurd h (by decide), fun _ => ⟨md_k0, fun h => ?_, fun _ x7 hx7 x8 hx8 => ?_⟩⟩
  · rw [g0] at h; exact absurd h (by decide)
  · rw [g0] at hx8
    have hx7 : x7 = nI 0 := hx7
    have hx8 : x8 = nI 0 := hx8
    subst hx7
    subst hx8
    refine ⟨md_k28, vp_in_nI (n := 0) (N := 90) (by decide) (by decide), md_k24, vp_in_nI (n := 0) (N := 41) (by decide) (by decide), fun J3 h3 => ⟨md_k25, vp_in_nI (n := 0) (N := 41) (by decide) (by decide), fun J4 h4 => ?_⟩⟩
    rw [md_r32, md_r36, in_c (n := 0) (by decide), g28] at h3
    have t1 : J3 28 0 = 0 := by rw [h3, ky_up_ne (by decide)]; exact g28
    rw [md_r33, md_r36, in_c (n := 0) (by decide), t1] at h4
    have q24 : J4 24 0 = -1 := by rw [h4, ky_up_ne (by decide), h3, ky_up_eq]; unfold upd; rw [if_pos rfl]; decide
    have q25 : J4 25 0 = 0 := by rw [h4, ky_up_eq]; unfold upd; rw [if_pos rfl]; decide
    have hF4 : tm_F N J4 := hF2.tr ((tm_F.up (by decide) (by decide) h3).tr (tm_F.up (by decide) (by decide) h4))
    have q0 : J4 0 = J2 0 := by rw [h4, ky_up_ne (by decide), h3, ky_up_ne (by decide)]
    refine ⟨md_k0, md_k24, vp_in_nI (n := 0) (N := 41) (by decide) (by decide), ?_⟩
    rw [md_r32, md_r31, in_c (n := 0) (by decide), q24]
    refine ⟨fun h => absurd h (by decide), fun _ => ⟨md_k23, vp_in_nI (n := 0) (N := 41) (by decide) (by decide), fun J5 h5 => ⟨md_k26, vp_in_nI (n := 0) (N := 41) (by decide) (by decide), fun J6 h6 J7 h7 => ?_⟩⟩⟩
    rw [hF4.2 21 (by decide), h21] at h5
    rw [md_r34] at h6
    have r0 : J6 0 = J2 0 := by rw [h6, ky_up_ne (by decide), h5, ky_up_ne (by decide)]; exact q0
    rw [r0, g0] at h7
    have s23 : J7 23 0 = nI c := by rw [h7, ky_up_ne (by decide), h6, ky_up_ne (by decide), h5, ky_up_eq]; unfold upd; rw [if_pos rfl]
    have s24 : J7 24 0 = -1 := by rw [h7, ky_up_ne (by decide), h6, ky_up_ne (by decide), h5, ky_up_ne (by decide)]; exact q24
    have s25 : J7 25 0 = 0 := by rw [h7, ky_up_ne (by decide), h6, ky_up_ne (by decide), h5, ky_up_ne (by decide)]; exact q25
    have s26 : J7 26 0 = -1 := by rw [h7, ky_up_ne (by decide), h6, ky_up_eq]; unfold upd; rw [if_pos rfl]
    have s30 : J7 0 30 = nI 1 := by rw [h7, ky_up_eq]; unfold upd; rw [if_pos rfl]; rfl
    have hF7 : tm_F N J7 := by
      refine ⟨fun b b0 b1 => ?_, fun j hj => ?_⟩
      · rw [h7, ky_up_ne b0, h6, ky_up_ne (by omega), h5, ky_up_ne (by omega)]; exact hF4.1 b b0 b1
      · rw [h7, ky_up_eq]; unfold upd; rw [if_neg hj, r0]; exact hF2.2 j hj
    refine ⟨md_k23, vp_in_nI (n := 0) (N := 41) (by decide) (by decide), md_k8, ?_⟩
    rw [md_r10, s23, in_c (by omega), hF7.1 8 (by decide) (by decide), na1]
    refine ⟨vp_in_nI (N := 12) (by omega) (by decide), fun x23 hx23 => ⟨dt_na N c + 1, ?_⟩⟩
    rw [hx23]
    refine m_push_L (b0 := dt_na N c) (s0 := []) (J0 := J7) (by decide) (fun K hK hsK => ?_) (dt_na N c) na2 J7 [] rfl (by show 0 + _ ≤ _; omega) (fun _ _ => rfl) (fun i x hx => by cases hx)
    rw [← tr_push_eq na2] at hsK ⊢
    refine m_grow_L hw hdy hz (fun L hL hmL => ?_) 40 0 (by decide) K (hF7.tr ⟨fun b b0 b1 => hK b (by omega), fun j hj => by rw [hK 0 (by decide)]⟩) ⟨fun k hk9 => ?_, by rw [hK 0 (by decide)]; exact s30, hsK⟩ (fun u hu => absurd hu (Nat.not_lt_zero u))
    · obtain ⟨l1, l2⟩ := tr_it_le (N := N) (c := c) 40
      obtain ⟨hm1, hm2, hm3⟩ := hmL
      refine ⟨(tr_it N c 40).1.length + 1, m_ends_1 (by omega) hm2 (fun M hM heM => ⟨md_k0, fun x47 hx47 => ⟨(tr_it N c 40).1.length - 1 + 1, ?_⟩⟩) _ 0 (by omega) L (fun _ _ => rfl) (fun k h9 => absurd h9 (Nat.not_lt_zero k))⟩
      rw [hM 0 (by decide), hm2, show (tr_it N c 40).1.length = (tr_it N c 40).1.length - 1 + 1 by omega, in_sub1 (by omega)] at hx47
      rw [hx47]
      have hFM : tm_F N M := hL.tr ⟨fun b b0 b1 => hM b (by omega), fun j hj => by rw [hM 0 (by decide)]⟩
      have hnM : tm_n M (tr_it N c 40).1 := fun k hk9 => by rw [hM 23 (by decide), hM 24 (by decide), hM 25 (by decide), hM 26 (by decide)]; exact hm1 k hk9
      refine m_ends_2 (by omega) (tr_c_it 40).2.1 hnM (fun P en hP he heP => hk P en (hFM.tr ⟨fun b b0 b1 => hP b (by omega), fun j hj => by rw [hP 0 (by decide)]⟩) ⟨fun k hk9 => ?_, ?_, fun i x hx => ?_⟩ he heP) _ (by omega) M _ (fun _ _ => rfl) ⟨fun k hk9 => ⟨Nat.lt_succ_self k, hk9, (tr_D.rf : tr_D _ k k)⟩, fun j h1 h2 => by omega⟩ heM
      · rw [hP 23 (by decide), hP 24 (by decide), hP 25 (by decide), hP 26 (by decide)]; exact hnM k hk9
      · rw [hP 0 (by decide), hM 0 (by decide)]; exact hm2
      · rw [hP 28 (by decide), hM 28 (by decide)]; exact hm3 i x hx
    · have hk9 : k < 1 := hk9
      have e : k = 0 := by omega
      subst e
      rw [hK 23 (by decide), hK 24 (by decide), hK 25 (by decide), hK 26 (by decide), s23, s24, s25, s26]
      exact ⟨rfl, rfl, rfl, rfl⟩
