/-! THE REFERENCE: gather -/
theorem md_F.row {N J : Mm} (h : md_F N J) {a : Nat} (h0 : a ≠ 0) (h1 : a < 19 ∨ 22 < a) : J a = N a := h.1 a h0 (by omega) (by omega) (by omega) (by omega)
theorem dq_pt_v {n i : Nat} (hi : i < 5) : dq_pt n i = 5 * n + i := by unfold dq_pt; rw [if_neg (by omega)]
theorem td_a_q {N : Mm} {ns : List Nd} {k q : Nat} (hq : q < 2) : td_a N ns k q = dt_av N (td_c ns (td_p ns k)) (td_w ns k) q := by
  rcases (show q = 0 ∨ q = 1 by omega) with rfl | rfl <;> rfl
theorem td_h_q {N : Mm} {ns : List Nd} {k q : Nat} (hq : q < 2) : td_h N ns k q = dt_hv N (td_c ns k) q := by
  rcases (show q = 0 ∨ q = 1 by omega) with rfl | rfl <;> rfl
theorem in_zero : (0 : Int32).toInt = 0 := by decide
set_option maxHeartbeats 4000000 in
theorem m_join {ad : Nat → Nat} {N J : Mm} {ns : List Nd} (hok : td_ok N ns) (hn : tm_n N ns) {k : Nat} (h0 : 0 < k) (hk : k < ns.length) (hF : md_F N J) {E : List Ed} (hE : md_E J E) (hl : E.length + 4 ≤ 800) {post : Mm → Prop} (hp : ∀ L, md_F N L → md_E L (E ++ td_j N ns k) → post L) : w_X7_join (md_Y ad) J 0 (nI k) post := by
  obtain ⟨p1, p2, p3, p4, p5⟩ := hok.lt h0 hk
  obtain ⟨hw, h40, hsm, hcc, hjj⟩ := id hok
  have h12 := hw.2.2.1
  have hr4 := hw.1.2.1
  obtain ⟨w1, w2⟩ := hjj k h0 hk
  have ck := hcc k hk
  have cp := hcc (td_p ns k) (by omega)
  obtain ⟨_, _, _, na2, na3, _⟩ := hw.2.2.2 _ cp
  obtain ⟨g1, g2, g3⟩ := na3 _ w1
  obtain ⟨n1, n2, n3, _⟩ := hn k hk
  rw [if_neg (by omega)] at n2
  obtain ⟨m1, _⟩ := hn (td_p ns k) (by omega)
  have n1 : N 23 k = nI (td_c ns k) := n1
  have n2 : N 24 k = nI (td_p ns k) := n2
  have n3 : N 25 k = nI (td_w ns k) := n3
  have m1 : N 23 (td_p ns k) = nI (td_c ns (td_p ns k)) := m1
  have g1 : N 9 (2 * td_c ns (td_p ns k) + td_w ns k) = nI (td_r N ns k) := g1
  obtain ⟨pl1, pl2⟩ := hw.1.2.2.1 _ p2
  have loop : ∀ (t q : Nat), q + t = dt_pl N (td_r N ns k) → ∀ J : Mm, md_F N J → md_E J (E ++ (List.range q).flatMap (td_j1 N ns k)) → w_X7_join_L26 (md_Y ad) post (fun J => post J) (t + 1) 0 (nI k) (nI (2 * td_c ns (td_p ns k) + td_w ns k)) (nI q) J := by
    intro t
    induction t with
    | zero =>
      intro q hq J hF hE
      refine ⟨md_k0, md_k9, vp_in_nI (N := 24) (by omega) (by decide), md_k1, ?_⟩
      rw [md_r11, md_r2, in_c (by omega), hF.row (a := 9) (by decide) (by decide), g1, in_c (by omega), hF.row (a := 1) (by decide) (by decide), pl1]
      refine ⟨vp_in_nI (N := 4) (by omega) (by decide), fun _ => hp J hF (by unfold td_j; rw [← show q = dt_pl N (td_r N ns k) by omega]; exact hE), fun h => ?_⟩
      rw [in_le, in_n (by omega), in_n (by omega)] at h
      omega
    | succ t ih =>
      intro q hq J hF hE
      have hq2 : q < 2 := by omega
      obtain ⟨v1, v2⟩ := g3 q hq2
      obtain ⟨x1, x2⟩ := (hw.2.2.2 _ ck).2.1 q hq2
      refine ⟨md_k0, md_k9, vp_in_nI (N := 24) (by omega) (by decide), md_k1, ?_⟩
      rw [md_r11, md_r2, in_c (by omega), hF.row (a := 9) (by decide) (by decide), g1, in_c (by omega), hF.row (a := 1) (by decide) (by decide), pl1]
      refine ⟨vp_in_nI (N := 4) (by omega) (by decide), fun h => ?_, fun _ => ⟨md_k24, vp_in_nI (N := 41) (by omega) (by decide), md_k10, ?_⟩⟩
      · rw [in_le, in_n (by omega), in_n (by omega)] at h
        omega
      · rw [in_mul2, nI_add, md_r32, md_r12, in_c (by omega), in_c (by omega), hF.row (a := 24) (by decide) (by decide), n2, hF.row (a := 10) (by decide) (by decide), v1, in_mul5, nI_add]
        refine ⟨vp_in_nI (N := 48) (by omega) (by decide), fun x19 hx19 => ⟨md_k23, vp_in_nI (N := 41) (by omega) (by decide), md_k7, ?_⟩⟩
        rw [md_r31, md_r9, hF.row (a := 23) (by decide) (by decide), n1, in_mul2, nI_add, in_c (by omega), hF.row (a := 7) (by decide) (by decide), x1, in_mul5, nI_add]
        refine ⟨vp_in_nI (N := 24) (by omega) (by decide), fun x24 hx24 => ?_⟩
        rw [← td_a_q hq2, ← dq_pt_v (by rw [td_a_q hq2]; omega)] at hx19
        rw [← td_h_q hq2, ← dq_pt_v (by rw [td_h_q hq2]; omega)] at hx24
        rw [hx19, hx24]
        have hlen : (E ++ (List.range q).flatMap (td_j1 N ns k)).length ≤ E.length + 2 := by
          rw [List.length_append]
          rcases (show q = 0 ∨ q = 1 by omega) with rfl | rfl
          · exact Nat.le_add_right _ 2
          · show E.length + 2 ≤ E.length + 2
            exact Nat.le_refl _
        refine m_add hE (by omega) (fun L hL hEL => m_add hEL (by rw [List.length_append]; show _ + 1 < 800; omega) (fun K hK hEK x27 hx27 => ?_))
        rw [hx27, in_s]
        refine ih (q + 1) (by omega) K ((hF.tr hL).tr hK) ?_
        have : E ++ (List.range (q + 1)).flatMap (td_j1 N ns k) = E ++ (List.range q).flatMap (td_j1 N ns k) ++ [(dq_pt (td_p ns k) (td_a N ns k q), dq_pt k (td_h N ns k q), (0 : Int32).toInt)] ++ [(dq_pt k (td_h N ns k q), dq_pt (td_p ns k) (td_a N ns k q), (0 : Int32).toInt)] := by
          rw [List.range_succ, List.flatMap_append, in_zero]
          simp [td_j1, List.append_assoc]
        rw [this]
        exact hEK
  refine ⟨md_k0, md_k24, vp_in_nI (N := 41) (by omega) (by decide), md_k23, ?_⟩
  rw [md_r32, md_r31, md_r33, in_c (by omega), hF.row (a := 24) (by decide) (by decide), n2, in_c (by omega), hF.row (a := 23) (by decide) (by decide), m1, hF.row (a := 25) (by decide) (by decide), n3]
  refine ⟨vp_in_nI (N := 41) (by omega) (by decide), fun x6 hx6 => ⟨md_k25, vp_in_nI (N := 41) (by omega) (by decide), fun x9 hx9 => ?_⟩⟩
  rw [hx6, in_mul2, nI_add] at hx9
  rw [hx9]
  exact ⟨dt_pl N (td_r N ns k) + 1, loop _ 0 (by omega) J hF (by
    show md_E J (E ++ [])
    rw [List.append_nil]; exact hE)⟩
set_option maxHeartbeats 4000000 in
theorem m_gather {ad : Nat → Nat} {N J : Mm} {ns : List Nd} (hok : td_ok N ns) (hn : tm_n N ns) {en : Nat → Nat} (he : tm_e N ns en) (hen : ∀ n k, n < ns.length → k < ns.length → ((n ≤ k ∧ k < en n) ↔ tr_D ns n k)) (hle : ∀ n, n < ns.length → en n ≤ ns.length) {n : Nat} (hnl : n < ns.length) (hF : md_F N J) {post : Mm → Prop} (hp : ∀ (L : Mm) (E : List Ed), md_F N L → md_E L E → (∀ e, e ∈ E ↔ e ∈ td_E N ns n (tr_D ns n)) → md_ok 201 E → post L) : w_X7_gather (md_Y ad) J 0 (nI n) post := by
  obtain ⟨hw, h40, hsm, hcc, hjj⟩ := id hok
  have h12 := hw.2.2.1
  have h1 : n < en n := ((hen n n hnl hnl).mpr tr_D.rf).2
  have h2 := hle n hnl
  have loop : ∀ (t k : Nat), k + t = en n → n ≤ k → ∀ (J : Mm) (E : List Ed), md_F N J → md_E J E → E.length ≤ 12 * (k - n) → (∀ e, e ∈ E ↔ ∃ x, n ≤ x ∧ x < k ∧ (e ∈ dt_bE N (td_c ns x) (5 * x) 200 ∨ (x ≠ n ∧ e ∈ td_j N ns x))) → w_X7_gather_L7 (md_Y ad) post (fun J => post J) (t + 1) 0 (nI n) (nI k) J := by
    intro t
    induction t with
    | zero =>
      intro k hk hnk J E hF hE hlen hm
      refine ⟨md_k0, md_k27, vp_in_nI (N := 41) (by omega) (by decide), ?_⟩
      rw [md_r35, in_c (by omega), hF.row (a := 27) (by decide) (by decide), he n hnl]
      refine ⟨fun _ => ?_, fun h => ?_⟩
      · have hmE : ∀ e, e ∈ E ↔ e ∈ td_E N ns n (tr_D ns n) := fun e => by
          rw [hm e, td_E_mem]
          constructor
          · rintro ⟨x, x1, x2, x3⟩
            exact ⟨x, by omega, (hen n x hnl (by omega)).mp ⟨x1, by omega⟩, x3⟩
          · rintro ⟨x, x1, x2, x3⟩
            obtain ⟨y1, y2⟩ := (hen n x hnl x1).mpr x2
            exact ⟨x, y1, by omega, x3⟩
        refine hp J E hF hE hmE ⟨by decide, fun e he9 => ?_⟩
        exact (td_md hok (D := tr_D ns n) (n := n) (fun x hx hD hne => by have := tr_D.le hsm hx hD; omega)).2 e ((hmE e).mp he9)
      · rw [in_le, in_n (by omega), in_n (by omega)] at h
        omega
    | succ t ih =>
      intro k hk hnk J E hF hE hlen hm
      have hkl : k < ns.length := by omega
      have hc := hcc k hkl
      obtain ⟨n1, _⟩ := hn k hkl
      have n1 : N 23 k = nI (td_c ns k) := n1
      refine ⟨md_k0, md_k27, vp_in_nI (N := 41) (by omega) (by decide), ?_⟩
      rw [md_r35, in_c (by omega), hF.row (a := 27) (by decide) (by decide), he n hnl, md_r31, in_c (by omega), hF.row (a := 23) (by decide) (by decide), n1, in_mul5]
      refine ⟨fun h => ?_, fun _ => ⟨md_k23, vp_in_nI (N := 41) (by omega) (by decide), ?_⟩⟩
      · rw [in_le, in_n (by omega), in_n (by omega)] at h
        omega
      · have hnb := (hw.2.2.2 _ hc).2.2.2.2.2.2.1
        have ncJ : dt_nc J = dt_nc N := by unfold dt_nc; rw [hF.2 7 (by decide)]
        have nbJ : dt_nb J (td_c ns k) = dt_nb N (td_c ns k) := by unfold dt_nb; rw [hF.row (a := 11) (by decide) (by decide)]
        refine m_addBounds (at9 := 5 * k) (z := 200) (hF.w hw) (by rw [ncJ]; exact hc) (by omega) (by decide) hE (by rw [nbJ]; omega) (fun L hL hEL => ?_)
        rw [hF.bE] at hEL
        have hlen2 : (E ++ dt_bE N (td_c ns k) (5 * k) 200).length ≤ 12 * (k - n) + 8 := by
          rw [List.length_append]
          have : (dt_bE N (td_c ns k) (5 * k) 200).length = dt_nb N (td_c ns k) := by unfold dt_bE; rw [List.length_map, List.length_range]
          omega
        refine ⟨fun h9 x hx => ?_, fun h9 => ?_⟩
        · rw [in_le, in_n (by omega), in_n (by omega)] at h9
          have e9 : k = n := by omega
          rw [hx, in_s]
          refine ih (k + 1) (by omega) (by omega) L _ (hF.tr hL) hEL (by omega) (fun e => ?_)
          rw [List.mem_append, hm e]
          constructor
          · rintro (⟨x, x1, x2, x3⟩ | h)
            · exact ⟨x, x1, by omega, x3⟩
            · exact ⟨k, hnk, by omega, Or.inl h⟩
          · rintro ⟨x, x1, x2, x3⟩
            have : x = k := by omega
            rw [this] at x3
            rcases x3 with h | ⟨h, _⟩
            · exact Or.inr h
            · exact absurd e9 h
        · rw [in_le, in_n (by omega), in_n (by omega)] at h9
          have hkn : k ≠ n := by omega
          refine m_join hok hn (by omega) hkl (hF.tr hL) hEL (by omega) (fun K hK hEK x hx => ?_)
          rw [hx, in_s]
          obtain ⟨_, _, p3, _⟩ := hok.lt (show 0 < k by omega) hkl
          have hj : (td_j N ns k).length ≤ 4 := by
            unfold td_j
            rcases p3 with e | e
            · rw [e]; show 2 ≤ 4; decide
            · rw [e]; show 4 ≤ 4; decide
          refine ih (k + 1) (by omega) (by omega) K _ hK hEK (by rw [List.length_append]; omega) (fun e => ?_)
          rw [List.mem_append, List.mem_append, hm e]
          constructor
          · rintro ((⟨x, x1, x2, x3⟩ | h) | h)
            · exact ⟨x, x1, by omega, x3⟩
            · exact ⟨k, hnk, by omega, Or.inl h⟩
            · exact ⟨k, hnk, by omega, Or.inr ⟨hkn, h⟩⟩
          · rintro ⟨x, x1, x2, x3⟩
            by_cases e9 : x = k
            · rw [e9] at x3
              rcases x3 with h | ⟨_, h⟩
              · exact Or.inl (Or.inr h)
              · exact Or.inr h
            · exact Or.inl (Or.inl ⟨x, x1, by omega, x3⟩)
  refine ⟨md_k0, fun J2 e2 => ⟨en n - n + 1, loop _ n (by omega) (Nat.le_refl _) J2 [] (hF.tr ⟨fun a a0 _ _ _ _ => by rw [e2]; exact ky_up_ne a0, fun j hj => ky_up_o e2 hj⟩) (md_E_nil e2) (by rw [Nat.sub_self]; exact Nat.le_refl _) (fun e => ⟨fun h9 => (by cases h9), fun ⟨x, x1, x2, _⟩ => by omega⟩)⟩⟩
