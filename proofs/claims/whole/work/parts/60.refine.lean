/-! REFINE as a whole -/
theorem ms_f_ok {pl i : Nat} (h : i < pl + 1) : ms_f (pl + 1) i = 2 ∨ ms_f (pl + 1) i < pl := by
  unfold ms_f
  by_cases e : i = pl + 1 - 1
  · rw [if_pos e]; exact Or.inl rfl
  · rw [if_neg e]; exact Or.inr (by omega)
theorem ms_m_mono {r e : Nat} {X : Nat → Nat → Int32} {s0 : Mm × Nat} : ∀ t, s0.2 ≤ (ms_m r e X s0 t).2 := fun t => by
  induction t with
  | zero => exact Nat.le_refl _
  | succ t ih =>
    show s0.2 ≤ (mk_st r X (ms_m r e X s0 t) (ms_f e (t / e)) (ms_f e (t % e))).2
    by_cases h : mk_g (ms_m r e X s0 t).1 r (ms_f e (t / e)) (ms_f e (t % e)) (X (ms_f e (t / e)) (ms_f e (t % e)))
    · rw [mk_st_1 h]; exact Nat.le_succ_of_le ih
    · rw [mk_st_0 h]; exact ih
set_option maxHeartbeats 4000000 in
theorem m_marksOf {ad : Nat → Nat} {N M : Mm} {ns : List Nd} (hok : td_ok N ns) (hn : tm_n N ns) {k : Nat} (h0 : 0 < k) (hk : k < ns.length) {s : Mm × Nat} (hF : mk_F N s.1) (hM : md_F s.1 M) {E : List Ed} (hE : md_E M E) (hE2 : md_ok 201 E) {Mb : Nat → Nat → Option Int} (hC : df_C 201 E Mb) {X : Nat → Nat → Int32} (hX : ∀ u v, u < 3 → v < 3 → md_o (X u v) = Mb (dq_pt k (td_h N ns k u)) (dq_pt k (td_h N ns k v))) {post : Int32 → Mm → Prop} (hp : ∀ M', md_F (ms_c (td_r N ns k) X s 9).1 M' → post (nI ((ms_c (td_r N ns k) X s 9).2 - s.2)) M') : w_X7_marksOf (md_Y ad) M 0 (nI k) post := by
  obtain ⟨p1, p2, p3, p4, p5⟩ := hok.lt h0 hk
  obtain ⟨hw, h40, hsm, hcc, hjj⟩ := id hok
  have h12 := hw.2.2.1
  have hr4 := hw.1.2.1
  have ck := hcc k hk
  obtain ⟨_, w2⟩ := hjj k h0 hk
  obtain ⟨n1, _⟩ := hn k hk
  have n1 : N 23 k = nI (td_c ns k) := n1
  obtain ⟨pl1, _⟩ := hw.1.2.2.1 _ p2
  have hv7 : ∀ q, q < 2 → N 7 (2 * td_c ns k + q) = nI (dt_hv N (td_c ns k) q) ∧ dt_hv N (td_c ns k) q < 5 := (hw.2.2.2 _ ck).2.1
  have rw9 : ∀ a, a ≠ 0 → a ≠ 2 → a ≠ 3 → a ≠ 4 → a ≠ 5 → (a < 19 ∨ 22 < a) → M a = N a := fun a a0 a2 a3 a4 a5 a6 => by rw [hM.row a0 a6, hF.2 a a2 a3 a4 a5]
  have heq := ms_eq (X := X) hF p2 p3
  rw [← heq] at hp
  generalize hpe : dt_pl N (td_r N ns k) = pl at *
  have hpl2 : pl ≤ 2 := by omega
  have loop : ∀ (t κ : Nat), κ + t = (pl + 1) * (pl + 1) → ∀ M, md_F (ms_m (td_r N ns k) (pl + 1) X s κ).1 M → md_E M E → w_X7_marksOf_L30 (md_Y ad) post (fun v J => post v J) (t + 1) 0 (nI k) (nI (td_c ns k)) (nI (td_r N ns k)) (nI (pl + 1)) (nI ((ms_m (td_r N ns k) (pl + 1) X s κ).2 - s.2)) (nI κ) M := by
    have h9 : (pl + 1) * (pl + 1) ≤ 9 := by rcases p3 with e | e <;> rw [e] <;> decide
    intro t
    induction t with
    | zero =>
      intro κ hκ M hM hE
      refine ⟨fun _ => ?_, fun h => ?_⟩
      · have e : κ = (pl + 1) * (pl + 1) := by omega
        rw [e] at hM ⊢
        exact hp M hM
      · rw [pk_mul, in_le, in_n (by omega), in_n (by omega)] at h
        omega
    | succ t ih =>
      intro κ hκ M hM hE
      obtain ⟨hFs, hle⟩ := ms_m_F (X := X) (e := pl + 1) hF p2 κ
      have hge := ms_m_mono (r := td_r N ns k) (e := pl + 1) (X := X) (s0 := s) κ
      have hpos : 0 < pl + 1 := Nat.succ_pos _
      have hdiv : κ / (pl + 1) < pl + 1 := (Nat.div_lt_iff_lt_mul hpos).mpr (by omega)
      have hmod : κ % (pl + 1) < pl + 1 := Nat.mod_lt _ hpos
      have cu := ms_f_ok hdiv
      have cv := ms_f_ok hmod
      refine ⟨fun h => ?_, fun _ => ⟨?_, fun x12 hx12 x13 hx13 => ?_⟩⟩
      · rw [pk_mul, in_le, in_n (by omega), in_n (by omega)] at h
        omega
      · rw [in_e0 (by omega)]; omega
      · rw [pk_rem (by omega) hpos (by omega)] at hx13
        rw [pk_div (by omega) hpos (by omega)] at hx12
        subst hx12
        subst hx13
        have b86 : w_X7_marksOf_B86 (md_Y ad) post (fun k0 v1 v2 v3 v4 v5 v6 J => w_X7_marksOf_L30 (md_Y ad) post (fun v J => post v J) (t + 1) k0 v1 v2 v3 v4 v5 v6 J) (fun v J => post v J) 0 (nI k) (nI (td_c ns k)) (nI (td_r N ns k)) (nI (pl + 1)) (nI ((ms_m (td_r N ns k) (pl + 1) X s κ).2 - s.2)) (nI κ) (nI (ms_f (pl + 1) (κ / (pl + 1)))) (nI (ms_f (pl + 1) (κ % (pl + 1)))) M := by
          refine m_mark1 (N := N) (by omega) ck h12 p2 hr4 hv7 hFs hM hE hE2 hC (by rw [hpe]; exact cu) (by rw [hpe]; exact cv) (by rw [hpe]; exact hpl2) (hX _ _ (by omega) (by omega)) hge (fun M' hM' hE' x5 x6 hx5 hx6 => ?_)
          rw [hx5, hx6, in_s]
          exact ih (κ + 1) (by omega) M' hM' hE'
        have b69 : w_X7_marksOf_B69 (md_Y ad) post (fun k0 v1 v2 v3 v4 v5 v6 J => w_X7_marksOf_L30 (md_Y ad) post (fun v J => post v J) (t + 1) k0 v1 v2 v3 v4 v5 v6 J) (fun v J => post v J) 0 (nI k) (nI (td_c ns k)) (nI (td_r N ns k)) (nI (pl + 1)) (nI ((ms_m (td_r N ns k) (pl + 1) X s κ).2 - s.2)) (nI κ) (nI (κ % (pl + 1))) (nI (ms_f (pl + 1) (κ / (pl + 1)))) M := by
          refine ⟨fun h => ?_, fun h => ?_⟩
          · rw [in_sub1 (by omega), nI_eq (by omega) (by omega)] at h
            have e : ms_f (pl + 1) (κ % (pl + 1)) = κ % (pl + 1) := by unfold ms_f; rw [if_neg (by omega)]
            rw [e] at b86
            exact b86
          · rw [in_sub1 (by omega), nI_eq (by omega) (by omega)] at h
            have e : ms_f (pl + 1) (κ % (pl + 1)) = 2 := by unfold ms_f; rw [if_pos (by omega)]
            rw [e] at b86
            exact b86
        refine ⟨fun h => ?_, fun h => ?_⟩
        · rw [in_sub1 (by omega), nI_eq (by omega) (by omega)] at h
          have e : ms_f (pl + 1) (κ / (pl + 1)) = κ / (pl + 1) := by unfold ms_f; rw [if_neg (by omega)]
          rw [e] at b69
          exact b69
        · rw [in_sub1 (by omega), nI_eq (by omega) (by omega)] at h
          have e : ms_f (pl + 1) (κ / (pl + 1)) = 2 := by unfold ms_f; rw [if_pos (by omega)]
          rw [e] at b69
          exact b69
  refine ⟨md_k0, md_k23, vp_in_nI (N := 41) (by omega) (by decide), fun x4 hx4 => ?_⟩
  rw [md_r31, in_c (by omega), rw9 23 (by decide) (by decide) (by decide) (by decide) (by decide) (by decide), n1] at hx4
  subst hx4
  refine ⟨md_k6, vp_in_nI (N := 12) (by omega) (by decide), fun x7 hx7 => ?_⟩
  rw [md_r8, in_c (by omega), rw9 6 (by decide) (by decide) (by decide) (by decide) (by decide) (by decide), w2] at hx7
  subst hx7
  refine ⟨md_k1, vp_in_nI (N := 4) (by omega) (by decide), fun x10 hx10 => ?_⟩
  rw [md_r2, in_c (by omega), rw9 1 (by decide) (by decide) (by decide) (by decide) (by decide) (by decide), pl1, in_s] at hx10
  subst hx10
  have := loop ((pl + 1) * (pl + 1)) 0 (by omega) M hM hE
  have e0 : (ms_m (td_r N ns k) (pl + 1) X s 0).2 - s.2 = 0 := Nat.sub_self _
  rw [e0] at this
  exact ⟨_, this⟩
/-- what the class's sets say after closing, node by node -/
theorem cq_fl {J N : Mm} {ns : List Nd} {n m : Nat} (h : cq_1 J N ns n m) : J (9 + 3 * n) 1 = 0 ∨ J (9 + 3 * n) 1 = 1 := h.elim (fun h => Or.inr h.1) (fun h => Or.inl h.1)
theorem cq_D {J N : Mm} {ns : List Nd} (hok : td_ok N ns) {n : Nat} (h : cq_1 J N ns n 0) : (J (9 + 3 * n) 1 = 1 ∧ df_S (td_E N ns n (tr_D ns n)) ∧ dq_Q (td_E N ns n (tr_D ns n)) (dq_pt n) (cl_M (J (10 + 3 * n)))) ∨ (J (9 + 3 * n) 1 = 0 ∧ ¬ df_S (td_E N ns n (tr_D ns n))) := by
  have hm := td_E_congr (N := N) (n := n) (fun k hk => td_D_all hok.2.2.1 (n := n) hk (m := 0) (fun j _ h2 _ => h2))
  rcases h with ⟨a, b, c⟩ | ⟨a, b⟩
  · exact Or.inl ⟨a, (df_S_mem hm).mp b, dq_Q_mem hm c⟩
  · exact Or.inr ⟨a, fun h9 => b ((df_S_mem hm).mpr h9)⟩
theorem mk_F.tm {N N' : Mm} {ns : List Nd} {en : Nat → Nat} (h : mk_F N N') (h1 : tm_n N ns) (h2 : tm_e N ns en) : tm_n N' ns ∧ tm_e N' ns en := by
  unfold tm_n tm_e
  rw [h.2 23 (by decide) (by decide) (by decide) (by decide), h.2 24 (by decide) (by decide) (by decide) (by decide), h.2 25 (by decide) (by decide) (by decide) (by decide), h.2 26 (by decide) (by decide) (by decide) (by decide), h.2 27 (by decide) (by decide) (by decide) (by decide)]
  exact ⟨h1, h2⟩
set_option maxHeartbeats 4000000 in
theorem m_marks_L {ad : Nat → Nat} {N I : Mm} {ns : List Nd} (hok : td_ok N ns) (hn : tm_n N ns) {en : Nat → Nat} (he : tm_e N ns en) (hen : ∀ n k, n < ns.length → k < ns.length → ((n ≤ k ∧ k < en n) ↔ tr_D ns n k)) (hle : ∀ n, n < ns.length → en n ≤ ns.length) (h30 : N 0 30 = nI ns.length) (hq : ∀ n, n < ns.length → cq_1 I N ns n 0) {post : Int32 → Mm → Prop} {ex : Nat → Int32 → Mm → Prop} (hp : ∀ M : Mm, md_F (mn_r N I ns (ns.length - 1)).1 M → ex 0 (nI (mn_r N I ns (ns.length - 1)).2) M) :
    ∀ (t k : Nat), k + 1 + t = ns.length → ∀ M : Mm, md_F (mn_r N I ns k).1 M → w_X7_improve_L42 (md_Y ad) post ex (t + 1) 0 (nI (mn_r N I ns k).2) (nI (k + 1)) M := by
  have h40 := hok.2.1
  intro t
  induction t with
  | zero =>
    intro k hk M hM
    obtain ⟨hFk, _⟩ := mn_r_F (I := I) hok k (by omega)
    have m30 : M 0 30 = nI ns.length := by rw [hM.2 30 (by decide), hFk.2 0 (by decide) (by decide) (by decide) (by decide)]; exact h30
    refine ⟨md_k0, ?_⟩
    rw [m30]
    refine ⟨fun _ => ?_, fun h => ?_⟩
    · have e : ns.length - 1 = k := by omega
      rw [e] at hp
      exact hp M hM
    · rw [in_le, in_n (by omega), in_n (by omega)] at h
      omega
  | succ t ih =>
    intro k hk M hM
    obtain ⟨hFk, _⟩ := mn_r_F (I := I) hok k (by omega)
    have m30 : M 0 30 = nI ns.length := by rw [hM.2 30 (by decide), hFk.2 0 (by decide) (by decide) (by decide) (by decide)]; exact h30
    obtain ⟨t1, t2⟩ := hFk.tm hn he
    refine ⟨md_k0, ?_⟩
    rw [m30]
    refine ⟨fun h => ?_, fun _ => ?_⟩
    · rw [in_le, in_n (by omega), in_n (by omega)] at h
      omega
    · refine m_gather (hFk.Tok hok) t1 t2 hen hle (n := k + 1) (by omega) hM (fun L E hL hE hm hok9 => ?_)
      rw [hFk.TE] at hm
      refine m_holds (nv := 201) hok9 hE (fun K r hK hr => ?_)
      have hLK : md_F (mn_r N I ns k).1 K := hL.tr (md_F.of22 hK)
      have hEK : md_E K E := md_E_keep hE (hK 0 (by decide)) (hK 19 (by decide)) (hK 20 (by decide)) (hK 21 (by decide))
      rw [df_S_mem hm] at hr
      refine ⟨fun h0 x hx => ?_, fun h1 => ?_⟩
      · rw [hx, in_s]
        rcases hr with ⟨hr, _⟩ | ⟨_, hr⟩
        · rw [hr] at h0; exact absurd h0 (by decide)
        rcases cq_D hok (hq (k + 1) (by omega)) with ⟨_, b, _⟩ | ⟨a, _⟩
        · exact absurd b hr
        · have em : mn_r N I ns (k + 1) = mn_r N I ns k := by
            show (if I (9 + 3 * (k + 1)) 1 = 0 then mn_r N I ns k else ms_c (td_r N ns (k + 1)) (mx_X N I ns (k + 1)) (mn_r N I ns k) 9) = _
            rw [if_pos a]
          have := ih (k + 1) (by omega) K (by rw [em]; exact hLK)
          rw [em] at this
          exact this
      · rcases hr with ⟨_, hr⟩ | ⟨hr, _⟩
        · rcases cq_D hok (hq (k + 1) (by omega)) with ⟨a, b, c⟩ | ⟨_, b⟩
          · have em : mn_r N I ns (k + 1) = ms_c (td_r N ns (k + 1)) (mx_X N I ns (k + 1)) (mn_r N I ns k) 9 := by
              show (if I (9 + 3 * (k + 1)) 1 = 0 then mn_r N I ns k else ms_c (td_r N ns (k + 1)) (mx_X N I ns (k + 1)) (mn_r N I ns k) 9) = _
              rw [if_neg (by rw [a]; decide)]
            obtain ⟨Mb, hC⟩ := df_S_C E hok9.P ((df_S_mem hm).mpr hr)
            obtain ⟨_, _, _, p4, _⟩ := hok.lt (show 0 < k + 1 by omega) (show k + 1 < ns.length by omega)
            refine m_marksOf hok hn (by omega) (by omega) hFk hLK hEK hok9 hC (X := mx_X N I ns (k + 1)) (fun u v _ _ => ?_) (fun M' hM' x12 hx12 x13 hx13 => ?_)
            · exact dq_Q_eq hok9.P hC (fun i hi => dq_pt_lt (by omega) hi) (dq_Q_mem (fun e => (hm e).symm) c) (p4 u).2 (p4 v).2
            · have := mn_r_mono (N := N) (I := I) (ns := ns) (k := k)
              rw [← em] at hM' hx12
              rw [hx12, hx13, nI_add, in_s, show (mn_r N I ns k).2 + ((mn_r N I ns (k + 1)).2 - (mn_r N I ns k).2) = (mn_r N I ns (k + 1)).2 by omega]
              exact ih (k + 1) (by omega) M' hM'
          · exact absurd hr b
        · exact absurd hr h1
/-- how what is not data goes on -/
theorem rl_u_go {b : Nat} {I J N M : Mm} {v : Int32} (hu : rl_u b I N) (hr4 : dt_nr N ≤ 4) (c1 : ∀ r j, r < 4 → 4 ≤ j → j < 8 → J (137 + 8 * r + j) = I (137 + 8 * r + j)) (c2 : ∀ j, j ≠ 5 → J 0 j = I 0 j) (c3 : J 3 1 = I 3 1) (c4 : ∀ k, k < 41 → J (8 + 3 * k) = I (8 + 3 * k)) (m1 : ∀ a, a ≠ 0 → (5 < a ∧ a < 18 ∨ 22 < a ∧ a < 28) → M a = N a) (m2 : ∀ j, j ≠ 0 → j ≠ 23 → j ≠ 25 → j ≠ 37 → j ≠ 38 → M 0 j = N 0 j) (hv : 0 ≤ v.toInt) (j5 : J 0 5 = v) (m23 : M 0 23 = v) : rl_u b J M := by
  obtain ⟨u1, u2, u3, u4, u5, u6, u7, u8, u9, u10⟩ := hu
  have enr : dt_nr M = dt_nr N := by unfold dt_nr; rw [m2 1 (by decide) (by decide) (by decide) (by decide) (by decide)]
  have enc : dt_nc M = dt_nc N := by unfold dt_nc; rw [m2 7 (by decide) (by decide) (by decide) (by decide) (by decide)]
  have ena : dt_na M = dt_na N := by funext x; unfold dt_na; rw [m1 8 (by decide) (by decide)]
  have ear : dt_ar M = dt_ar N := by funext x y; unfold dt_ar; rw [m1 9 (by decide) (by decide)]
  have e20 := m2 20 (by decide) (by decide) (by decide) (by decide) (by decide)
  have eT : rl_T M = rl_T N := by
    funext c ns en
    unfold rl_T
    rw [enc, ena, ear, m1 6 (by decide) (by decide)]
  refine ⟨fun r m hr hm => ?_, by rw [c2 4 (by decide), e20]; exact u2, by rw [e20]; exact u3, by rw [e20]; exact u4, fun r m hr hm hne => ?_, ?_, by rw [j5, m23], by rw [m23]; exact hv, by rw [c2 8 (by decide), m2 24 (by decide) (by decide) (by decide) (by decide) (by decide)]; exact u9, ?_⟩
  · rw [c1 r 4 hr (by decide) (by decide), m1 15 (by decide) (by decide), e20, enr]
    exact u1 r m hr hm
  · rw [enr] at hr
    rw [m1 15 (by decide) (by decide)] at hne
    rw [c1 r 5 (by omega) (by decide) (by decide), c1 r 6 (by omega) (by decide) (by decide), c1 r 7 (by omega) (by decide) (by decide), m1 16 (by decide) (by decide), m1 17 (by decide) (by decide)]
    exact u5 r m hr hm hne
  · unfold dt_y
    rw [enr, enc, ena, ear, m1 6 (by decide) (by decide), m1 15 (by decide) (by decide), m1 16 (by decide) (by decide), m1 17 (by decide) (by decide)]
    exact u6
  · rcases u10 with ⟨a1, a2, a3, a4⟩ | ⟨c, ns, en, a1, a2, a3, a4, a5, a6, a7, a8, a9⟩
    · exact Or.inl ⟨by rw [m2 21 (by decide) (by decide) (by decide) (by decide) (by decide)]; exact a1, by rw [c2 6 (by decide)]; exact a2, by rw [m2 30 (by decide) (by decide) (by decide) (by decide) (by decide)]; exact a3, by rw [c3]; exact a4⟩
    · have hl := a6.2.1
      refine Or.inr ⟨c, ns, en, by rw [m2 21 (by decide) (by decide) (by decide) (by decide) (by decide)]; exact a1, by rw [c2 6 (by decide)]; exact a2, by rw [enc]; exact a3, by rw [m2 30 (by decide) (by decide) (by decide) (by decide) (by decide)]; exact a4, by rw [c3]; exact a5, by rw [eT]; exact a6, fun k hk => by rw [c4 k (by omega)]; exact a7 k hk, ?_, ?_⟩
      · unfold tm_n
        rw [m1 23 (by decide) (by decide), m1 24 (by decide) (by decide), m1 25 (by decide) (by decide), m1 26 (by decide) (by decide)]
        exact a8
      · unfold tm_e
        rw [m1 27 (by decide) (by decide)]
        exact a9
