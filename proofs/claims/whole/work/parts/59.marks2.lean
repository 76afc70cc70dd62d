/-! NEW MARKS: a node in the class; a node in the reference -/
def mx_X (N I : Mm) (ns : List Nd) (k : Nat) : Nat → Nat → Int32 := fun u v => I (10 + 3 * k) (td_h N ns k u * 6 + td_h N ns k v)
noncomputable def mn_r (N I : Mm) (ns : List Nd) : Nat → Mm × Nat
  | 0 => (N, 0)
  | k + 1 => if I (9 + 3 * (k + 1)) 1 = 0 then mn_r N I ns k else ms_c (td_r N ns (k + 1)) (mx_X N I ns (k + 1)) (mn_r N I ns k) 9
theorem mn_r_F {N I : Mm} {ns : List Nd} (hok : td_ok N ns) : ∀ k, k < ns.length → mk_F N (mn_r N I ns k).1 ∧ (mn_r N I ns k).2 ≤ 9 * k := by
  intro k
  induction k with
  | zero => exact fun _ => ⟨mk_F.rf hok.1, Nat.le_refl _⟩
  | succ k ih =>
    intro hk
    obtain ⟨a, b⟩ := ih (by omega)
    obtain ⟨_, p2, _⟩ := hok.lt (show 0 < k + 1 by omega) hk
    unfold mn_r
    by_cases h : I (9 + 3 * (k + 1)) 1 = 0
    · rw [if_pos h]; exact ⟨a, by omega⟩
    · rw [if_neg h]
      obtain ⟨c, d⟩ := ms_c_F (X := mx_X N I ns (k + 1)) a p2 9
      exact ⟨c, by omega⟩
theorem ms_c_mono {r : Nat} {X : Nat → Nat → Int32} {s0 : Mm × Nat} : ∀ t, s0.2 ≤ (ms_c r X s0 t).2 := fun t => by
  induction t with
  | zero => exact Nat.le_refl _
  | succ t ih =>
    show s0.2 ≤ (mk_st r X (ms_c r X s0 t) (t / 3) (t % 3)).2
    by_cases h : mk_g (ms_c r X s0 t).1 r (t / 3) (t % 3) (X (t / 3) (t % 3))
    · rw [mk_st_1 h]; exact Nat.le_succ_of_le ih
    · rw [mk_st_0 h]; exact ih
theorem mn_r_mono {N I : Mm} {ns : List Nd} {k : Nat} : (mn_r N I ns k).2 ≤ (mn_r N I ns (k + 1)).2 := by
  show _ ≤ (if I (9 + 3 * (k + 1)) 1 = 0 then mn_r N I ns k else ms_c (td_r N ns (k + 1)) (mx_X N I ns (k + 1)) (mn_r N I ns k) 9).2
  split
  · exact Nat.le_refl _
  · exact ms_c_mono 9
theorem rl_s_mk {J N N' : Mm} (hs : rl_s J N') (hF : mk_F N N') {c : Nat} (hc : c < dt_nc N) : J (170 + 7 * c) 0 = N 6 c ∧ J (170 + 7 * c) 1 = N 7 (2 * c) ∧ J (170 + 7 * c) 2 = N 7 (2 * c + 1) := by
  obtain ⟨r1, r2, r3, _⟩ := hs.2.2.1 c (by rw [hF.nc]; exact hc)
  rw [hF.2 6 (by decide) (by decide) (by decide) (by decide)] at r1
  rw [hF.2 7 (by decide) (by decide) (by decide) (by decide)] at r2 r3
  exact ⟨r1, r2, r3⟩
set_option maxHeartbeats 2000000 in
theorem p_markBy {ad : Nat → Nat} {N I J : Mm} {ns : List Nd} (hok : td_ok N ns) (hn : tc_n I ns) (hsI : rl_s I N) {k : Nat} (hk : k + 1 < ns.length) (hfl : I (9 + 3 * (k + 1)) 1 = 0 ∨ I (9 + 3 * (k + 1)) 1 = 1) (hF : mb_F I J) (hH : mb_H I J) (hs : rl_s J (mn_r N I ns k).1) {post : Int32 → Mm → Prop} (hp : ∀ L : Mm, mb_F I L → mb_H I L → rl_s L (mn_r N I ns (k + 1)).1 → post (nI ((mn_r N I ns (k + 1)).2 - (mn_r N I ns k).2)) L) : w_X6_markBy (cl_Y ad) J 0 (8 + 3 * (k + 1)) post := by
  obtain ⟨p1, p2, p3, p4, p5⟩ := hok.lt (show 0 < k + 1 by omega) hk
  obtain ⟨hw, h40, hsm, hcc, hjj⟩ := id hok
  have h12 := hw.2.2.1
  have hr4 := hw.1.2.1
  have ck := hcc (k + 1) hk
  obtain ⟨_, w2⟩ := hjj (k + 1) (by omega) hk
  obtain ⟨hFk, _⟩ := mn_r_F (I := I) hok k (by omega)
  obtain ⟨n0, _⟩ := hn (k + 1) hk
  have n0 : I (8 + 3 * (k + 1)) 0 = nI (td_c ns (k + 1)) := n0
  have hB := cy_Bn (ad := ad) (n := k + 1) (by omega)
  refine ⟨cy_kn (by omega), ?_⟩
  rw [cy_rn (by omega), hF (9 + 3 * (k + 1)) (by omega)]
  refine ⟨hB.1, fun h1 => ⟨cy_0, cy_2, ?_⟩, fun h0 => ?_⟩
  · have em : mn_r N I ns (k + 1) = ms_c (td_r N ns (k + 1)) (mx_X N I ns (k + 1)) (mn_r N I ns k) 9 := by
      show (if I (9 + 3 * (k + 1)) 1 = 0 then mn_r N I ns k else ms_c (td_r N ns (k + 1)) (mx_X N I ns (k + 1)) (mn_r N I ns k) 9) = _
      rw [if_neg h1]
    rw [em] at hp
    rw [hF (8 + 3 * (k + 1)) (by omega), n0, cy_p2, in_c (by omega), cy_cla, cy_rc0 (by omega)]
    refine ⟨vp_in_nI (N := 12) (by omega) (by decide), cy_kc (by omega), fun q7 hq7 => ?_⟩
    subst hq7
    obtain ⟨r1, r2, r3⟩ := rl_s_mk hs hFk ck
    rw [w2] at r1
    rw [r1, cy_p0, in_c (by omega), cy_rel]
    refine ⟨cy_kh (by omega), cy_1, vp_in_nI (N := 4) (by omega) (by decide), fun q11 hq11 => ⟨3 + 1, ?_⟩⟩
    subst hq11
    obtain ⟨x0, _⟩ := (hw.2.2.2 _ ck).2.1 0 (by decide)
    obtain ⟨x1, _⟩ := (hw.2.2.2 _ ck).2.1 1 (by decide)
    rw [Nat.add_zero] at x0
    have eX : (fun u v => J (10 + 3 * (k + 1)) (dt_pt 5 (dt_hv N (td_c ns (k + 1)) 0) (dt_hv N (td_c ns (k + 1)) 1) u * 6 + dt_pt 5 (dt_hv N (td_c ns (k + 1)) 0) (dt_hv N (td_c ns (k + 1)) 1) v)) = mx_X N I ns (k + 1) := by
      rw [hF (10 + 3 * (k + 1)) (by omega)]; rfl
    have hgo := p_markBy_L (ad := ad) (N := N) (I0 := J) (k := k + 1) (c := td_c ns (k + 1)) (r := td_r N ns (k + 1)) (s0 := mn_r N I ns k) (b0 := 0) (post := post) (ex := fun v J => post v J) (by omega) (by omega) p2 (r2.trans x0) (r3.trans x1) (fun u _ => (p4 u).2) hFk (fun L hL hHL hsL => ?_) 3 0 (by decide) J mb_F.rf (fun _ _ _ _ _ => rfl) hs
    · have e0 : (ms_c (td_r N ns (k + 1)) (fun u v => J (10 + 3 * (k + 1)) (dt_pt 5 (dt_hv N (td_c ns (k + 1)) 0) (dt_hv N (td_c ns (k + 1)) 1) u * 6 + dt_pt 5 (dt_hv N (td_c ns (k + 1)) 0) (dt_hv N (td_c ns (k + 1)) 1) v)) (mn_r N I ns k) (3 * 0)).2 - (mn_r N I ns k).2 = 0 := Nat.sub_self _
      rw [e0] at hgo
      exact hgo
    · rw [eX] at hsL ⊢
      exact hp L (hF.tr hL) (fun r' j a b c => (hHL r' j a b c).trans (hH r' j a b c)) hsL
  · have em : mn_r N I ns (k + 1) = mn_r N I ns k := by
      show (if I (9 + 3 * (k + 1)) 1 = 0 then mn_r N I ns k else ms_c (td_r N ns (k + 1)) (mx_X N I ns (k + 1)) (mn_r N I ns k) 9) = _
      rw [if_pos h0]
    rw [em, Nat.sub_self] at hp
    exact hp J hF hH hs
theorem p_marks_L {ad : Nat → Nat} {N I : Mm} {ns : List Nd} (hok : td_ok N ns) (hn : tc_n I ns) (hsI : rl_s I N) (h31 : I 3 1 = nI ns.length) (hfl : ∀ k, k < ns.length → I (9 + 3 * k) 1 = 0 ∨ I (9 + 3 * k) 1 = 1) {post : Int32 → Mm → Prop} {ex : Nat → Int32 → Mm → Prop} (hp : ∀ L : Mm, mb_F I L → mb_H I L → rl_s L (mn_r N I ns (ns.length - 1)).1 → ex 0 (nI (mn_r N I ns (ns.length - 1)).2) L) :
    ∀ (t k : Nat), k + 1 + t = ns.length → ∀ J : Mm, mb_F I J → mb_H I J → rl_s J (mn_r N I ns k).1 → w_X6_refineAlarm_L52 (cl_Y ad) post ex (t + 1) 0 (nI (mn_r N I ns k).2) (nI (k + 1)) J := by
  have h40 := hok.2.1
  intro t
  induction t with
  | zero =>
    intro k hk J hF hH hs
    refine ⟨cy_0, cy_3, ?_⟩
    rw [cy_p7, hF 3 (by omega), h31]
    refine ⟨fun _ => ?_, fun h => ?_⟩
    · have e : ns.length - 1 = k := by omega
      rw [e] at hp
      exact hp J hF hH hs
    · rw [in_le, in_n (by omega), in_n (by omega)] at h
      omega
  | succ t ih =>
    intro k hk J hF hH hs
    refine ⟨cy_0, cy_3, ?_⟩
    rw [cy_p7, hF 3 (by omega), h31]
    refine ⟨fun h => ?_, fun _ => ⟨cy_4, vp_in_nI (N := 41) (by omega) (by decide), ?_⟩⟩
    · rw [in_le, in_n (by omega), in_n (by omega)] at h
      omega
    · rw [cy_t0, in_c (by omega), cy_nod]
      refine p_markBy hok hn hsI (by omega) (hfl _ (by omega)) hF hH hs (fun L hL hHL hsL x14 hx14 x15 hx15 => ?_)
      have := mn_r_mono (N := N) (I := I) (ns := ns) (k := k)
      rw [hx14, hx15, nI_add, in_s, show (mn_r N I ns k).2 + ((mn_r N I ns (k + 1)).2 - (mn_r N I ns k).2) = (mn_r N I ns (k + 1)).2 by omega]
      exact ih (k + 1) (by omega) L hL hHL hsL
/-! the reference -/
theorem md_F.am {N M M' : Mm} {r u v : Nat} {c : Int32} (h : md_F N M) (hm : am_m M M' r (dt_nm M r) (nI u) (nI v) c) : md_F (mk_M N r u v c) M' := by
  have e2 : M 2 = N 2 := h.row (by decide) (by decide)
  have e3 : M 3 = N 3 := h.row (by decide) (by decide)
  have e4 : M 4 = N 4 := h.row (by decide) (by decide)
  have e5 : M 5 = N 5 := h.row (by decide) (by decide)
  have en : dt_nm M r = dt_nm N r := by unfold dt_nm; rw [e2]
  have hN := mk_M_am (N := N) (r := r) (u := u) (v := v) (c := c)
  rw [en] at hm
  refine ⟨fun a a0 a1 a2 a3 a4 => ?_, fun j hj => ?_⟩
  · by_cases x2 : a = 2
    · rw [x2, hm.1, hN.1, e2]
    · by_cases x3 : a = 3
      · rw [x3, hm.2.1, hN.2.1, e3]
      · by_cases x4 : a = 4
        · rw [x4, hm.2.2.1, hN.2.2.1, e4]
        · by_cases x5 : a = 5
          · rw [x5, hm.2.2.2.1, hN.2.2.2.1, e5]
          · rw [hm.2.2.2.2 a x2 x3 x4 x5, hN.2.2.2.2 a x2 x3 x4 x5]
            exact h.1 a a0 a1 a2 a3 a4
  · rw [hm.2.2.2.2 0 (by decide) (by decide) (by decide) (by decide), hN.2.2.2.2 0 (by decide) (by decide) (by decide) (by decide)]
    exact h.2 j hj
set_option maxHeartbeats 4000000 in
theorem m_mark1 {ad : Nat → Nat} {N M : Mm} {k c r e : Nat} (hk : k < 40) (hc : c < dt_nc N) (h12 : dt_nc N ≤ 12) (hr : r < dt_nr N) (hr4 : dt_nr N ≤ 4) (hv7 : ∀ q, q < 2 → N 7 (2 * c + q) = nI (dt_hv N c q) ∧ dt_hv N c q < 5) {s : Mm × Nat} (hF : mk_F N s.1) (hM : md_F s.1 M) {E : List Ed} (hE : md_E M E) (hok : md_ok 201 E) {Mb : Nat → Nat → Option Int} (hC : df_C 201 E Mb) {X : Nat → Nat → Int32} {u v : Nat} (hu : u = 2 ∨ u < dt_pl N r) (hv : v = 2 ∨ v < dt_pl N r) (hpl : dt_pl N r ≤ 2) (hX : md_o (X u v) = Mb (dq_pt k (dt_pt 5 (dt_hv N c 0) (dt_hv N c 1) u)) (dq_pt k (dt_pt 5 (dt_hv N c 0) (dt_hv N c 1) v))) {n0 κ : Nat} (hn0 : n0 ≤ s.2) {post : Int32 → Mm → Prop} {rc : Nat → Int32 → Int32 → Int32 → Int32 → Int32 → Int32 → Mm → Prop} {ex : Int32 → Mm → Prop}
    (hrc : ∀ M', md_F (mk_st r X s u v).1 M' → md_E M' E → ∀ x5 x6, x5 = nI ((mk_st r X s u v).2 - n0) → x6 = nI κ + 1 → rc 0 (nI k) (nI c) (nI r) (nI e) x5 x6 M') : w_X7_marksOf_B86 (md_Y ad) post rc ex 0 (nI k) (nI c) (nI r) (nI e) (nI (s.2 - n0)) (nI κ) (nI u) (nI v) M := by
  have hwM : dt_w M := hM.w hF.1
  have nrM : dt_nr M = dt_nr N := by unfold dt_nr; rw [hM.2 1 (by decide)]; exact hF.nr
  have nmM : dt_nm M r = dt_nm s.1 r := by unfold dt_nm; rw [hM.row (a := 2) (by decide) (by decide)]
  have plM : dt_pl M = dt_pl N := by funext x; unfold dt_pl; rw [hM.row (a := 1) (by decide) (by decide), hF.2 1 (by decide) (by decide) (by decide) (by decide)]
  have row7 : M 7 = N 7 := by rw [hM.row (a := 7) (by decide) (by decide), hF.2 7 (by decide) (by decide) (by decide) (by decide)]
  obtain ⟨m1, m2, _⟩ := hwM.1.2.2.2.1 r (by omega)
  have hu3 : u < 3 := by omega
  have hv3 : v < 3 := by omega
  have same : ∀ M', md_F s.1 M' → md_E M' E → ¬ mk_g s.1 r u v (X u v) → ∀ x6, x6 = nI κ + 1 → rc 0 (nI k) (nI c) (nI r) (nI e) (nI (s.2 - n0)) x6 M' := fun M' hM' hE' hno x6 hx6 => hrc M' (by rw [mk_st_0 hno]; exact hM') hE' _ x6 (by rw [mk_st_0 hno]) hx6
  -- the points of the corners
  have pt : ∀ w, w < 3 → (w = 2 ∨ w < dt_pl N r) → (w ≠ 2 → nI (5 * k) + M 7 (2 * c + w) = nI (dq_pt k (dt_pt 5 (dt_hv N c 0) (dt_hv N c 1) w))) ∧ (w = 2 → (200 : Int32) = nI (dq_pt k (dt_pt 5 (dt_hv N c 0) (dt_hv N c 1) w))) ∧ dt_pt 5 (dt_hv N c 0) (dt_hv N c 1) w < 6 := fun w hw3 hwc => by
    refine ⟨fun hne => ?_, fun he => by rw [he]; rfl, dt_pt_lt (by have := (hv7 0 (by decide)).2; omega) (by have := (hv7 1 (by decide)).2; omega)⟩
    obtain ⟨a1, a2⟩ := hv7 w (by omega)
    have e9 : dt_pt 5 (dt_hv N c 0) (dt_hv N c 1) w = dt_hv N c w := by
      rcases (show w = 0 ∨ w = 1 by omega) with rfl | rfl <;> rfl
    rw [row7, a1, nI_add, e9, dq_pt_v a2]
  obtain ⟨pu1, pu2, pu3⟩ := pt u hu3 hu
  obtain ⟨pv1, pv2, pv3⟩ := pt v hv3 hv
  have lu := dq_pt_lt (n := k) hk pu3
  have lv := dq_pt_lt (n := k) hk pv3
  refine ⟨fun he => same M hM hE (fun h9 => h9.2.1.2.2.1 he), fun hne => ⟨md_k0, md_k2, vp_in_nI (N := 4) (by omega) (by decide), ?_⟩⟩
  rw [md_r3, in_c (by omega), m1, nmM]
  refine ⟨fun h4 => same M hM hE (fun h9 => ?_), fun h4 => ?_⟩
  · rw [in_le, in_n (by rw [← nmM]; omega), in_4] at h4
    have := h9.1
    omega
  · rw [in_le, in_n (by rw [← nmM]; omega), in_4] at h4
    -- what is done with the least
    have b185 : ∀ (l : Int32) (M' : Mm), l = X u v → md_F s.1 M' → md_E M' E → w_X7_marksOf_B185 (md_Y ad) post rc ex 0 (nI k) (nI c) (nI r) (nI e) (nI (s.2 - n0)) (nI κ) (nI u) (nI v) l M' := fun l M' hl hM' hE' => by
      have hwM' : dt_w M' := hM'.w hF.1
      have nrM' : dt_nr M' = dt_nr N := by unfold dt_nr; rw [hM'.2 1 (by decide)]; exact hF.nr
      have nmM' : dt_nm M' r = dt_nm s.1 r := by unfold dt_nm; rw [hM'.row (a := 2) (by decide) (by decide)]
      have mkM' : ∀ n, mk_h M' r (nI u) (nI v) (X u v) n ↔ mk_h s.1 r (nI u) (nI v) (X u v) n := fun n => by
        unfold mk_h
        rw [hM'.row (a := 3) (by decide) (by decide), hM'.row (a := 4) (by decide) (by decide), hM'.row (a := 5) (by decide) (by decide)]
      subst hl
      refine m_in (fun a1 a2 => ⟨fun h9 => absurd h9 (by decide), fun _ => ⟨md_k0, m_isMark hwM' (by rw [nrM']; exact hr) (fun hm => ⟨fun _ => same M' hM' hE' (fun h9 => h9.2.2 ?_), fun h9 => absurd h9 (by decide)⟩) (fun hm => ⟨fun h9 => absurd rfl h9, fun _ => m_keepMark hwM' (by rw [nrM']; exact hr) (by rw [nmM']; omega) (fun M2 hM2 x35 hx35 x36 hx36 => ?_)⟩)⟩⟩) (fun a1 => ⟨fun _ => same M' hM' hE' (fun h9 => a1 ?_), fun h9 => absurd rfl h9⟩)
      · rw [nmM', mkM'] at hm; exact hm
      · rw [nmM', mkM'] at hm
        rw [in_mk] at a1
        rw [in_k] at a2
        have hg : mk_g s.1 r u v (X u v) := by
          refine ⟨by omega, ⟨?_, ?_, hne, a1, a2⟩, hm⟩
          · rw [mk_co_nI hu3, hF.pl]; exact hu
          · rw [mk_co_nI hv3, hF.pl]; exact hv
        refine hrc M2 (by rw [mk_st_1 hg]; exact hM'.am hM2) (md_E_keep hE' (hM2.2.2.2.2 0 (by decide) (by decide) (by decide) (by decide)) (hM2.2.2.2.2 19 (by decide) (by decide) (by decide) (by decide)) (hM2.2.2.2.2 20 (by decide) (by decide) (by decide) (by decide)) (hM2.2.2.2.2 21 (by decide) (by decide) (by decide) (by decide))) x35 x36 ?_ hx36
        rw [mk_st_1 hg, hx35, in_s]
        show nI (s.2 - n0 + 1) = nI (s.2 + 1 - n0)
        rw [show s.2 + 1 - n0 = s.2 - n0 + 1 by omega]
      · rw [in_mk, in_k]; exact h9.2.1.2.2.2
    have b161 : w_X7_marksOf_B161 (md_Y ad) post rc ex 0 (nI k) (nI c) (nI r) (nI e) (nI (s.2 - n0)) (nI κ) (nI u) (nI v) (nI (dq_pt k (dt_pt 5 (dt_hv N c 0) (dt_hv N c 1) u))) (nI (dq_pt k (dt_pt 5 (dt_hv N c 0) (dt_hv N c 1) v))) M := by
      refine ⟨fun hne9 => ⟨md_k0, m_least (nv := 201) hok hC hE lu lv (fun K l hK hl => b185 l K (md_o_inj (hl.trans hX.symm)) (hM.tr (md_F.of22 hK)) (md_E_keep hE (hK 0 (by decide)) (hK 19 (by decide)) (hK 20 (by decide)) (hK 21 (by decide))))⟩, fun he9 => b185 0 M ?_ hM hE⟩
      have ep : dq_pt k (dt_pt 5 (dt_hv N c 0) (dt_hv N c 1) u) = dq_pt k (dt_pt 5 (dt_hv N c 0) (dt_hv N c 1) v) := (nI_eq (by omega) (by omega)).mp he9
      rw [ep, hC.1 _ lv] at hX
      obtain ⟨x1, x2⟩ := md_o_some hX
      rw [in_eq, x2, in_0]
    have b132 : w_X7_marksOf_B132 (md_Y ad) post rc ex 0 (nI k) (nI c) (nI r) (nI e) (nI (s.2 - n0)) (nI κ) (nI u) (nI v) (nI (dq_pt k (dt_pt 5 (dt_hv N c 0) (dt_hv N c 1) u))) M := by
      refine ⟨fun h2 => ⟨md_k0, md_k7, ?_⟩, fun h2 => ?_⟩
      · rw [in_e2 (by omega)] at h2
        rw [in_mul2, nI_add, in_mul5, md_r9, in_c (by omega), pv1 h2]
        exact ⟨vp_in_nI (N := 24) (by omega) (by decide), b161⟩
      · rw [in_e2 (by omega)] at h2
        rw [pv2 h2]
        exact b161
    refine ⟨fun h2 => ⟨md_k7, ?_⟩, fun h2 => ?_⟩
    · rw [in_e2 (by omega)] at h2
      rw [in_mul2, nI_add, in_mul5, md_r9, in_c (by omega), pu1 h2]
      exact ⟨vp_in_nI (N := 24) (by omega) (by decide), b132⟩
    · rw [in_e2 (by omega)] at h2
      rw [pu2 h2]
      exact b132
