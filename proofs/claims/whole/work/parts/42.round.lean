/-! A ROUND as a whole -/
/-- the reference, asked the same, answers r and holds what J holds; its code is v -/
def sm_R (b : Nat) (v : Int32) (J : Mm) (r : Int32) (wr : (Int32 → Mm → Prop) → Prop) : Prop := ∀ post : Int32 → Mm → Prop, (∀ M : Mm, Rl b J M → M 0 0 = v → post r M) → wr post
def sm_X (b : Nat) (v : Int32) (J : Mm) (wr : (Int32 → Mm → Prop) → Prop) : Prop := ∀ post : Int32 → Mm → Prop, (∀ (M : Mm) (r : Int32), Rl b J M → M 0 0 = v → post r M) → wr post
/-- the tree hangs on a few rows -/
theorem tr_it_congr {N J : Mm} {c : Nat} (h6 : J 6 = N 6) (h8 : J 8 = N 8) (h9 : J 9 = N 9) (h16 : J 16 = N 16) (h17 : J 17 = N 17) (h18 : J 18 = N 18) : ∀ t, tr_it J c t = tr_it N c t := by
  have ena : dt_na J = dt_na N := by funext c; unfold dt_na; rw [h8]
  have ear : dt_ar J = dt_ar N := by funext c a; unfold dt_ar; rw [h9]
  have ehr : dt_hr J = dt_hr N := by funext c; unfold dt_hr; rw [h6]
  have epv : tr_pv J = tr_pv N := by funext ns p a; unfold tr_pv; rw [ehr, h17, h18]
  have epm : tr_pm J = tr_pm N := by funext ns p a; unfold tr_pm; rw [epv]
  have ecl : tr_cl J = tr_cl N := by funext ns p a; unfold tr_cl; rw [epm, ear, h16]
  have eps : tr_push J = tr_push N := by funext n c st; unfold tr_push; rw [ena]
  intro t
  induction t with
  | zero => show ([(c, 0, 0, 0)], tr_push J 0 c []) = ([(c, 0, 0, 0)], tr_push N 0 c []); rw [eps]
  | succ t ih =>
    show tr_step J (tr_it J c t) = tr_step N (tr_it N c t)
    rw [ih]
    unfold tr_step
    rw [ecl, epm, eps]
theorem rl_T_of {N : Mm} {c : Nat} (hw : dt_w N) (hdy : dt_y N) (hz : dt_z N c) {en : Nat → Nat} (he : tr_e (tr_it N c 40).1 en 0) : rl_T N c (tr_it N c 40).1 en := by
  have hok := tr_ok_it hw hdy hz 40
  have hc := tr_c_it (N := N) (c := c) 40
  obtain ⟨l1, l2⟩ := tr_it_le (N := N) (c := c) 40
  refine ⟨l1, l2, by rw [hok.2.2.1], hc.2.1, fun n k hn hk => tr_e_D hc he hn hk, fun n hn => (he.1 n hn).2.1, fun k hk => hok.cl hz hk, fun k h1 h2 => ?_⟩
  obtain ⟨_, a2, a3, _, _, a6, a7, _⟩ := hok.2.2.2.1 k h1 h2
  exact ⟨a2, by rw [a7, a6], a3⟩
/-- how the heads of the class's memory go on -/
theorem Rl.st {I N J M : Mm} {b : Nat} (h : Rl b I N) (h1 : fs_F I J) (h2 : fz_F N M) : dt_w M ∧ rl_s J M := ⟨h2.w h.1, h2.s (h1.s h.2.1)⟩
theorem rl_toInt {I N : Mm} {b : Nat} (h : Rl b I N) (hb : b < 1000000) : (N 0 20 + 1).toInt = (N 0 20).toInt + 1 := by
  obtain ⟨_, _, _, _, h3, h4, _⟩ := h
  exact (in_add (by rw [in_1]; omega) (by rw [in_1]; omega)).trans (by rw [in_1])
set_option maxHeartbeats 4000000 in
theorem sm_alarmed {ad ad' : Nat → Nat} {b : Nat} {I J1 N N1 : Mm} {c k : Nat} (h : Rl b I N) (hb : b < 1000000) (hv : N 0 23 = 0) (hN1 : N1 = ky_up N 0 20 (N 0 20 + 1)) (hJ1 : cs_F I J1) (hc : c < dt_nc N1) (h6 : N1 6 c = -1) (hk9 : k < 256) (hls : dt_ls N1 c none (k / 16) (k % 16)) (hno : ∀ c', c' < c → al_no N1 c')
    {post : Mm → Prop} (hk : ∀ J : Mm, (∀ J' : Mm, J' = ky_up J 0 4 (J 0 4 + 1) → sm_R (b + 1) (N 0 0) J' 0 (w_X7_next (md_Y ad') N 0)) → post J) : ∀ J2, J2 = ky_up J1 0 6 (nI c) → w_X6_growTree (cl_Y ad) J2 0 (nI k) post := by
  intro J2 hJ2
  have hw1 : fz_F N N1 := fz_F.up0 (by decide) (by decide) hN1
  have n1w : dt_w N1 := hw1.w h.1
  have h12 := n1w.2.2.1
  have n20 : (N1 0 20).toInt = (N 0 20).toInt + 1 := by rw [hN1, ky_up_eq]; unfold upd; rw [if_pos rfl]; exact rl_toInt h hb
  have nrow : ∀ a, a ≠ 0 → N1 a = N a := fun a ha => by rw [hN1]; exact ky_up_ne ha
  have nf0 : ∀ j, j ≠ 20 → N1 0 j = N 0 j := fun j hj => by rw [hN1, ky_up_eq]; unfold upd; rw [if_neg hj]
  -- the reference's memory as the tree needs it
  obtain ⟨NV, hNV⟩ : ∃ NV : Mm, NV = ky_up (ky_up N1 18 0 (dt_on N1 c 0 (k / 16))) 18 1 (dt_on N1 c 1 (k % 16)) := ⟨_, rfl⟩
  have vrow : ∀ a, a ≠ 18 → NV a = N1 a := fun a ha => by rw [hNV, ky_up_ne ha, ky_up_ne ha]
  have v18 : NV 18 = upd (upd (N1 18) 0 (dt_on N1 c 0 (k / 16))) 1 (dt_on N1 c 1 (k % 16)) := by rw [hNV, ky_up_eq, ky_up_eq]
  have hzV : fz_F N1 NV := ⟨fun a a0 a1 => vrow a (by omega), by rw [vrow 0 (by decide)], by rw [vrow 0 (by decide)]⟩
  have vw : dt_w NV := hzV.w n1w
  obtain ⟨_, hs, u1, u2, u3, u4, u5, u6, u7, u8, u9, u10⟩ := id h
  have dyC : ∀ M : Mm, (∀ a, a ≠ 0 → a < 18 → M a = N a) → M 0 1 = N 0 1 → M 0 7 = N 0 7 → dt_y M := fun M hM h1 h7 => by
    unfold dt_y dt_nr dt_nc dt_na dt_ar
    rw [h1, h7, hM 6 (by decide) (by decide), hM 8 (by decide) (by decide), hM 9 (by decide) (by decide), hM 15 (by decide) (by decide), hM 16 (by decide) (by decide), hM 17 (by decide) (by decide)]
    exact u6
  have vy : dt_y NV := dyC NV (fun a a0 a1 => by rw [vrow a (by omega), nrow a a0]) (by rw [vrow 0 (by decide), nf0 1 (by decide)]) (by rw [vrow 0 (by decide), nf0 7 (by decide)])
  obtain ⟨_, hn1, _, hn2⟩ := dt_n1_le n1w hc
  obtain ⟨l1, l2, l3, _⟩ := hls
  have vz : dt_z NV c := by
    refine ⟨by rw [hzV.nc]; exact hc, fun a ha => ?_⟩
    rw [hzV.na] at ha
    have hna := (n1w.2.2.2 c hc).2.2.2.1
    rw [v18, vrow 15 (by decide), hzV.ar]
    unfold upd
    rcases (show a = 0 ∨ a = 1 by omega) with rfl | rfl
    · rw [if_neg (by decide), if_pos rfl]
      refine ⟨k / 16, by omega, ?_, fun h9 => ?_⟩
      · unfold dt_on; rw [if_pos ha]
      · have := (l3.1.1 ha).1
        rw [h9, in_0] at this
        omega
    · rw [if_pos rfl]
      refine ⟨k % 16, by omega, ?_, fun h9 => ?_⟩
      · unfold dt_on; rw [if_pos ha]
      · have := (l3.1.2 ha).1
        rw [h9, in_0] at this
        omega
  -- the class
  have j0 : ∀ a, a ≠ 0 → J2 a = J1 a := fun a ha => by rw [hJ2]; exact ky_up_ne ha
  have j6 : J2 0 6 = nI c := by rw [hJ2, ky_up_eq]; unfold upd; rw [if_pos rfl]
  have jf : ∀ j, j ≠ 6 → J2 0 j = I 0 j := fun j hj => by rw [hJ2, ky_up_eq]; unfold upd; rw [if_neg hj, hJ1 0 (by omega)]
  have hfs : fs_F I J2 := ⟨fun a ha => by rw [j0 a (by omega), hJ1 a (by omega)], jf 1 (by decide), jf 3 (by decide)⟩
  have hs2 : rl_s J2 NV := hzV.s (hw1.s (hfs.s hs))
  have hy2 : rl_y J2 NV := fun r m hr hm hne => by
    rw [hzV.nr, hw1.nr] at hr
    rw [vrow 15 (by decide), nrow 15 (by decide)] at hne
    rw [vrow 16 (by decide), nrow 16 (by decide), vrow 17 (by decide), nrow 17 (by decide), hfs.1 _ (by omega), hfs.1 _ (by omega), hfs.1 _ (by omega)]
    exact u5 r m hr hm hne
  refine p_growTree vw vy vz hs2 hy2 j6 hk9 (by rw [v18]; unfold upd; rw [if_neg (by decide), if_pos rfl]; unfold dt_on; rw [hzV.na]) (by rw [v18]; unfold upd; rw [if_pos rfl]; unfold dt_on; rw [hzV.na]) (fun J3 hJ3 hm3 => hk J3 (fun J' hJ' => ?_))
  -- the reference
  intro post' hpost
  refine ⟨md_k0, fun N1' hN1' => ⟨dt_nc N1 + 1, ?_⟩⟩
  rw [← hN1] at hN1'
  subst hN1'
  refine m_alarm_L n1w (fun M c' p q hM hc' h6' hls' h37 h38 hno' => ⟨md_k0, fun M1 h1 => ⟨md_k18, vp_in_nI (n := 0) (N := 2) (by decide) (by decide), fun M2 h2 => ⟨vp_in_nI (n := 1) (N := 2) (by decide) (by decide), fun M3 h3 => ?_⟩⟩⟩) (fun M hM hno' => absurd l3 (hno' c hc h6 _ _ l1 l2)) (dt_nc N1') 0 (by omega) N1' md_G.rf (fun c' h9 => absurd h9 (Nat.not_lt_zero c'))
  obtain ⟨rfl, rfl, rfl⟩ := al_eq h6 ⟨l1, l2, l3, by assumption⟩ hno h6' hls' hno'
  have e1 : M1 0 37 = M 0 37 := by rw [h1, ky_up_eq]; unfold upd; rw [if_neg (by decide)]
  have h2 : M2 = ky_up M1 18 0 (M1 0 37) := h2
  have h3 : M3 = ky_up M2 18 1 (M2 0 38) := h3
  have e2 : M2 0 38 = M 0 38 := by rw [h2, ky_up_ne (by decide), h1, ky_up_eq]; unfold upd; rw [if_neg (by decide)]
  rw [e1, h37] at h2
  rw [e2, h38] at h3
  have mrow : ∀ a, a ≠ 0 → a ≠ 19 → a ≠ 20 → a ≠ 21 → a ≠ 22 → M a = N a := fun a a0 a1 a2 a3 a4 => by rw [hM.1 a a0 a1 a2 a3 a4, nrow a a0]
  have r18 : M3 18 = NV 18 := by
    rw [v18, h3, ky_up_eq, h2, ky_up_eq, h1, ky_up_ne (by decide), hM.1 18 (by decide) (by decide) (by decide) (by decide) (by decide)]
  have ro : ∀ a, a ≠ 0 → a ≠ 18 → a ≠ 19 → a ≠ 20 → a ≠ 21 → a ≠ 22 → M3 a = N a := fun a a0 a18 a1 a2 a3 a4 => by rw [h3, ky_up_ne a18, h2, ky_up_ne a18, h1, ky_up_ne a0, mrow a a0 a1 a2 a3 a4]
  have rf0 : M3 0 = upd (M 0) 21 (nI c) := by rw [h3, ky_up_ne (by decide), h2, ky_up_ne (by decide), h1, ky_up_eq]
  have rf : ∀ j, j ≠ 21 → j ≠ 25 → j ≠ 37 → j ≠ 38 → M3 0 j = N1' 0 j := fun j a1 a2 a3 a4 => by rw [rf0]; unfold upd; rw [if_neg a1]; exact hM.2 j a2 a3 a4
  have hz3 : fz_F N M3 := ⟨fun a a0 a1 => ro a a0 (by omega) (by omega) (by omega) (by omega) (by omega), by rw [rf 1 (by decide) (by decide) (by decide) (by decide), nf0 1 (by decide)], by rw [rf 7 (by decide) (by decide) (by decide) (by decide), nf0 7 (by decide)]⟩
  have w3 : dt_w M3 := hz3.w h.1
  have y3 : dt_y M3 := dyC M3 (fun a a0 a1 => ro a a0 (by omega) (by omega) (by omega) (by omega) (by omega)) hz3.2.1 hz3.2.2
  have z3 : dt_z M3 c := by
    refine ⟨by rw [hz3.nc, ← hw1.nc]; exact hc, fun a ha => ?_⟩
    rw [hz3.na, ← hw1.na, ← hzV.na] at ha
    obtain ⟨x, x1, x2, x3⟩ := vz.2 a ha
    refine ⟨x, x1, by rw [r18]; exact x2, ?_⟩
    rw [hz3.ar, ro 15 (by decide) (by decide) (by decide) (by decide) (by decide) (by decide)]
    rw [vrow 15 (by decide), nrow 15 (by decide), hzV.ar, hw1.ar] at x3
    exact x3
  have etr : tr_it M3 c 40 = tr_it NV c 40 := tr_it_congr (by rw [ro 6 (by decide) (by decide) (by decide) (by decide) (by decide) (by decide), vrow 6 (by decide), nrow 6 (by decide)]) (by rw [ro 8 (by decide) (by decide) (by decide) (by decide) (by decide) (by decide), vrow 8 (by decide), nrow 8 (by decide)]) (by rw [ro 9 (by decide) (by decide) (by decide) (by decide) (by decide) (by decide), vrow 9 (by decide), nrow 9 (by decide)]) (by rw [ro 16 (by decide) (by decide) (by decide) (by decide) (by decide) (by decide), vrow 16 (by decide), nrow 16 (by decide)]) (by rw [ro 17 (by decide) (by decide) (by decide) (by decide) (by decide) (by decide), vrow 17 (by decide), nrow 17 (by decide)]) r18 40
  refine m_grow w3 y3 z3 (by rw [rf0]; unfold upd; rw [if_pos rfl]) (fun M4 en hF4 hm4 he4 het4 => hpost M4 ?_ ?_)
  · have q : ∀ a, a ≠ 0 → a ≠ 18 → a < 19 → M4 a = N a := fun a a0 a1 a2 => by rw [hF4.1 a a0 (by omega), ro a a0 a1 (by omega) (by omega) (by omega) (by omega)]
    have qf : ∀ j, j ≠ 20 → j ≠ 21 → j ≠ 25 → j ≠ 30 → j ≠ 37 → j ≠ 38 → M4 0 j = N 0 j := fun j j0 j1 j2 j3 j4 j5 => by rw [hF4.2 j j3, rf j j1 j2 j4 j5, nf0 j j0]
    have q20 : M4 0 20 = N 0 20 + 1 := by rw [hF4.2 20 (by decide), rf 20 (by decide) (by decide) (by decide) (by decide), hN1, ky_up_eq]; unfold upd; rw [if_pos rfl]
    have q21 : M4 0 21 = nI c := by rw [hF4.2 21 (by decide), rf0]; unfold upd; rw [if_pos rfl]
    have hz4 : fz_F N M4 := ⟨fun a a0 a1 => q a a0 (by omega) (by omega), qf 1 (by decide) (by decide) (by decide) (by decide) (by decide) (by decide), qf 7 (by decide) (by decide) (by decide) (by decide) (by decide) (by decide)⟩
    have hz34 : fz_F M3 M4 := ⟨fun a a0 a1 => hF4.1 a a0 (by omega), hF4.2 1 (by decide), hF4.2 7 (by decide)⟩
    have p0 : ∀ a, a ≠ 0 → J' a = J3 a := fun a ha => by rw [hJ']; exact ky_up_ne ha
    have p3 : J3 0 = J2 0 := hJ3 0 (by omega)
    have pf : ∀ j, j ≠ 4 → J' 0 j = J2 0 j := fun j hj => by rw [hJ', ky_up_eq]; unfold upd; rw [if_neg hj, p3]
    have p4 : J' 0 4 = N 0 20 + 1 := by rw [hJ', ky_up_eq]; unfold upd; rw [if_pos rfl, p3, jf 4 (by decide), u2]
    have pq : ∀ a, 137 ≤ a → J' a = I a := fun a ha => by rw [p0 a (by omega), hJ3 a (by omega), hfs.1 a ha]
    have hfs' : fs_F I J' := ⟨pq, by rw [pf 1 (by decide), jf 1 (by decide)], by rw [pf 3 (by decide), jf 3 (by decide)]⟩
    obtain ⟨g1, g2⟩ := Rl.st h hfs' hz4
    have ti := rl_toInt h hb
    rw [← etr] at hm3
    refine ⟨g1, g2, fun r m hr hm => ?_, by rw [p4, q20], by rw [q20, ti]; omega, by rw [q20, ti]; omega, fun r m hr hm hne => ?_, ?_, ?_, ?_, ?_, Or.inr ⟨c, (tr_it M3 c 40).1, en, q21, by rw [pf 6 (by decide)]; exact j6, by rw [hz4.nc, ← hw1.nc]; exact hc, hm4.2.1, by rw [p0 3 (by decide)]; exact hm3.2.1, ?_, fun k9 hk9 => by rw [p0 _ (by omega)]; exact hm3.1 k9 hk9, hm4.1, het4⟩⟩
    · rw [pq _ (by omega), q 15 (by decide) (by decide) (by decide), q20, ti, hz4.nr]
      obtain ⟨a1, a2, a3, a4⟩ := u1 r m hr hm
      exact ⟨a1, a2, by omega, a4⟩
    · rw [hz4.nr] at hr
      rw [q 15 (by decide) (by decide) (by decide)] at hne
      rw [pq _ (by omega), pq _ (by omega), pq _ (by omega), q 16 (by decide) (by decide) (by decide), q 17 (by decide) (by decide) (by decide)]
      exact u5 r m hr hm hne
    · exact dyC M4 (fun a a0 a1 => q a a0 (by omega) (by omega)) hz4.2.1 hz4.2.2
    · rw [pf 5 (by decide), jf 5 (by decide), qf 23 (by decide) (by decide) (by decide) (by decide) (by decide) (by decide)]; exact u7
    · rw [qf 23 (by decide) (by decide) (by decide) (by decide) (by decide) (by decide)]; exact u8
    · rw [pf 8 (by decide), jf 8 (by decide), qf 24 (by decide) (by decide) (by decide) (by decide) (by decide) (by decide)]; exact u9
    · rw [hz34.T]
      exact rl_T_of w3 y3 z3 he4
  · rw [hF4.2 0 (by decide), rf 0 (by decide) (by decide) (by decide) (by decide), nf0 0 (by decide)]
