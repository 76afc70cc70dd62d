/-! A ROUND: is there an alarm -/
/-- relations and clauses have not changed -/
def fz_F (N J : Mm) : Prop := (∀ a, a ≠ 0 → a < 15 → J a = N a) ∧ J 0 1 = N 0 1 ∧ J 0 7 = N 0 7
section FZF
variable {N J : Mm}
theorem fz_F.nr (h : fz_F N J) : dt_nr J = dt_nr N := by unfold dt_nr; rw [h.2.1]
theorem fz_F.nc (h : fz_F N J) : dt_nc J = dt_nc N := by unfold dt_nc; rw [h.2.2]
theorem fz_F.na (h : fz_F N J) : dt_na J = dt_na N := by funext c; unfold dt_na; rw [h.1 8 (by decide) (by decide)]
theorem fz_F.ar (h : fz_F N J) : dt_ar J = dt_ar N := by funext c a; unfold dt_ar; rw [h.1 9 (by decide) (by decide)]
theorem fz_F.hr (h : fz_F N J) : dt_hr J = dt_hr N := by funext c; unfold dt_hr; rw [h.1 6 (by decide) (by decide)]
theorem fz_F.nm (h : fz_F N J) : dt_nm J = dt_nm N := by funext c; unfold dt_nm; rw [h.1 2 (by decide) (by decide)]
theorem fz_F.bE (h : fz_F N J) : dt_bE J = dt_bE N := by
  funext c at9 z
  unfold dt_bE dt_be dt_nb
  rw [h.1 11 (by decide) (by decide), h.1 12 (by decide) (by decide), h.1 13 (by decide) (by decide), h.1 14 (by decide) (by decide)]
theorem fz_F.w (h : fz_F N J) (hw : dt_w N) : dt_w J := by
  refine ⟨?_, ?_⟩
  · unfold dt_w1 dt_nr dt_pl dt_nm
    rw [h.2.1, h.1 1 (by decide) (by decide), h.1 2 (by decide) (by decide), h.1 3 (by decide) (by decide), h.1 4 (by decide) (by decide), h.1 5 (by decide) (by decide)]
    exact hw.1
  · unfold dt_w2 dt_cl dt_nc dt_hr dt_hv dt_na dt_ar dt_av dt_nb dt_nr
    rw [h.2.1, h.2.2, h.1 6 (by decide) (by decide), h.1 7 (by decide) (by decide), h.1 8 (by decide) (by decide), h.1 9 (by decide) (by decide), h.1 10 (by decide) (by decide), h.1 11 (by decide) (by decide), h.1 12 (by decide) (by decide), h.1 13 (by decide) (by decide), h.1 14 (by decide) (by decide)]
    exact hw.2
theorem fz_F.s {I : Mm} (h : fz_F N J) (hs : rl_s I N) : rl_s I J := by
  unfold rl_s rl_r rl_c rl_1
  rw [h.nr, h.nc, h.na, h.nm, h.bE, h.2.1, h.2.2, h.1 1 (by decide) (by decide), h.1 2 (by decide) (by decide), h.1 3 (by decide) (by decide), h.1 4 (by decide) (by decide), h.1 5 (by decide) (by decide), h.1 6 (by decide) (by decide), h.1 7 (by decide) (by decide), h.1 8 (by decide) (by decide), h.1 9 (by decide) (by decide), h.1 10 (by decide) (by decide), h.1 11 (by decide) (by decide)]
  exact hs
theorem fz_F.T (h : fz_F N J) : rl_T J = rl_T N := by
  funext c ns en
  unfold rl_T
  rw [h.nc, h.na, h.ar, h.1 6 (by decide) (by decide)]
end FZF
theorem fz_F.up0 {N J : Mm} {j : Nat} {v : Int32} (h1 : j ≠ 1) (h2 : j ≠ 7) (h : J = ky_up N 0 j v) : fz_F N J := ⟨fun a a0 _ => by rw [h]; exact ky_up_ne a0, by rw [h, ky_up_eq]; unfold upd; rw [if_neg (by omega)], by rw [h, ky_up_eq]; unfold upd; rw [if_neg (by omega)]⟩
theorem fz_F.tr {N J L : Mm} (h1 : fz_F N J) (h2 : fz_F J L) : fz_F N L := ⟨fun a b c => (h2.1 a b c).trans (h1.1 a b c), h2.2.1.trans h1.2.1, h2.2.2.trans h1.2.2⟩
theorem rn_m.fz {N J : Mm} {d : Rd} (h : rn_m N J d) : fz_F N J := ⟨fun a a0 a1 => h.st a0 a1, h.2.1 1 (by decide) (by decide) (by decide), h.2.1 7 (by decide) (by decide) (by decide)⟩
/-- nothing reached yet -/
def rc_0 : Rd := fun _ _ => none
theorem rc_ct_0 : ∀ n, rc_ct rc_0 n = 0 := by
  intro n
  induction n with
  | zero => rfl
  | succ n ih =>
    show rc_ct rc_0 n + (if (rc_0 (n / 16) (n % 16)).isSome = true then 1 else 0) = 0
    rw [ih]
    rfl
theorem rn_0 {N : Mm} : rn_m N N rc_0 := ⟨fun _ _ _ _ _ _ _ _ _ => rfl, fun _ _ _ _ => rfl, fun r m _ _ => ⟨fun _ => ⟨rfl, rfl, rfl, rfl⟩, fun c k h => by cases h⟩⟩
theorem rn_ok_0 {N : Mm} : rn_ok N rc_0 := fun r m _ _ c k h => by cases h
/-- clause c raises no alarm -/
def al_no (N : Mm) (c : Nat) : Prop := N 6 c = -1 → ∀ p q, p < dt_n1 N c → q < dt_n2 N c → ¬ dt_fd N c none p q
theorem al_no_vp {N : Mm} (hw : dt_w N) {c : Nat} (hc : c < dt_nc N) (h : ∀ k, ¬ dt_vp N c k) : al_no N c := fun _ p q hp hq hfd => by
  obtain ⟨_, _, _, h2⟩ := dt_n1_le hw hc
  exact h (16 * p + q) ⟨by rw [show (16 * p + q) / 16 = p by omega]; exact hp, by rw [show (16 * p + q) % 16 = q by omega]; exact hq, by rw [show (16 * p + q) / 16 = p by omega, show (16 * p + q) % 16 = q by omega]; exact hfd⟩
theorem p_alarm_L {ad : Nat → Nat} {N I0 : Mm} (hw : dt_w N) (hs : rl_s I0 N) (hq : rl_q I0 N) {post : Int32 → Mm → Prop} {ex45 : Nat → Int32 → Int32 → Mm → Prop} {ex63 : Mm → Prop}
    (hk1 : ∀ (J : Mm) (c k : Nat), cs_F I0 J → c < dt_nc N → N 6 c = -1 → k < 256 → dt_ls N c none (k / 16) (k % 16) → (∀ c', c' < c → al_no N c') → ex45 0 (nI c) (nI k) J) (hk0 : ∀ J : Mm, cs_F I0 J → (∀ c', c' < dt_nc N → al_no N c') → ex63 J) :
    ∀ (t c : Nat), c + t = dt_nc N → ∀ I : Mm, cs_F I0 I → (∀ c', c' < c → al_no N c') → w_X6_raiseAlarm_L2 (cl_Y ad) post ex45 ex63 (t + 1) 0 (nI c) I := by
  have h12 := hw.2.2.1
  intro t
  induction t with
  | zero =>
    intro c hc I hF hno
    refine ⟨cy_0, ?_⟩
    rw [(hF.s hs).2.1, hw.2.1]
    refine ⟨fun _ => hk0 I hF (by rw [← show c = dt_nc N by omega]; exact hno), fun h => ?_⟩
    rw [in_le, in_n (by omega), in_n (by omega)] at h
    omega
  | succ t ih =>
    intro c hc I hF hno
    have hcc : c < dt_nc N := by omega
    obtain ⟨r1, _⟩ := (hF.s hs).2.2.1 c hcc
    have next : ∀ J, cs_F I0 J → al_no N c → ∀ x, x = nI c + 1 → w_X6_raiseAlarm_L2 (cl_Y ad) post ex45 ex63 (t + 1) 0 x J := fun J hJ ha x hx => by
      rw [hx, in_s]
      refine ih (c + 1) (by omega) J hJ (fun c' hc' => ?_)
      by_cases h : c' = c
      · rw [h]; exact ha
      · exact hno c' (by omega)
    refine ⟨cy_0, ?_⟩
    rw [(hF.s hs).2.1, hw.2.1]
    refine ⟨fun h => ?_, fun _ => ⟨cy_2, vp_in_nI (N := 12) (by omega) (by decide), ?_⟩⟩
    · rw [in_le, in_n (by omega), in_n (by omega)] at h
      omega
    · rw [cy_p2, in_c (by omega), cy_cla, cy_rc0 (by omega), r1]
      refine ⟨cy_kc (by omega), cy_kh (by omega), fun h => next I hF (fun h9 => absurd h9 h), fun h => ?_⟩
      refine p_next (f := 0) hw (hF.s hs) (hF.q hq) hcc (by decide) (fun J r hJ hr => ⟨fun h9 => ?_, fun h9 => ?_⟩)
      · rcases hr with ⟨k, rfl, hk9, _⟩ | ⟨_, hr⟩
        · rw [in_le, in_n (by omega)] at h9
          have : (256 : Int32).toInt = 256 := by decide
          omega
        · exact next J (hF.tr hJ) (al_no_vp hw hcc (fun k => hr k (Nat.zero_le _)))
      · rcases hr with ⟨k, rfl, hk9, _, hvp, hls, _⟩ | ⟨hr, _⟩
        · exact hk1 J c k (hF.tr hJ) hcc h hk9 (dt_ls_16 hvp hls (dt_n1_le hw hcc).2.2.2) hno
        · rw [hr] at h9; exact absurd (by decide) h9
theorem md_G.tr {N J L : Mm} (h1 : md_G N J) (h2 : md_G J L) : md_G N L := ⟨fun a b c d e f => (h2.1 a b c d e f).trans (h1.1 a b c d e f), fun j a b c => (h2.2 j a b c).trans (h1.2 j a b c)⟩
theorem md_G.rf {N : Mm} : md_G N N := ⟨fun _ _ _ _ _ _ => rfl, fun _ _ _ _ => rfl⟩
theorem m_alarm_L {ad : Nat → Nat} {N : Mm} (hw : dt_w N) {post : Int32 → Mm → Prop} {ex38 : Nat → Int32 → Mm → Prop} {ex75 : Nat → Mm → Prop}
    (hk1 : ∀ (J : Mm) (c p q : Nat), md_G N J → c < dt_nc N → N 6 c = -1 → dt_ls N c none p q → J 0 37 = dt_on N c 0 p → J 0 38 = dt_on N c 1 q → (∀ c', c' < c → al_no N c') → ex38 0 (nI c) J) (hk0 : ∀ J : Mm, md_G N J → (∀ c', c' < dt_nc N → al_no N c') → ex75 0 J) :
    ∀ (t c : Nat), c + t = dt_nc N → ∀ J : Mm, md_G N J → (∀ c', c' < c → al_no N c') → w_X7_next_L12 (md_Y ad) post ex38 ex75 (t + 1) 0 (nI c) J := by
  have h12 := hw.2.2.1
  intro t
  induction t with
  | zero =>
    intro c hc J hG hno
    have hF : rn_m N J rc_0 := rn_0.G hG
    refine ⟨md_k0, ?_⟩
    rw [hF.2.1 7 (by decide) (by decide) (by decide), hw.2.1]
    refine ⟨fun _ => hk0 J hG (by rw [← show c = dt_nc N by omega]; exact hno), fun h => ?_⟩
    rw [in_le, in_n (by omega), in_n (by omega)] at h
    omega
  | succ t ih =>
    intro c hc J hG hno
    have hF : rn_m N J rc_0 := rn_0.G hG
    have hcc : c < dt_nc N := by omega
    have next : ∀ L, md_G N L → al_no N c → ∀ x, x = nI c + 1 → w_X7_next_L12 (md_Y ad) post ex38 ex75 (t + 1) 0 x L := fun L hL ha x hx => by
      rw [hx, in_s]
      refine ih (c + 1) (by omega) L hL (fun c' hc' => ?_)
      by_cases h : c' = c
      · rw [h]; exact ha
      · exact hno c' (by omega)
    refine ⟨md_k0, ?_⟩
    rw [hF.2.1 7 (by decide) (by decide) (by decide), hw.2.1]
    refine ⟨fun h => ?_, fun _ => ⟨md_k6, vp_in_nI (N := 12) (by omega) (by decide), ?_⟩⟩
    · rw [in_le, in_n (by omega), in_n (by omega)] at h
      omega
    · rw [md_r8, in_c (by omega), hF.st (a := 6) (by decide) (by decide)]
      refine ⟨fun h => next J hG (fun h9 => ?_), fun h => ?_⟩
      · rw [h9] at h; exact absurd h (by decide)
      · have h6 : N 6 c = -1 := by
          rcases dt_hd hw hcc with h9 | ⟨h9, h8, _⟩
          · exact h9
          · have := hw.1.2.1
            rw [h9, in_le, in_n (by omega), in_0] at h
            omega
        refine m_isFound (ho := none) (hF.w hw) (by rw [hF.fz.nc]; exact hcc) rfl (fun L v hL hv => ?_)
        have hFL := hG.tr hL
        obtain ⟨_, n1, _, n2⟩ := dt_n1_le hw hcc
        unfold dt_fr at hv
        rw [hF.n1, hF.n2, hF.on] at hv
        refine ⟨fun h0 => ?_, fun h1 => ?_⟩
        · rcases hv with ⟨hv, _⟩ | ⟨_, hv⟩
          · rw [hv] at h0; exact absurd h0 (by decide)
          · refine next L hFL (fun _ p q hp hq hfd => ?_)
            refine dt_no_n (N := N) (ho := none) (fun k hk hfd9 => ?_) hp hq hfd
            obtain ⟨x1, x2⟩ := dt_pq hk
            exact hv k hk ((hF.fd hw rn_ok_0 hcc (by omega) (by omega)).mpr hfd9)
        · obtain ⟨_, k, hk, hfd, hls, h37, h38⟩ := hv.resolve_right (fun h9 => h1 h9.1)
          obtain ⟨x1, x2⟩ := dt_pq hk
          refine hk1 L c _ _ hFL hcc h6 (dt_ls_n hk ((hF.fd hw rn_ok_0 hcc (by omega) (by omega)).mp hfd) (fun k' hk' hfd' => ?_)) h37 h38 hno
          obtain ⟨y1, y2⟩ := dt_pq (n1 := dt_n1 N c) (n2 := dt_n2 N c) (k := k') (by omega)
          exact hls k' hk' ((hF.fd hw rn_ok_0 hcc (by omega) (by omega)).mpr hfd')
/-- both find the same -/
theorem al_eq {N : Mm} {c c' p q p' q' : Nat} (h1 : N 6 c = -1) (h2 : dt_ls N c none p q) (h3 : ∀ x, x < c → al_no N x) (h1' : N 6 c' = -1) (h2' : dt_ls N c' none p' q') (h3' : ∀ x, x < c' → al_no N x) : c = c' ∧ p = p' ∧ q = q' := by
  have e : c = c' := by
    rcases Nat.lt_trichotomy c c' with h | h | h
    · exact absurd h2.2.2.1 (h3' c h h1 p q h2.1 h2.2.1)
    · exact h
    · exact absurd h2'.2.2.1 (h3 c' h h1' p' q' h2'.1 h2'.2.1)
  subst e
  exact ⟨rfl, dt_ls_eq h2 h2'⟩
