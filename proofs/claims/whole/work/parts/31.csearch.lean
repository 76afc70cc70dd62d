/-! THE CLASS: nextPremises, isMissing -/
theorem p_cubes {ad : Nat → Nat} {N I : Mm} {r : Nat} (hw : dt_w N) (hrl : rl_r I N) (hr : r < dt_nr N) {post : Int32 → Mm → Prop} (hk : post (nI (2 ^ dt_nm N r)) I) : w_X4_cubes (cl_Y ad) I (137 + 8 * r) post := by
  have hr4 := hw.1.2.1
  obtain ⟨hn1, hn2, _⟩ := hw.1.2.2.2.1 r (by omega)
  refine ⟨cy_kr (by omega), ?_⟩
  rw [hrl.2.2.1 r (by omega), hn1, in_shl hn2]
  exact hk
theorem p_choices {ad : Nat → Nat} {N I : Mm} {c a : Nat} (hw : dt_w N) (hs : rl_s I N) (hc : c < dt_nc N) (ha : a < 2) {post : Int32 → Mm → Prop} (hk : post (nI (if a < dt_na N c then 2 ^ dt_nm N (dt_ar N c a) else 1)) I) : w_X6_choices (cl_Y ad) I 0 (169 + 7 * c) (nI a) post := by
  have hcc := hw.2.2.2 c hc
  have h12 := hw.2.2.1
  have hr4 := hw.1.2.1
  obtain ⟨_, _, ha1, ha2, ha3, _⟩ := hcc
  obtain ⟨_, _, _, r4, _, r6, _⟩ := hs.2.2.1 c hc
  refine ⟨cy_kc (by omega), ?_⟩
  rw [r4, ha1]
  refine ⟨fun h => ?_, fun h => ?_⟩
  · rw [in_le, in_n (by omega), in_n (by omega)] at h
    rw [if_neg (by omega)] at hk
    exact hk
  · rw [in_le, in_n (by omega), in_n (by omega)] at h
    have hlt : a < dt_na N c := by omega
    obtain ⟨g1, g2, g3⟩ := ha3 a hlt
    obtain ⟨q1, q2, q3⟩ := r6 a hlt
    obtain ⟨kb1, kb2⟩ := cy_kb (ad := ad) (c := c) (by omega)
    rw [cy_rc1 (by omega), cy_p0, in_c (by omega), cy_rb (by omega), q1, g1, in_c (by omega), cy_rel]
    rw [if_pos hlt] at hk
    exact ⟨cy_0, kb1, by rw [kb2]; exact vp_in_nI (by omega) (by decide), cy_ka (by omega) ha, cy_1, vp_in_nI (N := 4) (by omega) (by decide), cy_kr (by omega), p_cubes hw hs.1 g2 hk⟩
/-- pair k can be had -/
def dt_vp (N : Mm) (c k : Nat) : Prop := k / 16 < dt_n1 N c ∧ k % 16 < dt_n2 N c ∧ dt_fd N c none (k / 16) (k % 16)
theorem dt_body_eq {N : Mm} (hw : dt_w N) {c p q : Nat} (hc : c < dt_nc N) : dt_full N c p q none = dt_bE N c 0 5 ++ dt_at N c 0 p ++ dt_at N c 1 q := by
  have h2 := (hw.2.2.2 c hc).2.2.2.1
  show dt_body N c p q (dt_na N c) = _
  unfold dt_at
  rcases (show dt_na N c = 0 ∨ dt_na N c = 1 ∨ dt_na N c = 2 by omega) with h | h | h
  · rw [h, if_neg (by decide), if_neg (by decide), List.append_nil, List.append_nil]; rfl
  · rw [h, if_pos (by decide), if_neg (by decide), List.append_nil]; rfl
  · rw [h, if_pos (by decide), if_pos (by decide)]; rfl
theorem dt_fd_iff {N : Mm} (hw : dt_w N) {c p q : Nat} (hc : c < dt_nc N) : dt_fd N c none p q ↔ (0 < dt_na N c → dt_bf N (dt_ar N c 0) p) ∧ (1 < dt_na N c → dt_bf N (dt_ar N c 1) q) ∧ df_S (dt_bE N c 0 5 ++ dt_at N c 0 p ++ dt_at N c 1 q) := by
  unfold dt_fd dt_th
  rw [dt_body_eq hw hc]
  exact ⟨fun h => ⟨h.1.1, h.1.2, h.2⟩, fun h => ⟨⟨h.1, h.2.1⟩, h.2.2⟩⟩
theorem dt_no {N : Mm} (hw : dt_w N) {c p : Nat} (hc : c < dt_nc N) (h : ¬ ((0 < dt_na N c → dt_bf N (dt_ar N c 0) p) ∧ df_S (dt_bE N c 0 5 ++ dt_at N c 0 p))) (q : Nat) : ¬ dt_fd N c none p q := fun h9 => by
  rw [dt_fd_iff hw hc] at h9
  exact h ⟨h9.1, df_S_sub h9.2.2 (fun e he => List.mem_append_left _ he)⟩
set_option maxHeartbeats 2000000 in
theorem p_next_L52 {ad : Nat → Nat} {N : Mm} {c p : Nat} (hw : dt_w N) (hc : c < dt_nc N) (hp : p < dt_n1 N c) {post : Int32 → Mm → Prop} {ex1 : Int32 → Int32 → Mm → Prop} {ex2 : Nat → Nat → Int32 → Int32 → Int32 → Mm → Prop} {I0 : Mm} (hf1 : 0 < dt_na N c → dt_bf N (dt_ar N c 0) p) {f : Nat}
    (hk1 : ∀ (J : Mm) (q : Nat), cs_F I0 J → f ≤ 16 * p + q → q < dt_n2 N c → dt_fd N c none p q → (∀ k', f ≤ k' → k' < 16 * p + q → ¬ dt_vp N c k') → cl_S J 133 (dt_bE N c 0 5 ++ dt_at N c 0 p ++ dt_at N c 1 q) → ex1 (nI q) (nI p) J)
    (hk2 : ∀ J : Mm, cs_F I0 J → (∀ k', f ≤ k' → k' < 16 * (p + 1) → ¬ dt_vp N c k') → ex2 0 (169 + 7 * c) (nI (dt_n1 N c)) (nI (dt_n2 N c)) (nI p) J) :
    ∀ (n q : Nat), (q + n = dt_n2 N c ∨ (n = 0 ∧ dt_n2 N c ≤ q ∧ q < 16)) → ∀ I : Mm, rl_s I N → rl_q I N → cs_F I0 I → cl_S I 131 (dt_bE N c 0 5 ++ dt_at N c 0 p) → f ≤ 16 * p + q → (∀ k', f ≤ k' → k' < 16 * p + q → ¬ dt_vp N c k') → w_X6_nextPremises_L52 (cl_Y ad) post ex1 ex2 (n + 1) 0 (169 + 7 * c) (nI (dt_n1 N c)) (nI (dt_n2 N c)) (nI q) (nI p) I := by
  obtain ⟨_, hn1, hn20, hn2⟩ := dt_n1_le hw hc
  have hsm : cl_sm 1001 (dt_bE N c 0 5 ++ dt_at N c 0 p) := cl_sm_app (dt_bE_ok hw hc) (dt_at_ok hw hc)
  intro n
  induction n with
  | zero =>
    intro q hq I hs hq9 hF hS hfq hno
    refine ⟨fun _ => hk2 I hF (fun k' h1 h2 h3 => ?_), fun h => ?_⟩
    · by_cases h4 : k' < 16 * p + q
      · exact hno k' h1 h4 h3
      · obtain ⟨_, a2, _⟩ := h3
        omega
    · rw [in_le, in_n (by omega), in_n (by omega)] at h
      omega
  | succ n ih =>
    intro q hq I hs hq9 hF hS hfq hno
    have hqn : q + (n + 1) = dt_n2 N c := by omega
    refine ⟨fun h => ?_, fun _ => ⟨cy_0, ?_⟩⟩
    · rw [in_le, in_n (by omega), in_n (by omega)] at h
      omega
    · rw [cy_p9, cy_p10]
      refine p_lay (a := 1) (k := 133) (b := 131) hw hs hq9 hc (by decide) (by omega) cy_B2 (by decide) (by decide) cy_B1 (by decide) (by decide) (by decide) hS hsm (fun J r hJ hr => ⟨fun h => ?_, fun h => ?_⟩)
      · intro x hx
        rw [hx, in_s]
        have hcs := cs_F.of hJ (by decide) (by decide)
        refine ih (q + 1) (Or.inl (by omega)) J (hcs.s hs) (hcs.q hq9) (hF.tr hcs) (cl_S_keep (hJ.1 131 (by decide) (by decide)) (hJ.1 132 (by decide) (by decide)) hS) (by omega) (fun k' h1 h2 h3 => ?_)
        by_cases h4 : k' < 16 * p + q
        · exact hno k' h1 h4 h3
        · have : k' = 16 * p + q := by omega
          obtain ⟨_, _, a3⟩ := h3
          rw [this, show (16 * p + q) / 16 = p by omega, show (16 * p + q) % 16 = q by omega, dt_fd_iff hw hc] at a3
          rcases hr with ⟨hr, _⟩ | ⟨_, hr⟩
          · rw [hr] at h; exact absurd h (by decide)
          · exact hr ⟨a3.2.1, a3.2.2⟩
      · rcases hr with ⟨_, hr1, hr2, hr3⟩ | ⟨hr, _⟩
        · exact hk1 J q (hF.tr (cs_F.of hJ (by decide) (by decide))) hfq (by omega) ((dt_fd_iff hw hc).mpr ⟨hf1, hr1, hr3⟩) hno hr2
        · exact absurd hr h
set_option maxHeartbeats 2000000 in
theorem p_next_L27 {ad : Nat → Nat} {N : Mm} {c : Nat} (hw : dt_w N) (hc : c < dt_nc N) {post : Int32 → Mm → Prop} {ex1 : Int32 → Int32 → Mm → Prop} {ex2 : Mm → Prop} {I0 : Mm} {f : Nat}
    (hk1 : ∀ (J : Mm) (p q : Nat), cs_F I0 J → p < dt_n1 N c → q < dt_n2 N c → f ≤ 16 * p + q → dt_fd N c none p q → (∀ k', f ≤ k' → k' < 16 * p + q → ¬ dt_vp N c k') → cl_S J 133 (dt_bE N c 0 5 ++ dt_at N c 0 p ++ dt_at N c 1 q) → ex1 (nI q) (nI p) J)
    (hk2 : ∀ J : Mm, cs_F I0 J → (∀ k', f ≤ k' → ¬ dt_vp N c k') → ex2 J) :
    ∀ (n p q : Nat), (p + n = dt_n1 N c ∨ (n = 0 ∧ dt_n1 N c ≤ p ∧ p ≤ 16)) → q < 16 → ∀ I : Mm, rl_s I N → rl_q I N → cs_F I0 I → f ≤ 16 * p + q → (∀ k', f ≤ k' → k' < 16 * p + q → ¬ dt_vp N c k') → w_X6_nextPremises_L27 (cl_Y ad) post ex1 ex2 (n + 1) 0 (169 + 7 * c) (nI (dt_n1 N c)) (nI (dt_n2 N c)) (nI q) (nI p) I := by
  obtain ⟨_, hn1, hn20, hn2⟩ := dt_n1_le hw hc
  have h12 := hw.2.2.1
  intro n
  induction n with
  | zero =>
    intro p q hp hq I hs hq9 hF hfq hno
    refine ⟨fun _ => hk2 I hF (fun k' h1 h3 => ?_), fun h => ?_⟩
    · by_cases h4 : k' < 16 * p + q
      · exact hno k' h1 h4 h3
      · obtain ⟨a1, _, _⟩ := h3
        omega
    · rw [in_le, in_n (by omega), in_n (by omega)] at h
      omega
  | succ n ih =>
    intro p q hp hq I hs hq9 hF hfq hno
    have hpn : p + (n + 1) = dt_n1 N c := by omega
    refine ⟨fun h => ?_, fun _ => ⟨cy_0, cy_kc (by omega), ?_⟩⟩
    · rw [in_le, in_n (by omega), in_n (by omega)] at h
      omega
    · rw [cy_p9, cy_rc3 (by omega)]
      refine p_lay (a := 0) (k := 131) (b := 172 + 7 * c) hw hs hq9 hc (by decide) (by omega) cy_B1 (by decide) (by decide) (cy_Bo (by omega)) (by omega) (by omega) (by omega) (hs.2.2.1 c hc).2.2.2.2.2.2 (dt_bE_ok hw hc) (fun J r hJ hr => ⟨fun h => ?_, fun h => ?_⟩)
      · intro x hx
        rw [hx, in_s]
        have hcs := cs_F.of hJ (by decide) (by decide)
        refine ih (p + 1) 0 (Or.inl (by omega)) (by decide) J (hcs.s hs) (hcs.q hq9) (hF.tr hcs) (by omega) (fun k' h1 h2 h3 => ?_)
        by_cases h4 : k' < 16 * p + q
        · exact hno k' h1 h4 h3
        · obtain ⟨_, _, a3⟩ := h3
          rw [show k' / 16 = p by omega] at a3
          rcases hr with ⟨hr, _⟩ | ⟨_, hr⟩
          · rw [hr] at h; exact absurd h (by decide)
          · exact dt_no hw hc hr _ a3
      · rcases hr with ⟨_, hr1, hr2, hr3⟩ | ⟨hr, _⟩
        · have hcs := cs_F.of hJ (by decide) (by decide)
          refine ⟨dt_n2 N c - q + 1, p_next_L52 hw hc (by omega) hr1 (fun L q9 hL h1 h2 h3 h4 h5 => hk1 L p q9 hL (by omega) h2 h1 h3 h4 h5) (fun L hL hno9 => ?_) (dt_n2 N c - q) q (by omega) J (hcs.s hs) (hcs.q hq9) (hF.tr hcs) hr2 hfq hno⟩
          intro x hx
          rw [hx, in_s]
          have hIL : cs_F I L := fun a ha => (hL a ha).trans (hF a ha).symm
          exact ih (p + 1) 0 (Or.inl (by omega)) (by decide) L (hIL.s hs) (hIL.q hq9) hL (by omega) (fun k' h1 h2 => hno9 k' h1 (by omega))
        · exact absurd hr h
/-- what nextPremises answers -/
def dt_nx (N : Mm) (c f : Nat) (r : Int32) (J : Mm) : Prop :=
  (∃ k, r = nI k ∧ k < 256 ∧ f ≤ k ∧ dt_vp N c k ∧ (∀ k', f ≤ k' → k' < k → ¬ dt_vp N c k') ∧ cl_S J 133 (dt_full N c (k / 16) (k % 16) none)) ∨ (r = nI 256 ∧ ∀ k', f ≤ k' → ¬ dt_vp N c k')
theorem p_next {ad : Nat → Nat} {N I : Mm} {c f : Nat} (hw : dt_w N) (hs : rl_s I N) (hq : rl_q I N) (hc : c < dt_nc N) (hf : f ≤ 256) {post : Int32 → Mm → Prop} (hk : ∀ (J : Mm) (r : Int32), cs_F I J → dt_nx N c f r J → post r J) : w_X6_nextPremises (cl_Y ad) I 0 (169 + 7 * c) (nI f) post := by
  obtain ⟨_, hn1, hn20, hn2⟩ := dt_n1_le hw hc
  refine ⟨cy_0, p_choices (a := 0) hw hs hc (by decide) (p_choices (a := 1) hw hs hc (by decide) (fun x6 hx6 x7 hx7 => ?_))⟩
  have e1 : x6 = nI (f % 16) := hx6.trans (pk_rem (by omega) (by decide) (by decide))
  have e2 : x7 = nI (f / 16) := hx7.trans (pk_div (by omega) (by decide) (by decide))
  rw [e1, e2]
  refine ⟨dt_n1 N c - f / 16 + 1, p_next_L27 (I0 := I) (f := f) hw hc (fun J p q hJ hp hq9 h1 h2 h3 h4 => ?_) (fun J hJ h1 => hk J _ hJ (Or.inr ⟨rfl, h1⟩)) (dt_n1 N c - f / 16) (f / 16) (f % 16) (by omega) (by omega) I hs hq cs_F.rf (by omega) (fun k' h1 h2 => by omega)⟩
  have e3 : nI p * (16 : Int32) + nI q = nI (16 * p + q) := by
    rw [show nI p * (16 : Int32) = nI (p * 16) from pk_mul p 16, nI_add, Nat.mul_comm]
  rw [e3]
  have q1 : (16 * p + q) / 16 = p := by omega
  have q2 : (16 * p + q) % 16 = q := by omega
  refine hk J _ hJ (Or.inl ⟨16 * p + q, rfl, by omega, h1, ⟨by rw [q1]; exact hp, by rw [q2]; exact hq9, by rw [q1, q2]; exact h2⟩, h3, ?_⟩)
  rw [q1, q2, dt_body_eq hw hc]
  exact h4
/-- isMissing: a cube that was not reached can be had from the body laid in withBoth -/
theorem p_isMissing {ad : Nat → Nat} {N I : Mm} {c h : Nat} {F : List Ed} (hw : dt_w N) (hs : rl_s I N) (hc : c < dt_nc N) (hh : h < 16) (h6 : N 6 c = nI (dt_hr N c)) (hr : dt_hr N c < dt_nr N) (hF : cl_S I 133 F) (hsm : cl_sm 1001 F) {post : Int32 → Mm → Prop} (hk : ∀ (J : Mm) (r : Int32), cl_F I J 135 → ((r = 1 ∧ I (137 + 8 * dt_hr N c + 4) h = 0 ∧ df_S (F ++ dt_hE N c h)) ∨ (r = 0 ∧ ¬ (I (137 + 8 * dt_hr N c + 4) h = 0 ∧ df_S (F ++ dt_hE N c h)))) → post r J) : w_X6_isMissing (cl_Y ad) I 0 (170 + 7 * c) (nI h) post := by
  have h12 := hw.2.2.1
  have hr4 := hw.1.2.1
  obtain ⟨r1, r2, r3, _⟩ := hs.2.2.1 c hc
  obtain ⟨kh1, kh2⟩ := cy_krh (ad := ad) (r := dt_hr N c) (j := 4) (by omega) (by decide) (by decide)
  rw [h6] at r1
  refine ⟨cy_0, cy_kh (by omega), cy_1, by rw [r1]; exact vp_in_nI (N := 4) (by omega) (by decide), fun q5 hq5 => ?_⟩
  rw [cy_p0, r1, in_c (by omega), cy_rel] at hq5
  subst hq5
  rw [cy_rr (by omega) (by decide) (by decide), show 5 - 1 = 4 from rfl, in_c (by omega)]
  refine ⟨cy_kr (by omega), kh1, by rw [kh2]; exact vp_in_nI (by omega) (by decide), fun h0 => ⟨cy_B3.1, ?_⟩, fun h0 => hk I 0 cl_F.rf (Or.inr ⟨rfl, fun h9 => h0 h9.1⟩)⟩
  rw [cy_p10, cy_p11]
  refine p_copy cy_B3 cy_B2 (by decide) (by decide) (by decide) hF hsm.P (fun J hJ hSJ _ => ?_)
  have hcs := cs_F.of hJ (by decide) (by decide)
  obtain ⟨x0, x0'⟩ := (hw.2.2.2 c hc).2.1 0 (by decide)
  obtain ⟨x1, x1'⟩ := (hw.2.2.2 c hc).2.1 1 (by decide)
  rw [Nat.add_zero] at x0
  rw [hcs _ (by omega), r2, r3, x0, x1]
  refine p_restrict hw (hcs.r hs.1) hr hh (by omega) (by omega) cy_B3 (by decide) (by decide) hSJ hsm (fun L hL hSL => ?_)
  have hok : cl_sm 1001 (F ++ dt_hE N c h) := cl_sm_app hsm (dt_cE_ok hw hr (by omega) (by omega))
  rcases cl_S_fl hok.P hSL with ⟨f1, f2⟩ | ⟨f1, f2⟩
  · exact ⟨Or.inr f1, by rw [f1]; exact hk L 1 (hJ.tr hL) (Or.inl ⟨rfl, h0, f2⟩)⟩
  · exact ⟨Or.inl f1, by rw [f1]; exact hk L 0 (hJ.tr hL) (Or.inr ⟨rfl, fun h9 => f2 h9.2⟩)⟩
