/-! THE CLASS: all that a round reaches -/
theorem dt_dn_k {N : Mm} {d : Rd} {c a b : Nat} (h : dt_dn N d c (fun _ _ => a)) (hno : ∀ k, a ≤ k → k < b → ¬ dt_vp N c k) : dt_dn N d c (fun _ _ => b) := fun r m hr hm => ⟨(h r m hr hm).1, fun h1 ⟨hcd, c', k', hl, hwp⟩ => by
  refine (h r m hr hm).2 h1 ⟨hcd, c', k', ?_, hwp⟩
  rcases hl with hl | ⟨hl, hl2⟩
  · exact Or.inl hl
  · refine Or.inr ⟨hl, ?_⟩
    have hl2 : k' < b := hl2
    show k' < a
    apply Classical.byContradiction
    intro hc
    exact hno k' (by omega) hl2 (by rw [← hl]; exact dt_wp_vp hwp)⟩
theorem dt_dn_c {N : Mm} {d : Rd} {c a : Nat} (h : dt_dn N d c (fun _ _ => a)) (hno : ∀ r k, r < 4 → a ≤ k → ∀ m, ¬ dt_wp N c r m k) : dt_dn N d (c + 1) (fun _ _ => 0) := fun r m hr hm => ⟨(h r m hr hm).1, fun h1 ⟨hcd, c', k', hl, hwp⟩ => by
  refine (h r m hr hm).2 h1 ⟨hcd, c', k', ?_, hwp⟩
  rcases hl with hl | ⟨hl, hl2⟩
  · by_cases hcc : c' = c
    · refine Or.inr ⟨hcc, ?_⟩
      show k' < a
      apply Classical.byContradiction
      intro h9
      exact hno r k' hr (by omega) m (by rw [← hcc]; exact hwp)
    · exact Or.inl (by omega)
  · exact absurd hl2 (Nat.not_lt_zero _)⟩
theorem dt_hd {N : Mm} (hw : dt_w N) {c : Nat} (hc : c < dt_nc N) : N 6 c = -1 ∨ (N 6 c = nI (dt_hr N c) ∧ dt_hr N c < dt_nr N ∧ N 6 c ≠ -1) := by
  have hr4 := hw.1.2.1
  rcases (hw.2.2.2 c hc).1 with h | ⟨h1, h2⟩
  · exact Or.inl h
  · refine Or.inr ⟨h1, h2, fun h => ?_⟩
    rw [h1, in_eq, in_n (by omega)] at h
    have : (-1 : Int32).toInt = -1 := by decide
    omega
theorem p_reachCubes {ad : Nat → Nat} {N I0 J : Mm} {d : Rd} {c k : Nat} (hw : dt_w N) (hs0 : rl_s I0 N) (hh : rl_h I0 N) (hc : c < dt_nc N) (h6 : N 6 c = nI (dt_hr N c)) (hr : dt_hr N c < dt_nr N) (hk9 : k < 256) (hvp : dt_vp N c k) (hR : rc_m I0 J N d) (hS : cl_S J 133 (dt_full N c (k / 16) (k % 16) none)) (hd : dt_dn N d c (fun _ _ => k)) {post : Int32 → Mm → Prop}
    (hk : ∀ (L : Mm) (d' : Rd) (n : Nat), rc_m I0 L N d' → dt_dn N d' c (fun _ _ => k + 1) → rc_ct d' 64 = rc_ct d 64 + n → post (nI n) L) : w_X6_reachCubes (cl_Y ad) J 0 (nI c) (nI k) post := by
  have h12 := hw.2.2.1
  have hr4 := hw.1.2.1
  have hs := hR.s hs0 hw
  obtain ⟨r1, _⟩ := hs.2.2.1 c hc
  refine ⟨cy_0, cy_2, vp_in_nI (N := 12) (by omega) (by decide), fun q4 hq4 => ?_⟩
  rw [cy_p2, in_c (by omega), cy_cla] at hq4
  subst hq4
  rw [cy_rc0 (by omega), r1, h6]
  refine ⟨cy_kc (by omega), cy_kh (by omega), cy_1, vp_in_nI (N := 4) (by omega) (by decide), fun q9 hq9 => ?_⟩
  rw [cy_p0, in_c (by omega), cy_rel] at hq9
  subst hq9
  refine ⟨2 ^ dt_nm N (dt_hr N c) + 1, p_reachCubes_L (n0 := rc_ct d 64) hw hs0 hh hc h6 hr hk9 hvp hk (2 ^ dt_nm N (dt_hr N c)) 0 (by omega) J d 0 hR hS (fun r m hr' hm' => ⟨(hd r m hr' hm').1, fun h1 h2 => ?_⟩) rfl⟩
  obtain ⟨hcd, c', k', hl, hwp⟩ := h2
  refine (hd r m hr' hm').2 h1 ⟨hcd, c', k', ?_, hwp⟩
  rcases hl with hl | ⟨hl, hl2⟩
  · exact Or.inl hl
  · refine Or.inr ⟨hl, ?_⟩
    rw [rc_kb_0 (by omega)] at hl2
    exact hl2
theorem dt_vp_lt {N : Mm} (hw : dt_w N) {c k : Nat} (hc : c < dt_nc N) (h : dt_vp N c k) : k < 256 := by
  have := dt_n1_le hw hc
  have := h.1
  omega
theorem p_reachBy_L {ad : Nat → Nat} {N I0 : Mm} {c n0 : Nat} (hw : dt_w N) (hs0 : rl_s I0 N) (hh : rl_h I0 N) (hc : c < dt_nc N) (h6 : N 6 c = nI (dt_hr N c)) (hr : dt_hr N c < dt_nr N) {post : Int32 → Mm → Prop}
    (hk : ∀ (L : Mm) (d : Rd) (n : Nat), rc_m I0 L N d → dt_dn N d (c + 1) (fun _ _ => 0) → rc_ct d 64 = n0 + n → post (nI n) L) :
    ∀ (t k : Nat), 256 ≤ k + t → ∀ (J : Mm) (d : Rd) (n f : Nat) (v : Int32), rc_m I0 J N d → dt_dn N d c (fun _ _ => f) → rc_ct d 64 = n0 + n → f ≤ k → (v = nI k ∧ k < 256 ∧ dt_vp N c k ∧ (∀ k', f ≤ k' → k' < k → ¬ dt_vp N c k') ∧ cl_S J 133 (dt_full N c (k / 16) (k % 16) none)) ∨ (v = nI 256 ∧ ∀ k', f ≤ k' → ¬ dt_vp N c k') →
      w_X6_reachBy_L28 (cl_Y ad) post (fun v J => post v J) (t + 1) 0 (nI c) (169 + 7 * c) (nI n) v J := by
  have h12 := hw.2.2.1
  have done : ∀ (t : Nat) (J : Mm) (d : Rd) (n f : Nat), rc_m I0 J N d → dt_dn N d c (fun _ _ => f) → rc_ct d 64 = n0 + n → (∀ k', f ≤ k' → ¬ dt_vp N c k') → w_X6_reachBy_L28 (cl_Y ad) post (fun v J => post v J) (t + 1) 0 (nI c) (169 + 7 * c) (nI n) (nI 256) J := fun t J d n f hR hd hn hno => by
    refine ⟨fun _ => hk J d n hR (dt_dn_c hd (fun r k _ h1 m h2 => hno k h1 (dt_wp_vp h2))) hn, fun h => absurd (by decide) h⟩
  intro t
  induction t with
  | zero =>
    intro k ht J d n f v hR hd hn hfk hv
    rcases hv with ⟨_, h, _⟩ | ⟨rfl, hv⟩
    · omega
    · exact done 0 J d n f hR hd hn hv
  | succ t ih =>
    intro k ht J d n f v hR hd hn hfk hv
    rcases hv with ⟨rfl, hk9, hvp, hno, hS⟩ | ⟨rfl, hv⟩
    · refine ⟨fun h => ?_, fun _ => ⟨cy_0, ?_⟩⟩
      · rw [in_le, in_n (by omega)] at h
        have : (256 : Int32).toInt = 256 := by decide
        omega
      · refine p_reachCubes hw hs0 hh hc h6 hr hk9 hvp hR hS (dt_dn_k hd hno) (fun L d' n' hL hd' hn' x hx => ?_)
        rw [hx, nI_add, in_s]
        have hct := rc_ct_le d' 64
        refine p_next hw (hL.s hs0 hw) (hL.q hh hd') hc (by omega) (fun K v hK hv => ?_)
        rcases hv with ⟨k2, rfl, h1, h2, h3, h4, h5⟩ | ⟨rfl, h1⟩
        · exact ih k2 (by omega) K d' (n + n') (k + 1) _ (hL.cs hK) hd' (by omega) h2 (Or.inl ⟨rfl, h1, h3, h4, h5⟩)
        · exact ih (k + 1) (by omega) K d' (n + n') (k + 1) _ (hL.cs hK) hd' (by omega) (Nat.le_refl _) (Or.inr ⟨rfl, h1⟩)
    · exact done (t + 1) J d n f hR hd hn hv
theorem p_reachBy {ad : Nat → Nat} {N I0 J : Mm} {d : Rd} {c : Nat} (hw : dt_w N) (hs0 : rl_s I0 N) (hh : rl_h I0 N) (hc : c < dt_nc N) (hR : rc_m I0 J N d) (hd : dt_dn N d c (fun _ _ => 0)) {post : Int32 → Mm → Prop}
    (hk : ∀ (L : Mm) (d' : Rd) (n : Nat), rc_m I0 L N d' → dt_dn N d' (c + 1) (fun _ _ => 0) → rc_ct d' 64 = rc_ct d 64 + n → post (nI n) L) : w_X6_reachBy (cl_Y ad) J 0 (nI c) post := by
  have h12 := hw.2.2.1
  have hr4 := hw.1.2.1
  have hs := hR.s hs0 hw
  obtain ⟨r1, _⟩ := hs.2.2.1 c hc
  refine ⟨cy_0, cy_2, vp_in_nI (N := 12) (by omega) (by decide), fun q4 hq4 => ?_⟩
  rw [cy_p2, in_c (by omega), cy_cla] at hq4
  subst hq4
  rw [cy_rc0 (by omega), r1]
  refine ⟨cy_kc (by omega), cy_kh (by omega), fun h => ?_, fun h => ?_⟩
  · refine hk J d 0 hR (dt_dn_c hd (fun r k hr _ m h2 => ?_)) rfl
    have h3 := h2.2.1
    rw [h, in_eq, in_n (by omega)] at h3
    have : (-1 : Int32).toInt = -1 := by decide
    omega
  · rcases dt_hd hw hc with h4 | ⟨h6, hr, _⟩
    · exact absurd h4 h
    · refine p_next (f := 0) hw hs (hR.q hh hd) hc (by decide) (fun K v hK hv => ?_)
      refine ⟨256 + 1, ?_⟩
      rcases hv with ⟨k2, rfl, h1, h2, h3, h4, h5⟩ | ⟨rfl, h1⟩
      · exact p_reachBy_L hw hs0 hh hc h6 hr hk 256 k2 (by omega) K d 0 0 _ (hR.cs hK) hd rfl h2 (Or.inl ⟨rfl, h1, h3, h4, h5⟩)
      · exact p_reachBy_L hw hs0 hh hc h6 hr hk 256 0 (by omega) K d 0 0 _ (hR.cs hK) hd rfl (Nat.le_refl _) (Or.inr ⟨rfl, h1⟩)
theorem p_reach_L {ad : Nat → Nat} {N I0 : Mm} (hw : dt_w N) (hs0 : rl_s I0 N) (hh : rl_h I0 N) {post : Int32 → Mm → Prop} {ex : Nat → Int32 → Mm → Prop} (hk : ∀ (L : Mm) (d : Rd), rc_m I0 L N d → dt_dn N d (dt_nc N) (fun _ _ => 0) → ex 0 (nI (rc_ct d 64)) L) :
    ∀ (t c : Nat), c + t = dt_nc N → ∀ (J : Mm) (d : Rd), rc_m I0 J N d → dt_dn N d c (fun _ _ => 0) → w_X6_makeRound_L11 (cl_Y ad) post ex (t + 1) 0 (nI (rc_ct d 64)) (nI c) J := by
  have h12 := hw.2.2.1
  intro t
  induction t with
  | zero =>
    intro c hc J d hR hd
    have hs := hR.s hs0 hw
    refine ⟨cy_0, ?_⟩
    rw [hs.2.1, hw.2.1]
    refine ⟨fun _ => hk J d hR (by rw [← show c = dt_nc N by omega]; exact hd), fun h => ?_⟩
    rw [in_le, in_n (by omega), in_n (by omega)] at h
    omega
  | succ t ih =>
    intro c hc J d hR hd
    have hs := hR.s hs0 hw
    refine ⟨cy_0, ?_⟩
    rw [hs.2.1, hw.2.1]
    refine ⟨fun h => ?_, fun _ => p_reachBy hw hs0 hh (by omega) hR hd (fun L d' n hL hd' hn x9 hx9 x10 hx10 => ?_)⟩
    · rw [in_le, in_n (by omega), in_n (by omega)] at h
      omega
    · rw [hx9, hx10, nI_add, in_s, ← hn]
      exact ih (c + 1) (by omega) L d' hL hd'
