/-! CHECK -/
/-- clause c is not obeyed -/
def ck_b (N : Mm) (c : Nat) : Prop := (N 6 c = -1 ∧ ∃ p q, p < dt_n1 N c ∧ q < dt_n2 N c ∧ dt_fd N c none p q) ∨ (¬ N 6 c = -1 ∧ ∃ h p q, h < 2 ^ dt_nm N (dt_hr N c) ∧ N 15 (16 * dt_hr N c + h) = 0 ∧ p < dt_n1 N c ∧ q < dt_n2 N c ∧ dt_fd N c (some h) p q)
/-- pair k leaves a cube out -/
def ck_m (N : Mm) (c k h : Nat) : Prop := N 15 (16 * dt_hr N c + h) = 0 ∧ df_S (dt_full N c (k / 16) (k % 16) (some h))
theorem p_isAnyMissing {ad : Nat → Nat} {N I : Mm} {c k : Nat} (hw : dt_w N) (hs : rl_s I N) (hh : rl_h I N) (hc : c < dt_nc N) (h6 : N 6 c = nI (dt_hr N c)) (hr : dt_hr N c < dt_nr N) (hF : cl_S I 133 (dt_full N c (k / 16) (k % 16) none)) {post : Int32 → Mm → Prop} (hk : ∀ (J : Mm) (r : Int32), cs_F I J → ((r = 1 ∧ ∃ h, h < 2 ^ dt_nm N (dt_hr N c) ∧ ck_m N c k h) ∨ (r = 0 ∧ ∀ h, h < 2 ^ dt_nm N (dt_hr N c) → ¬ ck_m N c k h)) → post r J) : w_X6_isAnyMissing (cl_Y ad) I 0 (170 + 7 * c) post := by
  have h12 := hw.2.2.1
  have hr4 := hw.1.2.1
  have h16 : 2 ^ dt_nm N (dt_hr N c) ≤ 16 := dt_p16 (hw.1.2.2.2.1 _ (by omega)).2.1
  obtain ⟨r1, _⟩ := hs.2.2.1 c hc
  have hho : dt_ho N c (-1) none := rfl
  have hsm : cl_sm 1001 (dt_full N c (k / 16) (k % 16) none) := dt_full_ok hw hc hho
  have loop : ∀ (t h : Nat), h + t = 2 ^ dt_nm N (dt_hr N c) → ∀ J : Mm, cs_F I J → cl_S J 133 (dt_full N c (k / 16) (k % 16) none) → (∀ h', h' < h → ¬ ck_m N c k h') → w_X6_isAnyMissing_L15 (cl_Y ad) post (fun J => post 1 J) (fun J => post 0 J) (t + 1) 0 (170 + 7 * c) (nI (2 ^ dt_nm N (dt_hr N c))) (nI h) J := by
    intro t
    induction t with
    | zero =>
      intro h ht J hJ hS hno
      refine ⟨fun _ => hk J 0 hJ (Or.inr ⟨rfl, by rw [← show h = 2 ^ dt_nm N (dt_hr N c) by omega]; exact hno⟩), fun h9 => ?_⟩
      rw [in_le, in_n (by omega), in_n (by omega)] at h9
      omega
    | succ t ih =>
      intro h ht J hJ hS hno
      refine ⟨fun h9 => ?_, fun _ => ⟨cy_0, ?_⟩⟩
      · rw [in_le, in_n (by omega), in_n (by omega)] at h9
        omega
      · refine p_isMissing hw (hJ.s hs) hc (by omega) h6 hr hS hsm (fun L r hL hv => ?_)
        have hJL := cs_F.of hL (by decide) (by decide)
        have hht : J (137 + 8 * dt_hr N c + 4) h = N 15 (16 * dt_hr N c + h) := by rw [hJ _ (by omega)]; exact (hh.1 _ _ (by omega) (by omega)).1
        rw [hht] at hv
        refine ⟨fun h0 x hx => ?_, fun h1 => ?_⟩
        · rw [hx, in_s]
          rcases hv with ⟨hv, _⟩ | ⟨_, hv⟩
          · rw [hv] at h0; exact absurd h0 (by decide)
          refine ih (h + 1) (by omega) L (hJ.tr hJL) (cl_S_keep (hL.1 133 (by decide) (by decide)) (hL.1 134 (by decide) (by decide)) hS) (fun h' hh' => ?_)
          by_cases e : h' = h
          · rw [e]; exact hv
          · exact hno h' (by omega)
        · rcases hv with ⟨_, v1, v2⟩ | ⟨hv, _⟩
          · exact hk L 1 (hJ.tr hJL) (Or.inl ⟨rfl, h, by omega, v1, v2⟩)
          · exact absurd hv h1
  rw [h6] at r1
  refine ⟨cy_0, cy_kh (by omega), cy_1, by rw [r1]; exact vp_in_nI (N := 4) (by omega) (by decide), ?_⟩
  rw [cy_p0, r1, in_c (by omega), cy_rel]
  exact ⟨cy_kr (by omega), p_cubes hw hs.1 hr ⟨2 ^ dt_nm N (dt_hr N c) + 1, loop _ 0 (by omega) I cs_F.rf hF (fun h' h9 => absurd h9 (Nat.not_lt_zero h'))⟩⟩
theorem ck_no {N : Mm} (hw : dt_w N) {c : Nat} (hc : c < dt_nc N) (h : ∀ k, dt_vp N c k → ¬ N 6 c = -1 ∧ ∀ h, h < 2 ^ dt_nm N (dt_hr N c) → ¬ ck_m N c k h) : ¬ ck_b N c := fun hb => by
  obtain ⟨_, _, _, h2⟩ := dt_n1_le hw hc
  have vp : ∀ p q, p < dt_n1 N c → q < dt_n2 N c → dt_fd N c none p q → dt_vp N c (16 * p + q) := fun p q hp hq hfd => ⟨by rw [show (16 * p + q) / 16 = p by omega]; exact hp, by rw [show (16 * p + q) % 16 = q by omega]; exact hq, by rw [show (16 * p + q) / 16 = p by omega, show (16 * p + q) % 16 = q by omega]; exact hfd⟩
  rcases hb with ⟨h6, p, q, hp, hq, hfd⟩ | ⟨_, x, p, q, hx, hx0, hp, hq, hfd⟩
  · exact (h _ (vp p q hp hq hfd)).1 h6
  · refine (h _ (vp p q hp hq ⟨hfd.1, dt_full_sub hfd.2⟩)).2 x hx ⟨hx0, ?_⟩
    rw [show (16 * p + q) / 16 = p by omega, show (16 * p + q) % 16 = q by omega]
    exact hfd.2
set_option maxHeartbeats 2000000 in
theorem p_isObeyed {ad : Nat → Nat} {N I : Mm} {c : Nat} (hw : dt_w N) (hs : rl_s I N) (hh : rl_h I N) (hc : c < dt_nc N) {post : Int32 → Mm → Prop} (hk : ∀ (J : Mm) (r : Int32), cs_F I J → ((r = 0 ∧ ck_b N c) ∨ (r = 1 ∧ ¬ ck_b N c)) → post r J) : w_X6_isObeyed (cl_Y ad) I 0 (169 + 7 * c) post := by
  have h12 := hw.2.2.1
  have hr4 := hw.1.2.1
  obtain ⟨r1, _⟩ := hs.2.2.1 c hc
  have loop : ∀ (t k : Nat), 256 ≤ k + t → ∀ (J : Mm) (f : Nat) (v : Int32), cs_F I J → f ≤ k → (∀ k', k' < f → dt_vp N c k' → ¬ N 6 c = -1 ∧ ∀ h, h < 2 ^ dt_nm N (dt_hr N c) → ¬ ck_m N c k' h) → (v = nI k ∧ k < 256 ∧ dt_vp N c k ∧ (∀ k', f ≤ k' → k' < k → ¬ dt_vp N c k') ∧ cl_S J 133 (dt_full N c (k / 16) (k % 16) none)) ∨ (v = nI 256 ∧ ∀ k', f ≤ k' → ¬ dt_vp N c k') → w_X6_isObeyed_L7 (cl_Y ad) post (fun J => post 0 J) (fun J => post 1 J) (t + 1) 0 (169 + 7 * c) v J := by
    have done : ∀ (t : Nat) (J : Mm) (f : Nat), cs_F I J → (∀ k', k' < f → dt_vp N c k' → ¬ N 6 c = -1 ∧ ∀ h, h < 2 ^ dt_nm N (dt_hr N c) → ¬ ck_m N c k' h) → (∀ k', f ≤ k' → ¬ dt_vp N c k') → w_X6_isObeyed_L7 (cl_Y ad) post (fun J => post 0 J) (fun J => post 1 J) (t + 1) 0 (169 + 7 * c) (nI 256) J := fun t J f hJ hold hno => by
      refine ⟨fun _ => hk J 1 hJ (Or.inr ⟨rfl, ck_no hw hc (fun k hvp => ?_)⟩), fun h => absurd (by decide) h⟩
      by_cases hkf : k < f
      · exact hold k hkf hvp
      · exact absurd hvp (hno k (by omega))
    intro t
    induction t with
    | zero =>
      intro k ht J f v hJ hfk hold hv
      rcases hv with ⟨_, h, _⟩ | ⟨rfl, hv⟩
      · omega
      · exact done 0 J f hJ hold hv
    | succ t ih =>
      intro k ht J f v hJ hfk hold hv
      rcases hv with ⟨rfl, hk9, hvp, hno, hS⟩ | ⟨rfl, hv⟩
      · refine ⟨fun h => ?_, fun _ => ⟨cy_kc (by omega), ?_⟩⟩
        · rw [in_le, in_n (by omega)] at h
          have : (256 : Int32).toInt = 256 := by decide
          omega
        · rw [cy_rc0 (by omega), hJ _ (by omega), r1]
          refine ⟨cy_kh (by omega), fun h6 => hk J 0 hJ (Or.inl ⟨rfl, Or.inl ⟨h6, _, _, hvp.1, hvp.2.1, hvp.2.2⟩⟩), fun h6 => ⟨cy_0, ?_⟩⟩
          rcases dt_hd hw hc with h9 | ⟨h6', hr, _⟩
          · exact absurd h9 h6
          have hhJ : rl_h J N := by
            obtain ⟨a1, a2, a3⟩ := hh
            unfold rl_h
            rw [hJ 0 (by omega)]
            exact ⟨fun r m hr hm => by rw [hJ _ (by omega)]; exact a1 r m hr hm, a2, a3⟩
          refine p_isAnyMissing hw (hJ.s hs) hhJ hc h6' hr hS (fun L r hL hr9 => ⟨fun h0 => ?_, fun h1 => ?_⟩)
          · rcases hr9 with ⟨hr9, _⟩ | ⟨_, hr9⟩
            · rw [hr9] at h0; exact absurd h0 (by decide)
            rw [in_s]
            refine p_next hw ((hJ.tr hL).s hs) ((hJ.tr hL).q hh.q) hc (by omega) (fun K v hK hv => ?_)
            have hold' : ∀ k', k' < k + 1 → dt_vp N c k' → ¬ N 6 c = -1 ∧ ∀ h, h < 2 ^ dt_nm N (dt_hr N c) → ¬ ck_m N c k' h := fun k' hk' hvp' => by
              by_cases e1 : k' < f
              · exact hold k' e1 hvp'
              · by_cases e2 : k' < k
                · exact absurd hvp' (hno k' (by omega) e2)
                · rw [show k' = k by omega]; exact ⟨h6, hr9⟩
            rcases hv with ⟨k2, rfl, g1, g2, g3, g4, g5⟩ | ⟨rfl, g1⟩
            · exact ih k2 (by omega) K (k + 1) _ ((hJ.tr hL).tr hK) g2 hold' (Or.inl ⟨rfl, g1, g3, g4, g5⟩)
            · exact ih (k + 1) (by omega) K (k + 1) _ ((hJ.tr hL).tr hK) (Nat.le_refl _) hold' (Or.inr ⟨rfl, g1⟩)
          · rcases hr9 with ⟨_, x, x1, x2, x3⟩ | ⟨hr9, _⟩
            · exact hk L 0 (hJ.tr hL) (Or.inl ⟨rfl, Or.inr ⟨h6, x, _, _, x1, x2, hvp.1, hvp.2.1, hvp.2.2.1, x3⟩⟩)
            · exact absurd hr9 h1
      · exact done (t + 1) J f hJ hold hv
  refine ⟨cy_0, p_next (f := 0) hw hs hh.q hc (by decide) (fun J v hJ hv => ⟨256 + 1, ?_⟩)⟩
  rcases hv with ⟨k2, rfl, g1, g2, g3, g4, g5⟩ | ⟨rfl, g1⟩
  · exact loop 256 k2 (by omega) J 0 _ hJ g2 (fun k' h9 => absurd h9 (Nat.not_lt_zero k')) (Or.inl ⟨rfl, g1, g3, g4, g5⟩)
  · exact loop 256 0 (by omega) J 0 _ hJ (Nat.le_refl _) (fun k' h9 => absurd h9 (Nat.not_lt_zero k')) (Or.inr ⟨rfl, g1⟩)
set_option maxHeartbeats 2000000 in
theorem m_isBroken {ad : Nat → Nat} {N J : Mm} {c : Nat} (hw : dt_w N) (hG : md_G N J) (hc : c < dt_nc N) {post : Int32 → Mm → Prop} (hk : ∀ (L : Mm) (r : Int32), md_G N L → ((r = 1 ∧ ck_b N c) ∨ (r = 0 ∧ ¬ ck_b N c)) → post r L) : w_X7_isBroken (md_Y ad) J 0 (nI c) post := by
  have h12 := hw.2.2.1
  have hr4 := hw.1.2.1
  obtain ⟨_, n1, _, n2⟩ := dt_n1_le hw hc
  have fnd : ∀ {J : Mm} (hG : md_G N J) {ho : Option Nat} {v : Int32} {L : Mm}, dt_fr J c ho v L → (v = 1 ∧ ∃ p q, p < dt_n1 N c ∧ q < dt_n2 N c ∧ dt_fd N c ho p q) ∨ (v = 0 ∧ ∀ p q, p < dt_n1 N c → q < dt_n2 N c → ¬ dt_fd N c ho p q) := fun {J} hG {ho v L} hv => by
    have hF : rn_m N J rc_0 := rn_0.G hG
    unfold dt_fr at hv
    rw [hF.n1, hF.n2, hF.on] at hv
    rcases hv with ⟨hv, k, hk, hfd, _⟩ | ⟨hv, hno⟩
    · obtain ⟨x1, x2⟩ := dt_pq hk
      exact Or.inl ⟨hv, _, _, x1, x2, (hF.fd hw rn_ok_0 hc (by omega) (by omega)).mp hfd⟩
    · refine Or.inr ⟨hv, fun p q hp hq hfd => ?_⟩
      refine dt_no_n (N := N) (ho := ho) (fun k hk hfd9 => ?_) hp hq hfd
      obtain ⟨x1, x2⟩ := dt_pq hk
      exact hno k hk ((hF.fd hw rn_ok_0 hc (by omega) (by omega)).mpr hfd9)
  have e6 : ∀ {J : Mm}, md_G N J → J 6 = N 6 := fun hG => hG.1 6 (by decide) (by decide) (by decide) (by decide) (by decide)
  refine ⟨md_k0, md_k6, vp_in_nI (N := 12) (by omega) (by decide), ?_⟩
  rw [md_r8, in_c (by omega), e6 hG]
  refine ⟨fun h => ?_, fun h => ?_⟩
  · obtain ⟨h6, hr, hne⟩ : N 6 c = nI (dt_hr N c) ∧ dt_hr N c < dt_nr N ∧ N 6 c ≠ -1 := by
      rcases dt_hd hw hc with h9 | h9
      · rw [h9] at h; exact absurd h (by decide)
      · exact h9
    have h16 : 2 ^ dt_nm N (dt_hr N c) ≤ 16 := dt_p16 (hw.1.2.2.2.1 _ (by omega)).2.1
    have loop : ∀ (t x : Nat), x + t = 2 ^ dt_nm N (dt_hr N c) → ∀ J : Mm, md_G N J → (∀ h p q, h < x → N 15 (16 * dt_hr N c + h) = 0 → p < dt_n1 N c → q < dt_n2 N c → ¬ dt_fd N c (some h) p q) → w_X7_isBroken_L18 (md_Y ad) post (fun J => post 1 J) (fun J => post 0 J) (t + 1) 0 (nI c) (nI x) J := by
      intro t
      induction t with
      | zero =>
        intro x hx J hG hno
        have hF : rn_m N J rc_0 := rn_0.G hG
        refine ⟨md_k0, md_k6, vp_in_nI (N := 12) (by omega) (by decide), ?_⟩
        rw [md_r8, in_c (by omega), e6 hG, h6]
        refine m_cubesOf (hF.w hw) (by rw [hF.fz.nr]; exact hr) ?_
        rw [hF.fz.nm]
        refine ⟨fun _ => hk J 0 hG (Or.inr ⟨rfl, fun hb => ?_⟩), fun h9 => ?_⟩
        · rcases hb with ⟨h9, _⟩ | ⟨_, y, p, q, y1, y2, y3, y4, y5⟩
          · exact hne h9
          · exact hno y p q (by omega) y2 y3 y4 y5
        · rw [in_le, in_n (by omega), in_n (by omega)] at h9
          omega
      | succ t ih =>
        intro x hx J hG hno
        have hF : rn_m N J rc_0 := rn_0.G hG
        have next : ∀ L, md_G N L → (N 15 (16 * dt_hr N c + x) = 0 → ∀ p q, p < dt_n1 N c → q < dt_n2 N c → ¬ dt_fd N c (some x) p q) → ∀ y, y = nI x + 1 → w_X7_isBroken_L18 (md_Y ad) post (fun J => post 1 J) (fun J => post 0 J) (t + 1) 0 (nI c) y L := fun L hL hn y hy => by
          rw [hy, in_s]
          refine ih (x + 1) (by omega) L hL (fun h p q g1 g2 g3 g4 g5 => ?_)
          by_cases e : h = x
          · rw [e] at g2 g5; exact hn g2 p q g3 g4 g5
          · exact hno h p q (by omega) g2 g3 g4 g5
        refine ⟨md_k0, md_k6, vp_in_nI (N := 12) (by omega) (by decide), ?_⟩
        rw [md_r8, in_c (by omega), e6 hG, h6]
        refine m_cubesOf (hF.w hw) (by rw [hF.fz.nr]; exact hr) ?_
        rw [hF.fz.nm]
        refine ⟨fun h9 => ?_, fun _ => ⟨md_k15, ?_⟩⟩
        · rw [in_le, in_n (by omega), in_n (by omega)] at h9
          omega
        · rw [e6 hG, h6, in_mul16, nI_add, in_c (by omega), md_r17, hG.1 15 (by decide) (by decide) (by decide) (by decide) (by decide)]
          refine ⟨vp_in_nI (N := 64) (by omega) (by decide), fun h9 => next J hG (fun h8 => absurd h8 h9), fun h9 => ?_⟩
          refine m_isFound (ho := some x) (hF.w hw) (by rw [hF.fz.nc]; exact hc) ⟨rfl, by omega, by rw [e6 hG, hF.fz.hr]; exact h6, by rw [hF.fz.hr, hF.fz.nr]; exact hr⟩ (fun L v hL hv => ?_)
          have hGL := hG.tr hL
          refine ⟨fun h0 => ?_, fun h1 => ?_⟩
          · rcases fnd hG hv with ⟨hv, _⟩ | ⟨_, hv⟩
            · rw [hv] at h0; exact absurd h0 (by decide)
            · exact next L hGL (fun _ => hv)
          · rcases fnd hG hv with ⟨_, p, q, p1, p2, p3⟩ | ⟨hv, _⟩
            · exact hk L 1 hGL (Or.inl ⟨rfl, Or.inr ⟨hne, x, p, q, by omega, h9, p1, p2, p3⟩⟩)
            · exact absurd hv h1
    exact ⟨2 ^ dt_nm N (dt_hr N c) + 1, loop _ 0 (by omega) J hG (fun h p q h9 => absurd h9 (Nat.not_lt_zero h))⟩
  · have h6 : N 6 c = -1 := by
      rcases dt_hd hw hc with h9 | ⟨h9, h8, _⟩
      · exact h9
      · rw [h9, in_le, in_n (by omega), in_0] at h
        omega
    have hF : rn_m N J rc_0 := rn_0.G hG
    refine m_isFound (ho := none) (hF.w hw) (by rw [hF.fz.nc]; exact hc) rfl (fun L v hL hv => ?_)
    rcases fnd hG hv with ⟨rfl, p, q, p1, p2, p3⟩ | ⟨rfl, hno⟩
    · exact ⟨Or.inr rfl, hk L 1 (hG.tr hL) (Or.inl ⟨rfl, Or.inl ⟨h6, p, q, p1, p2, p3⟩⟩)⟩
    · refine ⟨Or.inl rfl, hk L 0 (hG.tr hL) (Or.inr ⟨rfl, fun hb => ?_⟩)⟩
      rcases hb with ⟨_, p, q, p1, p2, p3⟩ | ⟨h9, _⟩
      · exact hno p q p1 p2 p3
      · exact h9 h6
/-- the answer of check -/
def ck_r (N : Mm) (r : Int32) : Prop := (∃ c, r = nI c ∧ c < dt_nc N ∧ ck_b N c ∧ ∀ c', c' < c → ¬ ck_b N c') ∨ (r = -1 ∧ ∀ c, c < dt_nc N → ¬ ck_b N c)
theorem ck_r_eq {N : Mm} {r r' : Int32} (h : ck_r N r) (h' : ck_r N r') : r = r' := by
  rcases h with ⟨c, h1, h2, h3, h4⟩ | ⟨h1, h2⟩ <;> rcases h' with ⟨c', g1, g2, g3, g4⟩ | ⟨g1, g2⟩
  · have : c = c' := by
      rcases Nat.lt_trichotomy c c' with h | h | h
      · exact absurd h3 (g4 c h)
      · exact h
      · exact absurd g3 (h4 c' h)
    rw [h1, g1, this]
  · exact absurd h3 (g2 c h2)
  · exact absurd g3 (h2 c' g2)
  · rw [h1, g1]
theorem p_check {ad : Nat → Nat} {N I : Mm} (hw : dt_w N) (hs : rl_s I N) (hh : rl_h I N) {post : Int32 → Mm → Prop} (hk : ∀ (J : Mm) (r : Int32), cs_F I J → ck_r N r → post r J) : w_X6_check (cl_Y ad) I 0 post := by
  have h12 := hw.2.2.1
  have loop : ∀ (t c : Nat), c + t = dt_nc N → ∀ J : Mm, cs_F I J → (∀ c', c' < c → ¬ ck_b N c') → w_X6_check_L2 (cl_Y ad) post (fun v J => post v J) (fun J => post (-1) J) (t + 1) 0 (nI c) J := by
    intro t
    induction t with
    | zero =>
      intro c hc J hJ hno
      refine ⟨cy_0, ?_⟩
      rw [(hJ.s hs).2.1, hw.2.1]
      refine ⟨fun _ => hk J _ hJ (Or.inr ⟨rfl, by rw [← show c = dt_nc N by omega]; exact hno⟩), fun h => ?_⟩
      rw [in_le, in_n (by omega), in_n (by omega)] at h
      omega
    | succ t ih =>
      intro c hc J hJ hno
      refine ⟨cy_0, ?_⟩
      rw [(hJ.s hs).2.1, hw.2.1]
      refine ⟨fun h => ?_, fun _ => ⟨cy_2, vp_in_nI (N := 12) (by omega) (by decide), ?_⟩⟩
      · rw [in_le, in_n (by omega), in_n (by omega)] at h
        omega
      · rw [cy_p2, in_c (by omega), cy_cla]
        have hhJ : rl_h J N := by
          obtain ⟨a1, a2, a3⟩ := hh
          unfold rl_h
          rw [hJ 0 (by omega)]
          exact ⟨fun r m hr hm => by rw [hJ _ (by omega)]; exact a1 r m hr hm, a2, a3⟩
        refine p_isObeyed hw (hJ.s hs) hhJ (by omega) (fun L r hL hr => ⟨fun h x hx => ?_, fun h => ?_⟩)
        · rw [hx, in_s]
          rcases hr with ⟨hr, _⟩ | ⟨_, hr⟩
          · exact absurd hr h
          refine ih (c + 1) (by omega) L (hJ.tr hL) (fun c' hc' => ?_)
          by_cases e : c' = c
          · rw [e]; exact hr
          · exact hno c' (by omega)
        · rcases hr with ⟨_, hr⟩ | ⟨hr, _⟩
          · exact hk L _ (hJ.tr hL) (Or.inl ⟨c, rfl, by omega, hr, hno⟩)
          · rw [hr] at h; exact absurd h (by decide)
  exact ⟨dt_nc N + 1, loop _ 0 (by omega) I cs_F.rf (fun c' h9 => absurd h9 (Nat.not_lt_zero c'))⟩
theorem m_check_L {ad : Nat → Nat} {N : Mm} (hw : dt_w N) {v1 : Int32} {post : Int32 → Mm → Prop} {ex : Nat → Int32 → Int32 → Mm → Prop} (hk : ∀ (J : Mm) (r : Int32), md_G N J → ck_r N r → ex 0 v1 r J) : ∀ (c : Nat), c ≤ dt_nc N → ∀ (J : Mm) (r : Int32), md_G N J → ((∃ x, r = nI x ∧ c ≤ x ∧ x < dt_nc N ∧ ck_b N x ∧ ∀ y, c ≤ y → y < x → ¬ ck_b N y) ∨ (r = -1 ∧ ∀ y, c ≤ y → y < dt_nc N → ¬ ck_b N y)) → w_X7_check_L26 (md_Y ad) post ex (c + 1) 0 v1 r (nI c - 1) J := by
  have h12 := hw.2.2.1
  intro c
  induction c with
  | zero =>
    intro _ J r hJ hr
    refine ⟨fun _ => hk J r hJ (hr.imp (fun ⟨x, a, _, b, c, d⟩ => ⟨x, a, b, c, fun y hy => d y (Nat.zero_le _) hy⟩) (fun ⟨a, b⟩ => ⟨a, fun y hy => b y (Nat.zero_le _) hy⟩)), fun h => absurd (by decide) h⟩
  | succ c ih =>
    intro hc J r hJ hr
    rw [in_sub1 (by omega)]
    refine ⟨fun h => ?_, fun _ => ⟨md_k0, m_isBroken hw hJ (by omega) (fun L v hL hv => ⟨fun h0 x hx => ?_, fun h1 x hx => ?_⟩)⟩⟩
    · rw [in_lt, in_n (by omega), in_0] at h
      omega
    · rw [hx, in_m1]
      rcases hv with ⟨hv, _⟩ | ⟨_, hv⟩
      · rw [hv] at h0; exact absurd h0 (by decide)
      refine ih (by omega) L r hL (hr.imp (fun ⟨x, a1, a2, a3, a4, a5⟩ => ⟨x, a1, by omega, a3, a4, fun y y1 y2 => ?_⟩) (fun ⟨a1, a2⟩ => ⟨a1, fun y y1 y2 => ?_⟩))
      · by_cases e : y = c
        · rw [e]; exact hv
        · exact a5 y (by omega) y2
      · by_cases e : y = c
        · rw [e]; exact hv
        · exact a2 y (by omega) y2
    · rw [hx, in_m1]
      rcases hv with ⟨_, hv⟩ | ⟨hv, _⟩
      · exact ih (by omega) L (nI c) hL (Or.inl ⟨c, rfl, Nat.le_refl _, by omega, hv, fun y y1 y2 => by omega⟩)
      · exact absurd hv h1
theorem sm_check {ad ad' : Nat → Nat} {b : Nat} {I N : Mm} (h : Rl b I N) (hb : b < 1000000) {post : Int32 → Mm → Prop} (hk : ∀ (r : Int32) (J : Mm), sm_R b 0 J r (w_X7_check (md_Y ad') N 0) → post r J) : w_X6_check (cl_Y ad) I 0 post := by
  obtain ⟨N0, hN0⟩ : ∃ N0 : Mm, N0 = ky_up N 0 0 0 := ⟨_, rfl⟩
  obtain ⟨N1, hN1⟩ : ∃ N1 : Mm, N1 = ky_up N0 0 20 (N0 0 20 + 1) := ⟨_, rfl⟩
  have h0 : Rl b I N0 := h.fn (fn_F.code hN0)
  have hw1 : fz_F N0 N1 := fz_F.up0 (by decide) (by decide) hN1
  have n1w : dt_w N1 := hw1.w h0.1
  have h12 := n1w.2.2.1
  have hs1 : rl_s I N1 := hw1.s h0.2.1
  have hh1 : rl_h I N1 := h0.h hb (by rw [hN1]; exact ky_up_ne (by decide)) (by rw [hN1, ky_up_eq]; unfold upd; rw [if_pos rfl]; exact rl_toInt h0 hb)
  refine p_check n1w hs1 hh1 (fun J r hJ hr => hk r J (fun post' hpost => ⟨md_k0, fun N0' e0 x3 hx3 N1' e1 x5 hx5 => ?_⟩))
  rw [← hN0] at e0
  subst e0
  rw [hx3, ← hN1] at e1
  subst e1
  rw [hx5, n1w.2.1]
  refine ⟨dt_nc N1' + 1, m_check_L n1w (fun L v hL hv => ⟨md_k0, fun M hM => ?_⟩) (dt_nc N1') (Nat.le_refl _) N1' (-1) md_G.rf (Or.inr ⟨rfl, fun y y1 y2 => by omega⟩)⟩
  rw [ck_r_eq hv hr]
  have f20 : ∀ j, j ≠ 20 → N1' 0 j = N0' 0 j := fun j hj => by rw [hN1, ky_up_eq]; unfold upd; rw [if_neg hj]
  have hf : fn_F N0' M := by
    refine ⟨fun a a0 _ a1 a2 a3 a4 _ => by rw [hM, ky_up_ne a0, hL.1 a a0 a1 a2 a3 a4, hN1, ky_up_ne a0], fun j j0 j1 j2 j3 => ?_⟩
    rw [hM, ky_up_eq]
    unfold upd
    by_cases hj : j = 20
    · rw [if_pos hj, hj, hx3]
    · rw [if_neg hj, hL.2 j j1 j2 j3, f20 j hj]
  refine hpost M ((h0.fi hJ.fi).fn hf) ?_
  rw [hM, ky_up_eq]
  unfold upd
  rw [if_neg (by decide), hL.2 0 (by decide) (by decide) (by decide), f20 0 (by decide), hN0, ky_up_eq]
  unfold upd
  rw [if_pos rfl]
