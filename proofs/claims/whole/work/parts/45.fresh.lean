/-! A FRESH START -/
def fr_c (I J : Mm) : Prop := (∀ a, a ≠ 0 → a ≠ 3 → (∀ r, r < 4 → a ≠ 137 + 8 * r + 4) → J a = I a) ∧ (∀ r m, r < 4 → m < 16 → J (137 + 8 * r + 4) m = 0) ∧ (∀ j, j ≠ 4 → j ≠ 5 → j ≠ 6 → J 0 j = I 0 j) ∧ J 0 4 = 0 ∧ J 0 5 = 0 ∧ J 0 6 = -1 ∧ J 3 1 = 0
def fr_m (N M : Mm) : Prop := (∀ a, a ≠ 0 → a ≠ 15 → a ≠ 16 → a ≠ 17 → M a = N a) ∧ (∀ k, k < 64 → M 15 k = 0) ∧ (∀ j, j ≠ 20 → j ≠ 21 → j ≠ 30 → M 0 j = N 0 j) ∧ M 0 20 = 0 ∧ M 0 21 = -1 ∧ M 0 30 = 0
/-- what a fresh start needs -/
def Rs (I N : Mm) : Prop := dt_w N ∧ rl_s I N ∧ (∀ r m, dt_nr N ≤ r → r < 4 → m < 16 → I (137 + 8 * r + 4) m = 0) ∧ I 0 8 = N 0 24
theorem fr_c.s {I J N : Mm} (h : fr_c I J) (hs : rl_s I N) : rl_s J N := by
  obtain ⟨hr, hc⟩ := hs
  have q : ∀ a, 137 ≤ a → (∀ r, r < 4 → a ≠ 137 + 8 * r + 4) → J a = I a := fun a ha hb => h.1 a (by omega) (by omega) hb
  have q9 : ∀ a, 169 ≤ a → J a = I a := fun a ha => h.1 a (by omega) (by omega) (fun r hr => by omega)
  refine ⟨⟨by rw [h.2.2.1 1 (by decide) (by decide) (by decide)]; exact hr.1, fun r h9 => by rw [q _ (by omega) (fun r' _ => by omega)]; exact hr.2.1 r h9, fun r h9 => by rw [q _ (by omega) (fun r' _ => by omega)]; exact hr.2.2.1 r h9, fun r k h8 h9 => ?_⟩, by rw [h.2.2.1 3 (by decide) (by decide) (by decide)]; exact hc.1, fun c h9 => ?_, fun c h8 h9 => ?_⟩
  · rw [q _ (by omega) (fun r' _ => by omega), q _ (by omega) (fun r' _ => by omega), q _ (by omega) (fun r' _ => by omega)]
    exact hr.2.2.2 r k h8 h9
  · obtain ⟨h1, h2, h3, h4, h5, h6, h7⟩ := hc.2.1 c h9
    exact ⟨by rw [q9 _ (by omega)]; exact h1, by rw [q9 _ (by omega)]; exact h2, by rw [q9 _ (by omega)]; exact h3, by rw [q9 _ (by omega)]; exact h4, by rw [q9 _ (by omega)]; exact h5, fun a ha => by rw [q9 _ (by omega)]; exact h6 a ha, cl_S_keep (q9 _ (by omega)) (q9 _ (by omega)) h7⟩
  · obtain ⟨h1, h2, h3⟩ := hc.2.2 c h8 h9
    exact ⟨by rw [q9 _ (by omega)]; exact h1, by rw [q9 _ (by omega)]; exact h2, cl_S_keep (q9 _ (by omega)) (q9 _ (by omega)) h3⟩
theorem Rs.go {I N J M M' : Mm} {b : Nat} (h : Rs I N) (hc : fr_c I J) (hm : fr_m N M) (m0 : ∀ a, a ≠ 0 → M' a = M a) (m23 : M' 0 23 = 0) (mo : ∀ j, j ≠ 23 → M' 0 j = M 0 j) : Rl b J M' := by
  obtain ⟨hw, hs, hz, h8⟩ := h
  have hf : fz_F N M' := ⟨fun a a0 a1 => by rw [m0 a a0]; exact hm.1 a a0 (by omega) (by omega) (by omega), by rw [mo 1 (by decide)]; exact hm.2.2.1 1 (by decide) (by decide) (by decide), by rw [mo 7 (by decide)]; exact hm.2.2.1 7 (by decide) (by decide) (by decide)⟩
  have z15 : ∀ r m, r < 4 → m < 16 → M' 15 (16 * r + m) = 0 := fun r m hr hm9 => by rw [m0 15 (by decide)]; exact hm.2.1 _ (by omega)
  have hr4 := (hf.w hw).1.2.1
  have e20 : M' 0 20 = 0 := by rw [mo 20 (by decide)]; exact hm.2.2.2.1
  refine ⟨hf.w hw, hf.s (hc.s hs), fun r m hr hm9 => ?_, by rw [e20]; exact hc.2.2.2.1, by rw [e20, in_0]; exact Int.le_refl _, by rw [e20, in_0]; omega, fun r m hr hm9 hne => absurd (z15 r m (by omega) hm9) hne, fun r m hr hm9 hne => absurd (z15 r m (by omega) hm9) hne, by rw [m23]; exact hc.2.2.2.2.1, by rw [m23, in_0]; exact Int.le_refl _, ?_, Or.inl ⟨by rw [mo 21 (by decide)]; exact hm.2.2.2.2.1, hc.2.2.2.2.2.1, by rw [mo 30 (by decide)]; exact hm.2.2.2.2.2, hc.2.2.2.2.2.2⟩⟩
  · rw [z15 r m hr hm9, hc.2.1 r m hr hm9, e20, in_0]
    exact ⟨rfl, Int.le_refl _, Int.le_refl _, fun _ => rfl⟩
  · rw [hc.2.2.1 8 (by decide) (by decide) (by decide), mo 24 (by decide), hm.2.2.1 24 (by decide) (by decide) (by decide)]
    exact h8
theorem Rl.Rs {I N : Mm} {b : Nat} (h : Rl b I N) : Rs I N := by
  obtain ⟨hw, hs, u1, _, _, _, _, _, _, _, u9, _⟩ := h
  exact ⟨hw, hs, fun r m h1 h2 h3 => by rw [(u1 r m h2 h3).1]; exact (u1 r m h2 h3).2.2.2 h1, u9⟩
theorem p_forget {ad : Nat → Nat} {r : Nat} (hr : r < 4) {I : Mm} {post : Mm → Prop} (hk : ∀ J : Mm, (∀ a, a ≠ 137 + 8 * r + 4 → J a = I a) → (∀ m, m < 16 → J (137 + 8 * r + 4) m = 0) → post J) : w_X4_forgetStates (cl_Y ad) I (137 + 8 * r) post := by
  have h16 : (16 : Int32).toInt = 16 := by decide
  obtain ⟨a4, b4⟩ := cy_krh (ad := ad) (r := r) (j := 4) hr (by decide) (by decide)
  have loop : ∀ (t m : Nat), m + t = 16 → ∀ J : Mm, (∀ a, a ≠ 137 + 8 * r + 4 → J a = I a) → (∀ x, x < m → J (137 + 8 * r + 4) x = 0) → w_X4_forgetStates_L2 (cl_Y ad) post (fun J => post J) (t + 1) (137 + 8 * r) (nI m) J := by
    intro t
    induction t with
    | zero =>
      intro m hm J hJ h0
      refine ⟨fun _ => hk J hJ (by rw [← show m = 16 by omega]; exact h0), fun h => ?_⟩
      rw [in_le, in_n (by omega)] at h
      omega
    | succ t ih =>
      intro m hm J hJ h0
      refine ⟨fun h => ?_, fun _ => ⟨cy_kr hr, ?_⟩⟩
      · rw [in_le, in_n (by omega)] at h
        omega
      · rw [cy_rr hr (by decide) (by decide), show 5 - 1 = 4 from rfl, b4, in_c (by omega)]
        refine ⟨a4, vp_in_nI (by omega) (by decide), fun L hL x hx => ?_⟩
        rw [hx, in_s]
        refine ih (m + 1) (by omega) L (fun a ha => by rw [hL, ky_up_ne ha]; exact hJ a ha) (fun y hy => ?_)
        rw [hL, ky_up_eq]
        unfold upd
        by_cases e : y = m
        · rw [if_pos e]
        · rw [if_neg e]; exact h0 y (by omega)
  exact ⟨16 + 1, loop 16 0 (by decide) I (fun _ _ => rfl) (fun x h9 => absurd h9 (Nat.not_lt_zero x))⟩
theorem p_fresh {ad : Nat → Nat} {I : Mm} {n : Nat} (hn : n ≤ 4) (h1 : I 0 1 = nI n) (hz : ∀ r m, n ≤ r → r < 4 → m < 16 → I (137 + 8 * r + 4) m = 0) {post : Mm → Prop} (hk : ∀ J : Mm, fr_c I J → post J) : w_X6_startAfresh (cl_Y ad) I 0 post := by
  have loop : ∀ (t r : Nat), r + t = n → ∀ J : Mm, (∀ a, (∀ r', r' < 4 → a ≠ 137 + 8 * r' + 4) → J a = I a) → (∀ r' m, r' < r → m < 16 → J (137 + 8 * r' + 4) m = 0) → (∀ r', r ≤ r' → r' < 4 → J (137 + 8 * r' + 4) = I (137 + 8 * r' + 4)) → w_X6_startAfresh_L2 (cl_Y ad) post (fun k9 I8 => (ky_is (cl_Y ad) k9 6 ∧ (∀ I11 : Mm, I11 = ky_up I8 k9 4 (0 : Int32) → (∀ I12 : Mm, I12 = ky_up I11 k9 6 (-1 : Int32) → (ky_is (cl_Y ad) (ky_rp (cl_Y ad) k9 7) 5 ∧ (∀ I14 : Mm, I14 = ky_up I12 (ky_rp (cl_Y ad) k9 7) 1 (0 : Int32) → (∀ I15 : Mm, I15 = ky_up I14 k9 5 (0 : Int32) → post I15))))))) (t + 1) 0 (nI r) J := by
    intro t
    induction t with
    | zero =>
      intro r hr J hJ h0 hrest
      refine ⟨cy_0, ?_⟩
      rw [hJ 0 (fun r' _ => by omega), h1]
      refine ⟨fun _ => ⟨cy_0, fun J1 j1 J2 j2 => ⟨cy_3, fun J3 j3 J4 j4 => hk J4 ?_⟩⟩, fun h => ?_⟩
      · have j3 : J3 = ky_up J2 3 1 0 := j3
        have c0 : J4 0 = upd (upd (upd (J 0) 4 0) 6 (-1)) 5 0 := by rw [j4, ky_up_eq, j3, ky_up_ne (by decide), j2, ky_up_eq, j1, ky_up_eq]
        have ca : ∀ a, a ≠ 0 → a ≠ 3 → J4 a = J a := fun a a0 a3 => by rw [j4, ky_up_ne a0, j3, ky_up_ne a3, j2, ky_up_ne a0, j1, ky_up_ne a0]
        refine ⟨fun a a0 a3 a4 => by rw [ca a a0 a3]; exact hJ a a4, fun r' m hr' hm => ?_, fun j e4 e5 e6 => ?_, ?_, ?_, ?_, ?_⟩
        · rw [ca _ (by omega) (by omega)]
          by_cases e : r' < r
          · exact h0 r' m e hm
          · rw [hrest r' (by omega) hr']
            exact hz r' m (by omega) hr' hm
        · rw [c0]; unfold upd; rw [if_neg e5, if_neg e6, if_neg e4, hJ 0 (fun r' _ => by omega)]
        · rw [c0]; unfold upd; rw [if_neg (by decide), if_neg (by decide), if_pos rfl]
        · rw [c0]; unfold upd; rw [if_pos rfl]
        · rw [c0]; unfold upd; rw [if_neg (by decide), if_pos rfl]
        · rw [j4, ky_up_ne (by decide), j3, ky_up_eq]; unfold upd; rw [if_pos rfl]
      · rw [in_le, in_n (by omega), in_n (by omega)] at h
        omega
    | succ t ih =>
      intro r hr J hJ h0 hrest
      refine ⟨cy_0, ?_⟩
      rw [hJ 0 (fun r' _ => by omega), h1]
      refine ⟨fun h => ?_, fun _ => ⟨cy_1, vp_in_nI (N := 4) (by omega) (by decide), ?_⟩⟩
      · rw [in_le, in_n (by omega), in_n (by omega)] at h
        omega
      · rw [cy_p0, in_c (by omega), cy_rel]
        refine ⟨cy_kr (by omega), p_forget (by omega) (fun L hL hL0 x hx => ?_)⟩
        rw [hx, in_s]
        refine ih (r + 1) (by omega) L (fun a ha => by rw [hL a (ha r (by omega))]; exact hJ a ha) (fun r' m hr' hm => ?_) (fun r' h1 h2 => by rw [hL _ (by omega)]; exact hrest r' (by omega) h2)
        by_cases e : r' = r
        · rw [e]; exact hL0 m hm
        · rw [hL _ (by omega)]; exact h0 r' m (by omega) hm
  exact ⟨n + 1, loop n 0 (by omega) I (fun _ _ => rfl) (fun r' m h9 => absurd h9 (Nat.not_lt_zero r')) (fun r' _ _ => rfl)⟩
theorem m_fresh {ad : Nat → Nat} {N : Mm} {post : Mm → Prop} (hk : ∀ M : Mm, fr_m N M → post M) : w_X7_freshStart (md_Y ad) N 0 post := by
  have h64 : (64 : Int32).toInt = 64 := by decide
  have loop : ∀ (t k : Nat), k + t = 64 → ∀ M : Mm, (∀ a, a ≠ 15 → a ≠ 16 → a ≠ 17 → M a = N a) → (∀ x, x < k → M 15 x = 0) → w_X7_freshStart_L2 (md_Y ad) post (fun k16 I15 => (ky_is (md_Y ad) k16 7 ∧ (∀ I18 : Mm, I18 = ky_up I15 k16 20 (0 : Int32) → (∀ I19 : Mm, I19 = ky_up I18 k16 21 (-1 : Int32) → (∀ I20 : Mm, I20 = ky_up I19 k16 30 (0 : Int32) → post I20))))) (t + 1) 0 (nI k) M := by
    intro t
    induction t with
    | zero =>
      intro k hk9 M hM h0
      refine ⟨fun _ => ⟨md_k0, fun M1 m1 M2 m2 M3 m3 => hk M3 ?_⟩, fun h => ?_⟩
      · have c0 : M3 0 = upd (upd (upd (M 0) 20 0) 21 (-1)) 30 0 := by rw [m3, ky_up_eq, m2, ky_up_eq, m1, ky_up_eq]
        have ca : ∀ a, a ≠ 0 → M3 a = M a := fun a a0 => by rw [m3, ky_up_ne a0, m2, ky_up_ne a0, m1, ky_up_ne a0]
        refine ⟨fun a a0 a1 a2 a3 => by rw [ca a a0]; exact hM a a1 a2 a3, fun x hx => by rw [ca 15 (by decide)]; exact h0 x (by omega), fun j e1 e2 e3 => ?_, ?_, ?_, ?_⟩
        · rw [c0]; unfold upd; rw [if_neg e3, if_neg e2, if_neg e1, hM 0 (by decide) (by decide) (by decide)]
        · rw [c0]; unfold upd; rw [if_neg (by decide), if_neg (by decide), if_pos rfl]
        · rw [c0]; unfold upd; rw [if_neg (by decide), if_pos rfl]
        · rw [c0]; unfold upd; rw [if_pos rfl]
      · rw [in_le, in_n (by omega)] at h
        omega
    | succ t ih =>
      intro k hk9 M hM h0
      refine ⟨fun h => ?_, fun _ => ⟨md_k0, md_k15, vp_in_nI (N := 64) (by omega) (by decide), fun M1 m1 => ⟨md_k16, vp_in_nI (N := 64) (by omega) (by decide), fun M2 m2 => ⟨md_k17, by rw [in_mul2]; exact vp_in_nI (N := 128) (by omega) (by decide), fun M3 m3 => ⟨by rw [in_mul2, in_s]; exact vp_in_nI (N := 128) (by omega) (by decide), fun M4 m4 x hx => ?_⟩⟩⟩⟩⟩
      · rw [in_le, in_n (by omega)] at h
        omega
      · rw [hx, in_s]
        rw [md_r17, in_c (by omega)] at m1
        rw [md_r18] at m2
        rw [md_r19] at m3 m4
        refine ih (k + 1) (by omega) M4 (fun a a1 a2 a3 => by rw [m4, ky_up_ne a3, m3, ky_up_ne a3, m2, ky_up_ne a2, m1, ky_up_ne a1]; exact hM a a1 a2 a3) (fun y hy => ?_)
        rw [m4, ky_up_ne (by decide), m3, ky_up_ne (by decide), m2, ky_up_ne (by decide), m1, ky_up_eq]
        unfold upd
        by_cases e : y = k
        · rw [if_pos e]
        · rw [if_neg e]; exact h0 y (by omega)
  exact ⟨64 + 1, loop 64 0 (by decide) N (fun _ _ _ _ => rfl) (fun x h9 => absurd h9 (Nat.not_lt_zero x))⟩
/-- made: a fresh start, and no verdict -/
theorem m_made {ad : Nat → Nat} {I N J : Mm} (h : Rs I N) (hc : fr_c I J) {b : Nat} {v : Int32} {post : Int32 → Mm → Prop} (hk : ∀ M : Mm, Rl b J M → M 0 0 = N 0 0 → post v M) : w_X7_made (md_Y ad) N 0 v post := by
  refine ⟨md_k0, m_fresh (fun M hM M' hM' => hk M' (h.go hc hM (fun a a0 => by rw [hM']; exact ky_up_ne a0) (by rw [hM', ky_up_eq]; unfold upd; rw [if_pos rfl]) (fun j hj => by rw [hM', ky_up_eq]; unfold upd; rw [if_neg hj])) ?_)⟩
  rw [hM', ky_up_eq]
  unfold upd
  rw [if_neg (by decide)]
  exact hM.2.2.1 0 (by decide) (by decide) (by decide)
theorem Rs.fresh {ad : Nat → Nat} {I N : Mm} (h : Rs I N) {post : Mm → Prop} (hk : ∀ J : Mm, fr_c I J → post J) : w_X6_startAfresh (cl_Y ad) I 0 post := p_fresh h.1.1.2.1 (by rw [h.2.1.1.1]; exact h.1.1.1) h.2.2.1 hk
theorem Rs.fn {I N J : Mm} (h : Rs I N) (hF : fn_F N J) : Rs I J := ⟨hF.w h.1, hF.s h.2.1, by rw [hF.nr]; exact h.2.2.1, by rw [hF.2 24 (by decide) (by decide) (by decide) (by decide)]; exact h.2.2.2⟩
