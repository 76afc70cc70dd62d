/-! CLASS AND REFERENCE hold the same -/
/-- a tree as both keep it -/
def rl_T (N : Mm) (c : Nat) (ns : List Nd) (en : Nat → Nat) : Prop := 1 ≤ ns.length ∧ ns.length ≤ 41 ∧ (tr_nd ns 0).1 = c ∧ tr_sm ns ∧ (∀ n k, n < ns.length → k < ns.length → ((n ≤ k ∧ k < en n) ↔ tr_D ns n k)) ∧ (∀ n, n < ns.length → en n ≤ ns.length) ∧ (∀ k, k < ns.length → (tr_nd ns k).1 < dt_nc N) ∧
  ∀ k, 0 < k → k < ns.length → (tr_nd ns k).2.2.1 < dt_na N (tr_nd ns (tr_nd ns k).2.1).1 ∧ N 6 (tr_nd ns k).1 = nI (dt_ar N (tr_nd ns (tr_nd ns k).2.1).1 (tr_nd ns k).2.2.1) ∧ (tr_nd ns k).2.2.2 < 16
def rl_b (I N : Mm) (c : Nat) (ns : List Nd) (en : Nat → Nat) : Prop := N 0 21 = nI c ∧ I 0 6 = nI c ∧ c < dt_nc N ∧ N 0 30 = nI ns.length ∧ I 3 1 = nI ns.length ∧ rl_T N c ns en ∧ tc_n I ns ∧ tm_n N ns ∧ tm_e N ns en
def rl_a (I N : Mm) : Prop := (N 0 21 = -1 ∧ I 0 6 = -1 ∧ N 0 30 = 0 ∧ I 3 1 = 0) ∨ ∃ c ns en, rl_b I N c ns en
def rl_u (b : Nat) (I N : Mm) : Prop := (∀ r m, r < 4 → m < 16 → I (137 + 8 * r + 4) m = N 15 (16 * r + m) ∧ 0 ≤ (N 15 (16 * r + m)).toInt ∧ (N 15 (16 * r + m)).toInt ≤ (N 0 20).toInt ∧ (dt_nr N ≤ r → N 15 (16 * r + m) = 0)) ∧ I 0 4 = N 0 20 ∧ 0 ≤ (N 0 20).toInt ∧ (N 0 20).toInt ≤ b ∧ rl_y I N ∧ dt_y N ∧ I 0 5 = N 0 23 ∧ 0 ≤ (N 0 23).toInt ∧ I 0 8 = N 0 24 ∧ rl_a I N
def Rl (b : Nat) (I N : Mm) : Prop := dt_w N ∧ rl_s I N ∧ rl_u b I N
/-- only what is for counting has changed -/
def fi_F (I J : Mm) : Prop := (∀ a, (a < 3 ∨ a = 4 ∨ (8 ≤ a ∧ a < 131 ∧ (a - 8) % 3 = 0) ∨ 137 ≤ a) → J a = I a) ∧ J 3 1 = I 3 1
def fn_F (N J : Mm) : Prop := (∀ a, a ≠ 0 → a ≠ 18 → a ≠ 19 → a ≠ 20 → a ≠ 21 → a ≠ 22 → a ≠ 28 → J a = N a) ∧ ∀ j, j ≠ 0 → j ≠ 25 → j ≠ 37 → j ≠ 38 → J 0 j = N 0 j
theorem fi_F.rf {I : Mm} : fi_F I I := ⟨fun _ _ => rfl, rfl⟩
theorem fn_F.rf {N : Mm} : fn_F N N := ⟨fun _ _ _ _ _ _ _ _ => rfl, fun _ _ _ _ _ => rfl⟩
theorem fi_F.tr {I J L : Mm} (h1 : fi_F I J) (h2 : fi_F J L) : fi_F I L := ⟨fun a ha => (h2.1 a ha).trans (h1.1 a ha), h2.2.trans h1.2⟩
theorem fn_F.tr {N J L : Mm} (h1 : fn_F N J) (h2 : fn_F J L) : fn_F N L := ⟨fun a b c d e f g h => (h2.1 a b c d e f g h).trans (h1.1 a b c d e f g h), fun j a b c d => (h2.2 j a b c d).trans (h1.2 j a b c d)⟩
theorem cs_F.fi {I J : Mm} (h : cs_F I J) : fi_F I J := ⟨fun a ha => h a (by omega), by rw [h 3 (by omega)]⟩
theorem md_F.fn {N J : Mm} (h : md_F N J) : fn_F N J := ⟨fun a a0 _ a1 a2 a3 a4 _ => h.1 a a0 a1 a2 a3 a4, fun j _ h1 _ _ => h.2 j h1⟩
theorem md_G.fn {N J : Mm} (h : md_G N J) : fn_F N J := ⟨fun a a0 _ a1 a2 a3 a4 _ => h.1 a a0 a1 a2 a3 a4, fun j _ h1 h2 h3 => h.2 j h1 h2 h3⟩
theorem fn_F.code {N J : Mm} {v : Int32} (h : J = ky_up N 0 0 v) : fn_F N J := ⟨fun a a0 _ _ _ _ _ _ => by rw [h]; exact ky_up_ne a0, fun j h1 _ _ _ => by rw [h, ky_up_eq]; unfold upd; rw [if_neg h1]⟩
theorem fn_F.row {N J : Mm} (h : fn_F N J) {a : Nat} (h0 : a ≠ 0) (h1 : a < 18) : J a = N a := h.1 a h0 (by omega) (by omega) (by omega) (by omega) (by omega) (by omega)
section FNF
variable {N J : Mm}
theorem fn_F.w (h : fn_F N J) (hw : dt_w N) : dt_w J := by
  refine ⟨?_, ?_⟩
  · unfold dt_w1 dt_nr dt_pl dt_nm
    rw [h.2 1 (by decide) (by decide) (by decide) (by decide), h.row (a := 1) (by decide) (by decide), h.row (a := 2) (by decide) (by decide), h.row (a := 3) (by decide) (by decide), h.row (a := 4) (by decide) (by decide), h.row (a := 5) (by decide) (by decide)]
    exact hw.1
  · unfold dt_w2 dt_cl dt_nc dt_hr dt_hv dt_na dt_ar dt_av dt_nb dt_nr
    rw [h.2 1 (by decide) (by decide) (by decide) (by decide), h.2 7 (by decide) (by decide) (by decide) (by decide), h.row (a := 6) (by decide) (by decide), h.row (a := 7) (by decide) (by decide), h.row (a := 8) (by decide) (by decide), h.row (a := 9) (by decide) (by decide), h.row (a := 10) (by decide) (by decide), h.row (a := 11) (by decide) (by decide), h.row (a := 12) (by decide) (by decide), h.row (a := 13) (by decide) (by decide), h.row (a := 14) (by decide) (by decide)]
    exact hw.2
theorem fn_F.nr (h : fn_F N J) : dt_nr J = dt_nr N := by unfold dt_nr; rw [h.2 1 (by decide) (by decide) (by decide) (by decide)]
theorem fn_F.nc (h : fn_F N J) : dt_nc J = dt_nc N := by unfold dt_nc; rw [h.2 7 (by decide) (by decide) (by decide) (by decide)]
theorem fn_F.na (h : fn_F N J) : dt_na J = dt_na N := by funext c; unfold dt_na; rw [h.row (a := 8) (by decide) (by decide)]
theorem fn_F.ar (h : fn_F N J) : dt_ar J = dt_ar N := by funext c a; unfold dt_ar; rw [h.row (a := 9) (by decide) (by decide)]
theorem fn_F.nm (h : fn_F N J) : dt_nm J = dt_nm N := by funext c; unfold dt_nm; rw [h.row (a := 2) (by decide) (by decide)]
theorem fn_F.bE (h : fn_F N J) : dt_bE J = dt_bE N := by
  funext c at9 z
  unfold dt_bE dt_be dt_nb
  rw [h.row (a := 11) (by decide) (by decide), h.row (a := 12) (by decide) (by decide), h.row (a := 13) (by decide) (by decide), h.row (a := 14) (by decide) (by decide)]
theorem fn_F.s {I : Mm} (h : fn_F N J) (hs : rl_s I N) : rl_s I J := by
  unfold rl_s rl_r rl_c rl_1
  rw [h.nr, h.nc, h.na, h.nm, h.bE, h.2 1 (by decide) (by decide) (by decide) (by decide), h.2 7 (by decide) (by decide) (by decide) (by decide), h.row (a := 1) (by decide) (by decide), h.row (a := 2) (by decide) (by decide), h.row (a := 3) (by decide) (by decide), h.row (a := 4) (by decide) (by decide), h.row (a := 5) (by decide) (by decide), h.row (a := 6) (by decide) (by decide), h.row (a := 7) (by decide) (by decide), h.row (a := 8) (by decide) (by decide), h.row (a := 9) (by decide) (by decide), h.row (a := 10) (by decide) (by decide), h.row (a := 11) (by decide) (by decide)]
  exact hs
theorem fn_F.T (h : fn_F N J) : rl_T J = rl_T N := by
  funext c ns en
  unfold rl_T
  rw [h.nc, h.na, h.ar, h.row (a := 6) (by decide) (by decide)]
theorem fn_F.u {I : Mm} {b : Nat} (h : fn_F N J) (hu : rl_u b I N) : rl_u b I J := by
  unfold rl_u rl_a rl_b rl_y dt_y tm_n tm_e
  rw [h.T, h.nr, h.nc, h.na, h.ar, h.2 20 (by decide) (by decide) (by decide) (by decide), h.2 21 (by decide) (by decide) (by decide) (by decide), h.2 23 (by decide) (by decide) (by decide) (by decide), h.2 24 (by decide) (by decide) (by decide) (by decide), h.2 30 (by decide) (by decide) (by decide) (by decide), h.row (a := 6) (by decide) (by decide), h.row (a := 15) (by decide) (by decide), h.row (a := 16) (by decide) (by decide), h.row (a := 17) (by decide) (by decide), h.1 23 (by decide) (by decide) (by decide) (by decide) (by decide) (by decide) (by decide), h.1 24 (by decide) (by decide) (by decide) (by decide) (by decide) (by decide) (by decide), h.1 25 (by decide) (by decide) (by decide) (by decide) (by decide) (by decide) (by decide), h.1 26 (by decide) (by decide) (by decide) (by decide) (by decide) (by decide) (by decide), h.1 27 (by decide) (by decide) (by decide) (by decide) (by decide) (by decide) (by decide)]
  exact hu
end FNF
/-- the same, where cells 0 and 3 may have changed too -/
def fs_F (I J : Mm) : Prop := (∀ a, 137 ≤ a → J a = I a) ∧ J 0 1 = I 0 1 ∧ J 0 3 = I 0 3
theorem fs_F.s {I J N : Mm} (h : fs_F I J) (hr : rl_s I N) : rl_s J N := by
  obtain ⟨hr, hc⟩ := hr
  have q := h.1
  refine ⟨⟨by rw [h.2.1]; exact hr.1, fun r h9 => by rw [q _ (by omega)]; exact hr.2.1 r h9, fun r h9 => by rw [q _ (by omega)]; exact hr.2.2.1 r h9, fun r k h8 h9 => ?_⟩, by rw [h.2.2]; exact hc.1, fun c h9 => ?_, fun c h8 h9 => ?_⟩
  · rw [q _ (by omega), q _ (by omega), q _ (by omega)]
    exact hr.2.2.2 r k h8 h9
  · obtain ⟨h1, h2, h3, h4, h5, h6, h7⟩ := hc.2.1 c h9
    exact ⟨by rw [q _ (by omega)]; exact h1, by rw [q _ (by omega)]; exact h2, by rw [q _ (by omega)]; exact h3, by rw [q _ (by omega)]; exact h4, by rw [q _ (by omega)]; exact h5, fun a ha => by rw [q _ (by omega)]; exact h6 a ha, cl_S_keep (q _ (by omega)) (q _ (by omega)) h7⟩
  · obtain ⟨h1, h2, h3⟩ := hc.2.2 c h8 h9
    exact ⟨by rw [q _ (by omega)]; exact h1, by rw [q _ (by omega)]; exact h2, cl_S_keep (q _ (by omega)) (q _ (by omega)) h3⟩
theorem fi_F.s {I J N : Mm} (h : fi_F I J) (hr : rl_s I N) : rl_s J N := fs_F.s ⟨fun a ha => h.1 a (by omega), by rw [h.1 0 (by omega)], by rw [h.1 0 (by omega)]⟩ hr
theorem fi_F.u {I J N : Mm} {b : Nat} (h : fi_F I J) (hu : rl_u b I N) : rl_u b J N := by
  obtain ⟨h1, h2, h3, h4, h5, h6, h7, h8, h9, h10⟩ := hu
  refine ⟨fun r m hr hm => by rw [h.1 _ (by omega)]; exact h1 r m hr hm, by rw [h.1 0 (by omega)]; exact h2, h3, h4, fun r m hr hm hne => by rw [h.1 _ (by omega), h.1 _ (by omega), h.1 _ (by omega)]; exact h5 r m hr hm hne, h6, by rw [h.1 0 (by omega)]; exact h7, h8, by rw [h.1 0 (by omega)]; exact h9, ?_⟩
  rcases h10 with ⟨a1, a2, a3, a4⟩ | ⟨c, ns, en, a1, a2, a3, a4, a5, a6, a7, a8, a9⟩
  · exact Or.inl ⟨a1, by rw [h.1 0 (by omega)]; exact a2, a3, by rw [h.2]; exact a4⟩
  · refine Or.inr ⟨c, ns, en, a1, by rw [h.1 0 (by omega)]; exact a2, a3, a4, by rw [h.2]; exact a5, a6, fun k hk => ?_, a8, a9⟩
    have := a6.2.1
    rw [h.1 _ (by omega)]
    exact a7 k hk
theorem Rl.fi {I J N : Mm} {b : Nat} (h : Rl b I N) (hF : fi_F I J) : Rl b J N := ⟨h.1, hF.s h.2.1, hF.u h.2.2⟩
theorem Rl.fn {I N J : Mm} {b : Nat} (h : Rl b I N) (hF : fn_F N J) : Rl b I J := ⟨hF.w h.1, hF.s h.2.1, hF.u h.2.2⟩
theorem Rl.mono {I N : Mm} {b b' : Nat} (h : Rl b I N) (hb : b ≤ b') : Rl b' I N := by
  obtain ⟨hw, hs, h1, h2, h3, h4, h5⟩ := h
  exact ⟨hw, hs, h1, h2, h3, by omega, h5⟩
/-- heights for a round: the reference counts one ahead -/
theorem Rl.h {I N J : Mm} {b : Nat} (h : Rl b I N) (hb : b < 1000000) (h15 : J 15 = N 15) (h20 : (J 0 20).toInt = (N 0 20).toInt + 1) : rl_h I J := by
  obtain ⟨_, _, h1, h2, h3, h4, _⟩ := h
  unfold rl_h
  rw [h15, h20, h2]
  exact ⟨fun r m hr hm => ⟨(h1 r m hr hm).1, (h1 r m hr hm).2.1, (h1 r m hr hm).2.2.1⟩, rfl, h3, by omega⟩
