/-! RELATIONS AND MARKS -/
theorem m_in {Y : Ly} {I : Mm} {v lo hi : Int32} {post : Int32 → Mm → Prop} (h1 : lo.toInt ≤ v.toInt → v.toInt ≤ hi.toInt → post 1 I) (h0 : ¬ (lo.toInt ≤ v.toInt ∧ v.toInt ≤ hi.toInt) → post 0 I) : w_X7_in Y I v lo hi post := by
  refine ⟨fun h => h0 ?_, fun h => ⟨fun h9 => h0 ?_, fun h9 => h1 ?_ ?_⟩⟩
  · rw [in_lt] at h; omega
  · rw [in_lt] at h h9; omega
  · rw [in_lt] at h; omega
  · rw [in_lt] at h9; omega
def mk_re (N : Mm) (v : Int32) : Prop := ∃ r, r < dt_nr N ∧ v = nI r
theorem mk_re_iff {N : Mm} (hw : dt_w N) {v : Int32} : mk_re N v ↔ 0 ≤ v.toInt ∧ v.toInt < dt_nr N := by
  have hr4 := hw.1.2.1
  constructor
  · rintro ⟨r, hr, rfl⟩
    rw [in_n (by omega)]
    omega
  · rintro ⟨h1, h2⟩
    obtain ⟨r, hr, e⟩ := in_of h1 h2
    exact ⟨r, hr, e⟩
theorem in_neg1 : (-1 : Int32).toInt = -1 := by decide
theorem in_k : (1000 : Int32).toInt = 1000 := by decide
theorem in_mk : (-1000 : Int32).toInt = -1000 := by decide
theorem in_2 : (2 : Int32).toInt = 2 := by decide
theorem in_4 : (4 : Int32).toInt = 4 := by decide
theorem in_n1 {n : Nat} (h : n < 2147483648) : (nI n - 1).toInt = n - 1 := by
  rw [in_sub (by rw [in_n h, in_1]; omega) (by rw [in_n h, in_1]; omega), in_n h, in_1]
theorem m_isRelation {ad : Nat → Nat} {N : Mm} (hw : dt_w N) {v : Int32} {post : Int32 → Mm → Prop} (h1 : ∀ r, r < dt_nr N → v = nI r → post 1 N) (h0 : ¬ mk_re N v → post 0 N) : w_X7_isRelation (md_Y ad) N 0 v post := by
  have hr4 := hw.1.2.1
  refine ⟨md_k0, m_in (fun a1 a2 => ⟨Or.inr rfl, ?_⟩) (fun a1 => ⟨Or.inl rfl, h0 (fun h9 => a1 ?_)⟩)⟩
  · rw [hw.1.1, in_n1 (by omega)] at a2
    rw [in_0] at a1
    obtain ⟨r, hr, e⟩ := (mk_re_iff hw).mpr ⟨a1, by omega⟩
    exact h1 r hr e
  · rw [mk_re_iff hw] at h9
    rw [hw.1.1, in_n1 (by omega), in_0]
    omega
theorem p_isRelation {ad : Nat → Nat} {N I : Mm} (hw : dt_w N) (hr : rl_r I N) {v : Int32} {post : Int32 → Mm → Prop} (h1 : ∀ r, r < dt_nr N → v = nI r → post 1 I) (h0 : ¬ mk_re N v → post 0 I) : w_X6_isRelation (cl_Y ad) I 0 v post := by
  have hr4 := hw.1.2.1
  refine ⟨fun h => h0 (fun h9 => ?_), fun h => ⟨cy_0, ?_⟩⟩
  · rw [mk_re_iff hw] at h9
    rw [in_lt, in_0] at h
    omega
  · rw [hr.1, hw.1.1]
    rw [in_lt, in_0] at h
    refine ⟨fun h9 => h0 (fun h8 => ?_), fun h9 => ?_⟩
    · rw [mk_re_iff hw] at h8
      rw [in_le, in_n (by omega)] at h9
      omega
    · rw [in_le, in_n (by omega)] at h9
      obtain ⟨r, hr, e⟩ := (mk_re_iff (v := v) hw).mpr ⟨by omega, by omega⟩
      exact h1 r hr e
/-- a corner -/
def mk_co (N : Mm) (r : Nat) (v : Int32) : Prop := v = 2 ∨ (0 ≤ v.toInt ∧ v.toInt < dt_pl N r)
theorem mk_co_n {N : Mm} {r : Nat} {v : Int32} (hp : dt_pl N r = 1 ∨ dt_pl N r = 2) : mk_co N r v → ∃ u, v = nI u ∧ (u = 2 ∨ u < dt_pl N r) := by
  rintro (h | ⟨h1, h2⟩)
  · exact ⟨2, h, Or.inl rfl⟩
  · obtain ⟨u, hu, e⟩ := in_of h1 h2
    exact ⟨u, e, Or.inr hu⟩
/-- what may be a mark -/
def mk_ok (N : Mm) (r : Nat) (u v c : Int32) : Prop := mk_co N r u ∧ mk_co N r v ∧ u ≠ v ∧ -1000 ≤ c.toInt ∧ c.toInt ≤ 1000
theorem p_isCorner {ad : Nat → Nat} {N I : Mm} (hw : dt_w N) (hrl : rl_r I N) {r : Nat} (hr : r < dt_nr N) {v : Int32} {post : Int32 → Mm → Prop} (h1 : mk_co N r v → post 1 I) (h0 : ¬ mk_co N r v → post 0 I) : w_X4_isCorner (cl_Y ad) I (137 + 8 * r) v post := by
  have hr4 := hw.1.2.1
  obtain ⟨p1, p2⟩ := hw.1.2.2.1 r hr
  refine ⟨fun h => h1 (Or.inl h), fun h => ⟨fun h9 => h0 ?_, fun h9 => ⟨cy_kr (by omega), ?_⟩⟩⟩
  · rintro (h8 | ⟨h8, _⟩)
    · exact h h8
    · rw [in_lt, in_0] at h9; omega
  · rw [hrl.2.1 r hr, p1]
    rw [in_lt, in_0] at h9
    refine ⟨fun h7 => h0 ?_, fun h7 => h1 (Or.inr ⟨by omega, ?_⟩)⟩
    · rintro (h8 | ⟨_, h8⟩)
      · exact h h8
      · rw [in_le, in_n (by omega)] at h7; omega
    · rw [in_le, in_n (by omega)] at h7; omega
theorem p_areTwoCorners {ad : Nat → Nat} {N I : Mm} (hw : dt_w N) (hrl : rl_r I N) {r : Nat} (hr : r < dt_nr N) {u v : Int32} {post : Int32 → Mm → Prop} (h1 : mk_co N r u → mk_co N r v → u ≠ v → post 1 I) (h0 : ¬ (mk_co N r u ∧ mk_co N r v ∧ u ≠ v) → post 0 I) : w_X4_areTwoCorners (cl_Y ad) I (137 + 8 * r) u v post := by
  have hr4 := hw.1.2.1
  refine ⟨cy_kr (by omega), p_isCorner hw hrl hr (fun a1 => ⟨fun h => absurd h (by decide), fun _ => p_isCorner hw hrl hr (fun a2 => ⟨fun h => absurd h (by decide), fun _ => ⟨fun h => h0 (fun h9 => h9.2.2 h), fun h => h1 a1 a2 h⟩⟩) (fun a2 => ⟨fun _ => h0 (fun h9 => a2 h9.2.1), fun h => absurd rfl h⟩)⟩) (fun a1 => ⟨fun _ => h0 (fun h9 => a1 h9.1), fun h => absurd rfl h⟩)⟩
theorem p_isLimit {Y : Ly} {I : Mm} {c : Int32} {post : Int32 → Mm → Prop} (h1 : -1000 ≤ c.toInt → c.toInt ≤ 1000 → post 1 I) (h0 : ¬ (-1000 ≤ c.toInt ∧ c.toInt ≤ 1000) → post 0 I) : w_X6_isLimit Y I c post := by
  refine ⟨fun h => h0 ?_, fun h => ⟨fun h9 => h0 ?_, fun h9 => h1 ?_ ?_⟩⟩
  · rw [in_lt, in_mk] at h; omega
  · rw [in_lt, in_k] at h9; omega
  · rw [in_lt, in_mk] at h; omega
  · rw [in_lt, in_k] at h9; omega
theorem p_canMark {ad : Nat → Nat} {N I : Mm} (hw : dt_w N) (hrl : rl_r I N) {r : Nat} (hr : r < dt_nr N) {u v c : Int32} {post : Int32 → Mm → Prop} (h1 : mk_ok N r u v c → post 1 I) (h0 : ¬ mk_ok N r u v c → post 0 I) : w_X4_canMark (cl_Y ad) I (137 + 8 * r) u v c post := by
  have hr4 := hw.1.2.1
  refine ⟨cy_kr (by omega), p_areTwoCorners hw hrl hr (fun a1 a2 a3 => ⟨fun h => absurd h (by decide), fun _ => p_isLimit (fun b1 b2 => ⟨fun h => absurd h (by decide), fun _ => h1 ⟨a1, a2, a3, b1, b2⟩⟩) (fun b1 => ⟨fun _ => h0 (fun h9 => b1 h9.2.2.2), fun h => absurd rfl h⟩)⟩) (fun a1 => ⟨fun _ => h0 (fun h9 => a1 ⟨h9.1, h9.2.1, h9.2.2.1⟩), fun h => absurd rfl h⟩)⟩
theorem m_isPlace {ad : Nat → Nat} {N : Mm} (hw : dt_w N) {r : Nat} (hr : r < dt_nr N) {v : Int32} {post : Int32 → Mm → Prop} (h1 : mk_co N r v → post 1 N) (h0 : ¬ mk_co N r v → post 0 N) : w_X7_isPlace (md_Y ad) N 0 (nI r) v post := by
  have hr4 := hw.1.2.1
  obtain ⟨p1, p2⟩ := hw.1.2.2.1 r hr
  refine ⟨fun h => h1 (Or.inl h), fun h => ⟨md_k0, md_k1, vp_in_nI (N := 4) (by omega) (by decide), ?_⟩⟩
  rw [md_r2, in_c (by omega), p1]
  refine m_in (fun a1 a2 => ⟨fun h9 => absurd h9 (by decide), fun _ => h1 (Or.inr ⟨?_, ?_⟩)⟩) (fun a1 => ⟨fun _ => h0 (fun h9 => ?_), fun h9 => absurd rfl h9⟩)
  · rw [in_0] at a1; exact a1
  · rw [in_n1 (by omega)] at a2; omega
  · rcases h9 with h9 | h9
    · exact h h9
    · rw [in_n1 (by omega), in_0] at a1; omega
/-- the mark is there -/
def mk_h (N : Mm) (r : Nat) (u v c : Int32) (n : Nat) : Prop := ∃ k, k < n ∧ N 3 (4 * r + k) = u ∧ N 4 (4 * r + k) = v ∧ N 5 (4 * r + k) = c
theorem p_hasMark {ad : Nat → Nat} {N I : Mm} (hw : dt_w N) (hrl : rl_r I N) {r : Nat} (hr : r < dt_nr N) {u v c : Int32} {post : Int32 → Mm → Prop} (h1 : mk_h N r u v c (dt_nm N r) → post 1 I) (h0 : ¬ mk_h N r u v c (dt_nm N r) → post 0 I) : w_X4_hasMark (cl_Y ad) I (137 + 8 * r) u v c post := by
  have hr4 := hw.1.2.1
  obtain ⟨n1, n2, _⟩ := hw.1.2.2.2.1 r (by omega)
  obtain ⟨a1, b1⟩ := cy_krm (ad := ad) (r := r) (j := 1) (by omega) (by decide) (by decide)
  obtain ⟨a2, b2⟩ := cy_krm (ad := ad) (r := r) (j := 2) (by omega) (by decide) (by decide)
  obtain ⟨a3, b3⟩ := cy_krm (ad := ad) (r := r) (j := 3) (by omega) (by decide) (by decide)
  have loop : ∀ (t k : Nat), k + t = dt_nm N r → ¬ mk_h N r u v c k → w_X4_hasMark_L3 (cl_Y ad) post (fun I => post 1 I) (fun I => post 0 I) (t + 1) (137 + 8 * r) u v c (nI k) I := by
    intro t
    induction t with
    | zero =>
      intro k hk hno
      refine ⟨cy_kr (by omega), ?_⟩
      rw [hrl.2.2.1 r (by omega), n1]
      refine ⟨fun _ => h0 (by rw [← show k = dt_nm N r by omega]; exact hno), fun h => ?_⟩
      rw [in_le, in_n (by omega), in_n (by omega)] at h
      omega
    | succ t ih =>
      intro k hk hno
      obtain ⟨i1, i2, i3⟩ := hrl.2.2.2 r k hr (by omega)
      have next : ¬ (N 3 (4 * r + k) = u ∧ N 4 (4 * r + k) = v ∧ N 5 (4 * r + k) = c) → ∀ x, x = nI k + 1 → w_X4_hasMark_L3 (cl_Y ad) post (fun I => post 1 I) (fun I => post 0 I) (t + 1) (137 + 8 * r) u v c x I := fun hn x hx => by
        rw [hx, in_s]
        refine ih (k + 1) (by omega) (fun ⟨k', k1, k2⟩ => ?_)
        by_cases e : k' = k
        · rw [e] at k2; exact hn k2
        · exact hno ⟨k', by omega, k2⟩
      refine ⟨cy_kr (by omega), ?_⟩
      rw [hrl.2.2.1 r (by omega), n1, cy_rr (by omega) (by decide) (by decide), cy_rr (by omega) (by decide) (by decide), cy_rr (by omega) (by decide) (by decide), show 2 - 1 = 1 from rfl, show 3 - 1 = 2 from rfl, show 4 - 1 = 3 from rfl, b1, b2, b3, in_c (by omega), i1, i2, i3]
      refine ⟨fun h => ?_, fun _ => ⟨a1, vp_in_nI (by omega) (by decide), fun h => next (fun h9 => h h9.1), fun g1 => ⟨a2, vp_in_nI (by omega) (by decide), fun h => next (fun h9 => h h9.2.1), fun g2 => ⟨a3, vp_in_nI (by omega) (by decide), fun h => next (fun h9 => h h9.2.2), fun g3 => h1 ⟨k, by omega, g1, g2, g3⟩⟩⟩⟩⟩
      rw [in_le, in_n (by omega), in_n (by omega)] at h
      omega
  exact ⟨dt_nm N r + 1, loop _ 0 (by omega) (fun ⟨k, h9, _⟩ => absurd h9 (Nat.not_lt_zero k))⟩
theorem m_isMark {ad : Nat → Nat} {N : Mm} (hw : dt_w N) {r : Nat} (hr : r < dt_nr N) {u v c : Int32} {post : Int32 → Mm → Prop} (h1 : mk_h N r u v c (dt_nm N r) → post 1 N) (h0 : ¬ mk_h N r u v c (dt_nm N r) → post 0 N) : w_X7_isMark (md_Y ad) N 0 (nI r) u v c post := by
  have hr4 := hw.1.2.1
  obtain ⟨n1, n2, _⟩ := hw.1.2.2.2.1 r (by omega)
  have loop : ∀ (t k : Nat), k + t = dt_nm N r → ¬ mk_h N r u v c k → w_X7_isMark_L5 (md_Y ad) post (fun I => post 1 I) (fun I => post 0 I) (t + 1) 0 (nI r) u v c (nI (4 * r + k)) N := by
    intro t
    induction t with
    | zero =>
      intro k hk hno
      refine ⟨md_k0, md_k2, vp_in_nI (N := 4) (by omega) (by decide), ?_⟩
      rw [md_r3, in_c (by omega), n1, in_mul4, nI_add]
      refine ⟨fun _ => h0 (by rw [← show k = dt_nm N r by omega]; exact hno), fun h => ?_⟩
      rw [in_le, in_n (by omega), in_n (by omega)] at h
      omega
    | succ t ih =>
      intro k hk hno
      have next : ¬ (N 3 (4 * r + k) = u ∧ N 4 (4 * r + k) = v ∧ N 5 (4 * r + k) = c) → ∀ x, x = nI (4 * r + k) + 1 → w_X7_isMark_L5 (md_Y ad) post (fun I => post 1 I) (fun I => post 0 I) (t + 1) 0 (nI r) u v c x N := fun hn x hx => by
        rw [hx, in_s, Nat.add_assoc]
        refine ih (k + 1) (by omega) (fun ⟨k', k1, k2⟩ => ?_)
        by_cases e : k' = k
        · rw [e] at k2; exact hn k2
        · exact hno ⟨k', by omega, k2⟩
      refine ⟨md_k0, md_k2, vp_in_nI (N := 4) (by omega) (by decide), ?_⟩
      rw [md_r3, in_c (by omega), n1, in_mul4, nI_add, md_r4, md_r5, md_r6, in_c (by omega)]
      refine ⟨fun h => ?_, fun _ => ⟨md_k3, vp_in_nI (N := 16) (by omega) (by decide), fun h => next (fun h9 => h h9.1), fun g1 => ⟨md_k4, vp_in_nI (N := 16) (by omega) (by decide), fun h => next (fun h9 => h h9.2.1), fun g2 => ⟨md_k5, vp_in_nI (N := 16) (by omega) (by decide), fun h => next (fun h9 => h h9.2.2), fun g3 => h1 ⟨k, by omega, g1, g2, g3⟩⟩⟩⟩⟩
      rw [in_le, in_n (by omega), in_n (by omega)] at h
      omega
  intro x hx
  rw [hx, in_mul4]
  exact ⟨dt_nm N r + 1, loop _ 0 (by omega) (fun ⟨k, h9, _⟩ => absurd h9 (Nat.not_lt_zero k))⟩
/-- one mark more, in both -/
def am_c (I J : Mm) (r k : Nat) (u v c : Int32) : Prop := J (137 + 8 * r) = upd (I (137 + 8 * r)) 1 (nI (k + 1)) ∧ J (137 + 8 * r + 1) = upd (I (137 + 8 * r + 1)) k u ∧ J (137 + 8 * r + 2) = upd (I (137 + 8 * r + 2)) k v ∧ J (137 + 8 * r + 3) = upd (I (137 + 8 * r + 3)) k c ∧ ∀ a, a ≠ 137 + 8 * r → a ≠ 137 + 8 * r + 1 → a ≠ 137 + 8 * r + 2 → a ≠ 137 + 8 * r + 3 → J a = I a
def am_m (N M : Mm) (r k : Nat) (u v c : Int32) : Prop := M 2 = upd (N 2) r (nI (k + 1)) ∧ M 3 = upd (N 3) (4 * r + k) u ∧ M 4 = upd (N 4) (4 * r + k) v ∧ M 5 = upd (N 5) (4 * r + k) c ∧ ∀ a, a ≠ 2 → a ≠ 3 → a ≠ 4 → a ≠ 5 → M a = N a
theorem p_addMark {ad : Nat → Nat} {N I : Mm} (hw : dt_w N) (hrl : rl_r I N) {r : Nat} (hr : r < dt_nr N) (h4 : dt_nm N r < 4) {u v c : Int32} {post : Mm → Prop} (hk : ∀ J, am_c I J r (dt_nm N r) u v c → post J) : w_X4_addMark (cl_Y ad) I (137 + 8 * r) u v c post := by
  have hr4 := hw.1.2.1
  obtain ⟨n1, _, _⟩ := hw.1.2.2.2.1 r (by omega)
  obtain ⟨a1, b1⟩ := cy_krm (ad := ad) (r := r) (j := 1) (by omega) (by decide) (by decide)
  obtain ⟨a2, b2⟩ := cy_krm (ad := ad) (r := r) (j := 2) (by omega) (by decide) (by decide)
  obtain ⟨a3, b3⟩ := cy_krm (ad := ad) (r := r) (j := 3) (by omega) (by decide) (by decide)
  have e1 : I (137 + 8 * r) 1 = nI (dt_nm N r) := by rw [hrl.2.2.1 r (by omega), n1]
  refine ⟨cy_kr (by omega), ?_⟩
  rw [cy_rr (by omega) (by decide) (by decide), cy_rr (by omega) (by decide) (by decide), cy_rr (by omega) (by decide) (by decide), show 2 - 1 = 1 from rfl, show 3 - 1 = 2 from rfl, show 4 - 1 = 3 from rfl, b1, b2, b3, e1, in_c (by omega)]
  refine ⟨a1, vp_in_nI (by omega) (by decide), fun J1 j1 => ?_⟩
  have c1 : J1 (137 + 8 * r) = I (137 + 8 * r) := by rw [j1]; exact ky_up_ne (by omega)
  rw [c1, e1, in_c (by omega)]
  refine ⟨a2, vp_in_nI (by omega) (by decide), fun J2 j2 => ?_⟩
  have c2 : J2 (137 + 8 * r) = I (137 + 8 * r) := by rw [j2, ky_up_ne (by omega)]; exact c1
  rw [c2, e1, in_c (by omega)]
  refine ⟨a3, vp_in_nI (by omega) (by decide), fun J3 j3 J4 j4 => hk J4 ?_⟩
  have c3 : J3 (137 + 8 * r) = I (137 + 8 * r) := by rw [j3, ky_up_ne (by omega)]; exact c2
  rw [c3, e1, in_s] at j4
  refine ⟨by rw [j4, ky_up_eq, c3], ?_, ?_, ?_, fun a x0 x1 x2 x3 => by rw [j4, ky_up_ne x0, j3, ky_up_ne x3, j2, ky_up_ne x2, j1, ky_up_ne x1]⟩
  · rw [j4, ky_up_ne (by omega), j3, ky_up_ne (by omega), j2, ky_up_ne (by omega), j1, ky_up_eq]
  · rw [j4, ky_up_ne (by omega), j3, ky_up_ne (by omega), j2, ky_up_eq, j1, ky_up_ne (by omega)]
  · rw [j4, ky_up_ne (by omega), j3, ky_up_eq, j2, ky_up_ne (by omega), j1, ky_up_ne (by omega)]
theorem m_keepMark {ad : Nat → Nat} {N : Mm} (hw : dt_w N) {r : Nat} (hr : r < dt_nr N) (h4 : dt_nm N r < 4) {u v c : Int32} {post : Mm → Prop} (hk : ∀ J, am_m N J r (dt_nm N r) u v c → post J) : w_X7_keepMark (md_Y ad) N 0 (nI r) u v c post := by
  have hr4 := hw.1.2.1
  obtain ⟨n1, _, _⟩ := hw.1.2.2.2.1 r (by omega)
  refine ⟨md_k0, md_k2, vp_in_nI (N := 4) (by omega) (by decide), fun x hx => ?_⟩
  rw [md_r3, in_c (by omega), n1, in_mul4, nI_add] at hx
  rw [hx]
  refine ⟨md_k3, vp_in_nI (N := 16) (by omega) (by decide), fun J1 j1 => ⟨md_k4, vp_in_nI (N := 16) (by omega) (by decide), fun J2 j2 => ⟨md_k5, vp_in_nI (N := 16) (by omega) (by decide), fun J3 j3 J4 j4 => hk J4 ?_⟩⟩⟩
  rw [md_r4, in_c (by omega)] at j1
  rw [md_r5, in_c (by omega)] at j2
  rw [md_r6, in_c (by omega)] at j3
  have c3 : J3 2 = N 2 := by rw [j3, ky_up_ne (by decide), j2, ky_up_ne (by decide), j1, ky_up_ne (by decide)]
  rw [md_r3, c3, in_c (by omega), n1, in_s] at j4
  refine ⟨by rw [j4, ky_up_eq, c3], ?_, ?_, ?_, fun a x2 x3 x4 x5 => by rw [j4, ky_up_ne x2, j3, ky_up_ne x5, j2, ky_up_ne x4, j1, ky_up_ne x3]⟩
  · rw [j4, ky_up_ne (by decide), j3, ky_up_ne (by decide), j2, ky_up_ne (by decide), j1, ky_up_eq]
  · rw [j4, ky_up_ne (by decide), j3, ky_up_ne (by decide), j2, ky_up_eq, j1, ky_up_ne (by decide)]
  · rw [j4, ky_up_ne (by decide), j3, ky_up_eq, j2, ky_up_ne (by decide), j1, ky_up_ne (by decide)]
theorem am_nm {N M : Mm} {r : Nat} {u v c : Int32} (h : am_m N M r (dt_nm N r) u v c) (h4 : dt_nm N r < 4) (x : Nat) : dt_nm M x = if x = r then dt_nm N r + 1 else dt_nm N x := by
  show nu (M 2 x) = _
  rw [h.1]
  unfold upd
  by_cases e : x = r
  · rw [if_pos e, if_pos e]; exact nu_n (by omega)
  · rw [if_neg e, if_neg e]; rfl
theorem am_go {I J N M : Mm} {r : Nat} {u v c : Int32} (hw : dt_w N) (hs : rl_s I N) (hr : r < dt_nr N) (h4 : dt_nm N r < 4) (hok : mk_ok N r u v c) (hc : am_c I J r (dt_nm N r) u v c) (hm : am_m N M r (dt_nm N r) u v c) : dt_w M ∧ rl_s J M := by
  have hr4 := hw.1.2.1
  obtain ⟨w1, w2, w3, w4, w5⟩ := id hw.1
  have hnm := am_nm hm h4
  have hnr : dt_nr M = dt_nr N := by unfold dt_nr; rw [hm.2.2.2.2 0 (by decide) (by decide) (by decide) (by decide)]
  have hpl : dt_pl M = dt_pl N := by funext x; unfold dt_pl; rw [hm.2.2.2.2 1 (by decide) (by decide) (by decide) (by decide)]
  have hnc : dt_nc M = dt_nc N := by unfold dt_nc; rw [hm.2.2.2.2 0 (by decide) (by decide) (by decide) (by decide)]
  have hna : dt_na M = dt_na N := by funext x; unfold dt_na; rw [hm.2.2.2.2 8 (by decide) (by decide) (by decide) (by decide)]
  have hbE : dt_bE M = dt_bE N := by
    funext c at9 z
    unfold dt_bE dt_be dt_nb
    rw [hm.2.2.2.2 11 (by decide) (by decide) (by decide) (by decide), hm.2.2.2.2 12 (by decide) (by decide) (by decide) (by decide), hm.2.2.2.2 13 (by decide) (by decide) (by decide) (by decide), hm.2.2.2.2 14 (by decide) (by decide) (by decide) (by decide)]
  obtain ⟨k1, k2, k3, k4, k5⟩ := hok
  obtain ⟨u', hu1, hu2⟩ := mk_co_n (w3 r hr).2 k1
  obtain ⟨v', hv1, hv2⟩ := mk_co_n (w3 r hr).2 k2
  refine ⟨⟨⟨?_, by rw [hnr]; exact w2, fun x hx => ?_, fun x hx => ?_, fun x k hx hk => ?_⟩, ?_⟩, ⟨?_, fun x hx => ?_, fun x hx => ?_, fun x k hx hk => ?_⟩, ?_⟩
  · rw [hnr, hm.2.2.2.2 0 (by decide) (by decide) (by decide) (by decide)]; exact w1
  · rw [hnr] at hx
    rw [hpl, hm.2.2.2.2 1 (by decide) (by decide) (by decide) (by decide)]
    exact w3 x hx
  · rw [hnm x, hnr, hm.1]
    unfold upd
    by_cases e : x = r
    · rw [if_pos e, if_pos e]; exact ⟨rfl, by omega, fun h9 => by omega⟩
    · rw [if_neg e, if_neg e]; exact w4 x hx
  · rw [hnr] at hx
    rw [hnm x] at hk
    rw [hm.2.1, hm.2.2.1, hm.2.2.2.1, hpl]
    unfold upd
    by_cases e : x = r ∧ k = dt_nm N r
    · obtain ⟨rfl, rfl⟩ := e
      rw [if_pos rfl, if_pos rfl, if_pos rfl]
      exact ⟨u', v', hu1, hv1, hu2, hv2, fun h9 => k3 (by rw [hu1, hv1, h9]), k4, k5⟩
    · have hk' : k < dt_nm N x := by
        by_cases e2 : x = r
        · rw [if_pos e2] at hk; rw [e2]; omega
        · rw [if_neg e2] at hk; exact hk
      have hne : 4 * x + k ≠ 4 * r + dt_nm N r := by have := (w4 x (by omega)).2.1; omega
      rw [if_neg hne, if_neg hne, if_neg hne]
      exact w5 x k hx hk'
  · have := hw.2
    unfold dt_w2 dt_cl dt_nc dt_hr dt_hv dt_na dt_ar dt_av dt_nb dt_nr at this ⊢
    rw [hm.2.2.2.2 0 (by decide) (by decide) (by decide) (by decide), hm.2.2.2.2 6 (by decide) (by decide) (by decide) (by decide), hm.2.2.2.2 7 (by decide) (by decide) (by decide) (by decide), hm.2.2.2.2 8 (by decide) (by decide) (by decide) (by decide), hm.2.2.2.2 9 (by decide) (by decide) (by decide) (by decide), hm.2.2.2.2 10 (by decide) (by decide) (by decide) (by decide), hm.2.2.2.2 11 (by decide) (by decide) (by decide) (by decide), hm.2.2.2.2 12 (by decide) (by decide) (by decide) (by decide), hm.2.2.2.2 13 (by decide) (by decide) (by decide) (by decide), hm.2.2.2.2 14 (by decide) (by decide) (by decide) (by decide)]
    exact this
  · rw [hc.2.2.2.2 0 (by omega) (by omega) (by omega) (by omega), hm.2.2.2.2 0 (by decide) (by decide) (by decide) (by decide)]; exact hs.1.1
  · rw [hnr] at hx
    rw [hm.2.2.2.2 1 (by decide) (by decide) (by decide) (by decide)]
    by_cases e : x = r
    · rw [e, hc.1]; unfold upd; rw [if_neg (by decide)]; exact hs.1.2.1 r hr
    · rw [hc.2.2.2.2 _ (by omega) (by omega) (by omega) (by omega)]; exact hs.1.2.1 x hx
  · rw [hm.1]
    by_cases e : x = r
    · rw [e, hc.1]; unfold upd; rw [if_pos rfl, if_pos rfl]
    · rw [hc.2.2.2.2 _ (by omega) (by omega) (by omega) (by omega)]; unfold upd; rw [if_neg e]; exact hs.1.2.2.1 x hx
  · rw [hnr] at hx
    rw [hnm x] at hk
    rw [hm.2.1, hm.2.2.1, hm.2.2.2.1]
    by_cases e2 : x = r
    · rw [if_pos e2] at hk
      subst e2
      rw [hc.2.1, hc.2.2.1, hc.2.2.2.1]
      unfold upd
      by_cases e : k = dt_nm N x
      · rw [if_pos e, if_pos e, if_pos e, if_pos (by omega), if_pos (by omega), if_pos (by omega)]
        exact ⟨rfl, rfl, rfl⟩
      · rw [if_neg e, if_neg e, if_neg e, if_neg (by omega), if_neg (by omega), if_neg (by omega)]
        exact hs.1.2.2.2 x k hx (by omega)
    · rw [if_neg e2] at hk
      have := (w4 x (by omega)).2.1
      rw [hc.2.2.2.2 _ (by omega) (by omega) (by omega) (by omega), hc.2.2.2.2 _ (by omega) (by omega) (by omega) (by omega), hc.2.2.2.2 _ (by omega) (by omega) (by omega) (by omega)]
      unfold upd
      rw [if_neg (by omega), if_neg (by omega), if_neg (by omega)]
      exact hs.1.2.2.2 x k hx hk
  · have q : ∀ a, 169 ≤ a → J a = I a := fun a ha => hc.2.2.2.2 a (by omega) (by omega) (by omega) (by omega)
    refine ⟨?_, fun y h9 => ?_, fun y h8 h9 => ?_⟩
    · rw [hc.2.2.2.2 0 (by omega) (by omega) (by omega) (by omega), hm.2.2.2.2 0 (by decide) (by decide) (by decide) (by decide)]; exact hs.2.1
    · rw [hnc] at h9
      obtain ⟨h1, h2, h3, h4, h5, h6, h7⟩ := hs.2.2.1 y h9
      unfold rl_1
      rw [hna, hbE, hm.2.2.2.2 6 (by decide) (by decide) (by decide) (by decide), hm.2.2.2.2 7 (by decide) (by decide) (by decide) (by decide), hm.2.2.2.2 8 (by decide) (by decide) (by decide) (by decide), hm.2.2.2.2 9 (by decide) (by decide) (by decide) (by decide), hm.2.2.2.2 10 (by decide) (by decide) (by decide) (by decide), hm.2.2.2.2 11 (by decide) (by decide) (by decide) (by decide)]
      exact ⟨by rw [q _ (by omega)]; exact h1, by rw [q _ (by omega)]; exact h2, by rw [q _ (by omega)]; exact h3, by rw [q _ (by omega)]; exact h4, by rw [q _ (by omega)]; exact h5, fun a ha => by rw [q _ (by omega)]; exact h6 a ha, cl_S_keep (q _ (by omega)) (q _ (by omega)) h7⟩
    · rw [hnc] at h8
      obtain ⟨h1, h2, h3⟩ := hs.2.2.2 y h8 h9
      exact ⟨by rw [q _ (by omega)]; exact h1, by rw [q _ (by omega)]; exact h2, cl_S_keep (q _ (by omega)) (q _ (by omega)) h3⟩
