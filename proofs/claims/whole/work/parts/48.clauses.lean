/-! CLAUSES: what one clause hangs on -/
theorem dt_be_congr {N M : Mm} {c : Nat} (e11 : M 11 c = N 11 c) (eb : ∀ j, j < dt_nb N c → M 12 (8 * c + j) = N 12 (8 * c + j) ∧ M 13 (8 * c + j) = N 13 (8 * c + j) ∧ M 14 (8 * c + j) = N 14 (8 * c + j)) (at9 z : Nat) : dt_bE M c at9 z = dt_bE N c at9 z := by
  have en : dt_nb M c = dt_nb N c := by unfold dt_nb; rw [e11]
  unfold dt_bE
  rw [en]
  refine List.map_congr_left (fun j hj => ?_)
  obtain ⟨a1, a2, a3⟩ := eb j (List.mem_range.mp hj)
  unfold dt_be
  rw [a1, a2, a3]
theorem dt_cl_congr {N M : Mm} {c : Nat} (h1 : dt_nr N ≤ dt_nr M) (e6 : M 6 c = N 6 c) (e7 : ∀ q, q < 2 → M 7 (2 * c + q) = N 7 (2 * c + q)) (e8 : M 8 c = N 8 c) (ea : ∀ a, a < dt_na N c → M 9 (2 * c + a) = N 9 (2 * c + a) ∧ ∀ q, q < 2 → M 10 (2 * (2 * c + a) + q) = N 10 (2 * (2 * c + a) + q)) (e11 : M 11 c = N 11 c) (eb : ∀ j, j < dt_nb N c → M 12 (8 * c + j) = N 12 (8 * c + j) ∧ M 13 (8 * c + j) = N 13 (8 * c + j) ∧ M 14 (8 * c + j) = N 14 (8 * c + j)) (h : dt_cl N c) : dt_cl M c := by
  obtain ⟨c1, c2, c3, c4, c5, c6, c7, c8⟩ := h
  have ehr : dt_hr M c = dt_hr N c := by unfold dt_hr; rw [e6]
  have ena : dt_na M c = dt_na N c := by unfold dt_na; rw [e8]
  have enb : dt_nb M c = dt_nb N c := by unfold dt_nb; rw [e11]
  refine ⟨?_, fun q hq => ?_, by rw [ena, e8]; exact c3, by rw [ena]; exact c4, fun a ha => ?_, by rw [enb, e11]; exact c6, by rw [enb]; exact c7, fun j hj => ?_⟩
  · rw [e6, ehr]; exact c1.imp id (fun ⟨a, b⟩ => ⟨a, by omega⟩)
  · unfold dt_hv; rw [e7 q hq]; exact c2 q hq
  · rw [ena] at ha
    obtain ⟨a1, a2⟩ := ea a ha
    obtain ⟨b1, b2, b3⟩ := c5 a ha
    have ear : dt_ar M c a = dt_ar N c a := by unfold dt_ar; rw [a1]
    refine ⟨by rw [ear, a1]; exact b1, by rw [ear]; omega, fun q hq => ?_⟩
    unfold dt_av
    rw [a2 q hq]
    exact b3 q hq
  · rw [enb] at hj
    obtain ⟨a1, a2, a3⟩ := eb j hj
    rw [a1, a2, a3]
    exact c8 j hj
theorem rl_1_congr {I J N M : Mm} {c : Nat} (q : ∀ a, 169 + 7 * c ≤ a → a < 176 + 7 * c → J a = I a) (e6 : M 6 c = N 6 c) (e7 : ∀ q, q < 2 → M 7 (2 * c + q) = N 7 (2 * c + q)) (e8 : M 8 c = N 8 c) (hna : dt_na N c ≤ 2) (ea : ∀ a, a < dt_na N c → M 9 (2 * c + a) = N 9 (2 * c + a) ∧ ∀ q, q < 2 → M 10 (2 * (2 * c + a) + q) = N 10 (2 * (2 * c + a) + q)) (e11 : M 11 c = N 11 c) (eb : ∀ j, j < dt_nb N c → M 12 (8 * c + j) = N 12 (8 * c + j) ∧ M 13 (8 * c + j) = N 13 (8 * c + j) ∧ M 14 (8 * c + j) = N 14 (8 * c + j)) (h : rl_1 I N c) : rl_1 J M c := by
  obtain ⟨h1, h2, h3, h4, h5, h6, h7⟩ := h
  have ena : dt_na M c = dt_na N c := by unfold dt_na; rw [e8]
  have g0 := e7 0 (by decide)
  rw [Nat.add_zero] at g0
  refine ⟨by rw [q _ (by omega) (by omega), e6]; exact h1, by rw [q _ (by omega) (by omega), g0]; exact h2, by rw [q _ (by omega) (by omega), e7 1 (by decide)]; exact h3, by rw [q _ (by omega) (by omega), e8]; exact h4, by rw [q _ (by omega) (by omega), e11]; exact h5, fun a ha => ?_, by rw [dt_be_congr e11 eb]; exact cl_S_keep (q _ (by omega) (by omega)) (q _ (by omega) (by omega)) h7⟩
  rw [ena] at ha
  obtain ⟨a1, a2⟩ := ea a ha
  have g2 := a2 0 (by decide)
  rw [Nat.add_zero] at g2
  rw [q _ (by omega) (by omega), a1, g2, a2 1 (by decide)]
  exact h6 a ha
/-- relations are the same in both -/
theorem rl_r_congr {I J N M : Mm} (q : ∀ a, 137 ≤ a → a < 169 → J a = I a) (j1 : J 0 1 = I 0 1) (m1 : M 0 1 = N 0 1) (hr4 : dt_nr N ≤ 4) (mr : ∀ a, a ≠ 0 → a < 6 → M a = N a) (h : rl_r I N) : rl_r J M := by
  have enr : dt_nr M = dt_nr N := by unfold dt_nr; rw [m1]
  have enm : dt_nm M = dt_nm N := by funext x; unfold dt_nm; rw [mr 2 (by decide) (by decide)]
  refine ⟨by rw [j1, m1]; exact h.1, fun r hr => ?_, fun r hr => ?_, fun r k hr hk => ?_⟩
  · rw [enr] at hr
    rw [q _ (by omega) (by omega), mr 1 (by decide) (by decide)]
    exact h.2.1 r hr
  · rw [q _ (by omega) (by omega), mr 2 (by decide) (by decide)]
    exact h.2.2.1 r hr
  · rw [enr] at hr
    rw [enm] at hk
    rw [q _ (by omega) (by omega), q _ (by omega) (by omega), q _ (by omega) (by omega), mr 3 (by decide) (by decide), mr 4 (by decide) (by decide), mr 5 (by decide) (by decide)]
    exact h.2.2.2 r k hr hk
theorem dt_w1_congr {N M : Mm} (m1 : M 0 1 = N 0 1) (mr : ∀ a, a ≠ 0 → a < 6 → M a = N a) (h : dt_w1 N) : dt_w1 M := by
  unfold dt_w1 dt_nr dt_pl dt_nm
  rw [m1, mr 1 (by decide) (by decide), mr 2 (by decide) (by decide), mr 3 (by decide) (by decide), mr 4 (by decide) (by decide), mr 5 (by decide) (by decide)]
  exact h
/-- variables -/
def li_v (x : Int32) : Prop := 0 ≤ x.toInt ∧ x.toInt ≤ 4
theorem li_v_n {x : Int32} (h : li_v x) : x = nI (nu x) ∧ nu x < 5 := by
  obtain ⟨h1, h2⟩ := h
  obtain ⟨j, hj, e⟩ := in_of (n := 5) h1 (by omega)
  rw [e, nu_n (by omega)]
  exact ⟨rfl, hj⟩
def li_ok (N : Mm) (v x y : Int32) : Prop := ∃ r, r < dt_nr N ∧ v = nI r ∧ li_v x ∧ (N 1 r = 1 ∨ li_v y)
def li_x (v x : Int32) : Int32 := if v = -1 then 0 else x
def li_y (N : Mm) (v y : Int32) : Int32 := if v = -1 then 0 else if N 1 (nu v) = 1 then 0 else y
theorem in_ne1 {r : Nat} (h : r < 2147483648) : ¬ nI r = (-1 : Int32) := fun h9 => by
  rw [in_eq, in_n h, in_neg1] at h9
  omega
theorem li_ok.xy {N : Mm} {v x y : Int32} (hw : dt_w N) (h : li_ok N v x y) : li_v (li_x v x) ∧ li_v (li_y N v y) := by
  obtain ⟨r, hr, rfl, hx, hy⟩ := h
  have hr4 := hw.1.2.1
  unfold li_x li_y
  rw [if_neg (in_ne1 (by omega)), if_neg (in_ne1 (by omega)), nu_n (by omega)]
  refine ⟨hx, ?_⟩
  by_cases e : N 1 r = 1
  · rw [if_pos e]; exact ⟨by decide, by decide⟩
  · rw [if_neg e]; exact hy.resolve_left e
theorem p_isVariable {Y : Ly} {I : Mm} {x : Int32} {post : Int32 → Mm → Prop} (h1 : li_v x → post 1 I) (h0 : ¬ li_v x → post 0 I) : w_X6_isVariable Y I x post := by
  have h5 : (5 : Int32).toInt = 5 := by decide
  unfold li_v at h1 h0
  refine ⟨fun h => h0 ?_, fun h => ⟨fun h9 => h0 ?_, fun h9 => h1 ?_⟩⟩
  · rw [in_lt, in_0] at h; omega
  · rw [in_le, h5] at h9; omega
  · rw [in_lt, in_0] at h; rw [in_le, h5] at h9; omega
theorem p_isLiteral {ad : Nat → Nat} {N I : Mm} (hw : dt_w N) (hrl : rl_r I N) {v x y : Int32} {post : Int32 → Mm → Prop} (h1 : li_ok N v x y → post 1 I) (h0 : ¬ li_ok N v x y → post 0 I) : w_X6_isLiteral (cl_Y ad) I 0 v x y post := by
  have hr4 := hw.1.2.1
  refine ⟨cy_0, p_isRelation hw hrl (fun r hr hv => ⟨fun h9 => absurd h9 (by decide), fun _ => p_isVariable (fun hx => ⟨fun h9 => absurd h9 (by decide), fun _ => ⟨cy_1, ?_⟩⟩) (fun hx => ⟨fun _ => h0 (fun ⟨_, _, _, a, _⟩ => hx a), fun h9 => absurd rfl h9⟩)⟩) (fun hno => ⟨fun _ => h0 (fun ⟨r, a, b, _⟩ => hno ⟨r, a, b⟩), fun h9 => absurd rfl h9⟩)⟩
  subst hv
  rw [cy_p0, in_c (by omega), cy_rel, hrl.2.1 r hr]
  refine ⟨vp_in_nI (N := 4) (by omega) (by decide), cy_kr (by omega), fun hp => h1 ⟨r, hr, rfl, hx, Or.inl hp⟩, fun hp => p_isVariable (fun hy => ⟨fun h9 => absurd h9 (by decide), fun _ => h1 ⟨r, hr, rfl, hx, Or.inr hy⟩⟩) (fun hy => ⟨fun _ => h0 (fun ⟨r', a, b, _, d⟩ => ?_), fun h9 => absurd rfl h9⟩)⟩
  have : r' = r := ((nI_eq (by omega) (by omega)).mp b).symm
  rw [this] at d
  exact d.elim hp hy
theorem m_areVariables {ad : Nat → Nat} {N : Mm} (hw : dt_w N) {r : Nat} (hr : r < dt_nr N) {x y : Int32} {post : Int32 → Mm → Prop} (h1 : li_ok N (nI r) x y → post 1 N) (h0 : ¬ li_ok N (nI r) x y → post 0 N) : w_X7_areVariables (md_Y ad) N 0 (nI r) x y post := by
  have hr4 := hw.1.2.1
  refine m_in (fun a1 a2 => ⟨fun h9 => absurd h9 (by decide), fun _ => ⟨md_k0, md_k1, vp_in_nI (N := 4) (by omega) (by decide), ?_⟩⟩) (fun a1 => ⟨fun _ => h0 (fun ⟨_, _, _, a, _⟩ => a1 (by rw [in_0, in_4]; exact a)), fun h9 => absurd rfl h9⟩)
  rw [in_0] at a1
  rw [in_4] at a2
  rw [md_r2, in_c (by omega)]
  refine ⟨fun hp => h1 ⟨r, hr, rfl, ⟨a1, a2⟩, Or.inl hp⟩, fun hp => m_in (fun b1 b2 => ⟨fun h9 => absurd h9 (by decide), fun _ => h1 ⟨r, hr, rfl, ⟨a1, a2⟩, Or.inr ⟨by rw [in_0] at b1; exact b1, by rw [in_4] at b2; exact b2⟩⟩⟩) (fun b1 => ⟨fun _ => h0 (fun ⟨r', a, b, _, d⟩ => ?_), fun h9 => absurd rfl h9⟩)⟩
  have : r' = r := ((nI_eq (by omega) (by omega)).mp b).symm
  rw [this] at d
  exact d.elim hp (fun h9 => b1 (by rw [in_0, in_4]; exact h9))
/-- fill -/
theorem p_fill {ad : Nat → Nat} {N I : Mm} (hw : dt_w N) (hrl : rl_r I N) {k : Nat} (hki : ky_is (cl_Y ad) k 2) (hk9 : 169 ≤ k) {v x y : Int32} (hv : v = -1 ∨ ∃ r, r < dt_nr N ∧ v = nI r) {post : Mm → Prop} (hk : ∀ J : Mm, (∀ a, a ≠ k → J a = I a) → J k = upd (upd (upd (I k) 0 v) 1 (li_x v x)) 2 (li_y N v y) → post J) : w_X6_fill (cl_Y ad) I 0 k v x y post := by
  have hr4 := hw.1.2.1
  have last : ∀ (J1 J2 J3 : Mm) (s t : Int32), J1 = ky_up I k 0 v → J2 = ky_up J1 k 1 s → J3 = ky_up J2 k 2 t → s = li_x v x → t = li_y N v y → post J3 := fun J1 J2 J3 s t e1 e2 e3 hs ht => by
    refine hk J3 (fun a ha => by rw [e3, ky_up_ne ha, e2, ky_up_ne ha, e1, ky_up_ne ha]) ?_
    rw [e3, ky_up_eq, e2, ky_up_eq, e1, ky_up_eq, hs, ht]
  refine ⟨hki, fun J1 e1 => ⟨fun h => ⟨hki, fun J2 e2 => ⟨fun h9 => absurd h9 h, fun _ => ?_⟩⟩, fun h => ⟨hki, fun J2 e2 => ⟨fun _ => ⟨hki, fun J3 e3 => last J1 J2 J3 0 0 e1 e2 e3 (by unfold li_x; rw [if_pos h]) (by unfold li_y; rw [if_pos h])⟩, fun h9 => absurd h h9⟩⟩⟩⟩
  obtain ⟨r, hr, rfl⟩ := hv.resolve_left h
  refine ⟨cy_0, cy_1, vp_in_nI (N := 4) (by omega) (by decide), ?_⟩
  have e9 : J2 (137 + 8 * r) 0 = N 1 r := by rw [e2, ky_up_ne (by omega), e1, ky_up_ne (by omega)]; exact hrl.2.1 r hr
  rw [cy_p0, in_c (by omega), cy_rel, e9]
  refine ⟨cy_kr (by omega), fun hp => ⟨hki, fun J3 e3 => last J1 J2 J3 x y e1 e2 e3 (by unfold li_x; rw [if_neg h]) (by unfold li_y; rw [if_neg h, nu_n (by omega), if_neg hp])⟩, fun hp => ⟨hki, fun J3 e3 => last J1 J2 J3 x 0 e1 e2 e3 (by unfold li_x; rw [if_neg h]) (by unfold li_y; rw [if_neg h, nu_n (by omega), if_pos hp])⟩⟩
