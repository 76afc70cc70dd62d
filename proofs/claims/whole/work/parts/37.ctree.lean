/-! THE CLASS: growTree -/
/-- what waits: rows 5, 6, 7 -/
def ts_k (J : Mm) (f : Nat × Nat → Int32) (st : List (Nat × Nat)) : Prop := J 3 5 = nI st.length ∧ ∀ (i : Nat) (x : Nat × Nat), st.reverse[i]? = some x → J 5 i = nI x.1 ∧ J 6 i = nI x.2 ∧ J 7 i = f x
theorem ts_k.f {J : Mm} {f g : Nat × Nat → Int32} {st : List (Nat × Nat)} (h : ts_k J f st) (hf : ∀ x ∈ st, f x = g x) : ts_k J g st := ⟨h.1, fun i x hx => by
  obtain ⟨a, b, c⟩ := h.2 i x hx
  exact ⟨a, b, by rw [c]; exact hf x (List.mem_reverse.mp (List.mem_of_getElem? hx))⟩⟩
theorem ts_k.keep {J L : Mm} {f : Nat × Nat → Int32} {st : List (Nat × Nat)} (h : ts_k J f st) (h3 : L 3 5 = J 3 5) (h5 : L 5 = J 5) (h6 : L 6 = J 6) (h7 : L 7 = J 7) : ts_k L f st := ⟨by rw [h3]; exact h.1, fun i x hx => by rw [h5, h6, h7]; exact h.2 i x hx⟩
/-- the top is taken off -/
theorem ts_k.pop {J L : Mm} {f : Nat × Nat → Int32} {x : Nat × Nat} {st : List (Nat × Nat)} (h : ts_k J f (x :: st)) (h3 : L 3 5 = nI st.length) (h5 : L 5 = J 5) (h6 : L 6 = J 6) (h7 : L 7 = J 7) : ts_k L f st := ⟨h3, fun i y hy => by
  rw [h5, h6, h7]
  refine h.2 i y ?_
  rw [List.reverse_cons, List.getElem?_append_left (List.getElem?_eq_some_iff.mp hy).1]
  exact hy⟩
theorem ts_k.top {J : Mm} {f : Nat × Nat → Int32} {x : Nat × Nat} {st : List (Nat × Nat)} (h : ts_k J f (x :: st)) : J 5 st.length = nI x.1 ∧ J 6 st.length = nI x.2 ∧ J 7 st.length = f x := by
  refine h.2 st.length x ?_
  rw [List.reverse_cons, List.getElem?_append_right (by rw [List.length_reverse]; exact Nat.le_refl _), List.length_reverse, Nat.sub_self]
  rfl
theorem p_postpone {ad : Nat → Nat} {J : Mm} {f : Nat × Nat → Int32} {st : List (Nat × Nat)} (hs : ts_k J f st) (hl : st.length < 82) {p a : Nat} {v : Int32} (hv : v = f (p, a)) {post : Mm → Prop} (hk : ∀ L : Mm, (∀ b, b ≠ 3 → b ≠ 5 → b ≠ 6 → b ≠ 7 → L b = J b) → L 3 1 = J 3 1 → ts_k L f ((p, a) :: st) → post L) : w_X5_postpone (cl_Y ad) J 3 (nI p) (nI a) v post := by
  have hin : vp_in (J 3 5) 82 := by rw [hs.1]; exact vp_in_nI hl (by decide)
  have hcl : (J 3 5).toNatClampNeg = st.length := by rw [hs.1]; exact in_c (by omega)
  refine ⟨cy_3, cy_5, hin, fun J1 h1 => ?_⟩
  rw [cy_t2, hcl] at h1
  have a1 : J1 3 = J 3 := by rw [h1]; exact ky_up_ne (by decide)
  refine ⟨cy_6, by rw [a1]; exact hin, fun J2 h2 => ?_⟩
  rw [cy_t3, a1, hcl] at h2
  have a2 : J2 3 = J 3 := by rw [h2, ky_up_ne (by decide)]; exact a1
  refine ⟨cy_7, by rw [a2]; exact hin, fun J3 h3 J4 h4 => ?_⟩
  rw [cy_t4, a2, hcl] at h3
  have a3 : J3 3 = J 3 := by rw [h3, ky_up_ne (by decide)]; exact a2
  rw [a3, hs.1, in_s] at h4
  have b3 : J4 3 = upd (J 3) 5 (nI (st.length + 1)) := by rw [h4, ky_up_eq, a3]
  have b5 : J4 5 = upd (J 5) st.length (nI p) := by rw [h4, ky_up_ne (by decide), h3, ky_up_ne (by decide), h2, ky_up_ne (by decide), h1, ky_up_eq]
  have b6 : J4 6 = upd (J 6) st.length (nI a) := by rw [h4, ky_up_ne (by decide), h3, ky_up_ne (by decide), h2, ky_up_eq, h1, ky_up_ne (by decide)]
  have b7 : J4 7 = upd (J 7) st.length v := by rw [h4, ky_up_ne (by decide), h3, ky_up_eq, h2, ky_up_ne (by decide), h1, ky_up_ne (by decide)]
  refine hk J4 (fun b c3 c5 c6 c7 => by rw [h4, ky_up_ne c3, h3, ky_up_ne c7, h2, ky_up_ne c6, h1, ky_up_ne c5]) (by rw [b3]; unfold upd; rw [if_neg (by decide)]) ⟨by rw [b3]; unfold upd; rw [if_pos rfl]; rfl, fun i x hx => ?_⟩
  rw [b5, b6, b7]
  unfold upd
  rw [List.reverse_cons] at hx
  by_cases hi : i < st.length
  · rw [List.getElem?_append_left (by rw [List.length_reverse]; exact hi)] at hx
    rw [if_neg (by omega), if_neg (by omega), if_neg (by omega)]
    exact hs.2 i x hx
  · rw [List.getElem?_append_right (by rw [List.length_reverse]; omega), List.length_reverse] at hx
    have hz : i - st.length < 1 := (List.getElem?_eq_some_iff.mp hx).1
    have hi0 : i = st.length := by omega
    rw [hi0, Nat.sub_self] at hx
    cases hx
    rw [if_pos hi0, if_pos hi0, if_pos hi0]
    exact ⟨rfl, rfl, hv⟩
theorem p_number {ad : Nat → Nat} {N J : Mm} {f : Nat × Nat → Int32} {st : List (Nat × Nat)} {c n : Nat} (hc : c < 12) (hn2 : dt_na N c ≤ 2) (hna : J (169 + 7 * c) 2 = nI (dt_na N c)) (h31 : J 3 1 = nI n) (hs : ts_k J f st) (hl : st.length + 2 ≤ 82) {v2 v3 : Int32} (hv2 : 1 ≤ dt_na N c → v2 = f (n, 0)) (hv3 : dt_na N c = 2 → v3 = f (n, 1)) {post : Mm → Prop} (hk : ∀ L : Mm, (∀ b, b ≠ 3 → b ≠ 5 → b ≠ 6 → b ≠ 7 → L b = J b) → L 3 1 = nI (n + 1) → ts_k L f (tr_push N n c st) → post L) : w_X5_number (cl_Y ad) J 3 (169 + 7 * c) v2 v3 post := by
  have last : ∀ (K : Mm) (s : List (Nat × Nat)), (∀ b, b ≠ 3 → b ≠ 5 → b ≠ 6 → b ≠ 7 → K b = J b) → K 3 1 = nI n → ts_k K f s → s = tr_push N n c st → ∀ L, L = ky_up K 3 1 (K 3 1 + 1) → post L := fun K s hK h1 hs9 he L hL => by
    rw [h1, in_s] at hL
    refine hk L (fun b b3 b5 b6 b7 => by rw [hL, ky_up_ne b3]; exact hK b b3 b5 b6 b7) (by rw [hL, ky_up_eq]; unfold upd; rw [if_pos rfl]) ?_
    rw [← he]
    exact hs9.keep (by rw [hL, ky_up_eq]; unfold upd; rw [if_neg (by decide)]) (by rw [hL, ky_up_ne (by decide)]) (by rw [hL, ky_up_ne (by decide)]) (by rw [hL, ky_up_ne (by decide)])
  have b18 : ∀ (K : Mm) (s : List (Nat × Nat)), (∀ b, b ≠ 3 → b ≠ 5 → b ≠ 6 → b ≠ 7 → K b = J b) → K 3 1 = nI n → ts_k K f s → s.length + 1 ≤ 82 → (if dt_na N c = 0 then s else (n, 0) :: s) = tr_push N n c st → w_X5_number_B18 (cl_Y ad) post 3 (169 + 7 * c) v2 K := fun K s hK h1 hs9 hl9 he => by
    refine ⟨cy_kc hc, ?_⟩
    rw [hK _ (by omega) (by omega) (by omega) (by omega), hna]
    refine ⟨fun h => ⟨cy_3, last K s hK h1 hs9 ?_⟩, fun h => ⟨cy_3, ?_⟩⟩
    · rw [in_lt, in_n (by omega), in_1] at h
      rw [if_pos (by omega)] at he
      exact he
    · rw [in_lt, in_n (by omega), in_1] at h
      rw [h1]
      refine p_postpone (a := 0) hs9 (by omega) (hv2 (by omega)) (fun L hL h31L hsL => ?_)
      refine last L _ (fun b b3 b5 b6 b7 => (hL b b3 b5 b6 b7).trans (hK b b3 b5 b6 b7)) (by rw [h31L]; exact h1) hsL ?_
      rw [if_neg (by omega)] at he
      exact he
  refine ⟨cy_kc hc, ?_⟩
  rw [hna]
  refine ⟨fun h => b18 J st (fun _ _ _ _ _ => rfl) h31 hs (by omega) ?_, fun h => ⟨cy_3, ?_⟩⟩
  · rw [in_e2 (by omega)] at h
    unfold tr_push
    by_cases h0 : dt_na N c = 0
    · rw [if_pos h0, if_pos h0]
    · rw [if_neg h0, if_neg h0, if_pos (by omega)]
  · rw [in_e2 (by omega)] at h
    rw [h31]
    refine p_postpone (a := 1) hs (by omega) (hv3 h) (fun L hL h31L hsL => b18 L _ hL (by rw [h31L]; exact h31) hsL (by show st.length + 1 + 1 ≤ 82; omega) ?_)
    unfold tr_push
    rw [if_neg (by omega), if_neg (by omega), if_neg (by omega)]
/-- the nodes' cells -/
def tc_n (J : Mm) (ns : List Nd) : Prop := ∀ k, k < ns.length → J (8 + 3 * k) 0 = nI (tr_nd ns k).1 ∧ J (8 + 3 * k) 1 = (if k = 0 then -1 else nI (tr_nd ns k).2.1) ∧ J (8 + 3 * k) 2 = nI (tr_nd ns k).2.2.1 ∧ J (8 + 3 * k) 3 = (if k = 0 then -1 else nI (tr_nd ns k).2.2.2)
def tc_m (J N : Mm) (s : List Nd × List (Nat × Nat)) : Prop := tc_n J s.1 ∧ J 3 1 = nI s.1.length ∧ ts_k J (fun x => tr_pv N s.1 x.1 x.2) s.2
def tc_F (I J : Mm) : Prop := ∀ a, a < 3 ∨ 131 ≤ a → J a = I a
theorem tc_F.rf {I : Mm} : tc_F I I := fun _ _ => rfl
theorem tc_F.tr {I J L : Mm} (h1 : tc_F I J) (h2 : tc_F J L) : tc_F I L := fun a ha => (h2 a ha).trans (h1 a ha)
theorem tc_F.r {I J N : Mm} (h : tc_F I J) (hr : rl_r I N) : rl_r J N := by
  refine ⟨by rw [h 0 (by omega)]; exact hr.1, fun r h9 => by rw [h _ (by omega)]; exact hr.2.1 r h9, fun r h9 => by rw [h _ (by omega)]; exact hr.2.2.1 r h9, fun r k h8 h9 => ?_⟩
  rw [h _ (by omega), h _ (by omega), h _ (by omega)]
  exact hr.2.2.2 r k h8 h9
theorem tc_F.c {I J N : Mm} (h : tc_F I J) (hr : rl_c I N) : rl_c J N := by
  refine ⟨by rw [h 0 (by omega)]; exact hr.1, fun c hc => ?_, fun c h8 h9 => ?_⟩
  · obtain ⟨h1, h2, h3, h4, h5, h6, h7⟩ := hr.2.1 c hc
    refine ⟨by rw [h _ (by omega)]; exact h1, by rw [h _ (by omega)]; exact h2, by rw [h _ (by omega)]; exact h3, by rw [h _ (by omega)]; exact h4, by rw [h _ (by omega)]; exact h5, fun a ha => by rw [h _ (by omega)]; exact h6 a ha, cl_S_keep (h _ (by omega)) (h _ (by omega)) h7⟩
  · obtain ⟨h1, h2, h3⟩ := hr.2.2 c h8 h9
    exact ⟨by rw [h _ (by omega)]; exact h1, by rw [h _ (by omega)]; exact h2, cl_S_keep (h _ (by omega)) (h _ (by omega)) h3⟩
theorem tc_F.s {I J N : Mm} (h : tc_F I J) (hr : rl_s I N) : rl_s J N := ⟨h.r hr.1, h.c hr.2⟩
/-- how a state was reached is the same -/
def rl_y (I N : Mm) : Prop := ∀ r m, r < dt_nr N → m < 16 → ¬ N 15 (16 * r + m) = 0 → I (137 + 8 * r + 5) m = N 16 (16 * r + m) ∧ I (137 + 8 * r + 6) m = N 17 (2 * (16 * r + m)) ∧ I (137 + 8 * r + 7) m = N 17 (2 * (16 * r + m) + 1)
theorem tc_F.y {I J N : Mm} (h : tc_F I J) (hr : rl_y I N) : rl_y J N := fun r m h1 h2 h3 => by
  rw [h _ (by omega), h _ (by omega), h _ (by omega)]
  exact hr r m h1 h2 h3
theorem tr_pv_l {N : Mm} {ns : List Nd} {x : Nd} {p a : Nat} (hp : p < ns.length) : tr_pv N (ns ++ [x]) p a = tr_pv N ns p a := by
  unfold tr_pv
  rw [tr_nd_l hp]
set_option maxHeartbeats 2000000 in
theorem p_growChild {ad : Nat → Nat} {N J : Mm} {c p a : Nat} {ns : List Nd} {st : List (Nat × Nat)} (hw : dt_w N) (hdy : dt_y N) (hz : dt_z N c) (hs : rl_s J N) (hy : rl_y J N) (hok : tr_ok N c (ns, (p, a) :: st)) (hl : ns.length ≤ 40) (hn : tc_n J ns) (h31 : J 3 1 = nI ns.length) (hst : ts_k J (fun x => tr_pv N ns x.1 x.2) st) {post : Mm → Prop} (hk : ∀ L : Mm, tc_F J L → tc_m L N (tr_step N (ns, (p, a) :: st)) → post L) : w_X6_growChild (cl_Y ad) J 0 (nI p) (nI a) (tr_pv N ns p a) post := by
  have h12 := hw.2.2.1
  have hr4 := hw.1.2.1
  obtain ⟨hp, ha⟩ := hok.2.2.2.2 (p, a) List.mem_cons_self
  have hp : p < ns.length := hp
  have ha : a < dt_na N (tr_nd ns p).1 := ha
  obtain ⟨m1, m2, m3, m4, m5, m6, m7⟩ := tr_pm_ok hw hdy hz hok hp ha
  have m1 : tr_pv N ns p a = nI (tr_pm N ns p a) := m1
  have m2 : tr_pm N ns p a < 16 := m2
  have m3 : dt_ar N (tr_nd ns p).1 a < dt_nr N := m3
  have m4 : ¬ N 15 (16 * dt_ar N (tr_nd ns p).1 a + tr_pm N ns p a) = 0 := m4
  have m5 : tr_cl N ns p a < dt_nc N := m5
  have m6 : N 16 (16 * dt_ar N (tr_nd ns p).1 a + tr_pm N ns p a) = nI (tr_cl N ns p a) := m6
  have m7 : N 6 (tr_cl N ns p a) = nI (dt_ar N (tr_nd ns p).1 a) := m7
  have hcp : (tr_nd ns p).1 < dt_nc N := hok.cl hz hp
  obtain ⟨_, _, ca1, ca2, ca3, _⟩ := hw.2.2.2 _ hcp
  have hna2 : dt_na N (tr_cl N ns p a) ≤ 2 := (hw.2.2.2 _ m5).2.2.2.1
  obtain ⟨g1, g2, _⟩ := ca3 a ha
  obtain ⟨q1, _, _⟩ := (hs.2.2.1 _ hcp).2.2.2.2.2.1 a ha
  obtain ⟨kb1, kb2⟩ := cy_kb (ad := ad) (c := (tr_nd ns p).1) (by omega)
  have n0 := (hn p hp).1
  have hlen : st.length + 1 ≤ ns.length + 1 := hok.2.1
  rw [m1]
  refine ⟨cy_0, cy_3, cy_4, vp_in_nI (N := 41) (by omega) (by decide), ?_⟩
  rw [cy_p7, cy_t0, in_c (by omega), cy_nod, n0, cy_p2, in_c (by omega), cy_cla, cy_rc1 (by omega)]
  refine ⟨cy_kn (by omega), cy_2, vp_in_nI (N := 12) (by omega) (by decide), cy_kc (by omega), kb1, by rw [kb2]; exact vp_in_nI (by omega) (by decide), fun q11 hq11 => ?_⟩
  rw [in_c (by omega), cy_rb (by omega)] at hq11
  subst hq11
  rw [q1, g1]
  refine ⟨cy_ka (by omega) (by omega), cy_1, vp_in_nI (N := 4) (by omega) (by decide), fun q15 hq15 => ?_⟩
  rw [cy_p0, in_c (by omega), cy_rel] at hq15
  subst hq15
  obtain ⟨a5, b5⟩ := cy_krh (ad := ad) (r := dt_ar N (tr_nd ns p).1 a) (j := 5) (by omega) (by decide) (by decide)
  obtain ⟨a6, b6⟩ := cy_krh (ad := ad) (r := dt_ar N (tr_nd ns p).1 a) (j := 6) (by omega) (by decide) (by decide)
  obtain ⟨a7, b7⟩ := cy_krh (ad := ad) (r := dt_ar N (tr_nd ns p).1 a) (j := 7) (by omega) (by decide) (by decide)
  obtain ⟨y5, y6, y7⟩ := hy _ _ m3 m2 m4
  rw [cy_rr (by omega) (by decide) (by decide), cy_rr (by omega) (by decide) (by decide), cy_rr (by omega) (by decide) (by decide), show 6 - 1 = 5 from rfl, show 7 - 1 = 6 from rfl, show 8 - 1 = 7 from rfl, in_c (by omega), h31, in_c (by omega), cy_nod]
  refine ⟨cy_kr (by omega), a5, by rw [b5]; exact vp_in_nI (by omega) (by decide), fun x19 hx19 => ?_⟩
  rw [y5, m6] at hx19
  subst hx19
  refine ⟨vp_in_nI (N := 41) (by omega) (by decide), cy_kn (by omega), cy_kn (by omega), fun J1 h1 J2 h2 J3 h3 J4 h4 => ?_⟩
  have j4 : ∀ b, b ≠ 8 + 3 * ns.length → J4 b = J b := fun b hb => by rw [h4, ky_up_ne hb, h3, ky_up_ne hb, h2, ky_up_ne hb, h1, ky_up_ne hb]
  have j8 : J4 (8 + 3 * ns.length) = upd (upd (upd (upd (J (8 + 3 * ns.length)) 0 (nI (tr_cl N ns p a))) 1 (nI p)) 2 (nI a)) 3 (nI (tr_pm N ns p a)) := by rw [h4, ky_up_eq, h3, ky_up_eq, h2, ky_up_eq, h1, ky_up_eq]
  rw [in_c (by omega), cy_cla]
  refine ⟨vp_in_nI (N := 12) (by omega) (by decide), a6, by rw [b6]; exact vp_in_nI (by omega) (by decide), a7, by rw [b7]; exact vp_in_nI (by omega) (by decide), ?_⟩
  rw [j4 _ (by omega), j4 _ (by omega), y6, y7]
  have hhr : dt_hr N (tr_cl N ns p a) = dt_ar N (tr_nd ns p).1 a := by
    unfold dt_hr; rw [m7]; exact nu_n (by omega)
  have fn : ∀ b, tr_pv N (ns ++ [(tr_cl N ns p a, p, a, tr_pm N ns p a)]) ns.length b = N 17 (2 * (16 * dt_ar N (tr_nd ns p).1 a + tr_pm N ns p a) + b) := fun b => by
    unfold tr_pv
    rw [if_neg (by omega), tr_nd_n]
    show N 17 (2 * (16 * dt_hr N (tr_cl N ns p a) + tr_pm N ns p a) + b) = _
    rw [hhr]
  have hst4 : ts_k J4 (fun x => tr_pv N (ns ++ [(tr_cl N ns p a, p, a, tr_pm N ns p a)]) x.1 x.2) st := by
    refine ts_k.f (ts_k.keep hst (by rw [j4 3 (by omega)]) (j4 5 (by omega)) (j4 6 (by omega)) (j4 7 (by omega))) (fun x hx => ?_)
    have := (hok.2.2.2.2 x (List.mem_cons_of_mem _ hx)).1
    exact (tr_pv_l this).symm
  refine p_number (N := N) (n := ns.length) (f := fun x => tr_pv N (ns ++ [(tr_cl N ns p a, p, a, tr_pm N ns p a)]) x.1 x.2) (by omega) hna2 ?_ (by rw [j4 3 (by omega)]; exact h31) hst4 (by omega) (fun _ => (fn 0).symm) (fun _ => (fn 1).symm) (fun L hL h31L hsL => ?_)
  · rw [j4 _ (by omega), (hs.2.2.1 _ m5).2.2.2.1, (hw.2.2.2 _ m5).2.2.1]
  · have l8 : ∀ k, L (8 + 3 * k) = J4 (8 + 3 * k) := fun k => hL _ (by omega) (by omega) (by omega) (by omega)
    refine hk L (fun b hb => by rw [hL b (by omega) (by omega) (by omega) (by omega), j4 b (by omega)]) ⟨fun k hk9 => ?_, ?_, hsL⟩
    · have hk9 : k < (ns ++ [(tr_cl N ns p a, p, a, tr_pm N ns p a)]).length := hk9
      rw [List.length_append] at hk9
      have hk9 : k < ns.length + 1 := hk9
      show L (8 + 3 * k) 0 = nI (tr_nd (ns ++ [(tr_cl N ns p a, p, a, tr_pm N ns p a)]) k).1 ∧ L (8 + 3 * k) 1 = (if k = 0 then -1 else nI (tr_nd (ns ++ [(tr_cl N ns p a, p, a, tr_pm N ns p a)]) k).2.1) ∧ L (8 + 3 * k) 2 = nI (tr_nd (ns ++ [(tr_cl N ns p a, p, a, tr_pm N ns p a)]) k).2.2.1 ∧ L (8 + 3 * k) 3 = (if k = 0 then -1 else nI (tr_nd (ns ++ [(tr_cl N ns p a, p, a, tr_pm N ns p a)]) k).2.2.2)
      rw [l8]
      by_cases hkn : k = ns.length
      · subst hkn
        rw [j8, tr_nd_n, if_neg (by omega), if_neg (by omega)]
        exact ⟨rfl, rfl, rfl, rfl⟩
      · rw [j4 _ (by omega), tr_nd_l (by omega)]
        exact hn k (by omega)
    · show L 3 1 = nI (ns ++ [(tr_cl N ns p a, p, a, tr_pm N ns p a)]).length
      rw [h31L, List.length_append]
      rfl
set_option maxHeartbeats 2000000 in
theorem p_growTree_L {ad : Nat → Nat} {N I0 : Mm} {c : Nat} (hw : dt_w N) (hdy : dt_y N) (hz : dt_z N c) (hs : rl_s I0 N) (hy : rl_y I0 N) {post : Mm → Prop} (hk : ∀ J : Mm, tc_F I0 J → tc_m J N (tr_it N c 40) → post J) :
    ∀ (r t : Nat), t + r = 40 → ∀ J : Mm, tc_F I0 J → tc_m J N (tr_it N c t) → (∀ u, u < t → (tr_it N c u).2 ≠ []) → w_X6_growTree_L67 (cl_Y ad) post (fun J => post J) (r + 1) 0 (nI t) J := by
  have h40 : (40 : Int32).toInt = 40 := by decide
  intro r
  induction r with
  | zero =>
    intro t ht J hF hm _
    refine ⟨fun _ => hk J hF (by rw [← show t = 40 by omega]; exact hm), fun h => ?_⟩
    rw [in_le, in_n (by omega)] at h
    omega
  | succ r ih =>
    intro t ht J hF hm hne
    have hok := tr_ok_it hw hdy hz t
    have hlen := tr_it_len t hne
    refine ⟨fun h => ?_, fun _ => ⟨cy_0, cy_3, ?_⟩⟩
    · rw [in_le, in_n (by omega)] at h
      omega
    · rw [cy_p7, hm.2.2.1]
      have hb : (tr_it N c t).2.length ≤ (tr_it N c t).1.length + 1 := hok.2.1
      refine ⟨fun h => ?_, fun h => ?_⟩
      · rw [in_le, in_n (by omega), in_0] at h
        have h0 : (tr_it N c t).2 = [] := List.length_eq_zero_iff.mp (by omega)
        refine hk J hF ?_
        rw [tr_it_stop h0 40 (by omega)]
        exact hm
      · rw [in_le, in_n (by omega), in_0] at h
        intro J1 h1
        have hstep : tr_it N c (t + 1) = tr_step N (tr_it N c t) := rfl
        generalize hgs : tr_it N c t = s at *
        obtain ⟨ns, st⟩ := s
        cases st with
        | nil => exact absurd (Int.le_refl 0) h
        | cons x st =>
          obtain ⟨p, a⟩ := x
          obtain ⟨hm1, hm2, hm3⟩ := hm
          have hlen : ns.length = t + 1 := hlen
          have hb : st.length + 1 ≤ ns.length + 1 := hb
          have e1 : nI (st.length + 1) - 1 = nI st.length := by
            rw [in_eq, in_sub (by rw [in_n (by omega), in_1]; omega) (by rw [in_n (by omega), in_1]; omega), in_n (by omega), in_n (by omega), in_1]
            omega
          have h1 : J1 = ky_up J 3 5 (nI (st.length + 1) - 1) := h1
          rw [e1] at h1
          have f35 : J1 3 5 = nI st.length := by rw [h1, ky_up_eq]; unfold upd; rw [if_pos rfl]
          have f31 : J1 3 1 = nI ns.length := by rw [h1, ky_up_eq]; unfold upd; rw [if_neg (by decide)]; exact hm2
          have fo : ∀ b, b ≠ 3 → J1 b = J b := fun b hb => by rw [h1]; exact ky_up_ne hb
          have hF1 : tc_F I0 J1 := hF.tr (fun b hb => fo b (by omega))
          obtain ⟨t1, t2, t3⟩ := hm3.top
          rw [cy_t2, cy_t3, cy_t4, f35, in_c (by omega), fo 5 (by decide), fo 6 (by decide), fo 7 (by decide), t1, t2, t3]
          refine ⟨cy_5, vp_in_nI (N := 82) (by omega) (by decide), cy_6, vp_in_nI (N := 82) (by omega) (by decide), cy_7, vp_in_nI (N := 82) (by omega) (by decide), ?_⟩
          refine p_growChild hw hdy hz (hF1.s hs) (hF1.y hy) hok (by omega) (fun k hk9 => by rw [fo _ (by omega)]; exact hm1 k hk9) f31 (hm3.pop f35 (fo 5 (by decide)) (fo 6 (by decide)) (fo 7 (by decide))) (fun L hL hmL x28 hx28 => ?_)
          rw [hx28, in_s]
          refine ih (t + 1) (by omega) L (hF1.tr hL) (by rw [hstep]; exact hmL) (fun u hu => ?_)
          by_cases hut : u = t
          · rw [hut, hgs]; intro h9; cases h9
          · exact hne u (by omega)
set_option maxHeartbeats 2000000 in
theorem p_growTree {ad : Nat → Nat} {N I : Mm} {c k : Nat} (hw : dt_w N) (hdy : dt_y N) (hz : dt_z N c) (hs : rl_s I N) (hy : rl_y I N) (h6 : I 0 6 = nI c) (hk9 : k < 256) (h0 : N 18 0 = dt_on N c 0 (k / 16)) (h1 : N 18 1 = dt_on N c 1 (k % 16)) {post : Mm → Prop} (hk : ∀ J : Mm, tc_F I J → tc_m J N (tr_it N c 40) → post J) : w_X6_growTree (cl_Y ad) I 0 (nI k) post := by
  have h12 := hw.2.2.1
  have hc := hz.1
  have hna := (hw.2.2.2 _ hc).2.2.2.1
  refine ⟨cy_0, cy_3, fun J1 j1 J2 j2 => ?_⟩
  rw [cy_p7] at j1 j2
  have f2 : ∀ b, b ≠ 3 → J2 b = I b := fun b hb => by rw [j2, ky_up_ne hb, j1, ky_up_ne hb]
  rw [f2 0 (by decide), h6]
  refine ⟨cy_2, vp_in_nI (N := 12) (by omega) (by decide), fun q7 hq7 => ?_⟩
  rw [cy_p2, in_c (by omega), cy_cla] at hq7
  subst hq7
  refine ⟨cy_4, vp_in_nI (n := 0) (N := 41) (by decide) (by decide), cy_kn (n := 0) (by decide), cy_kn (n := 0) (by decide), fun J3 j3 J4 j4 J5 j5 J6 j6 => ?_⟩
  have j3 : J3 = ky_up J2 8 0 (nI c) := j3
  have j4 : J4 = ky_up J3 8 1 (-1) := j4
  have j5 : J5 = ky_up J4 8 2 0 := j5
  have j6 : J6 = ky_up J5 8 3 (-1) := j6
  have f6 : ∀ b, b ≠ 8 → J6 b = J2 b := fun b hb => by rw [j6, ky_up_ne hb, j5, ky_up_ne hb, j4, ky_up_ne hb, j3, ky_up_ne hb]
  have f8 : J6 8 = upd (upd (upd (upd (J2 8) 0 (nI c)) 1 (-1)) 2 0) 3 (-1) := by rw [j6, ky_up_eq, j5, ky_up_eq, j4, ky_up_eq, j3, ky_up_eq]
  have hF : tc_F I J6 := fun b hb => by rw [f6 b (by omega), f2 b (by omega)]
  refine ⟨cy_kc (by omega), p_premise (a := 0) hw (hF.s hs) hc (by decide) hk9 (p_premise (a := 1) hw (hF.s hs) hc (by decide) hk9 ?_)⟩
  rw [if_pos rfl, if_neg (by decide), ← h0, ← h1]
  have g35 : J6 3 5 = nI ([] : List (Nat × Nat)).length := by rw [f6 3 (by decide), j2, ky_up_eq]; unfold upd; rw [if_pos rfl]; rfl
  have g31 : J6 3 1 = nI 0 := by rw [f6 3 (by decide), j2, ky_up_eq]; unfold upd; rw [if_neg (by decide), j1, ky_up_eq]; unfold upd; rw [if_pos rfl]; rfl
  have hs6 : ts_k J6 (fun x => tr_pv N [(c, 0, 0, 0)] x.1 x.2) [] := ⟨g35, fun i x hx => by cases hx⟩
  refine p_number (N := N) (n := 0) (by omega) hna ?_ g31 hs6 (by decide) (fun _ => by unfold tr_pv; rw [if_pos rfl]) (fun _ => by unfold tr_pv; rw [if_pos rfl]) (fun L hL h31L hsL => ?_)
  · rw [hF _ (by omega), (hs.2.2.1 _ hc).2.2.2.1, (hw.2.2.2 _ hc).2.2.1]
  · refine ⟨40 + 1, p_growTree_L (I0 := I) hw hdy hz hs hy hk 40 0 (by decide) L (hF.tr (fun b hb => hL b (by omega) (by omega) (by omega) (by omega))) ⟨fun k9 hk9 => ?_, h31L, hsL⟩ (fun u hu => absurd hu (Nat.not_lt_zero u))⟩
    have hk9 : k9 < 1 := hk9
    have e : k9 = 0 := by omega
    subst e
    show L 8 0 = _ ∧ L 8 1 = _ ∧ L 8 2 = _ ∧ L 8 3 = _
    rw [hL 8 (by decide) (by decide) (by decide) (by decide), f8]
    exact ⟨rfl, rfl, rfl, rfl⟩
