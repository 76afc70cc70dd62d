/-! THE CLASS: restrict, lay, nextPremises -/
theorem df_C_mem {n : Nat} {E F : List Ed} {M : Nat → Nat → Option Int} (h : ∀ e, e ∈ E ↔ e ∈ F) (hC : df_C n E M) : df_C n F M :=
  ⟨hC.1, hC.2.1, fun e he => hC.2.2.1 e ((h e).mpr he), fun y hy => hC.2.2.2 y (fun e he => hy e ((h e).mp he))⟩
theorem df_S_mem {E F : List Ed} (h : ∀ e, e ∈ E ↔ e ∈ F) : df_S E ↔ df_S F := ⟨fun hs => df_S_sub hs (fun e he => (h e).mpr he), fun hs => df_S_sub hs (fun e he => (h e).mp he)⟩
theorem cl_S_mem {I : Mm} {k : Nat} {E F : List Ed} (h : ∀ e, e ∈ E ↔ e ∈ F) (hS : cl_S I k E) : cl_S I k F := hS.imp (fun ⟨a, b⟩ => ⟨a, df_C_mem h b⟩) (fun ⟨a, b⟩ => ⟨a, fun hs => b ((df_S_mem h).mpr hs)⟩)
theorem cl_S_fl {I : Mm} {k : Nat} {E : List Ed} (hP : df_P 6 E) (hS : cl_S I k E) : (I k 1 = 1 ∧ df_S E) ∨ (I k 1 = 0 ∧ ¬ df_S E) := hS.imp (fun ⟨a, b⟩ => ⟨a, df_C_S b hP⟩) id
theorem cl_S_keep {I J : Mm} {k : Nat} {E : List Ed} (h1 : J k = I k) (h2 : J (k + 1) = I (k + 1)) (hS : cl_S I k E) : cl_S J k E := by
  unfold cl_S
  rw [h1, h2]
  exact hS
/-- the class's memory holds the data -/
def rl_r (I N : Mm) : Prop := I 0 1 = N 0 1 ∧ (∀ r, r < dt_nr N → I (137 + 8 * r) 0 = N 1 r) ∧ (∀ r, r < 4 → I (137 + 8 * r) 1 = N 2 r) ∧
  ∀ r k, r < dt_nr N → k < dt_nm N r → I (137 + 8 * r + 1) k = N 3 (4 * r + k) ∧ I (137 + 8 * r + 2) k = N 4 (4 * r + k) ∧ I (137 + 8 * r + 3) k = N 5 (4 * r + k)
def rl_1 (I N : Mm) (c : Nat) : Prop := I (170 + 7 * c) 0 = N 6 c ∧ I (170 + 7 * c) 1 = N 7 (2 * c) ∧ I (170 + 7 * c) 2 = N 7 (2 * c + 1) ∧ I (169 + 7 * c) 2 = N 8 c ∧ I (169 + 7 * c) 4 = N 11 c ∧
  (∀ a, a < dt_na N c → I (174 + 7 * c + a) 0 = N 9 (2 * c + a) ∧ I (174 + 7 * c + a) 1 = N 10 (2 * (2 * c + a)) ∧ I (174 + 7 * c + a) 2 = N 10 (2 * (2 * c + a) + 1)) ∧ cl_S I (172 + 7 * c) (dt_bE N c 0 5)
def rl_c (I N : Mm) : Prop := I 0 3 = N 0 7 ∧ (∀ c, c < dt_nc N → rl_1 I N c) ∧ ∀ c, dt_nc N ≤ c → c < 12 → I (169 + 7 * c) 2 = 0 ∧ I (169 + 7 * c) 4 = 0 ∧ cl_S I (172 + 7 * c) []
def rl_s (I N : Mm) : Prop := rl_r I N ∧ rl_c I N
/-- a state is there for the class when it is for the reference -/
def rl_q (I N : Mm) : Prop := ∀ r m, r < 4 → m < 16 → ((¬ I (137 + 8 * r + 4) m = 0 ∧ I (137 + 8 * r + 4) m ≤ I 0 4) ↔ dt_bf N r m)
/-- nothing but the three sets for seeking has changed -/
def cs_F (I J : Mm) : Prop := ∀ a, a < 131 ∨ 137 ≤ a → J a = I a
theorem cs_F.rf {I : Mm} : cs_F I I := fun _ _ => rfl
theorem cs_F.tr {I J L : Mm} (h1 : cs_F I J) (h2 : cs_F J L) : cs_F I L := fun a ha => (h2 a ha).trans (h1 a ha)
theorem cs_F.of {I J : Mm} {k : Nat} (h : cl_F I J k) (h1 : 131 ≤ k) (h2 : k + 1 < 137) : cs_F I J := fun a ha => h.1 a (by omega) (by omega)
theorem cs_F.r {I J N : Mm} (h : cs_F I J) (hr : rl_r I N) : rl_r J N := by
  refine ⟨by rw [h 0 (by omega)]; exact hr.1, fun r h9 => by rw [h _ (by omega)]; exact hr.2.1 r h9, fun r h9 => by rw [h _ (by omega)]; exact hr.2.2.1 r h9, fun r k h8 h9 => ?_⟩
  rw [h _ (by omega), h _ (by omega), h _ (by omega)]
  exact hr.2.2.2 r k h8 h9
theorem cs_F.c {I J N : Mm} (h : cs_F I J) (hr : rl_c I N) : rl_c J N := by
  refine ⟨by rw [h 0 (by omega)]; exact hr.1, fun c hc => ?_, fun c h8 h9 => ?_⟩
  · obtain ⟨h1, h2, h3, h4, h5, h6, h7⟩ := hr.2.1 c hc
    refine ⟨by rw [h _ (by omega)]; exact h1, by rw [h _ (by omega)]; exact h2, by rw [h _ (by omega)]; exact h3, by rw [h _ (by omega)]; exact h4, by rw [h _ (by omega)]; exact h5, fun a ha => by rw [h _ (by omega)]; exact h6 a ha, cl_S_keep (h _ (by omega)) (h _ (by omega)) h7⟩
  · obtain ⟨h1, h2, h3⟩ := hr.2.2 c h8 h9
    exact ⟨by rw [h _ (by omega)]; exact h1, by rw [h _ (by omega)]; exact h2, cl_S_keep (h _ (by omega)) (h _ (by omega)) h3⟩
theorem cs_F.s {I J N : Mm} (h : cs_F I J) (hr : rl_s I N) : rl_s J N := ⟨h.r hr.1, h.c hr.2⟩
theorem cs_F.q {I J N : Mm} (h : cs_F I J) (hr : rl_q I N) : rl_q J N := fun r m h8 h9 => by rw [h _ (by omega), h 0 (by omega)]; exact hr r m h8 h9
theorem p_pointAt {Y : Ly} {I : Mm} {u x y : Nat} (hu : u < 3) {post : Int32 → Mm → Prop} (hk : post (nI (dt_pt 5 x y u)) I) : w_X6_pointAt Y I (nI u) (nI x) (nI y) post := by
  unfold dt_pt at hk
  refine ⟨fun h => ⟨fun h2 => ?_, fun h2 => ?_⟩, fun h => ?_⟩
  · rw [in_e2 (by omega)] at h
    rw [in_e0 (by omega)] at h2
    rw [if_neg h2, if_pos (by omega)] at hk
    exact hk
  · rw [in_e0 (by omega)] at h2
    rw [if_pos h2] at hk
    exact hk
  · rw [in_e2 (by omega)] at h
    rw [if_neg (by omega), if_neg (by omega)] at hk
    exact hk
set_option maxHeartbeats 2000000 in
theorem p_restrict_L {ad : Nat → Nat} {N I0 : Mm} {r m x y k : Nat} (hw : dt_w N) (hr : r < dt_nr N) (hm : m < 16) (hx : x < 6) (hy : y < 6) (hB : cl_B (cl_Y ad) k) (hk1 : 131 ≤ k) (hk2 : k + 1 < 137) {E : List Ed} (hsm : cl_sm 1001 E) {post : Mm → Prop} (hk : ∀ J, cl_F I0 J k → cl_S J k (E ++ dt_cE N r 5 x y m) → post J) : ∀ (n j : Nat), j + n = dt_nm N r → ∀ I : Mm, rl_r I N → cl_F I0 I k → cl_S I k (E ++ (List.range j).map (dt_me N r 5 x y m)) → w_X4_restrict_L3 (cl_Y ad) post (fun J => post J) (n + 1) (137 + 8 * r) k (nI m) (nI x) (nI y) (nI j) I := by
  obtain ⟨_, hr4, hpl, hnm, hmk⟩ := hw.1
  obtain ⟨hn1, hn2, _⟩ := hnm r (by omega)
  intro n
  induction n with
  | zero =>
    intro j hj I hrl hF hS
    refine ⟨cy_kr (by omega), ?_⟩
    rw [hrl.2.2.1 r (by omega), hn1]
    refine ⟨fun _ => hk I hF (by unfold dt_cE; rw [← show j = dt_nm N r by omega]; exact hS), fun h => ?_⟩
    rw [in_le, in_n (by omega), in_n (by omega)] at h
    omega
  | succ n ih =>
    intro j hj I hrl hF hS
    obtain ⟨u, v, g1, g2, hu, hv, _, g3, g4⟩ := hmk r j hr (by omega)
    obtain ⟨_, hp⟩ := hpl r hr
    have hu3 : u < 3 := by omega
    have hv3 : v < 3 := by omega
    have nu1 : nu (N 3 (4 * r + j)) = u := by rw [g1]; exact nu_n (by omega)
    have nv1 : nu (N 4 (4 * r + j)) = v := by rw [g2]; exact nu_n (by omega)
    obtain ⟨i1, i2, i3⟩ := hrl.2.2.2 r j hr (by omega)
    have hsm2 : cl_sm 1001 (E ++ (List.range j).map (dt_me N r 5 x y m)) := cl_sm_app hsm (fun e he => dt_cE_ok (m := m) hw hr hx hy e (by
      obtain ⟨a, ha, rfl⟩ := List.mem_map.mp he
      rw [List.mem_range] at ha
      exact List.mem_map.mpr ⟨a, List.mem_range.mpr (by omega), rfl⟩))
    have next : ∀ J, cl_F I J k → cl_S J k (dt_me N r 5 x y m j :: (E ++ (List.range j).map (dt_me N r 5 x y m))) → ∀ z, z = nI j + 1 → w_X4_restrict_L3 (cl_Y ad) post (fun J => post J) (n + 1) (137 + 8 * r) k (nI m) (nI x) (nI y) z J := fun J hJ hSJ z hz => by
      rw [hz, in_s]
      refine ih (j + 1) (by omega) J ((cs_F.of hJ hk1 hk2).r hrl) (hF.tr hJ) (cl_S_mem (fun e => ?_) hSJ)
      rw [List.range_succ, List.map_append]
      simp only [List.mem_cons, List.mem_append, List.map_cons, List.map_nil, List.not_mem_nil, or_false]
      constructor
      · rintro (h | h | h)
        · exact Or.inr (Or.inr h)
        · exact Or.inl h
        · exact Or.inr (Or.inl h)
      · rintro (h | h | h)
        · exact Or.inr (Or.inl h)
        · exact Or.inr (Or.inr h)
        · exact Or.inl h
    refine ⟨cy_kr (by omega), ?_⟩
    rw [hrl.2.2.1 r (by omega), hn1]
    refine ⟨fun h => ?_, fun _ => ?_⟩
    · rw [in_le, in_n (by omega), in_n (by omega)] at h
      omega
    · rw [cy_rr (by omega) (by decide) (by decide), cy_rr (by omega) (by decide) (by decide), cy_rr (by omega) (by decide) (by decide)]
      obtain ⟨a1, b1⟩ := cy_krm (ad := ad) (r := r) (j := 1) (by omega) (by decide) (by decide)
      obtain ⟨a2, b2⟩ := cy_krm (ad := ad) (r := r) (j := 2) (by omega) (by decide) (by decide)
      obtain ⟨a3, b3⟩ := cy_krm (ad := ad) (r := r) (j := 3) (by omega) (by decide) (by decide)
      refine ⟨a1, by rw [show 2 - 1 = 1 from rfl, b1]; exact vp_in_nI (by omega) (by decide), ?_⟩
      rw [show 2 - 1 = 1 from rfl, show 3 - 1 = 2 from rfl, show 4 - 1 = 3 from rfl, in_c (by omega), i1, g1]
      refine p_pointAt hu3 ⟨a2, by rw [b2]; exact vp_in_nI (by omega) (by decide), ?_⟩
      rw [i2, g2]
      refine p_pointAt hv3 ⟨fun h => ⟨a3, by rw [b3]; exact vp_in_nI (by omega) (by decide), hB.1, ?_⟩, fun h => ⟨a3, by rw [b3]; exact vp_in_nI (by omega) (by decide), hB.1, ?_⟩⟩
      · rw [in_bit1 (by omega) (by omega)] at h
        rw [i3]
        refine p_add hB (dt_pt_lt hx hy) (dt_pt_lt hx hy) hS (by decide) hsm2 (by rw [in_opp g3 g4]; omega) (fun J hJ hSJ => next J hJ ?_)
        have : dt_me N r 5 x y m j = (dt_pt 5 x y v, dt_pt 5 x y u, (-(N 5 (4 * r + j)) - 1).toInt) := by unfold dt_me; rw [if_neg h, nu1, nv1, in_opp g3 g4]
        rw [this]
        exact hSJ
      · rw [in_bit1 (by omega) (by omega)] at h
        rw [i3]
        refine p_add hB (dt_pt_lt hx hy) (dt_pt_lt hx hy) hS (by decide) hsm2 (by omega) (fun J hJ hSJ => next J hJ ?_)
        have : dt_me N r 5 x y m j = (dt_pt 5 x y u, dt_pt 5 x y v, (N 5 (4 * r + j)).toInt) := by unfold dt_me; rw [if_pos h, nu1, nv1]
        rw [this]
        exact hSJ
theorem p_restrict {ad : Nat → Nat} {N I : Mm} {r m x y k : Nat} (hw : dt_w N) (hrl : rl_r I N) (hr : r < dt_nr N) (hm : m < 16) (hx : x < 6) (hy : y < 6) (hB : cl_B (cl_Y ad) k) (hk1 : 131 ≤ k) (hk2 : k + 1 < 137) {E : List Ed} (hS : cl_S I k E) (hsm : cl_sm 1001 E) {post : Mm → Prop} (hk : ∀ J, cl_F I J k → cl_S J k (E ++ dt_cE N r 5 x y m) → post J) : w_X4_restrict (cl_Y ad) I (137 + 8 * r) k (nI m) (nI x) (nI y) post :=
  ⟨dt_nm N r + 1, p_restrict_L hw hr hm hx hy hB hk1 hk2 hsm hk (dt_nm N r) 0 (by omega) I hrl cl_F.rf (by simpa using hS)⟩
/-- what an atom adds -/
def dt_at (N : Mm) (c a x : Nat) : List Ed := if a < dt_na N c then dt_cE N (dt_ar N c a) 5 (dt_av N c a 0) (dt_av N c a 1) x else []
theorem dt_at_ok {N : Mm} (hw : dt_w N) {c a x : Nat} (hc : c < dt_nc N) : cl_sm 1001 (dt_at N c a x) := by
  unfold dt_at
  split
  · rename_i ha
    obtain ⟨_, h2, h3⟩ := (hw.2.2.2 c hc).2.2.2.2.1 a ha
    exact dt_cE_ok hw h2 (by have := (h3 0 (by decide)).2; omega) (by have := (h3 1 (by decide)).2; omega)
  · intro e he; cases he
set_option maxHeartbeats 2000000 in
theorem p_lay {ad : Nat → Nat} {N I : Mm} {c a x k b : Nat} (hw : dt_w N) (hs : rl_s I N) (hq : rl_q I N) (hc : c < dt_nc N) (ha : a < 2) (hx : x < 16) (hB : cl_B (cl_Y ad) k) (hk1 : 131 ≤ k) (hk2 : k + 1 < 137) (hB2 : cl_B (cl_Y ad) b) (hne : b ≠ k) (hne2 : b + 1 ≠ k) (hne3 : b ≠ k + 1) {E : List Ed} (hS : cl_S I b E) (hsm : cl_sm 1001 E) {post : Int32 → Mm → Prop}
    (hk : ∀ (J : Mm) (r : Int32), cl_F I J k → ((r = 1 ∧ (a < dt_na N c → dt_bf N (dt_ar N c a) x) ∧ cl_S J k (E ++ dt_at N c a x) ∧ df_S (E ++ dt_at N c a x)) ∨ (r = 0 ∧ ¬ ((a < dt_na N c → dt_bf N (dt_ar N c a) x) ∧ df_S (E ++ dt_at N c a x)))) → post r J) : w_X6_lay (cl_Y ad) I 0 k b (169 + 7 * c) (nI a) (nI x) post := by
  have hcc := hw.2.2.2 c hc
  have h12 := hw.2.2.1
  have hr4 := hw.1.2.1
  obtain ⟨_, _, ha1, ha2, ha3, _⟩ := hcc
  obtain ⟨_, _, _, r4, _, r6, _⟩ := hs.2.2.1 c hc
  refine ⟨cy_kc (by omega), ?_⟩
  rw [r4, ha1]
  refine ⟨fun h => ?_, fun h => ⟨hB.1, ?_⟩⟩
  · rw [in_lt, in_n (by omega), in_n (by omega)] at h
    have hlt : a < dt_na N c := by omega
    obtain ⟨g1, g2, g3⟩ := ha3 a hlt
    obtain ⟨q1, q2, q3⟩ := r6 a hlt
    obtain ⟨kb1, kb2⟩ := cy_kb (ad := ad) (c := c) (by omega)
    rw [cy_rc1 (by omega)]
    refine ⟨kb1, by rw [kb2]; exact vp_in_nI (by omega) (by decide), fun q4 hq4 => ?_⟩
    rw [in_c (by omega), cy_rb (by omega)] at hq4
    subst hq4
    rw [cy_p0]
    refine ⟨cy_0, cy_ka (by omega) ha, cy_1, by rw [q1, g1]; exact vp_in_nI (N := 4) (by omega) (by decide), fun q9 hq9 => ?_⟩
    rw [q1, g1, in_c (by omega), cy_rel] at hq9
    subst hq9
    obtain ⟨kh1, kh2⟩ := cy_krh (ad := ad) (r := dt_ar N c a) (j := 4) (by omega) (by decide) (by decide)
    rw [cy_rr (by omega) (by decide) (by decide)]
    refine ⟨cy_kr (by omega), kh1, by rw [show 5 - 1 = 4 from rfl, kh2]; exact vp_in_nI (by omega) (by decide), fun z hz => ?_⟩
    rw [show 5 - 1 = 4 from rfl, in_c (by omega)] at hz
    have hbf : dt_bf N (dt_ar N c a) x ↔ ¬ z = 0 ∧ z ≤ I 0 4 := by rw [hz]; exact (hq _ _ (by omega) hx).symm
    have hat : dt_at N c a x = dt_cE N (dt_ar N c a) 5 (dt_av N c a 0) (dt_av N c a 1) x := by unfold dt_at; rw [if_pos hlt]
    refine ⟨fun h0 => hk I 0 cl_F.rf (Or.inr ⟨rfl, fun h9 => (hbf.mp (h9.1 hlt)).1 h0⟩), fun h0 => ⟨fun h1 => ⟨hB.1, ?_⟩, fun h1 => hk I 0 cl_F.rf (Or.inr ⟨rfl, fun h9 => h1 (hbf.mp (h9.1 hlt)).2⟩)⟩⟩
    refine p_copy hB hB2 hne hne2 hne3 hS hsm.P (fun J hJ hSJ _ => ?_)
    have hcs := cs_F.of hJ hk1 hk2
    obtain ⟨x0, x0'⟩ := g3 0 (by decide)
    obtain ⟨x1, x1'⟩ := g3 1 (by decide)
    rw [Nat.add_zero] at x0
    rw [hcs _ (by omega), q2, q3, x0, x1]
    refine p_restrict hw (hcs.r hs.1) g2 hx (by omega) (by omega) hB hk1 hk2 hSJ hsm (fun L hL hSL => ?_)
    have hok : cl_sm 1001 (E ++ dt_at N c a x) := cl_sm_app hsm (dt_at_ok hw hc)
    rw [← hat] at hSL
    rcases cl_S_fl hok.P hSL with ⟨f1, f2⟩ | ⟨f1, f2⟩
    · exact ⟨Or.inr f1, by rw [f1]; exact hk L 1 (hJ.tr hL) (Or.inl ⟨rfl, fun _ => hbf.mpr ⟨h0, h1⟩, hSL, f2⟩)⟩
    · exact ⟨Or.inl f1, by rw [f1]; exact hk L 0 (hJ.tr hL) (Or.inr ⟨rfl, fun h9 => f2 h9.2⟩)⟩
  · rw [in_lt, in_n (by omega), in_n (by omega)] at h
    have hat : dt_at N c a x = [] := by unfold dt_at; rw [if_neg (by omega)]
    refine p_copy hB hB2 hne hne2 hne3 hS hsm.P (fun J hJ hSJ _ => ?_)
    rw [hat, List.append_nil] at hk
    rcases cl_S_fl hsm.P hSJ with ⟨f1, f2⟩ | ⟨f1, f2⟩
    · exact ⟨Or.inr f1, by rw [f1]; exact hk J 1 hJ (Or.inl ⟨rfl, fun h9 => by omega, hSJ, f2⟩)⟩
    · exact ⟨Or.inl f1, by rw [f1]; exact hk J 0 hJ (Or.inr ⟨rfl, fun h9 => f2 h9.2⟩)⟩
