/-! THE CLASS: handUp, closeTree -/
theorem dq_X_mem {E E' : List Ed} (h : ∀ e, e ∈ E ↔ e ∈ E') {y : Nat → Option Int} : df_X E y ↔ df_X E' y := ⟨fun hy e he => hy e ((h e).mpr he), fun hy e he => hy e ((h e).mp he)⟩
theorem dq_Q_mem {E E' : List Ed} (h : ∀ e, e ∈ E ↔ e ∈ E') {pt : Nat → Nat} {M : Nat → Nat → Option Int} (hQ : dq_Q E pt M) : dq_Q E' pt M :=
  ⟨hQ.1, hQ.2.1, fun y hy => hQ.2.2.1 y ((dq_X_mem h).mpr hy), fun x hx => (hQ.2.2.2 x hx).elim fun y hy => ⟨y, (dq_X_mem h).mp hy.1, hy.2⟩⟩
/-- the numbers seen are not large -/
theorem dq_bd {E : List Ed} {pt : Nat → Nat} {M : Nat → Nat → Option Int} (hok : md_ok 201 E) (hS : df_S E) (hpt : ∀ i, i < 6 → pt i < 201) (hQ : dq_Q E pt M) {i j : Nat} (hi : i < 6) (hj : j < 6) {a : Int} (ha : M i j = some a) : -201201 ≤ a ∧ a ≤ 201201 := by
  obtain ⟨Mb, hC⟩ := df_S_C E hok.P hS
  rw [dq_Q_eq hok.P hC hpt hQ hi hj] at ha
  have := df_C_bd hC hok.P (K := 1001) (by decide) (fun e he => ⟨(hok.2 e he).2.2.1, (hok.2 e he).2.2.2⟩) (hpt i hi) (hpt j hj) ha
  omega
/-- what the set of a node says: its own bounds, and those below its children later than m -/
def cq_1 (J N : Mm) (ns : List Nd) (n m : Nat) : Prop := (J (9 + 3 * n) 1 = 1 ∧ df_S (td_E N ns n (td_D ns n m)) ∧ dq_Q (td_E N ns n (td_D ns n m)) (dq_pt n) (cl_M (J (10 + 3 * n)))) ∨ (J (9 + 3 * n) 1 = 0 ∧ ¬ df_S (td_E N ns n (td_D ns n m)))
theorem cq_1.keep {J L N : Mm} {ns : List Nd} {n m : Nat} (h : cq_1 J N ns n m) (h1 : L (9 + 3 * n) = J (9 + 3 * n)) (h2 : L (10 + 3 * n) = J (10 + 3 * n)) : cq_1 L N ns n m := by
  unfold cq_1
  rw [h1, h2]
  exact h
theorem cq_1.cg {J N : Mm} {ns : List Nd} {n m m' : Nat} (h : cq_1 J N ns n m) (he : ∀ k, k < ns.length → (td_D ns n m k ↔ td_D ns n m' k)) : cq_1 J N ns n m' := by
  have hm := td_E_congr (N := N) (n := n) he
  rcases h with ⟨a, b, c⟩ | ⟨a, b⟩
  · exact Or.inl ⟨a, (df_S_mem hm).mp b, dq_Q_mem hm c⟩
  · exact Or.inr ⟨a, fun h9 => b ((df_S_mem hm).mpr h9)⟩
theorem td_md_D {N : Mm} {ns : List Nd} (h : td_ok N ns) {n m : Nat} : md_ok 201 (td_E N ns n (td_D ns n m)) := td_md h (fun k hk hD hne => by
  rcases hD with e | ⟨j, _, _, j3, _, j5⟩
  · exact absurd e hne
  · have := tr_D.le h.2.2.1 hk j5; omega)
theorem mk_co_nI {N : Mm} {r u : Nat} (hu : u < 3) : mk_co N r (nI u) ↔ u = 2 ∨ u < dt_pl N r := by
  unfold mk_co
  rw [in_e2 (by omega), in_n (by omega)]
  omega
/-- the corners handed up so far -/
def cq_g (M2 : Nat → Nat → Option Int) (au hu : Nat → Nat) (pl t : Nat) : List Ed := if ((t / 3 = 2 ∨ t / 3 < pl) ∧ (t % 3 = 2 ∨ t % 3 < pl) ∧ t / 3 ≠ t % 3) then (match M2 (hu (t / 3)) (hu (t % 3)) with | some a => [(au (t / 3), au (t % 3), a)] | none => []) else []
def cq_G (M2 : Nat → Nat → Option Int) (au hu : Nat → Nat) (pl t : Nat) : List Ed := (List.range t).flatMap (cq_g M2 au hu pl)
theorem cq_g_mem {M2 : Nat → Nat → Option Int} {au hu : Nat → Nat} {pl t : Nat} {e : Ed} : e ∈ cq_g M2 au hu pl t ↔ (t / 3 = 2 ∨ t / 3 < pl) ∧ (t % 3 = 2 ∨ t % 3 < pl) ∧ t / 3 ≠ t % 3 ∧ ∃ a, M2 (hu (t / 3)) (hu (t % 3)) = some a ∧ e = (au (t / 3), au (t % 3), a) := by
  unfold cq_g
  by_cases h : ((t / 3 = 2 ∨ t / 3 < pl) ∧ (t % 3 = 2 ∨ t % 3 < pl) ∧ t / 3 ≠ t % 3)
  · rw [if_pos h]
    cases hM : M2 (hu (t / 3)) (hu (t % 3)) with
    | none => exact ⟨fun h9 => (by cases h9), fun ⟨_, _, _, a, h9, _⟩ => by cases h9⟩
    | some a =>
      refine ⟨fun h9 => ⟨h.1, h.2.1, h.2.2, a, rfl, ?_⟩, fun ⟨_, _, _, b, h9, h8⟩ => ?_⟩
      · exact List.mem_singleton.mp h9
      · cases h9; exact List.mem_singleton.mpr h8
  · rw [if_neg h]
    exact ⟨fun h9 => (by cases h9), fun ⟨a, b, c, _⟩ => absurd ⟨a, b, c⟩ h⟩
theorem cq_G_s {M2 : Nat → Nat → Option Int} {au hu : Nat → Nat} {pl t : Nat} {e : Ed} : e ∈ cq_G M2 au hu pl (t + 1) ↔ e ∈ cq_g M2 au hu pl t ∨ e ∈ cq_G M2 au hu pl t := by
  unfold cq_G
  rw [List.range_succ, List.flatMap_append, List.mem_append]
  rw [show List.flatMap (cq_g M2 au hu pl) [t] = cq_g M2 au hu pl t by simp]
  exact Or.comm
theorem cq_G_9 {M2 : Nat → Nat → Option Int} {au hu : Nat → Nat} {pl : Nat} (hpl : pl ≤ 2) : dq_G (cq_G M2 au hu pl 9) M2 au hu pl := fun e => by
  unfold cq_G
  rw [List.mem_flatMap]
  constructor
  · rintro ⟨t, ht, he⟩
    obtain ⟨h1, h2, h3, a, h4, h5⟩ := cq_g_mem.mp he
    exact ⟨_, _, a, h1, h2, h3, h4, h5⟩
  · rintro ⟨u, v, a, h1, h2, h3, h4, h5⟩
    have e1 : (3 * u + v) / 3 = u := by omega
    have e2 : (3 * u + v) % 3 = v := by omega
    refine ⟨3 * u + v, List.mem_range.mpr (by omega), cq_g_mem.mpr ?_⟩
    rw [e1, e2]
    exact ⟨h1, h2, h3, a, h4, h5⟩
theorem cq_G_sm {M2 : Nat → Nat → Option Int} {au hu : Nat → Nat} {pl : Nat} (hpl : pl ≤ 2) (lt : ∀ u, au u < 6 ∧ hu u < 6) {K : Int} (hK : ∀ i j a, i < 6 → j < 6 → M2 i j = some a → -K ≤ a ∧ a ≤ K) (t : Nat) : cl_sm K (cq_G M2 au hu pl t) := fun e he => by
  unfold cq_G at he
  obtain ⟨t', _, he⟩ := List.mem_flatMap.mp he
  obtain ⟨_, _, _, a, h4, rfl⟩ := cq_g_mem.mp he
  obtain ⟨b1, b2⟩ := hK _ _ a (lt _).2 (lt _).2 h4
  exact ⟨(lt _).1, (lt _).1, b1, b2⟩
theorem p_point {ad : Nat → Nat} {I : Mm} {k u x y : Nat} (hki : ky_is (cl_Y ad) k 2) (hx : I k 1 = nI x) (hy : I k 2 = nI y) (hu : u < 3) {post : Int32 → Mm → Prop} (hk : post (nI (dt_pt 5 x y u)) I) : w_X2_point (cl_Y ad) I k (nI u) post := by
  refine ⟨hki, ?_⟩
  rw [hx, hy]
  exact p_pointAt hu hk
set_option maxHeartbeats 4000000 in
theorem p_handUp_L {ad : Nat → Nat} {N I0 : Mm} {ns : List Nd} (hok : td_ok N ns) (hs0 : rl_s I0 N) {k : Nat} (h0 : 0 < k) (hk : k < ns.length) {F0 : List Ed} (hF0 : cl_sm 201201 F0) (hbd : ∀ i j a, i < 6 → j < 6 → cl_M (I0 (10 + 3 * k)) i j = some a → -201201 ≤ a ∧ a ≤ 201201) {post : Mm → Prop}
    (hp : ∀ J : Mm, cl_F I0 J (9 + 3 * td_p ns k) → cl_S J (9 + 3 * td_p ns k) (cq_G (cl_M (I0 (10 + 3 * k))) (td_a N ns k) (td_h N ns k) (dt_pl N (td_r N ns k)) 9 ++ F0) → post J) :
    ∀ (t u : Nat), u + t = 3 → ∀ J : Mm, cl_F I0 J (9 + 3 * td_p ns k) → cl_S J (9 + 3 * td_p ns k) (cq_G (cl_M (I0 (10 + 3 * k))) (td_a N ns k) (td_h N ns k) (dt_pl N (td_r N ns k)) (3 * u) ++ F0) →
      w_X6_handUp_L78 (cl_Y ad) post (fun J => post J) (t + 1) (8 + 3 * k) (8 + 3 * td_p ns k) (170 + 7 * td_c ns k) (174 + 7 * td_c ns (td_p ns k) + td_w ns k) (137 + 8 * td_r N ns k) (nI u) J := by
  obtain ⟨p1, p2, p3, p4, p5⟩ := hok.lt h0 hk
  obtain ⟨hw, h40, hsm, hcc, hjj⟩ := hok
  have h12 := hw.2.2.1
  have hr4 := hw.1.2.1
  obtain ⟨w1, w2⟩ := hjj k h0 hk
  have ck := hcc k hk
  have cp := hcc (td_p ns k) (by omega)
  have hna := (hw.2.2.2 _ cp).2.2.2.1
  have t3 : (3 : Int32).toInt = 3 := by decide
  have hB1 := cy_Bn (ad := ad) (n := k) (by omega)
  have hB2 := cy_Bn (ad := ad) (n := td_p ns k) (by omega)
  have hpl : dt_pl N (td_r N ns k) ≤ 2 := by omega
  intro t
  induction t with
  | zero =>
    intro u hu J hF hS
    refine ⟨fun _ => hp J hF (by rw [show 3 * u = 9 by omega] at hS; exact hS), fun h => ?_⟩
    rw [in_le, in_n (by omega), t3] at h
    omega
  | succ t ih =>
    intro u hu J hF hS
    refine ⟨fun h => ?_, fun _ => ⟨3 + 1, ?_⟩⟩
    · rw [in_le, in_n (by omega), t3] at h
      omega
    · have inner : ∀ (r v : Nat), v + r = 3 → ∀ J : Mm, cl_F I0 J (9 + 3 * td_p ns k) → cl_S J (9 + 3 * td_p ns k) (cq_G (cl_M (I0 (10 + 3 * k))) (td_a N ns k) (td_h N ns k) (dt_pl N (td_r N ns k)) (3 * u + v) ++ F0) → w_X6_handUp_L87 (cl_Y ad) post (fun k47 k48 k49 k50 k51 v52 I46 => (∀ x53 : Int32, x53 = v52 + (1 : Int32) → w_X6_handUp_L78 (cl_Y ad) post (fun J => post J) (t + 1) k47 k48 k49 k50 k51 x53 I46)) (r + 1) (8 + 3 * k) (8 + 3 * td_p ns k) (170 + 7 * td_c ns k) (174 + 7 * td_c ns (td_p ns k) + td_w ns k) (137 + 8 * td_r N ns k) (nI u) (nI v) J := by
        intro r
        induction r with
        | zero =>
          intro v hv J hF hS
          refine ⟨fun _ x hx => ?_, fun h => ?_⟩
          · rw [hx, in_s]
            exact ih (u + 1) (by omega) J hF (by rw [show 3 * (u + 1) = 3 * u + v by omega]; exact hS)
          · rw [in_le, in_n (by omega), t3] at h
            omega
        | succ r ihr =>
          intro v hv J hF hS
          have hu3 : u < 3 := by omega
          have hv3 : v < 3 := by omega
          have d1 : (3 * u + v) / 3 = u := by omega
          have d2 : (3 * u + v) % 3 = v := by omega
          have hfs : fs_F I0 J := ⟨fun a ha => hF.1 a (by omega) (by omega), by rw [hF.1 0 (by omega) (by omega)], by rw [hF.1 0 (by omega) (by omega)]⟩
          have hs := hfs.s hs0
          have skip : ∀ L : Mm, cl_F I0 L (9 + 3 * td_p ns k) → cl_S L (9 + 3 * td_p ns k) (cq_G (cl_M (I0 (10 + 3 * k))) (td_a N ns k) (td_h N ns k) (dt_pl N (td_r N ns k)) (3 * u + v + 1) ++ F0) → ∀ x, x = nI v + 1 → w_X6_handUp_L87 (cl_Y ad) post (fun k47 k48 k49 k50 k51 v52 I46 => (∀ x53 : Int32, x53 = v52 + (1 : Int32) → w_X6_handUp_L78 (cl_Y ad) post (fun J => post J) (t + 1) k47 k48 k49 k50 k51 x53 I46)) (r + 1) (8 + 3 * k) (8 + 3 * td_p ns k) (170 + 7 * td_c ns k) (174 + 7 * td_c ns (td_p ns k) + td_w ns k) (137 + 8 * td_r N ns k) (nI u) x L := fun L hL hSL x hx => by
            rw [hx, in_s]
            exact ihr (v + 1) (by omega) L hL (by rw [← Nat.add_assoc]; exact hSL)
          have more : ∀ L : Mm, ∀ g : List Ed, (∀ e, e ∈ g ↔ e ∈ cq_g (cl_M (I0 (10 + 3 * k))) (td_a N ns k) (td_h N ns k) (dt_pl N (td_r N ns k)) (3 * u + v)) → cl_S L (9 + 3 * td_p ns k) (g ++ (cq_G (cl_M (I0 (10 + 3 * k))) (td_a N ns k) (td_h N ns k) (dt_pl N (td_r N ns k)) (3 * u + v) ++ F0)) → cl_S L (9 + 3 * td_p ns k) (cq_G (cl_M (I0 (10 + 3 * k))) (td_a N ns k) (td_h N ns k) (dt_pl N (td_r N ns k)) (3 * u + v + 1) ++ F0) := fun L g hg hSL => by
            refine cl_S_mem (fun e => ?_) hSL
            rw [List.mem_append, List.mem_append, List.mem_append, cq_G_s, hg e, or_assoc]
          refine ⟨fun h => ?_, fun _ => ⟨cy_kr (by omega), p_areTwoCorners hw hs.1 p2 (fun a1 a2 a3 => ⟨fun h9 => absurd h9 (by decide), fun _ => ⟨cy_kn (by omega), cy_kh (by omega), ?_⟩⟩) (fun hno => ⟨fun _ => skip J hF (more J [] (fun e => ⟨fun h9 => (by cases h9), fun h9 => ?_⟩) hS), fun h9 => absurd rfl h9⟩)⟩⟩
          · rw [in_le, in_n (by omega), t3] at h
            omega
          · rw [mk_co_nI hu3] at a1
            rw [mk_co_nI hv3] at a2
            have hne : u ≠ v := fun e => a3 (by rw [e])
            obtain ⟨_, r2, r3, _⟩ := hs.2.2.1 _ ck
            obtain ⟨x0, _⟩ := (hw.2.2.2 _ ck).2.1 0 (by decide)
            obtain ⟨x1, _⟩ := (hw.2.2.2 _ ck).2.1 1 (by decide)
            rw [Nat.add_zero] at x0
            obtain ⟨_, q2, q3⟩ := (hs.2.2.1 _ cp).2.2.2.2.2.1 _ w1
            obtain ⟨_, _, yv⟩ := (hw.2.2.2 _ cp).2.2.2.2.1 _ w1
            obtain ⟨y0, _⟩ := yv 0 (by decide)
            obtain ⟨y1, _⟩ := yv 1 (by decide)
            rw [Nat.add_zero] at y0
            refine p_point (cy_kh (by omega)) (r2.trans x0) (r3.trans x1) hu3 (p_point (cy_kh (by omega)) (r2.trans x0) (r3.trans x1) hv3 ?_)
            rw [cy_rn (by omega), cy_rn (by omega)]
            refine ⟨hB1.1, p_leastOf hB1 (p4 u).2 (p4 v).2 ⟨cy_kn (by omega), cy_ka (by omega) (by omega), ?_⟩⟩
            refine p_point (cy_ka (by omega) (by omega)) (q2.trans y0) (q3.trans y1) hu3 (p_point (cy_ka (by omega) (by omega)) (q2.trans y0) (q3.trans y1) hv3 ⟨hB2.1, ?_⟩)
            rw [show 9 + 3 * k + 1 = 10 + 3 * k by omega, hF.1 (10 + 3 * k) (by omega) (by omega)]
            have hsmG : cl_sm 201201 (cq_G (cl_M (I0 (10 + 3 * k))) (td_a N ns k) (td_h N ns k) (dt_pl N (td_r N ns k)) (3 * u + v) ++ F0) := cl_sm_app (cq_G_sm hpl p4 hbd _) hF0
            have hmo : md_o (I0 (10 + 3 * k) (td_h N ns k u * 6 + td_h N ns k v)) = cl_M (I0 (10 + 3 * k)) (td_h N ns k u) (td_h N ns k v) := rfl
            show w_X0_add (cl_Y ad) J (9 + 3 * td_p ns k) (nI (td_a N ns k u)) (nI (td_a N ns k v)) (I0 (10 + 3 * k) (td_h N ns k u * 6 + td_h N ns k v)) _
            by_cases hfr : I0 (10 + 3 * k) (td_h N ns k u * 6 + td_h N ns k v) = 1000000000
            · rw [hfr]
              refine p_add_free hB2 (p4 u).1 (p4 v).1 hS (by decide) hsmG (skip J hF (more J [] (fun e => ⟨fun h9 => (by cases h9), fun h9 => ?_⟩) hS))
              obtain ⟨_, _, _, a, h4, _⟩ := cq_g_mem.mp h9
              rw [d1, d2, ← hmo, hfr, md_o_free] at h4
              cases h4
            · have hM : cl_M (I0 (10 + 3 * k)) (td_h N ns k u) (td_h N ns k v) = some (I0 (10 + 3 * k) (td_h N ns k u * 6 + td_h N ns k v)).toInt := by rw [← hmo]; exact md_o_of hfr
              refine p_add (K := 201201) hB2 (p4 u).1 (p4 v).1 hS (by decide) hsmG (hbd _ _ _ (p4 u).2 (p4 v).2 hM) (fun L hL hSL => skip L (hF.tr hL) (more L [_] (fun e => ?_) hSL))
              rw [List.mem_singleton, cq_g_mem, d1, d2]
              exact ⟨fun h9 => ⟨a1, a2, hne, _, hM, h9⟩, fun ⟨_, _, _, a, h4, h5⟩ => by rw [hM] at h4; cases h4; exact h5⟩
          · obtain ⟨h1, h2, h3, _⟩ := cq_g_mem.mp h9
            rw [d1] at h1 h3
            rw [d2] at h2 h3
            exact absurd ⟨(mk_co_nI hu3).mpr h1, (mk_co_nI hv3).mpr h2, fun e => h3 ((nI_eq (by omega) (by omega)).mp e)⟩ hno
      exact inner 3 0 (by decide) J hF hS
/-- frames of closing -/
def cq_F (I J : Mm) : Prop := ∀ a, (a < 9 ∨ 131 ≤ a ∨ (a - 8) % 3 = 0) → J a = I a
theorem cq_F.rf {I : Mm} : cq_F I I := fun _ _ => rfl
theorem cq_F.tr {I J L : Mm} (h1 : cq_F I J) (h2 : cq_F J L) : cq_F I L := fun a ha => (h2 a ha).trans (h1 a ha)
theorem cq_F.fs {I J : Mm} (h : cq_F I J) : fs_F I J := ⟨fun a ha => h a (by omega), by rw [h 0 (by omega)], by rw [h 0 (by omega)]⟩
theorem cq_F.fi {I J : Mm} (h : cq_F I J) : fi_F I J := ⟨fun a ha => h a (by omega), by rw [h 3 (by omega)]⟩
theorem cq_F.of {I J : Mm} {n : Nat} (hn : n < 41) (h : cl_F I J (9 + 3 * n)) : cq_F I J := fun a ha => h.1 a (by omega) (by omega)
theorem cq_F.n {I J : Mm} (h : cq_F I J) {ns : List Nd} (hl : ns.length ≤ 41) (hn : tc_n I ns) : tc_n J ns := fun k hk => by rw [h (8 + 3 * k) (by omega)]; exact hn k hk
theorem df_bad : ¬ df_S [(0, 0, -1)] := fun ⟨x, hx⟩ => by
  have := hx (0, 0, -1) List.mem_cons_self
  have : x 0 - x 0 ≤ -1 := this
  omega
set_option maxHeartbeats 4000000 in
theorem p_handUp {ad : Nat → Nat} {N I : Mm} {ns : List Nd} (hok : td_ok N ns) (hs : rl_s I N) (hn : tc_n I ns) {k : Nat} (h0 : 0 < k) (hk : k < ns.length) (hq : ∀ n, n < ns.length → cq_1 I N ns n k) {post : Mm → Prop} (hp : ∀ J : Mm, cq_F I J → (∀ n, n < ns.length → cq_1 J N ns n (k - 1)) → post J) : w_X6_handUp (cl_Y ad) I 0 (8 + 3 * k) post := by
  obtain ⟨p1, p2, p3, p4, p5⟩ := hok.lt h0 hk
  obtain ⟨hw, h40, hsm, hcc, hjj⟩ := id hok
  have h12 := hw.2.2.1
  have hr4 := hw.1.2.1
  obtain ⟨w1, w2⟩ := hjj k h0 hk
  have ck := hcc k hk
  have cp := hcc (td_p ns k) (by omega)
  have hna := (hw.2.2.2 _ cp).2.2.2.1
  obtain ⟨n0, n1, n2, _⟩ := hn k hk
  rw [if_neg (by omega)] at n1
  obtain ⟨m0, _⟩ := hn (td_p ns k) (by omega)
  have n0 : I (8 + 3 * k) 0 = nI (td_c ns k) := n0
  have n1 : I (8 + 3 * k) 1 = nI (td_p ns k) := n1
  have n2 : I (8 + 3 * k) 2 = nI (td_w ns k) := n2
  have m0 : I (8 + 3 * td_p ns k) 0 = nI (td_c ns (td_p ns k)) := m0
  have hB1 := cy_Bn (ad := ad) (n := k) (by omega)
  have hB2 := cy_Bn (ad := ad) (n := td_p ns k) (by omega)
  have hJ := td_J hok h0 hk
  have hpl : dt_pl N (td_r N ns k) ≤ 2 := by omega
  -- the child is whole
  have ecg : ∀ x, x < ns.length → (td_D ns k k x ↔ tr_D ns k x) := fun x hx => td_D_all hsm hx (fun j h1 h2 h3 => by
    have : td_p ns j < j := hsm.2 j h2 h3
    omega)
  have hmk := td_E_congr (N := N) (n := k) ecg
  -- the others stay
  have others : ∀ J : Mm, cl_F I J (9 + 3 * td_p ns k) → cq_1 J N ns (td_p ns k) (k - 1) → ∀ n, n < ns.length → cq_1 J N ns n (k - 1) := fun J hF hpar n hnl => by
    by_cases e : n = td_p ns k
    · rw [e]; exact hpar
    · have hk1 : cq_1 J N ns n k := (hq n hnl).keep (hF.1 _ (by omega) (by omega)) (hF.1 _ (by omega) (by omega))
      exact hk1.cg (fun x _ => (td_D_same h0 (fun h9 => e h9.symm)).symm)
  refine ⟨cy_0, cy_3, cy_kn (by omega), cy_4, by rw [n1]; exact vp_in_nI (N := 41) (by omega) (by decide), fun q6 hq6 => ?_⟩
  rw [cy_p7, cy_t0, n1, in_c (by omega), cy_nod] at hq6
  subst hq6
  rw [cy_rn (by omega), cy_rn (by omega)]
  refine ⟨hB1.1, fun ht => ?_, fun ht => ?_⟩
  · rcases hq k hk with ⟨t1, hS2, hQ2⟩ | ⟨t0, _⟩
    · have hS2 := (df_S_mem hmk).mp hS2
      have hQ2 := dq_Q_mem hmk hQ2
      have hbd : ∀ i j a, i < 6 → j < 6 → cl_M (I (10 + 3 * k)) i j = some a → -201201 ≤ a ∧ a ≤ 201201 := fun i j a hi hj ha => dq_bd (td_md hok (fun x hx hD hne => by have := tr_D.le hsm hx hD; omega)) hS2 (fun i hi => dq_pt_lt (by omega) hi) hQ2 hi hj ha
      obtain ⟨F0, hsm0, hS0, hF0⟩ : ∃ F0, cl_sm 201201 F0 ∧ cl_S I (9 + 3 * td_p ns k) F0 ∧ ((F0 = dq_en (cl_M (I (10 + 3 * td_p ns k))) ∧ df_S (td_E N ns (td_p ns k) (td_D ns (td_p ns k) k)) ∧ dq_Q (td_E N ns (td_p ns k) (td_D ns (td_p ns k) k)) (dq_pt (td_p ns k)) (cl_M (I (10 + 3 * td_p ns k)))) ∨ (¬ df_S F0 ∧ ¬ df_S (td_E N ns (td_p ns k) (td_D ns (td_p ns k) k)))) := by
        rcases hq (td_p ns k) (by omega) with ⟨f1, g1, g2⟩ | ⟨f0, g1⟩
        · refine ⟨dq_en (cl_M (I (10 + 3 * td_p ns k))), fun e he => ?_, Or.inl ⟨f1, ?_⟩, Or.inl ⟨rfl, g1, g2⟩⟩
          · obtain ⟨e1, e2, e3⟩ := dq_en_mem.mp he
            obtain ⟨b1, b2⟩ := dq_bd (td_md_D hok) g1 (fun i hi => dq_pt_lt (by omega) hi) g2 e1 e2 e3
            exact ⟨e1, e2, b1, b2⟩
          · rw [show 9 + 3 * td_p ns k + 1 = 10 + 3 * td_p ns k by omega]
            exact dq_en_C g2.1 g2.2.1
        · refine ⟨[(0, 0, -1)], fun e he => ?_, Or.inr ⟨f0, df_bad⟩, Or.inr ⟨df_bad, g1⟩⟩
          rw [List.mem_singleton.mp he]
          exact ⟨(by decide : 0 < 6), (by decide : 0 < 6), (by decide : (-201201 : Int) ≤ -1), (by decide : (-1 : Int) ≤ 201201)⟩
      obtain ⟨r1, _⟩ := hs.2.2.1 _ ck
      rw [w2] at r1
      obtain ⟨kb1, kb2⟩ := cy_kb (ad := ad) (c := td_c ns (td_p ns k)) (by omega)
      rw [cy_p2, n0, in_c (by omega), cy_cla, cy_rc0 (by omega), m0, in_c (by omega), cy_cla, cy_rc1 (by omega), n2, in_c (by omega), cy_rb (by omega), kb2]
      refine ⟨cy_2, vp_in_nI (N := 12) (by omega) (by decide), cy_kc (by omega), fun q11 hq11 => ?_⟩
      subst hq11
      refine ⟨cy_kn (by omega), vp_in_nI (N := 12) (by omega) (by decide), cy_kc (by omega), kb1, vp_in_nI (by omega) (by decide), fun q17 hq17 => ?_⟩
      subst hq17
      rw [r1, cy_p0, in_c (by omega), cy_rel]
      refine ⟨cy_kh (by omega), cy_1, vp_in_nI (N := 4) (by omega) (by decide), fun q21 hq21 => ⟨3 + 1, ?_⟩⟩
      subst hq21
      refine p_handUp_L hok hs h0 hk hsm0 hbd (fun J hF hS => hp J (cq_F.of (by omega) hF) (others J hF ?_)) 3 0 (by decide) I cl_F.rf (by
        show cl_S I (9 + 3 * td_p ns k) ([] ++ F0)
        exact hS0)
      -- what the parent says now
      have hG := cq_G_9 (M2 := cl_M (I (10 + 3 * k))) (au := td_a N ns k) (hu := td_h N ns k) hpl
      rcases hF0 with ⟨rfl, g1, g2⟩ | ⟨g1, g2⟩
      · have hFm : ∀ e, e ∈ cq_G (cl_M (I (10 + 3 * k))) (td_a N ns k) (td_h N ns k) (dt_pl N (td_r N ns k)) 9 ++ dq_en (cl_M (I (10 + 3 * td_p ns k))) ↔ e ∈ cq_G (cl_M (I (10 + 3 * k))) (td_a N ns k) (td_h N ns k) (dt_pl N (td_r N ns k)) 9 ∨ e ∈ dq_en (cl_M (I (10 + 3 * td_p ns k))) := fun e => List.mem_append
        rcases hS with ⟨f1, hC⟩ | ⟨f0, hnS⟩
        · rw [show 9 + 3 * td_p ns k + 1 = 10 + 3 * td_p ns k by omega] at hC
          obtain ⟨s1, s2⟩ := dq_step hJ hG hFm g2 hQ2 g1 hS2 hC
          exact Or.inl ⟨f1, s1, s2⟩
        · exact Or.inr ⟨f0, fun h9 => hnS (dq_un hJ hG hFm g2 hQ2 h9)⟩
      · have hsm9 : cl_sm 201201 (cq_G (cl_M (I (10 + 3 * k))) (td_a N ns k) (td_h N ns k) (dt_pl N (td_r N ns k)) 9 ++ F0) := cl_sm_app (cq_G_sm hpl p4 hbd _) hsm0
        rcases cl_S_fl hsm9.P hS with ⟨_, f2⟩ | ⟨f0, _⟩
        · exact absurd (df_S_sub f2 (fun e he => List.mem_append_right _ he)) g1
        · exact Or.inr ⟨f0, fun h9 => g2 (dq_sub1 hJ h9).1⟩
    · exact absurd t0 ht
  · rcases hq k hk with ⟨t1, _⟩ | ⟨_, hS2⟩
    · rw [t1] at ht; exact absurd ht (by decide)
    · refine ⟨cy_kn (by omega), hB2.1, fun J hJ9 => ?_⟩
      have hF : cl_F I J (9 + 3 * td_p ns k) := ⟨fun a a1 _ => by rw [hJ9]; exact ky_up_ne a1, fun j hj => ky_up_o hJ9 hj⟩
      refine hp J (cq_F.of (by omega) hF) (others J hF (Or.inr ⟨ky_up_f hJ9, fun h9 => hS2 ((df_S_mem hmk).mpr (dq_sub1 hJ h9).2)⟩))
/-- a node by itself -/
theorem cq_own {J N : Mm} {ns : List Nd} (hok : td_ok N ns) {n : Nat} (hn : n < ns.length) (hS : cl_S J (9 + 3 * n) (dt_bE N (td_c ns n) 0 5)) : cq_1 J N ns n (ns.length - 1) := by
  obtain ⟨hw, h40, hsm, hcc, _⟩ := id hok
  have hren := dt_bE_ren hw (n := n) (hcc n hn)
  have hP := (dt_bE_ok hw (hcc n hn)).P
  have hm : ∀ e, e ∈ dt_bE N (td_c ns n) (5 * n) 200 ↔ e ∈ td_E N ns n (td_D ns n (ns.length - 1)) := fun e => by
    rw [td_E_mem]
    constructor
    · exact fun h => ⟨n, hn, Or.inl rfl, Or.inl h⟩
    · rintro ⟨k, hk, hD, he⟩
      have e9 : k = n := by
        rcases hD with e | ⟨j, _, j2, _, j4, _⟩
        · exact e
        · omega
      rcases he with he | ⟨h9, _⟩
      · rw [e9] at he; exact he
      · exact absurd e9 h9
  rcases hS with ⟨f1, hC⟩ | ⟨f0, hnS⟩
  · rw [show 9 + 3 * n + 1 = 10 + 3 * n by omega] at hC
    obtain ⟨s1, s2⟩ := dq_ren (inv := dq_in) hren hP (fun i hi => dq_in_pt (by omega) hi) hC
    exact Or.inl ⟨f1, (df_S_mem hm).mp s1, dq_Q_mem hm s2⟩
  · exact Or.inr ⟨f0, fun h9 => hnS (dq_ren_S hren ((df_S_mem hm).mpr h9))⟩
set_option maxHeartbeats 2000000 in
theorem p_closeTree {ad : Nat → Nat} {N I : Mm} {ns : List Nd} (hok : td_ok N ns) (h1 : 1 ≤ ns.length) (hs : rl_s I N) (hn : tc_n I ns) (h31 : I 3 1 = nI ns.length) {post : Mm → Prop} (hp : ∀ J : Mm, cq_F I J → (∀ n, n < ns.length → cq_1 J N ns n 0) → post J) : w_X6_closeTree (cl_Y ad) I 0 post := by
  obtain ⟨hw, h40, hsm, hcc, _⟩ := id hok
  have h12 := hw.2.2.1
  have up : ∀ (t : Nat), t < ns.length → ∀ J : Mm, cq_F I J → (∀ n, n < ns.length → cq_1 J N ns n t) → w_X6_closeTree_L58 (cl_Y ad) post (fun J => post J) (t + 1) 0 (nI t) J := by
    intro t
    induction t with
    | zero =>
      intro _ J hF hq
      exact ⟨fun _ => hp J hF hq, fun h => absurd (by decide) h⟩
    | succ t ih =>
      intro ht J hF hq
      refine ⟨fun h => ?_, fun _ => ⟨cy_0, cy_3, cy_4, vp_in_nI (N := 41) (by omega) (by decide), ?_⟩⟩
      · rw [in_le, in_n (by omega), in_0] at h
        omega
      · rw [cy_p7, cy_t0, in_c (by omega), cy_nod]
        refine p_handUp hok (hF.fs.s hs) (hF.n (by omega) hn) (by omega) ht hq (fun L hL hqL x hx => ?_)
        rw [hx, in_m1, in_sub1 (by omega)]
        exact ih (by omega) L (hF.tr hL) hqL
  have own : ∀ (r t : Nat), t + r = ns.length → ∀ J : Mm, cq_F I J → (∀ n, n < t → cl_S J (9 + 3 * n) (dt_bE N (td_c ns n) 0 5)) → w_X6_closeTree_L2 (cl_Y ad) post (fun k15 I14 => (ky_is (cl_Y ad) k15 6 ∧ (ky_is (cl_Y ad) (ky_rp (cl_Y ad) k15 7) 5 ∧ (∀ x18 : Int32, x18 = (I14 (ky_rp (cl_Y ad) k15 7) 1) - (1 : Int32) → (∃ n58 : Nat, w_X6_closeTree_L58 (cl_Y ad) post (fun I26 => post I26) n58 k15 x18 I14))))) (r + 1) 0 (nI t) J := by
    intro r
    induction r with
    | zero =>
      intro t ht J hF hS
      refine ⟨cy_0, cy_3, ?_⟩
      rw [cy_p7, hF 3 (by omega), h31]
      refine ⟨fun _ => ⟨cy_0, cy_3, fun x hx => ?_⟩, fun h => ?_⟩
      · rw [cy_p7, hF 3 (by omega), h31, show ns.length = ns.length - 1 + 1 by omega, in_sub1 (by omega)] at hx
        rw [hx]
        exact ⟨ns.length - 1 + 1, up (ns.length - 1) (by omega) J hF (fun n hnl => cq_own hok hnl (hS n (by omega)))⟩
      · rw [in_le, in_n (by omega), in_n (by omega)] at h
        omega
    | succ r ih =>
      intro t ht J hF hS
      obtain ⟨n0, _⟩ := hF.n (by omega) hn t (by omega)
      have n0 : J (8 + 3 * t) 0 = nI (td_c ns t) := n0
      have hc := hcc t (by omega)
      refine ⟨cy_0, cy_3, ?_⟩
      rw [cy_p7, hF 3 (by omega), h31]
      refine ⟨fun h => ?_, fun _ => ⟨cy_4, vp_in_nI (N := 41) (by omega) (by decide), fun q5 hq5 => ?_⟩⟩
      · rw [in_le, in_n (by omega), in_n (by omega)] at h
        omega
      · rw [cy_t0, in_c (by omega), cy_nod] at hq5
        subst hq5
        rw [n0, cy_p2, in_c (by omega), cy_cla, cy_rn (by omega), cy_rc3 (by omega)]
        have hBn := cy_Bn (ad := ad) (n := t) (by omega)
        have hBo := cy_Bo (ad := ad) (c := td_c ns t) (by omega)
        refine ⟨cy_kn (by omega), cy_2, vp_in_nI (N := 12) (by omega) (by decide), cy_kc (by omega), hBn.1, p_copy hBn hBo (by omega) (by omega) (by omega) ((hF.fs.s hs).2.2.1 _ hc).2.2.2.2.2.2 (dt_bE_ok hw hc).P (fun L hL hSL _ x hx => ?_)⟩
        rw [hx, in_s]
        refine ih (t + 1) (by omega) L (hF.tr (cq_F.of (by omega) hL)) (fun n hnt => ?_)
        by_cases e : n = t
        · rw [e]; exact hSL
        · exact cl_S_keep (hL.1 _ (by omega) (by omega)) (hL.1 _ (by omega) (by omega)) (hS n (by omega))
  exact ⟨ns.length + 1, own _ 0 (by omega) I cq_F.rf (fun n h9 => absurd h9 (Nat.not_lt_zero n))⟩
