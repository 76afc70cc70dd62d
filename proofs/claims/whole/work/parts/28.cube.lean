/-! CUBES: the bounds that a cube allows -/
theorem in_sc : ∀ k, k < 16 → ((nI k &&& 31).toBitVec.smod 32).toNat = k := by decide +kernel
theorem in_bit {m k : Nat} (hm : m < 65536) (hk : k < 16) : ((nI m >>> (nI k &&& 31)) &&& (1 : Int32)) = nI (m / 2 ^ k % 2) := by
  rw [pk_shrN (by omega) _ k (in_sc k hk)]
  have h : m / 2 ^ k ≤ m := Nat.div_le_self _ _
  exact pk_andN (by omega) 1 (by decide)
theorem in_bit1 {m k : Nat} (hm : m < 65536) (hk : k < 16) : (((nI m >>> (nI k &&& 31)) &&& (1 : Int32)) = (1 : Int32)) ↔ m / 2 ^ k % 2 = 1 := by
  rw [in_bit hm hk]
  exact in_e1 (by omega)
theorem in_opp {c : Int32} (h1 : -1000 ≤ c.toInt) (h2 : c.toInt ≤ 1000) : (-c - 1).toInt = -c.toInt - 1 := by
  have e1 : (-c).toInt = -c.toInt := in_neg (by omega)
  rw [in_sub (by rw [e1, in_1]; omega) (by rw [e1, in_1]; omega), e1, in_1]
/-- a corner's point -/
theorem dt_pt_eq {z x y u : Nat} (hu : u < 3) : (nI u = (0 : Int32) → nI x = nI (dt_pt z x y u)) ∧ (¬ nI u = (0 : Int32) → nI u = (1 : Int32) → nI y = nI (dt_pt z x y u)) ∧ (¬ nI u = (0 : Int32) → ¬ nI u = (1 : Int32) → nI z = nI (dt_pt z x y u)) := by
  unfold dt_pt
  rw [in_e0 (by omega), in_e1 (by omega)]
  refine ⟨fun h => by rw [if_pos h], fun h h2 => by rw [if_neg h, if_pos h2], fun h h2 => by rw [if_neg h, if_neg h2]⟩
set_option maxHeartbeats 2000000 in
theorem m_addCube_L {ad : Nat → Nat} {N0 : Mm} {r m x y z : Nat} (hw : dt_w N0) (hr : r < dt_nr N0) (hm : m < 16) {E0 : List Ed} (hl : E0.length + 4 ≤ 800) {post : Mm → Prop} (hk : ∀ J, md_F N0 J → md_E J (E0 ++ dt_cE N0 r z x y m) → post J) : ∀ (n k : Nat), k + n = dt_nm N0 r → ∀ N : Mm, md_F N0 N → md_E N (E0 ++ (List.range k).map (dt_me N0 r z x y m)) → w_X7_addCube_L3 (md_Y ad) post (fun J => post J) (n + 1) 0 (nI r) (nI m) (nI x) (nI y) (nI z) (nI k) N := by
  obtain ⟨_, hr4, hpl, hnm, hmk⟩ := hw.1
  obtain ⟨hn1, hn2, _⟩ := hnm r (by omega)
  intro n
  induction n with
  | zero =>
    intro k hk9 N hF hE
    have e2 : N 2 = N0 2 := hF.1 2 (by decide) (by decide) (by decide) (by decide) (by decide)
    refine ⟨md_k0, md_k2, vp_in_nI (N := 4) (by omega) (by decide), ?_⟩
    rw [md_r3, in_c (by omega), e2, hn1]
    refine ⟨fun _ => hk N hF (by unfold dt_cE; rw [← show k = dt_nm N0 r by omega]; exact hE), fun h => ?_⟩
    rw [in_le, in_n (by omega), in_n (by omega)] at h
    omega
  | succ n ih =>
    intro k hk9 N hF hE
    have e2 : N 2 = N0 2 := hF.1 2 (by decide) (by decide) (by decide) (by decide) (by decide)
    have e3 : N 3 = N0 3 := hF.1 3 (by decide) (by decide) (by decide) (by decide) (by decide)
    have e4 : N 4 = N0 4 := hF.1 4 (by decide) (by decide) (by decide) (by decide) (by decide)
    have e5 : N 5 = N0 5 := hF.1 5 (by decide) (by decide) (by decide) (by decide) (by decide)
    obtain ⟨u, v, g1, g2, hu, hv, _, g3, g4⟩ := hmk r k hr (by omega)
    obtain ⟨_, hp⟩ := hpl r hr
    have hu3 : u < 3 := by omega
    have hv3 : v < 3 := by omega
    have nu1 : nu (N0 3 (4 * r + k)) = u := by rw [g1]; exact nu_n (by omega)
    have nv1 : nu (N0 4 (4 * r + k)) = v := by rw [g2]; exact nu_n (by omega)
    have next : ∀ J, md_F N J → md_E J (E0 ++ (List.range k).map (dt_me N0 r z x y m) ++ [dt_me N0 r z x y m k]) → ∀ x9, x9 = nI k + 1 → w_X7_addCube_L3 (md_Y ad) post (fun J => post J) (n + 1) 0 (nI r) (nI m) (nI x) (nI y) (nI z) x9 J := fun J hJ hEJ x9 hx => by
      rw [hx, in_s]
      refine ih (k + 1) (by omega) J (hF.tr hJ) ?_
      rw [List.range_succ, List.map_append, ← List.append_assoc]
      exact hEJ
    have hlen : (E0 ++ (List.range k).map (dt_me N0 r z x y m)).length < 800 := by rw [List.length_append, List.length_map, List.length_range]; omega
    have b88 : w_X7_addCube_B88 (md_Y ad) post (fun k0 v1 v2 v3 v4 v5 v6 J => w_X7_addCube_L3 (md_Y ad) post (fun J => post J) (n + 1) k0 v1 v2 v3 v4 v5 v6 J) (fun J => post J) 0 (nI r) (nI m) (nI x) (nI y) (nI z) (nI k) (nI (4 * r + k)) (nI (dt_pt z x y u)) (nI (dt_pt z x y v)) N := by
      refine ⟨fun h => ⟨md_k0, md_k5, vp_in_nI (N := 16) (by omega) (by decide), ?_⟩, fun h => ⟨md_k0, md_k5, vp_in_nI (N := 16) (by omega) (by decide), ?_⟩⟩
      · rw [in_bit1 (by omega) (by omega)] at h
        rw [md_r6, in_c (by omega), e5]
        refine m_add hE hlen (fun J hJ hEJ => next J hJ ?_)
        have : dt_me N0 r z x y m k = (dt_pt z x y v, dt_pt z x y u, (-(N0 5 (4 * r + k)) - 1).toInt) := by unfold dt_me; rw [if_neg h, nu1, nv1, in_opp g3 g4]
        rw [this]
        exact hEJ
      · rw [in_bit1 (by omega) (by omega)] at h
        rw [md_r6, in_c (by omega), e5]
        refine m_add hE hlen (fun J hJ hEJ => next J hJ ?_)
        have : dt_me N0 r z x y m k = (dt_pt z x y u, dt_pt z x y v, (N0 5 (4 * r + k)).toInt) := by unfold dt_me; rw [if_pos h, nu1, nv1]
        rw [this]
        exact hEJ
    have b54 : w_X7_addCube_B54 (md_Y ad) post (fun k0 v1 v2 v3 v4 v5 v6 J => w_X7_addCube_L3 (md_Y ad) post (fun J => post J) (n + 1) k0 v1 v2 v3 v4 v5 v6 J) (fun J => post J) 0 (nI r) (nI m) (nI x) (nI y) (nI z) (nI k) (nI (4 * r + k)) (nI (dt_pt z x y u)) N := by
      refine ⟨md_k0, md_k4, vp_in_nI (N := 16) (by omega) (by decide), ?_⟩
      rw [md_r5, in_c (by omega), e4, g2]
      obtain ⟨q1, q2, q3⟩ := dt_pt_eq (z := z) (x := x) (y := y) hv3
      refine ⟨fun h => ⟨fun h2 => ?_, fun h2 => ?_⟩, fun h => ?_⟩
      · have q := q3 h h2; rw [← q] at b88; exact b88
      · have q := q2 h h2; rw [← q] at b88; exact b88
      · have q := q1 h; rw [← q] at b88; exact b88
    refine ⟨md_k0, md_k2, vp_in_nI (N := 4) (by omega) (by decide), ?_⟩
    rw [md_r3, in_c (by omega), e2, hn1]
    refine ⟨fun h => ?_, fun _ x4 hx4 => ⟨md_k3, ?_⟩⟩
    · rw [in_le, in_n (by omega), in_n (by omega)] at h
      omega
    · rw [in_mul4, nI_add] at hx4
      rw [hx4, md_r4, in_c (by omega), e3, g1]
      refine ⟨vp_in_nI (N := 16) (by omega) (by decide), ?_⟩
      obtain ⟨q1, q2, q3⟩ := dt_pt_eq (z := z) (x := x) (y := y) hu3
      refine ⟨fun h => ⟨fun h2 => ?_, fun h2 => ?_⟩, fun h => ?_⟩
      · have q := q3 h h2; rw [← q] at b54; exact b54
      · have q := q2 h h2; rw [← q] at b54; exact b54
      · have q := q1 h; rw [← q] at b54; exact b54
theorem m_addCube {ad : Nat → Nat} {N : Mm} {r m x y z : Nat} (hw : dt_w N) (hr : r < dt_nr N) (hm : m < 16) {E : List Ed} (hE : md_E N E) (hl : E.length + 4 ≤ 800) {post : Mm → Prop} (hk : ∀ J, md_F N J → md_E J (E ++ dt_cE N r z x y m) → post J) : w_X7_addCube (md_Y ad) N 0 (nI r) (nI m) (nI x) (nI y) (nI z) post :=
  ⟨dt_nm N r + 1, m_addCube_L hw hr hm hl hk (dt_nm N r) 0 (by omega) N md_F.rf (by simpa using hE)⟩
/-- the bounds of a clause with states for its atoms -/
def dt_aE (N : Mm) (c p q a : Nat) : List Ed := dt_cE N (dt_ar N c a) 5 (dt_av N c a 0) (dt_av N c a 1) (if a = 0 then p else q)
def dt_body (N : Mm) (c p q : Nat) : Nat → List Ed
  | 0 => dt_bE N c 0 5
  | a + 1 => dt_body N c p q a ++ dt_aE N c p q a
def dt_hE (N : Mm) (c h : Nat) : List Ed := dt_cE N (dt_hr N c) 5 (dt_hv N c 0) (dt_hv N c 1) h
theorem dt_pt_lt {x y u : Nat} (hx : x < 6) (hy : y < 6) : dt_pt 5 x y u < 6 := by unfold dt_pt; split; exact hx; split; exact hy; decide
theorem dt_cE_ok {N : Mm} (hw : dt_w N) {r x y m : Nat} (hr : r < dt_nr N) (hx : x < 6) (hy : y < 6) : cl_sm 1001 (dt_cE N r 5 x y m) := fun e he => by
  obtain ⟨k, hk, rfl⟩ := List.mem_map.mp he
  rw [List.mem_range] at hk
  obtain ⟨u, v, g1, g2, hu, hv, _, g3, g4⟩ := hw.1.2.2.2.2 r k hr hk
  unfold dt_me
  split
  · exact ⟨dt_pt_lt hx hy, dt_pt_lt hx hy, by show -1001 ≤ (N 5 (4 * r + k)).toInt; omega, by show (N 5 (4 * r + k)).toInt ≤ 1001; omega⟩
  · exact ⟨dt_pt_lt hx hy, dt_pt_lt hx hy, by show -1001 ≤ -(N 5 (4 * r + k)).toInt - 1; omega, by show -(N 5 (4 * r + k)).toInt - 1 ≤ 1001; omega⟩
theorem dt_bE_ok {N : Mm} (hw : dt_w N) {c : Nat} (hc : c < dt_nc N) : cl_sm 1001 (dt_bE N c 0 5) := fun e he => by
  obtain ⟨j, hj, rfl⟩ := List.mem_map.mp he
  rw [List.mem_range] at hj
  obtain ⟨u, v, g1, g2, hu, hv, g3, g4⟩ := (hw.2.2.2 c hc).2.2.2.2.2.2.2 j hj
  have nu1 : nu (N 12 (8 * c + j)) = u := by rw [g1]; exact nu_n (by omega)
  have nv1 : nu (N 13 (8 * c + j)) = v := by rw [g2]; exact nu_n (by omega)
  unfold dt_be
  rw [nu1, nv1]
  have h6 : ∀ u, u < 6 → dt_sh 0 5 u < 6 := fun u hu => by unfold dt_sh; split; decide; omega
  exact ⟨h6 u hu, h6 v hv, by show -1001 ≤ (N 14 (8 * c + j)).toInt; omega, by show (N 14 (8 * c + j)).toInt ≤ 1001; omega⟩
theorem cl_sm_app {K : Int} {E F : List Ed} (h1 : cl_sm K E) (h2 : cl_sm K F) : cl_sm K (E ++ F) := fun e he => (List.mem_append.mp he).elim (h1 e) (h2 e)
theorem dt_body_ok {N : Mm} (hw : dt_w N) {c p q : Nat} (hc : c < dt_nc N) : ∀ a, a ≤ dt_na N c → cl_sm 1001 (dt_body N c p q a) := by
  intro a
  induction a with
  | zero => exact fun _ => dt_bE_ok hw hc
  | succ a ih =>
    intro ha
    obtain ⟨_, h2, h3⟩ := (hw.2.2.2 c hc).2.2.2.2.1 a (by omega)
    exact cl_sm_app (ih (by omega)) (dt_cE_ok hw h2 (by have := (h3 0 (by decide)).2; omega) (by have := (h3 1 (by decide)).2; omega))
theorem cl_sm.md {E : List Ed} (h : cl_sm 1001 E) : md_ok 6 E := ⟨by decide, fun e he => h e he⟩
