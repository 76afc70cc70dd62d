/-! WHAT THE MEMORIES SAY: the reference's rows are taken as the data -/
def nu (x : Int32) : Nat := x.toInt.toNat
theorem nu_n {n : Nat} (h : n < 2147483648) : nu (nI n) = n := by unfold nu; rw [in_n h]; omega
def dt_nr (N : Mm) : Nat := nu (N 0 1)
def dt_pl (N : Mm) (r : Nat) : Nat := nu (N 1 r)
def dt_nm (N : Mm) (r : Nat) : Nat := nu (N 2 r)
def dt_nc (N : Mm) : Nat := nu (N 0 7)
def dt_na (N : Mm) (c : Nat) : Nat := nu (N 8 c)
def dt_ar (N : Mm) (c a : Nat) : Nat := nu (N 9 (2 * c + a))
def dt_av (N : Mm) (c a q : Nat) : Nat := nu (N 10 (2 * (2 * c + a) + q))
def dt_hv (N : Mm) (c q : Nat) : Nat := nu (N 7 (2 * c + q))
def dt_nb (N : Mm) (c : Nat) : Nat := nu (N 11 c)
def dt_hr (N : Mm) (c : Nat) : Nat := nu (N 6 c)
/-- the point of a clause at a corner -/
def dt_pt (z x y u : Nat) : Nat := if u = 0 then x else if u = 1 then y else z
def dt_sh (at9 z u : Nat) : Nat := if u = 5 then z else at9 + u
/-- what a mark says, when bit b is 1 or not -/
def dt_me (N : Mm) (r z x y cube k : Nat) : Ed :=
  if cube / 2 ^ k % 2 = 1 then (dt_pt z x y (nu (N 3 (4 * r + k))), dt_pt z x y (nu (N 4 (4 * r + k))), (N 5 (4 * r + k)).toInt)
  else (dt_pt z x y (nu (N 4 (4 * r + k))), dt_pt z x y (nu (N 3 (4 * r + k))), -(N 5 (4 * r + k)).toInt - 1)
def dt_cE (N : Mm) (r z x y cube : Nat) : List Ed := (List.range (dt_nm N r)).map (dt_me N r z x y cube)
def dt_be (N : Mm) (c at9 z j : Nat) : Ed := (dt_sh at9 z (nu (N 12 (8 * c + j))), dt_sh at9 z (nu (N 13 (8 * c + j))), (N 14 (8 * c + j)).toInt)
def dt_bE (N : Mm) (c at9 z : Nat) : List Ed := (List.range (dt_nb N c)).map (dt_be N c at9 z)
/-- relations and marks are in order -/
def dt_w1 (N : Mm) : Prop := N 0 1 = nI (dt_nr N) ∧ dt_nr N ≤ 4 ∧ (∀ r, r < dt_nr N → N 1 r = nI (dt_pl N r) ∧ (dt_pl N r = 1 ∨ dt_pl N r = 2)) ∧
  (∀ r, r < 4 → N 2 r = nI (dt_nm N r) ∧ dt_nm N r ≤ 4 ∧ (dt_nr N ≤ r → dt_nm N r = 0)) ∧
  ∀ r k, r < dt_nr N → k < dt_nm N r → ∃ u v, N 3 (4 * r + k) = nI u ∧ N 4 (4 * r + k) = nI v ∧ (u = 2 ∨ u < dt_pl N r) ∧ (v = 2 ∨ v < dt_pl N r) ∧ u ≠ v ∧ -1000 ≤ (N 5 (4 * r + k)).toInt ∧ (N 5 (4 * r + k)).toInt ≤ 1000
/-- a clause is in order -/
def dt_cl (N : Mm) (c : Nat) : Prop := (N 6 c = -1 ∨ (N 6 c = nI (dt_hr N c) ∧ dt_hr N c < dt_nr N)) ∧ (∀ q, q < 2 → N 7 (2 * c + q) = nI (dt_hv N c q) ∧ dt_hv N c q < 5) ∧ N 8 c = nI (dt_na N c) ∧ dt_na N c ≤ 2 ∧
  (∀ a, a < dt_na N c → N 9 (2 * c + a) = nI (dt_ar N c a) ∧ dt_ar N c a < dt_nr N ∧ ∀ q, q < 2 → N 10 (2 * (2 * c + a) + q) = nI (dt_av N c a q) ∧ dt_av N c a q < 5) ∧
  N 11 c = nI (dt_nb N c) ∧ dt_nb N c ≤ 8 ∧ ∀ j, j < dt_nb N c → ∃ u v, N 12 (8 * c + j) = nI u ∧ N 13 (8 * c + j) = nI v ∧ u < 6 ∧ v < 6 ∧ -1000 ≤ (N 14 (8 * c + j)).toInt ∧ (N 14 (8 * c + j)).toInt ≤ 1000
def dt_w2 (N : Mm) : Prop := N 0 7 = nI (dt_nc N) ∧ dt_nc N ≤ 12 ∧ ∀ c, c < dt_nc N → dt_cl N c
def dt_w (N : Mm) : Prop := dt_w1 N ∧ dt_w2 N
/-- only rows for counting have changed -/
def md_F (N J : Mm) : Prop := (∀ a, a ≠ 0 → a ≠ 19 → a ≠ 20 → a ≠ 21 → a ≠ 22 → J a = N a) ∧ ∀ j, j ≠ 25 → J 0 j = N 0 j
theorem md_F.rf {N : Mm} : md_F N N := ⟨fun _ _ _ _ _ _ => rfl, fun _ _ => rfl⟩
theorem md_F.tr {N J L : Mm} (h1 : md_F N J) (h2 : md_F J L) : md_F N L := ⟨fun a b c d e f => (h2.1 a b c d e f).trans (h1.1 a b c d e f), fun j hj => (h2.2 j hj).trans (h1.2 j hj)⟩
theorem md_F.of22 {N J : Mm} (h : ∀ a, a ≠ 22 → J a = N a) : md_F N J := ⟨fun a _ _ _ _ h9 => h a h9, fun j _ => by rw [h 0 (by decide)]⟩
theorem md_F.cE {N J : Mm} (h : md_F N J) : dt_cE J = dt_cE N := by
  funext r z x y cube
  unfold dt_cE dt_me dt_nm
  rw [h.1 2 (by decide) (by decide) (by decide) (by decide) (by decide), h.1 3 (by decide) (by decide) (by decide) (by decide) (by decide), h.1 4 (by decide) (by decide) (by decide) (by decide) (by decide), h.1 5 (by decide) (by decide) (by decide) (by decide) (by decide)]
theorem md_F.bE {N J : Mm} (h : md_F N J) : dt_bE J = dt_bE N := by
  funext c at9 z
  unfold dt_bE dt_be dt_nb
  rw [h.1 11 (by decide) (by decide) (by decide) (by decide) (by decide), h.1 12 (by decide) (by decide) (by decide) (by decide) (by decide), h.1 13 (by decide) (by decide) (by decide) (by decide) (by decide), h.1 14 (by decide) (by decide) (by decide) (by decide) (by decide)]
theorem md_F.w1 {N J : Mm} (h : md_F N J) (hw : dt_w1 N) : dt_w1 J := by
  unfold dt_w1 dt_nr dt_pl dt_nm
  rw [h.2 1 (by decide), h.1 1 (by decide) (by decide) (by decide) (by decide) (by decide), h.1 2 (by decide) (by decide) (by decide) (by decide) (by decide), h.1 3 (by decide) (by decide) (by decide) (by decide) (by decide), h.1 4 (by decide) (by decide) (by decide) (by decide) (by decide), h.1 5 (by decide) (by decide) (by decide) (by decide) (by decide)]
  exact hw
theorem md_F.w2 {N J : Mm} (h : md_F N J) (hw : dt_w2 N) : dt_w2 J := by
  unfold dt_w2 dt_cl dt_nc dt_hr dt_hv dt_na dt_ar dt_av dt_nb dt_nr
  rw [h.2 1 (by decide), h.2 7 (by decide), h.1 6 (by decide) (by decide) (by decide) (by decide) (by decide), h.1 7 (by decide) (by decide) (by decide) (by decide) (by decide), h.1 8 (by decide) (by decide) (by decide) (by decide) (by decide), h.1 9 (by decide) (by decide) (by decide) (by decide) (by decide), h.1 10 (by decide) (by decide) (by decide) (by decide) (by decide), h.1 11 (by decide) (by decide) (by decide) (by decide) (by decide), h.1 12 (by decide) (by decide) (by decide) (by decide) (by decide), h.1 13 (by decide) (by decide) (by decide) (by decide) (by decide), h.1 14 (by decide) (by decide) (by decide) (by decide) (by decide)]
  exact hw
theorem md_F.w {N J : Mm} (h : md_F N J) (hw : dt_w N) : dt_w J := ⟨h.w1 hw.1, h.w2 hw.2⟩
/-- add -/
theorem m_add {ad : Nat → Nat} {N : Mm} {E : List Ed} (hE : md_E N E) (hl : E.length < 800) {p q : Nat} {c : Int32} {post : Mm → Prop} (hk : ∀ J, md_F N J → md_E J (E ++ [(p, q, c.toInt)]) → post J) : w_X7_add (md_Y ad) N 0 (nI p) (nI q) c post := by
  have hin : vp_in (N 0 25) 800 := by rw [hE.1]; exact vp_in_nI hl (by decide)
  have hcl : (N 0 25).toNatClampNeg = E.length := by rw [hE.1]; exact in_c (by omega)
  refine ⟨md_k0, md_k19, hin, fun I1 h1 => ?_⟩
  rw [md_r26, hcl] at h1
  have a1 : I1 0 = N 0 := by rw [h1]; exact ky_up_ne (by decide)
  refine ⟨md_k20, by rw [a1]; exact hin, fun I2 h2 => ?_⟩
  rw [md_r27, a1, hcl] at h2
  have a2 : I2 0 = N 0 := by rw [h2, ky_up_ne (by decide)]; exact a1
  refine ⟨md_k21, by rw [a2]; exact hin, fun I3 h3 I4 h4 => ?_⟩
  rw [md_r28, a2, hcl] at h3
  have a3 : I3 0 = N 0 := by rw [h3, ky_up_ne (by decide)]; exact a2
  rw [a3, hE.1, in_s] at h4
  have b0 : I4 0 = upd (N 0) 25 (nI (E.length + 1)) := by rw [h4, ky_up_eq, a3]
  have b19 : I4 19 = upd (N 19) E.length (nI q) := by rw [h4, ky_up_ne (by decide), h3, ky_up_ne (by decide), h2, ky_up_ne (by decide), h1, ky_up_eq]
  have b20 : I4 20 = upd (N 20) E.length (nI p) := by rw [h4, ky_up_ne (by decide), h3, ky_up_ne (by decide), h2, ky_up_eq, h1, ky_up_ne (by decide)]
  have b21 : I4 21 = upd (N 21) E.length c := by rw [h4, ky_up_ne (by decide), h3, ky_up_eq, h2, ky_up_ne (by decide), h1, ky_up_ne (by decide)]
  have bo : ∀ a, a ≠ 0 → a ≠ 19 → a ≠ 20 → a ≠ 21 → I4 a = N a := fun a c0 c1 c2 c3 => by rw [h4, ky_up_ne c0, h3, ky_up_ne c3, h2, ky_up_ne c2, h1, ky_up_ne c1]
  refine hk I4 ⟨fun a c0 c1 c2 c3 _ => bo a c0 c1 c2 c3, fun j hj => by rw [b0]; unfold upd; rw [if_neg hj]⟩ ⟨?_, ?_, fun k e he => ?_⟩
  · rw [b0, List.length_append]; unfold upd; rw [if_pos rfl]; rfl
  · rw [List.length_append]; show E.length + 1 ≤ 800; omega
  · rw [b19, b20, b21]
    unfold upd
    by_cases hk9 : k < E.length
    · rw [List.getElem?_append_left hk9] at he
      rw [if_neg (by omega), if_neg (by omega), if_neg (by omega)]
      exact hE.2.2 k e he
    · rw [List.getElem?_append_right (by omega)] at he
      have hz : k - E.length < 1 := (List.getElem?_eq_some_iff.mp he).1
      have hk0 : k = E.length := by omega
      rw [hk0, Nat.sub_self] at he
      cases he
      rw [if_pos hk0, if_pos hk0, if_pos hk0]
      exact ⟨rfl, rfl, rfl⟩
theorem in_mul8 {c : Nat} : (8 : Int32) * nI c = nI (8 * c) := pk_mul 8 c
theorem in_mul4 {c : Nat} : (4 : Int32) * nI c = nI (4 * c) := pk_mul 4 c
theorem in_mul2 {c : Nat} : (2 : Int32) * nI c = nI (2 * c) := pk_mul 2 c
theorem in_mul5 {c : Nat} : (5 : Int32) * nI c = nI (5 * c) := pk_mul 5 c
theorem in_mul16 {c : Nat} : (16 : Int32) * nI c = nI (16 * c) := pk_mul 16 c
theorem in_5 {u : Nat} (h : u < 2147483648) : nI u = (5 : Int32) ↔ u = 5 := nI_eq (b := 5) h (by decide)
theorem in_e0 {u : Nat} (h : u < 2147483648) : nI u = (0 : Int32) ↔ u = 0 := nI_eq (b := 0) h (by decide)
theorem in_e1 {u : Nat} (h : u < 2147483648) : nI u = (1 : Int32) ↔ u = 1 := nI_eq (b := 1) h (by decide)
theorem in_e2 {u : Nat} (h : u < 2147483648) : nI u = (2 : Int32) ↔ u = 2 := nI_eq (b := 2) h (by decide)
/-- the shifted point of a bound -/
theorem dt_sh_eq {at9 z u : Nat} (hu : u < 6) (h1 : at9 < 1000) (h2 : z < 1000) : (nI u = (5 : Int32) → nI z = nI (dt_sh at9 z u)) ∧ (¬ nI u = (5 : Int32) → nI at9 + nI u = nI (dt_sh at9 z u)) := by
  unfold dt_sh
  refine ⟨fun h => ?_, fun h => ?_⟩
  · rw [in_5 (by omega)] at h; rw [if_pos h]
  · rw [in_5 (by omega)] at h; rw [if_neg h, nI_add]
set_option maxHeartbeats 2000000 in
theorem m_addBounds_L {ad : Nat → Nat} {N0 : Mm} {c at9 z : Nat} (hw : dt_w N0) (hc : c < dt_nc N0) (ha : at9 < 1000) (hz : z < 1000) {E0 : List Ed} (hl : E0.length + dt_nb N0 c ≤ 800) {post : Mm → Prop} (hk : ∀ J, md_F N0 J → md_E J (E0 ++ dt_bE N0 c at9 z) → post J) : ∀ (r j : Nat), j + r = dt_nb N0 c → ∀ N : Mm, md_F N0 N → md_E N (E0 ++ (List.range j).map (dt_be N0 c at9 z)) → w_X7_addBounds_L6 (md_Y ad) post (fun J => post J) (r + 1) 0 (nI c) (nI at9) (nI z) (nI (8 * c + j)) N := by
  have hcc := hw.2.2.2 c hc
  have h12 := hw.2.2.1
  obtain ⟨_, _, _, _, _, hb1, hb2, hb3⟩ := hcc
  intro r
  induction r with
  | zero =>
    intro j hj N hF hE
    have e11 : N 11 = N0 11 := hF.1 11 (by decide) (by decide) (by decide) (by decide) (by decide)
    refine ⟨md_k0, md_k11, vp_in_nI (N := 12) (by omega) (by decide), ?_⟩
    rw [md_r13, in_c (by omega), e11, hb1, in_mul8, nI_add]
    refine ⟨fun _ => hk N hF (by unfold dt_bE; rw [← show j = dt_nb N0 c by omega]; exact hE), fun h => ?_⟩
    rw [in_le, in_n (by omega), in_n (by omega)] at h
    omega
  | succ r ih =>
    intro j hj N hF hE
    have e11 : N 11 = N0 11 := hF.1 11 (by decide) (by decide) (by decide) (by decide) (by decide)
    have e12 : N 12 = N0 12 := hF.1 12 (by decide) (by decide) (by decide) (by decide) (by decide)
    have e13 : N 13 = N0 13 := hF.1 13 (by decide) (by decide) (by decide) (by decide) (by decide)
    have e14 : N 14 = N0 14 := hF.1 14 (by decide) (by decide) (by decide) (by decide) (by decide)
    obtain ⟨u, v, g1, g2, hu, hv, g3, g4⟩ := hb3 j (by omega)
    have nu1 : nu (N0 12 (8 * c + j)) = u := by rw [g1]; exact nu_n (by omega)
    have nv1 : nu (N0 13 (8 * c + j)) = v := by rw [g2]; exact nu_n (by omega)
    have b72 : w_X7_addBounds_B72 (md_Y ad) post (fun k0 v1 v2 v3 v4 J => w_X7_addBounds_L6 (md_Y ad) post (fun J => post J) (r + 1) k0 v1 v2 v3 v4 J) (fun J => post J) 0 (nI c) (nI at9) (nI z) (nI (8 * c + j)) (nI (dt_sh at9 z u)) (nI (dt_sh at9 z v)) N := by
      refine ⟨md_k0, md_k14, vp_in_nI (N := 96) (by omega) (by decide), ?_⟩
      rw [md_r16, in_c (by omega), e14]
      refine m_add hE ?_ (fun J hJ hEJ x hx => ?_)
      · rw [List.length_append, List.length_map, List.length_range]; omega
      · rw [hx, in_s]
        refine ih (j + 1) (by omega) J (hF.tr hJ) ?_
        rw [List.range_succ, List.map_append, ← List.append_assoc]
        have : dt_be N0 c at9 z j = (dt_sh at9 z u, dt_sh at9 z v, (N0 14 (8 * c + j)).toInt) := by unfold dt_be; rw [nu1, nv1]
        show md_E J (E0 ++ (List.range j).map (dt_be N0 c at9 z) ++ [dt_be N0 c at9 z j])
        rw [this]
        exact hEJ
    have b46 : w_X7_addBounds_B46 (md_Y ad) post (fun k0 v1 v2 v3 v4 J => w_X7_addBounds_L6 (md_Y ad) post (fun J => post J) (r + 1) k0 v1 v2 v3 v4 J) (fun J => post J) 0 (nI c) (nI at9) (nI z) (nI (8 * c + j)) (nI (dt_sh at9 z u)) N := by
      refine ⟨md_k0, md_k13, vp_in_nI (N := 96) (by omega) (by decide), ?_⟩
      rw [md_r15, in_c (by omega), e13, g2]
      refine ⟨fun h => ?_, fun h => ?_⟩
      · rw [(dt_sh_eq hv ha hz).2 h]; exact b72
      · rw [← (dt_sh_eq hv ha hz).1 h] at b72; exact b72
    refine ⟨md_k0, md_k11, vp_in_nI (N := 12) (by omega) (by decide), ?_⟩
    rw [md_r13, in_c (by omega), e11, hb1, in_mul8, nI_add]
    refine ⟨fun h => ?_, fun _ => ⟨md_k12, vp_in_nI (N := 96) (by omega) (by decide), ?_⟩⟩
    · rw [in_le, in_n (by omega), in_n (by omega)] at h
      omega
    · rw [md_r14, in_c (by omega), e12, g1]
      refine ⟨fun h => ?_, fun h => ?_⟩
      · rw [(dt_sh_eq hu ha hz).2 h]; exact b46
      · rw [← (dt_sh_eq hu ha hz).1 h] at b46; exact b46
theorem m_addBounds {ad : Nat → Nat} {N : Mm} {c at9 z : Nat} (hw : dt_w N) (hc : c < dt_nc N) (ha : at9 < 1000) (hz : z < 1000) {E : List Ed} (hE : md_E N E) (hl : E.length + dt_nb N c ≤ 800) {post : Mm → Prop} (hk : ∀ J, md_F N J → md_E J (E ++ dt_bE N c at9 z) → post J) : w_X7_addBounds (md_Y ad) N 0 (nI c) (nI at9) (nI z) post := by
  intro x hx
  rw [hx, in_mul8]
  exact ⟨dt_nb N c + 1, m_addBounds_L hw hc ha hz hl hk (dt_nb N c) 0 (by omega) N md_F.rf (by simpa using hE)⟩
