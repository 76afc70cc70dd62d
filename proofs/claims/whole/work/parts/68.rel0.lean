/-! THE START: class and reference hold the same -/
theorem mk_0 {k j : Nat} (h : k ≠ 0 ∨ j ≠ 21) : mk_I k j = 0 := by
  unfold mk_I
  rw [if_neg (by omega)]
theorem dk_r4 {r j : Nat} (hr : r < 4) (hj : j < 8) {i : Nat} : dk_I (137 + 8 * r + j) i = 0 := by
  rcases (show j = 0 ∨ (1 ≤ j ∧ j < 4) ∨ (4 ≤ j ∧ j < 8) by omega) with rfl | h | h
  · exact dk_i0 (cl_kd_rel hr) (by decide) (by omega)
  · unfold dk_I
    rw [cl_kd_relm hr h.1 h.2, if_neg (by decide), if_neg (by decide), if_neg (by omega)]
  · unfold dk_I
    rw [cl_kd_relh hr h.1 h.2, if_neg (by decide), if_neg (by decide), if_neg (by omega)]
theorem dk_j0 {j : Nat} (hj : j ≠ 6) : dk_I 0 j = 0 := by
  unfold dk_I
  rw [if_neg (by decide), if_neg (by decide), if_neg (by omega)]
theorem dk_j6 : dk_I 0 6 = -1 := by
  unfold dk_I
  rw [if_neg (by decide), if_neg (by decide), if_pos ⟨rfl, rfl⟩]
theorem Rl_start : Rl 0 dk_I mk_I := by
  have n1 : dt_nr mk_I = 0 := by unfold dt_nr; rw [mk_0 (by omega)]; rfl
  have n7 : dt_nc mk_I = 0 := by unfold dt_nc; rw [mk_0 (by omega)]; rfl
  refine ⟨⟨?_, ?_⟩, ⟨?_, ?_⟩, ?_⟩
  · unfold dt_w1
    have nm : ∀ r, dt_nm mk_I r = 0 := fun r => by unfold dt_nm; rw [mk_0 (by omega)]; rfl
    rw [n1]
    exact ⟨by rw [mk_0 (by omega)]; rfl, by omega, fun r hr => absurd hr (by omega), fun r hr => ⟨by rw [mk_0 (by omega), nm]; rfl, by rw [nm]; omega, fun _ => nm r⟩, fun r k hr => absurd hr (by omega)⟩
  · unfold dt_w2
    rw [n7]
    exact ⟨by rw [mk_0 (by omega)]; rfl, by omega, fun c hc => absurd hc (by omega)⟩
  · unfold rl_r
    rw [n1]
    exact ⟨by rw [dk_j0 (by decide), mk_0 (by omega)], fun r hr => absurd hr (by omega), fun r hr => by rw [show 137 + 8 * r = 137 + 8 * r + 0 from rfl, dk_r4 hr (by decide), mk_0 (by omega)], fun r k hr => absurd hr (by omega)⟩
  · unfold rl_c
    rw [n7]
    refine ⟨by rw [dk_j0 (by decide), mk_0 (by omega)], fun c hc => absurd hc (by omega), fun c _ hc => ⟨dk_i0 (cl_kd_c0 hc) (by decide) (by omega), dk_i0 (cl_kd_c0 hc) (by decide) (by omega), ?_⟩⟩
    have e1 : dk_I (172 + 7 * c) 1 = 1 := by unfold dk_I; rw [cl_kd_c3 hc]; rfl
    have e2 : ∀ i, dk_I (172 + 7 * c + 1) i = if i / 6 = i % 6 then 0 else 1000000000 := fun i => by
      unfold dk_I
      rw [show 172 + 7 * c + 1 = 173 + 7 * c by omega, cl_kd_c4 hc]
      rfl
    refine Or.inl ⟨e1, ?_⟩
    refine df_C_congr (fun e he => by cases he) (fun i j hi hj => ?_) (df_C_nil 6)
    unfold cl_M df_I
    rw [e2, show (i * 6 + j) / 6 = i by omega, show (i * 6 + j) % 6 = j by omega]
    by_cases hij : i = j
    · rw [if_pos hij, if_pos hij, md_o_of (by decide), in_0]
    · rw [if_neg hij, if_neg hij, md_o_free]
  · refine ⟨fun r m hr hm => ⟨by rw [dk_r4 hr (by decide), mk_0 (by omega)], by rw [mk_0 (by omega)]; decide, by rw [mk_0 (by omega), mk_0 (by omega)]; decide, fun _ => mk_0 (by omega)⟩, by rw [dk_j0 (by decide), mk_0 (by omega)], by rw [mk_0 (by omega)]; decide, by rw [mk_0 (by omega)]; decide, fun r m hr => absurd hr (by rw [n1]; omega), fun r m hr => absurd hr (by rw [n1]; omega), by rw [dk_j0 (by decide), mk_0 (by omega)], by rw [mk_0 (by omega)]; decide, by rw [dk_j0 (by decide), mk_0 (by omega)], Or.inl ⟨rfl, dk_j6, mk_0 (by omega), ?_⟩⟩
    exact dk_i0 (c := 5) rfl (by decide) (by decide)
