/-! THE CLASS: its layout -/
def cl_kd (k : Nat) : Nat × Nat :=
  if k < 8 then [(6, 0), (12, 4), (9, 12), (5, 0), (11, 41), (8, 82), (8, 82), (8, 82)].getD k (99, 0)
  else if k < 131 then (if (k - 8) % 3 = 0 then (3, 0) else if (k - 8) % 3 = 1 then (0, 0) else (8, 36))
  else if k < 137 then (if (k - 131) % 2 = 0 then (0, 0) else (8, 36))
  else if k < 169 then (if (k - 137) % 8 = 0 then (4, 0) else if (k - 137) % 8 < 4 then (8, 4) else (8, 16))
  else (if (k - 169) % 7 = 0 then (1, 0) else if (k - 169) % 7 = 1 then (2, 0) else if (k - 169) % 7 = 2 then (10, 2) else if (k - 169) % 7 = 3 then (0, 0) else if (k - 169) % 7 = 4 then (8, 36) else (2, 0))
def cl_rp (k j : Nat) : Nat :=
  if k < 8 then (if k = 0 then [1, 0, 2, 0, 0, 0, 0, 3, 0, 131, 133, 135].getD j 0 else if k = 1 then 137 + 8 * j else if k = 2 then 169 + 7 * j else if k = 3 then [4, 0, 5, 6, 7].getD j 0 else 8 + 3 * j)
  else if k < 137 then k + 1
  else if k < 169 then k + (j - 1)
  else (if (k - 169) % 7 = 0 then [k + 1, k + 2, 0, k + 3].getD j 0 else if (k - 169) % 7 = 2 then k + 3 + j else k + 1)
def cl_Y (ad : Nat → Nat) : Ly := (253, ad, cl_kd, cl_rp)
section CLY
variable {ad : Nat → Nat}
theorem cy_is {k c : Nat} (h : k < 253) (h2 : (cl_kd k).1 = c) : ky_is (cl_Y ad) k c := ⟨h, h2⟩
theorem cy_0 : ky_is (cl_Y ad) 0 6 := cy_is (by decide) rfl
theorem cy_1 : ky_is (cl_Y ad) 1 12 := cy_is (by decide) rfl
theorem cy_2 : ky_is (cl_Y ad) 2 9 := cy_is (by decide) rfl
theorem cy_3 : ky_is (cl_Y ad) 3 5 := cy_is (by decide) rfl
theorem cy_4 : ky_is (cl_Y ad) 4 11 := cy_is (by decide) rfl
theorem cy_5 : ky_is (cl_Y ad) 5 8 := cy_is (by decide) rfl
theorem cy_6 : ky_is (cl_Y ad) 6 8 := cy_is (by decide) rfl
theorem cy_7 : ky_is (cl_Y ad) 7 8 := cy_is (by decide) rfl
theorem cy_l1 : ky_ln (cl_Y ad) 1 = 4 := rfl
theorem cy_l2 : ky_ln (cl_Y ad) 2 = 12 := rfl
theorem cy_l4 : ky_ln (cl_Y ad) 4 = 41 := rfl
theorem cy_l5 : ky_ln (cl_Y ad) 5 = 82 := rfl
theorem cy_l6 : ky_ln (cl_Y ad) 6 = 82 := rfl
theorem cy_l7 : ky_ln (cl_Y ad) 7 = 82 := rfl
theorem cy_p0 : ky_rp (cl_Y ad) 0 0 = 1 := rfl
theorem cy_p2 : ky_rp (cl_Y ad) 0 2 = 2 := rfl
theorem cy_p7 : ky_rp (cl_Y ad) 0 7 = 3 := rfl
theorem cy_p9 : ky_rp (cl_Y ad) 0 9 = 131 := rfl
theorem cy_p10 : ky_rp (cl_Y ad) 0 10 = 133 := rfl
theorem cy_p11 : ky_rp (cl_Y ad) 0 11 = 135 := rfl
theorem cy_t0 : ky_rp (cl_Y ad) 3 0 = 4 := rfl
theorem cy_t2 : ky_rp (cl_Y ad) 3 2 = 5 := rfl
theorem cy_t3 : ky_rp (cl_Y ad) 3 3 = 6 := rfl
theorem cy_t4 : ky_rp (cl_Y ad) 3 4 = 7 := rfl
theorem cy_rel (r : Nat) : ky_rp (cl_Y ad) 1 r = 137 + 8 * r := rfl
theorem cy_cla (c : Nat) : ky_rp (cl_Y ad) 2 c = 169 + 7 * c := rfl
theorem cy_nod (n : Nat) : ky_rp (cl_Y ad) 4 n = 8 + 3 * n := rfl
theorem cy_B1 : cl_B (cl_Y ad) 131 := ⟨cy_is (by decide) rfl, rfl, cy_is (by decide) rfl, rfl⟩
theorem cy_B2 : cl_B (cl_Y ad) 133 := ⟨cy_is (by decide) rfl, rfl, cy_is (by decide) rfl, rfl⟩
theorem cy_B3 : cl_B (cl_Y ad) 135 := ⟨cy_is (by decide) rfl, rfl, cy_is (by decide) rfl, rfl⟩
theorem cl_kd_node {n : Nat} (h : n < 41) : cl_kd (8 + 3 * n) = (3, 0) := by
  unfold cl_kd
  rw [if_neg (by omega), if_pos (by omega), if_pos (by omega)]
theorem cl_kd_node1 {n : Nat} (h : n < 41) : cl_kd (9 + 3 * n) = (0, 0) := by
  unfold cl_kd
  rw [if_neg (by omega), if_pos (by omega), if_neg (by omega), if_pos (by omega)]
theorem cl_kd_node2 {n : Nat} (h : n < 41) : cl_kd (10 + 3 * n) = (8, 36) := by
  unfold cl_kd
  rw [if_neg (by omega), if_pos (by omega), if_neg (by omega), if_neg (by omega)]
theorem cl_kd_rel {r : Nat} (h : r < 4) : cl_kd (137 + 8 * r) = (4, 0) := by
  unfold cl_kd
  rw [if_neg (by omega), if_neg (by omega), if_neg (by omega), if_pos (by omega), if_pos (by omega)]
theorem cl_kd_relm {r j : Nat} (h : r < 4) (h1 : 1 ≤ j) (h2 : j < 4) : cl_kd (137 + 8 * r + j) = (8, 4) := by
  unfold cl_kd
  rw [if_neg (by omega), if_neg (by omega), if_neg (by omega), if_pos (by omega), if_neg (by omega), if_pos (by omega)]
theorem cl_kd_relh {r j : Nat} (h : r < 4) (h1 : 4 ≤ j) (h2 : j < 8) : cl_kd (137 + 8 * r + j) = (8, 16) := by
  unfold cl_kd
  rw [if_neg (by omega), if_neg (by omega), if_neg (by omega), if_pos (by omega), if_neg (by omega), if_neg (by omega)]
theorem cl_kd_c0 {c : Nat} (h : c < 12) : cl_kd (169 + 7 * c) = (1, 0) := by
  unfold cl_kd
  rw [if_neg (by omega), if_neg (by omega), if_neg (by omega), if_neg (by omega), if_pos (by omega)]
theorem cl_kd_c1 {c : Nat} (h : c < 12) : cl_kd (170 + 7 * c) = (2, 0) := by
  unfold cl_kd
  rw [if_neg (by omega), if_neg (by omega), if_neg (by omega), if_neg (by omega), if_neg (by omega), if_pos (by omega)]
theorem cl_kd_c2 {c : Nat} (h : c < 12) : cl_kd (171 + 7 * c) = (10, 2) := by
  unfold cl_kd
  rw [if_neg (by omega), if_neg (by omega), if_neg (by omega), if_neg (by omega), if_neg (by omega), if_neg (by omega), if_pos (by omega)]
theorem cl_kd_c3 {c : Nat} (h : c < 12) : cl_kd (172 + 7 * c) = (0, 0) := by
  unfold cl_kd
  rw [if_neg (by omega), if_neg (by omega), if_neg (by omega), if_neg (by omega), if_neg (by omega), if_neg (by omega), if_neg (by omega), if_pos (by omega)]
theorem cl_kd_c4 {c : Nat} (h : c < 12) : cl_kd (173 + 7 * c) = (8, 36) := by
  unfold cl_kd
  rw [if_neg (by omega), if_neg (by omega), if_neg (by omega), if_neg (by omega), if_neg (by omega), if_neg (by omega), if_neg (by omega), if_neg (by omega), if_pos (by omega)]
theorem cl_kd_c5 {c a : Nat} (h : c < 12) (ha : a < 2) : cl_kd (174 + 7 * c + a) = (2, 0) := by
  unfold cl_kd
  rw [if_neg (by omega), if_neg (by omega), if_neg (by omega), if_neg (by omega), if_neg (by omega), if_neg (by omega), if_neg (by omega), if_neg (by omega), if_neg (by omega)]
theorem cy_kr {r : Nat} (h : r < 4) : ky_is (cl_Y ad) (137 + 8 * r) 4 := cy_is (by omega) (by rw [cl_kd_rel h])
theorem cy_krm {r j : Nat} (h : r < 4) (h1 : 1 ≤ j) (h2 : j < 4) : ky_is (cl_Y ad) (137 + 8 * r + j) 8 ∧ ky_ln (cl_Y ad) (137 + 8 * r + j) = 4 := ⟨cy_is (by omega) (by rw [cl_kd_relm h h1 h2]), by show (cl_kd _).2 = 4; rw [cl_kd_relm h h1 h2]⟩
theorem cy_krh {r j : Nat} (h : r < 4) (h1 : 4 ≤ j) (h2 : j < 8) : ky_is (cl_Y ad) (137 + 8 * r + j) 8 ∧ ky_ln (cl_Y ad) (137 + 8 * r + j) = 16 := ⟨cy_is (by omega) (by rw [cl_kd_relh h h1 h2]), by show (cl_kd _).2 = 16; rw [cl_kd_relh h h1 h2]⟩
theorem cy_rr {r j : Nat} (h : r < 4) (hj : 2 ≤ j) (hj9 : j < 9) : ky_rp (cl_Y ad) (137 + 8 * r) j = 137 + 8 * r + (j - 1) := by
  show cl_rp _ _ = _
  unfold cl_rp
  rw [if_neg (by omega), if_neg (by omega), if_pos (by omega)]
theorem cy_kc {c : Nat} (h : c < 12) : ky_is (cl_Y ad) (169 + 7 * c) 1 := cy_is (by omega) (by rw [cl_kd_c0 h])
theorem cy_kh {c : Nat} (h : c < 12) : ky_is (cl_Y ad) (170 + 7 * c) 2 := cy_is (by omega) (by rw [cl_kd_c1 h])
theorem cy_kb {c : Nat} (h : c < 12) : ky_is (cl_Y ad) (171 + 7 * c) 10 ∧ ky_ln (cl_Y ad) (171 + 7 * c) = 2 := ⟨cy_is (by omega) (by rw [cl_kd_c2 h]), by show (cl_kd _).2 = 2; rw [cl_kd_c2 h]⟩
theorem cy_ka {c a : Nat} (h : c < 12) (ha : a < 2) : ky_is (cl_Y ad) (174 + 7 * c + a) 2 := cy_is (by omega) (by rw [cl_kd_c5 h ha])
theorem cy_rc0 {c : Nat} (h : c < 12) : ky_rp (cl_Y ad) (169 + 7 * c) 0 = 170 + 7 * c := by
  show cl_rp _ _ = _
  unfold cl_rp
  rw [if_neg (by omega), if_neg (by omega), if_neg (by omega), if_pos (by omega)]
  show 169 + 7 * c + 1 = _
  omega
theorem cy_rc1 {c : Nat} (h : c < 12) : ky_rp (cl_Y ad) (169 + 7 * c) 1 = 171 + 7 * c := by
  show cl_rp _ _ = _
  unfold cl_rp
  rw [if_neg (by omega), if_neg (by omega), if_neg (by omega), if_pos (by omega)]
  show 169 + 7 * c + 2 = _
  omega
theorem cy_rc3 {c : Nat} (h : c < 12) : ky_rp (cl_Y ad) (169 + 7 * c) 3 = 172 + 7 * c := by
  show cl_rp _ _ = _
  unfold cl_rp
  rw [if_neg (by omega), if_neg (by omega), if_neg (by omega), if_pos (by omega)]
  show 169 + 7 * c + 3 = _
  omega
theorem cy_rb {c a : Nat} (h : c < 12) : ky_rp (cl_Y ad) (171 + 7 * c) a = 174 + 7 * c + a := by
  show cl_rp _ _ = _
  unfold cl_rp
  rw [if_neg (by omega), if_neg (by omega), if_neg (by omega), if_neg (by omega), if_pos (by omega)]
  omega
theorem cy_Bo {c : Nat} (h : c < 12) : cl_B (cl_Y ad) (172 + 7 * c) := by
  refine ⟨cy_is (by omega) (by rw [cl_kd_c3 h]), ?_, ?_, ?_⟩
  · show cl_rp _ _ = _
    unfold cl_rp
    rw [if_neg (by omega), if_neg (by omega), if_neg (by omega), if_neg (by omega), if_neg (by omega)]
  · rw [show 172 + 7 * c + 1 = 173 + 7 * c by omega]
    exact cy_is (by omega) (by rw [cl_kd_c4 h])
  · rw [show 172 + 7 * c + 1 = 173 + 7 * c by omega]
    show (cl_kd _).2 = 36
    rw [cl_kd_c4 h]
theorem cy_kn {n : Nat} (h : n < 41) : ky_is (cl_Y ad) (8 + 3 * n) 3 := cy_is (by omega) (by rw [cl_kd_node h])
theorem cy_rn {n : Nat} (h : n < 41) : ky_rp (cl_Y ad) (8 + 3 * n) 4 = 9 + 3 * n := by
  show cl_rp _ _ = _
  unfold cl_rp
  rw [if_neg (by omega), if_pos (by omega)]
  omega
theorem cy_Bn {n : Nat} (h : n < 41) : cl_B (cl_Y ad) (9 + 3 * n) := by
  refine ⟨cy_is (by omega) (by rw [cl_kd_node1 h]), ?_, ?_, ?_⟩
  · show cl_rp _ _ = _
    unfold cl_rp
    rw [if_neg (by omega), if_pos (by omega)]
  · rw [show 9 + 3 * n + 1 = 10 + 3 * n by omega]
    exact cy_is (by omega) (by rw [cl_kd_node2 h])
  · rw [show 9 + 3 * n + 1 = 10 + 3 * n by omega]
    show (cl_kd _).2 = 36
    rw [cl_kd_node2 h]
end CLY
/-- clear -/
theorem p_clear_L {Y : Ly} {k : Nat} (hB : cl_B Y k) {post : Mm → Prop} {I0 : Mm} (hk : ∀ J : Mm, (∀ a, a ≠ k + 1 → J a = I0 a) → (∀ i, i < 36 → J (k + 1) i = if i / 6 = i % 6 then 0 else 1000000000) → post J) : ∀ (r i : Nat), i + r = 36 → ∀ I : Mm, (∀ a, a ≠ k + 1 → I a = I0 a) → (∀ j, j < i → I (k + 1) j = if j / 6 = j % 6 then 0 else 1000000000) → w_X0_clear_L7 Y post (fun J => post J) (r + 1) k (nI i) I := by
  intro r
  have h36 : (36 : Int32).toInt = 36 := by decide
  induction r with
  | zero =>
    intro i hi I hI h
    refine ⟨fun _ => hk I hI (by rw [← show i = 36 by omega]; exact h), fun h => ?_⟩
    rw [in_le, in_n (by omega)] at h
    omega
  | succ r ih =>
    intro i hi I hI h
    refine ⟨fun h => ?_, fun _ => ⟨hB.1, ?_⟩⟩
    · rw [in_le, in_n (by omega)] at h
      omega
    · rw [hB.2.1, hB.2.2.2]
      have e1 : nI i / (6 : Int32) = nI (i / 6) := pk_div (by omega) (by decide) (by decide)
      have e2 : nI i - nI i / (6 : Int32) * (6 : Int32) = nI (i % 6) := pk_rem (by omega) (by decide) (by decide)
      have e3 : (nI i / (6 : Int32) = nI i - nI i / (6 : Int32) * (6 : Int32)) ↔ i / 6 = i % 6 := by
        rw [e2, e1]
        exact nI_eq (by omega) (by omega)
      have go : ∀ v, v = (if i / 6 = i % 6 then (0 : Int32) else 1000000000) → ∀ J, J = ky_up I (k + 1) (nI i).toNatClampNeg v → ∀ x, x = nI i + 1 → w_X0_clear_L7 Y post (fun J => post J) (r + 1) k x J := by
        intro v hv J hJ x hx
        rw [hx, in_s]
        rw [in_c (by omega)] at hJ
        refine ih (i + 1) (by omega) J (fun a ha => by rw [hJ, ky_up_ne ha]; exact hI a ha) (fun j hj => ?_)
        rw [hJ, ky_up_eq]
        unfold upd
        by_cases hji : j = i
        · rw [if_pos hji, hv, hji]
        · rw [if_neg hji]; exact h j (by omega)
      refine ⟨fun h1 => ⟨hB.2.2.1, vp_in_nI (by omega) (by decide), go _ (by rw [if_neg (fun h2 => h1 (e3.mpr h2))])⟩, fun h1 => ⟨hB.2.2.1, vp_in_nI (by omega) (by decide), go _ (by rw [if_pos (e3.mp h1)])⟩⟩
theorem p_clear {Y : Ly} {k : Nat} (hB : cl_B Y k) {post : Mm → Prop} {I : Mm} (hk : ∀ J : Mm, cl_F I J k → cl_S J k [] → post J) : w_X0_clear Y I k post := by
  refine ⟨hB.1, fun J hJ => ⟨36 + 1, p_clear_L hB (fun L hL h => ?_) 36 0 (by omega) J (fun _ _ => rfl) (fun j hj => absurd hj (Nat.not_lt_zero j))⟩⟩
  have e1 : L k = upd (I k) 1 1 := by rw [hL k (by omega), hJ, ky_up_eq]
  refine hk L ⟨fun a ha hb => by rw [hL a hb, hJ, ky_up_ne ha], fun j hj => by rw [e1]; unfold upd; rw [if_neg hj]⟩ (Or.inl ⟨by rw [e1]; unfold upd; rw [if_pos rfl], ?_⟩)
  refine df_C_congr (fun e he => by cases he) (fun i j hi hj => ?_) (df_C_nil 6)
  unfold cl_M df_I
  rw [h _ (by omega), show (i * 6 + j) / 6 = i by omega, show (i * 6 + j) % 6 = j by omega]
  by_cases hij : i = j
  · rw [if_pos hij, if_pos hij, md_o_of (by decide), in_0]
  · rw [if_neg hij, if_neg hij, md_o_free]
