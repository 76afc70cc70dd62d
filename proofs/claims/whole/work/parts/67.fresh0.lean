/-! A DESK JUST MADE: its cells by their numbers -/
def dk_z : Nat → Nat := fun _ => 0
def dk_ad (u : dS) (k : Nat) : Nat :=
  if k < 3 then u.1 k
  else if k < 8 then u.2.1 (k - 3)
  else if k < 131 then u.2.2.1.getD ((k - 8) / 3) dk_z ((k - 8) % 3)
  else if k < 133 then u.2.2.2.1 (k - 131)
  else if k < 135 then u.2.2.2.2.1 (k - 133)
  else if k < 137 then u.2.2.2.2.2.1 (k - 135)
  else if k < 169 then u.2.2.2.2.2.2.1.getD ((k - 137) / 8) dk_z ((k - 137) % 8)
  else u.2.2.2.2.2.2.2.getD ((k - 169) / 7) dk_z ((k - 169) % 7)
def dk_I : Mm := fun k j => if (cl_kd k).1 = 0 then (if j = 1 then 1 else 0) else if cl_kd k = (8, 36) then kq_cm j else if k = 0 ∧ j = 6 then -1 else 0
theorem fm_len {f : (Nat → Nat) → va_W} {n : Nat} (hn : ∀ x, (f x).length = n) : ∀ L : List (Nat → Nat), (L.flatMap f).length = n * L.length := by
  intro L
  induction L with
  | nil => rfl
  | cons x xs ih => rw [List.flatMap_cons, List.length_append, hn, ih, List.length_cons, Nat.mul_succ]; omega
theorem fm_get {f : (Nat → Nat) → va_W} {n : Nat} (hn : ∀ x, (f x).length = n) : ∀ (L : List (Nat → Nat)) (i r : Nat), i < L.length → r < n → (L.flatMap f)[n * i + r]? = (f (L.getD i dk_z))[r]? := by
  intro L
  induction L with
  | nil => intro i r hi; exact absurd hi (by simp)
  | cons x xs ih =>
    intro i r hi hr
    rw [List.flatMap_cons]
    cases i with
    | zero => rw [List.getElem?_append_left (by rw [hn]; omega)]; simp
    | succ i =>
      rw [List.getElem?_append_right (by rw [hn, Nat.mul_succ]; omega), hn, show n * (i + 1) + r - n = n * i + r by rw [Nat.mul_succ]; omega, ih i r (by simpa using hi) hr]
      rfl
theorem lk_r {X Y : va_W} {n i : Nat} (h : X.length = n) : (X ++ Y)[n + i]? = Y[i]? := by rw [List.getElem?_append_right (by omega), h, Nat.add_sub_cancel_left]
theorem lk_l {X Y : va_W} {i : Nat} (h : i < X.length) : (X ++ Y)[i]? = X[i]? := List.getElem?_append_left h
section DKS
variable {C : Cc} {u : dS} {h0 : Nat}
theorem dk_lT (hu : dS_p h0 u) : (wTreeP C u.2.1 u.2.2.1).length = 128 := by
  unfold wTreeP wTreeG
  rw [List.length_append, fm_len (n := 3) (fun _ => rfl), hu.2.1]
  rfl
theorem dk_node (hu : dS_p h0 u) {n r : Nat} (hn : n < 41) (hr : r < 3) : (dS_w C u)[8 + 3 * n + r]? = (wNode C (u.2.2.1.getD n dk_z))[r]? := by
  unfold dS_w wDeskF
  rw [show 8 + 3 * n + r = 3 + (5 + (3 * n + r)) by omega, lk_r (n := 3) rfl, lk_l (by simp only [List.length_append, dk_lT hu]; omega), lk_l (by simp only [List.length_append, dk_lT hu]; omega), lk_l (by simp only [List.length_append, dk_lT hu]; omega), lk_l (by simp only [List.length_append, dk_lT hu]; omega), lk_l (by rw [dk_lT hu]; omega)]
  unfold wTreeP wTreeG
  rw [lk_r (n := 5) rfl, fm_get (n := 3) (fun _ => rfl) _ _ _ (by rw [hu.2.1]; exact hn) hr]
theorem dk_tree (hu : dS_p h0 u) {r : Nat} (hr : r < 5) : (dS_w C u)[3 + r]? = (wTreeG C u.2.1 (kq_rf u.2.2.1) [])[r]? := by
  unfold dS_w wDeskF
  rw [lk_r (n := 3) rfl, lk_l (by simp only [List.length_append, dk_lT hu]; omega), lk_l (by simp only [List.length_append, dk_lT hu]; omega), lk_l (by simp only [List.length_append, dk_lT hu]; omega), lk_l (by simp only [List.length_append, dk_lT hu]; omega), lk_l (by rw [dk_lT hu]; omega)]
  unfold wTreeP wTreeG
  match r, hr with
  | 0, _ => rfl
  | 1, _ => rfl
  | 2, _ => rfl
  | 3, _ => rfl
  | 4, _ => rfl
theorem dk_b1 (hu : dS_p h0 u) {r : Nat} (hr : r < 2) : (dS_w C u)[131 + r]? = (wBS C u.2.2.2.1)[r]? := by
  unfold dS_w wDeskF
  have e : (wBS C u.2.2.2.1).length = 2 := rfl
  rw [show 131 + r = 3 + (128 + r) by omega, lk_r (n := 3) rfl, lk_l (by simp only [List.length_append, dk_lT hu, e]; omega), lk_l (by simp only [List.length_append, dk_lT hu, e]; omega), lk_l (by simp only [List.length_append, dk_lT hu, e]; omega), lk_l (by simp only [List.length_append, dk_lT hu, e]; omega), lk_r (dk_lT hu)]
theorem dk_lb (hu : dS_p h0 u) : (wTreeP C u.2.1 u.2.2.1 ++ wBS C u.2.2.2.1).length = 130 := by rw [List.length_append, dk_lT hu]; rfl
theorem dk_lc (hu : dS_p h0 u) : (wTreeP C u.2.1 u.2.2.1 ++ wBS C u.2.2.2.1 ++ wBS C u.2.2.2.2.1).length = 132 := by rw [List.length_append, dk_lb hu]; rfl
theorem dk_ld (hu : dS_p h0 u) : (wTreeP C u.2.1 u.2.2.1 ++ wBS C u.2.2.2.1 ++ wBS C u.2.2.2.2.1 ++ wBS C u.2.2.2.2.2.1).length = 134 := by rw [List.length_append, dk_lc hu]; rfl
theorem dk_le (hu : dS_p h0 u) : (wTreeP C u.2.1 u.2.2.1 ++ wBS C u.2.2.2.1 ++ wBS C u.2.2.2.2.1 ++ wBS C u.2.2.2.2.2.1 ++ u.2.2.2.2.2.2.1.flatMap (wRel C)).length = 166 := by rw [List.length_append, dk_ld hu, fm_len (n := 8) (fun _ => rfl), hu.2.2.1]
theorem dk_b2 (hu : dS_p h0 u) {r : Nat} (hr : r < 2) : (dS_w C u)[133 + r]? = (wBS C u.2.2.2.2.1)[r]? := by
  unfold dS_w wDeskF
  have e : (wBS C u.2.2.2.2.1).length = 2 := rfl
  rw [show 133 + r = 3 + (130 + r) by omega, lk_r (n := 3) rfl, lk_l (by rw [dk_le hu]; omega), lk_l (by rw [dk_ld hu]; omega), lk_l (by rw [dk_lc hu]; omega), lk_r (dk_lb hu)]
theorem dk_b3 (hu : dS_p h0 u) {r : Nat} (hr : r < 2) : (dS_w C u)[135 + r]? = (wBS C u.2.2.2.2.2.1)[r]? := by
  unfold dS_w wDeskF
  rw [show 135 + r = 3 + (132 + r) by omega, lk_r (n := 3) rfl, lk_l (by rw [dk_le hu]; omega), lk_l (by rw [dk_ld hu]; omega), lk_r (dk_lc hu)]
theorem dk_rel (hu : dS_p h0 u) {n r : Nat} (hn : n < 4) (hr : r < 8) : (dS_w C u)[137 + 8 * n + r]? = (wRel C (u.2.2.2.2.2.2.1.getD n dk_z))[r]? := by
  unfold dS_w wDeskF
  rw [show 137 + 8 * n + r = 3 + (134 + (8 * n + r)) by omega, lk_r (n := 3) rfl, lk_l (by rw [dk_le hu]; omega), lk_r (dk_ld hu), fm_get (n := 8) (fun _ => rfl) _ _ _ (by rw [hu.2.2.1]; exact hn) hr]
theorem dk_cla (hu : dS_p h0 u) {n r : Nat} (hn : n < 12) (hr : r < 7) : (dS_w C u)[169 + 7 * n + r]? = (wCla C (u.2.2.2.2.2.2.2.getD n dk_z))[r]? := by
  unfold dS_w wDeskF
  rw [show 169 + 7 * n + r = 3 + (166 + (7 * n + r)) by omega, lk_r (n := 3) rfl, lk_r (dk_le hu), fm_get (n := 7) (fun _ => rfl) _ _ _ (by rw [hu.2.2.2]; exact hn) hr]
theorem ad_node {n r : Nat} (hn : n < 41) (hr : r < 3) : dk_ad u (8 + 3 * n + r) = u.2.2.1.getD n dk_z r := by
  unfold dk_ad
  rw [if_neg (by omega), if_neg (by omega), if_pos (by omega), show (8 + 3 * n + r - 8) / 3 = n by omega, show (8 + 3 * n + r - 8) % 3 = r by omega]
theorem ad_rel {n r : Nat} (hn : n < 4) (hr : r < 8) : dk_ad u (137 + 8 * n + r) = u.2.2.2.2.2.2.1.getD n dk_z r := by
  unfold dk_ad
  rw [if_neg (by omega), if_neg (by omega), if_neg (by omega), if_neg (by omega), if_neg (by omega), if_neg (by omega), if_pos (by omega), show (137 + 8 * n + r - 137) / 8 = n by omega, show (137 + 8 * n + r - 137) % 8 = r by omega]
theorem ad_cla {n r : Nat} (hn : n < 12) (hr : r < 7) : dk_ad u (169 + 7 * n + r) = u.2.2.2.2.2.2.2.getD n dk_z r := by
  unfold dk_ad
  rw [if_neg (by omega), if_neg (by omega), if_neg (by omega), if_neg (by omega), if_neg (by omega), if_neg (by omega), if_neg (by omega), show (169 + 7 * n + r - 169) / 7 = n by omega, show (169 + 7 * n + r - 169) % 7 = r by omega]
/-- an entry that is cell k -/
def dk_ok (C : Cc) (u : dS) (k : Nat) : Prop := ∃ e, (dS_w C u)[k]? = some (dk_ad u k, e) ∧ kq_same e (ky_ce C (cl_Y (dk_ad u)) dk_I k)
theorem dk_bs {k a b : Nat} (hk : k < 253) (h1 : cl_kd k = (0, 0)) (h2 : cl_rp k 0 = k + 1) (ha : dk_ad u k = a) (hb : dk_ad u (k + 1) = b) (hl : (dS_w C u)[k]? = some (a, .inr (0, [.ref b, .int 1]))) : dk_ok C u k := by
  refine ⟨_, by rw [ha]; exact hl, .rf ?_⟩
  rw [ky_ce_o (c := 0) ⟨hk, by show (cl_kd k).1 = 0; rw [h1]⟩ (by decide)]
  have e : ky_fl (cl_Y (dk_ad u)) dk_I k 0 = [.ref (dk_ad u (cl_rp k 0)), .int (dk_I k 1)] := rfl
  rw [e, h2, hb, show dk_I k 1 = 1 by unfold dk_I; rw [h1]; rfl]
theorem dk_row36 {k a : Nat} (hk : k < 253) (h1 : cl_kd k = (8, 36)) (ha : dk_ad u k = a) (hl : (dS_w C u)[k]? = some (a, .inl (C.2.1, 36, .inl kq_cm))) : dk_ok C u k := by
  refine ⟨_, by rw [ha]; exact hl, ?_⟩
  rw [ky_ce_i ⟨hk, by show (cl_kd k).1 = 8; rw [h1]⟩, show ky_ln (cl_Y (dk_ad u)) k = 36 by show (cl_kd k).2 = 36; rw [h1]]
  exact .row (fun j _ => by unfold dk_I; rw [h1]; rfl)
theorem dk_row {k a n : Nat} (hk : k < 253) (h1 : cl_kd k = (8, n)) (h2 : n ≠ 36) (ha : dk_ad u k = a) (hl : (dS_w C u)[k]? = some (a, .inl (C.2.1, n, .inl (fun _ => 0)))) : dk_ok C u k := by
  refine ⟨_, by rw [ha]; exact hl, ?_⟩
  rw [ky_ce_i ⟨hk, by show (cl_kd k).1 = 8; rw [h1]⟩, show ky_ln (cl_Y (dk_ad u)) k = n by show (cl_kd k).2 = n; rw [h1]]
  refine .row (fun j _ => ?_)
  have hk0 : k ≠ 0 := by intro h; rw [h] at h1; exact absurd (show (6 : Nat) = 8 from congrArg Prod.fst h1) (by decide)
  unfold dk_I
  rw [h1, if_neg (show ¬ (8 : Nat) = 0 by decide), if_neg (by simpa using h2), if_neg (by omega)]
theorem dk_i0 {k j c : Nat} (h1 : cl_kd k = (c, 0)) (h2 : c ≠ 0) (hk : k ≠ 0) : dk_I k j = 0 := by
  unfold dk_I
  rw [h1, if_neg (by simpa using h2), if_neg (by simp), if_neg (by omega)]
theorem rp_node {n j : Nat} (hn : n < 41) : cl_rp (8 + 3 * n) j = 8 + 3 * n + 1 := by
  unfold cl_rp
  rw [if_neg (by omega), if_pos (by omega)]
theorem rp_bs {k : Nat} (h1 : 8 ≤ k) (h2 : k < 137) {j : Nat} : cl_rp k j = k + 1 := by
  unfold cl_rp
  rw [if_neg (by omega), if_pos (by omega)]
theorem rp_rel {n j : Nat} (hn : n < 4) : cl_rp (137 + 8 * n) j = 137 + 8 * n + (j - 1) := by
  unfold cl_rp
  rw [if_neg (by omega), if_neg (by omega), if_pos (by omega)]
theorem rp_c0 {n j : Nat} (hn : n < 12) : cl_rp (169 + 7 * n) j = [169 + 7 * n + 1, 169 + 7 * n + 2, 0, 169 + 7 * n + 3].getD j 0 := by
  unfold cl_rp
  rw [if_neg (by omega), if_neg (by omega), if_neg (by omega), if_pos (by omega)]
theorem rp_c2 {n j : Nat} (hn : n < 12) : cl_rp (169 + 7 * n + 2) j = 169 + 7 * n + 5 + j := by
  unfold cl_rp
  rw [if_neg (by omega), if_neg (by omega), if_neg (by omega), if_neg (by omega), if_pos (by omega)]
theorem rp_c3 {n j : Nat} (hn : n < 12) : cl_rp (169 + 7 * n + 3) j = 169 + 7 * n + 4 := by
  unfold cl_rp
  rw [if_neg (by omega), if_neg (by omega), if_neg (by omega), if_neg (by omega), if_neg (by omega)]
set_option maxRecDepth 100000 in
theorem dk_0 (hu : dS_p h0 u) : dk_ok C u 0 := by
  refine ⟨_, rfl, .rf ?_⟩
  rw [ky_ce_o cy_0 (by decide)]
  have e : ky_fl (cl_Y (dk_ad u)) dk_I 0 6 = [.ref (dk_ad u 1), .int (dk_I 0 1), .ref (dk_ad u 2), .int (dk_I 0 3), .int (dk_I 0 4), .int (dk_I 0 5), .int (dk_I 0 6), .ref (dk_ad u 3), .int (dk_I 0 8), .ref (dk_ad u 131), .ref (dk_ad u 133), .ref (dk_ad u 135)] := rfl
  have i : ∀ j, j ≠ 6 → dk_I 0 j = 0 := fun j hj => by
    unfold dk_I
    rw [if_neg (by decide), if_neg (by decide), if_neg (by omega)]
  have i6 : dk_I 0 6 = -1 := by
    unfold dk_I
    rw [if_neg (by decide), if_neg (by decide), if_pos ⟨rfl, rfl⟩]
  rw [e, i 1 (by decide), i 3 (by decide), i 4 (by decide), i 5 (by decide), i 8 (by decide), i6]
  rfl
theorem rf_at {L : List (Nat → Nat)} {j : Nat} (h : j < L.length) : kq_rf L j = some (L.getD j dk_z 0) := by
  unfold kq_rf
  rw [List.getElem?_eq_getElem h]
  simp [List.getD, h]
theorem dk_1 (hu : dS_p h0 u) : dk_ok C u 1 := by
  refine ⟨_, rfl, ?_⟩
  rw [ky_ce_r cy_1 (by decide)]
  refine .refs (fun j hj => ?_)
  rw [rf_at (by rw [hu.2.2.1]; exact hj)]
  show some _ = some (dk_ad u (137 + 8 * j + 0))
  rw [ad_rel hj (by decide)]
theorem dk_2 (hu : dS_p h0 u) : dk_ok C u 2 := by
  refine ⟨_, rfl, ?_⟩
  rw [ky_ce_r cy_2 (by decide)]
  refine .refs (fun j hj => ?_)
  rw [rf_at (by rw [hu.2.2.2]; exact hj)]
  show some _ = some (dk_ad u (169 + 7 * j + 0))
  rw [ad_cla hj (by decide)]
theorem dk_3 (hu : dS_p h0 u) : dk_ok C u 3 := ⟨_, dk_tree hu (r := 0) (by decide), .rf rfl⟩
theorem dk_4 (hu : dS_p h0 u) : dk_ok C u 4 := by
  refine ⟨_, dk_tree hu (r := 1) (by decide), ?_⟩
  rw [ky_ce_r cy_4 (by decide)]
  refine .refs (fun j hj => ?_)
  rw [rf_at (by rw [hu.2.1]; exact hj)]
  show some _ = some (dk_ad u (8 + 3 * j + 0))
  rw [ad_node hj (by decide)]
theorem dk_567 (hu : dS_p h0 u) {k : Nat} (h1 : 5 ≤ k) (h2 : k < 8) : dk_ok C u k := by
  match k, h1, h2 with
  | 5, _, _ => exact dk_row (n := 82) (by decide) rfl (by decide) rfl (dk_tree hu (r := 2) (by decide))
  | 6, _, _ => exact dk_row (n := 82) (by decide) rfl (by decide) rfl (dk_tree hu (r := 3) (by decide))
  | 7, _, _ => exact dk_row (n := 82) (by decide) rfl (by decide) rfl (dk_tree hu (r := 4) (by decide))
theorem dk_n0 (hu : dS_p h0 u) {n : Nat} (hn : n < 41) : dk_ok C u (8 + 3 * n) := by
  have hl := dk_node (C := C) hu hn (r := 0) (by decide)
  have ha := ad_node (u := u) hn (r := 0) (by decide)
  refine ⟨_, by rw [show 8 + 3 * n = 8 + 3 * n + 0 from rfl, ha]; exact hl, .rf ?_⟩
  rw [ky_ce_o (cy_kn hn) (by decide)]
  have e : ky_fl (cl_Y (dk_ad u)) dk_I (8 + 3 * n) 3 = [.int (dk_I (8 + 3 * n) 0), .int (dk_I (8 + 3 * n) 1), .int (dk_I (8 + 3 * n) 2), .int (dk_I (8 + 3 * n) 3), .ref (dk_ad u (cl_rp (8 + 3 * n) 4))] := rfl
  rw [e, rp_node hn, ad_node hn (by decide), dk_i0 (cl_kd_node hn) (by decide) (by omega), dk_i0 (cl_kd_node hn) (by decide) (by omega), dk_i0 (cl_kd_node hn) (by decide) (by omega), dk_i0 (cl_kd_node hn) (by decide) (by omega)]
theorem dk_n1 (hu : dS_p h0 u) {n : Nat} (hn : n < 41) : dk_ok C u (8 + 3 * n + 1) :=
  dk_bs (by omega) (by rw [show 8 + 3 * n + 1 = 9 + 3 * n by omega]; exact cl_kd_node1 hn) (rp_bs (by omega) (by omega)) (ad_node hn (by decide)) (ad_node hn (r := 2) (by decide)) (dk_node hu hn (by decide))
theorem dk_n2 (hu : dS_p h0 u) {n : Nat} (hn : n < 41) : dk_ok C u (8 + 3 * n + 2) :=
  dk_row36 (by omega) (by rw [show 8 + 3 * n + 2 = 10 + 3 * n by omega]; exact cl_kd_node2 hn) (ad_node hn (by decide)) (dk_node hu hn (by decide))
theorem dk_bb (hu : dS_p h0 u) {k : Nat} (h1 : 131 ≤ k) (h2 : k < 137) : dk_ok C u k := by
  rcases (show k = 131 ∨ k = 132 ∨ k = 133 ∨ k = 134 ∨ k = 135 ∨ k = 136 by omega) with rfl | rfl | rfl | rfl | rfl | rfl
  · exact dk_bs (by decide) rfl rfl rfl rfl (dk_b1 hu (r := 0) (by decide))
  · exact dk_row36 (by decide) rfl rfl (dk_b1 hu (r := 1) (by decide))
  · exact dk_bs (by decide) rfl rfl rfl rfl (dk_b2 hu (r := 0) (by decide))
  · exact dk_row36 (by decide) rfl rfl (dk_b2 hu (r := 1) (by decide))
  · exact dk_bs (by decide) rfl rfl rfl rfl (dk_b3 hu (r := 0) (by decide))
  · exact dk_row36 (by decide) rfl rfl (dk_b3 hu (r := 1) (by decide))
theorem dk_r0 (hu : dS_p h0 u) {n : Nat} (hn : n < 4) : dk_ok C u (137 + 8 * n) := by
  have hl := dk_rel (C := C) hu hn (r := 0) (by decide)
  have ha := ad_rel (u := u) hn (r := 0) (by decide)
  refine ⟨_, by rw [show 137 + 8 * n = 137 + 8 * n + 0 from rfl, ha]; exact hl, .rf ?_⟩
  rw [ky_ce_o (cy_kr hn) (by decide)]
  have e : ky_fl (cl_Y (dk_ad u)) dk_I (137 + 8 * n) 4 = [.int (dk_I (137 + 8 * n) 0), .int (dk_I (137 + 8 * n) 1), .ref (dk_ad u (cl_rp (137 + 8 * n) 2)), .ref (dk_ad u (cl_rp (137 + 8 * n) 3)), .ref (dk_ad u (cl_rp (137 + 8 * n) 4)), .ref (dk_ad u (cl_rp (137 + 8 * n) 5)), .ref (dk_ad u (cl_rp (137 + 8 * n) 6)), .ref (dk_ad u (cl_rp (137 + 8 * n) 7)), .ref (dk_ad u (cl_rp (137 + 8 * n) 8))] := rfl
  rw [e, rp_rel hn, rp_rel hn, rp_rel hn, rp_rel hn, rp_rel hn, rp_rel hn, rp_rel hn, ad_rel hn (by decide), ad_rel hn (by decide), ad_rel hn (by decide), ad_rel hn (by decide), ad_rel hn (by decide), ad_rel hn (by decide), ad_rel hn (by decide), dk_i0 (cl_kd_rel hn) (by decide) (by omega), dk_i0 (cl_kd_rel hn) (by decide) (by omega)]
theorem dk_rr (hu : dS_p h0 u) {n j : Nat} (hn : n < 4) (h1 : 1 ≤ j) (h2 : j < 8) : dk_ok C u (137 + 8 * n + j) := by
  match j, h1, h2 with
  | 1, _, _ => exact dk_row (n := 4) (by omega) (cl_kd_relm hn (by decide) (by decide)) (by decide) (ad_rel hn (by decide)) (dk_rel hu hn (by decide))
  | 2, _, _ => exact dk_row (n := 4) (by omega) (cl_kd_relm hn (by decide) (by decide)) (by decide) (ad_rel hn (by decide)) (dk_rel hu hn (by decide))
  | 3, _, _ => exact dk_row (n := 4) (by omega) (cl_kd_relm hn (by decide) (by decide)) (by decide) (ad_rel hn (by decide)) (dk_rel hu hn (by decide))
  | 4, _, _ => exact dk_row (n := 16) (by omega) (cl_kd_relh hn (by decide) (by decide)) (by decide) (ad_rel hn (by decide)) (dk_rel hu hn (by decide))
  | 5, _, _ => exact dk_row (n := 16) (by omega) (cl_kd_relh hn (by decide) (by decide)) (by decide) (ad_rel hn (by decide)) (dk_rel hu hn (by decide))
  | 6, _, _ => exact dk_row (n := 16) (by omega) (cl_kd_relh hn (by decide) (by decide)) (by decide) (ad_rel hn (by decide)) (dk_rel hu hn (by decide))
  | 7, _, _ => exact dk_row (n := 16) (by omega) (cl_kd_relh hn (by decide) (by decide)) (by decide) (ad_rel hn (by decide)) (dk_rel hu hn (by decide))
theorem dk_lit {k a : Nat} (hk : k < 253) (h1 : cl_kd k = (2, 0)) (hk0 : k ≠ 0) (ha : dk_ad u k = a) (hl : (dS_w C u)[k]? = some (a, .inr (2, [.int 0, .int 0, .int 0]))) : dk_ok C u k := by
  refine ⟨_, by rw [ha]; exact hl, .rf ?_⟩
  rw [ky_ce_o (c := 2) ⟨hk, by show (cl_kd k).1 = 2; rw [h1]⟩ (by decide)]
  have e : ky_fl (cl_Y (dk_ad u)) dk_I k 2 = [.int (dk_I k 0), .int (dk_I k 1), .int (dk_I k 2)] := rfl
  rw [e, dk_i0 h1 (by decide) hk0, dk_i0 h1 (by decide) hk0, dk_i0 h1 (by decide) hk0]
theorem dk_c0 (hu : dS_p h0 u) {n : Nat} (hn : n < 12) : dk_ok C u (169 + 7 * n) := by
  have hl := dk_cla (C := C) hu hn (r := 0) (by decide)
  have ha := ad_cla (u := u) hn (r := 0) (by decide)
  refine ⟨_, by rw [show 169 + 7 * n = 169 + 7 * n + 0 from rfl, ha]; exact hl, .rf ?_⟩
  rw [ky_ce_o (cy_kc hn) (by decide)]
  have e : ky_fl (cl_Y (dk_ad u)) dk_I (169 + 7 * n) 1 = [.ref (dk_ad u (cl_rp (169 + 7 * n) 0)), .ref (dk_ad u (cl_rp (169 + 7 * n) 1)), .int (dk_I (169 + 7 * n) 2), .ref (dk_ad u (cl_rp (169 + 7 * n) 3)), .int (dk_I (169 + 7 * n) 4)] := rfl
  have e0 : cl_rp (169 + 7 * n) 0 = 169 + 7 * n + 1 := rp_c0 hn
  have e1 : cl_rp (169 + 7 * n) 1 = 169 + 7 * n + 2 := rp_c0 hn
  have e3 : cl_rp (169 + 7 * n) 3 = 169 + 7 * n + 3 := rp_c0 hn
  rw [e, e0, e1, e3, ad_cla hn (by decide), ad_cla hn (by decide), ad_cla hn (by decide), dk_i0 (cl_kd_c0 hn) (by decide) (by omega), dk_i0 (cl_kd_c0 hn) (by decide) (by omega)]
theorem dk_cc (hu : dS_p h0 u) {n j : Nat} (hn : n < 12) (h1 : 1 ≤ j) (h2 : j < 7) : dk_ok C u (169 + 7 * n + j) := by
  match j, h1, h2 with
  | 1, _, _ => exact dk_lit (by omega) (by rw [show 169 + 7 * n + 1 = 170 + 7 * n by omega]; exact cl_kd_c1 hn) (by omega) (ad_cla hn (by decide)) (dk_cla hu hn (by decide))
  | 2, _, _ =>
    refine ⟨_, by rw [ad_cla hn (by decide)]; exact dk_cla hu hn (by decide), ?_⟩
    have hk : cl_kd (169 + 7 * n + 2) = (10, 2) := by rw [show 169 + 7 * n + 2 = 171 + 7 * n by omega]; exact cl_kd_c2 hn
    rw [ky_ce_r (c := 10) ⟨by show 169 + 7 * n + 2 < 253; omega, by show (cl_kd _).1 = 10; rw [hk]⟩ (by decide), show ky_ln (cl_Y (dk_ad u)) (169 + 7 * n + 2) = 2 by show (cl_kd _).2 = 2; rw [hk]]
    refine .refs (fun j hj => ?_)
    show _ = some (dk_ad u (cl_rp (169 + 7 * n + 2) j))
    rw [rp_c2 hn]
    match j, hj with
    | 0, _ => rw [show 169 + 7 * n + 5 + 0 = 169 + 7 * n + 5 from rfl, ad_cla hn (by decide)]; rfl
    | 1, _ => rw [show 169 + 7 * n + 5 + 1 = 169 + 7 * n + 6 from rfl, ad_cla hn (by decide)]; rfl
  | 3, _, _ => exact dk_bs (by omega) (by rw [show 169 + 7 * n + 3 = 172 + 7 * n by omega]; exact cl_kd_c3 hn) (rp_c3 hn) (ad_cla hn (by decide)) (ad_cla hn (r := 4) (by decide)) (dk_cla hu hn (by decide))
  | 4, _, _ => exact dk_row36 (by omega) (by rw [show 169 + 7 * n + 4 = 173 + 7 * n by omega]; exact cl_kd_c4 hn) (ad_cla hn (by decide)) (dk_cla hu hn (by decide))
  | 5, _, _ => exact dk_lit (by omega) (by rw [show 169 + 7 * n + 5 = 174 + 7 * n + 0 by omega]; exact cl_kd_c5 hn (by decide)) (by omega) (ad_cla hn (by decide)) (dk_cla hu hn (by decide))
  | 6, _, _ => exact dk_lit (by omega) (by rw [show 169 + 7 * n + 6 = 174 + 7 * n + 1 by omega]; exact cl_kd_c5 hn (by decide)) (by omega) (ad_cla hn (by decide)) (dk_cla hu hn (by decide))
theorem dk_all (hu : dS_p h0 u) {k : Nat} (hk : k < 253) : dk_ok C u k := by
  by_cases a1 : k < 8
  · by_cases a2 : 5 ≤ k
    · exact dk_567 hu a2 a1
    · rcases (show k = 0 ∨ k = 1 ∨ k = 2 ∨ k = 3 ∨ k = 4 by omega) with rfl | rfl | rfl | rfl | rfl
      · exact dk_0 hu
      · exact dk_1 hu
      · exact dk_2 hu
      · exact dk_3 hu
      · exact dk_4 hu
  · by_cases a2 : k < 131
    · obtain ⟨n, r, hn, hr, rfl⟩ : ∃ n r, n < 41 ∧ r < 3 ∧ k = 8 + 3 * n + r := ⟨(k - 8) / 3, (k - 8) % 3, by omega, by omega, by omega⟩
      match r, hr with
      | 0, _ => exact dk_n0 hu hn
      | 1, _ => exact dk_n1 hu hn
      | 2, _ => exact dk_n2 hu hn
    · by_cases a3 : k < 137
      · exact dk_bb hu (by omega) a3
      · by_cases a4 : k < 169
        · obtain ⟨n, r, hn, hr, rfl⟩ : ∃ n r, n < 4 ∧ r < 8 ∧ k = 137 + 8 * n + r := ⟨(k - 137) / 8, (k - 137) % 8, by omega, by omega, by omega⟩
          by_cases h0 : r = 0
          · rw [h0]; exact dk_r0 hu hn
          · exact dk_rr hu hn (by omega) hr
        · obtain ⟨n, r, hn, hr, rfl⟩ : ∃ n r, n < 12 ∧ r < 7 ∧ k = 169 + 7 * n + r := ⟨(k - 169) / 7, (k - 169) % 7, by omega, by omega, by omega⟩
          by_cases h0 : r = 0
          · rw [h0]; exact dk_c0 hu hn
          · exact dk_cc hu hn (by omega) hr
/-- the desk's cells, as the calls take them -/
theorem dk_world (hu : dS_p h0 u) {A : Nat → Prop} {H : Heap} (hP : va_P C.1 vwCl (dS_w C u) H) (hD : va_D A (dS_w C u)) : va_P C.1 vwCl (ky_wl C (cl_Y (dk_ad u)) dk_I) H ∧ va_D A (ky_wl C (cl_Y (dk_ad u)) dk_I) := by
  refine kq_conv (fun k q hq => ?_) hP hD
  have hk : k < 253 := by
    have := (List.getElem?_eq_some_iff.mp hq).1
    rw [ky_wl_len] at this
    exact this
  rw [ky_wl_get (Y := cl_Y (dk_ad u)) hk] at hq
  cases hq
  exact dk_all hu hk
theorem dk_h0 (hu : dS_p h0 u) : dk_ad u 0 = h0 := hu.1
end DKS
/-- the reference's cells -/
def mk_I : Mm := fun k j => if k = 0 ∧ j = 21 then -1 else 0
theorem mk_eq {C : Cc} {a : Nat → Nat} : wMdl C a = ky_wl C (md_Y a) mk_I := by
  have h0 : ∀ k, k ≠ 0 → mk_I k = fun _ => 0 := fun k hk => funext fun j => by unfold mk_I; rw [if_neg (by omega)]
  apply List.ext_getElem?
  intro k
  by_cases hk : k < 29
  · rw [ky_wl_get (Y := md_Y a) hk]
    by_cases hk0 : k = 0
    · subst hk0; rfl
    · have e2 : ky_ce C (md_Y a) mk_I k = .inl (C.2.1, md_len.getD k 0, .inl (mk_I k)) := ky_ce_i ⟨hk, by show (if k = 0 then 7 else 8) = 8; rw [if_neg hk0]⟩
      rw [e2, h0 k hk0]
      have : ∀ k, k < 29 → k ≠ 0 → (wMdl C a)[k]? = some (a k, .inl (C.2.1, md_len.getD k 0, .inl (fun _ => 0))) := by
        intro k hk hk0
        match k, hk, hk0 with
        | 0, _, h => exact absurd rfl h
        | 1, _, _ => rfl
        | 2, _, _ => rfl
        | 3, _, _ => rfl
        | 4, _, _ => rfl
        | 5, _, _ => rfl
        | 6, _, _ => rfl
        | 7, _, _ => rfl
        | 8, _, _ => rfl
        | 9, _, _ => rfl
        | 10, _, _ => rfl
        | 11, _, _ => rfl
        | 12, _, _ => rfl
        | 13, _, _ => rfl
        | 14, _, _ => rfl
        | 15, _, _ => rfl
        | 16, _, _ => rfl
        | 17, _, _ => rfl
        | 18, _, _ => rfl
        | 19, _, _ => rfl
        | 20, _, _ => rfl
        | 21, _, _ => rfl
        | 22, _, _ => rfl
        | 23, _, _ => rfl
        | 24, _, _ => rfl
        | 25, _, _ => rfl
        | 26, _, _ => rfl
        | 27, _, _ => rfl
        | 28, _, _ => rfl
        | n + 29, h, _ => exact absurd h (by omega)
      exact this k hk hk0
  · rw [List.getElem?_eq_none (show (ky_wl C (md_Y a) mk_I).length ≤ k by rw [ky_wl_len]; show 29 ≤ k; omega), List.getElem?_eq_none (show 29 ≤ k by omega)]
