/-! THE TREE of an alarm: nodes (clause, parent, which atom, cube), and what waits (parent, which atom), the next first -/
abbrev Nd : Type := Nat × Nat × Nat × Nat
def tr_nd (ns : List Nd) (k : Nat) : Nd := ns.getD k (0, 0, 0, 0)
/-- the cube of the premise for atom a of node p -/
def tr_pv (N : Mm) (ns : List Nd) (p a : Nat) : Int32 := if p = 0 then N 18 a else N 17 (2 * (16 * dt_hr N (tr_nd ns p).1 + (tr_nd ns p).2.2.2) + a)
def tr_pm (N : Mm) (ns : List Nd) (p a : Nat) : Nat := nu (tr_pv N ns p a)
def tr_cl (N : Mm) (ns : List Nd) (p a : Nat) : Nat := nu (N 16 (16 * dt_ar N (tr_nd ns p).1 a + tr_pm N ns p a))
def tr_push (N : Mm) (n c : Nat) (st : List (Nat × Nat)) : List (Nat × Nat) := if dt_na N c = 0 then st else if dt_na N c = 1 then (n, 0) :: st else (n, 0) :: (n, 1) :: st
def tr_step (N : Mm) (s : List Nd × List (Nat × Nat)) : List Nd × List (Nat × Nat) := match s.2 with
  | [] => s
  | (p, a) :: st => (s.1 ++ [(tr_cl N s.1 p a, p, a, tr_pm N s.1 p a)], tr_push N s.1.length (tr_cl N s.1 p a) st)
def tr_it (N : Mm) (c : Nat) : Nat → List Nd × List (Nat × Nat)
  | 0 => ([(c, 0, 0, 0)], tr_push N 0 c [])
  | t + 1 => tr_step N (tr_it N c t)
/-- states that were reached are in order -/
def dt_y (N : Mm) : Prop := ∀ r m, r < dt_nr N → m < 16 → ¬ N 15 (16 * r + m) = 0 → ∃ c, c < dt_nc N ∧ N 16 (16 * r + m) = nI c ∧ N 6 c = nI r ∧ ∀ a, a < dt_na N c → ∃ x, x < 16 ∧ N 17 (2 * (16 * r + m) + a) = nI x ∧ ¬ N 15 (16 * dt_ar N c a + x) = 0
/-- .. and the alarm's premises -/
def dt_z (N : Mm) (c : Nat) : Prop := c < dt_nc N ∧ ∀ a, a < dt_na N c → ∃ x, x < 16 ∧ N 18 a = nI x ∧ ¬ N 15 (16 * dt_ar N c a + x) = 0
/-- node k is a state of the relation of its parent's atom -/
def tr_1 (N : Mm) (ns : List Nd) (k : Nat) : Prop := (tr_nd ns k).2.1 < k ∧ (tr_nd ns k).2.2.1 < dt_na N (tr_nd ns (tr_nd ns k).2.1).1 ∧ (tr_nd ns k).2.2.2 < 16 ∧ (tr_nd ns k).1 < dt_nc N ∧
  dt_ar N (tr_nd ns (tr_nd ns k).2.1).1 (tr_nd ns k).2.2.1 < dt_nr N ∧ dt_hr N (tr_nd ns k).1 = dt_ar N (tr_nd ns (tr_nd ns k).2.1).1 (tr_nd ns k).2.2.1 ∧ N 6 (tr_nd ns k).1 = nI (dt_hr N (tr_nd ns k).1) ∧
  ¬ N 15 (16 * dt_hr N (tr_nd ns k).1 + (tr_nd ns k).2.2.2) = 0 ∧ N 16 (16 * dt_hr N (tr_nd ns k).1 + (tr_nd ns k).2.2.2) = nI (tr_nd ns k).1
def tr_ok (N : Mm) (c : Nat) (s : List Nd × List (Nat × Nat)) : Prop := 1 ≤ s.1.length ∧ s.2.length ≤ s.1.length + 1 ∧ tr_nd s.1 0 = (c, 0, 0, 0) ∧ (∀ k, 0 < k → k < s.1.length → tr_1 N s.1 k) ∧ ∀ x ∈ s.2, x.1 < s.1.length ∧ x.2 < dt_na N (tr_nd s.1 x.1).1
theorem tr_nd_l {ns : List Nd} {x : Nd} {k : Nat} (h : k < ns.length) : tr_nd (ns ++ [x]) k = tr_nd ns k := by
  unfold tr_nd
  rw [List.getD_eq_getElem?_getD, List.getD_eq_getElem?_getD, List.getElem?_append_left h]
theorem tr_nd_n {ns : List Nd} {x : Nd} : tr_nd (ns ++ [x]) ns.length = x := by
  unfold tr_nd
  rw [List.getD_eq_getElem?_getD, List.getElem?_append_right (Nat.le_refl _), Nat.sub_self]
  rfl
theorem tr_ok.cl {N : Mm} {c : Nat} {s : List Nd × List (Nat × Nat)} (hz : dt_z N c) (h : tr_ok N c s) {k : Nat} (hk : k < s.1.length) : (tr_nd s.1 k).1 < dt_nc N := by
  by_cases h0 : k = 0
  · rw [h0, h.2.2.1]; exact hz.1
  · exact (h.2.2.2.1 k (by omega) hk).2.2.2.1
/-- the premise that is asked for is a state -/
theorem tr_pm_ok {N : Mm} {c : Nat} {s : List Nd × List (Nat × Nat)} (hw : dt_w N) (hy : dt_y N) (hz : dt_z N c) (h : tr_ok N c s) {p a : Nat} (hp : p < s.1.length) (ha : a < dt_na N (tr_nd s.1 p).1) :
    tr_pv N s.1 p a = nI (tr_pm N s.1 p a) ∧ tr_pm N s.1 p a < 16 ∧ dt_ar N (tr_nd s.1 p).1 a < dt_nr N ∧ ¬ N 15 (16 * dt_ar N (tr_nd s.1 p).1 a + tr_pm N s.1 p a) = 0 ∧ tr_cl N s.1 p a < dt_nc N ∧ N 16 (16 * dt_ar N (tr_nd s.1 p).1 a + tr_pm N s.1 p a) = nI (tr_cl N s.1 p a) ∧ N 6 (tr_cl N s.1 p a) = nI (dt_ar N (tr_nd s.1 p).1 a) := by
  have h12 := hw.2.2.1
  have har : dt_ar N (tr_nd s.1 p).1 a < dt_nr N := ((hw.2.2.2 _ (h.cl hz hp)).2.2.2.2.1 a ha).2.1
  have key : ∃ x, x < 16 ∧ tr_pv N s.1 p a = nI x ∧ ¬ N 15 (16 * dt_ar N (tr_nd s.1 p).1 a + x) = 0 := by
    unfold tr_pv
    by_cases h0 : p = 0
    · rw [if_pos h0]
      rw [h0, h.2.2.1] at ha ⊢
      exact hz.2 a ha
    · rw [if_neg h0]
      obtain ⟨_, _, h3, h4, h5, h6, h7, h8, h9⟩ := h.2.2.2.1 p (by omega) hp
      obtain ⟨c', c1, c2, c3, c4⟩ := hy (dt_hr N (tr_nd s.1 p).1) (tr_nd s.1 p).2.2.2 (by rw [h6]; exact h5) h3 h8
      have : c' = (tr_nd s.1 p).1 := by
        rw [h9] at c2
        exact ((nI_eq (by omega) (by omega)).mp c2).symm
      rw [this] at c4
      exact c4 a ha
  obtain ⟨x, x1, x2, x3⟩ := key
  have e : tr_pm N s.1 p a = x := by unfold tr_pm; rw [x2]; exact nu_n (by omega)
  rw [e]
  obtain ⟨c', c1, c2, c3, _⟩ := hy _ x har x1 x3
  have e2 : tr_cl N s.1 p a = c' := by unfold tr_cl; rw [e, c2]; exact nu_n (by omega)
  rw [e2]
  exact ⟨x2, x1, har, x3, c1, c2, c3⟩
theorem tr_push_len {N : Mm} {n c : Nat} {st : List (Nat × Nat)} (h2 : dt_na N c ≤ 2) : (tr_push N n c st).length = st.length + dt_na N c := by
  unfold tr_push
  rcases (show dt_na N c = 0 ∨ dt_na N c = 1 ∨ dt_na N c = 2 by omega) with h | h | h
  · rw [h, if_pos rfl]; rfl
  · rw [h, if_neg (by decide), if_pos rfl]; rfl
  · rw [h, if_neg (by decide), if_neg (by decide)]; rfl
theorem tr_push_mem {N : Mm} {n c : Nat} {st : List (Nat × Nat)} (h2 : dt_na N c ≤ 2) {x : Nat × Nat} (hx : x ∈ tr_push N n c st) : x ∈ st ∨ (x.1 = n ∧ x.2 < dt_na N c) := by
  unfold tr_push at hx
  rcases (show dt_na N c = 0 ∨ dt_na N c = 1 ∨ dt_na N c = 2 by omega) with h | h | h
  · rw [h, if_pos rfl] at hx; exact Or.inl hx
  · rw [h, if_neg (by decide), if_pos rfl] at hx
    rcases List.mem_cons.mp hx with rfl | hx
    · exact Or.inr ⟨rfl, by omega⟩
    · exact Or.inl hx
  · rw [h, if_neg (by decide), if_neg (by decide)] at hx
    rcases List.mem_cons.mp hx with rfl | hx
    · exact Or.inr ⟨rfl, by omega⟩
    · rcases List.mem_cons.mp hx with rfl | hx
      · exact Or.inr ⟨rfl, by show 1 < _; omega⟩
      · exact Or.inl hx
theorem tr_ok_step {N : Mm} {c : Nat} {s : List Nd × List (Nat × Nat)} (hw : dt_w N) (hy : dt_y N) (hz : dt_z N c) (h : tr_ok N c s) : tr_ok N c (tr_step N s) := by
  obtain ⟨ns, st⟩ := s
  have hr4 := hw.1.2.1
  have h12 := hw.2.2.1
  cases st with
  | nil => exact h
  | cons x st =>
    obtain ⟨p, a⟩ := x
    obtain ⟨h1, h2, h3, h4, h5⟩ := id h
    obtain ⟨hp, ha⟩ := h5 (p, a) List.mem_cons_self
    obtain ⟨m1, m2, m3, m4, m5, m6, m7⟩ := tr_pm_ok hw hy hz h hp ha
    have hna : dt_na N (tr_cl N ns p a) ≤ 2 := (hw.2.2.2 _ m5).2.2.2.1
    have hhr : dt_hr N (tr_cl N ns p a) = dt_ar N (tr_nd ns p).1 a := by
      have m7 : N 6 (tr_cl N ns p a) = nI (dt_ar N (tr_nd ns p).1 a) := m7
      have m3 : dt_ar N (tr_nd ns p).1 a < dt_nr N := m3
      unfold dt_hr; rw [m7]; exact nu_n (by omega)
    show tr_ok N c (ns ++ [(tr_cl N ns p a, p, a, tr_pm N ns p a)], tr_push N ns.length (tr_cl N ns p a) st)
    have hp : p < ns.length := hp
    have h1 : 1 ≤ ns.length := h1
    have h2 : st.length + 1 ≤ ns.length + 1 := h2
    refine ⟨by rw [List.length_append]; exact Nat.le_add_right_of_le h1, ?_, by rw [tr_nd_l h1]; exact h3, fun k hk hkl => ?_, fun x hx => ?_⟩
    · show (tr_push N ns.length (tr_cl N ns p a) st).length ≤ (ns ++ [_]).length + 1
      rw [tr_push_len hna, List.length_append]
      show st.length + _ ≤ ns.length + 1 + 1
      omega
    · rw [List.length_append] at hkl
      have hkl : k < ns.length + 1 := hkl
      by_cases hkn : k = ns.length
      · subst hkn
        unfold tr_1
        rw [tr_nd_n]
        show p < ns.length ∧ _
        rw [tr_nd_l hp]
        show p < ns.length ∧ a < dt_na N (tr_nd ns p).1 ∧ tr_pm N ns p a < 16 ∧ tr_cl N ns p a < dt_nc N ∧ dt_ar N (tr_nd ns p).1 a < dt_nr N ∧ dt_hr N (tr_cl N ns p a) = dt_ar N (tr_nd ns p).1 a ∧ N 6 (tr_cl N ns p a) = nI (dt_hr N (tr_cl N ns p a)) ∧ ¬ N 15 (16 * dt_hr N (tr_cl N ns p a) + tr_pm N ns p a) = 0 ∧ N 16 (16 * dt_hr N (tr_cl N ns p a) + tr_pm N ns p a) = nI (tr_cl N ns p a)
        rw [hhr]
        exact ⟨hp, ha, m2, m5, m3, rfl, m7, m4, m6⟩
      · have hk2 : k < ns.length := by omega
        have this : tr_1 N ns k := h4 k hk hk2
        have t1 : (tr_nd ns k).2.1 < k := this.1
        unfold tr_1 at this ⊢
        rw [tr_nd_l hk2, tr_nd_l (show (tr_nd ns k).2.1 < ns.length by omega)]
        exact this
    · rcases tr_push_mem hna hx with hx | ⟨hx1, hx2⟩
      · obtain ⟨g1, g2⟩ := h5 x (List.mem_cons_of_mem _ hx)
        have g1 : x.1 < ns.length := g1
        refine ⟨by rw [List.length_append]; show x.1 < ns.length + 1; omega, ?_⟩
        rw [tr_nd_l g1]
        exact g2
      · refine ⟨by rw [List.length_append]; show x.1 < ns.length + 1; omega, ?_⟩
        rw [hx1, tr_nd_n]
        exact hx2
theorem tr_ok_0 {N : Mm} {c : Nat} (hw : dt_w N) (hz : dt_z N c) : tr_ok N c (tr_it N c 0) := by
  have hna : dt_na N c ≤ 2 := (hw.2.2.2 _ hz.1).2.2.2.1
  refine ⟨Nat.le_refl _, ?_, rfl, fun k hk hkl => ?_, fun x hx => ?_⟩
  · show (tr_push N 0 c []).length ≤ 1 + 1
    rw [tr_push_len hna]
    show 0 + _ ≤ _
    omega
  · have hkl : k < 1 := hkl
    omega
  · rcases tr_push_mem hna hx with hx | ⟨hx1, hx2⟩
    · cases hx
    · refine ⟨by rw [hx1]; exact Nat.zero_lt_one, ?_⟩
      rw [hx1]
      exact hx2
theorem tr_ok_it {N : Mm} {c : Nat} (hw : dt_w N) (hy : dt_y N) (hz : dt_z N c) : ∀ t, tr_ok N c (tr_it N c t) := by
  intro t
  induction t with
  | zero => exact tr_ok_0 hw hz
  | succ t ih => exact tr_ok_step hw hy hz ih
theorem tr_it_stop {N : Mm} {c t : Nat} (h : (tr_it N c t).2 = []) : ∀ u, t ≤ u → tr_it N c u = tr_it N c t := by
  intro u
  induction u with
  | zero => intro hu; rw [show t = 0 by omega]
  | succ u ih =>
    intro hu
    by_cases htu : t = u + 1
    · rw [htu]
    · have e := ih (by omega)
      show tr_step N (tr_it N c u) = _
      rw [e]
      unfold tr_step
      rw [h]
theorem tr_it_len {N : Mm} {c : Nat} : ∀ t, (∀ u, u < t → (tr_it N c u).2 ≠ []) → (tr_it N c t).1.length = t + 1 := by
  intro t
  induction t with
  | zero => intro _; rfl
  | succ t ih =>
    intro h
    have e := ih (fun u hu => h u (by omega))
    have hne := h t (by omega)
    show (tr_step N (tr_it N c t)).1.length = _
    unfold tr_step
    cases hs : (tr_it N c t).2 with
    | nil => exact absurd hs hne
    | cons x st =>
      show ((tr_it N c t).1 ++ [_]).length = _
      rw [List.length_append, e]
      rfl
