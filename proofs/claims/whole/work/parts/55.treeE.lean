/-! THE BOUNDS of a part of the tree -/
def dq_pt (n i : Nat) : Nat := if i = 5 then 200 else 5 * n + i
def dq_in (p : Nat) : Nat := if p = 200 then 5 else p % 5
theorem dq_in_pt {n i : Nat} (hn : n < 40) (hi : i < 6) : dq_in (dq_pt n i) = i := by
  unfold dq_in dq_pt
  by_cases h : i = 5
  · rw [if_pos h, if_pos rfl, h]
  · rw [if_neg h, if_neg (by omega)]; omega
theorem dq_pt_lt {n i : Nat} (hn : n < 40) (hi : i < 6) : dq_pt n i < 201 := by unfold dq_pt; split <;> omega
theorem dt_sh_pt {n u : Nat} (hu : u < 6) : dt_sh (5 * n) 200 u = dq_pt n (dt_sh 0 5 u) := by
  unfold dt_sh dq_pt
  by_cases h : u = 5
  · rw [if_pos h, if_pos h, if_pos rfl]
  · rw [if_neg h, if_neg h, if_neg (by omega)]; omega
theorem dt_bE_ren {N : Mm} (hw : dt_w N) {c n : Nat} (hc : c < dt_nc N) : dt_bE N c (5 * n) 200 = (dt_bE N c 0 5).map (fun e => (dq_pt n e.1, dq_pt n e.2.1, e.2.2)) := by
  unfold dt_bE
  rw [List.map_map]
  refine List.map_congr_left (fun j hj => ?_)
  obtain ⟨u, v, g1, g2, hu, hv, _⟩ := (hw.2.2.2 c hc).2.2.2.2.2.2.2 j (List.mem_range.mp hj)
  have nu1 : nu (N 12 (8 * c + j)) = u := by rw [g1]; exact nu_n (by omega)
  have nv1 : nu (N 13 (8 * c + j)) = v := by rw [g2]; exact nu_n (by omega)
  show dt_be N c (5 * n) 200 j = (dq_pt n (dt_be N c 0 5 j).1, dq_pt n (dt_be N c 0 5 j).2.1, (dt_be N c 0 5 j).2.2)
  unfold dt_be
  rw [nu1, nv1, dt_sh_pt hu, dt_sh_pt hv]
/-- a node's clause, its parent, the atom it stands for -/
def td_c (ns : List Nd) (k : Nat) : Nat := (tr_nd ns k).1
def td_p (ns : List Nd) (k : Nat) : Nat := (tr_nd ns k).2.1
def td_w (ns : List Nd) (k : Nat) : Nat := (tr_nd ns k).2.2.1
/-- the points of the parent and of the child at corner u -/
def td_a (N : Mm) (ns : List Nd) (k u : Nat) : Nat := dt_pt 5 (dt_av N (td_c ns (td_p ns k)) (td_w ns k) 0) (dt_av N (td_c ns (td_p ns k)) (td_w ns k) 1) u
def td_h (N : Mm) (ns : List Nd) (k u : Nat) : Nat := dt_pt 5 (dt_hv N (td_c ns k) 0) (dt_hv N (td_c ns k) 1) u
def td_r (N : Mm) (ns : List Nd) (k : Nat) : Nat := dt_ar N (td_c ns (td_p ns k)) (td_w ns k)
def td_j1 (N : Mm) (ns : List Nd) (k q : Nat) : List Ed := [(dq_pt (td_p ns k) (td_a N ns k q), dq_pt k (td_h N ns k q), 0), (dq_pt k (td_h N ns k q), dq_pt (td_p ns k) (td_a N ns k q), 0)]
def td_j (N : Mm) (ns : List Nd) (k : Nat) : List Ed := (List.range (dt_pl N (td_r N ns k))).flatMap (td_j1 N ns k)
noncomputable def td_E (N : Mm) (ns : List Nd) (n : Nat) (D : Nat → Prop) : List Ed := (List.range ns.length).flatMap (fun k => @ite _ (D k) (Classical.propDecidable _) (dt_bE N (td_c ns k) (5 * k) 200 ++ (if k = n then [] else td_j N ns k)) [])
theorem td_E_mem {N : Mm} {ns : List Nd} {n : Nat} {D : Nat → Prop} {e : Ed} : e ∈ td_E N ns n D ↔ ∃ k, k < ns.length ∧ D k ∧ (e ∈ dt_bE N (td_c ns k) (5 * k) 200 ∨ (k ≠ n ∧ e ∈ td_j N ns k)) := by
  unfold td_E
  rw [List.mem_flatMap]
  constructor
  · rintro ⟨k, hk, he⟩
    rw [List.mem_range] at hk
    by_cases hD : D k
    · rw [if_pos hD, List.mem_append] at he
      refine ⟨k, hk, hD, he.imp id (fun h => ?_)⟩
      by_cases hkn : k = n
      · rw [if_pos hkn] at h; cases h
      · rw [if_neg hkn] at h; exact ⟨hkn, h⟩
    · rw [if_neg hD] at he; cases he
  · rintro ⟨k, hk, hD, he⟩
    refine ⟨k, List.mem_range.mpr hk, ?_⟩
    rw [if_pos hD, List.mem_append]
    refine he.imp id (fun ⟨h1, h2⟩ => ?_)
    rw [if_neg h1]; exact h2
/-- a tree in order, not too large -/
def td_ok (N : Mm) (ns : List Nd) : Prop := dt_w N ∧ ns.length ≤ 40 ∧ tr_sm ns ∧ (∀ k, k < ns.length → td_c ns k < dt_nc N) ∧ ∀ k, 0 < k → k < ns.length → td_w ns k < dt_na N (td_c ns (td_p ns k)) ∧ N 6 (td_c ns k) = nI (td_r N ns k)
theorem td_ok.lt {N : Mm} {ns : List Nd} (h : td_ok N ns) {k : Nat} (h0 : 0 < k) (hk : k < ns.length) : td_p ns k < k ∧ td_r N ns k < dt_nr N ∧ (dt_pl N (td_r N ns k) = 1 ∨ dt_pl N (td_r N ns k) = 2) ∧ (∀ u, td_a N ns k u < 6 ∧ td_h N ns k u < 6) ∧ dt_hr N (td_c ns k) = td_r N ns k := by
  obtain ⟨hw, h40, hsm, hc, hj⟩ := h
  have hp := hsm.2 k h0 hk
  have hp : td_p ns k < k := hp
  obtain ⟨j1, j2⟩ := hj k h0 hk
  obtain ⟨_, _, _, na2, na3, _⟩ := hw.2.2.2 _ (hc (td_p ns k) (by omega))
  obtain ⟨_, hr, hv⟩ := na3 _ j1
  have hr4 := hw.1.2.1
  have hr : td_r N ns k < dt_nr N := hr
  obtain ⟨_, hh, _⟩ := hw.2.2.2 _ (hc k hk)
  refine ⟨hp, hr, (hw.1.2.2.1 _ hr).2, fun u => ⟨dt_pt_lt (by have := (hv 0 (by decide)).2; omega) (by have := (hv 1 (by decide)).2; omega), dt_pt_lt (by have := (hh 0 (by decide)).2; omega) (by have := (hh 1 (by decide)).2; omega)⟩, ?_⟩
  unfold dt_hr
  rw [j2]
  exact nu_n (by omega)
/-- where a bound's points lie -/
theorem td_own {N : Mm} {ns : List Nd} (h : td_ok N ns) {k : Nat} (hk : k < ns.length) {e : Ed} (he : e ∈ dt_bE N (td_c ns k) (5 * k) 200) : ∃ i j, i < 6 ∧ j < 6 ∧ e.1 = dq_pt k i ∧ e.2.1 = dq_pt k j ∧ -1001 ≤ e.2.2 ∧ e.2.2 ≤ 1001 := by
  obtain ⟨hw, _, _, hc, _⟩ := h
  rw [dt_bE_ren hw (hc k hk)] at he
  obtain ⟨e', he', rfl⟩ := List.mem_map.mp he
  obtain ⟨a1, a2, a3, a4⟩ := dt_bE_ok hw (hc k hk) e' he'
  exact ⟨e'.1, e'.2.1, a1, a2, rfl, rfl, a3, a4⟩
theorem td_join {N : Mm} {ns : List Nd} {k : Nat} {e : Ed} (he : e ∈ td_j N ns k) : ∃ q, q < dt_pl N (td_r N ns k) ∧ (e = (dq_pt (td_p ns k) (td_a N ns k q), dq_pt k (td_h N ns k q), 0) ∨ e = (dq_pt k (td_h N ns k q), dq_pt (td_p ns k) (td_a N ns k q), 0)) := by
  unfold td_j at he
  obtain ⟨q, hq, he⟩ := List.mem_flatMap.mp he
  refine ⟨q, List.mem_range.mp hq, ?_⟩
  unfold td_j1 at he
  rcases List.mem_cons.mp he with h | h
  · exact Or.inl h
  · rcases List.mem_cons.mp h with h | h
    · exact Or.inr h
    · cases h
theorem td_md {N : Mm} {ns : List Nd} (h : td_ok N ns) {n : Nat} {D : Nat → Prop} (h0 : ∀ k, k < ns.length → D k → k ≠ n → 0 < k) : md_ok 201 (td_E N ns n D) := by
  refine ⟨by decide, fun e he => ?_⟩
  obtain ⟨k, hk, hD, he⟩ := td_E_mem.mp he
  have h40 := h.2.1
  rcases he with he | ⟨hkn, he⟩
  · obtain ⟨i, j, hi, hj, e1, e2, e3, e4⟩ := td_own h hk he
    rw [e1, e2]
    exact ⟨dq_pt_lt (by omega) hi, dq_pt_lt (by omega) hj, e3, e4⟩
  · obtain ⟨p1, p2, p3, p4, _⟩ := h.lt (h0 k hk hD hkn) hk
    obtain ⟨q, hq, he⟩ := td_join he
    rcases he with rfl | rfl
    · exact ⟨dq_pt_lt (by omega) (p4 q).1, dq_pt_lt (by omega) (p4 q).2, (by decide : (-1001 : Int) ≤ 0), (by decide : (0 : Int) ≤ 1001)⟩
    · exact ⟨dq_pt_lt (by omega) (p4 q).2, dq_pt_lt (by omega) (p4 q).1, (by decide : (-1001 : Int) ≤ 0), (by decide : (0 : Int) ≤ 1001)⟩
/-- joined: the same numbers at both ends -/
theorem td_j_X {N : Mm} {ns : List Nd} {k : Nat} {y : Nat → Option Int} : df_X (td_j N ns k) y ↔ ∀ q, q < dt_pl N (td_r N ns k) → y (dq_pt (td_p ns k) (td_a N ns k q)) = y (dq_pt k (td_h N ns k q)) := by
  constructor
  · intro h q hq
    have m1 : (dq_pt (td_p ns k) (td_a N ns k q), dq_pt k (td_h N ns k q), 0) ∈ td_j N ns k := List.mem_flatMap.mpr ⟨q, List.mem_range.mpr hq, List.mem_cons_self⟩
    have m2 : (dq_pt k (td_h N ns k q), dq_pt (td_p ns k) (td_a N ns k q), 0) ∈ td_j N ns k := List.mem_flatMap.mpr ⟨q, List.mem_range.mpr hq, List.mem_cons_of_mem _ List.mem_cons_self⟩
    refine md_ext (fun t => ⟨fun h9 => ?_, fun h9 => ?_⟩)
    · exact df_le_mono (h _ m2 t h9) (by show t + 0 ≤ t; omega)
    · exact df_le_mono (h _ m1 t h9) (by show t + 0 ≤ t; omega)
  · intro h e he t ht
    obtain ⟨q, hq, he⟩ := td_join he
    have := h q hq
    rcases he with rfl | rfl
    · show df_le (y (dq_pt (td_p ns k) (td_a N ns k q))) (t + 0)
      rw [this]
      exact df_le_mono ht (by omega)
    · show df_le (y (dq_pt k (td_h N ns k q))) (t + 0)
      rw [← this]
      exact df_le_mono ht (by omega)
/-- of n: itself, and what lies below its children later than m -/
def td_D (ns : List Nd) (n m k : Nat) : Prop := k = n ∨ ∃ j, td_p ns j = n ∧ m < j ∧ 0 < j ∧ j < ns.length ∧ tr_D ns j k
theorem tr_D_two {ns : List Nd} (hsm : tr_sm ns) {p j k x : Nat} (hj : td_p ns j = p) (hk : td_p ns k = p) (hj0 : 0 < j) (hk0 : 0 < k) (hjl : j < ns.length) (hkl : k < ns.length) (hjk : j ≠ k) (h1 : tr_D ns j x) (h2 : tr_D ns k x) : False := by
  have key : ∀ {a b : Nat}, td_p ns a = p → td_p ns b = p → 0 < a → 0 < b → a < ns.length → b < ns.length → a ≠ b → ∀ i d, tr_up ns i x = a → tr_up ns (i + d) x = b → False := fun {a b} ha hb ha0 hb0 hal hbl hab i d e1 e2 => by
    rw [← tr_up_add, e1] at e2
    have hD : tr_D ns b a := ⟨d, e2⟩
    have hD2 := hD.up hab
    have hpl : td_p ns a < a := hsm.2 a ha0 hal
    have hpb : td_p ns b < b := hsm.2 b hb0 hbl
    have hle := tr_D.le hsm (by show td_p ns a < _; omega) hD2
    have hle : b ≤ td_p ns a := hle
    omega
  obtain ⟨i, hi⟩ := h1
  obtain ⟨i', hi'⟩ := h2
  rcases Nat.le_total i i' with h | h
  · obtain ⟨d, rfl⟩ := Nat.exists_eq_add_of_le h
    exact key hj hk hj0 hk0 hjl hkl hjk i d hi hi'
  · obtain ⟨d, rfl⟩ := Nat.exists_eq_add_of_le h
    exact key hk hj hk0 hj0 hkl hjl (fun h9 => hjk h9.symm) i' d hi' hi
theorem td_D_all {ns : List Nd} (hsm : tr_sm ns) {n x : Nat} (hx : x < ns.length) {m : Nat} (hm : ∀ j, td_p ns j = n → 0 < j → j < ns.length → m < j) : td_D ns n m x ↔ tr_D ns n x := by
  constructor
  · rintro (rfl | ⟨j, h1, _, _, _, h5⟩)
    · exact tr_D.rf
    · have : tr_D ns n j := by rw [← h1]; exact tr_D.par
      exact this.tr h5
  · rintro ⟨i, hi⟩
    -- the first step below n
    have key : ∀ (i x : Nat), x < ns.length → tr_up ns i x = n → td_D ns n m x := by
      intro i
      induction i with
      | zero => exact fun x _ h => Or.inl h
      | succ i ih =>
        intro x hx h
        by_cases hxn : x = n
        · exact Or.inl hxn
        · by_cases h0 : x = 0
          · have h : tr_up ns i (tr_nd ns x).2.1 = n := h
            rw [h0, hsm.1] at h
            have := ih 0 (by omega) h
            rw [h0]; exact this
          · have hp : td_p ns x < x := hsm.2 x (by omega) hx
            have h : tr_up ns i (td_p ns x) = n := h
            rcases ih (td_p ns x) (by omega) h with h1 | ⟨j, h1, h2, h3, h4, h5⟩
            · exact Or.inr ⟨x, h1, hm x h1 (by omega) hx, by omega, hx, tr_D.rf⟩
            · exact Or.inr ⟨j, h1, h2, h3, h4, h5.tr tr_D.par⟩
    exact key i x hx hi
/-- one child more -/
theorem td_D_step {ns : List Nd} {k : Nat} (h0 : 0 < k) (hk : k < ns.length) {x : Nat} : td_D ns (td_p ns k) (k - 1) x ↔ td_D ns (td_p ns k) k x ∨ tr_D ns k x := by
  constructor
  · rintro (h | ⟨j, h1, h2, h3, h4, h5⟩)
    · exact Or.inl (Or.inl h)
    · by_cases e : j = k
      · rw [e] at h5; exact Or.inr h5
      · exact Or.inl (Or.inr ⟨j, h1, by omega, h3, h4, h5⟩)
  · rintro ((h | ⟨j, h1, h2, h3, h4, h5⟩) | h)
    · exact Or.inl h
    · exact Or.inr ⟨j, h1, by omega, h3, h4, h5⟩
    · exact Or.inr ⟨k, rfl, by omega, h0, hk, h⟩
theorem td_D_same {ns : List Nd} {n k x : Nat} (h0 : 0 < k) (hn : td_p ns k ≠ n) : td_D ns n (k - 1) x ↔ td_D ns n k x := by
  constructor
  · rintro (h | ⟨j, h1, h2, h3, h4, h5⟩)
    · exact Or.inl h
    · refine Or.inr ⟨j, h1, ?_, h3, h4, h5⟩
      by_cases e : j = k
      · rw [e] at h1; exact absurd h1 hn
      · omega
  · rintro (h | ⟨j, h1, h2, h3, h4, h5⟩)
    · exact Or.inl h
    · exact Or.inr ⟨j, h1, by omega, h3, h4, h5⟩
theorem td_E_congr {N : Mm} {ns : List Nd} {n : Nat} {D D' : Nat → Prop} (h : ∀ k, k < ns.length → (D k ↔ D' k)) (e : Ed) : e ∈ td_E N ns n D ↔ e ∈ td_E N ns n D' := by
  rw [td_E_mem, td_E_mem]
  exact ⟨fun ⟨k, a, b, c⟩ => ⟨k, a, (h k a).mp b, c⟩, fun ⟨k, a, b, c⟩ => ⟨k, a, (h k a).mpr b, c⟩⟩
/-- the numbers of points -/
theorem dq_nd {k i : Nat} (hk : k < 40) (hi : i < 6) : dq_pt k i = 200 ∨ (dq_pt k i ≠ 200 ∧ dq_pt k i / 5 = k) := by
  unfold dq_pt
  by_cases h : i = 5
  · rw [if_pos h]; exact Or.inl rfl
  · rw [if_neg h]; exact Or.inr ⟨by omega, by omega⟩
theorem dt_pt_2 {x y : Nat} : dt_pt 5 x y 2 = 5 := rfl
set_option maxHeartbeats 2000000 in
theorem td_J {N : Mm} {ns : List Nd} (h : td_ok N ns) {k : Nat} (h0 : 0 < k) (hk : k < ns.length) : dq_J (td_E N ns (td_p ns k) (td_D ns (td_p ns k) k)) (td_E N ns k (tr_D ns k)) (td_E N ns (td_p ns k) (td_D ns (td_p ns k) (k - 1))) (dq_pt (td_p ns k)) (dq_pt k) (td_a N ns k) (td_h N ns k) (dt_pl N (td_r N ns k)) 200 (fun q => q ≠ 200 ∧ tr_D ns k (q / 5)) := by
  obtain ⟨p1, p2, p3, p4, _⟩ := h.lt h0 hk
  have h40 := h.2.1
  have hsm := h.2.2.1
  -- who is not below k
  have out : ∀ x, x < ns.length → td_D ns (td_p ns k) k x → ¬ tr_D ns k x := fun x hx hD hk9 => by
    rcases hD with rfl | ⟨j, j1, j2, j3, j4, j5⟩
    · have := tr_D.le hsm (by omega) hk9
      omega
    · exact tr_D_two hsm j1 rfl j3 h0 j4 hk (by omega) j5 hk9
  have par : ∀ x, x < ns.length → td_D ns (td_p ns k) k x → x ≠ td_p ns k → 0 < x ∧ td_D ns (td_p ns k) k (td_p ns x) := fun x hx hD hne => by
    rcases hD with rfl | ⟨j, j1, j2, j3, j4, j5⟩
    · exact absurd rfl hne
    · have hle := tr_D.le hsm hx j5
      refine ⟨by omega, ?_⟩
      by_cases e : x = j
      · rw [e, j1]; exact Or.inl rfl
      · exact Or.inr ⟨j, j1, j2, j3, j4, j5.up e⟩
  have side : ∀ x i, x < ns.length → i < 6 → ¬ tr_D ns k x → ¬ (dq_pt x i ≠ 200 ∧ tr_D ns k (dq_pt x i / 5)) := fun x i hx hi hn h9 => by
    rcases dq_nd (k := x) (i := i) (by omega) hi with e | ⟨_, e⟩
    · exact h9.1 e
    · rw [e] at h9; exact hn h9.2
  have inside : ∀ x i, x < ns.length → i < 6 → tr_D ns k x → (dq_pt x i ≠ 200 ∧ tr_D ns k (dq_pt x i / 5)) ∨ dq_pt x i = 200 := fun x i hx hi hn => by
    rcases dq_nd (k := x) (i := i) (by omega) hi with e | ⟨e1, e⟩
    · exact Or.inr e
    · exact Or.inl ⟨e1, by rw [e]; exact hn⟩
  refine ⟨fun e he => ?_, fun e he => ?_, fun h9 => h9.1 rfl, fun i hi => side _ i (by omega) hi (out _ (by omega) (Or.inl rfl)), fun i hi => ?_, rfl, rfl, fun u _ => p4 u, dt_pt_2, dt_pt_2, by omega, fun y => ?_⟩
  · obtain ⟨x, hx, hD, he⟩ := td_E_mem.mp he
    rcases he with he | ⟨hne, he⟩
    · obtain ⟨i, j, hi, hj, e1, e2, _⟩ := td_own h hx he
      rw [e1, e2]
      exact ⟨side x i hx hi (out x hx hD), side x j hx hj (out x hx hD)⟩
    · obtain ⟨x0, hpD⟩ := par x hx hD hne
      obtain ⟨l1, _, _, l4, _⟩ := h.lt x0 hx
      obtain ⟨q, hq, he⟩ := td_join he
      rcases he with rfl | rfl
      · exact ⟨side _ _ (by omega) (l4 q).1 (out _ (by omega) hpD), side x _ hx (l4 q).2 (out x hx hD)⟩
      · exact ⟨side x _ hx (l4 q).2 (out x hx hD), side _ _ (by omega) (l4 q).1 (out _ (by omega) hpD)⟩
  · obtain ⟨x, hx, hD, he⟩ := td_E_mem.mp he
    rcases he with he | ⟨hne, he⟩
    · obtain ⟨i, j, hi, hj, e1, e2, _⟩ := td_own h hx he
      rw [e1, e2]
      exact ⟨inside x i hx hi hD, inside x j hx hj hD⟩
    · have hle := tr_D.le hsm hx hD
      obtain ⟨l1, _, _, l4, _⟩ := h.lt (show 0 < x by omega) hx
      have hpD := hD.up hne
      obtain ⟨q, hq, he⟩ := td_join he
      rcases he with rfl | rfl
      · exact ⟨inside _ _ (by omega) (l4 q).1 hpD, inside x _ hx (l4 q).2 hD⟩
      · exact ⟨inside x _ hx (l4 q).2 hD, inside _ _ (by omega) (l4 q).1 hpD⟩
  · rcases inside k i hk (by omega) tr_D.rf with h9 | h9
    · exact h9
    · exfalso
      unfold dq_pt at h9
      rw [if_neg (by omega)] at h9
      omega
  · -- what the whole says
    rw [← td_j_X]
    constructor
    · intro hy
      refine ⟨fun e he => hy e ?_, fun e he => hy e ?_, fun e he => hy e ?_⟩
      · obtain ⟨x, hx, hD, he⟩ := td_E_mem.mp he
        exact td_E_mem.mpr ⟨x, hx, (td_D_step h0 hk).mpr (Or.inl hD), he⟩
      · obtain ⟨x, hx, hD, he⟩ := td_E_mem.mp he
        have hle := tr_D.le hsm hx hD
        exact td_E_mem.mpr ⟨x, hx, (td_D_step h0 hk).mpr (Or.inr hD), he.imp id (fun ⟨_, b⟩ => ⟨by omega, b⟩)⟩
      · exact td_E_mem.mpr ⟨k, hk, (td_D_step h0 hk).mpr (Or.inr tr_D.rf), Or.inr ⟨by omega, he⟩⟩
    · rintro ⟨y1, y2, y3⟩ e he
      obtain ⟨x, hx, hD, he⟩ := td_E_mem.mp he
      rcases (td_D_step h0 hk).mp hD with hD | hD
      · exact y1 e (td_E_mem.mpr ⟨x, hx, hD, he⟩)
      · rcases he with he | ⟨hne, he⟩
        · exact y2 e (td_E_mem.mpr ⟨x, hx, hD, Or.inl he⟩)
        · by_cases e9 : x = k
          · rw [e9] at he; exact y3 e he
          · exact y2 e (td_E_mem.mpr ⟨x, hx, hD, Or.inr ⟨e9, he⟩⟩)
