/-! NEW MARKS out of a tree: the run of both as one -/
def mk_M (N : Mm) (r u v : Nat) (c : Int32) : Mm := fun a => if a = 2 then upd (N 2) r (nI (dt_nm N r + 1)) else if a = 3 then upd (N 3) (4 * r + dt_nm N r) (nI u) else if a = 4 then upd (N 4) (4 * r + dt_nm N r) (nI v) else if a = 5 then upd (N 5) (4 * r + dt_nm N r) c else N a
theorem mk_M_am {N : Mm} {r u v : Nat} {c : Int32} : am_m N (mk_M N r u v c) r (dt_nm N r) (nI u) (nI v) c := ⟨rfl, rfl, rfl, rfl, fun a a2 a3 a4 a5 => by unfold mk_M; rw [if_neg a2, if_neg a3, if_neg a4, if_neg a5]⟩
def mk_g (N : Mm) (r u v : Nat) (c : Int32) : Prop := dt_nm N r < 4 ∧ mk_ok N r (nI u) (nI v) c ∧ ¬ mk_h N r (nI u) (nI v) c (dt_nm N r)
noncomputable def mk_st (r : Nat) (X : Nat → Nat → Int32) (s : Mm × Nat) (u v : Nat) : Mm × Nat := @ite _ (mk_g s.1 r u v (X u v)) (Classical.propDecidable _) (mk_M s.1 r u v (X u v), s.2 + 1) s
theorem mk_st_1 {r : Nat} {X : Nat → Nat → Int32} {s : Mm × Nat} {u v : Nat} (h : mk_g s.1 r u v (X u v)) : mk_st r X s u v = (mk_M s.1 r u v (X u v), s.2 + 1) := if_pos h
theorem mk_st_0 {r : Nat} {X : Nat → Nat → Int32} {s : Mm × Nat} {u v : Nat} (h : ¬ mk_g s.1 r u v (X u v)) : mk_st r X s u v = s := if_neg h
/-- only marks have changed, and they are in order -/
def mk_F (N N' : Mm) : Prop := dt_w N' ∧ ∀ a, a ≠ 2 → a ≠ 3 → a ≠ 4 → a ≠ 5 → N' a = N a
theorem mk_F.rf {N : Mm} (hw : dt_w N) : mk_F N N := ⟨hw, fun _ _ _ _ _ => rfl⟩
theorem mk_F.tr {N J L : Mm} (h1 : mk_F N J) (h2 : mk_F J L) : mk_F N L := ⟨h2.1, fun a b c d e => (h2.2 a b c d e).trans (h1.2 a b c d e)⟩
section MKF
variable {N N' : Mm}
theorem mk_F.nr (h : mk_F N N') : dt_nr N' = dt_nr N := by unfold dt_nr; rw [h.2 0 (by decide) (by decide) (by decide) (by decide)]
theorem mk_F.nc (h : mk_F N N') : dt_nc N' = dt_nc N := by unfold dt_nc; rw [h.2 0 (by decide) (by decide) (by decide) (by decide)]
theorem mk_F.pl (h : mk_F N N') : dt_pl N' = dt_pl N := by funext x; unfold dt_pl; rw [h.2 1 (by decide) (by decide) (by decide) (by decide)]
theorem mk_F.na (h : mk_F N N') : dt_na N' = dt_na N := by funext x; unfold dt_na; rw [h.2 8 (by decide) (by decide) (by decide) (by decide)]
theorem mk_F.ar (h : mk_F N N') : dt_ar N' = dt_ar N := by funext x y; unfold dt_ar; rw [h.2 9 (by decide) (by decide) (by decide) (by decide)]
theorem mk_F.av (h : mk_F N N') : dt_av N' = dt_av N := by funext x y z; unfold dt_av; rw [h.2 10 (by decide) (by decide) (by decide) (by decide)]
theorem mk_F.hv (h : mk_F N N') : dt_hv N' = dt_hv N := by funext x y; unfold dt_hv; rw [h.2 7 (by decide) (by decide) (by decide) (by decide)]
theorem mk_F.bE (h : mk_F N N') : dt_bE N' = dt_bE N := by
  funext c at9 z
  unfold dt_bE dt_be dt_nb
  rw [h.2 11 (by decide) (by decide) (by decide) (by decide), h.2 12 (by decide) (by decide) (by decide) (by decide), h.2 13 (by decide) (by decide) (by decide) (by decide), h.2 14 (by decide) (by decide) (by decide) (by decide)]
theorem mk_F.Tr (h : mk_F N N') : td_r N' = td_r N := by funext ns k; unfold td_r; rw [h.ar]
theorem mk_F.Th (h : mk_F N N') : td_h N' = td_h N := by funext ns k u; unfold td_h; rw [h.hv]
theorem mk_F.Ta (h : mk_F N N') : td_a N' = td_a N := by funext ns k u; unfold td_a; rw [h.av]
theorem mk_F.Tj (h : mk_F N N') : td_j N' = td_j N := by
  funext ns k
  unfold td_j td_j1
  rw [h.pl, h.Tr, h.Th, h.Ta]
theorem mk_F.TE (h : mk_F N N') : td_E N' = td_E N := by
  funext ns n D
  unfold td_E
  rw [h.bE, h.Tj]
theorem mk_F.Tok {ns : List Nd} (h : mk_F N N') (hok : td_ok N ns) : td_ok N' ns := by
  obtain ⟨_, a2, a3, a4, a5⟩ := hok
  refine ⟨h.1, a2, a3, by rw [h.nc]; exact a4, ?_⟩
  rw [h.na, h.Tr, h.2 6 (by decide) (by decide) (by decide) (by decide)]
  exact a5
end MKF
/-- a step of the run, as the class's relation is kept -/
theorem mk_go {N J : Mm} {r : Nat} {X : Nat → Nat → Int32} {s : Mm × Nat} (hF : mk_F N s.1) (hr : r < dt_nr N) {u v : Nat} : mk_F N (mk_st r X s u v).1 ∧ (mk_st r X s u v).2 ≤ s.2 + 1 := by
  by_cases h : mk_g s.1 r u v (X u v)
  · rw [mk_st_1 h]
    show mk_F N (mk_M s.1 r u v (X u v)) ∧ s.2 + 1 ≤ s.2 + 1
    obtain ⟨h1, h2, h3⟩ := h
    -- a class memory that goes with it is not needed for the order of the marks
    obtain ⟨w1, w2, w3, w4, w5⟩ := id hF.1.1
    have hr' : r < dt_nr s.1 := by rw [hF.nr]; exact hr
    have hm := mk_M_am (N := s.1) (r := r) (u := u) (v := v) (c := X u v)
    have hnm := am_nm hm h1
    have ho : ∀ a, a ≠ 2 → a ≠ 3 → a ≠ 4 → a ≠ 5 → mk_M s.1 r u v (X u v) a = s.1 a := hm.2.2.2.2
    have hnr : dt_nr (mk_M s.1 r u v (X u v)) = dt_nr s.1 := by unfold dt_nr; rw [ho 0 (by decide) (by decide) (by decide) (by decide)]
    have hpl : dt_pl (mk_M s.1 r u v (X u v)) = dt_pl s.1 := by funext x; unfold dt_pl; rw [ho 1 (by decide) (by decide) (by decide) (by decide)]
    obtain ⟨k1, k2, k3, k4, k5⟩ := h2
    obtain ⟨u', hu1, hu2⟩ := mk_co_n (w3 r hr').2 k1
    obtain ⟨v', hv1, hv2⟩ := mk_co_n (w3 r hr').2 k2
    refine ⟨⟨⟨⟨?_, by rw [hnr]; exact w2, fun x hx => ?_, fun x hx => ?_, fun x k hx hk => ?_⟩, ?_⟩, fun a a2 a3 a4 a5 => by rw [ho a a2 a3 a4 a5]; exact hF.2 a a2 a3 a4 a5⟩, Nat.le_refl _⟩
    · rw [hnr, ho 0 (by decide) (by decide) (by decide) (by decide)]; exact w1
    · rw [hnr] at hx
      rw [hpl, ho 1 (by decide) (by decide) (by decide) (by decide)]
      exact w3 x hx
    · rw [hnm x, hnr, hm.1]
      unfold upd
      by_cases e : x = r
      · rw [if_pos e, if_pos e]; exact ⟨rfl, by omega, fun h9 => by omega⟩
      · rw [if_neg e, if_neg e]; exact w4 x hx
    · rw [hnr] at hx
      rw [hnm x] at hk
      rw [hm.2.1, hm.2.2.1, hm.2.2.2.1, hpl]
      unfold upd
      by_cases e : x = r ∧ k = dt_nm s.1 r
      · obtain ⟨rfl, rfl⟩ := e
        rw [if_pos rfl, if_pos rfl, if_pos rfl]
        exact ⟨u', v', hu1, hv1, hu2, hv2, fun h9 => k3 (by rw [hu1, hv1, h9]), k4, k5⟩
      · have hk' : k < dt_nm s.1 x := by
          by_cases e2 : x = r
          · rw [if_pos e2] at hk; rw [e2]; omega
          · rw [if_neg e2] at hk; exact hk
        have hne : 4 * x + k ≠ 4 * r + dt_nm s.1 r := by have := (w4 x (by omega)).2.1; omega
        rw [if_neg hne, if_neg hne, if_neg hne]
        exact w5 x k hx hk'
    · have := hF.1.2
      unfold dt_w2 dt_cl dt_nc dt_hr dt_hv dt_na dt_ar dt_av dt_nb dt_nr at this ⊢
      rw [ho 0 (by decide) (by decide) (by decide) (by decide), ho 6 (by decide) (by decide) (by decide) (by decide), ho 7 (by decide) (by decide) (by decide) (by decide), ho 8 (by decide) (by decide) (by decide) (by decide), ho 9 (by decide) (by decide) (by decide) (by decide), ho 10 (by decide) (by decide) (by decide) (by decide), ho 11 (by decide) (by decide) (by decide) (by decide), ho 12 (by decide) (by decide) (by decide) (by decide), ho 13 (by decide) (by decide) (by decide) (by decide), ho 14 (by decide) (by decide) (by decide) (by decide)]
      exact this
  · rw [mk_st_0 h]
    exact ⟨hF, Nat.le_succ _⟩
/-- nine corners of a node, as the class takes them -/
noncomputable def ms_c (r : Nat) (X : Nat → Nat → Int32) (s : Mm × Nat) : Nat → Mm × Nat
  | 0 => s
  | t + 1 => mk_st r X (ms_c r X s t) (t / 3) (t % 3)
def ms_f (e i : Nat) : Nat := if i = e - 1 then 2 else i
/-- .. and as the reference does -/
noncomputable def ms_m (r e : Nat) (X : Nat → Nat → Int32) (s : Mm × Nat) : Nat → Mm × Nat
  | 0 => s
  | t + 1 => mk_st r X (ms_m r e X s t) (ms_f e (t / e)) (ms_f e (t % e))
theorem ms_c_F {N : Mm} {r : Nat} {X : Nat → Nat → Int32} {s : Mm × Nat} (hF : mk_F N s.1) (hr : r < dt_nr N) : ∀ t, mk_F N (ms_c r X s t).1 ∧ (ms_c r X s t).2 ≤ s.2 + t := by
  intro t
  induction t with
  | zero => exact ⟨hF, Nat.le_refl _⟩
  | succ t ih =>
    obtain ⟨a, b⟩ := mk_go (J := N) (X := X) ih.1 hr (u := t / 3) (v := t % 3)
    exact ⟨a, by show (mk_st r X (ms_c r X s t) (t / 3) (t % 3)).2 ≤ _; have := ih.2; omega⟩
theorem ms_m_F {N : Mm} {r e : Nat} {X : Nat → Nat → Int32} {s : Mm × Nat} (hF : mk_F N s.1) (hr : r < dt_nr N) : ∀ t, mk_F N (ms_m r e X s t).1 ∧ (ms_m r e X s t).2 ≤ s.2 + t := by
  intro t
  induction t with
  | zero => exact ⟨hF, Nat.le_refl _⟩
  | succ t ih =>
    obtain ⟨a, b⟩ := mk_go (J := N) (X := X) ih.1 hr (u := ms_f e (t / e)) (v := ms_f e (t % e))
    exact ⟨a, by show (mk_st r X (ms_m r e X s t) (ms_f e (t / e)) (ms_f e (t % e))).2 ≤ _; have := ih.2; omega⟩
theorem mk_co_1 {N : Mm} {r : Nat} (h : dt_pl N r = 1) : ¬ mk_co N r (nI 1) := fun h9 => by
  rw [mk_co_nI (by decide), h] at h9
  omega
/-- both ways come to the same -/
theorem ms_eq {N : Mm} {r : Nat} {X : Nat → Nat → Int32} {s : Mm × Nat} (hF : mk_F N s.1) (hr : r < dt_nr N) (hpl : dt_pl N r = 1 ∨ dt_pl N r = 2) : ms_m r (dt_pl N r + 1) X s ((dt_pl N r + 1) * (dt_pl N r + 1)) = ms_c r X s 9 := by
  rcases hpl with h | h
  · have no : ∀ (s' : Mm × Nat), mk_F N s'.1 → ∀ u v, u = 1 ∨ v = 1 → mk_st r X s' u v = s' := fun s' hs' u v huv => mk_st_0 (fun h9 => by
      have h1 : dt_pl s'.1 r = 1 := by rw [hs'.pl]; exact h
      rcases huv with rfl | rfl
      · exact mk_co_1 h1 h9.2.1.1
      · exact mk_co_1 h1 h9.2.1.2.1)
    rw [h]
    have c1 := (ms_c_F (X := X) hF hr 1).1
    have c3 := (ms_c_F (X := X) hF hr 3).1
    have c7 := (ms_c_F (X := X) hF hr 7).1
    have e2 : ms_c r X s 2 = ms_c r X s 1 := no _ c1 0 1 (Or.inr rfl)
    have e4 : ms_c r X s 4 = ms_c r X s 3 := no _ c3 1 0 (Or.inl rfl)
    have e5 : ms_c r X s 5 = ms_c r X s 3 := by show mk_st r X (ms_c r X s 4) 1 1 = _; rw [e4]; exact no _ c3 1 1 (Or.inl rfl)
    have e6 : ms_c r X s 6 = ms_c r X s 3 := by show mk_st r X (ms_c r X s 5) 1 2 = _; rw [e5]; exact no _ c3 1 2 (Or.inl rfl)
    have e8 : ms_c r X s 8 = ms_c r X s 7 := no _ c7 2 1 (Or.inr rfl)
    show mk_st r X (mk_st r X (mk_st r X (mk_st r X s 0 0) 0 2) 2 0) 2 2 = mk_st r X (ms_c r X s 8) 2 2
    rw [e8]
    show _ = mk_st r X (mk_st r X (ms_c r X s 6) 2 0) 2 2
    rw [e6]
    show _ = mk_st r X (mk_st r X (mk_st r X (ms_c r X s 2) 0 2) 2 0) 2 2
    rw [e2]
    rfl
  · rw [h]
    rfl
/-- the class: frames of marking -/
def mb_F (I J : Mm) : Prop := ∀ a, a < 137 ∨ 169 ≤ a → J a = I a
theorem mb_F.rf {I : Mm} : mb_F I I := fun _ _ => rfl
theorem mb_F.tr {I J L : Mm} (h1 : mb_F I J) (h2 : mb_F J L) : mb_F I L := fun a ha => (h2 a ha).trans (h1 a ha)
/-- heights stay -/
def mb_H (I J : Mm) : Prop := ∀ r j, r < 4 → 4 ≤ j → j < 8 → J (137 + 8 * r + j) = I (137 + 8 * r + j)
set_option maxHeartbeats 4000000 in
theorem p_markBy_L {ad : Nat → Nat} {N I0 : Mm} {k c r : Nat} (hc : c < 12) (hk : k < 41) (hr : r < dt_nr N) (hx0 : I0 (170 + 7 * c) 1 = nI (dt_hv N c 0)) (hx1 : I0 (170 + 7 * c) 2 = nI (dt_hv N c 1)) (hv5 : ∀ u, u < 3 → dt_pt 5 (dt_hv N c 0) (dt_hv N c 1) u < 6) {s0 : Mm × Nat} (hF0 : mk_F N s0.1) {post : Int32 → Mm → Prop} {b0 : Nat} {ex : Int32 → Mm → Prop}
    (hp : ∀ J : Mm, mb_F I0 J → mb_H I0 J → rl_s J (ms_c r (fun u v => I0 (10 + 3 * k) (dt_pt 5 (dt_hv N c 0) (dt_hv N c 1) u * 6 + dt_pt 5 (dt_hv N c 0) (dt_hv N c 1) v)) s0 9).1 → ex (nI ((ms_c r (fun u v => I0 (10 + 3 * k) (dt_pt 5 (dt_hv N c 0) (dt_hv N c 1) u * 6 + dt_pt 5 (dt_hv N c 0) (dt_hv N c 1) v)) s0 9).2 - s0.2)) J) :
    ∀ (t u : Nat), u + t = 3 → ∀ J : Mm, mb_F I0 J → mb_H I0 J → rl_s J (ms_c r (fun u v => I0 (10 + 3 * k) (dt_pt 5 (dt_hv N c 0) (dt_hv N c 1) u * 6 + dt_pt 5 (dt_hv N c 0) (dt_hv N c 1) v)) s0 (3 * u)).1 →
      w_X6_markBy_L41 (cl_Y ad) post ex (t + 1) (8 + 3 * k) (170 + 7 * c) (137 + 8 * r) (nI ((ms_c r (fun u v => I0 (10 + 3 * k) (dt_pt 5 (dt_hv N c 0) (dt_hv N c 1) u * 6 + dt_pt 5 (dt_hv N c 0) (dt_hv N c 1) v)) s0 (3 * u)).2 - s0.2)) (nI u) J := by
  have t3 : (3 : Int32).toInt = 3 := by decide
  have hB := cy_Bn (ad := ad) (n := k) hk
  generalize hX : (fun u v => I0 (10 + 3 * k) (dt_pt 5 (dt_hv N c 0) (dt_hv N c 1) u * 6 + dt_pt 5 (dt_hv N c 0) (dt_hv N c 1) v)) = X at hp ⊢
  have hmono : ∀ t, s0.2 ≤ (ms_c r X s0 t).2 := fun t => by
    induction t with
    | zero => exact Nat.le_refl _
    | succ t ih =>
      show s0.2 ≤ (mk_st r X (ms_c r X s0 t) (t / 3) (t % 3)).2
      by_cases h : mk_g (ms_c r X s0 t).1 r (t / 3) (t % 3) (X (t / 3) (t % 3))
      · rw [mk_st_1 h]; exact Nat.le_succ_of_le ih
      · rw [mk_st_0 h]; exact ih
  intro t
  induction t with
  | zero =>
    intro u hu J hF hH hs
    refine ⟨fun _ => ?_, fun h => ?_⟩
    · rw [show 3 * u = 9 by omega] at hs ⊢
      exact hp J hF hH hs
    · rw [in_le, in_n (by omega), t3] at h
      omega
  | succ t ih =>
    intro u hu J hF hH hs
    refine ⟨fun h => ?_, fun _ => ⟨3 + 1, ?_⟩⟩
    · rw [in_le, in_n (by omega), t3] at h
      omega
    · have inner : ∀ (n v : Nat), v + n = 3 → ∀ J : Mm, mb_F I0 J → mb_H I0 J → rl_s J (ms_c r X s0 (3 * u + v)).1 → w_X6_markBy_L50 (cl_Y ad) post (fun k37 k38 k39 v40 v41 I36 => (∀ x42 : Int32, x42 = v41 + (1 : Int32) → w_X6_markBy_L41 (cl_Y ad) post ex (t + 1) k37 k38 k39 v40 x42 I36)) (n + 1) (8 + 3 * k) (170 + 7 * c) (137 + 8 * r) (nI ((ms_c r X s0 (3 * u + v)).2 - s0.2)) (nI u) (nI v) J := by
        intro n
        induction n with
        | zero =>
          intro v hv J hF hH hs
          refine ⟨fun _ x hx => ?_, fun h => ?_⟩
          · rw [hx, in_s]
            have e : 3 * u + v = 3 * (u + 1) := by omega
            rw [e] at hs ⊢
            exact ih (u + 1) (by omega) J hF hH hs
          · rw [in_le, in_n (by omega), t3] at h
            omega
        | succ n ihn =>
          intro v hv J hF hH hs
          have hu3 : u < 3 := by omega
          have hv3 : v < 3 := by omega
          have d1 : (3 * u + v) / 3 = u := by omega
          have d2 : (3 * u + v) % 3 = v := by omega
          obtain ⟨hFs, hle⟩ := ms_c_F (X := X) hF0 hr (3 * u + v)
          have hge := hmono (3 * u + v)
          have hnext : ms_c r X s0 (3 * u + v + 1) = mk_st r X (ms_c r X s0 (3 * u + v)) u v := by
            show mk_st r X (ms_c r X s0 (3 * u + v)) ((3 * u + v) / 3) ((3 * u + v) % 3) = _
            rw [d1, d2]
          have hwS := hFs.1
          have hrS : r < dt_nr (ms_c r X s0 (3 * u + v)).1 := by rw [hFs.nr]; exact hr
          have hr4 := hwS.1.2.1
          obtain ⟨n1, n2, _⟩ := hwS.1.2.2.2.1 r (by omega)
          have skip : ¬ mk_g (ms_c r X s0 (3 * u + v)).1 r u v (X u v) → ∀ x, x = nI v + 1 → w_X6_markBy_L50 (cl_Y ad) post (fun k37 k38 k39 v40 v41 I36 => (∀ x42 : Int32, x42 = v41 + (1 : Int32) → w_X6_markBy_L41 (cl_Y ad) post ex (t + 1) k37 k38 k39 v40 x42 I36)) (n + 1) (8 + 3 * k) (170 + 7 * c) (137 + 8 * r) (nI ((ms_c r X s0 (3 * u + v)).2 - s0.2)) (nI u) x J := fun hno x hx => by
            have e := hnext.trans (mk_st_0 hno)
            rw [hx, in_s]
            have := ihn (v + 1) (by omega) J hF hH (by rw [← Nat.add_assoc, e]; exact hs)
            rw [← Nat.add_assoc, e] at this
            exact this
          refine ⟨fun h => ?_, fun _ => ⟨cy_kn hk, cy_kh hc, ?_⟩⟩
          · rw [in_le, in_n (by omega), t3] at h
            omega
          · have y0 : J (170 + 7 * c) 1 = nI (dt_hv N c 0) := by rw [hF _ (by omega)]; exact hx0
            have y1 : J (170 + 7 * c) 2 = nI (dt_hv N c 1) := by rw [hF _ (by omega)]; exact hx1
            refine p_point (cy_kh hc) y0 y1 hu3 (p_point (cy_kh hc) y0 y1 hv3 ?_)
            rw [cy_rn hk]
            refine ⟨hB.1, p_leastOf hB (hv5 u hu3) (hv5 v hv3) ⟨cy_kr (by omega), ?_⟩⟩
            have eX : J (9 + 3 * k + 1) (dt_pt 5 (dt_hv N c 0) (dt_hv N c 1) u * 6 + dt_pt 5 (dt_hv N c 0) (dt_hv N c 1) v) = X u v := by
              rw [show 9 + 3 * k + 1 = 10 + 3 * k by omega, hF _ (by omega), ← hX]
            rw [eX, hs.1.2.2.1 r (by omega), n1]
            refine ⟨fun h4 => skip (fun h9 => ?_), fun h4 => ?_⟩
            · rw [in_le, in_n (by omega), in_4] at h4
              have := h9.1
              omega
            · rw [in_le, in_n (by omega), in_4] at h4
              refine p_canMark hwS hs.1 hrS (fun hok => ⟨fun h9 => absurd h9 (by decide), fun _ => p_hasMark hwS hs.1 hrS (fun hm => ⟨fun _ => skip (fun h9 => h9.2.2 hm), fun h9 => absurd h9 (by decide)⟩) (fun hm => ⟨fun h9 => absurd rfl h9, fun _ => ?_⟩)⟩) (fun hno => ⟨fun _ => skip (fun h9 => hno h9.2.1), fun h9 => absurd rfl h9⟩)
              refine p_addMark hwS hs.1 hrS (by omega) (fun L hL x30 hx30 x31 hx31 => ?_)
              have hg : mk_g (ms_c r X s0 (3 * u + v)).1 r u v (X u v) := ⟨by omega, hok, hm⟩
              have e := hnext.trans (mk_st_1 hg)
              obtain ⟨_, g2⟩ := am_go hwS hs hrS (by omega) hok hL mk_M_am
              rw [hx30, hx31, in_s, in_s]
              have hFL : mb_F I0 L := hF.tr (fun a ha => hL.2.2.2.2 a (by omega) (by omega) (by omega) (by omega))
              have hHL : mb_H I0 L := fun r' j h1 h2 h3 => by rw [hL.2.2.2.2 _ (by omega) (by omega) (by omega) (by omega)]; exact hH r' j h1 h2 h3
              have := ihn (v + 1) (by omega) L hFL hHL (by rw [← Nat.add_assoc, e]; exact g2)
              rw [← Nat.add_assoc, e] at this
              have e9 : (ms_c r X s0 (3 * u + v)).2 + 1 - s0.2 = (ms_c r X s0 (3 * u + v)).2 - s0.2 + 1 := by omega
              show w_X6_markBy_L50 _ _ _ (n + 1) _ _ _ (nI ((ms_c r X s0 (3 * u + v)).2 - s0.2 + 1)) _ _ _
              rw [← e9]
              exact this
      exact inner 3 0 (by decide) J hF hH hs
