/-! PROJECTIONS: what six points see of many bounds -/
def dq_o (M : Nat → Nat → Option Int) (x : Nat → Option Int) : Prop := ∀ i j, i < 6 → j < 6 → ∀ s t, df_le (M i j) s → df_le (x j) t → df_le (x i) (t + s)
/-- M is what the points pt see of E -/
def dq_Q (E : List Ed) (pt : Nat → Nat) (M : Nat → Nat → Option Int) : Prop := (∀ i, i < 6 → M i i = some 0) ∧ (∀ i j k, i < 6 → j < 6 → k < 6 → ∀ s t, df_le (M i j) s → df_le (M j k) t → df_le (M i k) (s + t)) ∧ (∀ y, df_X E y → dq_o M (fun i => y (pt i))) ∧ ∀ x, dq_o M x → ∃ y, df_X E y ∧ ∀ i, i < 6 → y (pt i) = x i
theorem dq_Q_eq {n : Nat} {E : List Ed} {pt : Nat → Nat} {M Mb : Nat → Nat → Option Int} (hP : df_P n E) (hC : df_C n E Mb) (hpt : ∀ i, i < 6 → pt i < n) (hQ : dq_Q E pt M) {i j : Nat} (hi : i < 6) (hj : j < 6) : M i j = Mb (pt i) (pt j) := by
  refine md_ext (fun t => ⟨fun h => ?_, fun h => ?_⟩)
  · have hD := df_D_j hC hP (hpt j hj)
    have h0 : df_le (Mb (pt j) (pt j)) 0 := by rw [hC.1 _ (hpt j hj)]; exact df_le_some.mpr (Int.le_refl _)
    have := hQ.2.2.1 _ hD.1 i j hi hj t 0 h h0
    exact df_le_mono this (by omega)
  · have ho : dq_o M (fun a => M a j) := fun a b ha hb s r h1 h2 => df_le_mono (hQ.2.1 a b j ha hb hj s r h1 h2) (by omega)
    obtain ⟨y, hy, hyp⟩ := hQ.2.2.2 _ ho
    have h0 : df_le (y (pt j)) 0 := by rw [hyp j hj, hQ.1 j hj]; exact df_le_some.mpr (Int.le_refl _)
    have := hC.2.2.2 y hy (pt i) (pt j) (hpt i hi) (hpt j hj) t 0 h h0
    rw [hyp i hi] at this
    exact df_le_mono this (by omega)
/-- the entries of a matrix as bounds -/
def dq_en (M : Nat → Nat → Option Int) : List Ed := (List.range 36).filterMap (fun k => (M (k / 6) (k % 6)).map (fun a => (k / 6, k % 6, a)))
theorem dq_en_mem {M : Nat → Nat → Option Int} {e : Ed} : e ∈ dq_en M ↔ e.1 < 6 ∧ e.2.1 < 6 ∧ M e.1 e.2.1 = some e.2.2 := by
  unfold dq_en
  rw [List.mem_filterMap]
  constructor
  · rintro ⟨k, hk, he⟩
    rw [List.mem_range] at hk
    cases hM : M (k / 6) (k % 6) with
    | none => rw [hM] at he; cases he
    | some a =>
      rw [hM] at he
      cases he
      exact ⟨by show k / 6 < 6; omega, by show k % 6 < 6; omega, hM⟩
  · rintro ⟨h1, h2, h3⟩
    obtain ⟨u, v, c⟩ := e
    have h1 : u < 6 := h1
    have h2 : v < 6 := h2
    have h3 : M u v = some c := h3
    refine ⟨u * 6 + v, List.mem_range.mpr (by omega), ?_⟩
    rw [show (u * 6 + v) / 6 = u by omega, show (u * 6 + v) % 6 = v by omega, h3]
    rfl
theorem dq_en_X {M : Nat → Nat → Option Int} {x : Nat → Option Int} : df_X (dq_en M) x ↔ dq_o M x := by
  constructor
  · intro h i j hi hj s t h1 h2
    obtain ⟨a, ha, hle⟩ := h1
    have := h (i, j, a) (dq_en_mem.mpr ⟨hi, hj, ha⟩) t h2
    exact df_le_mono this (by show t + a ≤ _; omega)
  · intro h e he t ht
    obtain ⟨h1, h2, h3⟩ := dq_en_mem.mp he
    exact h e.1 e.2.1 h1 h2 e.2.2 t (by rw [h3]; exact df_le_some.mpr (Int.le_refl _)) ht
/-- a closed matrix is that of its entries -/
theorem dq_en_C {M : Nat → Nat → Option Int} (h1 : ∀ i, i < 6 → M i i = some 0) (h2 : ∀ i j k, i < 6 → j < 6 → k < 6 → ∀ s t, df_le (M i j) s → df_le (M j k) t → df_le (M i k) (s + t)) : df_C 6 (dq_en M) M :=
  ⟨h1, h2, fun e he => by rw [(dq_en_mem.mp he).2.2]; exact df_le_some.mpr (Int.le_refl _), fun y hy i j hi hj s t h3 h4 => dq_en_X.mp hy i j hi hj s t h3 h4⟩
theorem df_S_X {E : List Ed} : df_S E ↔ ∃ y, df_X E y ∧ ∀ p, ∃ a, y p = some a := by
  constructor
  · rintro ⟨x, hx⟩
    exact ⟨_, df_X_of hx, fun p => ⟨x p, rfl⟩⟩
  · rintro ⟨y, hy, hf⟩
    refine ⟨fun p => (y p).getD 0, fun e he => ?_⟩
    obtain ⟨a, ha⟩ := hf e.2.1
    obtain ⟨b, hb, hle⟩ := hy e he a (by rw [ha]; exact df_le_some.mpr (Int.le_refl _))
    show (y e.1).getD 0 - (y e.2.1).getD 0 ≤ e.2.2
    rw [ha, hb]
    show b - a ≤ _
    omega
theorem dq_max (f : Nat → Int) : ∀ n, ∃ L : Int, ∀ i, i < n → f i ≤ L := by
  intro n
  induction n with
  | zero => exact ⟨0, fun i h => absurd h (Nat.not_lt_zero i)⟩
  | succ n ih =>
    obtain ⟨L, hL⟩ := ih
    by_cases h : f n ≤ L
    · refine ⟨L, fun i hi => ?_⟩
      rcases Nat.lt_succ_iff_lt_or_eq.mp hi with h9 | rfl
      · exact hL i h9
      · exact h
    · refine ⟨f n, fun i hi => ?_⟩
      rcases Nat.lt_succ_iff_lt_or_eq.mp hi with h9 | rfl
      · have := hL i h9; omega
      · exact Int.le_refl _
/-- numbers without infinity that agree at six points -/
theorem dq_fin {E : List Ed} (hS : df_S E) {y : Nat → Option Int} (hy : df_X E y) (pt : Nat → Nat) : ∃ z, df_X E z ∧ (∀ p, ∃ a, z p = some a) ∧ ∀ i a, i < 6 → y (pt i) = some a → z (pt i) = some a := by
  obtain ⟨x, hx⟩ := hS
  obtain ⟨L, hL⟩ := dq_max (fun i => (y (pt i)).getD 0 - x (pt i)) 6
  have hle : ∀ p t, df_le (df_min (y p) (some (x p + L))) t ↔ df_le (y p) t ∨ x p + L ≤ t := fun p t => by rw [df_min_le, df_le_some]
  refine ⟨fun p => df_min (y p) (some (x p + L)), fun e he t ht => ?_, fun p => ?_, fun i a hi ha => ?_⟩
  · have ht := (hle _ _).mp ht
    refine (hle _ _).mpr ?_
    rcases ht with ht | ht
    · exact Or.inl (hy e he t ht)
    · have := hx e he
      exact Or.inr (by omega)
  · show ∃ a, df_min (y p) (some (x p + L)) = some a
    cases y p with
    | none => exact ⟨_, rfl⟩
    | some v => exact ⟨_, rfl⟩
  · have := hL i hi
    simp only [ha, Option.getD_some] at this
    show df_min (y (pt i)) (some (x (pt i) + L)) = some a
    rw [ha]
    show some (if a ≤ x (pt i) + L then a else x (pt i) + L) = some a
    rw [if_pos (by omega)]
/-- six points renamed -/
theorem dq_ren {E F : List Ed} {pt inv : Nat → Nat} (hE : E = F.map (fun e => (pt e.1, pt e.2.1, e.2.2))) (hP : df_P 6 F) (hinv : ∀ i, i < 6 → inv (pt i) = i) {M : Nat → Nat → Option Int} (hC : df_C 6 F M) : df_S E ∧ dq_Q E pt M := by
  have hX : ∀ y, df_X E y ↔ df_X F (fun i => y (pt i)) := fun y => by
    constructor
    · intro h e he t ht
      exact h (pt e.1, pt e.2.1, e.2.2) (by rw [hE]; exact List.mem_map.mpr ⟨e, he, rfl⟩) t ht
    · intro h e he t ht
      rw [hE] at he
      obtain ⟨e', he', rfl⟩ := List.mem_map.mp he
      exact h e' he' t ht
  have back : ∀ x, df_X F x → df_X E (fun p => x (inv p)) := fun x hx => by
    rw [hX]
    intro e he t ht
    obtain ⟨h1, h2⟩ := hP e he
    show df_le (x (inv (pt e.1))) _
    have ht : df_le (x (inv (pt e.2.1))) t := ht
    rw [hinv _ h2] at ht
    rw [hinv _ h1]
    exact hx e he t ht
  refine ⟨?_, hC.1, hC.2.1, fun y hy i j hi hj s t h1 h2 => hC.2.2.2 _ ((hX y).mp hy) i j hi hj s t h1 h2, fun x hx => ⟨fun p => x (inv p), back x (fun e he t ht => ?_), fun i hi => by show x (inv (pt i)) = x i; rw [hinv i hi]⟩⟩
  · obtain ⟨z, hz⟩ := df_C_S hC hP
    rw [df_S_X]
    exact ⟨_, back _ (df_X_of hz), fun p => ⟨_, rfl⟩⟩
  · obtain ⟨h1, h2⟩ := hP e he
    exact hx e.1 e.2.1 h1 h2 e.2.2 t (hC.2.2.1 e he) ht
theorem dq_ren_S {E F : List Ed} {pt : Nat → Nat} (hE : E = F.map (fun e => (pt e.1, pt e.2.1, e.2.2))) (h : df_S E) : df_S F := by
  obtain ⟨x, hx⟩ := h
  refine ⟨fun i => x (pt i), fun e he => ?_⟩
  exact hx (pt e.1, pt e.2.1, e.2.2) (by rw [hE]; exact List.mem_map.mpr ⟨e, he, rfl⟩)
noncomputable def dq_cmb (side : Nat → Prop) (y1 y2 : Nat → Option Int) (p : Nat) : Option Int := @ite _ (side p) (Classical.propDecidable _) (y2 p) (y1 p)
theorem dq_cmb_1 {side : Nat → Prop} {y1 y2 : Nat → Option Int} {p : Nat} (h : ¬ side p) : dq_cmb side y1 y2 p = y1 p := if_neg h
theorem dq_cmb_2 {side : Nat → Prop} {y1 y2 : Nat → Option Int} {p : Nat} (h : side p) : dq_cmb side y1 y2 p = y2 p := if_pos h
section DQ
variable {E1 E2 E' G F : List Ed} {p1 p2 au hu : Nat → Nat} {pl z : Nat} {M1 M2 M' : Nat → Nat → Option Int} {side : Nat → Prop}
/-- a child's bounds are joined to its parent's -/
def dq_J (E1 E2 E' : List Ed) (p1 p2 au hu : Nat → Nat) (pl z : Nat) (side : Nat → Prop) : Prop :=
  (∀ e ∈ E1, ¬ side e.1 ∧ ¬ side e.2.1) ∧ (∀ e ∈ E2, (side e.1 ∨ e.1 = z) ∧ (side e.2.1 ∨ e.2.1 = z)) ∧ ¬ side z ∧ (∀ i, i < 6 → ¬ side (p1 i)) ∧ (∀ i, i < 5 → side (p2 i)) ∧ p1 5 = z ∧ p2 5 = z ∧ (∀ u, u < 3 → au u < 6 ∧ hu u < 6) ∧ au 2 = 5 ∧ hu 2 = 5 ∧ pl ≤ 2 ∧
  ∀ y, df_X E' y ↔ df_X E1 y ∧ df_X E2 y ∧ ∀ q, q < pl → y (p1 (au q)) = y (p2 (hu q))
/-- what the child's corners say of the parent's points -/
def dq_G (G : List Ed) (M2 : Nat → Nat → Option Int) (au hu : Nat → Nat) (pl : Nat) : Prop := ∀ e, e ∈ G ↔ ∃ u v a, (u = 2 ∨ u < pl) ∧ (v = 2 ∨ v < pl) ∧ u ≠ v ∧ M2 (hu u) (hu v) = some a ∧ e = (au u, au v, a)
theorem dq_J.eq {y1 y2 : Nat → Option Int} (hJ : dq_J E1 E2 E' p1 p2 au hu pl z side) (h2 : ∀ q, q = 2 ∨ q < pl → y1 (p1 (au q)) = y2 (p2 (hu q))) : y1 z = y2 z := by
  obtain ⟨_, _, _, _, _, z1, z2, _, a2, hh2, _⟩ := hJ
  have := h2 2 (Or.inl rfl)
  rw [a2, hh2, z1, z2] at this
  exact this
theorem dq_J.cmb {y1 y2 : Nat → Option Int} (hJ : dq_J E1 E2 E' p1 p2 au hu pl z side) (hy1 : df_X E1 y1) (hy2 : df_X E2 y2) (h2 : ∀ q, q = 2 ∨ q < pl → y1 (p1 (au q)) = y2 (p2 (hu q))) : df_X E' (dq_cmb side y1 y2) := by
  have hz := hJ.eq h2
  obtain ⟨s1, s2, sz, q1, q2, z1, z2, lt, a2, hh2, hpl, hX⟩ := hJ
  have e2 : ∀ p, side p ∨ p = z → dq_cmb side y1 y2 p = y2 p := fun p hp => by
    rcases hp with hp | hp
    · exact dq_cmb_2 hp
    · rw [hp, dq_cmb_1 sz, hz]
  rw [hX]
  refine ⟨fun e he t ht => ?_, fun e he t ht => ?_, fun q hq => ?_⟩
  · rw [dq_cmb_1 (s1 e he).2] at ht
    rw [dq_cmb_1 (s1 e he).1]
    exact hy1 e he t ht
  · rw [e2 _ (s2 e he).2] at ht
    rw [e2 _ (s2 e he).1]
    exact hy2 e he t ht
  · obtain ⟨l1, l2⟩ := lt q (by omega)
    rw [dq_cmb_1 (q1 _ l1), e2 _ (by
      by_cases h5 : hu q = 5
      · exact Or.inr (by rw [h5]; exact z2)
      · exact Or.inl (q2 _ (by omega)))]
    exact h2 q (Or.inr hq)
theorem dq_J.all {y : Nat → Option Int} (hJ : dq_J E1 E2 E' p1 p2 au hu pl z side) (hy : df_X E' y) : ∀ q, q = 2 ∨ q < pl → y (p1 (au q)) = y (p2 (hu q)) := fun q hq => by
  obtain ⟨_, _, _, _, _, z1, z2, _, a2, hh2, _, hX⟩ := hJ
  rcases hq with rfl | hq
  · rw [a2, hh2, z1, z2]
  · exact ((hX y).mp hy).2.2 q hq
/-- numbers for the parent's many points obey what its six points are told -/
theorem dq_down {y : Nat → Option Int} (hJ : dq_J E1 E2 E' p1 p2 au hu pl z side) (hG : dq_G G M2 au hu pl) (hF : ∀ e, e ∈ F ↔ e ∈ G ∨ e ∈ dq_en M1) (hQ1 : dq_Q E1 p1 M1) (hQ2 : dq_Q E2 p2 M2) (hy : df_X E' y) : df_X F (fun i => y (p1 i)) := fun e he t ht => by
  have hall := hJ.all hy
  obtain ⟨_, _, _, _, _, _, _, lt, _, _, hpl, hX⟩ := hJ
  obtain ⟨y1, y2, _⟩ := (hX y).mp hy
  rcases (hF e).mp he with he | he
  · obtain ⟨u, v, a, hu9, hv9, _, hM, rfl⟩ := (hG e).mp he
    show df_le (y (p1 (au u))) (t + a)
    have ht : df_le (y (p1 (au v))) t := ht
    rw [hall v hv9] at ht
    rw [hall u hu9]
    exact hQ2.2.2.1 y y2 (hu u) (hu v) (lt u (by omega)).2 (lt v (by omega)).2 a t (by rw [hM]; exact df_le_some.mpr (Int.le_refl _)) ht
  · exact dq_en_X.mpr (hQ1.2.2.1 y y1) e he t ht
/-- numbers for the child's points that fit at its head -/
theorem dq_psi (hG : dq_G G M2 au hu pl) (hpl : pl ≤ 2) (lt : ∀ u, u < 3 → au u < 6 ∧ hu u < 6) (hQ2 : dq_Q E2 p2 M2) {x : Nat → Option Int} (hx : df_X G x) : ∃ w, dq_o M2 w ∧ ∀ q, q = 2 ∨ q < pl → w (hu q) = x (au q) := by
  have key : ∃ w : Nat → Option Int, ∀ i t, df_le (w i) t ↔ ∃ u, (u = 2 ∨ u < pl) ∧ ∃ s r, df_le (M2 i (hu u)) s ∧ df_le (x (au u)) r ∧ s + r ≤ t := by
    refine ⟨fun i => df_min (if 0 < pl then df_sum (M2 i (hu 0)) 0 (x (au 0)) else none) (df_min (if 1 < pl then df_sum (M2 i (hu 1)) 0 (x (au 1)) else none) (df_sum (M2 i (hu 2)) 0 (x (au 2)))), fun i t => ?_⟩
    have one : ∀ u, df_le (df_sum (M2 i (hu u)) 0 (x (au u))) t ↔ ∃ s r, df_le (M2 i (hu u)) s ∧ df_le (x (au u)) r ∧ s + r ≤ t := fun u => by
      rw [df_sum_le]
      exact ⟨fun ⟨s, r, a, b, c⟩ => ⟨s, r, a, b, by omega⟩, fun ⟨s, r, a, b, c⟩ => ⟨s, r, a, b, by omega⟩⟩
    rw [df_min_le, df_min_le, one 2]
    constructor
    · rintro (h | h | h)
      · by_cases h0 : 0 < pl
        · rw [if_pos h0, one 0] at h; exact ⟨0, Or.inr h0, h⟩
        · rw [if_neg h0] at h; exact (df_le_none h).elim
      · by_cases h0 : 1 < pl
        · rw [if_pos h0, one 1] at h; exact ⟨1, Or.inr h0, h⟩
        · rw [if_neg h0] at h; exact (df_le_none h).elim
      · exact ⟨2, Or.inl rfl, h⟩
    · rintro ⟨u, hu9, h⟩
      rcases (show u = 0 ∨ u = 1 ∨ u = 2 by omega) with rfl | rfl | rfl
      · have h0 : 0 < pl := by omega
        rw [if_pos h0, one 0]; exact Or.inl h
      · have h0 : 1 < pl := by omega
        rw [if_pos h0, one 1]; exact Or.inr (Or.inl h)
      · exact Or.inr (Or.inr h)
  obtain ⟨w, hw⟩ := key
  refine ⟨w, fun i j hi hj s t h1 h2 => ?_, fun v hv => md_ext (fun t => ⟨fun h => ?_, fun h => ?_⟩)⟩
  · obtain ⟨u, hu9, s', r, a, b, c⟩ := (hw j t).mp h2
    exact (hw i _).mpr ⟨u, hu9, s + s', r, hQ2.2.1 i j (hu u) hi hj (lt u (by omega)).2 s s' h1 a, b, by omega⟩
  · obtain ⟨u, hu9, s, r, a, b, c⟩ := (hw _ t).mp h
    by_cases huv : u = v
    · subst huv
      rw [hQ2.1 _ (lt u (by omega)).2, df_le_some] at a
      exact df_le_mono b (by omega)
    · obtain ⟨a', ha', hle⟩ := a
      have := hx (au v, au u, a') ((hG _).mpr ⟨v, u, a', hv, hu9, fun h9 => huv h9.symm, ha', rfl⟩) r b
      exact df_le_mono this (by show r + a' ≤ t; omega)
  · obtain ⟨a, ha, hle⟩ := h
    exact (hw _ t).mpr ⟨v, hv, 0, a, by rw [hQ2.1 _ (lt v (by omega)).2]; exact df_le_some.mpr (Int.le_refl _), by rw [ha]; exact df_le_some.mpr (Int.le_refl _), by omega⟩
/-- the parent's six points, told of the child's corners, see all that is below -/
theorem dq_step (hJ : dq_J E1 E2 E' p1 p2 au hu pl z side) (hG : dq_G G M2 au hu pl) (hF : ∀ e, e ∈ F ↔ e ∈ G ∨ e ∈ dq_en M1) (hQ1 : dq_Q E1 p1 M1) (hQ2 : dq_Q E2 p2 M2) (hS1 : df_S E1) (hS2 : df_S E2) (hC : df_C 6 F M') : df_S E' ∧ dq_Q E' p1 M' := by
  obtain ⟨_, _, _, q1, _, _, _, lt, _, _, hpl, _⟩ := id hJ
  have fromM : ∀ x, dq_o M' x → df_X F x := fun x hx e he t ht => by
    have h9 := hC.2.2.1 e he
    have hlt : e.1 < 6 ∧ e.2.1 < 6 := by
      rcases (hF e).mp he with h | h
      · obtain ⟨u, v, a, hu9, hv9, _, _, rfl⟩ := (hG e).mp h
        exact ⟨(lt u (by omega)).1, (lt v (by omega)).1⟩
      · exact ⟨(dq_en_mem.mp h).1, (dq_en_mem.mp h).2.1⟩
    exact hx e.1 e.2.1 hlt.1 hlt.2 e.2.2 t h9 ht
  have ext : ∀ x, dq_o M' x → ∃ y1 y2, df_X E1 y1 ∧ df_X E2 y2 ∧ (∀ i, i < 6 → y1 (p1 i) = x i) ∧ ∀ q, q = 2 ∨ q < pl → y1 (p1 (au q)) = y2 (p2 (hu q)) := fun x hx => by
    have hXF := fromM x hx
    have hX1 : dq_o M1 x := dq_en_X.mp (fun e he => hXF e ((hF e).mpr (Or.inr he)))
    have hXG : df_X G x := fun e he => hXF e ((hF e).mpr (Or.inl he))
    obtain ⟨y1, a1, a2⟩ := hQ1.2.2.2 x hX1
    obtain ⟨w, w1, w2⟩ := dq_psi hG hpl lt hQ2 hXG
    obtain ⟨y2, b1, b2⟩ := hQ2.2.2.2 w w1
    exact ⟨y1, y2, a1, b1, a2, fun q hq => by rw [a2 _ (lt q (by omega)).1, b2 _ (lt q (by omega)).2, w2 q hq]⟩
  refine ⟨?_, hC.1, hC.2.1, fun y hy i j hi hj s t h1 h2 => hC.2.2.2 _ (dq_down hJ hG hF hQ1 hQ2 hy) i j hi hj s t h1 h2, fun x hx => ?_⟩
  · have hx0 : dq_o M' (fun i => some (df_mn M' i 6)) := fun i j hi hj s t h1 h2 => by
      rw [df_le_some] at h2 ⊢
      have := df_mn_le hC hi hj h1
      omega
    obtain ⟨y1, y2, a1, b1, a2, h2⟩ := ext _ hx0
    obtain ⟨z1, c1, c2, c3⟩ := dq_fin hS1 a1 p1
    obtain ⟨z2, d1, d2, d3⟩ := dq_fin hS2 b1 p2
    rw [df_S_X]
    refine ⟨_, hJ.cmb c1 d1 (fun q hq => ?_), fun p => ?_⟩
    · obtain ⟨l1, l2⟩ := lt q (by omega)
      have e1 := a2 (au q) l1
      have e2 := h2 q hq
      rw [e1] at e2
      rw [c3 (au q) _ l1 e1, d3 (hu q) _ l2 e2.symm]
    · by_cases hp : side p
      · rw [dq_cmb_2 hp]; exact d2 p
      · rw [dq_cmb_1 hp]; exact c2 p
  · obtain ⟨y1, y2, a1, b1, a2, h2⟩ := ext x hx
    exact ⟨_, hJ.cmb a1 b1 h2, fun i hi => by rw [dq_cmb_1 (q1 i hi)]; exact a2 i hi⟩
theorem dq_un (hJ : dq_J E1 E2 E' p1 p2 au hu pl z side) (hG : dq_G G M2 au hu pl) (hF : ∀ e, e ∈ F ↔ e ∈ G ∨ e ∈ dq_en M1) (hQ1 : dq_Q E1 p1 M1) (hQ2 : dq_Q E2 p2 M2) (h : df_S E') : df_S F := by
  obtain ⟨y, hy, hf⟩ := df_S_X.mp h
  exact df_S_X.mpr ⟨_, dq_down hJ hG hF hQ1 hQ2 hy, fun p => hf _⟩
theorem dq_sub1 (hJ : dq_J E1 E2 E' p1 p2 au hu pl z side) (h : df_S E') : df_S E1 ∧ df_S E2 := by
  obtain ⟨_, _, _, _, _, _, _, _, _, _, _, hX⟩ := hJ
  obtain ⟨y, hy, hf⟩ := df_S_X.mp h
  obtain ⟨a, b, _⟩ := (hX y).mp hy
  exact ⟨df_S_X.mpr ⟨y, a, hf⟩, df_S_X.mpr ⟨y, b, hf⟩⟩
end DQ
