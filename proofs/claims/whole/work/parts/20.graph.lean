/-! DIFFERENCE BOUNDS: (u, v, c) says x u - x v <= c. Numbers with infinity: Option Int, none the greatest. -/
abbrev Ed : Type := Nat × Nat × Int
def df_le (o : Option Int) (t : Int) : Prop := ∃ x, o = some x ∧ x ≤ t
theorem df_le_mono {o : Option Int} {s t : Int} (h : df_le o s) (hst : s ≤ t) : df_le o t := by
  obtain ⟨x, h1, h2⟩ := h
  exact ⟨x, h1, by omega⟩
theorem df_le_some {x t : Int} : df_le (some x) t ↔ x ≤ t := ⟨fun ⟨y, h1, h2⟩ => by cases h1; exact h2, fun h => ⟨x, rfl, h⟩⟩
theorem df_le_none {t : Int} : ¬ df_le none t := fun ⟨_, h, _⟩ => by cases h
/-- whole numbers obey the bounds -/
def df_H (E : List Ed) (x : Nat → Int) : Prop := ∀ e ∈ E, x e.1 - x e.2.1 ≤ e.2.2
/-- the bounds hold together -/
def df_S (E : List Ed) : Prop := ∃ x, df_H E x
/-- numbers with infinity obey them -/
def df_X (E : List Ed) (y : Nat → Option Int) : Prop := ∀ e ∈ E, ∀ t, df_le (y e.2.1) t → df_le (y e.1) (t + e.2.2)
def df_P (n : Nat) (E : List Ed) : Prop := ∀ e ∈ E, e.1 < n ∧ e.2.1 < n
/-- M is closed, below the bounds, and follows from them -/
def df_C (n : Nat) (E : List Ed) (M : Nat → Nat → Option Int) : Prop :=
  (∀ i, i < n → M i i = some 0) ∧ (∀ i j k, i < n → j < n → k < n → ∀ s t, df_le (M i j) s → df_le (M j k) t → df_le (M i k) (s + t)) ∧
  (∀ e ∈ E, df_le (M e.1 e.2.1) e.2.2) ∧ ∀ y, df_X E y → ∀ i j, i < n → j < n → ∀ s t, df_le (M i j) s → df_le (y j) t → df_le (y i) (t + s)
def df_min (a b : Option Int) : Option Int := match a, b with
  | none, b => b
  | some x, none => some x
  | some x, some y => some (if x ≤ y then x else y)
def df_sum (a : Option Int) (c : Int) (b : Option Int) : Option Int := match a, b with
  | some x, some y => some (x + c + y)
  | _, _ => none
theorem df_min_le {a b : Option Int} {t : Int} : df_le (df_min a b) t ↔ df_le a t ∨ df_le b t := by
  cases a with
  | none => exact ⟨fun h => Or.inr h, fun h => h.elim (fun h => (df_le_none h).elim) id⟩
  | some x =>
    cases b with
    | none => exact ⟨fun h => Or.inl h, fun h => h.elim id (fun h => (df_le_none h).elim)⟩
    | some y =>
      show df_le (some (if x ≤ y then x else y)) t ↔ _
      rw [df_le_some, df_le_some, df_le_some]
      split <;> omega
theorem df_sum_le {a b : Option Int} {c t : Int} : df_le (df_sum a c b) t ↔ ∃ s r, df_le a s ∧ df_le b r ∧ s + c + r ≤ t := by
  cases a with
  | none => exact ⟨fun h => (df_le_none h).elim, fun ⟨_, _, h, _⟩ => (df_le_none h).elim⟩
  | some x =>
    cases b with
    | none => exact ⟨fun h => (df_le_none h).elim, fun ⟨_, _, _, h, _⟩ => (df_le_none h).elim⟩
    | some y =>
      show df_le (some (x + c + y)) t ↔ _
      rw [df_le_some]
      refine ⟨fun h => ⟨x, y, df_le_some.mpr (Int.le_refl _), df_le_some.mpr (Int.le_refl _), h⟩, fun ⟨s, r, h1, h2, h3⟩ => ?_⟩
      rw [df_le_some] at h1 h2
      omega
/-- one bound more -/
def df_add (M : Nat → Nat → Option Int) (u v : Nat) (c : Int) : Nat → Nat → Option Int := fun i j => df_min (M i j) (df_sum (M i u) c (M v j))
theorem df_add_le {M : Nat → Nat → Option Int} {u v i j : Nat} {c t : Int} : df_le (df_add M u v c i j) t ↔ df_le (M i j) t ∨ ∃ s r, df_le (M i u) s ∧ df_le (M v j) r ∧ s + c + r ≤ t := by
  unfold df_add
  rw [df_min_le, df_sum_le]
theorem df_C_neg {n : Nat} {E : List Ed} {M : Nat → Nat → Option Int} {u v : Nat} {c : Int} (h : df_C n E M) (hu : u < n) (hv : v < n) (hneg : ∀ b, M v u = some b → 0 ≤ b + c) {i : Nat} (hi : i < n) {s r : Int} (h1 : df_le (M i u) s) (h2 : df_le (M v i) r) : 0 ≤ s + c + r := by
  obtain ⟨b, hb, hle⟩ := h.2.1 v i u hv hi hu r s h2 h1
  have := hneg b hb
  omega
theorem df_X_cons {E : List Ed} {e : Ed} {y : Nat → Option Int} (h : df_X (e :: E) y) : df_X E y := fun e9 he => h e9 (List.mem_cons_of_mem _ he)
theorem df_C_add {n : Nat} {E : List Ed} {M : Nat → Nat → Option Int} {u v : Nat} {c : Int} (h : df_C n E M) (hu : u < n) (hv : v < n) (hneg : ∀ b, M v u = some b → 0 ≤ b + c) : df_C n ((u, v, c) :: E) (df_add M u v c) := by
  refine ⟨fun i hi => ?_, fun i j k hi hj hk s t h1 h2 => ?_, fun e he => ?_, fun y hy i j hi hj s t h1 h2 => ?_⟩
  · have h0 : M i i = some 0 := h.1 i hi
    show df_min (M i i) (df_sum (M i u) c (M v i)) = some 0
    rw [h0]
    cases h1 : M i u with
    | none => rfl
    | some a =>
      cases h2 : M v i with
      | none => rfl
      | some b =>
        have h3 := df_C_neg h hu hv hneg hi (s := a) (r := b) (by rw [h1]; exact df_le_some.mpr (Int.le_refl _)) (by rw [h2]; exact df_le_some.mpr (Int.le_refl _))
        show some (if (0 : Int) ≤ a + c + b then 0 else a + c + b) = some 0
        rw [if_pos h3]
  · rw [df_add_le] at h1 h2 ⊢
    rcases h1 with h1 | ⟨s1, r1, a1, b1, l1⟩ <;> rcases h2 with h2 | ⟨s2, r2, a2, b2, l2⟩
    · exact Or.inl (h.2.1 i j k hi hj hk s t h1 h2)
    · exact Or.inr ⟨s + s2, r2, h.2.1 i j u hi hj hu s s2 h1 a2, b2, by omega⟩
    · exact Or.inr ⟨s1, r1 + t, a1, h.2.1 v j k hv hj hk r1 t b1 h2, by omega⟩
    · have h3 := df_C_neg h hu hv hneg hj a2 b1
      exact Or.inr ⟨s1, r2, a1, b2, by omega⟩
  · rw [df_add_le]
    rcases List.mem_cons.mp he with rfl | he
    · exact Or.inr ⟨0, 0, by rw [h.1 u hu]; exact df_le_some.mpr (Int.le_refl _), by rw [h.1 v hv]; exact df_le_some.mpr (Int.le_refl _), by simp⟩
    · exact Or.inl (h.2.2.1 e he)
  · rw [df_add_le] at h1
    rcases h1 with h1 | ⟨s1, r1, a1, b1, l1⟩
    · exact h.2.2.2 y (df_X_cons hy) i j hi hj s t h1 h2
    · have h3 := h.2.2.2 y (df_X_cons hy) v j hv hj r1 t b1 h2
      have h4 := hy (u, v, c) List.mem_cons_self _ h3
      have h5 := h.2.2.2 y (df_X_cons hy) i u hi hu s1 _ a1 h4
      exact df_le_mono h5 (by show t + r1 + c + s1 ≤ t + s; omega)
theorem df_C_same {n : Nat} {E : List Ed} {M : Nat → Nat → Option Int} {u v : Nat} {c : Int} (h : df_C n E M) (hc : df_le (M u v) c) : df_C n ((u, v, c) :: E) M :=
  ⟨h.1, h.2.1, fun e he => by rcases List.mem_cons.mp he with rfl | he; exact hc; exact h.2.2.1 e he, fun y hy => h.2.2.2 y (df_X_cons hy)⟩
theorem df_X_of {E : List Ed} {x : Nat → Int} (h : df_H E x) : df_X E (fun i => some (x i)) := fun e he t ht => by
  rw [df_le_some] at ht ⊢
  have := h e he
  omega
theorem df_C_x {n : Nat} {E : List Ed} {M : Nat → Nat → Option Int} (h : df_C n E M) {x : Nat → Int} (hx : df_H E x) {i j : Nat} (hi : i < n) (hj : j < n) {s : Int} (hs : df_le (M i j) s) : x i - x j ≤ s := by
  have h1 := h.2.2.2 _ (df_X_of hx) i j hi hj s (x j) hs (df_le_some.mpr (Int.le_refl _))
  rw [df_le_some] at h1
  omega
theorem df_C_un {n : Nat} {E : List Ed} {M : Nat → Nat → Option Int} {u v : Nat} {b c : Int} (h : df_C n E M) (hu : u < n) (hv : v < n) (hb : M v u = some b) (hneg : b + c < 0) : ¬ df_S ((u, v, c) :: E) := fun ⟨x, hx⟩ => by
  have h1 : x v - x u ≤ b := df_C_x h (fun e he => hx e (List.mem_cons_of_mem _ he)) hv hu (by rw [hb]; exact df_le_some.mpr (Int.le_refl _))
  have h2 : x u - x v ≤ c := hx (u, v, c) List.mem_cons_self
  omega
theorem df_S_sub {E F : List Ed} (h : df_S F) (hs : ∀ e ∈ E, e ∈ F) : df_S E := h.elim fun x hx => ⟨x, fun e he => hx e (hs e he)⟩
/-- the least of a row, 0 at most -/
def df_mn (M : Nat → Nat → Option Int) (i : Nat) : Nat → Int
  | 0 => 0
  | k + 1 => match M i k with
    | some a => if a ≤ df_mn M i k then a else df_mn M i k
    | none => df_mn M i k
theorem df_mn_spec (M : Nat → Nat → Option Int) (i : Nat) : ∀ n, df_mn M i n ≤ 0 ∧ (∀ j a, j < n → M i j = some a → df_mn M i n ≤ a) ∧ (df_mn M i n = 0 ∨ ∃ j, j < n ∧ M i j = some (df_mn M i n)) := by
  intro n
  induction n with
  | zero => exact ⟨Int.le_refl _, fun j a h => absurd h (Nat.not_lt_zero j), Or.inl rfl⟩
  | succ k ih =>
    obtain ⟨h1, h2, h3⟩ := ih
    unfold df_mn
    cases hk : M i k with
    | none =>
      refine ⟨h1, fun j a hj ha => ?_, h3.imp id (fun ⟨j, hj, e⟩ => ⟨j, by omega, e⟩)⟩
      rcases Nat.lt_succ_iff_lt_or_eq.mp hj with h | rfl
      · exact h2 j a h ha
      · rw [hk] at ha; cases ha
    | some b =>
      show (if b ≤ df_mn M i k then b else df_mn M i k) ≤ 0 ∧ (∀ j a, j < k + 1 → M i j = some a → (if b ≤ df_mn M i k then b else df_mn M i k) ≤ a) ∧ ((if b ≤ df_mn M i k then b else df_mn M i k) = 0 ∨ ∃ j, j < k + 1 ∧ M i j = some (if b ≤ df_mn M i k then b else df_mn M i k))
      by_cases hb : b ≤ df_mn M i k
      · rw [if_pos hb]
        refine ⟨by omega, fun j a hj ha => ?_, Or.inr ⟨k, by omega, hk⟩⟩
        rcases Nat.lt_succ_iff_lt_or_eq.mp hj with h | rfl
        · have := h2 j a h ha; omega
        · rw [hk] at ha; cases ha; omega
      · rw [if_neg hb]
        refine ⟨h1, fun j a hj ha => ?_, h3.imp id (fun ⟨j, hj, e⟩ => ⟨j, by omega, e⟩)⟩
        rcases Nat.lt_succ_iff_lt_or_eq.mp hj with h | rfl
        · exact h2 j a h ha
        · rw [hk] at ha; cases ha; omega
/-- numbers that obey a closed matrix -/
theorem df_mn_le {n : Nat} {E : List Ed} {M : Nat → Nat → Option Int} (h : df_C n E M) {i k : Nat} (hi : i < n) (hk : k < n) {s : Int} (hs : df_le (M i k) s) : df_mn M i n ≤ df_mn M k n + s := by
  obtain ⟨_, h2, _⟩ := df_mn_spec M i n
  obtain ⟨_, _, h3⟩ := df_mn_spec M k n
  rcases h3 with h3 | ⟨j, hj, e⟩
  · obtain ⟨x, hx, hle⟩ := hs
    have := h2 k x hk hx
    omega
  · obtain ⟨x, hx, hle⟩ := h.2.1 i k j hi hk hj s _ hs (by rw [e]; exact df_le_some.mpr (Int.le_refl _))
    have := h2 j x hj hx
    omega
theorem df_C_S {n : Nat} {E : List Ed} {M : Nat → Nat → Option Int} (h : df_C n E M) (hp : df_P n E) : df_S E :=
  ⟨fun i => df_mn M i n, fun e he => by
    have := df_mn_le h (hp e he).1 (hp e he).2 (h.2.2.1 e he)
    show df_mn M e.1 n - df_mn M e.2.1 n ≤ e.2.2
    omega⟩
/-- the matrix of no bounds -/
def df_I : Nat → Nat → Option Int := fun i j => if i = j then some 0 else none
theorem df_C_nil (n : Nat) : df_C n [] df_I := by
  refine ⟨fun i _ => by simp [df_I], fun i j k _ _ _ s t h1 h2 => ?_, fun e he => (by cases he), fun y _ i j _ _ s t h1 h2 => ?_⟩
  · unfold df_I at h1 h2 ⊢
    by_cases h3 : i = j
    · rw [if_pos h3, df_le_some] at h1
      subst h3
      by_cases h4 : i = k
      · rw [if_pos h4, df_le_some] at h2 ⊢; omega
      · rw [if_neg h4] at h2; exact (df_le_none h2).elim
    · rw [if_neg h3] at h1; exact (df_le_none h1).elim
  · unfold df_I at h1
    by_cases h3 : i = j
    · rw [if_pos h3, df_le_some] at h1
      subst h3
      exact df_le_mono h2 (by omega)
    · rw [if_neg h3] at h1; exact (df_le_none h1).elim
theorem df_S_C {n : Nat} : ∀ (E : List Ed), df_P n E → df_S E → ∃ M, df_C n E M
  | [], _, _ => ⟨df_I, df_C_nil n⟩
  | (u, v, c) :: E, hp, hs => by
    obtain ⟨M, hM⟩ := df_S_C E (fun e he => hp e (List.mem_cons_of_mem _ he)) (df_S_sub hs (fun e he => List.mem_cons_of_mem _ he))
    obtain ⟨hu, hv⟩ := hp (u, v, c) List.mem_cons_self
    refine ⟨_, df_C_add hM hu hv (fun b hb => ?_)⟩
    exact Int.not_lt.mp fun hneg => df_C_un hM hu hv hb hneg hs
/-! PASSES: w comes down towards d, the greatest that obeys the bounds below the start -/
def df_fin (d w : Nat → Option Int) (i : Nat) : Prop := ∀ t, df_le (d i) t → df_le (w i) t
/-- d obeys E, is below W0, and is the greatest such -/
def df_D (n : Nat) (E : List Ed) (W0 d : Nat → Option Int) : Prop :=
  df_X E d ∧ (∀ i, i < n → ∀ t, df_le (W0 i) t → df_le (d i) t) ∧ ∀ y, df_X E y → (∀ i, i < n → ∀ t, df_le (W0 i) t → df_le (y i) t) → ∀ i, i < n → ∀ t, df_le (d i) t → df_le (y i) t
/-- w lies between d and W0 -/
def df_B (n : Nat) (W0 d w : Nat → Option Int) : Prop := (∀ i, i < n → ∀ t, df_le (w i) t → df_le (d i) t) ∧ ∀ i, i < n → ∀ t, df_le (W0 i) t → df_le (w i) t
/-- a pass from w to w' -/
def df_pass (n : Nat) (E : List Ed) (w w' : Nat → Option Int) : Prop := (∀ i, i < n → ∀ t, df_le (w i) t → df_le (w' i) t) ∧ ∀ e ∈ E, ∀ t, df_le (w e.2.1) t → df_le (w' e.1) (t + e.2.2)
theorem df_one {n : Nat} {E : List Ed} {W0 d w w' : Nat → Option Int} (hp : df_P n E) (hd : df_D n E W0 d) (hw : df_B n W0 d w) (hs : df_pass n E w w') (hno : ∃ i, i < n ∧ ¬ df_fin d w i) : ∃ i, i < n ∧ ¬ df_fin d w i ∧ df_fin d w' i := by
  apply Classical.byContradiction
  intro hcon
  have hcon : ∀ i, i < n → ¬ df_fin d w i → ¬ df_fin d w' i := fun i hi h1 h2 => hcon ⟨i, hi, h1, h2⟩
  obtain ⟨i0, hi0, hn0⟩ := hno
  have key : ∃ y : Nat → Option Int, ∀ i, (df_fin d w i → y i = d i) ∧ (¬ df_fin d w i → y i = (d i).map (· + 1)) := by
    refine ⟨fun i => @ite _ (df_fin d w i) (Classical.propDecidable _) (d i) ((d i).map (· + 1)), fun i => ⟨fun h => if_pos h, fun h => if_neg h⟩⟩
  obtain ⟨y, hy⟩ := key
  have up : ∀ i t, ¬ df_fin d w i → (df_le (y i) t ↔ df_le (d i) (t - 1)) := fun i t h => by
    rw [(hy i).2 h]
    cases d i with
    | none => exact ⟨fun h => (df_le_none h).elim, fun h => (df_le_none h).elim⟩
    | some a =>
      show df_le (some (a + 1)) t ↔ _
      rw [df_le_some, df_le_some]
      omega
  have hX : df_X E y := fun e he t ht => by
    obtain ⟨hi, hu⟩ := hp e he
    by_cases f1 : df_fin d w e.1 <;> by_cases f2 : df_fin d w e.2.1
    · rw [(hy _).1 f1]; rw [(hy _).1 f2] at ht
      exact hd.1 e he t ht
    · rw [(hy _).1 f1]; rw [up _ _ f2] at ht
      exact df_le_mono (hd.1 e he _ ht) (by omega)
    · rw [up _ _ f1]; rw [(hy _).1 f2] at ht
      apply Classical.byContradiction
      intro hc
      obtain ⟨a, ha, hle⟩ := hd.1 e he t ht
      have ha2 : ¬ a ≤ t + e.2.2 - 1 := fun h => hc ⟨a, ha, h⟩
      have hw' := hs.2 e he t (f2 t ht)
      refine hcon e.1 hi f1 (fun t' ht' => ?_)
      rw [ha, df_le_some] at ht'
      exact df_le_mono hw' (by omega)
    · rw [up _ _ f1]; rw [up _ _ f2] at ht
      exact df_le_mono (hd.1 e he _ ht) (by omega)
  have hW : ∀ i, i < n → ∀ t, df_le (W0 i) t → df_le (y i) t := fun i hi t ht => by
    by_cases f1 : df_fin d w i
    · rw [(hy _).1 f1]; exact hd.2.1 i hi t ht
    · rw [up _ _ f1]
      obtain ⟨b, hb, hbt⟩ := hw.2 i hi t ht
      obtain ⟨a, ha, hab⟩ := hw.1 i hi b ⟨b, hb, Int.le_refl _⟩
      have hne : a ≠ b := fun e => f1 (fun t' ht' => by
        rw [ha, df_le_some] at ht'
        rw [hb, df_le_some]
        omega)
      exact ⟨a, ha, by omega⟩
  have hne : ∃ a, d i0 = some a := by
    apply Classical.byContradiction
    intro hc
    refine hn0 (fun t ht => ?_)
    obtain ⟨x, hx, _⟩ := ht
    exact absurd ⟨x, hx⟩ hc
  obtain ⟨a, ha⟩ := hne
  have h9 := hd.2.2 y hX hW i0 hi0 a (by rw [ha]; exact df_le_some.mpr (Int.le_refl _))
  rw [up _ _ hn0, ha, df_le_some] at h9
  omega
/-- how many are not final yet -/
noncomputable def df_nf (d w : Nat → Option Int) : Nat → Nat
  | 0 => 0
  | k + 1 => df_nf d w k + (@ite Nat (df_fin d w k) (Classical.propDecidable _) 0 1)
theorem df_nf_le (d w : Nat → Option Int) : ∀ n, df_nf d w n ≤ n := by
  intro n
  induction n with
  | zero => exact Nat.le_refl _
  | succ k ih =>
    unfold df_nf
    by_cases h : df_fin d w k
    · rw [if_pos h]; omega
    · rw [if_neg h]; omega
theorem df_nf_0 {d w : Nat → Option Int} : ∀ {n}, df_nf d w n = 0 → ∀ i, i < n → df_fin d w i := by
  intro n
  induction n with
  | zero => exact fun _ i hi => absurd hi (Nat.not_lt_zero i)
  | succ k ih =>
    intro h i hi
    unfold df_nf at h
    by_cases hk : df_fin d w k
    · rw [if_pos hk] at h
      rcases Nat.lt_succ_iff_lt_or_eq.mp hi with h1 | rfl
      · exact ih h i h1
      · exact hk
    · rw [if_neg hk] at h; omega
theorem df_nf_mono {d w w' : Nat → Option Int} : ∀ {n}, (∀ i, i < n → df_fin d w i → df_fin d w' i) → df_nf d w' n ≤ df_nf d w n ∧ ((∃ i, i < n ∧ ¬ df_fin d w i ∧ df_fin d w' i) → df_nf d w' n < df_nf d w n) := by
  intro n
  induction n with
  | zero => exact fun _ => ⟨Nat.le_refl _, fun ⟨i, hi, _⟩ => absurd hi (Nat.not_lt_zero i)⟩
  | succ k ih =>
    intro h
    obtain ⟨h1, h2⟩ := ih (fun i hi => h i (by omega))
    have hk := h k (by omega)
    unfold df_nf
    by_cases f1 : df_fin d w k
    · have f2 := hk f1
      rw [if_pos f1, if_pos f2]
      refine ⟨by omega, fun ⟨i, hi, a, b⟩ => ?_⟩
      rcases Nat.lt_succ_iff_lt_or_eq.mp hi with h3 | rfl
      · have := h2 ⟨i, h3, a, b⟩; omega
      · exact absurd f1 a
    · by_cases f2 : df_fin d w' k
      · rw [if_neg f1, if_pos f2]
        exact ⟨by omega, fun _ => by omega⟩
      · rw [if_neg f1, if_neg f2]
        refine ⟨by omega, fun ⟨i, hi, a, b⟩ => ?_⟩
        rcases Nat.lt_succ_iff_lt_or_eq.mp hi with h3 | rfl
        · have := h2 ⟨i, h3, a, b⟩; omega
        · exact absurd b f2
/-- each pass makes one more final -/
theorem df_step {n : Nat} {E : List Ed} {W0 d w w' : Nat → Option Int} (hp : df_P n E) (hd : df_D n E W0 d) (hw : df_B n W0 d w) (hs : df_pass n E w w') {t : Nat} (ht : df_nf d w n ≤ n - t) : df_nf d w' n ≤ n - (t + 1) := by
  have hm : ∀ i, i < n → df_fin d w i → df_fin d w' i := fun i hi h t9 h9 => hs.1 i hi t9 (h t9 h9)
  obtain ⟨h1, h2⟩ := df_nf_mono hm
  by_cases h0 : df_nf d w n = 0
  · omega
  · have : ∃ i, i < n ∧ ¬ df_fin d w i := by
      apply Classical.byContradiction
      intro hc
      have hall : ∀ i, i < n → df_fin d w i := fun i hi => Classical.byContradiction fun h => hc ⟨i, hi, h⟩
      have key : ∀ m, m ≤ n → df_nf d w m = 0 := by
        intro m
        induction m with
        | zero => exact fun _ => rfl
        | succ k ih =>
          intro hk
          unfold df_nf
          rw [ih (by omega), if_pos (hall k (by omega))]
      exact h0 (key n (Nat.le_refl _))
    have := h2 (df_one hp hd hw hs this)
    omega
/-- the greatest below 0 everywhere -/
theorem df_D_0 {n : Nat} {E : List Ed} {M : Nat → Nat → Option Int} (h : df_C n E M) (hp : df_P n E) : df_D n E (fun _ => some 0) (fun i => some (df_mn M i n)) := by
  refine ⟨fun e he t ht => ?_, fun i hi t ht => ?_, fun y hy h0 i hi t ht => ?_⟩
  · rw [df_le_some] at ht ⊢
    have := df_mn_le h (hp e he).1 (hp e he).2 (h.2.2.1 e he)
    omega
  · rw [df_le_some] at ht ⊢
    have := (df_mn_spec M i n).1
    omega
  · rw [df_le_some] at ht
    rcases (df_mn_spec M i n).2.2 with h3 | ⟨j, hj, e⟩
    · exact df_le_mono (h0 i hi 0 (df_le_some.mpr (Int.le_refl _))) (by omega)
    · have h4 := h.2.2.2 y hy i j hi hj _ 0 (by rw [e]; exact df_le_some.mpr (Int.le_refl _)) (h0 j hj 0 (df_le_some.mpr (Int.le_refl _)))
      exact df_le_mono h4 (by omega)
/-- the greatest that is 0 at j -/
theorem df_D_j {n : Nat} {E : List Ed} {M : Nat → Nat → Option Int} (h : df_C n E M) (hp : df_P n E) {j : Nat} (hj : j < n) : df_D n E (fun i => if i = j then some 0 else none) (fun i => M i j) := by
  refine ⟨fun e he t ht => ?_, fun i hi t ht => ?_, fun y hy h0 i hi t ht => ?_⟩
  · have := h.2.1 e.1 e.2.1 j (hp e he).1 (hp e he).2 hj _ t (h.2.2.1 e he) ht
    exact df_le_mono this (by omega)
  · by_cases hij : i = j
    · subst hij
      simp only [if_true] at ht
      show df_le (M i i) t
      rw [h.1 i hi]; exact ht
    · simp only [if_neg hij] at ht
      exact (df_le_none ht).elim
  · have h1 := h0 j hj 0 (by simp only [if_true]; exact df_le_some.mpr (Int.le_refl _))
    have h2 := h.2.2.2 y hy i j hi hj t 0 ht h1
    exact df_le_mono h2 (by omega)
/-! simultaneous passes, for the size of the numbers -/
def df_jac (w : Nat → Option Int) (i : Nat) : List Ed → Option Int
  | [] => w i
  | e :: E => if e.1 = i then df_min (df_jac w i E) ((w e.2.1).map (· + e.2.2)) else df_jac w i E
theorem df_jac_le {w : Nat → Option Int} {i : Nat} {t : Int} : ∀ (E : List Ed), df_le (df_jac w i E) t ↔ df_le (w i) t ∨ ∃ e ∈ E, e.1 = i ∧ df_le (w e.2.1) (t - e.2.2) := by
  intro E
  induction E with
  | nil => exact ⟨fun h => Or.inl h, fun h => h.elim id (fun ⟨e, he, _⟩ => by cases he)⟩
  | cons e E ih =>
    have hm : ∀ o : Option Int, df_le (o.map (· + e.2.2)) t ↔ df_le o (t - e.2.2) := fun o => by
      cases o with
      | none => exact ⟨fun h => (df_le_none h).elim, fun h => (df_le_none h).elim⟩
      | some a =>
        show df_le (some (a + e.2.2)) t ↔ _
        rw [df_le_some, df_le_some]; omega
    unfold df_jac
    by_cases h : e.1 = i
    · rw [if_pos h, df_min_le, ih, hm]
      constructor
      · rintro ((h1 | ⟨e9, h1, h2⟩) | h1)
        · exact Or.inl h1
        · exact Or.inr ⟨e9, List.mem_cons_of_mem _ h1, h2⟩
        · exact Or.inr ⟨e, List.mem_cons_self, h, h1⟩
      · rintro (h1 | ⟨e9, h1, h2⟩)
        · exact Or.inl (Or.inl h1)
        · rcases List.mem_cons.mp h1 with rfl | h1
          · exact Or.inr h2.2
          · exact Or.inl (Or.inr ⟨e9, h1, h2⟩)
    · rw [if_neg h, ih]
      constructor
      · rintro (h1 | ⟨e9, h1, h2⟩)
        · exact Or.inl h1
        · exact Or.inr ⟨e9, List.mem_cons_of_mem _ h1, h2⟩
      · rintro (h1 | ⟨e9, h1, h2⟩)
        · exact Or.inl h1
        · rcases List.mem_cons.mp h1 with rfl | h1
          · exact absurd h2.1 h
          · exact Or.inr ⟨e9, h1, h2⟩
def df_jt (E : List Ed) (W0 : Nat → Option Int) : Nat → Nat → Option Int
  | 0 => W0
  | t + 1 => fun i => df_jac (df_jt E W0 t) i E
theorem df_jt_ok {n : Nat} {E : List Ed} {W0 d : Nat → Option Int} (hp : df_P n E) (hd : df_D n E W0 d) : ∀ t, df_B n W0 d (df_jt E W0 t) ∧ df_nf d (df_jt E W0 t) n ≤ n - t := by
  intro t
  induction t with
  | zero => exact ⟨⟨hd.2.1, fun _ _ _ h => h⟩, df_nf_le _ _ _⟩
  | succ t ih =>
    obtain ⟨h1, h2⟩ := ih
    have hs : df_pass n E (df_jt E W0 t) (df_jt E W0 (t + 1)) := ⟨fun i _ t9 h9 => (df_jac_le E).mpr (Or.inl h9), fun e he t9 h9 => (df_jac_le E).mpr (Or.inr ⟨e, he, rfl, df_le_mono h9 (by omega)⟩)⟩
    refine ⟨⟨fun i hi t9 h9 => ?_, fun i hi t9 h9 => hs.1 i hi t9 (h1.2 i hi t9 h9)⟩, df_step hp hd h1 hs h2⟩
    rcases (df_jac_le E).mp h9 with h8 | ⟨e, he, rfl, h8⟩
    · exact h1.1 i hi t9 h8
    · exact df_le_mono (hd.1 e he _ (h1.1 e.2.1 (hp e he).2 _ h8)) (by omega)
theorem df_jt_bd {E : List Ed} {W0 : Nat → Option Int} {K : Int} (hK : 0 ≤ K) (hE : ∀ e ∈ E, -K ≤ e.2.2 ∧ e.2.2 ≤ K) (h0 : ∀ i a, W0 i = some a → a = 0) : ∀ (t : Nat) (i : Nat) (a : Int), df_jt E W0 t i = some a → -(t * K) ≤ a ∧ a ≤ t * K := by
  intro t
  induction t with
  | zero => intro i a h; rw [h0 i a h]; simp
  | succ t ih =>
    intro i a h
    have h : df_jac (df_jt E W0 t) i E = some a := h
    have hexp : ((t + 1 : Nat) : Int) * K = t * K + K := by rw [Int.natCast_add, Int.add_mul]; simp
    rw [hexp]
    have h1 : df_le (df_jac (df_jt E W0 t) i E) a := by rw [h]; exact df_le_some.mpr (Int.le_refl _)
    rcases (df_jac_le E).mp h1 with ⟨x, hx, hxa⟩ | ⟨e, he, hei, x, hx, hxa⟩
    · have h2 : df_le (df_jac (df_jt E W0 t) i E) x := (df_jac_le E).mpr (Or.inl ⟨x, hx, Int.le_refl _⟩)
      rw [h, df_le_some] at h2
      have := ih i x hx
      omega
    · have h2 : df_le (df_jac (df_jt E W0 t) i E) (x + e.2.2) := (df_jac_le E).mpr (Or.inr ⟨e, he, hei, x, hx, by omega⟩)
      rw [h, df_le_some] at h2
      have := ih _ x hx
      have := hE e he
      omega
/-- a closed matrix's numbers are small -/
theorem df_C_bd {n : Nat} {E : List Ed} {M : Nat → Nat → Option Int} (h : df_C n E M) (hp : df_P n E) {K : Int} (hK : 0 ≤ K) (hE : ∀ e ∈ E, -K ≤ e.2.2 ∧ e.2.2 ≤ K) {i j : Nat} (hi : i < n) (hj : j < n) {a : Int} (ha : M i j = some a) : -(n * K) ≤ a ∧ a ≤ n * K := by
  obtain ⟨h1, h2⟩ := df_jt_ok hp (df_D_j h hp hj) n
  rw [Nat.sub_self] at h2
  have hf := df_nf_0 (Nat.le_zero.mp h2) i hi a (by show df_le (M i j) a; rw [ha]; exact df_le_some.mpr (Int.le_refl _))
  obtain ⟨x, hx, hxa⟩ := hf
  have h3 := h1.1 i hi x ⟨x, hx, Int.le_refl _⟩
  have h3 : df_le (M i j) x := h3
  rw [ha, df_le_some] at h3
  have h4 := df_jt_bd hK hE (W0 := fun i => if i = j then some 0 else none) (fun i a h => by by_cases hij : i = j <;> simp_all) n i x hx
  omega
