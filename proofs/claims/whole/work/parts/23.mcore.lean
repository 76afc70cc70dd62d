/-! THE REFERENCE: its rows of bounds, one pass over them -/
/-- the bounds laid: (to, from, cost) -/
def md_E (I : Mm) (E : List Ed) : Prop := I 0 25 = nI E.length ∧ E.length ≤ 800 ∧ ∀ (k : Nat) (e : Ed), E[k]? = some e → I 20 k = nI e.1 ∧ I 19 k = nI e.2.1 ∧ (I 21 k).toInt = e.2.2
/-- they are bounds on nv points, small -/
def md_ok (nv : Nat) (E : List Ed) : Prop := nv ≤ 201 ∧ ∀ e ∈ E, e.1 < nv ∧ e.2.1 < nv ∧ -1001 ≤ e.2.2 ∧ e.2.2 ≤ 1001
theorem md_ok.P {nv : Nat} {E : List Ed} (h : md_ok nv E) : df_P nv E := fun e he => ⟨(h.2 e he).1, (h.2 e he).2.1⟩
def md_W (I : Mm) (i : Nat) : Option Int := if I 22 i = 1000000000 then none else some (I 22 i).toInt
def md_bd (I : Mm) (nv : Nat) (L : Int) : Prop := ∀ i, i < nv → I 22 i = 1000000000 ∨ (-L ≤ (I 22 i).toInt ∧ (I 22 i).toInt ≤ L)
theorem md_bd.mono {I : Mm} {nv : Nat} {L L' : Int} (h : md_bd I nv L) (hl : L ≤ L') : md_bd I nv L' := fun i hi => (h i hi).imp id (fun ⟨a, b⟩ => ⟨by omega, by omega⟩)
/-- a bound is used -/
def md_rl (w : Nat → Option Int) (e : Ed) : Nat → Option Int := fun i => if i = e.1 then df_min (w i) ((w e.2.1).map (· + e.2.2)) else w i
theorem md_min_none {a : Option Int} : df_min a none = a := by cases a <;> rfl
theorem md_rl_none {w : Nat → Option Int} {e : Ed} (h : w e.2.1 = none) : md_rl w e = w := by
  funext i
  unfold md_rl
  by_cases hi : i = e.1
  · rw [if_pos hi, h]; exact md_min_none
  · rw [if_neg hi]
theorem md_rl_some {w : Nat → Option Int} {e : Ed} {a : Int} (h : w e.2.1 = some a) (h2 : df_le (w e.1) (a + e.2.2)) : md_rl w e = w := by
  funext i
  unfold md_rl
  by_cases hi : i = e.1
  · rw [if_pos hi, h]
    subst hi
    obtain ⟨x, hx, hle⟩ := h2
    rw [hx]
    show some (if x ≤ a + e.2.2 then x else a + e.2.2) = some x
    rw [if_pos hle]
  · rw [if_neg hi]
theorem md_rl_le {w : Nat → Option Int} {e : Ed} {i : Nat} {t : Int} : df_le (md_rl w e i) t ↔ df_le (w i) t ∨ (i = e.1 ∧ df_le (w e.2.1) (t - e.2.2)) := by
  unfold md_rl
  by_cases hi : i = e.1
  · rw [if_pos hi, df_min_le]
    refine or_congr Iff.rfl ?_
    cases w e.2.1 with
    | none => exact ⟨fun h => (df_le_none h).elim, fun h => (df_le_none h.2).elim⟩
    | some a =>
      show df_le (some (a + e.2.2)) t ↔ _
      rw [df_le_some, df_le_some]
      exact ⟨fun h => ⟨hi, by omega⟩, fun h => by omega⟩
  · rw [if_neg hi]
    exact ⟨fun h => Or.inl h, fun h => h.elim id (fun h => absurd h.1 hi)⟩
theorem md_fold_mono {i : Nat} {t : Int} : ∀ (E : List Ed) (w : Nat → Option Int), df_le (w i) t → df_le (E.foldl md_rl w i) t
  | [], _, h => h
  | e :: E, w, h => md_fold_mono E (md_rl w e) (md_rl_le.mpr (Or.inl h))
theorem md_fold_use {e : Ed} {t : Int} : ∀ (E : List Ed) (w : Nat → Option Int), e ∈ E → df_le (w e.2.1) t → df_le (E.foldl md_rl w e.1) (t + e.2.2)
  | [], _, h, _ => by cases h
  | e9 :: E, w, h, h2 => by
    rcases List.mem_cons.mp h with rfl | h
    · exact md_fold_mono E _ (md_rl_le.mpr (Or.inr ⟨rfl, df_le_mono h2 (by omega)⟩))
    · exact md_fold_use E (md_rl w e9) h (md_rl_le.mpr (Or.inl h2))
theorem md_fold_low {n : Nat} {d : Nat → Option Int} : ∀ (E : List Ed) (w : Nat → Option Int), df_P n E → df_X E d → (∀ i, i < n → ∀ t, df_le (w i) t → df_le (d i) t) → ∀ i, i < n → ∀ t, df_le (E.foldl md_rl w i) t → df_le (d i) t
  | [], _, _, _, h => h
  | e :: E, w, hp, hd, h => md_fold_low E (md_rl w e) (fun e9 h9 => hp e9 (List.mem_cons_of_mem _ h9)) (df_X_cons hd) (fun i hi t ht => by
    rcases md_rl_le.mp ht with h1 | ⟨rfl, h1⟩
    · exact h i hi t h1
    · exact df_le_mono (hd e List.mem_cons_self _ (h e.2.1 (hp e List.mem_cons_self).2 _ h1)) (by omega))
theorem md_E_keep {I J : Mm} {E : List Ed} (h : md_E I E) (h0 : J 0 = I 0) (h1 : J 19 = I 19) (h2 : J 20 = I 20) (h3 : J 21 = I 21) : md_E J E := by
  refine ⟨by rw [h0]; exact h.1, h.2.1, fun k e he => ?_⟩
  rw [h1, h2, h3]
  exact h.2.2 k e he
theorem md_W_up {I : Mm} {t : Nat} {v : Int32} (hv : v ≠ 1000000000) : md_W (ky_up I 22 t v) = fun i => if i = t then some v.toInt else md_W I i := by
  funext i
  unfold md_W
  rw [ky_up_eq]
  unfold upd
  by_cases hi : i = t
  · rw [if_pos hi, if_neg hv, if_pos hi]
  · rw [if_neg hi, if_neg hi]
set_option maxHeartbeats 2000000 in
theorem m_pass {ad : Nat → Nat} {nv : Nat} {E : List Ed} (hok : md_ok nv E) {post : Int32 → Mm → Prop} {ex : Nat → Int32 → Int32 → Int32 → Mm → Prop} {v1 v3 : Int32} : ∀ (r m : Nat), m + r = E.length → ∀ (I : Mm) (v2 : Int32) (L : Int), md_E I E → md_bd I nv L → 0 ≤ L → L + 1001 * r ≤ 900000000 →
    (∀ (J : Mm) (v2' : Int32), (∀ a, a ≠ 22 → J a = I a) → md_bd J nv (L + 1001 * r) → md_W J = (E.drop m).foldl md_rl (md_W I) → ((v2' = 1 ∧ (v2 = 1 ∨ ∃ i t, i < nv ∧ df_le (md_W J i) t ∧ ¬ df_le (md_W I i) t)) ∨ (v2' = v2 ∧ J = I ∧ ∀ e ∈ E.drop m, ∀ t, df_le (md_W I e.2.1) t → df_le (md_W I e.1) (t + e.2.2))) → ex 0 v1 v2' v3 J) →
    w_X7_settles_L18 (md_Y ad) post ex (r + 1) 0 v1 v2 v3 (nI m) I := by
  intro r
  induction r with
  | zero =>
    intro m hm I v2 L hE hb hL hB hk
    have hm' : m = E.length := by omega
    refine ⟨md_k0, fun _ => ?_, fun h => ?_⟩
    · refine hk I v2 (fun _ _ => rfl) (hb.mono (by omega)) ?_ (Or.inr ⟨rfl, rfl, ?_⟩)
      · rw [hm', List.drop_length]; rfl
      · rw [hm', List.drop_length]; intro e he; cases he
    · rw [hE.1, hm'] at h
      exact absurd (Int32.le_refl _) h
  | succ r ih =>
    intro m hm I v2 L hE hb hL hB hk
    have hlt : m < E.length := by omega
    obtain ⟨e, he⟩ : ∃ e, E[m]? = some e := ⟨E[m], List.getElem?_eq_getElem hlt⟩
    have hmem : e ∈ E := List.mem_of_getElem? he
    have hdrop : E.drop m = e :: E.drop (m + 1) := by
      rw [List.drop_eq_getElem_cons hlt]
      congr 1
      rw [List.getElem?_eq_getElem hlt] at he
      exact Option.some.inj he
    obtain ⟨hu, hv, hc1, hc2⟩ := hok.2 e hmem
    have hnv := hok.1
    obtain ⟨e20, e19, e21⟩ := hE.2.2 m e he
    have h8 := hE.2.1
    have cm : (nI m).toNatClampNeg = m := in_c (by omega)
    have cu : (nI e.1).toNatClampNeg = e.1 := in_c (by omega)
    have cv : (nI e.2.1).toNatClampNeg = e.2.1 := in_c (by omega)
    have hLr : (0 : Int) ≤ 1001 * (r : Int) := by omega
    have hB' : L + 1001 * (r : Int) + 1001 ≤ 900000000 := by
      have : ((r + 1 : Nat) : Int) = r + 1 := by omega
      rw [this] at hB; omega
    have hcast : L + 1001 * ((r + 1 : Nat) : Int) = L + 1001 + 1001 * r := by
      have : ((r + 1 : Nat) : Int) = r + 1 := by omega
      rw [this]; omega
    -- what follows when nothing is changed
    have same : (md_rl (md_W I) e = md_W I) → (∀ t, df_le (md_W I e.2.1) t → df_le (md_W I e.1) (t + e.2.2)) → ∀ x, x = nI m + 1 → w_X7_settles_L18 (md_Y ad) post ex (r + 1) 0 v1 v2 v3 x I := by
      intro hrl hsat x hx
      rw [hx, in_s]
      refine ih (m + 1) (by omega) I v2 L hE hb hL (by omega) (fun J v2' hJ hbJ hW hf => hk J v2' hJ (hbJ.mono (by omega)) ?_ ?_)
      · rw [hW, hdrop]
        show _ = (E.drop (m + 1)).foldl md_rl (md_rl (md_W I) e)
        rw [hrl]
      · refine hf.imp id (fun ⟨a, b, c⟩ => ⟨a, b, ?_⟩)
        rw [hdrop]
        intro e9 he9
        rcases List.mem_cons.mp he9 with rfl | he9
        · exact hsat
        · exact c e9 he9
    refine ⟨md_k0, fun h => ?_, fun _ => ?_⟩
    · rw [hE.1, in_le, in_n (by omega), in_n (by omega)] at h
      omega
    · refine ⟨md_k19, vp_in_nI (N := 800) (by omega) (by decide), md_k22, ?_⟩
      rw [md_r26, md_r27, md_r28, md_r29, cm, e19, md_l22, cv]
      refine ⟨vp_in_nI (by omega) (by decide), fun h => ?_, fun h => ?_⟩
      · -- from is far
        have hfar : md_W I e.2.1 = none := by
          unfold md_W
          rw [if_pos]
          rcases hb e.2.1 hv with h1 | ⟨h1, h2⟩
          · exact h1
          · rw [in_le, in_F] at h; omega
        exact same (md_rl_none hfar) (fun t ht => by rw [hfar] at ht; exact (df_le_none ht).elim)
      · refine ⟨md_k21, vp_in_nI (N := 800) (by omega) (by decide), md_k20, vp_in_nI (N := 800) (by omega) (by decide), ?_⟩
        rw [e20, cu]
        have hnear : I 22 e.2.1 ≠ 1000000000 := fun h1 => h (by rw [h1]; exact Int32.le_refl _)
        have hfw : md_W I e.2.1 = some (I 22 e.2.1).toInt := by unfold md_W; rw [if_neg hnear]
        obtain ⟨b1, b2⟩ := (hb e.2.1 hv).resolve_left hnear
        have hsum : (I 22 e.2.1 + I 21 m).toInt = (I 22 e.2.1).toInt + e.2.2 := by
          rw [in_add (by rw [e21]; omega) (by rw [e21]; omega), e21]
        refine ⟨vp_in_nI (by omega) (by decide), fun h2 => ?_, fun h2 => ?_⟩
        · rw [in_le, hsum] at h2
          have hne : I 22 e.1 ≠ 1000000000 := fun h3 => by rw [h3, in_F] at h2; omega
          have hto : df_le (md_W I e.1) ((I 22 e.2.1).toInt + e.2.2) := by
            unfold md_W; rw [if_neg hne]; exact df_le_some.mpr h2
          exact same (md_rl_some hfw hto) (fun t ht => by
            rw [hfw, df_le_some] at ht
            exact df_le_mono hto (by omega))
        · intro J hJ x hx
          rw [hx, in_s]
          rw [in_le, hsum] at h2
          generalize hval : I 22 e.2.1 + I 21 m = val at hJ hsum
          have hvF : val ≠ 1000000000 := fun h3 => by rw [h3, in_F] at hsum; omega
          have hWJ : md_W J = md_rl (md_W I) e := by
            rw [hJ, md_W_up hvF]
            funext i
            unfold md_rl
            by_cases hi : i = e.1
            · rw [if_pos hi, if_pos hi, hfw]
              subst hi
              unfold md_W
              by_cases h3 : I 22 e.1 = 1000000000
              · rw [if_pos h3, hsum]; rfl
              · rw [if_neg h3]
                show some val.toInt = some (if (I 22 e.1).toInt ≤ (I 22 e.2.1).toInt + e.2.2 then (I 22 e.1).toInt else (I 22 e.2.1).toInt + e.2.2)
                rw [if_neg h2, hsum]
            · rw [if_neg hi, if_neg hi]
          have hbJ : md_bd J nv (L + 1001) := fun i hi => by
            rw [hJ, ky_up_eq]
            unfold upd
            by_cases h3 : i = e.1
            · rw [if_pos h3, hsum]
              exact Or.inr ⟨by omega, by omega⟩
            · rw [if_neg h3]
              exact (hb i hi).imp id (fun ⟨a, b⟩ => ⟨by omega, by omega⟩)
          have hEJ : md_E J E := md_E_keep hE (by rw [hJ]; exact ky_up_ne (by decide)) (by rw [hJ]; exact ky_up_ne (by decide)) (by rw [hJ]; exact ky_up_ne (by decide)) (by rw [hJ]; exact ky_up_ne (by decide))
          refine ih (m + 1) (by omega) J 1 (L + 1001) hEJ hbJ (by omega) (by omega) (fun J2 v2' hJ2 hb2 hW2 hf2 => hk J2 v2' (fun a ha => by rw [hJ2 a ha, hJ]; exact ky_up_ne ha) (hb2.mono (by omega)) ?_ (Or.inl ⟨hf2.elim (fun h => h.1) (fun h => h.1), Or.inr ⟨e.1, val.toInt, hu, ?_, ?_⟩⟩))
          · rw [hW2, hdrop, hWJ]
            rfl
          · rw [hW2, hWJ]
            refine md_fold_mono _ _ (md_rl_le.mpr (Or.inr ⟨rfl, ?_⟩))
            rw [hfw, df_le_some, hsum]; omega
          · intro h9
            unfold md_W at h9
            by_cases h3 : I 22 e.1 = 1000000000
            · rw [if_pos h3] at h9; exact df_le_none h9
            · rw [if_neg h3, df_le_some, hsum] at h9; exact h2 h9
theorem md_ext {a b : Option Int} (h : ∀ t, df_le a t ↔ df_le b t) : a = b := by
  cases a with
  | none =>
    cases b with
    | none => rfl
    | some y => exact (df_le_none ((h y).mpr (df_le_some.mpr (Int.le_refl _)))).elim
  | some x =>
    cases b with
    | none => exact (df_le_none ((h x).mp (df_le_some.mpr (Int.le_refl _)))).elim
    | some y =>
      have h1 := df_le_some.mp ((h x).mp (df_le_some.mpr (Int.le_refl _)))
      have h2 := df_le_some.mp ((h y).mpr (df_le_some.mpr (Int.le_refl _)))
      rw [show x = y by omega]
/-- what settling comes to -/
def md_res (nv : Nat) (E : List Ed) (W0 : Nat → Option Int) (r : Int32) (J : Mm) : Prop :=
  (r = 1 ∧ df_X E (md_W J) ∧ (∀ i, i < nv → ∀ t, df_le (W0 i) t → df_le (md_W J i) t) ∧ ∀ d, df_D nv E W0 d → ∀ i, i < nv → md_W J i = d i) ∨ (r = 0 ∧ ∀ d, ¬ df_D nv E W0 d)
set_option maxHeartbeats 2000000 in
theorem m_settles_L {ad : Nat → Nat} {nv : Nat} {E : List Ed} (hok : md_ok nv E) {W0 : Nat → Option Int} {post : Int32 → Mm → Prop} {I0 : Mm} (hk : ∀ (J : Mm) (r : Int32), (∀ a, a ≠ 22 → J a = I0 a) → md_res nv E W0 r J → post r J) : ∀ (r t : Nat), t + r = nv + 1 → ∀ (I : Mm) (v2 : Int32), (∀ a, a ≠ 22 → I a = I0 a) → md_E I E → md_bd I nv (800800 * t) → (∀ i, i < nv → ∀ t, df_le (W0 i) t → df_le (md_W I i) t) →
    (∀ d, df_D nv E W0 d → df_B nv W0 d (md_W I) ∧ df_nf d (md_W I) nv ≤ nv - t) → ((v2 = 1 ∧ ((∃ d, df_D nv E W0 d) → t ≤ nv)) ∨ (v2 = 0 ∧ df_X E (md_W I))) →
    w_X7_settles_L4 (md_Y ad) post (fun v I => w_X7_settles_B125 (md_Y ad) post v I) (r + 1) 0 (nI nv) v2 (nI t) I := by
  intro r
  have hnv := hok.1
  have done : ∀ (I : Mm) (v2 : Int32), (∀ a, a ≠ 22 → I a = I0 a) → (∀ i, i < nv → ∀ t, df_le (W0 i) t → df_le (md_W I i) t) → (∀ d, df_D nv E W0 d → df_B nv W0 d (md_W I)) → (v2 = 0 ∧ df_X E (md_W I)) → w_X7_settles_B125 (md_Y ad) post v2 I := fun I v2 hI hW hd ⟨h0, hX⟩ => by
    refine ⟨fun h => absurd h0 h, fun _ => hk I 1 hI (Or.inl ⟨rfl, hX, hW, fun d hD i hi => md_ext fun t => ⟨(hd d hD).1 i hi t, hD.2.2 _ hX hW i hi t⟩⟩)⟩
  induction r with
  | zero =>
    intro t ht I v2 hI hE hb hW hd hv
    refine ⟨fun _ => ?_, fun h => ?_⟩
    · rcases hv with ⟨rfl, hv⟩ | hv
      · refine ⟨fun _ => hk I 0 hI (Or.inr ⟨rfl, fun d hD => ?_⟩), fun h => absurd h (by decide)⟩
        have := hv ⟨d, hD⟩
        omega
      · exact done I v2 hI hW (fun d hD => (hd d hD).1) hv
    · rw [in_lt, in_n (by omega), in_n (by omega)] at h
      omega
  | succ r ih =>
    intro t ht I v2 hI hE hb hW hd hv
    refine ⟨fun h => ?_, fun _ => ⟨fun h => ?_, fun h => ?_⟩⟩
    · rw [in_lt, in_n (by omega), in_n (by omega)] at h
      omega
    · rcases hv with ⟨rfl, hv⟩ | hv
      · exact absurd h (by decide)
      · exact done I v2 hI hW (fun d hD => (hd d hD).1) hv
    · have hv1 : v2 = 1 := hv.elim (fun h => h.1) (fun h9 => absurd h9.1 h)
      have h8 := hE.2.1
      have hmul : (1001 : Int) * (E.length : Int) ≤ 800800 := by omega
      have ht2 : (t : Int) ≤ 201 := by omega
      refine ⟨E.length + 1, m_pass hok E.length 0 (by omega) I 0 (800800 * t) hE hb (by omega) (by omega) (fun J v2' hJ hbJ hWJ hf => ?_)⟩
      intro x hx
      rw [hx, in_s]
      rw [List.drop_zero] at hWJ hf
      have hIJ : ∀ a, a ≠ 22 → J a = I0 a := fun a ha => (hJ a ha).trans (hI a ha)
      have hEJ : md_E J E := md_E_keep hE (hJ 0 (by decide)) (hJ 19 (by decide)) (hJ 20 (by decide)) (hJ 21 (by decide))
      have hps : df_pass nv E (md_W I) (md_W J) := ⟨fun i _ t9 h9 => by rw [hWJ]; exact md_fold_mono _ _ h9, fun e he t9 h9 => by rw [hWJ]; exact md_fold_use _ _ he h9⟩
      have hW' : ∀ i, i < nv → ∀ t, df_le (W0 i) t → df_le (md_W J i) t := fun i hi t9 h9 => hps.1 i hi t9 (hW i hi t9 h9)
      have hB' : ∀ d, df_D nv E W0 d → df_B nv W0 d (md_W J) := fun d hD => ⟨fun i hi t9 h9 => md_fold_low E (md_W I) hok.P hD.1 (hd d hD).1.1 i hi t9 (by rw [← hWJ]; exact h9), hW'⟩
      have hcast : (800800 : Int) * ((t + 1 : Nat) : Int) = 800800 * t + 800800 := by omega
      refine ih (t + 1) (by omega) J v2' hIJ hEJ (hbJ.mono (by omega)) hW' (fun d hD => ⟨hB' d hD, df_step hok.P hD (hd d hD).1 hps (hd d hD).2⟩) ?_
      rcases hf with ⟨h1, h2⟩ | ⟨h1, h2, h3⟩
      · refine Or.inl ⟨h1, fun ⟨d, hD⟩ => ?_⟩
        rcases h2 with h2 | ⟨i, t9, hi, h4, h5⟩
        · exact absurd h2 (by decide)
        · apply Classical.byContradiction
          intro hc
          have hnf := (hd d hD).2
          rw [show nv - t = 0 by omega] at hnf
          have hfin := df_nf_0 (Nat.le_zero.mp hnf) i hi
          exact h5 (hfin t9 ((hB' d hD).1 i hi t9 h4))
      · refine Or.inr ⟨h1, ?_⟩
        rw [h2]
        exact h3
theorem m_settles {ad : Nat → Nat} {nv : Nat} {E : List Ed} (hok : md_ok nv E) {post : Int32 → Mm → Prop} {I : Mm} (hE : md_E I E) (hb : md_bd I nv 0) (hk : ∀ (J : Mm) (r : Int32), (∀ a, a ≠ 22 → J a = I a) → md_res nv E (md_W I) r J → post r J) : w_X7_settles (md_Y ad) I 0 (nI nv) post :=
  ⟨nv + 1 + 1, m_settles_L hok hk (nv + 1) 0 (by omega) I 1 (fun _ _ => rfl) hE (by simpa using hb) (fun _ _ _ h => h) (fun d hD => ⟨⟨hD.2.1, fun _ _ _ h => h⟩, df_nf_le _ _ _⟩) (Or.inl ⟨rfl, fun _ => Nat.zero_le _⟩)⟩
