/-! THE REFERENCE: holdsTogether, least -/
theorem df_D_congr {n : Nat} {E : List Ed} {W0 W1 d : Nat → Option Int} (h : ∀ i, i < n → W1 i = W0 i) (hd : df_D n E W0 d) : df_D n E W1 d :=
  ⟨hd.1, fun i hi t ht => hd.2.1 i hi t (by rw [← h i hi]; exact ht), fun y hy h0 => hd.2.2 y hy (fun i hi t ht => h0 i hi t (by rw [h i hi]; exact ht))⟩
theorem df_X_S {n : Nat} {E : List Ed} {y : Nat → Option Int} (hp : df_P n E) (hX : df_X E y) (h0 : ∀ i, i < n → df_le (y i) 0) : df_S E := by
  refine ⟨fun i => (y i).getD 0, fun e he => ?_⟩
  obtain ⟨hi, hu⟩ := hp e he
  obtain ⟨a, ha, _⟩ := h0 e.2.1 hu
  obtain ⟨b, hb, hle⟩ := hX e he a (by rw [ha]; exact df_le_some.mpr (Int.le_refl _))
  show (y e.1).getD 0 - (y e.2.1).getD 0 ≤ e.2.2
  rw [ha, hb]
  show b - a ≤ e.2.2
  omega
theorem m_holds_L {ad : Nat → Nat} {nv : Nat} (hnv : nv ≤ 201) {post : Int32 → Mm → Prop} {ex : Nat → Int32 → Mm → Prop} {I0 : Mm} (hk : ∀ J : Mm, (∀ a, a ≠ 22 → J a = I0 a) → (∀ i, i < nv → J 22 i = 0) → ex 0 (nI nv) J) : ∀ (r t : Nat), t + r = nv → ∀ I : Mm, (∀ a, a ≠ 22 → I a = I0 a) → (∀ i, i < t → I 22 i = 0) → w_X7_holdsTogether_L2 (md_Y ad) post ex (r + 1) 0 (nI nv) (nI t) I := by
  intro r
  induction r with
  | zero =>
    intro t ht I hI h0
    refine ⟨fun _ => hk I hI (by rw [← show t = nv by omega]; exact h0), fun h => ?_⟩
    rw [in_le, in_n (by omega), in_n (by omega)] at h
    omega
  | succ r ih =>
    intro t ht I hI h0
    refine ⟨fun h => ?_, fun _ => ⟨md_k0, md_k22, vp_in_nI (N := 201) (by omega) (by decide), ?_⟩⟩
    · rw [in_le, in_n (by omega), in_n (by omega)] at h
      omega
    · intro J hJ x hx
      rw [hx, in_s]
      rw [md_r29, in_c (by omega)] at hJ
      refine ih (t + 1) (by omega) J (fun a ha => by rw [hJ, ky_up_ne ha]; exact hI a ha) (fun i hi => ?_)
      rw [hJ, ky_up_eq]
      unfold upd
      by_cases h : i = t
      · rw [if_pos h]
      · rw [if_neg h]; exact h0 i (by omega)
theorem m_holds {ad : Nat → Nat} {nv : Nat} {E : List Ed} (hok : md_ok nv E) {post : Int32 → Mm → Prop} {I : Mm} (hE : md_E I E) (hk : ∀ (J : Mm) (r : Int32), (∀ a, a ≠ 22 → J a = I a) → ((r = 1 ∧ df_S E) ∨ (r = 0 ∧ ¬ df_S E)) → post r J) : w_X7_holdsTogether (md_Y ad) I 0 (nI nv) post := by
  refine ⟨nv + 1, m_holds_L hok.1 (fun J hJ h0 => ⟨md_k0, ?_⟩) nv 0 (by omega) I (fun _ _ => rfl) (fun i hi => absurd hi (Nat.not_lt_zero i))⟩
  have hW : ∀ i, i < nv → md_W J i = some 0 := fun i hi => by
    unfold md_W
    rw [h0 i hi, if_neg (by decide), in_0]
  have hEJ : md_E J E := md_E_keep hE (hJ 0 (by decide)) (hJ 19 (by decide)) (hJ 20 (by decide)) (hJ 21 (by decide))
  refine m_settles hok hEJ (fun i hi => Or.inr ?_) (fun K r hK hr => ?_)
  · rw [h0 i hi, in_0]; exact ⟨by decide, by decide⟩
  · have hKI : ∀ a, a ≠ 22 → K a = I a := fun a ha => (hK a ha).trans (hJ a ha)
    rcases hr with ⟨rfl, hX, hW0, hd⟩ | ⟨rfl, hd⟩
    · exact ⟨Or.inr rfl, hk K 1 hKI (Or.inl ⟨rfl, df_X_S hok.P hX (fun i hi => hW0 i hi 0 (by rw [hW i hi]; exact df_le_some.mpr (Int.le_refl _)))⟩)⟩
    · refine ⟨Or.inl rfl, hk K 0 hKI (Or.inr ⟨rfl, fun hs => ?_⟩)⟩
      obtain ⟨M, hM⟩ := df_S_C E hok.P hs
      exact hd _ (df_D_congr hW (df_D_0 hM hok.P))
theorem m_least_L {ad : Nat → Nat} {nv : Nat} (hnv : nv ≤ 201) {post : Int32 → Mm → Prop} {ex : Nat → Int32 → Int32 → Int32 → Mm → Prop} {v2 v3 : Int32} {I0 : Mm} (hk : ∀ J : Mm, (∀ a, a ≠ 22 → J a = I0 a) → (∀ i, i < nv → J 22 i = 1000000000) → ex 0 (nI nv) v2 v3 J) : ∀ (r t : Nat), t + r = nv → ∀ I : Mm, (∀ a, a ≠ 22 → I a = I0 a) → (∀ i, i < t → I 22 i = 1000000000) → w_X7_least_L3 (md_Y ad) post ex (r + 1) 0 (nI nv) v2 v3 (nI t) I := by
  intro r
  induction r with
  | zero =>
    intro t ht I hI h0
    refine ⟨fun _ => hk I hI (by rw [← show t = nv by omega]; exact h0), fun h => ?_⟩
    rw [in_le, in_n (by omega), in_n (by omega)] at h
    omega
  | succ r ih =>
    intro t ht I hI h0
    refine ⟨fun h => ?_, fun _ => ⟨md_k0, md_k22, vp_in_nI (N := 201) (by omega) (by decide), ?_⟩⟩
    · rw [in_le, in_n (by omega), in_n (by omega)] at h
      omega
    · intro J hJ x hx
      rw [hx, in_s]
      rw [md_r29, in_c (by omega)] at hJ
      refine ih (t + 1) (by omega) J (fun a ha => by rw [hJ, ky_up_ne ha]; exact hI a ha) (fun i hi => ?_)
      rw [hJ, ky_up_eq]
      unfold upd
      by_cases h : i = t
      · rw [if_pos h]
      · rw [if_neg h]; exact h0 i (by omega)
/-- an int that is FAR, or a number -/
def md_o (r : Int32) : Option Int := if r = 1000000000 then none else some r.toInt
theorem m_least {ad : Nat → Nat} {nv : Nat} {E : List Ed} (hok : md_ok nv E) {M : Nat → Nat → Option Int} (hM : df_C nv E M) {post : Int32 → Mm → Prop} {I : Mm} (hE : md_E I E) {p q : Nat} (hp : p < nv) (hq : q < nv) (hk : ∀ (J : Mm) (r : Int32), (∀ a, a ≠ 22 → J a = I a) → md_o r = M p q → post r J) : w_X7_least (md_Y ad) I 0 (nI nv) (nI p) (nI q) post := by
  have hnv := hok.1
  refine ⟨nv + 1, m_least_L hok.1 (fun J hJ h0 => ⟨md_k0, md_k22, vp_in_nI (N := 201) (by omega) (by decide), fun K hK => ?_⟩) nv 0 (by omega) I (fun _ _ => rfl) (fun i hi => absurd hi (Nat.not_lt_zero i))⟩
  rw [md_r29, in_c (by omega)] at hK
  have hK22 : ∀ i, i < nv → K 22 i = if i = q then 0 else 1000000000 := fun i hi => by
    rw [hK, ky_up_eq]
    unfold upd
    by_cases h : i = q
    · rw [if_pos h, if_pos h]
    · rw [if_neg h, if_neg h]; exact h0 i hi
  have hKI : ∀ a, a ≠ 22 → K a = I a := fun a ha => by rw [hK, ky_up_ne ha]; exact hJ a ha
  have hW : ∀ i, i < nv → md_W K i = if i = q then some 0 else none := fun i hi => by
    unfold md_W
    rw [hK22 i hi]
    by_cases h : i = q
    · rw [if_pos h, if_pos h, if_neg (by decide), in_0]
    · rw [if_neg h, if_neg h, if_pos rfl]
  have hEK : md_E K E := md_E_keep hE (hKI 0 (by decide)) (hKI 19 (by decide)) (hKI 20 (by decide)) (hKI 21 (by decide))
  have hD := df_D_congr hW (df_D_j hM hok.P hq)
  refine m_settles hok hEK (fun i hi => ?_) (fun N r hN hr => ?_)
  · rw [hK22 i hi]
    by_cases h : i = q
    · rw [if_pos h, in_0]; exact Or.inr ⟨by decide, by decide⟩
    · rw [if_neg h]; exact Or.inl rfl
  · rcases hr with ⟨rfl, hX, hW0, hd⟩ | ⟨rfl, hd⟩
    · refine ⟨vp_in_nI (N := 201) (by omega) (by decide), ?_⟩
      rw [md_r29, in_c (by omega)]
      exact hk N _ (fun a ha => (hN a ha).trans (hKI a ha)) (hd _ hD p hp)
    · exact absurd hD (hd _)
