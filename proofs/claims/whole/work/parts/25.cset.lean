/-! THE CLASS: a set of bounds (BoundSet) -/
/-- cell k is a set of bounds, its row the next cell -/
def cl_B (Y : Ly) (k : Nat) : Prop := ky_is Y k 0 ∧ ky_rp Y k 0 = k + 1 ∧ ky_is Y (k + 1) 8 ∧ ky_ln Y (k + 1) = 36
def cl_M (f : Nat → Int32) : Nat → Nat → Option Int := fun i j => md_o (f (i * 6 + j))
theorem md_o_inj {a b : Int32} (h : md_o a = md_o b) : a = b := by
  unfold md_o at h
  by_cases h1 : a = 1000000000 <;> by_cases h2 : b = 1000000000
  · rw [h1, h2]
  · rw [if_pos h1, if_neg h2] at h; cases h
  · rw [if_neg h1, if_pos h2] at h; cases h
  · rw [if_neg h1, if_neg h2] at h
    exact in_eq.mpr (Option.some.inj h)
theorem md_o_some {a : Int32} {x : Int} (h : md_o a = some x) : a ≠ 1000000000 ∧ a.toInt = x := by
  unfold md_o at h
  by_cases h1 : a = 1000000000
  · rw [if_pos h1] at h; cases h
  · rw [if_neg h1] at h; exact ⟨h1, Option.some.inj h⟩
theorem md_o_none {a : Int32} (h : md_o a = none) : a = 1000000000 := by
  unfold md_o at h
  by_cases h1 : a = 1000000000
  · exact h1
  · rw [if_neg h1] at h; cases h
theorem md_o_free : md_o 1000000000 = none := by unfold md_o; rw [if_pos rfl]
theorem md_o_of {a : Int32} (h : a ≠ 1000000000) : md_o a = some a.toInt := by unfold md_o; rw [if_neg h]
/-- the row of v stays -/
theorem df_add_row {n : Nat} {E : List Ed} {M : Nat → Nat → Option Int} {u v : Nat} {c : Int} (h : df_C n E M) (hu : u < n) (hv : v < n) (hneg : ∀ b, M v u = some b → 0 ≤ b + c) {b : Nat} : df_add M u v c v b = M v b := by
  apply md_ext
  intro t
  rw [df_add_le]
  refine ⟨fun h9 => h9.elim id (fun ⟨s, r, h1, h2, h3⟩ => ?_), Or.inl⟩
  obtain ⟨x, hx, hxs⟩ := h1
  have := hneg x hx
  exact df_le_mono h2 (by omega)
theorem df_add_none {M : Nat → Nat → Option Int} {u v i j : Nat} {c : Int} (h : M i u = none) : df_add M u v c i j = M i j := by
  show df_min (M i j) (df_sum (M i u) c (M v j)) = M i j
  rw [h]
  exact md_min_none
theorem df_add_none2 {M : Nat → Nat → Option Int} {u v i j : Nat} {c : Int} (h : M v j = none) : df_add M u v c i j = M i j := by
  show df_min (M i j) (df_sum (M i u) c (M v j)) = M i j
  rw [h]
  cases M i u <;> exact md_min_none
section CLB
variable {Y : Ly} {k : Nat} {post : Mm → Prop} {I0 : Mm} {u v : Nat} {c : Int32} {E : List Ed}
/-- rows before i, and of row i the places before j, are done -/
def cl_P (M : Nat → Nat → Option Int) (u v : Nat) (c : Int) (i j : Nat) (g : Nat → Int32) : Prop := ∀ a b, a < 6 → b < 6 → md_o (g (a * 6 + b)) = if a < i ∨ (a = i ∧ b < j) then df_add M u v c a b else M a b
theorem cl_ix {i j : Nat} (hi : i < 6) (hj : j < 6) : vp_in (nI (i * 6) + nI j) 36 ∧ (nI (i * 6) + nI j).toNatClampNeg = i * 6 + j := by
  rw [nI_add]
  exact ⟨vp_in_nI (by omega) (by decide), in_c (by omega)⟩
theorem cl_ix2 {i j : Nat} (hi : i < 6) (hj : j < 6) : vp_in (nI i * (6 : Int32) + nI j) 36 ∧ (nI i * (6 : Int32) + nI j).toNatClampNeg = i * 6 + j := by
  have : nI i * (6 : Int32) = nI (i * 6) := pk_mul i 6
  rw [this]
  exact cl_ix hi hj
set_option maxHeartbeats 2000000 in
theorem p_add_L80 (hB : cl_B Y k) (hu : u < 6) (hv : v < 6) {f0 : Nat → Int32} (hC : df_C 6 E (cl_M f0)) (hneg : ∀ b, cl_M f0 v u = some b → 0 ≤ b + c.toInt) {B : Int} (hbd : ∀ i j, i < 6 → j < 6 → ∀ a, cl_M f0 i j = some a → -B ≤ a ∧ a ≤ B) (hc : -B ≤ c.toInt ∧ c.toInt ≤ B) (hBB : B ≤ 300000000) {ex : Nat → Int32 → Int32 → Int32 → Int32 → Mm → Prop} {i : Nat} (hi : i < 6)
    (hk : ∀ J : Mm, (∀ a, a ≠ k + 1 → J a = I0 a) → cl_P (cl_M f0) u v c.toInt (i + 1) 0 (J (k + 1)) → ex k (nI u) (nI v) c (nI (i * 6)) J) : ∀ (r j : Nat), j + r = 6 → ∀ I : Mm, (∀ a, a ≠ k + 1 → I a = I0 a) → cl_P (cl_M f0) u v c.toInt i j (I (k + 1)) → w_X0_add_L80 Y post ex (r + 1) k (nI u) (nI v) c (nI (i * 6)) (f0 (i * 6 + u)) (nI j) I := by
  intro r
  induction r with
  | zero =>
    intro j hj I hI hP
    refine ⟨fun _ => hk I hI (fun a b ha hb => ?_), fun h => ?_⟩
    · rw [hP a b ha hb]
      by_cases h1 : a < i ∨ a = i ∧ b < j
      · rw [if_pos h1, if_pos (by omega)]
      · rw [if_neg h1, if_neg (by omega)]
    · rw [in_le, in_n (by omega)] at h
      have : (6 : Int32).toInt = 6 := by decide
      omega
  | succ r ih =>
    intro j hj I hI hP
    refine ⟨fun h => ?_, fun _ => ⟨fun h => ?_, fun h => ?_⟩⟩
    · rw [in_le, in_n (by omega)] at h
      have : (6 : Int32).toInt = 6 := by decide
      omega
    · refine hk I hI (fun a b ha hb => ?_)
      have hnone : cl_M f0 i u = none := by unfold cl_M; rw [h]; exact md_o_free
      rw [hP a b ha hb]
      by_cases h1 : a < i ∨ a = i ∧ b < j
      · rw [if_pos h1, if_pos (by omega)]
      · rw [if_neg h1]
        by_cases h2 : a = i
        · rw [if_pos (by omega), h2, df_add_none hnone]
        · rw [if_neg (by omega)]
    · refine ⟨hB.1, ?_⟩
      rw [hB.2.1, hB.2.2.2]
      have hjj : j < 6 := by omega
      obtain ⟨x1, x2⟩ := cl_ix2 hv hjj
      obtain ⟨y1, y2⟩ := cl_ix hi hjj
      refine ⟨hB.2.2.1, x1, fun z hz => ?_⟩
      rw [x2] at hz
      have hzv : md_o z = cl_M f0 v j := by
        rw [hz, hP v j hv hjj]
        by_cases h1 : v < i ∨ v = i ∧ j < j
        · rw [if_pos h1, df_add_row hC hu hv hneg]
        · rw [if_neg h1]
      have hown : md_o (I (k + 1) (i * 6 + j)) = cl_M f0 i j := by
        rw [hP i j hi hjj, if_neg (by omega)]
      have step : ∀ J : Mm, (∀ a, a ≠ k + 1 → J a = I0 a) → (∀ a b, a < 6 → b < 6 → (a ≠ i ∨ b ≠ j) → J (k + 1) (a * 6 + b) = I (k + 1) (a * 6 + b)) → md_o (J (k + 1) (i * 6 + j)) = df_add (cl_M f0) u v c.toInt i j → ∀ x, x = nI j + 1 → w_X0_add_L80 Y post ex (r + 1) k (nI u) (nI v) c (nI (i * 6)) (f0 (i * 6 + u)) x J := by
        intro J hJ hJ1 hJ2 x hx
        rw [hx, in_s]
        refine ih (j + 1) (by omega) J hJ (fun a b ha hb => ?_)
        by_cases h1 : a = i ∧ b = j
        · obtain ⟨rfl, rfl⟩ := h1
          rw [hJ2, if_pos (by omega)]
        · rw [hJ1 a b ha hb (by omega), hP a b ha hb]
          by_cases h2 : a < i ∨ a = i ∧ b < j
          · rw [if_pos h2, if_pos (by omega)]
          · rw [if_neg h2, if_neg (by omega)]
      have hbef : cl_M f0 i u = some (f0 (i * 6 + u)).toInt := md_o_of h
      refine ⟨fun h2 => ?_, fun h2 => ⟨y1, ?_⟩⟩
      · have hn : cl_M f0 v j = none := by rw [← hzv, h2]; exact md_o_free
        exact step I hI (fun _ _ _ _ _ => rfl) (by rw [hown, df_add_none2 hn])
      · have haft : cl_M f0 v j = some z.toInt := by rw [← hzv]; exact md_o_of h2
        obtain ⟨b1, b2⟩ := hbd i u hi hu _ hbef
        obtain ⟨b3, b4⟩ := hbd v j hv hjj _ haft
        have hs1 : (f0 (i * 6 + u) + c).toInt = (f0 (i * 6 + u)).toInt + c.toInt := in_add (by omega) (by omega)
        have hs2 : (f0 (i * 6 + u) + c + z).toInt = (f0 (i * 6 + u)).toInt + c.toInt + z.toInt := by rw [in_add (by rw [hs1]; omega) (by rw [hs1]; omega), hs1]
        have hadd : df_add (cl_M f0) u v c.toInt i j = df_min (cl_M f0 i j) (some ((f0 (i * 6 + u)).toInt + c.toInt + z.toInt)) := by
          show df_min _ (df_sum (cl_M f0 i u) c.toInt (cl_M f0 v j)) = _
          rw [hbef, haft]
          rfl
        rw [y2]
        refine ⟨fun h3 => step I hI (fun _ _ _ _ _ => rfl) ?_, fun h3 J hJ => ?_⟩
        · rw [in_le, hs2] at h3
          have hne : I (k + 1) (i * 6 + j) ≠ 1000000000 := fun h4 => by rw [h4, in_F] at h3; omega
          rw [hadd, ← hown, md_o_of hne]
          show _ = some (if _ then _ else _)
          rw [if_pos h3]
        · rw [in_le, hs2] at h3
          refine step J (fun a ha => by rw [hJ, ky_up_ne ha]; exact hI a ha) (fun a b ha hb hne => ?_) ?_
          · rw [hJ, ky_up_eq]
            unfold upd
            rw [if_neg (by omega)]
          · rw [hJ, ky_up_eq]
            unfold upd
            have hvF : f0 (i * 6 + u) + c + z ≠ 1000000000 := fun h4 => by rw [h4, in_F] at hs2; omega
            rw [if_pos rfl, md_o_of hvF, hs2, hadd, ← hown]
            by_cases h4 : I (k + 1) (i * 6 + j) = 1000000000
            · rw [h4, md_o_free]; rfl
            · rw [md_o_of h4]
              show _ = some (if _ then _ else _)
              rw [if_neg h3]
end CLB
