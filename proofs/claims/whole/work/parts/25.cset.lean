/-! THE CLASS: a set of bounds (BoundSet) -/
/-- cell k is a set of bounds, its row the next cell -/
def cl_B (Y : Ly) (k : Nat) : Prop := ky_is Y k 0 ∧ ky_rp Y k 0 = k + 1 ∧ ky_is Y (k + 1) 8 ∧ ky_ln Y (k + 1) = 36
def cl_M (f : Nat → Int32) : Nat → Nat → Option Int := fun i j => md_o (f (i * 6 + j))
theorem md_o_inj {a b : Int32} (h : md_o a = md_o b) : a = b := by
  unfold md_o at h
  by_cases h1 : a = 1000000000 <;> by_cases h2 : b = 1000000000
  · rw [h1, h2]
  · rw [if_pos h1, if_neg h2] at h; cases h
  · rw [if_neg h1, if_pos h2] at h; cases h
  · rw [if_neg h1, if_neg h2] at h
    exact in_eq.mpr (Option.some.inj h)
theorem md_o_some {a : Int32} {x : Int} (h : md_o a = some x) : a ≠ 1000000000 ∧ a.toInt = x := by
  unfold md_o at h
  by_cases h1 : a = 1000000000
  · rw [if_pos h1] at h; cases h
  · rw [if_neg h1] at h; exact ⟨h1, Option.some.inj h⟩
theorem md_o_none {a : Int32} (h : md_o a = none) : a = 1000000000 := by
  unfold md_o at h
  by_cases h1 : a = 1000000000
  · exact h1
  · rw [if_neg h1] at h; cases h
theorem md_o_free : md_o 1000000000 = none := by unfold md_o; rw [if_pos rfl]
theorem md_o_of {a : Int32} (h : a ≠ 1000000000) : md_o a = some a.toInt := by unfold md_o; rw [if_neg h]
/-- the row of v stays -/
theorem df_add_row {n : Nat} {E : List Ed} {M : Nat → Nat → Option Int} {u v : Nat} {c : Int} (h : df_C n E M) (hu : u < n) (hv : v < n) (hneg : ∀ b, M v u = some b → 0 ≤ b + c) {b : Nat} : df_add M u v c v b = M v b := by
  apply md_ext
  intro t
  rw [df_add_le]
  refine ⟨fun h9 => h9.elim id (fun ⟨s, r, h1, h2, h3⟩ => ?_), Or.inl⟩
  obtain ⟨x, hx, hxs⟩ := h1
  have := hneg x hx
  exact df_le_mono h2 (by omega)
theorem df_add_none {M : Nat → Nat → Option Int} {u v i j : Nat} {c : Int} (h : M i u = none) : df_add M u v c i j = M i j := by
  show df_min (M i j) (df_sum (M i u) c (M v j)) = M i j
  rw [h]
  exact md_min_none
theorem df_add_none2 {M : Nat → Nat → Option Int} {u v i j : Nat} {c : Int} (h : M v j = none) : df_add M u v c i j = M i j := by
  show df_min (M i j) (df_sum (M i u) c (M v j)) = M i j
  rw [h]
  cases M i u <;> exact md_min_none
section CLB
variable {Y : Ly} {k : Nat} {post : Mm → Prop} {I0 : Mm} {u v : Nat} {c : Int32} {E : List Ed}
/-- rows before i, and of row i the places before j, are done -/
def cl_P (M : Nat → Nat → Option Int) (u v : Nat) (c : Int) (i j : Nat) (g : Nat → Int32) : Prop := ∀ a b, a < 6 → b < 6 → md_o (g (a * 6 + b)) = if a < i ∨ (a = i ∧ b < j) then df_add M u v c a b else M a b
theorem cl_ix {i j : Nat} (hi : i < 6) (hj : j < 6) : vp_in (nI (i * 6) + nI j) 36 ∧ (nI (i * 6) + nI j).toNatClampNeg = i * 6 + j := by
  rw [nI_add]
  exact ⟨vp_in_nI (by omega) (by decide), in_c (by omega)⟩
theorem cl_ix2 {i j : Nat} (hi : i < 6) (hj : j < 6) : vp_in (nI i * (6 : Int32) + nI j) 36 ∧ (nI i * (6 : Int32) + nI j).toNatClampNeg = i * 6 + j := by
  have : nI i * (6 : Int32) = nI (i * 6) := pk_mul i 6
  rw [this]
  exact cl_ix hi hj
set_option maxHeartbeats 2000000 in
theorem p_add_L80 (hB : cl_B Y k) (hu : u < 6) (hv : v < 6) {f0 : Nat → Int32} (hC : df_C 6 E (cl_M f0)) (hneg : ∀ b, cl_M f0 v u = some b → 0 ≤ b + c.toInt) {B : Int} (hbd : ∀ i j, i < 6 → j < 6 → ∀ a, cl_M f0 i j = some a → -B ≤ a ∧ a ≤ B) (hc : -B ≤ c.toInt ∧ c.toInt ≤ B) (hBB : B ≤ 300000000) {ex : Nat → Int32 → Int32 → Int32 → Int32 → Mm → Prop} {i : Nat} (hi : i < 6)
    (hk : ∀ J : Mm, (∀ a, a ≠ k + 1 → J a = I0 a) → cl_P (cl_M f0) u v c.toInt (i + 1) 0 (J (k + 1)) → ex k (nI u) (nI v) c (nI (i * 6)) J) : ∀ (r j : Nat), j + r = 6 → ∀ I : Mm, (∀ a, a ≠ k + 1 → I a = I0 a) → cl_P (cl_M f0) u v c.toInt i j (I (k + 1)) → w_X0_add_L80 Y post ex (r + 1) k (nI u) (nI v) c (nI (i * 6)) (f0 (i * 6 + u)) (nI j) I := by
  intro r
  induction r with
  | zero =>
    intro j hj I hI hP
    refine ⟨fun _ => hk I hI (fun a b ha hb => ?_), fun h => ?_⟩
    · rw [hP a b ha hb]
      by_cases h1 : a < i ∨ a = i ∧ b < j
      · rw [if_pos h1, if_pos (by omega)]
      · rw [if_neg h1, if_neg (by omega)]
    · rw [in_le, in_n (by omega)] at h
      have : (6 : Int32).toInt = 6 := by decide
      omega
  | succ r ih =>
    intro j hj I hI hP
    refine ⟨fun h => ?_, fun _ => ⟨fun h => ?_, fun h => ?_⟩⟩
    · rw [in_le, in_n (by omega)] at h
      have : (6 : Int32).toInt = 6 := by decide
      omega
    · refine hk I hI (fun a b ha hb => ?_)
      have hnone : cl_M f0 i u = none := by unfold cl_M; rw [h]; exact md_o_free
      rw [hP a b ha hb]
      by_cases h1 : a < i ∨ a = i ∧ b < j
      · rw [if_pos h1, if_pos (by omega)]
      · rw [if_neg h1]
        by_cases h2 : a = i
        · rw [if_pos (by omega), h2, df_add_none hnone]
        · rw [if_neg (by omega)]
    · refine ⟨hB.1, ?_⟩
      rw [hB.2.1, hB.2.2.2]
      have hjj : j < 6 := by omega
      obtain ⟨x1, x2⟩ := cl_ix2 hv hjj
      obtain ⟨y1, y2⟩ := cl_ix hi hjj
      refine ⟨hB.2.2.1, x1, fun z hz => ?_⟩
      rw [x2] at hz
      have hzv : md_o z = cl_M f0 v j := by
        rw [hz, hP v j hv hjj]
        by_cases h1 : v < i ∨ v = i ∧ j < j
        · rw [if_pos h1, df_add_row hC hu hv hneg]
        · rw [if_neg h1]
      have hown : md_o (I (k + 1) (i * 6 + j)) = cl_M f0 i j := by
        rw [hP i j hi hjj, if_neg (by omega)]
      have step : ∀ J : Mm, (∀ a, a ≠ k + 1 → J a = I0 a) → (∀ a b, a < 6 → b < 6 → (a ≠ i ∨ b ≠ j) → J (k + 1) (a * 6 + b) = I (k + 1) (a * 6 + b)) → md_o (J (k + 1) (i * 6 + j)) = df_add (cl_M f0) u v c.toInt i j → ∀ x, x = nI j + 1 → w_X0_add_L80 Y post ex (r + 1) k (nI u) (nI v) c (nI (i * 6)) (f0 (i * 6 + u)) x J := by
        intro J hJ hJ1 hJ2 x hx
        rw [hx, in_s]
        refine ih (j + 1) (by omega) J hJ (fun a b ha hb => ?_)
        by_cases h1 : a = i ∧ b = j
        · obtain ⟨rfl, rfl⟩ := h1
          rw [hJ2, if_pos (by omega)]
        · rw [hJ1 a b ha hb (by omega), hP a b ha hb]
          by_cases h2 : a < i ∨ a = i ∧ b < j
          · rw [if_pos h2, if_pos (by omega)]
          · rw [if_neg h2, if_neg (by omega)]
      have hbef : cl_M f0 i u = some (f0 (i * 6 + u)).toInt := md_o_of h
      refine ⟨fun h2 => ?_, fun h2 => ⟨y1, ?_⟩⟩
      · have hn : cl_M f0 v j = none := by rw [← hzv, h2]; exact md_o_free
        exact step I hI (fun _ _ _ _ _ => rfl) (by rw [hown, df_add_none2 hn])
      · have haft : cl_M f0 v j = some z.toInt := by rw [← hzv]; exact md_o_of h2
        obtain ⟨b1, b2⟩ := hbd i u hi hu _ hbef
        obtain ⟨b3, b4⟩ := hbd v j hv hjj _ haft
        have hs1 : (f0 (i * 6 + u) + c).toInt = (f0 (i * 6 + u)).toInt + c.toInt := in_add (by omega) (by omega)
        have hs2 : (f0 (i * 6 + u) + c + z).toInt = (f0 (i * 6 + u)).toInt + c.toInt + z.toInt := by rw [in_add (by rw [hs1]; omega) (by rw [hs1]; omega), hs1]
        have hadd : df_add (cl_M f0) u v c.toInt i j = df_min (cl_M f0 i j) (some ((f0 (i * 6 + u)).toInt + c.toInt + z.toInt)) := by
          show df_min _ (df_sum (cl_M f0 i u) c.toInt (cl_M f0 v j)) = _
          rw [hbef, haft]
          rfl
        rw [y2]
        refine ⟨fun h3 => step I hI (fun _ _ _ _ _ => rfl) ?_, fun h3 J hJ => ?_⟩
        · rw [in_le, hs2] at h3
          have hne : I (k + 1) (i * 6 + j) ≠ 1000000000 := fun h4 => by rw [h4, in_F] at h3; omega
          rw [hadd, ← hown, md_o_of hne]
          show _ = some (if _ then _ else _)
          rw [if_pos h3]
        · rw [in_le, hs2] at h3
          refine step J (fun a ha => by rw [hJ, ky_up_ne ha]; exact hI a ha) (fun a b ha hb hne => ?_) ?_
          · rw [hJ, ky_up_eq]
            unfold upd
            rw [if_neg (by omega)]
          · rw [hJ, ky_up_eq]
            unfold upd
            have hvF : f0 (i * 6 + u) + c + z ≠ 1000000000 := fun h4 => by rw [h4, in_F] at hs2; omega
            rw [if_pos rfl, md_o_of hvF, hs2, hadd, ← hown]
            by_cases h4 : I (k + 1) (i * 6 + j) = 1000000000
            · rw [h4, md_o_free]; rfl
            · rw [md_o_of h4]
              show _ = some (if _ then _ else _)
              rw [if_neg h3]
set_option maxHeartbeats 2000000 in
theorem p_add_L59 (hB : cl_B Y k) (hu : u < 6) (hv : v < 6) {f0 : Nat → Int32} (hC : df_C 6 E (cl_M f0)) (hneg : ∀ b, cl_M f0 v u = some b → 0 ≤ b + c.toInt) {B : Int} (hbd : ∀ i j, i < 6 → j < 6 → ∀ a, cl_M f0 i j = some a → -B ≤ a ∧ a ≤ B) (hc : -B ≤ c.toInt ∧ c.toInt ≤ B) (hBB : B ≤ 300000000)
    (hk : ∀ J : Mm, (∀ a, a ≠ k + 1 → J a = I0 a) → cl_P (cl_M f0) u v c.toInt 6 0 (J (k + 1)) → post J) : ∀ (r i : Nat), i + r = 6 → ∀ I : Mm, (∀ a, a ≠ k + 1 → I a = I0 a) → cl_P (cl_M f0) u v c.toInt i 0 (I (k + 1)) → w_X0_add_L59 Y post (fun J => post J) (r + 1) k (nI u) (nI v) c (nI (i * 6)) I := by
  intro r
  induction r with
  | zero =>
    intro i hi I hI hP
    refine ⟨fun _ => hk I hI (by rw [← show i = 6 by omega]; exact hP), fun h => ?_⟩
    rw [in_le, in_n (by omega)] at h
    have : (36 : Int32).toInt = 36 := by decide
    omega
  | succ r ih =>
    intro i hi I hI hP
    have hi6 : i < 6 := by omega
    refine ⟨fun h => ?_, fun _ => ⟨hB.1, ?_⟩⟩
    · rw [in_le, in_n (by omega)] at h
      have : (36 : Int32).toInt = 36 := by decide
      omega
    · rw [hB.2.1, hB.2.2.2]
      obtain ⟨x1, x2⟩ := cl_ix hi6 hu
      refine ⟨hB.2.2.1, x1, fun z hz => ?_⟩
      rw [x2] at hz
      have hz2 : z = f0 (i * 6 + u) := md_o_inj (by
        rw [hz, hP i u hi6 hu, if_neg (by omega)]
        rfl)
      rw [hz2]
      refine ⟨6 + 1, p_add_L80 hB hu hv hC hneg hbd hc hBB hi6 (fun J hJ hPJ => ?_) 6 0 (by omega) I hI hP⟩
      intro x hx
      rw [hx, show nI (i * 6) + 6 = nI ((i + 1) * 6) by rw [show (6 : Int32) = nI 6 by decide, nI_add]; congr 1; omega]
      exact ih (i + 1) (by omega) J hJ hPJ
end CLB
theorem df_C_congr {n : Nat} {E : List Ed} {M M' : Nat → Nat → Option Int} (hp : df_P n E) (h : ∀ i j, i < n → j < n → M' i j = M i j) (hC : df_C n E M) : df_C n E M' :=
  ⟨fun i hi => by rw [h i i hi hi]; exact hC.1 i hi, fun i j l hi hj hl s t h1 h2 => by rw [h i l hi hl]; rw [h i j hi hj] at h1; rw [h j l hj hl] at h2; exact hC.2.1 i j l hi hj hl s t h1 h2,
    fun e he => by rw [h _ _ (hp e he).1 (hp e he).2]; exact hC.2.2.1 e he, fun y hy i j hi hj s t h1 h2 => by rw [h i j hi hj] at h1; exact hC.2.2.2 y hy i j hi hj s t h1 h2⟩
/-- the set of bounds at cell k is E's: closed, or it does not hold together -/
def cl_S (I : Mm) (k : Nat) (E : List Ed) : Prop := (I k 1 = 1 ∧ df_C 6 E (cl_M (I (k + 1)))) ∨ (I k 1 = 0 ∧ ¬ df_S E)
def cl_sm (K : Int) (E : List Ed) : Prop := ∀ e ∈ E, e.1 < 6 ∧ e.2.1 < 6 ∧ -K ≤ e.2.2 ∧ e.2.2 ≤ K
theorem cl_sm.P {K : Int} {E : List Ed} (h : cl_sm K E) : df_P 6 E := fun e he => ⟨(h e he).1, (h e he).2.1⟩
theorem cl_sm.bd {K : Int} {E : List Ed} (hK : 0 ≤ K) (h : cl_sm K E) {M : Nat → Nat → Option Int} (hC : df_C 6 E M) {i j : Nat} (hi : i < 6) (hj : j < 6) {a : Int} (ha : M i j = some a) : -(6 * K) ≤ a ∧ a ≤ 6 * K := by
  have := df_C_bd hC h.P hK (fun e he => ⟨(h e he).2.2.1, (h e he).2.2.2⟩) hi hj ha
  omega
/-- only the set at k has changed -/
def cl_F (I J : Mm) (k : Nat) : Prop := (∀ a, a ≠ k → a ≠ k + 1 → J a = I a) ∧ ∀ j, j ≠ 1 → J k j = I k j
theorem cl_F.rf {I : Mm} {k : Nat} : cl_F I I k := ⟨fun _ _ _ => rfl, fun _ _ => rfl⟩
theorem cl_F.tr {I J L : Mm} {k : Nat} (h1 : cl_F I J k) (h2 : cl_F J L k) : cl_F I L k := ⟨fun a b c => (h2.1 a b c).trans (h1.1 a b c), fun j hj => (h2.2 j hj).trans (h1.2 j hj)⟩
theorem df_S_cons {E : List Ed} {e : Ed} (h : ¬ df_S E) : ¬ df_S (e :: E) := fun h9 => h (df_S_sub h9 (fun _ h8 => List.mem_cons_of_mem _ h8))
set_option maxHeartbeats 2000000 in
theorem p_add {Y : Ly} {k : Nat} {post : Mm → Prop} {I : Mm} {u v : Nat} {c : Int32} {E : List Ed} {K : Int} (hB : cl_B Y k) (hu : u < 6) (hv : v < 6) (hS : cl_S I k E) (hK : 0 ≤ K ∧ K ≤ 40000000) (hsm : cl_sm K E) (hc : -K ≤ c.toInt ∧ c.toInt ≤ K)
    (hk : ∀ J : Mm, cl_F I J k → cl_S J k ((u, v, c.toInt) :: E) → post J) : w_X0_add Y I k (nI u) (nI v) c post := by
  rcases hS with ⟨h1, hC⟩ | ⟨h0, hn⟩
  · refine ⟨hB.1, fun h => absurd (h1.symm.trans h) (by decide), fun _ => ?_⟩
    rw [hB.2.1, hB.2.2.2]
    obtain ⟨x1, x2⟩ := cl_ix2 hu hv
    obtain ⟨y1, y2⟩ := cl_ix2 hv hu
    refine ⟨hB.2.2.1, x1, ?_⟩
    rw [x2, y2]
    have hbd : ∀ i j, i < 6 → j < 6 → ∀ a, cl_M (I (k + 1)) i j = some a → -(6 * K) ≤ a ∧ a ≤ 6 * K := fun i j hi hj a ha => hsm.bd hK.1 hC hi hj ha
    have loop : (∀ b, cl_M (I (k + 1)) v u = some b → 0 ≤ b + c.toInt) → ∃ n59 : Nat, w_X0_add_L59 Y post (fun J => post J) n59 k (nI u) (nI v) c 0 I := fun hneg => by
      refine ⟨6 + 1, p_add_L59 hB hu hv hC hneg hbd (by omega) (by omega) (fun J hJ hP => ?_) 6 0 (by omega) I (fun _ _ => rfl) (fun a b ha hb => by rw [if_neg (by omega)]; rfl)⟩
      refine hk J ⟨fun a _ h2 => hJ a h2, fun j _ => by rw [hJ k (by omega)]⟩ (Or.inl ⟨by rw [hJ k (by omega)]; exact h1, ?_⟩)
      refine df_C_congr (fun e he => ?_) (fun i j hi hj => ?_) (df_C_add hC hu hv hneg)
      · rcases List.mem_cons.mp he with rfl | he
        · exact ⟨hu, hv⟩
        · exact hsm.P e he
      · have := hP i j hi hj
        rw [if_pos (Or.inl hi)] at this
        exact this
    refine ⟨fun h2 => ⟨y1, fun z hz => ⟨fun h3 => ?_, fun h3 => ⟨fun h4 => ?_, fun h4 J hJ => ?_⟩⟩⟩, fun h2 => ?_⟩
    · refine loop (fun b hb => ?_)
      have : cl_M (I (k + 1)) v u = none := by unfold cl_M; rw [← hz, h3]; exact md_o_free
      rw [this] at hb; cases hb
    · refine loop (fun b hb => ?_)
      have hzb : md_o z = some b := by rw [hz]; exact hb
      obtain ⟨_, e1⟩ := md_o_some hzb
      obtain ⟨b1, b2⟩ := hbd v u hv hu b hb
      rw [in_le, in_0, in_add (by omega) (by omega)] at h4
      omega
    · have hzb : cl_M (I (k + 1)) v u = some z.toInt := by unfold cl_M; rw [← hz]; exact md_o_of h3
      obtain ⟨b1, b2⟩ := hbd v u hv hu _ hzb
      rw [in_le, in_0, in_add (by omega) (by omega)] at h4
      refine hk J ⟨fun a h5 _ => by rw [hJ, ky_up_ne h5], fun j hj => ?_⟩ (Or.inr ⟨?_, df_C_un hC hu hv hzb (by omega)⟩)
      · rw [hJ, ky_up_eq]; unfold upd; rw [if_neg hj]
      · rw [hJ, ky_up_eq]; unfold upd; rw [if_pos rfl]
    · refine hk I cl_F.rf (Or.inl ⟨h1, df_C_same hC ?_⟩)
      rw [in_lt] at h2
      have hne : I (k + 1) (u * 6 + v) ≠ 1000000000 := fun h5 => by rw [h5, in_F] at h2; omega
      show df_le (md_o _) _
      rw [md_o_of hne]
      exact df_le_some.mpr (by omega)
  · exact ⟨hB.1, fun _ => hk I cl_F.rf (Or.inr ⟨h0, df_S_cons hn⟩), fun h => absurd h0 h⟩
/-- no bound at all -/
theorem p_add_free {Y : Ly} {k : Nat} {post : Mm → Prop} {I : Mm} {u v : Nat} {E : List Ed} {K : Int} (hB : cl_B Y k) (hu : u < 6) (hv : v < 6) (hS : cl_S I k E) (hK : 0 ≤ K ∧ K ≤ 40000000) (hsm : cl_sm K E) (hk : post I) : w_X0_add Y I k (nI u) (nI v) 1000000000 post := by
  rcases hS with ⟨h1, hC⟩ | ⟨h0, hn⟩
  · refine ⟨hB.1, fun h => absurd (h1.symm.trans h) (by decide), fun _ => ?_⟩
    rw [hB.2.1, hB.2.2.2]
    obtain ⟨x1, x2⟩ := cl_ix2 hu hv
    refine ⟨hB.2.2.1, x1, ?_⟩
    rw [x2]
    refine ⟨fun h2 => ?_, fun _ => hk⟩
    exfalso
    rw [in_lt, in_F] at h2
    by_cases h5 : I (k + 1) (u * 6 + v) = 1000000000
    · rw [h5, in_F] at h2; omega
    · have := hsm.bd hK.1 hC hu hv (a := (I (k + 1) (u * 6 + v)).toInt) (md_o_of h5)
      omega
  · exact ⟨hB.1, fun _ => hk, fun h => absurd h0 h⟩
theorem p_leastOf {Y : Ly} {k : Nat} {post : Int32 → Mm → Prop} {I : Mm} {u v : Nat} (hB : cl_B Y k) (hu : u < 6) (hv : v < 6) (hk : post (I (k + 1) (u * 6 + v)) I) : w_X0_leastOf Y I k (nI u) (nI v) post := by
  refine ⟨hB.1, ?_⟩
  rw [hB.2.1, hB.2.2.2]
  obtain ⟨x1, x2⟩ := cl_ix2 hu hv
  rw [x2]
  exact ⟨hB.2.2.1, x1, hk⟩
theorem p_copy {Y : Ly} {k b : Nat} {post : Mm → Prop} {I : Mm} {E : List Ed} (hB : cl_B Y k) (hB2 : cl_B Y b) (h1 : b ≠ k) (h2 : b + 1 ≠ k) (h3 : b ≠ k + 1) (hS : cl_S I b E) (hP : df_P 6 E) (hk : ∀ J : Mm, cl_F I J k → cl_S J k E → J k 1 = I b 1 → post J) : w_X0_copyFrom Y I k b post := by
  refine ⟨hB2.1, hB.1, hS.elim (fun h => Or.inr h.1) (fun h => Or.inl h.1), fun J hJ => ?_⟩
  rw [hB.2.1, hB2.2.1, hB.2.2.2, hB2.2.2.2]
  refine ⟨hB.2.2.1, hB2.2.2.1, by decide, by decide, fun L hL => ?_⟩
  have hne : k ≠ k + 1 := by omega
  have e1 : L (k + 1) = va_cpy (J (b + 1)) (J (k + 1)) 0 0 36 := by rw [hL]; unfold ky_cp; rw [if_pos rfl]; rfl
  have e2 : ∀ a, a ≠ k + 1 → L a = J a := fun a ha => by rw [hL]; unfold ky_cp; rw [if_neg ha]
  have e3 : ∀ a, a ≠ k → J a = I a := fun a ha => by rw [hJ]; exact ky_up_ne ha
  have e4 : J k 1 = I b 1 := by rw [hJ, ky_up_eq]; unfold upd; rw [if_pos rfl]
  have e5 : ∀ j, j < 36 → L (k + 1) j = I (b + 1) j := fun j hj => by
    rw [e1, pk_cpy_in (Nat.zero_le _) (by omega), e3 (b + 1) h2]
    congr 1
    omega
  refine hk L ⟨fun a ha hb => (e2 a hb).trans (e3 a ha), fun j hj => ?_⟩ ?_ (by rw [e2 k hne]; exact e4)
  · rw [e2 k hne, hJ, ky_up_eq]; unfold upd; rw [if_neg hj]
  · have e6 : L k 1 = I b 1 := by rw [e2 k hne]; exact e4
    rcases hS with ⟨g1, g2⟩ | ⟨g1, g2⟩
    · exact Or.inl ⟨e6.trans g1, df_C_congr hP (fun i j hi hj => by unfold cl_M; rw [e5 _ (by omega)]) g2⟩
    · exact Or.inr ⟨e6.trans g1, g2⟩
