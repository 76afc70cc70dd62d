/-! THE TREE: what lies below a node; its numbers follow each other -/
def tr_up (ns : List Nd) : Nat → Nat → Nat
  | 0, k => k
  | j + 1, k => tr_up ns j (tr_nd ns k).2.1
/-- k is n, or below it -/
def tr_D (ns : List Nd) (n k : Nat) : Prop := ∃ j, tr_up ns j k = n
theorem tr_up_add (ns : List Nd) : ∀ (i j k : Nat), tr_up ns i (tr_up ns j k) = tr_up ns (j + i) k := by
  intro i j
  induction j with
  | zero => intro k; rw [Nat.zero_add]; rfl
  | succ j ih =>
    intro k
    rw [Nat.add_right_comm]
    exact ih _
theorem tr_D.rf {ns : List Nd} {n : Nat} : tr_D ns n n := ⟨0, rfl⟩
theorem tr_D.tr {ns : List Nd} {n m k : Nat} (h1 : tr_D ns n m) (h2 : tr_D ns m k) : tr_D ns n k := by
  obtain ⟨i, hi⟩ := h1
  obtain ⟨j, hj⟩ := h2
  exact ⟨j + i, by rw [← tr_up_add, hj, hi]⟩
theorem tr_D.par {ns : List Nd} {k : Nat} : tr_D ns (tr_nd ns k).2.1 k := ⟨1, rfl⟩
theorem tr_D.up {ns : List Nd} {n k : Nat} (h : tr_D ns n k) (hne : k ≠ n) : tr_D ns n (tr_nd ns k).2.1 := by
  obtain ⟨j, hj⟩ := h
  cases j with
  | zero => exact absurd hj hne
  | succ j => exact ⟨j, hj⟩
/-- parents are smaller -/
def tr_sm (ns : List Nd) : Prop := (tr_nd ns 0).2.1 = 0 ∧ ∀ k, 0 < k → k < ns.length → (tr_nd ns k).2.1 < k
theorem tr_sm.le {ns : List Nd} (h : tr_sm ns) {k : Nat} (hk : k < ns.length) : (tr_nd ns k).2.1 ≤ k := by
  by_cases h0 : k = 0
  · rw [h0, h.1]; exact Nat.le_refl _
  · exact Nat.le_of_lt (h.2 k (by omega) hk)
theorem tr_up_le {ns : List Nd} (h : tr_sm ns) : ∀ (j k : Nat), k < ns.length → tr_up ns j k ≤ k := by
  intro j
  induction j with
  | zero => exact fun k _ => Nat.le_refl _
  | succ j ih =>
    intro k hk
    have h1 := h.le hk
    exact Nat.le_trans (ih _ (by omega)) h1
theorem tr_D.le {ns : List Nd} (h : tr_sm ns) {n k : Nat} (hk : k < ns.length) (hd : tr_D ns n k) : n ≤ k := by
  obtain ⟨j, hj⟩ := hd
  rw [← hj]
  exact tr_up_le h j k hk
theorem tr_up_l {ns : List Nd} {x : Nd} (h : tr_sm ns) : ∀ (j k : Nat), k < ns.length → tr_up (ns ++ [x]) j k = tr_up ns j k := by
  intro j
  induction j with
  | zero => exact fun k _ => rfl
  | succ j ih =>
    intro k hk
    have h1 := h.le hk
    show tr_up (ns ++ [x]) j (tr_nd (ns ++ [x]) k).2.1 = tr_up ns j (tr_nd ns k).2.1
    rw [tr_nd_l hk]
    exact ih _ (by omega)
theorem tr_D_l {ns : List Nd} {x : Nd} (h : tr_sm ns) {n k : Nat} (hk : k < ns.length) : tr_D (ns ++ [x]) n k ↔ tr_D ns n k := by
  unfold tr_D
  exact ⟨fun ⟨j, hj⟩ => ⟨j, by rw [tr_up_l h j k hk] at hj; exact hj⟩, fun ⟨j, hj⟩ => ⟨j, by rw [tr_up_l h j k hk]; exact hj⟩⟩
/-- numbers follow each other; what waits belongs to the way down to the last -/
def tr_c (s : List Nd × List (Nat × Nat)) : Prop := 1 ≤ s.1.length ∧ tr_sm s.1 ∧ (∀ a k m, a ≤ k → k ≤ m → m < s.1.length → tr_D s.1 a m → tr_D s.1 a k) ∧ (∀ x ∈ s.2, x.1 < s.1.length ∧ tr_D s.1 x.1 (s.1.length - 1)) ∧ s.2.Pairwise (fun x y => tr_D s.1 y.1 x.1)
theorem tr_c_step {N : Mm} {s : List Nd × List (Nat × Nat)} (h : tr_c s) : tr_c (tr_step N s) := by
  obtain ⟨ns, st⟩ := s
  cases st with
  | nil => exact h
  | cons x st =>
    obtain ⟨p, a⟩ := x
    obtain ⟨h1, h2, h3, h4, h5⟩ := h
    have h1 : 1 ≤ ns.length := h1
    have h2 : tr_sm ns := h2
    have h3 : ∀ a k m, a ≤ k → k ≤ m → m < ns.length → tr_D ns a m → tr_D ns a k := h3
    have h4 : ∀ x ∈ (p, a) :: st, x.1 < ns.length ∧ tr_D ns x.1 (ns.length - 1) := h4
    have h5 : ((p, a) :: st).Pairwise (fun x y => tr_D ns y.1 x.1) := h5
    obtain ⟨hp, hpl⟩ := h4 (p, a) List.mem_cons_self
    have hp : p < ns.length := hp
    have hpl : tr_D ns p (ns.length - 1) := hpl
    rw [List.pairwise_cons] at h5
    show tr_c (ns ++ [(tr_cl N ns p a, p, a, tr_pm N ns p a)], tr_push N ns.length (tr_cl N ns p a) st)
    generalize hX : (tr_cl N ns p a, p, a, tr_pm N ns p a) = X
    have hXp : X.2.1 = p := by rw [← hX]
    have hlen : (ns ++ [X]).length = ns.length + 1 := by rw [List.length_append]; rfl
    have hpn : (tr_nd (ns ++ [X]) ns.length).2.1 = p := by rw [tr_nd_n, hXp]
    have hsm : tr_sm (ns ++ [X]) := by
      refine ⟨by rw [tr_nd_l h1]; exact h2.1, fun k hk hkl => ?_⟩
      rw [hlen] at hkl
      by_cases hkn : k = ns.length
      · rw [hkn, hpn]; exact hp
      · rw [tr_nd_l (by omega)]; exact h2.2 k hk (by omega)
    have below : ∀ q, tr_D ns q p → tr_D (ns ++ [X]) q ns.length := fun q hq => by
      have : tr_D (ns ++ [X]) p ns.length := by have := tr_D.par (ns := ns ++ [X]) (k := ns.length); rw [hpn] at this; exact this
      exact ((tr_D_l h2 hp).mpr hq).tr this
    have hrest : ∀ y ∈ st, y.1 < ns.length ∧ tr_D (ns ++ [X]) y.1 ns.length := fun y hy => ⟨(h4 y (List.mem_cons_of_mem _ hy)).1, below _ (h5.1 y hy)⟩
    have hpw : st.Pairwise (fun x y => tr_D (ns ++ [X]) y.1 x.1) := by
      refine List.Pairwise.imp_of_mem (fun {x y} hx _ hxy => ?_) h5.2
      exact (tr_D_l h2 (h4 x (List.mem_cons_of_mem _ hx)).1).mpr hxy
    refine ⟨by rw [hlen]; omega, hsm, fun b k m hbk hkm hm hD => ?_, fun y hy => ?_, ?_⟩
    · rw [hlen] at hm
      by_cases hmn : m = ns.length
      · by_cases hbm : m = b
        · rw [show k = m by omega]; exact hD
        · by_cases hkn : k = m
          · rw [hkn]; exact hD
          · have hd2 := hD.up hbm
            rw [hmn, hpn, tr_D_l h2 hp] at hd2
            rw [tr_D_l h2 (by omega)]
            exact h3 b k (ns.length - 1) hbk (by omega) (by omega) (hd2.tr hpl)
      · rw [tr_D_l h2 (by omega)] at hD
        rw [tr_D_l h2 (by omega)]
        exact h3 b k m hbk hkm (by omega) hD
    · rw [hlen, Nat.add_sub_cancel]
      unfold tr_push at hy
      have hn : ∀ b, (((ns.length, b) : Nat × Nat).1 < ns.length + 1 ∧ tr_D (ns ++ [X]) ((ns.length, b) : Nat × Nat).1 ns.length) := fun b => ⟨Nat.lt_succ_self _, tr_D.rf⟩
      have hr : ∀ y ∈ st, y.1 < ns.length + 1 ∧ tr_D (ns ++ [X]) y.1 ns.length := fun y hy => ⟨Nat.lt_succ_of_lt (hrest y hy).1, (hrest y hy).2⟩
      split at hy
      · exact hr y hy
      · split at hy
        · rcases List.mem_cons.mp hy with rfl | hy
          · exact hn 0
          · exact hr y hy
        · rcases List.mem_cons.mp hy with rfl | hy
          · exact hn 0
          · rcases List.mem_cons.mp hy with rfl | hy
            · exact hn 1
            · exact hr y hy
    · show (tr_push N ns.length (tr_cl N ns p a) st).Pairwise (fun x y => tr_D (ns ++ [X]) y.1 x.1)
      unfold tr_push
      split
      · exact hpw
      · split
        · rw [List.pairwise_cons]
          exact ⟨fun y hy => (hrest y hy).2, hpw⟩
        · rw [List.pairwise_cons, List.pairwise_cons]
          refine ⟨fun y hy => ?_, fun y hy => (hrest y hy).2, hpw⟩
          rcases List.mem_cons.mp hy with rfl | hy
          · exact tr_D.rf
          · exact (hrest y hy).2
theorem tr_c_it {N : Mm} {c : Nat} : ∀ t, tr_c (tr_it N c t) := by
  intro t
  induction t with
  | zero =>
    refine ⟨Nat.le_refl _, ⟨rfl, fun k h1 h2 => ?_⟩, fun a k m h1 h2 h3 h4 => ?_, fun x hx => ?_, ?_⟩
    · have h2 : k < 1 := h2
      omega
    · have h3 : m < 1 := h3
      rw [show k = m by omega]; exact h4
    · have hx : x ∈ tr_push N 0 c [] := hx
      unfold tr_push at hx
      have hn : ∀ b, (((0, b) : Nat × Nat).1 < 1 ∧ tr_D [(c, 0, 0, 0)] ((0, b) : Nat × Nat).1 0) := fun b => ⟨Nat.zero_lt_one, tr_D.rf⟩
      split at hx
      · cases hx
      · split at hx
        · rcases List.mem_cons.mp hx with rfl | hx
          · exact hn 0
          · cases hx
        · rcases List.mem_cons.mp hx with rfl | hx
          · exact hn 0
          · rcases List.mem_cons.mp hx with rfl | hx
            · exact hn 1
            · cases hx
    · show (tr_push N 0 c []).Pairwise _
      unfold tr_push
      split
      · exact List.Pairwise.nil
      · split
        · exact List.pairwise_singleton _ _
        · rw [List.pairwise_cons]
          refine ⟨fun y hy => ?_, List.pairwise_singleton _ _⟩
          rcases List.mem_cons.mp hy with rfl | hy
          · exact tr_D.rf
          · cases hy
  | succ t ih => exact tr_c_step ih
/-- where the part below a node ends -/
def tr_e (ns : List Nd) (en : Nat → Nat) (m : Nat) : Prop := (∀ k, k < ns.length → k < en k ∧ en k ≤ ns.length ∧ tr_D ns k (en k - 1)) ∧ ∀ j, m < j → j < ns.length → en j ≤ en (tr_nd ns j).2.1
theorem tr_e_step {ns : List Nd} {en : Nat → Nat} {m : Nat} (hsm : tr_sm ns) (hm : 0 < m) (hml : m < ns.length) (h : tr_e ns en m) : tr_e ns (fun k => if k = (tr_nd ns m).2.1 then (if en m ≤ en k then en k else en m) else en k) (m - 1) := by
  have hp := hsm.2 m hm hml
  refine ⟨fun k hk => ?_, fun j hj hjl => ?_⟩
  · obtain ⟨a1, a2, a3⟩ := h.1 k hk
    by_cases hkp : k = (tr_nd ns m).2.1
    · simp only [if_pos hkp]
      by_cases hle : en m ≤ en k
      · rw [if_pos hle]; exact ⟨a1, a2, a3⟩
      · rw [if_neg hle]
        obtain ⟨b1, b2, b3⟩ := h.1 m hml
        refine ⟨by omega, b2, ?_⟩
        have : tr_D ns k m := by rw [hkp]; exact tr_D.par
        exact this.tr b3
    · simp only [if_neg hkp]; exact ⟨a1, a2, a3⟩
  · have hjne : j ≠ (tr_nd ns m).2.1 := by omega
    simp only [if_neg hjne]
    by_cases hjm : j = m
    · rw [hjm]
      simp only [if_true]
      split <;> omega
    · have := h.2 j (by omega) hjl
      split
      · rename_i heq
        rw [heq] at this
        split
        · rw [heq]; exact this
        · rename_i h9
          rw [heq] at h9
          omega
      · exact this
theorem tr_e_D {s : List Nd × List (Nat × Nat)} (hc : tr_c s) {en : Nat → Nat} (h : tr_e s.1 en 0) {n k : Nat} (hn : n < s.1.length) (hk : k < s.1.length) : (n ≤ k ∧ k < en n) ↔ tr_D s.1 n k := by
  obtain ⟨_, hsm, hct, _⟩ := hc
  constructor
  · rintro ⟨h1, h2⟩
    obtain ⟨a1, a2, a3⟩ := h.1 n hn
    exact hct n k (en n - 1) h1 (by omega) (by omega) a3
  · intro hD
    refine ⟨tr_D.le hsm hk hD, ?_⟩
    have key : ∀ (j k : Nat), k < s.1.length → en k ≤ en (tr_up s.1 j k) := by
      intro j
      induction j with
      | zero => exact fun k _ => Nat.le_refl _
      | succ j ih =>
        intro k hk
        have h1 := hsm.le hk
        by_cases h0 : k = 0
        · show en k ≤ en (tr_up s.1 j (tr_nd s.1 k).2.1)
          rw [h0, hsm.1]
          exact ih 0 (by omega)
        · exact Nat.le_trans (h.2 k (by omega) hk) (ih _ (by omega))
    obtain ⟨j, hj⟩ := hD
    have h1 := key j k hk
    rw [hj] at h1
    have := (h.1 k hk).1
    omega
