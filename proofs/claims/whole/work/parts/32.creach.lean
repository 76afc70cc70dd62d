/-! THE CLASS: what a round reaches -/
abbrev Rd : Type := Nat → Nat → Option (Nat × Nat)
/-- a cube that may be reached -/
def dt_cd (N : Mm) (r m : Nat) : Prop := r < dt_nr N ∧ m < 2 ^ dt_nm N r ∧ N 15 (16 * r + m) = 0
/-- clause c with pair k reaches it -/
def dt_wp (N : Mm) (c r m k : Nat) : Prop := c < dt_nc N ∧ N 6 c = nI r ∧ k / 16 < dt_n1 N c ∧ k % 16 < dt_n2 N c ∧ dt_fd N c (some m) (k / 16) (k % 16)
def dt_lx (c0 k0 c k : Nat) : Prop := c < c0 ∨ (c = c0 ∧ k < k0)
def dt_le (N : Mm) (r m c k : Nat) : Prop := dt_wp N c r m k ∧ ∀ c' k', dt_lx c k c' k' → ¬ dt_wp N c' r m k'
/-- what is reached by clauses and pairs ahead of c0 and kb -/
def dt_dn (N : Mm) (d : Rd) (c0 : Nat) (kb : Nat → Nat → Nat) : Prop := ∀ r m, r < 4 → m < 16 → (∀ c k, d r m = some (c, k) → dt_cd N r m ∧ dt_le N r m c k) ∧ (d r m = none → ¬ (dt_cd N r m ∧ ∃ c k, dt_lx c0 (kb r m) c k ∧ dt_wp N c r m k))
theorem dt_full_sub {N : Mm} {c p q m : Nat} (h : df_S (dt_full N c p q (some m))) : df_S (dt_full N c p q none) := df_S_sub h (fun e he => List.mem_append_left _ he)
theorem dt_wp_vp {N : Mm} {c r m k : Nat} (h : dt_wp N c r m k) : dt_vp N c k := ⟨h.2.2.1, h.2.2.2.1, h.2.2.2.2.1, dt_full_sub h.2.2.2.2.2⟩
def rc_ct (d : Rd) : Nat → Nat
  | 0 => 0
  | n + 1 => rc_ct d n + if (d (n / 16) (n % 16)).isSome = true then 1 else 0
theorem rc_ct_up {d d' : Rd} {r m : Nat} (hr : r < 4) (hm : m < 16) (h0 : d r m = none) (h1 : (d' r m).isSome = true) (ho : ∀ r' m', r' < 4 → m' < 16 → (r' ≠ r ∨ m' ≠ m) → d' r' m' = d r' m') : rc_ct d' 64 = rc_ct d 64 + 1 := by
  have key : ∀ n, n ≤ 64 → rc_ct d' n = rc_ct d n + if 16 * r + m < n then 1 else 0 := by
    intro n
    induction n with
    | zero => intro _; rfl
    | succ n ih =>
      intro hn
      show rc_ct d' n + (if (d' (n / 16) (n % 16)).isSome = true then 1 else 0) = rc_ct d n + (if (d (n / 16) (n % 16)).isSome = true then 1 else 0) + _
      rw [ih (by omega)]
      by_cases h : n = 16 * r + m
      · have e1 : n / 16 = r := by omega
        have e2 : n % 16 = m := by omega
        have p1 : ¬ 16 * r + m < n := by omega
        have p2 : 16 * r + m < n + 1 := by omega
        rw [e1, e2, h0, if_pos h1, if_neg p1, if_pos p2]
        rfl
      · rw [ho (n / 16) (n % 16) (by omega) (by omega) (by omega)]
        by_cases h2 : 16 * r + m < n
        · have p2 : 16 * r + m < n + 1 := by omega
          rw [if_pos h2, if_pos p2]; omega
        · have p2 : ¬ 16 * r + m < n + 1 := by omega
          rw [if_neg h2, if_neg p2]; omega
  rw [key 64 (Nat.le_refl _), if_pos (by omega)]
theorem rc_ct_le (d : Rd) : ∀ n, rc_ct d n ≤ n := by
  intro n
  induction n with
  | zero => exact Nat.le_refl _
  | succ n ih =>
    show rc_ct d n + (if _ then 1 else 0) ≤ n + 1
    split <;> omega
/-- the class's memory with what was reached -/
def rc_m (I0 J N : Mm) (d : Rd) : Prop := (∀ a, a < 131 ∨ 137 ≤ a → (∀ r j, r < 4 → 4 ≤ j → j < 8 → a ≠ 137 + 8 * r + j) → J a = I0 a) ∧
  ∀ r m, r < 4 → m < 16 → (d r m = none → ∀ j, 4 ≤ j → j < 8 → J (137 + 8 * r + j) m = I0 (137 + 8 * r + j) m) ∧
    ∀ c k, d r m = some (c, k) → J (137 + 8 * r + 4) m = I0 0 4 + 1 ∧ J (137 + 8 * r + 5) m = nI c ∧ J (137 + 8 * r + 6) m = dt_on N c 0 (k / 16) ∧ J (137 + 8 * r + 7) m = dt_on N c 1 (k % 16)
/-- heights are the reference's, and its round is one ahead -/
def rl_h (I N : Mm) : Prop := (∀ r m, r < 4 → m < 16 → I (137 + 8 * r + 4) m = N 15 (16 * r + m) ∧ 0 ≤ (N 15 (16 * r + m)).toInt ∧ (N 15 (16 * r + m)).toInt ≤ (I 0 4).toInt) ∧ (N 0 20).toInt = (I 0 4).toInt + 1 ∧ 0 ≤ (I 0 4).toInt ∧ (I 0 4).toInt < 1000000
theorem rl_h.q {I N : Mm} (h : rl_h I N) : rl_q I N := fun r m hr hm => by
  obtain ⟨h1, h2, h3⟩ := h.1 r m hr hm
  unfold dt_bf
  rw [h1, h.2.1, in_le, in_eq, in_0]
  omega
theorem rl_h.up {I N : Mm} (h : rl_h I N) : (I 0 4 + 1).toInt = (I 0 4).toInt + 1 := by
  have := h.2.2
  rw [in_add (by rw [in_1]; omega) (by rw [in_1]; omega), in_1]
theorem rc_m.s {I0 J N : Mm} {d : Rd} (h : rc_m I0 J N d) (hs : rl_s I0 N) (hw : dt_w N) : rl_s J N := by
  have hr4 := hw.1.2.1
  have h12 := hw.2.2.1
  have e : ∀ a, a < 131 ∨ 137 ≤ a → (∀ r j, r < 4 → 4 ≤ j → j < 8 → a ≠ 137 + 8 * r + j) → J a = I0 a := h.1
  refine ⟨⟨?_, fun r hr => ?_, fun r hr => ?_, fun r k hr hk => ?_⟩, ?_, fun c hc => ?_, fun c h8 h9 => ?_⟩
  · rw [e 0 (by omega) (fun r j _ _ _ => by omega)]; exact hs.1.1
  · rw [e (137 + 8 * r) (by omega) (fun r j _ _ _ => by omega)]; exact hs.1.2.1 r hr
  · rw [e (137 + 8 * r) (by omega) (fun r j _ _ _ => by omega)]; exact hs.1.2.2.1 r hr
  · rw [e (137 + 8 * r + 1) (by omega) (fun r j _ _ _ => by omega), e (137 + 8 * r + 2) (by omega) (fun r j _ _ _ => by omega), e (137 + 8 * r + 3) (by omega) (fun r j _ _ _ => by omega)]
    exact hs.1.2.2.2 r k hr hk
  · rw [e 0 (by omega) (fun r j _ _ _ => by omega)]; exact hs.2.1
  · have q : ∀ x, 169 ≤ x → J x = I0 x := fun x hx => e x (by omega) (fun r j _ _ _ => by omega)
    obtain ⟨h1, h2, h3, h4, h5, h6, h7⟩ := hs.2.2.1 c hc
    exact ⟨by rw [q _ (by omega)]; exact h1, by rw [q _ (by omega)]; exact h2, by rw [q _ (by omega)]; exact h3, by rw [q _ (by omega)]; exact h4, by rw [q _ (by omega)]; exact h5, fun a ha => by rw [q _ (by omega)]; exact h6 a ha, cl_S_keep (q _ (by omega)) (q _ (by omega)) h7⟩
  · have q : ∀ x, 169 ≤ x → J x = I0 x := fun x hx => e x (by omega) (fun r j _ _ _ => by omega)
    obtain ⟨h1, h2, h3⟩ := hs.2.2.2 c h8 h9
    exact ⟨by rw [q _ (by omega)]; exact h1, by rw [q _ (by omega)]; exact h2, cl_S_keep (q _ (by omega)) (q _ (by omega)) h3⟩
theorem rc_m.q {I0 J N : Mm} {d : Rd} (h : rc_m I0 J N d) (hh : rl_h I0 N) {c0 : Nat} {kb : Nat → Nat → Nat} (hd : dt_dn N d c0 kb) : rl_q J N := fun r m hr hm => by
  have e0 : J 0 = I0 0 := h.1 0 (by omega) (fun r j _ _ _ => by omega)
  rw [e0]
  cases hdr : d r m with
  | none =>
    rw [(h.2 r m hr hm).1 hdr 4 (by decide) (by decide)]
    exact hh.q r m hr hm
  | some ck =>
    obtain ⟨c, k⟩ := ck
    obtain ⟨h1, _⟩ := (h.2 r m hr hm).2 c k hdr
    obtain ⟨⟨_, _, h2⟩, _⟩ := (hd r m hr hm).1 c k hdr
    unfold dt_bf
    rw [h1, h2, in_le, hh.up, in_0]
    omega
theorem rc_m.cs {I0 J L N : Mm} {d : Rd} (h : rc_m I0 J N d) (hc : cs_F J L) : rc_m I0 L N d :=
  ⟨fun a h1 h2 => (hc a h1).trans (h.1 a h1 h2), fun r m hr hm => ⟨fun h1 j h2 h3 => by rw [hc _ (by omega)]; exact (h.2 r m hr hm).1 h1 j h2 h3, fun c k h1 => by rw [hc _ (by omega), hc _ (by omega), hc _ (by omega), hc _ (by omega)]; exact (h.2 r m hr hm).2 c k h1⟩⟩
theorem rc_m.zero {I0 J N : Mm} {d : Rd} (h : rc_m I0 J N d) (hh : rl_h I0 N) {r m : Nat} (hr : r < 4) (hm : m < 16) : J (137 + 8 * r + 4) m = 0 ↔ d r m = none ∧ N 15 (16 * r + m) = 0 := by
  cases hdr : d r m with
  | none =>
    rw [(h.2 r m hr hm).1 hdr 4 (by decide) (by decide), (hh.1 r m hr hm).1]
    exact ⟨fun h => ⟨rfl, h⟩, fun h => h.2⟩
  | some ck =>
    obtain ⟨c, k⟩ := ck
    obtain ⟨h1, _⟩ := (h.2 r m hr hm).2 c k hdr
    have := hh.2.2
    rw [h1, in_eq, hh.up, in_0]
    exact ⟨fun h => by omega, fun h => by cases h.1⟩
theorem p_premise {ad : Nat → Nat} {N J : Mm} {c a k : Nat} (hw : dt_w N) (hs : rl_s J N) (hc : c < dt_nc N) (ha : a < 2) (hk9 : k < 256) {post : Int32 → Mm → Prop} (hk : post (dt_on N c a (if a = 0 then k / 16 else k % 16)) J) : w_X1_premise (cl_Y ad) J (169 + 7 * c) (nI a) (nI k) post := by
  have h12 := hw.2.2.1
  obtain ⟨_, _, ha1, ha2, _⟩ := hw.2.2.2 c hc
  obtain ⟨_, _, _, r4, _⟩ := hs.2.2.1 c hc
  refine ⟨cy_kc (by omega), ?_⟩
  rw [r4, ha1]
  unfold dt_on at hk
  refine ⟨fun h => ⟨fun h0 => ?_, fun h0 => ?_⟩, fun h => ?_⟩
  · rw [in_lt, in_n (by omega), in_n (by omega)] at h
    rw [in_e0 (by omega)] at h0
    rw [if_pos (by omega), if_neg h0] at hk
    rw [show nI k - nI k / (16 : Int32) * (16 : Int32) = nI (k % 16) from pk_rem (by omega) (by decide) (by decide)]
    exact hk
  · rw [in_lt, in_n (by omega), in_n (by omega)] at h
    rw [in_e0 (by omega)] at h0
    rw [if_pos (by omega), if_pos h0] at hk
    rw [show nI k / (16 : Int32) = nI (k / 16) from pk_div (by omega) (by decide) (by decide)]
    exact hk
  · rw [in_lt, in_n (by omega), in_n (by omega)] at h
    rw [if_neg (by omega)] at hk
    exact hk
/-- how far a cube is looked through -/
def rc_kb (h k m r' m' : Nat) : Nat := if r' = h ∧ m' < m then k + 1 else k
theorem rc_kb_1 {h k m r' m' : Nat} (h1 : r' = h) (h2 : m' < m) : rc_kb h k m r' m' = k + 1 := if_pos ⟨h1, h2⟩
theorem rc_kb_0 {h k m r' m' : Nat} (h1 : ¬ (r' = h ∧ m' < m)) : rc_kb h k m r' m' = k := if_neg h1
/-- one cube more -/
def rc_up (d : Rd) (r m : Nat) (x : Nat × Nat) : Rd := fun r' m' => if r' = r ∧ m' = m then some x else d r' m'
set_option maxHeartbeats 4000000 in
theorem p_reachCubes_L {ad : Nat → Nat} {N I0 : Mm} {c k : Nat} (hw : dt_w N) (hs0 : rl_s I0 N) (hh : rl_h I0 N) (hc : c < dt_nc N) (h6 : N 6 c = nI (dt_hr N c)) (hr : dt_hr N c < dt_nr N) (hk9 : k < 256) (hvp : dt_vp N c k) {n0 : Nat} {post : Int32 → Mm → Prop}
    (hk : ∀ (J : Mm) (d : Rd) (n : Nat), rc_m I0 J N d → dt_dn N d c (fun _ _ => k + 1) → rc_ct d 64 = n0 + n → post (nI n) J) :
    ∀ (t m : Nat), m + t = 2 ^ dt_nm N (dt_hr N c) → ∀ (J : Mm) (d : Rd) (n : Nat), rc_m I0 J N d → cl_S J 133 (dt_full N c (k / 16) (k % 16) none) → dt_dn N d c (rc_kb (dt_hr N c) k m) → rc_ct d 64 = n0 + n →
      w_X6_reachCubes_L27 (cl_Y ad) post (fun v J => post v J) (t + 1) 0 (nI c) (nI k) (169 + 7 * c) (137 + 8 * dt_hr N c) (nI n) (nI m) J := by
  have h12 := hw.2.2.1
  have hr4 := hw.1.2.1
  have hnm := (hw.1.2.2.2.1 (dt_hr N c) (by omega)).2.1
  have h16 : 2 ^ dt_nm N (dt_hr N c) ≤ 16 := dt_p16 hnm
  have hho : dt_ho N c (-1) none := rfl
  have hsm : cl_sm 1001 (dt_full N c (k / 16) (k % 16) none) := dt_full_ok hw hc hho
  have hn6 : ∀ r', r' < 4 → N 6 c = nI r' → r' = dt_hr N c := fun r' hr' h => by
    rw [h6] at h
    exact ((nI_eq (by omega) (by omega)).mp h).symm
  intro t
  induction t with
  | zero =>
    intro m hm J d n hR hS hd hn
    refine ⟨cy_kr (by omega), p_cubes hw (hR.s hs0 hw).1 hr ⟨fun _ => hk J d n hR (fun r' m' hr' hm' => ⟨(hd r' m' hr' hm').1, fun h1 h2 => ?_⟩) hn, fun h => ?_⟩⟩
    · obtain ⟨hcd, c', k', hl, hwp⟩ := h2
      refine (hd r' m' hr' hm').2 h1 ⟨hcd, c', k', ?_, hwp⟩
      rcases hl with hl | ⟨hl, hl2⟩
      · exact Or.inl hl
      · refine Or.inr ⟨hl, ?_⟩
        have := hn6 r' hr' (by rw [← hl]; exact hwp.2.1)
        have hm9 := hcd.2.1
        rw [this] at hm9
        rw [rc_kb_1 this (by omega)]
        exact hl2
    · rw [in_le, in_n (by omega), in_n (by omega)] at h
      omega
  | succ t ih =>
    intro m hm J d n hR hS hd hn
    have hs := hR.s hs0 hw
    have hct := rc_ct_le d 64
    refine ⟨cy_kr (by omega), p_cubes hw hs.1 hr ⟨fun h => ?_, fun _ => ⟨cy_kc (by omega), cy_0, ?_⟩⟩⟩
    · rw [in_le, in_n (by omega), in_n (by omega)] at h
      omega
    · rw [cy_rc0 (by omega)]
      refine p_isMissing hw hs hc (by omega) h6 hr hS hsm (fun L v hL hv => ?_)
      have hcs := cs_F.of hL (by decide) (by decide)
      have hRL := hR.cs hcs
      have hSL : cl_S L 133 (dt_full N c (k / 16) (k % 16) none) := cl_S_keep (hL.1 133 (by decide) (by decide)) (hL.1 134 (by decide) (by decide)) hS
      have hzero := hR.zero hh (r := dt_hr N c) (m := m) (by omega) (by omega)
      refine ⟨fun h0 x hx => ?_, fun h1 => ?_⟩
      · rw [hx, in_s]
        rcases hv with ⟨hv, _⟩ | ⟨_, hv⟩
        · rw [hv] at h0; exact absurd h0 (by decide)
        refine ih (m + 1) (by omega) L d n hRL hSL (fun r' m' hr' hm' => ⟨(hd r' m' hr' hm').1, fun h1 h2 => ?_⟩) hn
        obtain ⟨hcd, c', k', hl, hwp⟩ := h2
        by_cases hnew : r' = dt_hr N c ∧ m' = m
        · obtain ⟨rfl, rfl⟩ := hnew
          rcases hl with hl | ⟨hl, hl2⟩
          · exact (hd _ _ hr' hm').2 h1 ⟨hcd, c', k', Or.inl hl, hwp⟩
          · rw [rc_kb_1 rfl (by omega)] at hl2
            by_cases hkk : k' < k
            · exact (hd _ _ hr' hm').2 h1 ⟨hcd, c', k', Or.inr ⟨hl, by rw [rc_kb_0 (by omega)]; exact hkk⟩, hwp⟩
            · have : k' = k := by omega
              rw [hl, this] at hwp
              exact hv ⟨hzero.mpr ⟨h1, hcd.2.2⟩, hwp.2.2.2.2.2⟩
        · refine (hd r' m' hr' hm').2 h1 ⟨hcd, c', k', ?_, hwp⟩
          rcases hl with hl | ⟨hl, hl2⟩
          · exact Or.inl hl
          · refine Or.inr ⟨hl, ?_⟩
            by_cases hb : r' = dt_hr N c ∧ m' < m
            · rw [rc_kb_1 hb.1 hb.2]
              rw [rc_kb_1 hb.1 (by omega)] at hl2
              exact hl2
            · rw [rc_kb_0 hb]
              rw [rc_kb_0 (by omega)] at hl2
              exact hl2
      · obtain ⟨_, hv0, hvS⟩ := hv.resolve_right (fun h9 => h1 h9.1)
        have hdn : d (dt_hr N c) m = none ∧ N 15 (16 * dt_hr N c + m) = 0 := hzero.mp hv0
        have hcd : dt_cd N (dt_hr N c) m := ⟨hr, by omega, hdn.2⟩
        have hwp : dt_wp N c (dt_hr N c) m k := ⟨hc, h6, hvp.1, hvp.2.1, hvp.2.2.1, hvS⟩
        obtain ⟨a4, b4⟩ := cy_krh (ad := ad) (r := dt_hr N c) (j := 4) (by omega) (by decide) (by decide)
        obtain ⟨a5, b5⟩ := cy_krh (ad := ad) (r := dt_hr N c) (j := 5) (by omega) (by decide) (by decide)
        obtain ⟨a6, b6⟩ := cy_krh (ad := ad) (r := dt_hr N c) (j := 6) (by omega) (by decide) (by decide)
        obtain ⟨a7, b7⟩ := cy_krh (ad := ad) (r := dt_hr N c) (j := 7) (by omega) (by decide) (by decide)
        rw [cy_rr (by omega) (by decide) (by decide), cy_rr (by omega) (by decide) (by decide), cy_rr (by omega) (by decide) (by decide), cy_rr (by omega) (by decide) (by decide), show 5 - 1 = 4 from rfl, show 6 - 1 = 5 from rfl, show 7 - 1 = 6 from rfl, show 8 - 1 = 7 from rfl, in_c (by omega)]
        refine ⟨a4, by rw [b4]; exact vp_in_nI (by omega) (by decide), fun J1 hJ1 => ⟨a5, by rw [b5]; exact vp_in_nI (by omega) (by decide), fun J2 hJ2 => ?_⟩⟩
        have f1 : ∀ a, a ≠ 137 + 8 * dt_hr N c + 4 → J1 a = L a := fun a ha => by rw [hJ1]; exact ky_up_ne ha
        have f2 : ∀ a, a ≠ 137 + 8 * dt_hr N c + 5 → J2 a = J1 a := fun a ha => by rw [hJ2]; exact ky_up_ne ha
        have sk : ∀ (K : Mm), (∀ a, a < 131 ∨ 137 ≤ a → (∀ r j, r < 4 → 4 ≤ j → j < 8 → a ≠ 137 + 8 * r + j) → K a = L a) → rl_s K N := fun K hK => by
          have : rc_m I0 K N d → True := fun _ => trivial
          have hsL := hRL.s hs0 hw
          refine ⟨⟨?_, fun r hr => ?_, fun r hr => ?_, fun r k hr hk => ?_⟩, ?_, fun c hc => ?_, fun c h8 h9 => ?_⟩
          · rw [hK 0 (by omega) (fun r j _ _ _ => by omega)]; exact hsL.1.1
          · rw [hK (137 + 8 * r) (by omega) (fun r j _ _ _ => by omega)]; exact hsL.1.2.1 r hr
          · rw [hK (137 + 8 * r) (by omega) (fun r j _ _ _ => by omega)]; exact hsL.1.2.2.1 r hr
          · rw [hK (137 + 8 * r + 1) (by omega) (fun r j _ _ _ => by omega), hK (137 + 8 * r + 2) (by omega) (fun r j _ _ _ => by omega), hK (137 + 8 * r + 3) (by omega) (fun r j _ _ _ => by omega)]
            exact hsL.1.2.2.2 r k hr hk
          · rw [hK 0 (by omega) (fun r j _ _ _ => by omega)]; exact hsL.2.1
          · have q : ∀ x, 169 ≤ x → K x = L x := fun x hx => hK x (by omega) (fun r j _ _ _ => by omega)
            obtain ⟨h1, h2, h3, h4, h5, h6, h7⟩ := hsL.2.2.1 c hc
            exact ⟨by rw [q _ (by omega)]; exact h1, by rw [q _ (by omega)]; exact h2, by rw [q _ (by omega)]; exact h3, by rw [q _ (by omega)]; exact h4, by rw [q _ (by omega)]; exact h5, fun a ha => by rw [q _ (by omega)]; exact h6 a ha, cl_S_keep (q _ (by omega)) (q _ (by omega)) h7⟩
          · have q : ∀ x, 169 ≤ x → K x = L x := fun x hx => hK x (by omega) (fun r j _ _ _ => by omega)
            obtain ⟨h1, h2, h3⟩ := hsL.2.2.2 c h8 h9
            exact ⟨by rw [q _ (by omega)]; exact h1, by rw [q _ (by omega)]; exact h2, cl_S_keep (q _ (by omega)) (q _ (by omega)) h3⟩
        refine p_premise (a := 0) hw (sk J2 (fun a ha hb => by rw [f2 a (hb _ _ (by omega) (by decide) (by decide)), f1 a (hb _ _ (by omega) (by decide) (by decide))])) hc (by decide) hk9 ⟨a6, by rw [b6]; exact vp_in_nI (by omega) (by decide), fun J3 hJ3 => ?_⟩
        have f3 : ∀ a, a ≠ 137 + 8 * dt_hr N c + 6 → J3 a = J2 a := fun a ha => by rw [hJ3]; exact ky_up_ne ha
        refine p_premise (a := 1) hw (sk J3 (fun a ha hb => by rw [f3 a (hb _ _ (by omega) (by decide) (by decide)), f2 a (hb _ _ (by omega) (by decide) (by decide)), f1 a (hb _ _ (by omega) (by decide) (by decide))])) hc (by decide) hk9 ⟨a7, by rw [b7]; exact vp_in_nI (by omega) (by decide), fun J4 hJ4 => ?_⟩
        have f4 : ∀ a, a ≠ 137 + 8 * dt_hr N c + 7 → J4 a = J3 a := fun a ha => by rw [hJ4]; exact ky_up_ne ha
        intro x34 hx34 x35 hx35
        rw [hx34, hx35, in_s, in_s]
        have l0 : L 0 = I0 0 := hRL.1 0 (by omega) (fun r j _ _ _ => by omega)
        have g4 : J4 (137 + 8 * dt_hr N c + 4) = upd (L (137 + 8 * dt_hr N c + 4)) m (I0 0 4 + 1) := by rw [f4 _ (by omega), f3 _ (by omega), f2 _ (by omega), hJ1, ky_up_eq, l0]
        have g5 : J4 (137 + 8 * dt_hr N c + 5) = upd (L (137 + 8 * dt_hr N c + 5)) m (nI c) := by rw [f4 _ (by omega), f3 _ (by omega), hJ2, ky_up_eq, f1 _ (by omega)]
        have g6 : J4 (137 + 8 * dt_hr N c + 6) = upd (L (137 + 8 * dt_hr N c + 6)) m (dt_on N c 0 (k / 16)) := by rw [f4 _ (by omega), hJ3, ky_up_eq, f2 _ (by omega), f1 _ (by omega)]; rfl
        have g7 : J4 (137 + 8 * dt_hr N c + 7) = upd (L (137 + 8 * dt_hr N c + 7)) m (dt_on N c 1 (k % 16)) := by rw [hJ4, ky_up_eq, f3 _ (by omega), f2 _ (by omega), f1 _ (by omega)]; rfl
        have go : ∀ a, (∀ j, 4 ≤ j → j < 8 → a ≠ 137 + 8 * dt_hr N c + j) → J4 a = L a := fun a ha => by rw [f4 a (ha 7 (by decide) (by decide)), f3 a (ha 6 (by decide) (by decide)), f2 a (ha 5 (by decide) (by decide)), f1 a (ha 4 (by decide) (by decide))]
        have gm : ∀ m', m' ≠ m → ∀ j, 4 ≤ j → j < 8 → J4 (137 + 8 * dt_hr N c + j) m' = L (137 + 8 * dt_hr N c + j) m' := fun m' hm' j h1 h2 => by
          rcases (show j = 4 ∨ j = 5 ∨ j = 6 ∨ j = 7 by omega) with rfl | rfl | rfl | rfl
          · rw [g4]; unfold upd; rw [if_neg hm']
          · rw [g5]; unfold upd; rw [if_neg hm']
          · rw [g6]; unfold upd; rw [if_neg hm']
          · rw [g7]; unfold upd; rw [if_neg hm']
        have hcell : ∀ r' m', r' < 4 → m' < 16 → (r' ≠ dt_hr N c ∨ m' ≠ m) → ∀ j, 4 ≤ j → j < 8 → J4 (137 + 8 * r' + j) m' = L (137 + 8 * r' + j) m' := fun r' m' hr' hm' hne j h1 h2 => by
          by_cases hrr : r' = dt_hr N c
          · subst hrr
            exact gm m' (by omega) j h1 h2
          · rw [go (137 + 8 * r' + j) (fun j' _ _ => by omega)]
        refine ih (m + 1) (by omega) J4 (rc_up d (dt_hr N c) m (c, k)) (n + 1) ⟨fun a h1 h2 => ?_, fun r' m' hr' hm' => ⟨fun h1 j h2 h3 => ?_, fun c' k' h1 => ?_⟩⟩ (cl_S_keep (go 133 (fun j _ _ => by omega)) (go 134 (fun j _ _ => by omega)) hSL) (fun r' m' hr' hm' => ⟨fun c' k' h1 => ?_, fun h1 h2 => ?_⟩) ?_
        · rw [go a (fun j h3 h4 => h2 _ _ (by omega) h3 h4)]; exact hRL.1 a h1 h2
        · unfold rc_up at h1
          by_cases hb : r' = dt_hr N c ∧ m' = m
          · rw [if_pos hb] at h1; cases h1
          · rw [if_neg hb] at h1
            rw [hcell r' m' hr' hm' (by omega) j h2 h3]
            exact (hRL.2 r' m' hr' hm').1 h1 j h2 h3
        · unfold rc_up at h1
          by_cases hb : r' = dt_hr N c ∧ m' = m
          · rw [if_pos hb] at h1
            cases h1
            obtain ⟨rfl, rfl⟩ := hb
            rw [g4, g5, g6, g7]
            unfold upd
            rw [if_pos rfl, if_pos rfl, if_pos rfl, if_pos rfl]
            exact ⟨rfl, rfl, rfl, rfl⟩
          · rw [if_neg hb] at h1
            rw [hcell r' m' hr' hm' (by omega) 4 (by decide) (by decide), hcell r' m' hr' hm' (by omega) 5 (by decide) (by decide), hcell r' m' hr' hm' (by omega) 6 (by decide) (by decide), hcell r' m' hr' hm' (by omega) 7 (by decide) (by decide)]
            exact (hRL.2 r' m' hr' hm').2 c' k' h1
        · unfold rc_up at h1
          by_cases hb : r' = dt_hr N c ∧ m' = m
          · rw [if_pos hb] at h1
            cases h1
            obtain ⟨rfl, rfl⟩ := hb
            refine ⟨hcd, hwp, fun c' k' hl hwp' => (hd _ _ hr' hm').2 hdn.1 ⟨hcd, c', k', ?_, hwp'⟩⟩
            rw [rc_kb_0 (by omega)]
            exact hl
          · rw [if_neg hb] at h1
            exact (hd r' m' hr' hm').1 c' k' h1
        · unfold rc_up at h1
          by_cases hb : r' = dt_hr N c ∧ m' = m
          · rw [if_pos hb] at h1; cases h1
          · rw [if_neg hb] at h1
            obtain ⟨hcd', c', k', hl, hwp'⟩ := h2
            refine (hd r' m' hr' hm').2 h1 ⟨hcd', c', k', ?_, hwp'⟩
            rcases hl with hl | ⟨hl, hl2⟩
            · exact Or.inl hl
            · refine Or.inr ⟨hl, ?_⟩
              by_cases hb2 : r' = dt_hr N c ∧ m' < m
              · rw [rc_kb_1 hb2.1 hb2.2]
                rw [rc_kb_1 hb2.1 (by omega)] at hl2
                exact hl2
              · rw [rc_kb_0 hb2]
                rw [rc_kb_0 (by omega)] at hl2
                exact hl2
        · rw [rc_ct_up (by omega) (by omega) hdn.1 (d' := rc_up d (dt_hr N c) m (c, k)) (r := dt_hr N c) (m := m) (by unfold rc_up; rw [if_pos ⟨rfl, rfl⟩]; rfl) (fun r' m' _ _ hne => by unfold rc_up; rw [if_neg (by omega)]), hn]
          omega
