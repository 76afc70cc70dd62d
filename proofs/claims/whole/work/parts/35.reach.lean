/-! BOTH: a round reaches the same -/
set_option maxHeartbeats 2000000 in
theorem m_reach_L {ad : Nat → Nat} {N0 : Mm} (hw : dt_w N0) {post : Int32 → Mm → Prop} {ex : Nat → Int32 → Mm → Prop} (hk : ∀ (L : Mm) (d : Rd), rn_m N0 L d → dt_dn N0 d (dt_nc N0) (fun _ _ => 0) → ex 0 (nI (rc_ct d 64)) L) :
    ∀ (t i : Nat), i + t = 16 * dt_nr N0 → ∀ (J : Mm) (d : Rd), rn_m N0 J d → rn_ok N0 d → (∀ r m, r < 4 → m < 16 → 16 * r + m < i → d r m = none → ¬ (dt_cd N0 r m ∧ ∃ c k, dt_wp N0 c r m k)) → (∀ r m, r < 4 → m < 16 → i ≤ 16 * r + m → d r m = none) → w_X7_next_L79 (md_Y ad) post ex (t + 1) 0 (nI (rc_ct d 64)) (nI i) J := by
  have hr4 := hw.1.2.1
  intro t
  induction t with
  | zero =>
    intro i hi J d hR hok hdone hrest
    refine ⟨md_k0, ?_⟩
    rw [hR.2.1 1 (by decide) (by decide) (by decide), hw.1.1, in_mul16]
    refine ⟨fun _ => hk J d hR (fun r m hr hm => ⟨hok r m hr hm, fun h1 h2 => ?_⟩), fun h => ?_⟩
    · obtain ⟨hcd, c, k, _, hwp⟩ := h2
      have := hcd.1
      exact hdone r m hr hm (by omega) h1 ⟨hcd, c, k, hwp⟩
    · rw [in_le, in_n (by omega), in_n (by omega)] at h
      omega
  | succ t ih =>
    intro i hi J d hR hok hdone hrest
    have hw' := hR.w hw
    have hr : i / 16 < dt_nr N0 := by omega
    have nrJ : dt_nr J = dt_nr N0 := by unfold dt_nr; rw [hR.2.1 1 (by decide) (by decide) (by decide)]
    have nmJ : dt_nm J (i / 16) = dt_nm N0 (i / 16) := by unfold dt_nm; rw [hR.st (a := 2) (by decide) (by decide)]
    have h16 : 2 ^ dt_nm N0 (i / 16) ≤ 16 := dt_p16 (hw.1.2.2.2.1 (i / 16) (by omega)).2.1
    have e1 : nI i / (16 : Int32) = nI (i / 16) := pk_div (by omega) (by decide) (by decide)
    have e2 : nI i - nI i / (16 : Int32) * (16 : Int32) = nI (i % 16) := pk_rem (by omega) (by decide) (by decide)
    have ei : 16 * (i / 16) + i % 16 = i := by omega
    have hdi : d (i / 16) (i % 16) = none := hrest _ _ (by omega) (by omega) (by omega)
    have skip : ∀ L, rn_m N0 L d → ¬ (dt_cd N0 (i / 16) (i % 16) ∧ ∃ c k, dt_wp N0 c (i / 16) (i % 16) k) → ∀ x, x = nI i + 1 → w_X7_next_L79 (md_Y ad) post ex (t + 1) 0 (nI (rc_ct d 64)) x L := fun L hL hno x hx => by
      rw [hx, in_s]
      refine ih (i + 1) (by omega) L d hL hok (fun r m hr' hm h1 h2 => ?_) (fun r m hr' hm h1 => hrest r m hr' hm (by omega))
      by_cases h3 : 16 * r + m < i
      · exact hdone r m hr' hm h3 h2
      · have a1 : r = i / 16 := by omega
        have a2 : m = i % 16 := by omega
        rw [a1, a2]; exact hno
    refine ⟨md_k0, ?_⟩
    rw [hR.2.1 1 (by decide) (by decide) (by decide), hw.1.1, in_mul16, e2, e1]
    refine ⟨fun h => ?_, fun _ => m_cubesOf hw' (by rw [nrJ]; exact hr) ?_⟩
    · rw [in_le, in_n (by omega), in_n (by omega)] at h
      omega
    · rw [nmJ]
      refine ⟨fun h => skip J hR (fun h9 => ?_), fun h => ⟨md_k15, vp_in_nI (N := 64) (by omega) (by decide), ?_⟩⟩
      · rw [in_le, in_n (by omega), in_n (by omega)] at h
        have := h9.1.2.1
        omega
      · rw [in_le, in_n (by omega), in_n (by omega)] at h
        have hold : J 15 i = N0 15 i := by
          have := ((hR.2.2 (i / 16) (i % 16) (by omega) (by omega)).1 hdi).1
          rw [ei] at this
          exact this
        rw [md_r17, in_c (by omega), hold]
        refine ⟨fun h0 => skip J hR (fun h9 => h0 (by have := h9.1.2.2; rw [ei] at this; exact this)), fun h0 => ?_⟩
        have hcd : dt_cd N0 (i / 16) (i % 16) := ⟨hr, by omega, by rw [ei]; exact h0⟩
        have hgo := m_isReached (ad := ad) (post := fun r34 I33 => ((r34 = 0 → (∀ x35 : Int32, x35 = nI i + (1 : Int32) → w_X7_next_L79 (md_Y ad) post ex (t + 1) 0 (nI (rc_ct d 64)) x35 I33)) ∧ (¬ r34 = 0 → (∀ x36 : Int32, x36 = nI (rc_ct d 64) + (1 : Int32) → (∀ x37 : Int32, x37 = nI i + (1 : Int32) → w_X7_next_L79 (md_Y ad) post ex (t + 1) 0 x36 x37 I33))))) hw hR hok hcd hdi (fun L c k hL hle => ⟨fun h9 => absurd h9 (by decide), fun _ x36 hx36 x37 hx37 => ?_⟩) (fun L hL hno => ⟨fun _ => skip L hL (fun h9 => h9.2.elim fun c h8 => h8.elim fun k h7 => hno c k h7), fun h9 => absurd rfl h9⟩)
        · rw [ei] at hgo
          exact hgo
        · rw [hx36, hx37, in_s, in_s]
          have hct := rc_ct_up (d := d) (d' := rc_up d (i / 16) (i % 16) (c, k)) (r := i / 16) (m := i % 16) (by omega) (by omega) hdi (by unfold rc_up; rw [if_pos ⟨rfl, rfl⟩]; rfl) (fun r' m' _ _ hne => by unfold rc_up; rw [if_neg (by omega)])
          rw [← hct]
          refine ih (i + 1) (by omega) L (rc_up d (i / 16) (i % 16) (c, k)) hL (fun r m hr' hm c' k' h1 => ?_) (fun r m hr' hm h1 h2 => ?_) (fun r m hr' hm h1 => ?_)
          · unfold rc_up at h1
            by_cases hb : r = i / 16 ∧ m = i % 16
            · rw [if_pos hb] at h1
              cases h1
              rw [hb.1, hb.2]
              exact ⟨hcd, hle⟩
            · rw [if_neg hb] at h1
              exact hok r m hr' hm c' k' h1
          · unfold rc_up at h2
            by_cases hb : r = i / 16 ∧ m = i % 16
            · rw [if_pos hb] at h2; cases h2
            · rw [if_neg hb] at h2
              exact hdone r m hr' hm (by omega) h2
          · unfold rc_up
            rw [if_neg (by omega)]
            exact hrest r m hr' hm (by omega)
/-- what is reached is one thing -/
theorem dt_dn_eq {N : Mm} {d d' : Rd} (h : dt_dn N d (dt_nc N) (fun _ _ => 0)) (h' : dt_dn N d' (dt_nc N) (fun _ _ => 0)) {r m : Nat} (hr : r < 4) (hm : m < 16) : d r m = d' r m := by
  have key : ∀ {d d' : Rd}, dt_dn N d (dt_nc N) (fun _ _ => 0) → dt_dn N d' (dt_nc N) (fun _ _ => 0) → ∀ c k, d r m = some (c, k) → d' r m = some (c, k) := fun {d d'} h h' c k hs => by
    obtain ⟨hcd, hwp, hl⟩ := (h r m hr hm).1 c k hs
    cases hs' : d' r m with
    | none => exact absurd ⟨hcd, c, k, Or.inl hwp.1, hwp⟩ ((h' r m hr hm).2 hs')
    | some ck =>
      obtain ⟨c', k'⟩ := ck
      obtain ⟨_, hwp', hl'⟩ := (h' r m hr hm).1 c' k' hs'
      have q1 : ¬ dt_lx c k c' k' := fun h9 => hl c' k' h9 hwp'
      have q2 : ¬ dt_lx c' k' c k := fun h9 => hl' c k h9 hwp
      unfold dt_lx at q1 q2
      rw [show c' = c by omega, show k' = k by omega]
  cases hs : d r m with
  | none =>
    cases hs' : d' r m with
    | none => rfl
    | some ck => exact absurd (key h' h ck.1 ck.2 hs') (by rw [hs]; intro h9; cases h9)
  | some ck => exact (key h h' ck.1 ck.2 hs).symm
theorem rc_ct_eq {d d' : Rd} (h : ∀ r m, r < 4 → m < 16 → d r m = d' r m) : ∀ n, n ≤ 64 → rc_ct d n = rc_ct d' n := by
  intro n
  induction n with
  | zero => exact fun _ => rfl
  | succ n ih =>
    intro hn
    show rc_ct d n + (if (d (n / 16) (n % 16)).isSome = true then 1 else 0) = rc_ct d' n + (if (d' (n / 16) (n % 16)).isSome = true then 1 else 0)
    rw [ih (by omega), h (n / 16) (n % 16) (by omega) (by omega)]
/-- the least pair, by either way of counting -/
def dt_ls (N : Mm) (c : Nat) (ho : Option Nat) (p q : Nat) : Prop := p < dt_n1 N c ∧ q < dt_n2 N c ∧ dt_fd N c ho p q ∧ ∀ p' q', p' < dt_n1 N c → q' < dt_n2 N c → (p' < p ∨ (p' = p ∧ q' < q)) → ¬ dt_fd N c ho p' q'
theorem dt_ls_eq {N : Mm} {c : Nat} {ho : Option Nat} {p q p' q' : Nat} (h : dt_ls N c ho p q) (h' : dt_ls N c ho p' q') : p = p' ∧ q = q' := by
  have q1 : ¬ (p' < p ∨ (p' = p ∧ q' < q)) := fun h9 => h.2.2.2 p' q' h'.1 h'.2.1 h9 h'.2.2.1
  have q2 : ¬ (p < p' ∨ (p = p' ∧ q < q')) := fun h9 => h'.2.2.2 p q h.1 h.2.1 h9 h.2.2.1
  omega
theorem dt_ls_16 {N : Mm} {c k : Nat} (hvp : dt_vp N c k) (hno : ∀ k', 0 ≤ k' → k' < k → ¬ dt_vp N c k') (hn2 : dt_n2 N c ≤ 16) : dt_ls N c none (k / 16) (k % 16) :=
  ⟨hvp.1, hvp.2.1, hvp.2.2, fun p' q' h1 h2 h3 h4 => hno (16 * p' + q') (Nat.zero_le _) (by omega) ⟨by rw [show (16 * p' + q') / 16 = p' by omega]; exact h1, by rw [show (16 * p' + q') % 16 = q' by omega]; exact h2, by rw [show (16 * p' + q') / 16 = p' by omega, show (16 * p' + q') % 16 = q' by omega]; exact h4⟩⟩
theorem dt_ls_n {N : Mm} {c : Nat} {ho : Option Nat} {k : Nat} (hk : k < dt_n1 N c * dt_n2 N c) (hfd : dt_fd N c ho (k / dt_n2 N c) (k % dt_n2 N c)) (hno : ∀ k', k' < k → ¬ dt_fd N c ho (k' / dt_n2 N c) (k' % dt_n2 N c)) : dt_ls N c ho (k / dt_n2 N c) (k % dt_n2 N c) :=
  ⟨(dt_pq hk).1, (dt_pq hk).2, hfd, fun p' q' h1 h2 h3 h4 => by
    obtain ⟨x1, x2, x3⟩ := dt_pair_no (k := k) h1 h2 h3
    have := hno _ x1
    rw [x2, x3] at this
    exact this h4⟩
/-- no pair, by either way of counting -/
theorem dt_no_n {N : Mm} {c : Nat} {ho : Option Nat} (h : ∀ k, k < dt_n1 N c * dt_n2 N c → ¬ dt_fd N c ho (k / dt_n2 N c) (k % dt_n2 N c)) {p q : Nat} (hp : p < dt_n1 N c) (hq : q < dt_n2 N c) : ¬ dt_fd N c ho p q := fun h9 => by
  have hpos : 0 < dt_n2 N c := by omega
  have hlt : p * dt_n2 N c + q < dt_n1 N c * dt_n2 N c := by
    have : (p + 1) * dt_n2 N c ≤ dt_n1 N c * dt_n2 N c := Nat.mul_le_mul_right _ hp
    rw [Nat.add_mul, Nat.one_mul] at this
    omega
  have := h _ hlt
  rw [Nat.add_comm, Nat.add_mul_div_right _ _ hpos, Nat.div_eq_of_lt hq, Nat.zero_add, Nat.add_mul_mod_self_right, Nat.mod_eq_of_lt hq] at this
  exact this h9
