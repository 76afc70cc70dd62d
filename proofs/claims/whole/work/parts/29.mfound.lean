/-! THE REFERENCE: fits, isFound -/
theorem in_shl {n : Nat} (h : n ≤ 4) : (1 : Int32) <<< (nI n &&& 31) = nI (2 ^ n) := by
  have := pk_shlN (n := 1) (nI n &&& 31) n (in_sc n (by omega)) (by
    have : 2 ^ n ≤ 2 ^ 4 := Nat.pow_le_pow_right (by decide) h
    omega)
  rw [show nI 1 = (1 : Int32) from rfl] at this
  rw [this]
  congr 1
  omega
theorem dt_p16 {n : Nat} (h : n ≤ 4) : 2 ^ n ≤ 16 := by
  have : 2 ^ n ≤ 2 ^ 4 := Nat.pow_le_pow_right (by decide) h
  omega
theorem m_cubesOf {ad : Nat → Nat} {N : Mm} (hw : dt_w N) {r : Nat} (hr : r < dt_nr N) {post : Int32 → Mm → Prop} (hk : post (nI (2 ^ dt_nm N r)) N) : w_X7_cubesOf (md_Y ad) N 0 (nI r) post := by
  obtain ⟨_, h4, _, hn, _⟩ := hw.1
  refine ⟨md_k0, md_k2, vp_in_nI (N := 4) (by omega) (by decide), ?_⟩
  rw [md_r3, in_c (by omega), (hn r (by omega)).1, in_shl (hn r (by omega)).2.1]
  exact hk
def dt_full (N : Mm) (c p q : Nat) : Option Nat → List Ed
  | none => dt_body N c p q (dt_na N c)
  | some h => dt_body N c p q (dt_na N c) ++ dt_hE N c h
/-- the head's cube as fits takes it -/
def dt_ho (N : Mm) (c : Nat) (v : Int32) : Option Nat → Prop
  | none => v = -1
  | some h => v = nI h ∧ h < 16 ∧ N 6 c = nI (dt_hr N c) ∧ dt_hr N c < dt_nr N
theorem dt_full_ok {N : Mm} (hw : dt_w N) {c p q : Nat} (hc : c < dt_nc N) {v : Int32} : ∀ {ho : Option Nat}, dt_ho N c v ho → cl_sm 1001 (dt_full N c p q ho)
  | none, _ => dt_body_ok hw hc _ (Nat.le_refl _)
  | some h, h9 => by
    have h2 := (hw.2.2.2 c hc).2.1
    exact cl_sm_app (dt_body_ok hw hc _ (Nat.le_refl _)) (dt_cE_ok hw h9.2.2.2 (by have := (h2 0 (by decide)).2; omega) (by have := (h2 1 (by decide)).2; omega))
theorem md_F.body {N J : Mm} (h : md_F N J) : dt_body J = dt_body N := by
  funext c p q a
  induction a with
  | zero => unfold dt_body; rw [h.bE]
  | succ a ih =>
    unfold dt_body
    rw [ih]
    unfold dt_aE dt_ar dt_av
    rw [h.cE, h.1 9 (by decide) (by decide) (by decide) (by decide) (by decide), h.1 10 (by decide) (by decide) (by decide) (by decide) (by decide)]
theorem md_F.hE {N J : Mm} (h : md_F N J) : dt_hE J = dt_hE N := by
  funext c k
  unfold dt_hE dt_hr dt_hv
  rw [h.cE, h.1 6 (by decide) (by decide) (by decide) (by decide) (by decide), h.1 7 (by decide) (by decide) (by decide) (by decide) (by decide)]
theorem dt_cE_len {N : Mm} (hw : dt_w N) {r z x y m : Nat} (hr : r < 4) : (dt_cE N r z x y m).length ≤ 4 := by
  unfold dt_cE
  rw [List.length_map, List.length_range]
  exact (hw.1.2.2.2.1 r hr).2.1
theorem dt_body_len {N : Mm} (hw : dt_w N) {c p q : Nat} (hc : c < dt_nc N) : ∀ a, a ≤ dt_na N c → (dt_body N c p q a).length ≤ 8 + 4 * a := by
  intro a
  induction a with
  | zero =>
    intro _
    show (dt_bE N c 0 5).length ≤ _
    unfold dt_bE
    rw [List.length_map, List.length_range]
    exact (hw.2.2.2 c hc).2.2.2.2.2.2.1
  | succ a ih =>
    intro ha
    have h1 := ih (by omega)
    have h2 := ((hw.2.2.2 c hc).2.2.2.2.1 a (by omega)).2.1
    have h3 := hw.1.2.1
    show (dt_body N c p q a ++ dt_aE N c p q a).length ≤ _
    rw [List.length_append]
    have : (dt_aE N c p q a).length ≤ 4 := dt_cE_len hw (by omega)
    omega
set_option maxHeartbeats 2000000 in
theorem m_fits_L {ad : Nat → Nat} {N0 : Mm} {c p q : Nat} (hw : dt_w N0) (hc : c < dt_nc N0) (hp : p < 16) (hq : q < 16) {v4 : Int32} {post : Int32 → Mm → Prop} {ex : Nat → Int32 → Int32 → Mm → Prop} (hk : ∀ J, md_F N0 J → md_E J (dt_body N0 c p q (dt_na N0 c)) → ex 0 (nI c) v4 J) : ∀ (n a : Nat), a + n = dt_na N0 c → ∀ N : Mm, md_F N0 N → md_E N (dt_body N0 c p q a) → w_X7_fits_L15 (md_Y ad) post ex (n + 1) 0 (nI c) (nI p) (nI q) v4 (nI a) N := by
  have hcc := hw.2.2.2 c hc
  have h12 := hw.2.2.1
  obtain ⟨_, _, ha1, ha2, ha3, _⟩ := hcc
  intro n
  induction n with
  | zero =>
    intro a han N hF hE
    have e8 : N 8 = N0 8 := hF.1 8 (by decide) (by decide) (by decide) (by decide) (by decide)
    refine ⟨md_k0, md_k8, vp_in_nI (N := 12) (by omega) (by decide), ?_⟩
    rw [md_r10, in_c (by omega), e8, ha1]
    refine ⟨fun _ => hk N hF (by rw [← show a = dt_na N0 c by omega]; exact hE), fun h => ?_⟩
    rw [in_le, in_n (by omega), in_n (by omega)] at h
    omega
  | succ n ih =>
    intro a han N hF hE
    have e8 : N 8 = N0 8 := hF.1 8 (by decide) (by decide) (by decide) (by decide) (by decide)
    have e9 : N 9 = N0 9 := hF.1 9 (by decide) (by decide) (by decide) (by decide) (by decide)
    have e10 : N 10 = N0 10 := hF.1 10 (by decide) (by decide) (by decide) (by decide) (by decide)
    obtain ⟨g1, g2, g3⟩ := ha3 a (by omega)
    have blen := dt_body_len (p := p) (q := q) hw hc a (by omega)
    have b52 : ∀ m, m = (if a = 0 then p else q) → w_X7_fits_B52 (md_Y ad) post (fun k0 v1 v2 v3 v4 v5 J => w_X7_fits_L15 (md_Y ad) post ex (n + 1) k0 v1 v2 v3 v4 v5 J) ex 0 (nI c) (nI p) (nI q) v4 (nI a) (nI (2 * c + a)) (nI m) (nI (dt_ar N0 c a)) 0 N := fun m hm => by
      refine ⟨md_k0, md_k10, by rw [in_mul2]; exact vp_in_nI (N := 48) (by omega) (by decide), ?_⟩
      rw [md_r12, in_mul2, in_s, in_c (by omega), in_c (by omega), e10]
      refine ⟨vp_in_nI (N := 48) (by omega) (by decide), md_k0, ?_⟩
      have x0 := (g3 0 (by decide)).1
      have x1 := (g3 1 (by decide)).1
      rw [Nat.add_zero] at x0
      rw [x0, x1]
      have hm16 : m < 16 := by rw [hm]; split; exact hp; exact hq
      have hr9 : dt_ar N0 c a < dt_nr N := by
        have : dt_nr N = dt_nr N0 := by unfold dt_nr; rw [hF.2 1 (by decide)]
        rw [this]; exact g2
      refine m_addCube (z := 5) (hF.w hw) hr9 hm16 hE (by omega) (fun J hJ hEJ x hx => ?_)
      rw [hx, in_s]
      refine ih (a + 1) (by omega) J (hF.tr hJ) ?_
      rw [hF.cE] at hEJ
      show md_E J (dt_body N0 c p q a ++ dt_aE N0 c p q a)
      unfold dt_aE
      rw [← hm]
      exact hEJ
    refine ⟨md_k0, md_k8, vp_in_nI (N := 12) (by omega) (by decide), ?_⟩
    rw [md_r10, in_c (by omega), e8, ha1]
    refine ⟨fun h => ?_, fun _ x7 hx7 => ⟨md_k9, ?_⟩⟩
    · rw [in_le, in_n (by omega), in_n (by omega)] at h
      omega
    · rw [in_mul2, nI_add] at hx7
      rw [hx7, md_r11, in_c (by omega), e9, g1]
      refine ⟨vp_in_nI (N := 24) (by omega) (by decide), fun h => ?_, fun h => ?_⟩
      · rw [in_e0 (by omega)] at h
        exact b52 q (by rw [if_neg h])
      · rw [in_e0 (by omega)] at h
        exact b52 p (by rw [if_pos h])
set_option maxHeartbeats 2000000 in
theorem m_fits {ad : Nat → Nat} {N : Mm} {c p q : Nat} (hw : dt_w N) (hc : c < dt_nc N) (hp : p < 16) (hq : q < 16) {v4 : Int32} {ho : Option Nat} (hho : dt_ho N c v4 ho) {post : Int32 → Mm → Prop} (hk : ∀ (J : Mm) (r : Int32), md_F N J → ((r = 1 ∧ df_S (dt_full N c p q ho)) ∨ (r = 0 ∧ ¬ df_S (dt_full N c p q ho))) → post r J) : w_X7_fits (md_Y ad) N 0 (nI c) (nI p) (nI q) v4 post := by
  have h12 := hw.2.2.1
  have hna := (hw.2.2.2 c hc).2.2.2.1
  refine ⟨md_k0, fun I hI => ?_⟩
  have hF : md_F N I := ⟨fun a h0 _ _ _ _ => by rw [hI]; exact ky_up_ne h0, fun j hj => by rw [hI, ky_up_eq]; unfold upd; rw [if_neg hj]⟩
  have hE0 : md_E I [] := ⟨by rw [hI, ky_up_eq]; unfold upd; rw [if_pos rfl]; rfl, by decide, fun k e he => by cases he⟩
  have nc : dt_nc I = dt_nc N := by unfold dt_nc; rw [hF.2 7 (by decide)]
  have hnb : dt_nb I c ≤ 8 := by
    have : dt_nb I c = dt_nb N c := by unfold dt_nb; rw [hF.1 11 (by decide) (by decide) (by decide) (by decide) (by decide)]
    rw [this]; exact (hw.2.2.2 c hc).2.2.2.2.2.2.1
  refine m_addBounds (z := 5) (at9 := 0) (hF.w hw) (by rw [nc]; exact hc) (by decide) (by decide) hE0 (by show 0 + _ ≤ 800; omega) (fun J hJ hEJ => ?_)
  have hF2 := hF.tr hJ
  rw [hF.bE, List.nil_append] at hEJ
  have last : ∀ (L : Mm) (F : List Ed), md_F N L → F = dt_full N c p q ho → md_E L F → w_X7_fits_B118 (md_Y ad) post 0 L := fun L F hFL hFF hEL => by
    subst hFF
    refine ⟨md_k0, m_holds (nv := 6) (dt_full_ok hw hc hho).md hEL (fun K r hK hr => ⟨hr.elim (fun h => Or.inr h.1) (fun h => Or.inl h.1), hk K r (hFL.tr (md_F.of22 hK)) hr⟩)⟩
  refine ⟨dt_na N c + 1, m_fits_L hw hc hp hq (fun L hFL hEL => ?_) (dt_na N c) 0 (by omega) J hF2 hEJ⟩
  cases ho with
  | none =>
    have hv : v4 = -1 := hho
    refine ⟨fun _ => last L _ hFL rfl hEL, fun h => absurd ?_ h⟩
    rw [hv]; decide
  | some h =>
    obtain ⟨hv, hh, h6, hr⟩ := hho
    obtain ⟨x0, x0'⟩ := (hw.2.2.2 c hc).2.1 0 (by decide)
    obtain ⟨x1, x1'⟩ := (hw.2.2.2 c hc).2.1 1 (by decide)
    rw [Nat.add_zero] at x0
    have e6 : L 6 = N 6 := hFL.1 6 (by decide) (by decide) (by decide) (by decide) (by decide)
    have e7 : L 7 = N 7 := hFL.1 7 (by decide) (by decide) (by decide) (by decide) (by decide)
    refine ⟨fun h9 => ?_, fun _ => ⟨md_k0, md_k6, vp_in_nI (N := 12) (by omega) (by decide), md_k7, by rw [in_mul2]; exact vp_in_nI (N := 24) (by omega) (by decide), ?_⟩⟩
    · rw [hv, in_lt, in_n (by omega), in_0] at h9
      omega
    · rw [md_r8, md_r9, in_mul2, in_s, in_c (by omega), in_c (by omega), in_c (by omega), e6, e7, h6, x0, x1, hv]
      refine ⟨vp_in_nI (N := 24) (by omega) (by decide), m_addCube (z := 5) (hFL.w hw) ?_ hh hEL ?_ (fun K hK hEK => last K _ (hFL.tr hK) ?_ hEK)⟩
      · have : dt_nr L = dt_nr N := by unfold dt_nr; rw [hFL.2 1 (by decide)]
        rw [this]; exact hr
      · have := dt_body_len (p := p) (q := q) hw hc (dt_na N c) (Nat.le_refl _)
        omega
      · rw [hFL.cE]; rfl
/-- a state that was reached in a round before this one -/
def dt_bf (N : Mm) (r p : Nat) : Prop := 0 < (N 15 (16 * r + p)).toInt ∧ (N 15 (16 * r + p)).toInt < (N 0 20).toInt
theorem m_isBefore {ad : Nat → Nat} {N : Mm} {r p : Nat} (hr : r < 4) (hp : p < 16) {post : Int32 → Mm → Prop} (hk : ∀ v : Int32, (v = 1 ∧ dt_bf N r p) ∨ (v = 0 ∧ ¬ dt_bf N r p) → post v N) : w_X7_isBefore (md_Y ad) N 0 (nI r) (nI p) post := by
  refine ⟨md_k0, md_k15, by rw [in_mul16, nI_add]; exact vp_in_nI (N := 64) (by omega) (by decide), fun x hx => ?_⟩
  rw [md_r17, in_mul16, nI_add, in_c (by omega)] at hx
  refine ⟨fun h => hk 0 (Or.inr ⟨rfl, fun h9 => ?_⟩), fun h => ⟨fun h2 => hk 0 (Or.inr ⟨rfl, fun h9 => ?_⟩), fun h2 => hk 1 (Or.inl ⟨rfl, ?_, ?_⟩)⟩⟩
  · rw [in_le, in_0, hx] at h
    have := h9.1; omega
  · rw [in_le, hx] at h2
    have := h9.2; omega
  · rw [in_le, in_0, hx] at h
    omega
  · rw [in_le, hx] at h2
    omega
/-- the states that a clause asks for its atoms are there -/
def dt_th (N : Mm) (c p q : Nat) : Prop := (0 < dt_na N c → dt_bf N (dt_ar N c 0) p) ∧ (1 < dt_na N c → dt_bf N (dt_ar N c 1) q)
/-- .. and all holds together -/
def dt_fd (N : Mm) (c : Nat) (ho : Option Nat) (p q : Nat) : Prop := dt_th N c p q ∧ df_S (dt_full N c p q ho)
def dt_n1 (N : Mm) (c : Nat) : Nat := if 0 < dt_na N c then 2 ^ dt_nm N (dt_ar N c 0) else 1
def dt_n2 (N : Mm) (c : Nat) : Nat := if 1 < dt_na N c then 2 ^ dt_nm N (dt_ar N c 1) else 1
/-- the premises as they are kept -/
def dt_on (N : Mm) (c a x : Nat) : Int32 := if a < dt_na N c then nI x else -1
/-- rows for counting, and one, two -/
def md_G (N J : Mm) : Prop := (∀ a, a ≠ 0 → a ≠ 19 → a ≠ 20 → a ≠ 21 → a ≠ 22 → J a = N a) ∧ ∀ j, j ≠ 25 → j ≠ 37 → j ≠ 38 → J 0 j = N 0 j
theorem md_F.G {N J : Mm} (h : md_F N J) : md_G N J := ⟨h.1, fun j h1 _ _ => h.2 j h1⟩
theorem md_F.th {N J : Mm} (h : md_F N J) : dt_th J = dt_th N := by
  funext c p q
  unfold dt_th dt_bf dt_na dt_ar
  rw [h.2 20 (by decide), h.1 8 (by decide) (by decide) (by decide) (by decide) (by decide), h.1 9 (by decide) (by decide) (by decide) (by decide) (by decide), h.1 15 (by decide) (by decide) (by decide) (by decide) (by decide)]
theorem md_F.full {N J : Mm} (h : md_F N J) : dt_full J = dt_full N := by
  funext c p q ho
  cases ho with
  | none => unfold dt_full dt_na; rw [h.body, h.1 8 (by decide) (by decide) (by decide) (by decide) (by decide)]
  | some x => unfold dt_full dt_na; rw [h.body, h.hE, h.1 8 (by decide) (by decide) (by decide) (by decide) (by decide)]
theorem md_F.ho {N J : Mm} (h : md_F N J) {c : Nat} {v : Int32} {ho : Option Nat} (h9 : dt_ho N c v ho) : dt_ho J c v ho := by
  cases ho with
  | none => exact h9
  | some x =>
    unfold dt_ho dt_hr dt_nr
    rw [h.2 1 (by decide), h.1 6 (by decide) (by decide) (by decide) (by decide) (by decide)]
    exact h9
theorem dt_pq {n1 n2 k : Nat} (hk : k < n1 * n2) : k / n2 < n1 ∧ k % n2 < n2 := by
  have h2 : 0 < n2 := by
    rcases Nat.eq_zero_or_pos n2 with h | h
    · rw [h, Nat.mul_zero] at hk; omega
    · exact h
  exact ⟨Nat.div_lt_of_lt_mul (by rw [Nat.mul_comm]; exact hk), Nat.mod_lt _ h2⟩
set_option maxHeartbeats 2000000 in
theorem m_found_L {ad : Nat → Nat} {N0 : Mm} {c : Nat} (hw : dt_w N0) (hc : c < dt_nc N0) {v2 : Int32} {ho : Option Nat} (hho : dt_ho N0 c v2 ho) {n1 n2 : Nat} (h1 : n1 ≤ 16) (h2 : n2 ≤ 16) {post : Int32 → Mm → Prop} {ex1 : Nat → Int32 → Int32 → Int32 → Mm → Prop} {ex2 : Mm → Prop}
    (hk1 : ∀ (J : Mm) (k : Nat), md_F N0 J → k < n1 * n2 → dt_fd N0 c ho (k / n2) (k % n2) → (∀ k', k' < k → ¬ dt_fd N0 c ho (k' / n2) (k' % n2)) → ex1 0 (nI c) (nI (k / n2)) (nI (k % n2)) J) (hk2 : ∀ J : Mm, md_F N0 J → (∀ k', k' < n1 * n2 → ¬ dt_fd N0 c ho (k' / n2) (k' % n2)) → ex2 J) :
    ∀ (n k : Nat), k + n = n1 * n2 → ∀ N : Mm, md_F N0 N → (∀ k', k' < k → ¬ dt_fd N0 c ho (k' / n2) (k' % n2)) → w_X7_isFound_L59 (md_Y ad) post ex1 ex2 (n + 1) 0 (nI c) v2 (nI n1) (nI n2) (nI k) N := by
  have hcc := hw.2.2.2 c hc
  have h12 := hw.2.2.1
  have hr4 := hw.1.2.1
  obtain ⟨_, _, ha1, ha2, ha3, _⟩ := hcc
  have hmul : n1 * n2 ≤ 256 := Nat.mul_le_mul h1 h2
  have emul : nI n1 * nI n2 = nI (n1 * n2) := pk_mul n1 n2
  intro n
  induction n with
  | zero =>
    intro k hk N hF hno
    refine ⟨fun _ => hk2 N hF (by rw [← show k = n1 * n2 by omega]; exact hno), fun h => ?_⟩
    rw [emul, in_le, in_n (by omega), in_n (by omega)] at h
    omega
  | succ n ih =>
    intro k hk N hF hno
    have hkl : k < n1 * n2 := by omega
    obtain ⟨hp, hq⟩ := dt_pq hkl
    have h20 : 0 < n2 := by omega
    have e8 : N 8 = N0 8 := hF.1 8 (by decide) (by decide) (by decide) (by decide) (by decide)
    have e9 : N 9 = N0 9 := hF.1 9 (by decide) (by decide) (by decide) (by decide) (by decide)
    have next : ∀ J, md_F N0 J → ¬ dt_fd N0 c ho (k / n2) (k % n2) → ∀ x, x = nI k + 1 → w_X7_isFound_L59 (md_Y ad) post ex1 ex2 (n + 1) 0 (nI c) v2 (nI n1) (nI n2) x J := fun J hJ hn x hx => by
      rw [hx, in_s]
      refine ih (k + 1) (by omega) J hJ (fun k' hk' => ?_)
      rcases Nat.lt_succ_iff_lt_or_eq.mp hk' with h | rfl
      · exact hno k' h
      · exact hn
    have b155 : ∀ s0 : Int32, (s0 = 1 ∧ dt_th N0 c (k / n2) (k % n2)) ∨ (s0 = 0 ∧ ¬ dt_th N0 c (k / n2) (k % n2)) → w_X7_isFound_B155 (md_Y ad) post (fun k0 v1 v2 v3 v4 v5 J => w_X7_isFound_L59 (md_Y ad) post ex1 ex2 (n + 1) k0 v1 v2 v3 v4 v5 J) ex1 ex2 0 (nI c) v2 (nI n1) (nI n2) (nI k) (nI (k / n2)) (nI (k % n2)) s0 N := fun s0 hs => by
      refine ⟨fun h => ?_, fun h => ⟨md_k0, ?_⟩⟩
      · rcases hs with ⟨hs, _⟩ | ⟨_, hs⟩
        · rw [hs] at h; exact absurd h (by decide)
        · exact next N hF (fun h9 => hs h9.1)
      · rcases hs with ⟨_, hs⟩ | ⟨hs, _⟩
        · have nc : dt_nc N = dt_nc N0 := by unfold dt_nc; rw [hF.2 7 (by decide)]
          refine m_fits (hF.w hw) (by rw [nc]; exact hc) (by omega) (by omega) (hF.ho hho) (fun J r hJ hr => ⟨fun h9 => ?_, fun h9 => ?_⟩)
          · rcases hr with ⟨hr, _⟩ | ⟨_, hr⟩
            · rw [hr] at h9; exact absurd h9 (by decide)
            · rw [hF.full] at hr
              exact next J (hF.tr hJ) (fun h8 => hr h8.2)
          · rcases hr with ⟨_, hr⟩ | ⟨hr, _⟩
            · rw [hF.full] at hr
              exact hk1 J k (hF.tr hJ) hkl ⟨hs, hr⟩ hno
            · exact absurd hr h9
        · exact absurd hs h
    have b114 : ∀ s0 : Int32, (s0 = 1 ∧ (0 < dt_na N0 c → dt_bf N0 (dt_ar N0 c 0) (k / n2))) ∨ (s0 = 0 ∧ ¬ (0 < dt_na N0 c → dt_bf N0 (dt_ar N0 c 0) (k / n2))) → w_X7_isFound_B114 (md_Y ad) post (fun k0 v1 v2 v3 v4 v5 J => w_X7_isFound_L59 (md_Y ad) post ex1 ex2 (n + 1) k0 v1 v2 v3 v4 v5 J) ex1 ex2 0 (nI c) v2 (nI n1) (nI n2) (nI k) (nI (k / n2)) (nI (k % n2)) s0 N := fun s0 hs => by
      refine ⟨fun h => b155 0 (Or.inr ⟨rfl, fun h9 => ?_⟩), fun h => ⟨md_k0, md_k8, vp_in_nI (N := 12) (by omega) (by decide), ?_⟩⟩
      · rcases hs with ⟨hs, _⟩ | ⟨_, hs⟩
        · rw [hs] at h; exact absurd h (by decide)
        · exact hs h9.1
      · have hs1 : 0 < dt_na N0 c → dt_bf N0 (dt_ar N0 c 0) (k / n2) := hs.elim (fun h9 => h9.2) (fun h9 => absurd h9.1 h)
        rw [md_r10, in_c (by omega), e8, ha1]
        refine ⟨fun h9 => b155 1 (Or.inl ⟨rfl, hs1, fun h8 => ?_⟩), fun h9 => ⟨md_k9, by rw [in_mul2, in_s]; exact vp_in_nI (N := 24) (by omega) (by decide), ?_⟩⟩
        · rw [in_lt, in_n (by omega)] at h9
          have : (2 : Int32).toInt = 2 := by decide
          omega
        · rw [in_lt, in_n (by omega)] at h9
          have : (2 : Int32).toInt = 2 := by decide
          have hna1 : 1 < dt_na N0 c := by omega
          obtain ⟨g1, g2, _⟩ := ha3 1 hna1
          rw [md_r11, in_mul2, in_s, in_c (by omega), e9, g1]
          have hbf : dt_bf N = dt_bf N0 := by funext r p; unfold dt_bf; rw [hF.2 20 (by decide), hF.1 15 (by decide) (by decide) (by decide) (by decide) (by decide)]
          refine m_isBefore (by omega) (by omega) (fun v hv => ⟨fun h7 => b155 0 (Or.inr ⟨rfl, fun h6 => ?_⟩), fun h7 => b155 1 (Or.inl ⟨rfl, hs1, fun _ => ?_⟩)⟩)
          · rcases hv with ⟨hv, _⟩ | ⟨_, hv⟩
            · rw [hv] at h7; exact absurd h7 (by decide)
            · rw [hbf] at hv; exact hv (h6.2 hna1)
          · rcases hv with ⟨_, hv⟩ | ⟨hv, _⟩
            · rw [hbf] at hv; exact hv
            · exact absurd hv h7
    refine ⟨fun h => ?_, fun _ => ⟨fun h => ?_, fun x8 hx8 x9 hx9 => ⟨md_k0, md_k8, vp_in_nI (N := 12) (by omega) (by decide), ?_⟩⟩⟩
    · rw [emul, in_le, in_n (by omega), in_n (by omega)] at h
      omega
    · rw [in_e0 (by omega)] at h; omega
    · rw [pk_div (by omega) h20 (by omega)] at hx8
      rw [pk_rem (by omega) h20 (by omega)] at hx9
      rw [hx8, hx9, md_r10, in_c (by omega), e8, ha1]
      refine ⟨fun h9 => b114 1 (Or.inl ⟨rfl, fun h8 => ?_⟩), fun h9 => ⟨md_k9, by rw [in_mul2]; exact vp_in_nI (N := 24) (by omega) (by decide), ?_⟩⟩
      · rw [in_lt, in_n (by omega), in_1] at h9
        omega
      · rw [in_lt, in_n (by omega), in_1] at h9
        have hna0 : 0 < dt_na N0 c := by omega
        obtain ⟨g1, g2, _⟩ := ha3 0 hna0
        rw [Nat.add_zero] at g1
        rw [md_r11, in_mul2, in_c (by omega), e9, g1]
        have hbf : dt_bf N = dt_bf N0 := by funext r p; unfold dt_bf; rw [hF.2 20 (by decide), hF.1 15 (by decide) (by decide) (by decide) (by decide) (by decide)]
        refine m_isBefore (by omega) (by omega) (fun v hv => ⟨fun h7 => b114 0 (Or.inr ⟨rfl, fun h6 => ?_⟩), fun h7 => b114 1 (Or.inl ⟨rfl, fun _ => ?_⟩)⟩)
        · rcases hv with ⟨hv, _⟩ | ⟨_, hv⟩
          · rw [hv] at h7; exact absurd h7 (by decide)
          · rw [hbf] at hv; exact hv (h6 hna0)
        · rcases hv with ⟨_, hv⟩ | ⟨hv, _⟩
          · rw [hbf] at hv; exact hv
          · exact absurd hv h7
/-- what isFound answers -/
def dt_fr (N : Mm) (c : Nat) (ho : Option Nat) (r : Int32) (J : Mm) : Prop :=
  (r = 1 ∧ ∃ k, k < dt_n1 N c * dt_n2 N c ∧ dt_fd N c ho (k / dt_n2 N c) (k % dt_n2 N c) ∧ (∀ k', k' < k → ¬ dt_fd N c ho (k' / dt_n2 N c) (k' % dt_n2 N c)) ∧ J 0 37 = dt_on N c 0 (k / dt_n2 N c) ∧ J 0 38 = dt_on N c 1 (k % dt_n2 N c)) ∨
  (r = 0 ∧ ∀ k, k < dt_n1 N c * dt_n2 N c → ¬ dt_fd N c ho (k / dt_n2 N c) (k % dt_n2 N c))
theorem dt_n1_le {N : Mm} (hw : dt_w N) {c : Nat} (hc : c < dt_nc N) : 1 ≤ dt_n1 N c ∧ dt_n1 N c ≤ 16 ∧ 1 ≤ dt_n2 N c ∧ dt_n2 N c ≤ 16 := by
  have hr4 := hw.1.2.1
  have ha3 := (hw.2.2.2 c hc).2.2.2.2.1
  unfold dt_n1 dt_n2
  have key : ∀ a, a < dt_na N c → 1 ≤ 2 ^ dt_nm N (dt_ar N c a) ∧ 2 ^ dt_nm N (dt_ar N c a) ≤ 16 := fun a ha => ⟨Nat.one_le_two_pow, dt_p16 (hw.1.2.2.2.1 _ (by have := (ha3 a ha).2.1; omega)).2.1⟩
  refine ⟨?_, ?_, ?_, ?_⟩
  all_goals split
  all_goals first | exact (key _ (by assumption)).1 | exact (key _ (by assumption)).2 | decide
set_option maxHeartbeats 2000000 in
theorem m_isFound {ad : Nat → Nat} {N : Mm} {c : Nat} (hw : dt_w N) (hc : c < dt_nc N) {v2 : Int32} {ho : Option Nat} (hho : dt_ho N c v2 ho) {post : Int32 → Mm → Prop} (hk : ∀ (J : Mm) (r : Int32), md_G N J → dt_fr N c ho r J → post r J) : w_X7_isFound (md_Y ad) N 0 (nI c) v2 post := by
  have hcc := hw.2.2.2 c hc
  have h12 := hw.2.2.1
  have hr4 := hw.1.2.1
  obtain ⟨_, _, ha1, ha2, ha3, _⟩ := hcc
  obtain ⟨_, hn1, _, hn2⟩ := dt_n1_le hw hc
  have b191 : ∀ (J : Mm) (k : Nat) (s0 : Int32), md_F N J → k < dt_n1 N c * dt_n2 N c → dt_fd N c ho (k / dt_n2 N c) (k % dt_n2 N c) → (∀ k', k' < k → ¬ dt_fd N c ho (k' / dt_n2 N c) (k' % dt_n2 N c)) → s0 = dt_on N c 0 (k / dt_n2 N c) → w_X7_isFound_B191 (md_Y ad) post 0 (nI c) (nI (k % dt_n2 N c)) s0 0 J := fun J k s0 hF hkl hfd hno hs => by
    refine ⟨md_k0, fun L hL => ⟨md_k0, md_k8, vp_in_nI (N := 12) (by omega) (by decide), ?_⟩⟩
    have e8 : L 8 = N 8 := by rw [hL, ky_up_ne (by decide)]; exact hF.1 8 (by decide) (by decide) (by decide) (by decide) (by decide)
    have fin : ∀ (K : Mm) (v : Int32), K = ky_up L 0 38 v → v = dt_on N c 1 (k % dt_n2 N c) → post 1 K := fun K v hK hv => by
      have k0 : K 0 = upd (upd (J 0) 37 s0) 38 v := by rw [hK, ky_up_eq, hL, ky_up_eq]
      refine hk K 1 ⟨fun a h0 h1 h2 h3 h4 => ?_, fun j h1 h2 h3 => ?_⟩ (Or.inl ⟨rfl, k, hkl, hfd, hno, ?_, ?_⟩)
      · rw [hK, ky_up_ne h0, hL, ky_up_ne h0]; exact hF.1 a h0 h1 h2 h3 h4
      · rw [k0]; unfold upd; rw [if_neg h3, if_neg h2]; exact hF.2 j h1
      · rw [k0, ← hs]; unfold upd; rw [if_neg (by decide), if_pos rfl]
      · rw [k0, ← hv]; unfold upd; rw [if_pos rfl]
    rw [md_r10, in_c (by omega), e8, ha1]
    refine ⟨fun h K hK => fin K _ hK ?_, fun h K hK => fin K _ hK ?_⟩
    · rw [in_le, in_n (by omega), in_1] at h
      unfold dt_on; rw [if_neg (by omega)]
    · rw [in_le, in_n (by omega), in_1] at h
      unfold dt_on; rw [if_pos (by omega)]
  have b25 : w_X7_isFound_B25 (md_Y ad) post 0 (nI c) v2 (nI (dt_n1 N c)) N := by
    have loop : ∃ n59 : Nat, w_X7_isFound_L59 (md_Y ad) post (fun k38 v39 v40 v41 I37 => (ky_is (md_Y ad) k38 7 ∧ (ky_is (md_Y ad) (ky_rp (md_Y ad) k38 10) 8 ∧ (vp_in v39 (ky_ln (md_Y ad) (ky_rp (md_Y ad) k38 10)) ∧ (((I37 (ky_rp (md_Y ad) k38 10) v39.toNatClampNeg) ≤ 0 → w_X7_isFound_B191 (md_Y ad) post k38 v39 v41 (-1 : Int32) k38 I37) ∧ (¬ (I37 (ky_rp (md_Y ad) k38 10) v39.toNatClampNeg) ≤ 0 → w_X7_isFound_B191 (md_Y ad) post k38 v39 v41 v40 k38 I37)))))) (fun I54 => post (0 : Int32) I54) n59 0 (nI c) v2 (nI (dt_n1 N c)) (nI (dt_n2 N c)) (0 : Int32) N := by
      refine ⟨dt_n1 N c * dt_n2 N c + 1, m_found_L hw hc hho hn1 hn2 (fun J k hF hkl hfd hno => ⟨md_k0, md_k8, vp_in_nI (N := 12) (by omega) (by decide), ?_⟩) (fun J hF hno => hk J 0 hF.G (Or.inr ⟨rfl, hno⟩)) _ 0 (by omega) N md_F.rf (fun k' hk' => absurd hk' (Nat.not_lt_zero k'))⟩
      have e8 : J 8 = N 8 := hF.1 8 (by decide) (by decide) (by decide) (by decide) (by decide)
      rw [md_r10, in_c (by omega), e8, ha1]
      refine ⟨fun h => b191 J k _ hF hkl hfd hno ?_, fun h => b191 J k _ hF hkl hfd hno ?_⟩
      · rw [in_le, in_n (by omega), in_0] at h
        unfold dt_on; rw [if_neg (by omega)]
      · rw [in_le, in_n (by omega), in_0] at h
        unfold dt_on; rw [if_pos (by omega)]
    refine ⟨md_k0, md_k8, vp_in_nI (N := 12) (by omega) (by decide), ?_⟩
    rw [md_r10, in_c (by omega), ha1]
    refine ⟨fun h => ?_, fun h => ⟨md_k9, by rw [in_mul2, in_s]; exact vp_in_nI (N := 24) (by omega) (by decide), ?_⟩⟩
    · rw [in_le, in_n (by omega), in_1] at h
      have : dt_n2 N c = 1 := by unfold dt_n2; rw [if_neg (by omega)]
      rw [this] at loop
      exact loop
    · rw [in_le, in_n (by omega), in_1] at h
      obtain ⟨g1, g2, _⟩ := ha3 1 (by omega)
      rw [md_r11, in_mul2, in_s, in_c (by omega), g1]
      refine m_cubesOf hw g2 ?_
      have : 2 ^ dt_nm N (dt_ar N c 1) = dt_n2 N c := by unfold dt_n2; rw [if_pos (by omega)]
      rw [this]
      exact loop
  refine ⟨md_k0, md_k8, vp_in_nI (N := 12) (by omega) (by decide), ?_⟩
  rw [md_r10, in_c (by omega), ha1]
  refine ⟨fun h => ?_, fun h => ⟨md_k9, by rw [in_mul2]; exact vp_in_nI (N := 24) (by omega) (by decide), ?_⟩⟩
  · rw [in_le, in_n (by omega), in_0] at h
    have : dt_n1 N c = 1 := by unfold dt_n1; rw [if_neg (by omega)]
    rw [this] at b25
    exact b25
  · rw [in_le, in_n (by omega), in_0] at h
    obtain ⟨g1, g2, _⟩ := ha3 0 (by omega)
    rw [Nat.add_zero] at g1
    rw [md_r11, in_mul2, in_c (by omega), g1]
    refine m_cubesOf hw g2 ?_
    have : 2 ^ dt_nm N (dt_ar N c 0) = dt_n1 N c := by unfold dt_n1; rw [if_pos (by omega)]
    rw [this]
    exact b25
