/-! THE REFERENCE: all that a round reaches -/
/-- the reference's memory with what was reached -/
def rn_m (N0 J : Mm) (d : Rd) : Prop := (∀ a, a ≠ 0 → a ≠ 15 → a ≠ 16 → a ≠ 17 → a ≠ 19 → a ≠ 20 → a ≠ 21 → a ≠ 22 → J a = N0 a) ∧ (∀ j, j ≠ 25 → j ≠ 37 → j ≠ 38 → J 0 j = N0 0 j) ∧
  ∀ r m, r < 4 → m < 16 → (d r m = none → J 15 (16 * r + m) = N0 15 (16 * r + m) ∧ J 16 (16 * r + m) = N0 16 (16 * r + m) ∧ J 17 (2 * (16 * r + m)) = N0 17 (2 * (16 * r + m)) ∧ J 17 (2 * (16 * r + m) + 1) = N0 17 (2 * (16 * r + m) + 1)) ∧
    ∀ c k, d r m = some (c, k) → J 15 (16 * r + m) = N0 0 20 ∧ J 16 (16 * r + m) = nI c ∧ J 17 (2 * (16 * r + m)) = dt_on N0 c 0 (k / 16) ∧ J 17 (2 * (16 * r + m) + 1) = dt_on N0 c 1 (k % 16)
theorem rn_m.st {N0 J : Mm} {d : Rd} (h : rn_m N0 J d) {a : Nat} (h0 : a ≠ 0) (h1 : a < 15) : J a = N0 a := h.1 a h0 (by omega) (by omega) (by omega) (by omega) (by omega) (by omega) (by omega)
theorem rn_m.w {N0 J : Mm} {d : Rd} (h : rn_m N0 J d) (hw : dt_w N0) : dt_w J := by
  refine ⟨?_, ?_⟩
  · unfold dt_w1 dt_nr dt_pl dt_nm
    rw [h.2.1 1 (by decide) (by decide) (by decide), h.st (a := 1) (by decide) (by decide), h.st (a := 2) (by decide) (by decide), h.st (a := 3) (by decide) (by decide), h.st (a := 4) (by decide) (by decide), h.st (a := 5) (by decide) (by decide)]
    exact hw.1
  · unfold dt_w2 dt_cl dt_nc dt_hr dt_hv dt_na dt_ar dt_av dt_nb dt_nr
    rw [h.2.1 1 (by decide) (by decide) (by decide), h.2.1 7 (by decide) (by decide) (by decide), h.st (a := 6) (by decide) (by decide), h.st (a := 7) (by decide) (by decide), h.st (a := 8) (by decide) (by decide), h.st (a := 9) (by decide) (by decide), h.st (a := 10) (by decide) (by decide), h.st (a := 11) (by decide) (by decide), h.st (a := 12) (by decide) (by decide), h.st (a := 13) (by decide) (by decide), h.st (a := 14) (by decide) (by decide)]
    exact hw.2
theorem rn_m.cE {N0 J : Mm} {d : Rd} (h : rn_m N0 J d) : dt_cE J = dt_cE N0 := by
  funext r z x y cube
  unfold dt_cE dt_me dt_nm
  rw [h.st (a := 2) (by decide) (by decide), h.st (a := 3) (by decide) (by decide), h.st (a := 4) (by decide) (by decide), h.st (a := 5) (by decide) (by decide)]
theorem rn_m.bE {N0 J : Mm} {d : Rd} (h : rn_m N0 J d) : dt_bE J = dt_bE N0 := by
  funext c at9 z
  unfold dt_bE dt_be dt_nb
  rw [h.st (a := 11) (by decide) (by decide), h.st (a := 12) (by decide) (by decide), h.st (a := 13) (by decide) (by decide), h.st (a := 14) (by decide) (by decide)]
theorem rn_m.full {N0 J : Mm} {d : Rd} (h : rn_m N0 J d) : dt_full J = dt_full N0 := by
  have hb : dt_body J = dt_body N0 := by
    funext c p q a
    induction a with
    | zero => unfold dt_body; rw [h.bE]
    | succ a ih =>
      unfold dt_body
      rw [ih]
      unfold dt_aE dt_ar dt_av
      rw [h.cE, h.st (a := 9) (by decide) (by decide), h.st (a := 10) (by decide) (by decide)]
  funext c p q ho
  cases ho with
  | none => unfold dt_full dt_na; rw [hb, h.st (a := 8) (by decide) (by decide)]
  | some x =>
    unfold dt_full dt_na dt_hE dt_hr dt_hv
    rw [hb, h.cE, h.st (a := 6) (by decide) (by decide), h.st (a := 7) (by decide) (by decide), h.st (a := 8) (by decide) (by decide)]
theorem rn_m.na {N0 J : Mm} {d : Rd} (h : rn_m N0 J d) : dt_na J = dt_na N0 := by funext c; unfold dt_na; rw [h.st (a := 8) (by decide) (by decide)]
theorem rn_m.ar {N0 J : Mm} {d : Rd} (h : rn_m N0 J d) : dt_ar J = dt_ar N0 := by funext c a; unfold dt_ar; rw [h.st (a := 9) (by decide) (by decide)]
theorem rn_m.n1 {N0 J : Mm} {d : Rd} (h : rn_m N0 J d) : dt_n1 J = dt_n1 N0 := by funext c; unfold dt_n1 dt_nm; rw [h.na, h.ar, h.st (a := 2) (by decide) (by decide)]
theorem rn_m.n2 {N0 J : Mm} {d : Rd} (h : rn_m N0 J d) : dt_n2 J = dt_n2 N0 := by funext c; unfold dt_n2 dt_nm; rw [h.na, h.ar, h.st (a := 2) (by decide) (by decide)]
theorem rn_m.on {N0 J : Mm} {d : Rd} (h : rn_m N0 J d) : dt_on J = dt_on N0 := by funext c a x; unfold dt_on; rw [h.na]
/-- the records speak of cubes that may be reached -/
def rn_ok (N0 : Mm) (d : Rd) : Prop := ∀ r m, r < 4 → m < 16 → ∀ c k, d r m = some (c, k) → dt_cd N0 r m ∧ dt_le N0 r m c k
theorem rn_m.bf {N0 J : Mm} {d : Rd} (h : rn_m N0 J d) (hd : rn_ok N0 d) {r p : Nat} (hr : r < 4) (hp : p < 16) : dt_bf J r p ↔ dt_bf N0 r p := by
  unfold dt_bf
  rw [h.2.1 20 (by decide) (by decide) (by decide)]
  cases hdr : d r p with
  | none => rw [((h.2.2 r p hr hp).1 hdr).1]
  | some ck =>
    obtain ⟨c, k⟩ := ck
    obtain ⟨⟨_, _, h2⟩, _⟩ := hd r p hr hp c k hdr
    rw [((h.2.2 r p hr hp).2 c k hdr).1, h2, in_0]
    omega
theorem rn_m.fd {N0 J : Mm} {d : Rd} (h : rn_m N0 J d) (hw : dt_w N0) (hd : rn_ok N0 d) {c p q : Nat} (hc : c < dt_nc N0) (hp : p < 16) (hq : q < 16) {ho : Option Nat} : dt_fd J c ho p q ↔ dt_fd N0 c ho p q := by
  have hr4 := hw.1.2.1
  have ha3 := (hw.2.2.2 c hc).2.2.2.2.1
  unfold dt_fd dt_th
  rw [h.full, h.na, h.ar]
  refine and_congr (and_congr ⟨fun h1 h2 => ?_, fun h1 h2 => ?_⟩ ⟨fun h1 h2 => ?_, fun h1 h2 => ?_⟩) Iff.rfl
  · exact (h.bf hd (by have := (ha3 0 h2).2.1; omega) hp).mp (h1 h2)
  · exact (h.bf hd (by have := (ha3 0 h2).2.1; omega) hp).mpr (h1 h2)
  · exact (h.bf hd (by have := (ha3 1 h2).2.1; omega) hq).mp (h1 h2)
  · exact (h.bf hd (by have := (ha3 1 h2).2.1; omega) hq).mpr (h1 h2)
theorem rn_m.G {N0 J L : Mm} {d : Rd} (h : rn_m N0 J d) (hG : md_G J L) : rn_m N0 L d := by
  refine ⟨fun a h0 h1 h2 h3 h4 h5 h6 h7 => (hG.1 a h0 h4 h5 h6 h7).trans (h.1 a h0 h1 h2 h3 h4 h5 h6 h7), fun j h1 h2 h3 => (hG.2 j h1 h2 h3).trans (h.2.1 j h1 h2 h3), fun r m hr hm => ?_⟩
  rw [hG.1 15 (by decide) (by decide) (by decide) (by decide) (by decide), hG.1 16 (by decide) (by decide) (by decide) (by decide) (by decide), hG.1 17 (by decide) (by decide) (by decide) (by decide) (by decide)]
  exact h.2.2 r m hr hm
/-- pairs by rows of n2, or of 16 -/
theorem dt_pair {n1 n2 k : Nat} (h2 : n2 ≤ 16) (hk : k < n1 * n2) : (16 * (k / n2) + k % n2) / 16 = k / n2 ∧ (16 * (k / n2) + k % n2) % 16 = k % n2 := by
  have := (dt_pq hk).2
  omega
theorem dt_pair_no {n1 n2 k p q : Nat} (hp : p < n1) (hq : q < n2) (hlx : p < k / n2 ∨ (p = k / n2 ∧ q < k % n2)) : p * n2 + q < k ∧ (p * n2 + q) / n2 = p ∧ (p * n2 + q) % n2 = q := by
  have h0 : 0 < n2 := by omega
  have e := Nat.div_add_mod k n2
  refine ⟨?_, ?_, ?_⟩
  · rcases hlx with h | ⟨h, h2⟩
    · have h3 : (p + 1) * n2 ≤ k / n2 * n2 := Nat.mul_le_mul_right _ h
      rw [Nat.add_mul, Nat.one_mul] at h3
      rw [Nat.mul_comm n2] at e
      omega
    · rw [h, Nat.mul_comm]
      omega
  · rw [Nat.add_comm, Nat.add_mul_div_right _ _ h0, Nat.div_eq_of_lt hq, Nat.zero_add]
  · rw [Nat.add_comm, Nat.add_mul_mod_self_right, Nat.mod_eq_of_lt hq]
set_option maxHeartbeats 2000000 in
theorem m_isReached {ad : Nat → Nat} {N0 J : Mm} {d : Rd} (hw : dt_w N0) (hR : rn_m N0 J d) (hd : rn_ok N0 d) {r m : Nat} (hcd : dt_cd N0 r m) (hdn : d r m = none) {post : Int32 → Mm → Prop}
    (hk1 : ∀ (L : Mm) (c k : Nat), rn_m N0 L (rc_up d r m (c, k)) → dt_le N0 r m c k → post 1 L) (hk0 : ∀ L : Mm, rn_m N0 L d → (∀ c k, ¬ dt_wp N0 c r m k) → post 0 L) : w_X7_isReached (md_Y ad) J 0 (nI (16 * r + m)) post := by
  have h12 := hw.2.2.1
  have hr4 := hw.1.2.1
  have hr : r < 4 := by have := hcd.1; omega
  have hm : m < 16 := by have := dt_p16 (hw.1.2.2.2.1 r hr).2.1; have := hcd.2.1; omega
  have e1 : nI (16 * r + m) / (16 : Int32) = nI r := by
    rw [show nI (16 * r + m) / (16 : Int32) = nI ((16 * r + m) / 16) from pk_div (by omega) (by decide) (by decide)]; congr 1; omega
  have e2 : nI (16 * r + m) - nI (16 * r + m) / (16 : Int32) * (16 : Int32) = nI m := by
    rw [show nI (16 * r + m) - nI (16 * r + m) / (16 : Int32) * (16 : Int32) = nI ((16 * r + m) % 16) from pk_rem (by omega) (by decide) (by decide)]; congr 1; omega
  have loop : ∀ (t c : Nat), c + t = dt_nc N0 → ∀ L : Mm, rn_m N0 L d → (∀ c' k, c' < c → ¬ dt_wp N0 c' r m k) → w_X7_isReached_L2 (md_Y ad) post (fun k12 v13 v14 I11 => (ky_is (md_Y ad) k12 7 ∧ (ky_is (md_Y ad) (ky_rp (md_Y ad) k12 17) 8 ∧ (vp_in v13 (ky_ln (md_Y ad) (ky_rp (md_Y ad) k12 17)) ∧ (∀ I18 : Mm, I18 = ky_up I11 (ky_rp (md_Y ad) k12 17) v13.toNatClampNeg (I11 k12 20) → (ky_is (md_Y ad) (ky_rp (md_Y ad) k12 18) 8 ∧ (vp_in v13 (ky_ln (md_Y ad) (ky_rp (md_Y ad) k12 18)) ∧ (∀ I21 : Mm, I21 = ky_up I18 (ky_rp (md_Y ad) k12 18) v13.toNatClampNeg v14 → (ky_is (md_Y ad) (ky_rp (md_Y ad) k12 19) 8 ∧ (vp_in ((2 : Int32) * v13) (ky_ln (md_Y ad) (ky_rp (md_Y ad) k12 19)) ∧ (∀ I24 : Mm, I24 = ky_up I21 (ky_rp (md_Y ad) k12 19) ((2 : Int32) * v13).toNatClampNeg (I21 k12 37) → (vp_in (((2 : Int32) * v13) + (1 : Int32)) (ky_ln (md_Y ad) (ky_rp (md_Y ad) k12 19)) ∧ (∀ I26 : Mm, I26 = ky_up I24 (ky_rp (md_Y ad) k12 19) (((2 : Int32) * v13) + (1 : Int32)).toNatClampNeg (I24 k12 38) → post (1 : Int32) I26))))))))))))) (fun I27 => post (0 : Int32) I27) (t + 1) 0 (nI (16 * r + m)) (nI c) L := by
    intro t
    induction t with
    | zero =>
      intro c hc L hL hno
      refine ⟨md_k0, ?_⟩
      rw [hL.2.1 7 (by decide) (by decide) (by decide), hw.2.1]
      refine ⟨fun _ => hk0 L hL (fun c' k h => hno c' k (by have := h.1; omega) h), fun h => ?_⟩
      rw [in_le, in_n (by omega), in_n (by omega)] at h
      omega
    | succ t ih =>
      intro c hc L hL hno
      have hcc : c < dt_nc N0 := by omega
      have next : ∀ K, rn_m N0 K d → (∀ k, ¬ dt_wp N0 c r m k) → ∀ x, x = nI c + 1 → w_X7_isReached_L2 (md_Y ad) post _ (fun I27 => post (0 : Int32) I27) (t + 1) 0 (nI (16 * r + m)) x K := fun K hK hn x hx => by
        rw [hx, in_s]
        refine ih (c + 1) (by omega) K hK (fun c' k hc' h => ?_)
        rcases Nat.lt_succ_iff_lt_or_eq.mp hc' with h9 | rfl
        · exact hno c' k h9 h
        · exact hn k h
      refine ⟨md_k0, ?_⟩
      rw [hL.2.1 7 (by decide) (by decide) (by decide), hw.2.1]
      refine ⟨fun h => ?_, fun _ => ⟨md_k6, vp_in_nI (N := 12) (by omega) (by decide), ?_⟩⟩
      · rw [in_le, in_n (by omega), in_n (by omega)] at h
        omega
      · rw [md_r8, in_c (by omega), hL.st (a := 6) (by decide) (by decide), e2, e1]
        refine ⟨fun h => next L hL (fun k h9 => h h9.2.1), fun h => ?_⟩
        obtain ⟨h6, hhr⟩ : N0 6 c = nI (dt_hr N0 c) ∧ dt_hr N0 c < dt_nr N0 := by
          rcases dt_hd hw hcc with h9 | ⟨h9, h8, _⟩
          · rw [h9, in_eq, in_n (by omega)] at h
            have : (-1 : Int32).toInt = -1 := by decide
            omega
          · exact ⟨h9, h8⟩
        have hwL := hL.w hw
        have ncL : dt_nc L = dt_nc N0 := by unfold dt_nc; rw [hL.2.1 7 (by decide) (by decide) (by decide)]
        obtain ⟨_, n1, _, n2⟩ := dt_n1_le hw hcc
        have hho : dt_ho L c (nI m) (some m) := by
          unfold dt_ho dt_hr dt_nr
          rw [hL.st (a := 6) (by decide) (by decide), hL.2.1 1 (by decide) (by decide) (by decide)]
          exact ⟨rfl, hm, h6, hhr⟩
        refine m_isFound hwL (by rw [ncL]; exact hcc) hho (fun K v hK hv => ?_)
        have hRK := hL.G hK
        unfold dt_fr at hv
        rw [hL.n1, hL.n2, hL.on] at hv
        refine ⟨fun h0 => ?_, fun h1 => ?_⟩
        · rcases hv with ⟨hv, _⟩ | ⟨_, hv⟩
          · rw [hv] at h0; exact absurd h0 (by decide)
          refine next K hRK (fun k h9 => ?_)
          obtain ⟨_, _, g1, g2, g3⟩ := h9
          have hlt : k / 16 * dt_n2 N0 c + k % 16 < dt_n1 N0 c * dt_n2 N0 c := by
            have : (k / 16 + 1) * dt_n2 N0 c ≤ dt_n1 N0 c * dt_n2 N0 c := Nat.mul_le_mul_right _ g1
            rw [Nat.add_mul, Nat.one_mul] at this
            omega
          have hpos : 0 < dt_n2 N0 c := by omega
          have d1 : (k / 16 * dt_n2 N0 c + k % 16) / dt_n2 N0 c = k / 16 := by rw [Nat.add_comm, Nat.add_mul_div_right _ _ hpos, Nat.div_eq_of_lt g2, Nat.zero_add]
          have d2 : (k / 16 * dt_n2 N0 c + k % 16) % dt_n2 N0 c = k % 16 := by rw [Nat.add_comm, Nat.add_mul_mod_self_right, Nat.mod_eq_of_lt g2]
          have := hv _ hlt
          rw [d1, d2] at this
          exact this ((hL.fd hw hd hcc (by omega) (by omega)).mpr g3)
        · obtain ⟨_, k, hkl, hfd, hlst, h37, h38⟩ := hv.resolve_right (fun h9 => h1 h9.1)
          obtain ⟨hp, hq⟩ := dt_pq hkl
          obtain ⟨d1, d2⟩ := dt_pair n2 hkl
          have hfd0 : dt_fd N0 c (some m) (k / dt_n2 N0 c) (k % dt_n2 N0 c) := (hL.fd hw hd hcc (by omega) (by omega)).mp hfd
          have hle : dt_le N0 r m c (16 * (k / dt_n2 N0 c) + k % dt_n2 N0 c) := by
            refine ⟨⟨hcc, h, by rw [d1]; exact hp, by rw [d2]; exact hq, by rw [d1, d2]; exact hfd0⟩, fun c' k' hl h9 => ?_⟩
            rcases hl with hl | ⟨rfl, hl⟩
            · exact hno c' k' hl h9
            · obtain ⟨_, _, g1, g2, g3⟩ := h9
              obtain ⟨x1, x2, x3⟩ := dt_pair_no (k := k) g1 g2 (by omega)
              have := hlst _ x1
              rw [x2, x3] at this
              exact this ((hL.fd hw hd hcc (by omega) (by omega)).mpr g3)
          refine ⟨md_k0, md_k15, vp_in_nI (N := 64) (by omega) (by decide), fun K1 hK1 => ⟨md_k16, vp_in_nI (N := 64) (by omega) (by decide), fun K2 hK2 => ⟨md_k17, by rw [in_mul2]; exact vp_in_nI (N := 128) (by omega) (by decide), fun K3 hK3 => ⟨by rw [in_mul2, in_s]; exact vp_in_nI (N := 128) (by omega) (by decide), fun K4 hK4 => ?_⟩⟩⟩⟩
          rw [md_r17, in_c (by omega)] at hK1
          rw [md_r18, in_c (by omega)] at hK2
          rw [md_r19, in_mul2, in_c (by omega)] at hK3
          rw [md_r19, in_mul2, in_s, in_c (by omega)] at hK4
          have z1 : K1 0 = K 0 := by rw [hK1]; exact ky_up_ne (by decide)
          have z2 : K2 0 = K 0 := by rw [hK2, ky_up_ne (by decide)]; exact z1
          have z3 : K3 0 = K 0 := by rw [hK3, ky_up_ne (by decide)]; exact z2
          have z4 : K4 0 = K 0 := by rw [hK4, ky_up_ne (by decide)]; exact z3
          rw [z2, h37] at hK3
          rw [z3, h38] at hK4
          have y15 : K4 15 = upd (K 15) (16 * r + m) (K 0 20) := by rw [hK4, ky_up_ne (by decide), hK3, ky_up_ne (by decide), hK2, ky_up_ne (by decide), hK1, ky_up_eq]
          have y16 : K4 16 = upd (K 16) (16 * r + m) (nI c) := by rw [hK4, ky_up_ne (by decide), hK3, ky_up_ne (by decide), hK2, ky_up_eq, hK1, ky_up_ne (by decide)]
          have y17 : K4 17 = upd (upd (K 17) (2 * (16 * r + m)) (dt_on N0 c 0 (k / dt_n2 N0 c))) (2 * (16 * r + m) + 1) (dt_on N0 c 1 (k % dt_n2 N0 c)) := by rw [hK4, ky_up_eq, hK3, ky_up_eq, hK2, ky_up_ne (by decide), hK1, ky_up_ne (by decide)]
          have yo : ∀ a, a ≠ 15 → a ≠ 16 → a ≠ 17 → K4 a = K a := fun a g1 g2 g3 => by rw [hK4, ky_up_ne g3, hK3, ky_up_ne g3, hK2, ky_up_ne g2, hK1, ky_up_ne g1]
          refine hk1 K4 c (16 * (k / dt_n2 N0 c) + k % dt_n2 N0 c) ⟨fun a g0 g1 g2 g3 g4 g5 g6 g7 => ?_, fun j g1 g2 g3 => ?_, fun r' m' hr' hm' => ⟨fun hn => ?_, fun c' k' hn => ?_⟩⟩ hle
          · rw [yo a g1 g2 g3]; exact hRK.1 a g0 g1 g2 g3 g4 g5 g6 g7
          · rw [z4]; exact hRK.2.1 j g1 g2 g3
          · unfold rc_up at hn
            by_cases hb : r' = r ∧ m' = m
            · rw [if_pos hb] at hn; cases hn
            · rw [if_neg hb] at hn
              rw [y15, y16, y17]
              unfold upd
              rw [if_neg (by omega), if_neg (by omega), if_neg (by omega), if_neg (by omega), if_neg (by omega), if_neg (by omega)]
              exact (hRK.2.2 r' m' hr' hm').1 hn
          · unfold rc_up at hn
            by_cases hb : r' = r ∧ m' = m
            · rw [if_pos hb] at hn
              cases hn
              obtain ⟨rfl, rfl⟩ := hb
              rw [y15, y16, y17, d1, d2]
              unfold upd
              rw [if_pos rfl, if_pos rfl, if_neg (by omega), if_pos rfl, if_pos rfl]
              exact ⟨hRK.2.1 20 (by decide) (by decide) (by decide), rfl, rfl, rfl⟩
            · rw [if_neg hb] at hn
              rw [y15, y16, y17]
              unfold upd
              rw [if_neg (by omega), if_neg (by omega), if_neg (by omega), if_neg (by omega), if_neg (by omega), if_neg (by omega)]
              exact (hRK.2.2 r' m' hr' hm').2 c' k' hn
  exact ⟨dt_nc N0 + 1, loop (dt_nc N0) 0 (by omega) J hR (fun c' k h => absurd h (Nat.not_lt_zero c'))⟩
