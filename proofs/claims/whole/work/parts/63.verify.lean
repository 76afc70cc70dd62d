/-! CALLS: verify -/
theorem sm_pt {b : Nat} {v r : Int32} {J : Mm} {wr : (Int32 → Mm → Prop) → Prop} (hd : dt_d dt_T wr) (h : sm_R b v J r wr) : ∃ M, Rl b J M ∧ M 0 0 = v ∧ ∀ post, post r M → wr post := by
  obtain ⟨e, ⟨r', M, rfl⟩, ⟨rfl, a1, a2⟩, a3⟩ := hd _ (h (fun r' M => r' = r ∧ Rl b J M ∧ M 0 0 = v) (fun M h1 h2 => ⟨rfl, h1, h2⟩))
  exact ⟨M, a1, a2, a3⟩
set_option maxHeartbeats 2000000 in
theorem sm_verify_L {ad ad' : Nat → Nat} {f : Nat} (hf : f ≤ 100) {post : Int32 → Mm → Prop} {xp : String → Mm → Prop} : ∀ (n t : Nat), t + n = f → ∀ (b : Nat) (J M : Mm), Rl b J M → b + n < 1000000 → M 0 0 = 0 →
    (∀ Jf : Mm, (∀ post' : Int32 → Mm → Prop, (∀ Mf : Mm, Rl (b + n) Jf Mf → Mf 0 0 = 0 → post' (Jf 0 5) Mf) → w_X7_verify_L30 (md_Y ad') post' (fun k17 I16 => (ky_is (md_Y ad') k17 7 ∧ post' (I16 k17 23) I16)) (n + 1) 0 (nI f) (nI t) M) → post (Jf 0 5) Jf) →
    w_X6_verify_L22 (cl_Y ad) post xp (fun k12 I11 => (ky_is (cl_Y ad) k12 6 ∧ post (I11 k12 5) I11)) (n + 1) 0 (nI f) (nI t) J := by
  intro n
  induction n with
  | zero =>
    intro t ht b J M h hb h0 hk
    obtain ⟨v1, v2⟩ := h.vd
    refine ⟨fun _ => ⟨cy_0, hk J (fun post' hp => ⟨fun _ => ⟨md_k0, ?_⟩, fun h9 => ?_⟩)⟩, fun h9 => ?_⟩
    · rw [← v1]; exact hp M h h0
    · rw [in_le, in_n (by omega), in_n (by omega)] at h9; omega
    · rw [in_le, in_n (by omega), in_n (by omega)] at h9; omega
  | succ n ih =>
    intro t ht b J M h hb h0 hk
    obtain ⟨v1, v2⟩ := h.vd
    obtain ⟨l1, l2⟩ := h.al
    have hlt : ¬ nI f ≤ nI t := fun h9 => by rw [in_le, in_n (by omega), in_n (by omega)] at h9; omega
    refine ⟨fun h9 => absurd h9 hlt, fun _ => ⟨cy_0, ?_⟩⟩
    have stop : ¬ J 0 5 = 0 → post (J 0 5) J := fun hv => hk J (fun post' hp => ⟨fun h9 => absurd h9 hlt, fun _ => ⟨md_k0, fun _ => ⟨md_k0, by rw [← v1]; exact hp M (h.mono (Nat.le_add_right _ _)) h0⟩, fun h9 => absurd (v1.trans h9) hv⟩⟩)
    refine ⟨fun hv => ⟨cy_0, stop hv⟩, fun hv => ?_⟩
    have hv' : M 0 23 = 0 := by rw [← v1]; exact hv
    rw [l1]
    refine ⟨fun ha => sm_refineAlarm (ad' := ad') h hv' ha (fun r J' hsm x4 hx4 => ?_), fun ha => sm_makeRound (ad' := ad') h (by omega) hv' ha (fun r J' hsm x7 hx7 => ?_)⟩
    · obtain ⟨M', a1, a2, a3⟩ := sm_pt d_X7_improve hsm
      rw [hx4, in_s]
      refine ih (t + 1) (by omega) (b + 1) J' M' a1 (by omega) (a2.trans h0) (fun Jf hJf => hk Jf (fun post' hp => ⟨fun h9 => absurd h9 hlt, fun _ => ⟨md_k0, fun h9 => absurd hv' h9, fun _ => ⟨fun h9 => absurd (l2.mp h9) ha, fun _ => a3 _ (fun x12 hx12 => ?_)⟩⟩⟩))
      rw [hx12, in_s]
      exact hJf post' (fun Mf g1 g2 => hp Mf (by rw [show b + (n + 1) = b + 1 + n by omega]; exact g1) g2)
    · obtain ⟨M', a1, a2, a3⟩ := sm_pt d_X7_next hsm
      rw [hx7, in_s]
      refine ih (t + 1) (by omega) (b + 1) J' M' a1 (by omega) (a2.trans h0) (fun Jf hJf => hk Jf (fun post' hp => ⟨fun h9 => absurd h9 hlt, fun _ => ⟨md_k0, fun h9 => absurd hv' h9, fun _ => ⟨fun _ => a3 _ (fun x9 hx9 => ?_), fun h9 => absurd (l2.mpr ha) h9⟩⟩⟩))
      rw [hx9, in_s]
      exact hJf post' (fun Mf g1 g2 => hp Mf (by rw [show b + (n + 1) = b + 1 + n by omega]; exact g1) g2)
theorem sm_verify {ad ad' : Nat → Nat} {b : Nat} {I N : Mm} (h : Rl b I N) (hb : b + 100 < 1000000) {v : Int32} {post : Int32 → Mm → Prop} {xp : String → Mm → Prop} (hk : ∀ (r : Int32) (J : Mm), sm_R (b + 100) 0 J r (w_X7_verify (md_Y ad') N 0 v) → post r J) (hx1 : ∀ J, sm_X b 1 J (w_X7_verify (md_Y ad') N 0 v) → xp "java/lang/IllegalArgumentException" J) : w_X6_verify (cl_Y ad) I 0 v post xp := by
  have t100 : (100 : Int32).toInt = 100 := by decide
  have bad : ¬ (0 ≤ v.toInt ∧ v.toInt ≤ 100) → sm_X b 1 I (w_X7_verify (md_Y ad') N 0 v) := fun hno post' hp => m_in (fun a1 a2 => absurd ⟨by rw [in_0] at a1; exact a1, by rw [t100] at a2; exact a2⟩ hno) (fun _ => ⟨fun _ => ⟨md_k0, fun N' e0 => ⟨md_k0, fun h9 => absurd (by rw [ky_up_f e0] at h9; exact h9) (by decide), fun _ => hp N' 0 (h.fn (fn_F.code e0)) (ky_up_f e0)⟩⟩, fun h9 => absurd rfl h9⟩)
  refine ⟨fun g => hx1 I (bad (fun h9 => by rw [in_lt, in_0] at g; omega)), fun g => ⟨fun g2 => ?_, fun g2 => hx1 I (bad (fun h9 => by rw [in_le, t100] at g2; omega))⟩⟩
  rw [in_lt, in_0] at g
  rw [in_le, t100] at g2
  obtain ⟨f, hf, rfl⟩ := in_of (x := v) (n := 101) (by omega) (by omega)
  obtain ⟨N', hN'⟩ : ∃ N' : Mm, N' = ky_up N 0 0 0 := ⟨_, rfl⟩
  refine ⟨f + 1, sm_verify_L (ad' := ad') (f := f) (by omega) f 0 (by omega) b I N' (h.fn (fn_F.code hN')) (by omega) (ky_up_f hN') (fun Jf hJf => hk _ Jf (fun post' hp => m_in (fun _ _ => ⟨fun h9 => absurd h9 (by decide), fun _ => ⟨md_k0, fun N2 e2 => ⟨md_k0, fun _ => ⟨f + 1, ?_⟩, fun h9 => absurd (by rw [ky_up_f e2]; decide) h9⟩⟩⟩) (fun h9 => absurd (by rw [in_0, t100]; omega) h9)))⟩
  rw [← hN'] at e2
  subst e2
  exact hJf post' (fun Mf g1 g2 => hp Mf (g1.mono (by omega)) g2)
