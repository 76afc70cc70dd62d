/-! THE REFERENCE comes to one end: a walk that ends well ends at one point -/
def dt_d {P : Type} (A : (P → Prop) → Prop) (F : P → Prop) : Prop := ∀ post, F post → ∃ e, A e ∧ e post ∧ ∀ post', e post' → F post'
def dt_T (e : (Int32 → Mm → Prop) → Prop) : Prop := ∃ r J, e = fun post => post r J
def dt_V (e : (Mm → Prop) → Prop) : Prop := ∃ J, e = fun post => post J
section DTD
variable {P : Type} {A : (P → Prop) → Prop}
theorem dd_pt {e : P → Prop} (h : A e) : dt_d A e := fun _ hp => ⟨e, h, hp, fun _ h => h⟩
theorem dd_false : dt_d A (fun _ => False) := fun _ h => h.elim
theorem dd_and {a : Prop} {F : P → Prop} (h : dt_d A F) : dt_d A (fun p => a ∧ F p) := fun p ⟨ha, hF⟩ => (h p hF).elim fun e ⟨h1, h2, h3⟩ => ⟨e, h1, h2, fun p' h' => ⟨ha, h3 p' h'⟩⟩
theorem dd_eq {T : Type} {x : T} {F : T → P → Prop} (h : dt_d A (F x)) : dt_d A (fun p => ∀ y, y = x → F y p) := fun p hF => (h p (hF x rfl)).elim fun e ⟨h1, h2, h3⟩ => ⟨e, h1, h2, fun p' h' y hy => by rw [hy]; exact h3 p' h'⟩
theorem dd_if {c : Prop} {F G : P → Prop} (h1 : c → dt_d A F) (h2 : ¬ c → dt_d A G) : dt_d A (fun p => (c → F p) ∧ (¬ c → G p)) := fun p ⟨hF, hG⟩ => by
  by_cases hc : c
  · obtain ⟨e, a1, a2, a3⟩ := h1 hc p (hF hc)
    exact ⟨e, a1, a2, fun p' h' => ⟨fun _ => a3 p' h', fun h9 => absurd hc h9⟩⟩
  · obtain ⟨e, a1, a2, a3⟩ := h2 hc p (hG hc)
    exact ⟨e, a1, a2, fun p' h' => ⟨fun h9 => absurd h9 hc, fun _ => a3 p' h'⟩⟩
theorem dd_fi {c : Prop} {F G : P → Prop} (h1 : ¬ c → dt_d A F) (h2 : c → dt_d A G) : dt_d A (fun p => (¬ c → F p) ∧ (c → G p)) := fun p ⟨hF, hG⟩ => by
  by_cases hc : c
  · obtain ⟨e, a1, a2, a3⟩ := h2 hc p (hG hc)
    exact ⟨e, a1, a2, fun p' h' => ⟨fun h9 => absurd hc h9, fun _ => a3 p' h'⟩⟩
  · obtain ⟨e, a1, a2, a3⟩ := h1 hc p (hF hc)
    exact ⟨e, a1, a2, fun p' h' => ⟨fun _ => a3 p' h', fun h9 => absurd h9 hc⟩⟩
theorem dd_ex {F : Nat → P → Prop} (h : ∀ n, dt_d A (F n)) : dt_d A (fun p => ∃ n, F n p) := fun p ⟨n, hF⟩ => (h n p hF).elim fun e ⟨h1, h2, h3⟩ => ⟨e, h1, h2, fun p' h' => ⟨n, h3 p' h'⟩⟩
theorem dd_cT {w : (Int32 → Mm → Prop) → Prop} (hw : dt_d dt_T w) {G : Int32 → Mm → P → Prop} (h : ∀ r J, dt_d A (G r J)) : dt_d A (fun p => w (fun r J => G r J p)) := fun p hF => by
  obtain ⟨e, ⟨r, J, rfl⟩, a2, a3⟩ := hw _ hF
  obtain ⟨e2, b1, b2, b3⟩ := h r J p a2
  exact ⟨e2, b1, b2, fun p' h' => a3 _ (b3 p' h')⟩
theorem dd_cV {w : (Mm → Prop) → Prop} (hw : dt_d dt_V w) {G : Mm → P → Prop} (h : ∀ J, dt_d A (G J)) : dt_d A (fun p => w (fun J => G J p)) := fun p hF => by
  obtain ⟨e, ⟨J, rfl⟩, a2, a3⟩ := hw _ hF
  obtain ⟨e2, b1, b2, b3⟩ := h J p a2
  exact ⟨e2, b1, b2, fun p' h' => a3 _ (b3 p' h')⟩
end DTD
theorem dd_pT {r : Int32} {J : Mm} : dt_d dt_T (fun post => post r J) := dd_pt ⟨r, J, rfl⟩
theorem dd_pV {J : Mm} : dt_d dt_V (fun post => post J) := dd_pt ⟨J, rfl⟩
set_option maxHeartbeats 4000000 in
theorem d_X7_in {Y : Ly} {I : Mm} {v0 : Int32} {v1 : Int32} {v2 : Int32} : dt_d dt_T (fun post => w_X7_in Y I v0 v1 v2 post) := by
  unfold w_X7_in
  repeat' (first | (with_reducible exact dd_pT) | (with_reducible exact dd_pV) | (with_reducible refine dd_if ?_ ?_) | (with_reducible refine dd_fi ?_ ?_) | (with_reducible refine dd_ex ?_) | (with_reducible refine dd_eq ?_) | (with_reducible refine dd_and ?_) | (intro _))
set_option maxHeartbeats 4000000 in
theorem d_X7_freshStart_L2 {P : Type} {A : (P → Prop) → Prop} {Y : Ly} {Rpost : Mm → P → Prop} (hpost : ∀ a0, dt_d A (Rpost a0)) {Rex_48 : Nat → Mm → P → Prop} (hex_48 : ∀ a0 a1, dt_d A (Rex_48 a0 a1)) : ∀ {n : Nat} {b0 : Nat} {b1 : Int32} {b2 : Mm}, dt_d A (fun p => w_X7_freshStart_L2 Y (fun a0 => Rpost a0 p) (fun a0 a1 => Rex_48 a0 a1 p) n b0 b1 b2) := by
  intro n
  induction n with
  | zero => intros; exact dd_false
  | succ n ih =>
    intros
    simp only [w_X7_freshStart_L2]
    repeat' (first | (with_reducible apply hpost) | (with_reducible apply hex_48) | (with_reducible apply ih) | (with_reducible exact dd_pT) | (with_reducible exact dd_pV) | (with_reducible refine dd_if ?_ ?_) | (with_reducible refine dd_fi ?_ ?_) | (with_reducible refine dd_ex ?_) | (with_reducible refine dd_eq ?_) | (with_reducible refine dd_and ?_) | (intro _))
set_option maxHeartbeats 4000000 in
theorem d_X7_freshStart {Y : Ly} {I : Mm} {k0 : Nat} : dt_d dt_V (fun post => w_X7_freshStart Y I k0 post) := by
  unfold w_X7_freshStart
  repeat' (first | (with_reducible apply d_X7_freshStart_L2) | (with_reducible exact dd_pT) | (with_reducible exact dd_pV) | (with_reducible refine dd_if ?_ ?_) | (with_reducible refine dd_fi ?_ ?_) | (with_reducible refine dd_ex ?_) | (with_reducible refine dd_eq ?_) | (with_reducible refine dd_and ?_) | (intro _))
set_option maxHeartbeats 4000000 in
theorem d_X7_isMark_L5 {P : Type} {A : (P → Prop) → Prop} {Y : Ly} {Rpost : Int32 → Mm → P → Prop} (hpost : ∀ a0 a1, dt_d A (Rpost a0 a1)) {Rex_54 : Mm → P → Prop} (hex_54 : ∀ a0, dt_d A (Rex_54 a0)) {Rex_62 : Mm → P → Prop} (hex_62 : ∀ a0, dt_d A (Rex_62 a0)) : ∀ {n : Nat} {b0 : Nat} {b1 : Int32} {b2 : Int32} {b3 : Int32} {b4 : Int32} {b5 : Int32} {b6 : Mm}, dt_d A (fun p => w_X7_isMark_L5 Y (fun a0 a1 => Rpost a0 a1 p) (fun a0 => Rex_54 a0 p) (fun a0 => Rex_62 a0 p) n b0 b1 b2 b3 b4 b5 b6) := by
  intro n
  induction n with
  | zero => intros; exact dd_false
  | succ n ih =>
    intros
    simp only [w_X7_isMark_L5]
    repeat' (first | (with_reducible apply hpost) | (with_reducible apply hex_54) | (with_reducible apply hex_62) | (with_reducible apply ih) | (with_reducible exact dd_pT) | (with_reducible exact dd_pV) | (with_reducible refine dd_if ?_ ?_) | (with_reducible refine dd_fi ?_ ?_) | (with_reducible refine dd_ex ?_) | (with_reducible refine dd_eq ?_) | (with_reducible refine dd_and ?_) | (intro _))
set_option maxHeartbeats 4000000 in
theorem d_X7_isMark {Y : Ly} {I : Mm} {k0 : Nat} {v1 : Int32} {v2 : Int32} {v3 : Int32} {v4 : Int32} : dt_d dt_T (fun post => w_X7_isMark Y I k0 v1 v2 v3 v4 post) := by
  unfold w_X7_isMark
  repeat' (first | (with_reducible apply d_X7_isMark_L5) | (with_reducible exact dd_pT) | (with_reducible exact dd_pV) | (with_reducible refine dd_if ?_ ?_) | (with_reducible refine dd_fi ?_ ?_) | (with_reducible refine dd_ex ?_) | (with_reducible refine dd_eq ?_) | (with_reducible refine dd_and ?_) | (intro _))
set_option maxHeartbeats 4000000 in
theorem d_X7_keepMark {Y : Ly} {I : Mm} {k0 : Nat} {v1 : Int32} {v2 : Int32} {v3 : Int32} {v4 : Int32} : dt_d dt_V (fun post => w_X7_keepMark Y I k0 v1 v2 v3 v4 post) := by
  unfold w_X7_keepMark
  repeat' (first | (with_reducible exact dd_pT) | (with_reducible exact dd_pV) | (with_reducible refine dd_if ?_ ?_) | (with_reducible refine dd_fi ?_ ?_) | (with_reducible refine dd_ex ?_) | (with_reducible refine dd_eq ?_) | (with_reducible refine dd_and ?_) | (intro _))
set_option maxHeartbeats 4000000 in
theorem d_X7_cubesOf {Y : Ly} {I : Mm} {k0 : Nat} {v1 : Int32} : dt_d dt_T (fun post => w_X7_cubesOf Y I k0 v1 post) := by
  unfold w_X7_cubesOf
  repeat' (first | (with_reducible exact dd_pT) | (with_reducible exact dd_pV) | (with_reducible refine dd_if ?_ ?_) | (with_reducible refine dd_fi ?_ ?_) | (with_reducible refine dd_ex ?_) | (with_reducible refine dd_eq ?_) | (with_reducible refine dd_and ?_) | (intro _))
set_option maxHeartbeats 4000000 in
theorem d_X7_isBefore {Y : Ly} {I : Mm} {k0 : Nat} {v1 : Int32} {v2 : Int32} : dt_d dt_T (fun post => w_X7_isBefore Y I k0 v1 v2 post) := by
  unfold w_X7_isBefore
  repeat' (first | (with_reducible exact dd_pT) | (with_reducible exact dd_pV) | (with_reducible refine dd_if ?_ ?_) | (with_reducible refine dd_fi ?_ ?_) | (with_reducible refine dd_ex ?_) | (with_reducible refine dd_eq ?_) | (with_reducible refine dd_and ?_) | (intro _))
set_option maxHeartbeats 4000000 in
theorem d_X7_add {Y : Ly} {I : Mm} {k0 : Nat} {v1 : Int32} {v2 : Int32} {v3 : Int32} : dt_d dt_V (fun post => w_X7_add Y I k0 v1 v2 v3 post) := by
  unfold w_X7_add
  repeat' (first | (with_reducible exact dd_pT) | (with_reducible exact dd_pV) | (with_reducible refine dd_if ?_ ?_) | (with_reducible refine dd_fi ?_ ?_) | (with_reducible refine dd_ex ?_) | (with_reducible refine dd_eq ?_) | (with_reducible refine dd_and ?_) | (intro _))
set_option maxHeartbeats 4000000 in
theorem d_X7_addBounds_B72 {P : Type} {A : (P → Prop) → Prop} {Y : Ly} {Rpost : Mm → P → Prop} (hpost : ∀ a0, dt_d A (Rpost a0)) {Rrc : Nat → Int32 → Int32 → Int32 → Int32 → Mm → P → Prop} (hrc : ∀ a0 a1 a2 a3 a4 a5, dt_d A (Rrc a0 a1 a2 a3 a4 a5)) {Rex_95 : Mm → P → Prop} (hex_95 : ∀ a0, dt_d A (Rex_95 a0)) {k0 : Nat} {v1 : Int32} {v2 : Int32} {v3 : Int32} {v4 : Int32} {v5 : Int32} {s0 : Int32} {I : Mm} : dt_d A (fun p => w_X7_addBounds_B72 Y (fun a0 => Rpost a0 p) (fun a0 a1 a2 a3 a4 a5 => Rrc a0 a1 a2 a3 a4 a5 p) (fun a0 => Rex_95 a0 p) k0 v1 v2 v3 v4 v5 s0 I) := by
  unfold w_X7_addBounds_B72
  repeat' (first | (with_reducible apply hpost) | (with_reducible apply hrc) | (with_reducible apply hex_95) | (with_reducible refine dd_cV (d_X7_add) ?_) | (with_reducible exact dd_pT) | (with_reducible exact dd_pV) | (with_reducible refine dd_if ?_ ?_) | (with_reducible refine dd_fi ?_ ?_) | (with_reducible refine dd_ex ?_) | (with_reducible refine dd_eq ?_) | (with_reducible refine dd_and ?_) | (intro _))
set_option maxHeartbeats 4000000 in
theorem d_X7_addBounds_B46 {P : Type} {A : (P → Prop) → Prop} {Y : Ly} {Rpost : Mm → P → Prop} (hpost : ∀ a0, dt_d A (Rpost a0)) {Rrc : Nat → Int32 → Int32 → Int32 → Int32 → Mm → P → Prop} (hrc : ∀ a0 a1 a2 a3 a4 a5, dt_d A (Rrc a0 a1 a2 a3 a4 a5)) {Rex_95 : Mm → P → Prop} (hex_95 : ∀ a0, dt_d A (Rex_95 a0)) {k0 : Nat} {v1 : Int32} {v2 : Int32} {v3 : Int32} {v4 : Int32} {s0 : Int32} {I : Mm} : dt_d A (fun p => w_X7_addBounds_B46 Y (fun a0 => Rpost a0 p) (fun a0 a1 a2 a3 a4 a5 => Rrc a0 a1 a2 a3 a4 a5 p) (fun a0 => Rex_95 a0 p) k0 v1 v2 v3 v4 s0 I) := by
  unfold w_X7_addBounds_B46
  repeat' (first | (with_reducible apply hpost) | (with_reducible apply hrc) | (with_reducible apply hex_95) | (with_reducible apply d_X7_addBounds_B72) | (with_reducible exact dd_pT) | (with_reducible exact dd_pV) | (with_reducible refine dd_if ?_ ?_) | (with_reducible refine dd_fi ?_ ?_) | (with_reducible refine dd_ex ?_) | (with_reducible refine dd_eq ?_) | (with_reducible refine dd_and ?_) | (intro _))
set_option maxHeartbeats 4000000 in
theorem d_X7_addBounds_L6 {P : Type} {A : (P → Prop) → Prop} {Y : Ly} {Rpost : Mm → P → Prop} (hpost : ∀ a0, dt_d A (Rpost a0)) {Rex_95 : Mm → P → Prop} (hex_95 : ∀ a0, dt_d A (Rex_95 a0)) : ∀ {n : Nat} {b0 : Nat} {b1 : Int32} {b2 : Int32} {b3 : Int32} {b4 : Int32} {b5 : Mm}, dt_d A (fun p => w_X7_addBounds_L6 Y (fun a0 => Rpost a0 p) (fun a0 => Rex_95 a0 p) n b0 b1 b2 b3 b4 b5) := by
  intro n
  induction n with
  | zero => intros; exact dd_false
  | succ n ih =>
    intros
    simp only [w_X7_addBounds_L6]
    repeat' (first | (with_reducible apply hpost) | (with_reducible apply hex_95) | (with_reducible apply ih) | (with_reducible apply d_X7_addBounds_B46) | (with_reducible exact dd_pT) | (with_reducible exact dd_pV) | (with_reducible refine dd_if ?_ ?_) | (with_reducible refine dd_fi ?_ ?_) | (with_reducible refine dd_ex ?_) | (with_reducible refine dd_eq ?_) | (with_reducible refine dd_and ?_) | (intro _))
set_option maxHeartbeats 4000000 in
theorem d_X7_addBounds {Y : Ly} {I : Mm} {k0 : Nat} {v1 : Int32} {v2 : Int32} {v3 : Int32} : dt_d dt_V (fun post => w_X7_addBounds Y I k0 v1 v2 v3 post) := by
  unfold w_X7_addBounds
  repeat' (first | (with_reducible apply d_X7_addBounds_L6) | (with_reducible exact dd_pT) | (with_reducible exact dd_pV) | (with_reducible refine dd_if ?_ ?_) | (with_reducible refine dd_fi ?_ ?_) | (with_reducible refine dd_ex ?_) | (with_reducible refine dd_eq ?_) | (with_reducible refine dd_and ?_) | (intro _))
set_option maxHeartbeats 4000000 in
theorem d_X7_addCube_B88 {P : Type} {A : (P → Prop) → Prop} {Y : Ly} {Rpost : Mm → P → Prop} (hpost : ∀ a0, dt_d A (Rpost a0)) {Rrc : Nat → Int32 → Int32 → Int32 → Int32 → Int32 → Int32 → Mm → P → Prop} (hrc : ∀ a0 a1 a2 a3 a4 a5 a6 a7, dt_d A (Rrc a0 a1 a2 a3 a4 a5 a6 a7)) {Rex_142 : Mm → P → Prop} (hex_142 : ∀ a0, dt_d A (Rex_142 a0)) {k0 : Nat} {v1 : Int32} {v2 : Int32} {v3 : Int32} {v4 : Int32} {v5 : Int32} {v6 : Int32} {v7 : Int32} {v8 : Int32} {s0 : Int32} {I : Mm} : dt_d A (fun p => w_X7_addCube_B88 Y (fun a0 => Rpost a0 p) (fun a0 a1 a2 a3 a4 a5 a6 a7 => Rrc a0 a1 a2 a3 a4 a5 a6 a7 p) (fun a0 => Rex_142 a0 p) k0 v1 v2 v3 v4 v5 v6 v7 v8 s0 I) := by
  unfold w_X7_addCube_B88
  repeat' (first | (with_reducible apply hpost) | (with_reducible apply hrc) | (with_reducible apply hex_142) | (with_reducible refine dd_cV (d_X7_add) ?_) | (with_reducible exact dd_pT) | (with_reducible exact dd_pV) | (with_reducible refine dd_if ?_ ?_) | (with_reducible refine dd_fi ?_ ?_) | (with_reducible refine dd_ex ?_) | (with_reducible refine dd_eq ?_) | (with_reducible refine dd_and ?_) | (intro _))
set_option maxHeartbeats 4000000 in
theorem d_X7_addCube_B54 {P : Type} {A : (P → Prop) → Prop} {Y : Ly} {Rpost : Mm → P → Prop} (hpost : ∀ a0, dt_d A (Rpost a0)) {Rrc : Nat → Int32 → Int32 → Int32 → Int32 → Int32 → Int32 → Mm → P → Prop} (hrc : ∀ a0 a1 a2 a3 a4 a5 a6 a7, dt_d A (Rrc a0 a1 a2 a3 a4 a5 a6 a7)) {Rex_142 : Mm → P → Prop} (hex_142 : ∀ a0, dt_d A (Rex_142 a0)) {k0 : Nat} {v1 : Int32} {v2 : Int32} {v3 : Int32} {v4 : Int32} {v5 : Int32} {v6 : Int32} {v7 : Int32} {s0 : Int32} {I : Mm} : dt_d A (fun p => w_X7_addCube_B54 Y (fun a0 => Rpost a0 p) (fun a0 a1 a2 a3 a4 a5 a6 a7 => Rrc a0 a1 a2 a3 a4 a5 a6 a7 p) (fun a0 => Rex_142 a0 p) k0 v1 v2 v3 v4 v5 v6 v7 s0 I) := by
  unfold w_X7_addCube_B54
  repeat' (first | (with_reducible apply hpost) | (with_reducible apply hrc) | (with_reducible apply hex_142) | (with_reducible apply d_X7_addCube_B88) | (with_reducible exact dd_pT) | (with_reducible exact dd_pV) | (with_reducible refine dd_if ?_ ?_) | (with_reducible refine dd_fi ?_ ?_) | (with_reducible refine dd_ex ?_) | (with_reducible refine dd_eq ?_) | (with_reducible refine dd_and ?_) | (intro _))
set_option maxHeartbeats 4000000 in
theorem d_X7_addCube_L3 {P : Type} {A : (P → Prop) → Prop} {Y : Ly} {Rpost : Mm → P → Prop} (hpost : ∀ a0, dt_d A (Rpost a0)) {Rex_142 : Mm → P → Prop} (hex_142 : ∀ a0, dt_d A (Rex_142 a0)) : ∀ {n : Nat} {b0 : Nat} {b1 : Int32} {b2 : Int32} {b3 : Int32} {b4 : Int32} {b5 : Int32} {b6 : Int32} {b7 : Mm}, dt_d A (fun p => w_X7_addCube_L3 Y (fun a0 => Rpost a0 p) (fun a0 => Rex_142 a0 p) n b0 b1 b2 b3 b4 b5 b6 b7) := by
  intro n
  induction n with
  | zero => intros; exact dd_false
  | succ n ih =>
    intros
    simp only [w_X7_addCube_L3]
    repeat' (first | (with_reducible apply hpost) | (with_reducible apply hex_142) | (with_reducible apply ih) | (with_reducible apply d_X7_addCube_B54) | (with_reducible exact dd_pT) | (with_reducible exact dd_pV) | (with_reducible refine dd_if ?_ ?_) | (with_reducible refine dd_fi ?_ ?_) | (with_reducible refine dd_ex ?_) | (with_reducible refine dd_eq ?_) | (with_reducible refine dd_and ?_) | (intro _))
set_option maxHeartbeats 4000000 in
theorem d_X7_addCube {Y : Ly} {I : Mm} {k0 : Nat} {v1 : Int32} {v2 : Int32} {v3 : Int32} {v4 : Int32} {v5 : Int32} : dt_d dt_V (fun post => w_X7_addCube Y I k0 v1 v2 v3 v4 v5 post) := by
  unfold w_X7_addCube
  repeat' (first | (with_reducible apply d_X7_addCube_L3) | (with_reducible exact dd_pT) | (with_reducible exact dd_pV) | (with_reducible refine dd_if ?_ ?_) | (with_reducible refine dd_fi ?_ ?_) | (with_reducible refine dd_ex ?_) | (with_reducible refine dd_eq ?_) | (with_reducible refine dd_and ?_) | (intro _))
set_option maxHeartbeats 4000000 in
theorem d_X7_settles_L18 {P : Type} {A : (P → Prop) → Prop} {Y : Ly} {Rpost : Int32 → Mm → P → Prop} (hpost : ∀ a0 a1, dt_d A (Rpost a0 a1)) {Rex_119 : Nat → Int32 → Int32 → Int32 → Mm → P → Prop} (hex_119 : ∀ a0 a1 a2 a3 a4, dt_d A (Rex_119 a0 a1 a2 a3 a4)) : ∀ {n : Nat} {b0 : Nat} {b1 : Int32} {b2 : Int32} {b3 : Int32} {b4 : Int32} {b5 : Mm}, dt_d A (fun p => w_X7_settles_L18 Y (fun a0 a1 => Rpost a0 a1 p) (fun a0 a1 a2 a3 a4 => Rex_119 a0 a1 a2 a3 a4 p) n b0 b1 b2 b3 b4 b5) := by
  intro n
  induction n with
  | zero => intros; exact dd_false
  | succ n ih =>
    intros
    simp only [w_X7_settles_L18]
    repeat' (first | (with_reducible apply hpost) | (with_reducible apply hex_119) | (with_reducible apply ih) | (with_reducible exact dd_pT) | (with_reducible exact dd_pV) | (with_reducible refine dd_if ?_ ?_) | (with_reducible refine dd_fi ?_ ?_) | (with_reducible refine dd_ex ?_) | (with_reducible refine dd_eq ?_) | (with_reducible refine dd_and ?_) | (intro _))
set_option maxHeartbeats 4000000 in
theorem d_X7_settles_L4 {P : Type} {A : (P → Prop) → Prop} {Y : Ly} {Rpost : Int32 → Mm → P → Prop} (hpost : ∀ a0 a1, dt_d A (Rpost a0 a1)) {Rex_125 : Int32 → Mm → P → Prop} (hex_125 : ∀ a0 a1, dt_d A (Rex_125 a0 a1)) : ∀ {n : Nat} {b0 : Nat} {b1 : Int32} {b2 : Int32} {b3 : Int32} {b4 : Mm}, dt_d A (fun p => w_X7_settles_L4 Y (fun a0 a1 => Rpost a0 a1 p) (fun a0 a1 => Rex_125 a0 a1 p) n b0 b1 b2 b3 b4) := by
  intro n
  induction n with
  | zero => intros; exact dd_false
  | succ n ih =>
    intros
    simp only [w_X7_settles_L4]
    repeat' (first | (with_reducible apply hpost) | (with_reducible apply hex_125) | (with_reducible apply ih) | (with_reducible apply d_X7_settles_L18) | (with_reducible exact dd_pT) | (with_reducible exact dd_pV) | (with_reducible refine dd_if ?_ ?_) | (with_reducible refine dd_fi ?_ ?_) | (with_reducible refine dd_ex ?_) | (with_reducible refine dd_eq ?_) | (with_reducible refine dd_and ?_) | (intro _))
set_option maxHeartbeats 4000000 in
theorem d_X7_settles_B125 {P : Type} {A : (P → Prop) → Prop} {Y : Ly} {Rpost : Int32 → Mm → P → Prop} (hpost : ∀ a0 a1, dt_d A (Rpost a0 a1)) {v2 : Int32} {I : Mm} : dt_d A (fun p => w_X7_settles_B125 Y (fun a0 a1 => Rpost a0 a1 p) v2 I) := by
  unfold w_X7_settles_B125
  repeat' (first | (with_reducible apply hpost) | (with_reducible exact dd_pT) | (with_reducible exact dd_pV) | (with_reducible refine dd_if ?_ ?_) | (with_reducible refine dd_fi ?_ ?_) | (with_reducible refine dd_ex ?_) | (with_reducible refine dd_eq ?_) | (with_reducible refine dd_and ?_) | (intro _))
set_option maxHeartbeats 4000000 in
theorem d_X7_settles {Y : Ly} {I : Mm} {k0 : Nat} {v1 : Int32} : dt_d dt_T (fun post => w_X7_settles Y I k0 v1 post) := by
  unfold w_X7_settles
  repeat' (first | (with_reducible apply d_X7_settles_L4) | (with_reducible apply d_X7_settles_B125) | (with_reducible exact dd_pT) | (with_reducible exact dd_pV) | (with_reducible refine dd_if ?_ ?_) | (with_reducible refine dd_fi ?_ ?_) | (with_reducible refine dd_ex ?_) | (with_reducible refine dd_eq ?_) | (with_reducible refine dd_and ?_) | (intro _))
set_option maxHeartbeats 4000000 in
theorem d_X7_holdsTogether_L2 {P : Type} {A : (P → Prop) → Prop} {Y : Ly} {Rpost : Int32 → Mm → P → Prop} (hpost : ∀ a0 a1, dt_d A (Rpost a0 a1)) {Rex_20 : Nat → Int32 → Mm → P → Prop} (hex_20 : ∀ a0 a1 a2, dt_d A (Rex_20 a0 a1 a2)) : ∀ {n : Nat} {b0 : Nat} {b1 : Int32} {b2 : Int32} {b3 : Mm}, dt_d A (fun p => w_X7_holdsTogether_L2 Y (fun a0 a1 => Rpost a0 a1 p) (fun a0 a1 a2 => Rex_20 a0 a1 a2 p) n b0 b1 b2 b3) := by
  intro n
  induction n with
  | zero => intros; exact dd_false
  | succ n ih =>
    intros
    simp only [w_X7_holdsTogether_L2]
    repeat' (first | (with_reducible apply hpost) | (with_reducible apply hex_20) | (with_reducible apply ih) | (with_reducible exact dd_pT) | (with_reducible exact dd_pV) | (with_reducible refine dd_if ?_ ?_) | (with_reducible refine dd_fi ?_ ?_) | (with_reducible refine dd_ex ?_) | (with_reducible refine dd_eq ?_) | (with_reducible refine dd_and ?_) | (intro _))
set_option maxHeartbeats 4000000 in
theorem d_X7_holdsTogether {Y : Ly} {I : Mm} {k0 : Nat} {v1 : Int32} : dt_d dt_T (fun post => w_X7_holdsTogether Y I k0 v1 post) := by
  unfold w_X7_holdsTogether
  repeat' (first | (with_reducible refine dd_cT (d_X7_settles) ?_) | (with_reducible apply d_X7_holdsTogether_L2) | (with_reducible exact dd_pT) | (with_reducible exact dd_pV) | (with_reducible refine dd_if ?_ ?_) | (with_reducible refine dd_fi ?_ ?_) | (with_reducible refine dd_ex ?_) | (with_reducible refine dd_eq ?_) | (with_reducible refine dd_and ?_) | (intro _))
set_option maxHeartbeats 4000000 in
theorem d_X7_fits_B52 {P : Type} {A : (P → Prop) → Prop} {Y : Ly} {Rpost : Int32 → Mm → P → Prop} (hpost : ∀ a0 a1, dt_d A (Rpost a0 a1)) {Rrc : Nat → Int32 → Int32 → Int32 → Int32 → Int32 → Mm → P → Prop} (hrc : ∀ a0 a1 a2 a3 a4 a5 a6, dt_d A (Rrc a0 a1 a2 a3 a4 a5 a6)) {Rex_82 : Nat → Int32 → Int32 → Mm → P → Prop} (hex_82 : ∀ a0 a1 a2 a3, dt_d A (Rex_82 a0 a1 a2 a3)) {k0 : Nat} {v1 : Int32} {v2 : Int32} {v3 : Int32} {v4 : Int32} {v5 : Int32} {v6 : Int32} {s0 : Int32} {s1 : Int32} {t2 : Nat} {I : Mm} : dt_d A (fun p => w_X7_fits_B52 Y (fun a0 a1 => Rpost a0 a1 p) (fun a0 a1 a2 a3 a4 a5 a6 => Rrc a0 a1 a2 a3 a4 a5 a6 p) (fun a0 a1 a2 a3 => Rex_82 a0 a1 a2 a3 p) k0 v1 v2 v3 v4 v5 v6 s0 s1 t2 I) := by
  unfold w_X7_fits_B52
  repeat' (first | (with_reducible apply hpost) | (with_reducible apply hrc) | (with_reducible apply hex_82) | (with_reducible refine dd_cV (d_X7_addCube) ?_) | (with_reducible exact dd_pT) | (with_reducible exact dd_pV) | (with_reducible refine dd_if ?_ ?_) | (with_reducible refine dd_fi ?_ ?_) | (with_reducible refine dd_ex ?_) | (with_reducible refine dd_eq ?_) | (with_reducible refine dd_and ?_) | (intro _))
set_option maxHeartbeats 4000000 in
theorem d_X7_fits_L15 {P : Type} {A : (P → Prop) → Prop} {Y : Ly} {Rpost : Int32 → Mm → P → Prop} (hpost : ∀ a0 a1, dt_d A (Rpost a0 a1)) {Rex_82 : Nat → Int32 → Int32 → Mm → P → Prop} (hex_82 : ∀ a0 a1 a2 a3, dt_d A (Rex_82 a0 a1 a2 a3)) : ∀ {n : Nat} {b0 : Nat} {b1 : Int32} {b2 : Int32} {b3 : Int32} {b4 : Int32} {b5 : Int32} {b6 : Mm}, dt_d A (fun p => w_X7_fits_L15 Y (fun a0 a1 => Rpost a0 a1 p) (fun a0 a1 a2 a3 => Rex_82 a0 a1 a2 a3 p) n b0 b1 b2 b3 b4 b5 b6) := by
  intro n
  induction n with
  | zero => intros; exact dd_false
  | succ n ih =>
    intros
    simp only [w_X7_fits_L15]
    repeat' (first | (with_reducible apply hpost) | (with_reducible apply hex_82) | (with_reducible apply ih) | (with_reducible apply d_X7_fits_B52) | (with_reducible exact dd_pT) | (with_reducible exact dd_pV) | (with_reducible refine dd_if ?_ ?_) | (with_reducible refine dd_fi ?_ ?_) | (with_reducible refine dd_ex ?_) | (with_reducible refine dd_eq ?_) | (with_reducible refine dd_and ?_) | (intro _))
set_option maxHeartbeats 4000000 in
theorem d_X7_fits_B118 {P : Type} {A : (P → Prop) → Prop} {Y : Ly} {Rpost : Int32 → Mm → P → Prop} (hpost : ∀ a0 a1, dt_d A (Rpost a0 a1)) {k0 : Nat} {I : Mm} : dt_d A (fun p => w_X7_fits_B118 Y (fun a0 a1 => Rpost a0 a1 p) k0 I) := by
  unfold w_X7_fits_B118
  repeat' (first | (with_reducible apply hpost) | (with_reducible refine dd_cT (d_X7_holdsTogether) ?_) | (with_reducible exact dd_pT) | (with_reducible exact dd_pV) | (with_reducible refine dd_if ?_ ?_) | (with_reducible refine dd_fi ?_ ?_) | (with_reducible refine dd_ex ?_) | (with_reducible refine dd_eq ?_) | (with_reducible refine dd_and ?_) | (intro _))
set_option maxHeartbeats 4000000 in
theorem d_X7_fits {Y : Ly} {I : Mm} {k0 : Nat} {v1 : Int32} {v2 : Int32} {v3 : Int32} {v4 : Int32} : dt_d dt_T (fun post => w_X7_fits Y I k0 v1 v2 v3 v4 post) := by
  unfold w_X7_fits
  repeat' (first | (with_reducible refine dd_cV (d_X7_addBounds) ?_) | (with_reducible refine dd_cV (d_X7_addCube) ?_) | (with_reducible apply d_X7_fits_L15) | (with_reducible apply d_X7_fits_B118) | (with_reducible exact dd_pT) | (with_reducible exact dd_pV) | (with_reducible refine dd_if ?_ ?_) | (with_reducible refine dd_fi ?_ ?_) | (with_reducible refine dd_ex ?_) | (with_reducible refine dd_eq ?_) | (with_reducible refine dd_and ?_) | (intro _))
set_option maxHeartbeats 4000000 in
theorem d_X7_isFound_B155 {P : Type} {A : (P → Prop) → Prop} {Y : Ly} {Rpost : Int32 → Mm → P → Prop} (hpost : ∀ a0 a1, dt_d A (Rpost a0 a1)) {Rrc : Nat → Int32 → Int32 → Int32 → Int32 → Int32 → Mm → P → Prop} (hrc : ∀ a0 a1 a2 a3 a4 a5 a6, dt_d A (Rrc a0 a1 a2 a3 a4 a5 a6)) {Rex_175 : Nat → Int32 → Int32 → Int32 → Mm → P → Prop} (hex_175 : ∀ a0 a1 a2 a3 a4, dt_d A (Rex_175 a0 a1 a2 a3 a4)) {Rex_222 : Mm → P → Prop} (hex_222 : ∀ a0, dt_d A (Rex_222 a0)) {k0 : Nat} {v1 : Int32} {v2 : Int32} {v3 : Int32} {v4 : Int32} {v5 : Int32} {v6 : Int32} {v7 : Int32} {s0 : Int32} {I : Mm} : dt_d A (fun p => w_X7_isFound_B155 Y (fun a0 a1 => Rpost a0 a1 p) (fun a0 a1 a2 a3 a4 a5 a6 => Rrc a0 a1 a2 a3 a4 a5 a6 p) (fun a0 a1 a2 a3 a4 => Rex_175 a0 a1 a2 a3 a4 p) (fun a0 => Rex_222 a0 p) k0 v1 v2 v3 v4 v5 v6 v7 s0 I) := by
  unfold w_X7_isFound_B155
  repeat' (first | (with_reducible apply hpost) | (with_reducible apply hrc) | (with_reducible apply hex_175) | (with_reducible apply hex_222) | (with_reducible refine dd_cT (d_X7_fits) ?_) | (with_reducible exact dd_pT) | (with_reducible exact dd_pV) | (with_reducible refine dd_if ?_ ?_) | (with_reducible refine dd_fi ?_ ?_) | (with_reducible refine dd_ex ?_) | (with_reducible refine dd_eq ?_) | (with_reducible refine dd_and ?_) | (intro _))
set_option maxHeartbeats 4000000 in
theorem d_X7_isFound_B114 {P : Type} {A : (P → Prop) → Prop} {Y : Ly} {Rpost : Int32 → Mm → P → Prop} (hpost : ∀ a0 a1, dt_d A (Rpost a0 a1)) {Rrc : Nat → Int32 → Int32 → Int32 → Int32 → Int32 → Mm → P → Prop} (hrc : ∀ a0 a1 a2 a3 a4 a5 a6, dt_d A (Rrc a0 a1 a2 a3 a4 a5 a6)) {Rex_175 : Nat → Int32 → Int32 → Int32 → Mm → P → Prop} (hex_175 : ∀ a0 a1 a2 a3 a4, dt_d A (Rex_175 a0 a1 a2 a3 a4)) {Rex_222 : Mm → P → Prop} (hex_222 : ∀ a0, dt_d A (Rex_222 a0)) {k0 : Nat} {v1 : Int32} {v2 : Int32} {v3 : Int32} {v4 : Int32} {v5 : Int32} {v6 : Int32} {v7 : Int32} {s0 : Int32} {I : Mm} : dt_d A (fun p => w_X7_isFound_B114 Y (fun a0 a1 => Rpost a0 a1 p) (fun a0 a1 a2 a3 a4 a5 a6 => Rrc a0 a1 a2 a3 a4 a5 a6 p) (fun a0 a1 a2 a3 a4 => Rex_175 a0 a1 a2 a3 a4 p) (fun a0 => Rex_222 a0 p) k0 v1 v2 v3 v4 v5 v6 v7 s0 I) := by
  unfold w_X7_isFound_B114
  repeat' (first | (with_reducible apply hpost) | (with_reducible apply hrc) | (with_reducible apply hex_175) | (with_reducible apply hex_222) | (with_reducible refine dd_cT (d_X7_isBefore) ?_) | (with_reducible apply d_X7_isFound_B155) | (with_reducible exact dd_pT) | (with_reducible exact dd_pV) | (with_reducible refine dd_if ?_ ?_) | (with_reducible refine dd_fi ?_ ?_) | (with_reducible refine dd_ex ?_) | (with_reducible refine dd_eq ?_) | (with_reducible refine dd_and ?_) | (intro _))
set_option maxHeartbeats 4000000 in
theorem d_X7_isFound_L59 {P : Type} {A : (P → Prop) → Prop} {Y : Ly} {Rpost : Int32 → Mm → P → Prop} (hpost : ∀ a0 a1, dt_d A (Rpost a0 a1)) {Rex_175 : Nat → Int32 → Int32 → Int32 → Mm → P → Prop} (hex_175 : ∀ a0 a1 a2 a3 a4, dt_d A (Rex_175 a0 a1 a2 a3 a4)) {Rex_222 : Mm → P → Prop} (hex_222 : ∀ a0, dt_d A (Rex_222 a0)) : ∀ {n : Nat} {b0 : Nat} {b1 : Int32} {b2 : Int32} {b3 : Int32} {b4 : Int32} {b5 : Int32} {b6 : Mm}, dt_d A (fun p => w_X7_isFound_L59 Y (fun a0 a1 => Rpost a0 a1 p) (fun a0 a1 a2 a3 a4 => Rex_175 a0 a1 a2 a3 a4 p) (fun a0 => Rex_222 a0 p) n b0 b1 b2 b3 b4 b5 b6) := by
  intro n
  induction n with
  | zero => intros; exact dd_false
  | succ n ih =>
    intros
    simp only [w_X7_isFound_L59]
    repeat' (first | (with_reducible apply hpost) | (with_reducible apply hex_175) | (with_reducible apply hex_222) | (with_reducible apply ih) | (with_reducible refine dd_cT (d_X7_isBefore) ?_) | (with_reducible apply d_X7_isFound_B114) | (with_reducible exact dd_pT) | (with_reducible exact dd_pV) | (with_reducible refine dd_if ?_ ?_) | (with_reducible refine dd_fi ?_ ?_) | (with_reducible refine dd_ex ?_) | (with_reducible refine dd_eq ?_) | (with_reducible refine dd_and ?_) | (intro _))
set_option maxHeartbeats 4000000 in
theorem d_X7_isFound_B191 {P : Type} {A : (P → Prop) → Prop} {Y : Ly} {Rpost : Int32 → Mm → P → Prop} (hpost : ∀ a0 a1, dt_d A (Rpost a0 a1)) {k0 : Nat} {v1 : Int32} {v7 : Int32} {s0 : Int32} {t1 : Nat} {I : Mm} : dt_d A (fun p => w_X7_isFound_B191 Y (fun a0 a1 => Rpost a0 a1 p) k0 v1 v7 s0 t1 I) := by
  unfold w_X7_isFound_B191
  repeat' (first | (with_reducible apply hpost) | (with_reducible exact dd_pT) | (with_reducible exact dd_pV) | (with_reducible refine dd_if ?_ ?_) | (with_reducible refine dd_fi ?_ ?_) | (with_reducible refine dd_ex ?_) | (with_reducible refine dd_eq ?_) | (with_reducible refine dd_and ?_) | (intro _))
set_option maxHeartbeats 4000000 in
theorem d_X7_isFound_B25 {P : Type} {A : (P → Prop) → Prop} {Y : Ly} {Rpost : Int32 → Mm → P → Prop} (hpost : ∀ a0 a1, dt_d A (Rpost a0 a1)) {k0 : Nat} {v1 : Int32} {v2 : Int32} {s0 : Int32} {I : Mm} : dt_d A (fun p => w_X7_isFound_B25 Y (fun a0 a1 => Rpost a0 a1 p) k0 v1 v2 s0 I) := by
  unfold w_X7_isFound_B25
  repeat' (first | (with_reducible apply hpost) | (with_reducible refine dd_cT (d_X7_cubesOf) ?_) | (with_reducible apply d_X7_isFound_L59) | (with_reducible apply d_X7_isFound_B191) | (with_reducible exact dd_pT) | (with_reducible exact dd_pV) | (with_reducible refine dd_if ?_ ?_) | (with_reducible refine dd_fi ?_ ?_) | (with_reducible refine dd_ex ?_) | (with_reducible refine dd_eq ?_) | (with_reducible refine dd_and ?_) | (intro _))
set_option maxHeartbeats 4000000 in
theorem d_X7_isFound {Y : Ly} {I : Mm} {k0 : Nat} {v1 : Int32} {v2 : Int32} : dt_d dt_T (fun post => w_X7_isFound Y I k0 v1 v2 post) := by
  unfold w_X7_isFound
  repeat' (first | (with_reducible refine dd_cT (d_X7_cubesOf) ?_) | (with_reducible apply d_X7_isFound_B25) | (with_reducible exact dd_pT) | (with_reducible exact dd_pV) | (with_reducible refine dd_if ?_ ?_) | (with_reducible refine dd_fi ?_ ?_) | (with_reducible refine dd_ex ?_) | (with_reducible refine dd_eq ?_) | (with_reducible refine dd_and ?_) | (intro _))
set_option maxHeartbeats 4000000 in
theorem d_X7_stateOf {Y : Ly} {I : Mm} {k0 : Nat} {v1 : Int32} : dt_d dt_T (fun post => w_X7_stateOf Y I k0 v1 post) := by
  unfold w_X7_stateOf
  repeat' (first | (with_reducible exact dd_pT) | (with_reducible exact dd_pV) | (with_reducible refine dd_if ?_ ?_) | (with_reducible refine dd_fi ?_ ?_) | (with_reducible refine dd_ex ?_) | (with_reducible refine dd_eq ?_) | (with_reducible refine dd_and ?_) | (intro _))
set_option maxHeartbeats 4000000 in
theorem d_X7_place_B107 {P : Type} {A : (P → Prop) → Prop} {Y : Ly} {Rpost : Mm → P → Prop} (hpost : ∀ a0, dt_d A (Rpost a0)) {k0 : Nat} {v1 : Int32} {v3 : Int32} {s0 : Int32} {s1 : Int32} {t2 : Nat} {I : Mm} : dt_d A (fun p => w_X7_place_B107 Y (fun a0 => Rpost a0 p) k0 v1 v3 s0 s1 t2 I) := by
  unfold w_X7_place_B107
  repeat' (first | (with_reducible apply hpost) | (with_reducible exact dd_pT) | (with_reducible exact dd_pV) | (with_reducible refine dd_if ?_ ?_) | (with_reducible refine dd_fi ?_ ?_) | (with_reducible refine dd_ex ?_) | (with_reducible refine dd_eq ?_) | (with_reducible refine dd_and ?_) | (intro _))
set_option maxHeartbeats 4000000 in
theorem d_X7_place {Y : Ly} {I : Mm} {k0 : Nat} {v1 : Int32} : dt_d dt_V (fun post => w_X7_place Y I k0 v1 post) := by
  unfold w_X7_place
  repeat' (first | (with_reducible refine dd_cT (d_X7_stateOf) ?_) | (with_reducible apply d_X7_place_B107) | (with_reducible exact dd_pT) | (with_reducible exact dd_pV) | (with_reducible refine dd_if ?_ ?_) | (with_reducible refine dd_fi ?_ ?_) | (with_reducible refine dd_ex ?_) | (with_reducible refine dd_eq ?_) | (with_reducible refine dd_and ?_) | (intro _))
set_option maxHeartbeats 4000000 in
theorem d_X7_grow_L94 {P : Type} {A : (P → Prop) → Prop} {Y : Ly} {Rpost : Mm → P → Prop} (hpost : ∀ a0, dt_d A (Rpost a0)) {Rex_120 : Nat → Int32 → Mm → P → Prop} (hex_120 : ∀ a0 a1 a2, dt_d A (Rex_120 a0 a1 a2)) : ∀ {n : Nat} {b0 : Nat} {b1 : Int32} {b2 : Int32} {b3 : Int32} {b4 : Mm}, dt_d A (fun p => w_X7_grow_L94 Y (fun a0 => Rpost a0 p) (fun a0 a1 a2 => Rex_120 a0 a1 a2 p) n b0 b1 b2 b3 b4) := by
  intro n
  induction n with
  | zero => intros; exact dd_false
  | succ n ih =>
    intros
    simp only [w_X7_grow_L94]
    repeat' (first | (with_reducible apply hpost) | (with_reducible apply hex_120) | (with_reducible apply ih) | (with_reducible exact dd_pT) | (with_reducible exact dd_pV) | (with_reducible refine dd_if ?_ ?_) | (with_reducible refine dd_fi ?_ ?_) | (with_reducible refine dd_ex ?_) | (with_reducible refine dd_eq ?_) | (with_reducible refine dd_and ?_) | (intro _))
set_option maxHeartbeats 4000000 in
theorem d_X7_grow_L14 {P : Type} {A : (P → Prop) → Prop} {Y : Ly} {Rpost : Mm → P → Prop} (hpost : ∀ a0, dt_d A (Rpost a0)) {Rex_123 : Nat → Mm → P → Prop} (hex_123 : ∀ a0 a1, dt_d A (Rex_123 a0 a1)) : ∀ {n : Nat} {b0 : Nat} {b1 : Int32} {b2 : Mm}, dt_d A (fun p => w_X7_grow_L14 Y (fun a0 => Rpost a0 p) (fun a0 a1 => Rex_123 a0 a1 p) n b0 b1 b2) := by
  intro n
  induction n with
  | zero => intros; exact dd_false
  | succ n ih =>
    intros
    simp only [w_X7_grow_L14]
    repeat' (first | (with_reducible apply hpost) | (with_reducible apply hex_123) | (with_reducible apply ih) | (with_reducible refine dd_cV (d_X7_place) ?_) | (with_reducible apply d_X7_grow_L94) | (with_reducible exact dd_pT) | (with_reducible exact dd_pV) | (with_reducible refine dd_if ?_ ?_) | (with_reducible refine dd_fi ?_ ?_) | (with_reducible refine dd_ex ?_) | (with_reducible refine dd_eq ?_) | (with_reducible refine dd_and ?_) | (intro _))
set_option maxHeartbeats 4000000 in
theorem d_X7_grow_L125 {P : Type} {A : (P → Prop) → Prop} {Y : Ly} {Rpost : Mm → P → Prop} (hpost : ∀ a0, dt_d A (Rpost a0)) {Rex_148 : Nat → Mm → P → Prop} (hex_148 : ∀ a0 a1, dt_d A (Rex_148 a0 a1)) : ∀ {n : Nat} {b0 : Nat} {b1 : Int32} {b2 : Mm}, dt_d A (fun p => w_X7_grow_L125 Y (fun a0 => Rpost a0 p) (fun a0 a1 => Rex_148 a0 a1 p) n b0 b1 b2) := by
  intro n
  induction n with
  | zero => intros; exact dd_false
  | succ n ih =>
    intros
    simp only [w_X7_grow_L125]
    repeat' (first | (with_reducible apply hpost) | (with_reducible apply hex_148) | (with_reducible apply ih) | (with_reducible exact dd_pT) | (with_reducible exact dd_pV) | (with_reducible refine dd_if ?_ ?_) | (with_reducible refine dd_fi ?_ ?_) | (with_reducible refine dd_ex ?_) | (with_reducible refine dd_eq ?_) | (with_reducible refine dd_and ?_) | (intro _))
set_option maxHeartbeats 4000000 in
theorem d_X7_grow_L155 {P : Type} {A : (P → Prop) → Prop} {Y : Ly} {Rpost : Mm → P → Prop} (hpost : ∀ a0, dt_d A (Rpost a0)) {Rex_216 : Mm → P → Prop} (hex_216 : ∀ a0, dt_d A (Rex_216 a0)) : ∀ {n : Nat} {b0 : Nat} {b1 : Int32} {b2 : Mm}, dt_d A (fun p => w_X7_grow_L155 Y (fun a0 => Rpost a0 p) (fun a0 => Rex_216 a0 p) n b0 b1 b2) := by
  intro n
  induction n with
  | zero => intros; exact dd_false
  | succ n ih =>
    intros
    simp only [w_X7_grow_L155]
    repeat' (first | (with_reducible apply hpost) | (with_reducible apply hex_216) | (with_reducible apply ih) | (with_reducible exact dd_pT) | (with_reducible exact dd_pV) | (with_reducible refine dd_if ?_ ?_) | (with_reducible refine dd_fi ?_ ?_) | (with_reducible refine dd_ex ?_) | (with_reducible refine dd_eq ?_) | (with_reducible refine dd_and ?_) | (intro _))
set_option maxHeartbeats 4000000 in
theorem d_X7_grow {Y : Ly} {I : Mm} {k0 : Nat} : dt_d dt_V (fun post => w_X7_grow Y I k0 post) := by
  unfold w_X7_grow
  repeat' (first | (with_reducible apply d_X7_grow_L14) | (with_reducible apply d_X7_grow_L125) | (with_reducible apply d_X7_grow_L155) | (with_reducible exact dd_pT) | (with_reducible exact dd_pV) | (with_reducible refine dd_if ?_ ?_) | (with_reducible refine dd_fi ?_ ?_) | (with_reducible refine dd_ex ?_) | (with_reducible refine dd_eq ?_) | (with_reducible refine dd_and ?_) | (intro _))
set_option maxHeartbeats 4000000 in
theorem d_X7_isReached_L2 {P : Type} {A : (P → Prop) → Prop} {Y : Ly} {Rpost : Int32 → Mm → P → Prop} (hpost : ∀ a0 a1, dt_d A (Rpost a0 a1)) {Rex_35 : Nat → Int32 → Int32 → Mm → P → Prop} (hex_35 : ∀ a0 a1 a2 a3, dt_d A (Rex_35 a0 a1 a2 a3)) {Rex_86 : Mm → P → Prop} (hex_86 : ∀ a0, dt_d A (Rex_86 a0)) : ∀ {n : Nat} {b0 : Nat} {b1 : Int32} {b2 : Int32} {b3 : Mm}, dt_d A (fun p => w_X7_isReached_L2 Y (fun a0 a1 => Rpost a0 a1 p) (fun a0 a1 a2 a3 => Rex_35 a0 a1 a2 a3 p) (fun a0 => Rex_86 a0 p) n b0 b1 b2 b3) := by
  intro n
  induction n with
  | zero => intros; exact dd_false
  | succ n ih =>
    intros
    simp only [w_X7_isReached_L2]
    repeat' (first | (with_reducible apply hpost) | (with_reducible apply hex_35) | (with_reducible apply hex_86) | (with_reducible apply ih) | (with_reducible refine dd_cT (d_X7_isFound) ?_) | (with_reducible exact dd_pT) | (with_reducible exact dd_pV) | (with_reducible refine dd_if ?_ ?_) | (with_reducible refine dd_fi ?_ ?_) | (with_reducible refine dd_ex ?_) | (with_reducible refine dd_eq ?_) | (with_reducible refine dd_and ?_) | (intro _))
set_option maxHeartbeats 4000000 in
theorem d_X7_isReached {Y : Ly} {I : Mm} {k0 : Nat} {v1 : Int32} : dt_d dt_T (fun post => w_X7_isReached Y I k0 v1 post) := by
  unfold w_X7_isReached
  repeat' (first | (with_reducible apply d_X7_isReached_L2) | (with_reducible exact dd_pT) | (with_reducible exact dd_pV) | (with_reducible refine dd_if ?_ ?_) | (with_reducible refine dd_fi ?_ ?_) | (with_reducible refine dd_ex ?_) | (with_reducible refine dd_eq ?_) | (with_reducible refine dd_and ?_) | (intro _))
set_option maxHeartbeats 4000000 in
theorem d_X7_next_L12 {P : Type} {A : (P → Prop) → Prop} {Y : Ly} {Rpost : Int32 → Mm → P → Prop} (hpost : ∀ a0 a1, dt_d A (Rpost a0 a1)) {Rex_38 : Nat → Int32 → Mm → P → Prop} (hex_38 : ∀ a0 a1 a2, dt_d A (Rex_38 a0 a1 a2)) {Rex_75 : Nat → Mm → P → Prop} (hex_75 : ∀ a0 a1, dt_d A (Rex_75 a0 a1)) : ∀ {n : Nat} {b0 : Nat} {b1 : Int32} {b2 : Mm}, dt_d A (fun p => w_X7_next_L12 Y (fun a0 a1 => Rpost a0 a1 p) (fun a0 a1 a2 => Rex_38 a0 a1 a2 p) (fun a0 a1 => Rex_75 a0 a1 p) n b0 b1 b2) := by
  intro n
  induction n with
  | zero => intros; exact dd_false
  | succ n ih =>
    intros
    simp only [w_X7_next_L12]
    repeat' (first | (with_reducible apply hpost) | (with_reducible apply hex_38) | (with_reducible apply hex_75) | (with_reducible apply ih) | (with_reducible refine dd_cT (d_X7_isFound) ?_) | (with_reducible exact dd_pT) | (with_reducible exact dd_pV) | (with_reducible refine dd_if ?_ ?_) | (with_reducible refine dd_fi ?_ ?_) | (with_reducible refine dd_ex ?_) | (with_reducible refine dd_eq ?_) | (with_reducible refine dd_and ?_) | (intro _))
set_option maxHeartbeats 4000000 in
theorem d_X7_next_L79 {P : Type} {A : (P → Prop) → Prop} {Y : Ly} {Rpost : Int32 → Mm → P → Prop} (hpost : ∀ a0 a1, dt_d A (Rpost a0 a1)) {Rex_131 : Nat → Int32 → Mm → P → Prop} (hex_131 : ∀ a0 a1 a2, dt_d A (Rex_131 a0 a1 a2)) : ∀ {n : Nat} {b0 : Nat} {b1 : Int32} {b2 : Int32} {b3 : Mm}, dt_d A (fun p => w_X7_next_L79 Y (fun a0 a1 => Rpost a0 a1 p) (fun a0 a1 a2 => Rex_131 a0 a1 a2 p) n b0 b1 b2 b3) := by
  intro n
  induction n with
  | zero => intros; exact dd_false
  | succ n ih =>
    intros
    simp only [w_X7_next_L79]
    repeat' (first | (with_reducible apply hpost) | (with_reducible apply hex_131) | (with_reducible apply ih) | (with_reducible refine dd_cT (d_X7_cubesOf) ?_) | (with_reducible refine dd_cT (d_X7_isReached) ?_) | (with_reducible exact dd_pT) | (with_reducible exact dd_pV) | (with_reducible refine dd_if ?_ ?_) | (with_reducible refine dd_fi ?_ ?_) | (with_reducible refine dd_ex ?_) | (with_reducible refine dd_eq ?_) | (with_reducible refine dd_and ?_) | (intro _))
set_option maxHeartbeats 4000000 in
theorem d_X7_next {Y : Ly} {I : Mm} {k0 : Nat} : dt_d dt_T (fun post => w_X7_next Y I k0 post) := by
  unfold w_X7_next
  repeat' (first | (with_reducible refine dd_cV (d_X7_grow) ?_) | (with_reducible apply d_X7_next_L12) | (with_reducible apply d_X7_next_L79) | (with_reducible exact dd_pT) | (with_reducible exact dd_pV) | (with_reducible refine dd_if ?_ ?_) | (with_reducible refine dd_fi ?_ ?_) | (with_reducible refine dd_ex ?_) | (with_reducible refine dd_eq ?_) | (with_reducible refine dd_and ?_) | (intro _))
set_option maxHeartbeats 4000000 in
theorem d_X7_join_L26 {P : Type} {A : (P → Prop) → Prop} {Y : Ly} {Rpost : Mm → P → Prop} (hpost : ∀ a0, dt_d A (Rpost a0)) {Rex_110 : Mm → P → Prop} (hex_110 : ∀ a0, dt_d A (Rex_110 a0)) : ∀ {n : Nat} {b0 : Nat} {b1 : Int32} {b2 : Int32} {b3 : Int32} {b4 : Mm}, dt_d A (fun p => w_X7_join_L26 Y (fun a0 => Rpost a0 p) (fun a0 => Rex_110 a0 p) n b0 b1 b2 b3 b4) := by
  intro n
  induction n with
  | zero => intros; exact dd_false
  | succ n ih =>
    intros
    simp only [w_X7_join_L26]
    repeat' (first | (with_reducible apply hpost) | (with_reducible apply hex_110) | (with_reducible apply ih) | (with_reducible refine dd_cV (d_X7_add) ?_) | (with_reducible exact dd_pT) | (with_reducible exact dd_pV) | (with_reducible refine dd_if ?_ ?_) | (with_reducible refine dd_fi ?_ ?_) | (with_reducible refine dd_ex ?_) | (with_reducible refine dd_eq ?_) | (with_reducible refine dd_and ?_) | (intro _))
set_option maxHeartbeats 4000000 in
theorem d_X7_join {Y : Ly} {I : Mm} {k0 : Nat} {v1 : Int32} : dt_d dt_V (fun post => w_X7_join Y I k0 v1 post) := by
  unfold w_X7_join
  repeat' (first | (with_reducible apply d_X7_join_L26) | (with_reducible exact dd_pT) | (with_reducible exact dd_pV) | (with_reducible refine dd_if ?_ ?_) | (with_reducible refine dd_fi ?_ ?_) | (with_reducible refine dd_ex ?_) | (with_reducible refine dd_eq ?_) | (with_reducible refine dd_and ?_) | (intro _))
set_option maxHeartbeats 4000000 in
theorem d_X7_gather_L7 {P : Type} {A : (P → Prop) → Prop} {Y : Ly} {Rpost : Mm → P → Prop} (hpost : ∀ a0, dt_d A (Rpost a0)) {Rex_49 : Mm → P → Prop} (hex_49 : ∀ a0, dt_d A (Rex_49 a0)) : ∀ {n : Nat} {b0 : Nat} {b1 : Int32} {b2 : Int32} {b3 : Mm}, dt_d A (fun p => w_X7_gather_L7 Y (fun a0 => Rpost a0 p) (fun a0 => Rex_49 a0 p) n b0 b1 b2 b3) := by
  intro n
  induction n with
  | zero => intros; exact dd_false
  | succ n ih =>
    intros
    simp only [w_X7_gather_L7]
    repeat' (first | (with_reducible apply hpost) | (with_reducible apply hex_49) | (with_reducible apply ih) | (with_reducible refine dd_cV (d_X7_addBounds) ?_) | (with_reducible refine dd_cV (d_X7_join) ?_) | (with_reducible exact dd_pT) | (with_reducible exact dd_pV) | (with_reducible refine dd_if ?_ ?_) | (with_reducible refine dd_fi ?_ ?_) | (with_reducible refine dd_ex ?_) | (with_reducible refine dd_eq ?_) | (with_reducible refine dd_and ?_) | (intro _))
set_option maxHeartbeats 4000000 in
theorem d_X7_gather {Y : Ly} {I : Mm} {k0 : Nat} {v1 : Int32} : dt_d dt_V (fun post => w_X7_gather Y I k0 v1 post) := by
  unfold w_X7_gather
  repeat' (first | (with_reducible apply d_X7_gather_L7) | (with_reducible exact dd_pT) | (with_reducible exact dd_pV) | (with_reducible refine dd_if ?_ ?_) | (with_reducible refine dd_fi ?_ ?_) | (with_reducible refine dd_ex ?_) | (with_reducible refine dd_eq ?_) | (with_reducible refine dd_and ?_) | (intro _))
set_option maxHeartbeats 4000000 in
theorem d_X7_least_L3 {P : Type} {A : (P → Prop) → Prop} {Y : Ly} {Rpost : Int32 → Mm → P → Prop} (hpost : ∀ a0 a1, dt_d A (Rpost a0 a1)) {Rex_24 : Nat → Int32 → Int32 → Int32 → Mm → P → Prop} (hex_24 : ∀ a0 a1 a2 a3 a4, dt_d A (Rex_24 a0 a1 a2 a3 a4)) : ∀ {n : Nat} {b0 : Nat} {b1 : Int32} {b2 : Int32} {b3 : Int32} {b4 : Int32} {b5 : Mm}, dt_d A (fun p => w_X7_least_L3 Y (fun a0 a1 => Rpost a0 a1 p) (fun a0 a1 a2 a3 a4 => Rex_24 a0 a1 a2 a3 a4 p) n b0 b1 b2 b3 b4 b5) := by
  intro n
  induction n with
  | zero => intros; exact dd_false
  | succ n ih =>
    intros
    simp only [w_X7_least_L3]
    repeat' (first | (with_reducible apply hpost) | (with_reducible apply hex_24) | (with_reducible apply ih) | (with_reducible exact dd_pT) | (with_reducible exact dd_pV) | (with_reducible refine dd_if ?_ ?_) | (with_reducible refine dd_fi ?_ ?_) | (with_reducible refine dd_ex ?_) | (with_reducible refine dd_eq ?_) | (with_reducible refine dd_and ?_) | (intro _))
set_option maxHeartbeats 4000000 in
theorem d_X7_least {Y : Ly} {I : Mm} {k0 : Nat} {v1 : Int32} {v2 : Int32} {v3 : Int32} : dt_d dt_T (fun post => w_X7_least Y I k0 v1 v2 v3 post) := by
  unfold w_X7_least
  repeat' (first | (with_reducible refine dd_cT (d_X7_settles) ?_) | (with_reducible apply d_X7_least_L3) | (with_reducible exact dd_pT) | (with_reducible exact dd_pV) | (with_reducible refine dd_if ?_ ?_) | (with_reducible refine dd_fi ?_ ?_) | (with_reducible refine dd_ex ?_) | (with_reducible refine dd_eq ?_) | (with_reducible refine dd_and ?_) | (intro _))
set_option maxHeartbeats 4000000 in
theorem d_X7_marksOf_B185 {P : Type} {A : (P → Prop) → Prop} {Y : Ly} {Rpost : Int32 → Mm → P → Prop} (hpost : ∀ a0 a1, dt_d A (Rpost a0 a1)) {Rrc : Nat → Int32 → Int32 → Int32 → Int32 → Int32 → Int32 → Mm → P → Prop} (hrc : ∀ a0 a1 a2 a3 a4 a5 a6 a7, dt_d A (Rrc a0 a1 a2 a3 a4 a5 a6 a7)) {Rex_235 : Int32 → Mm → P → Prop} (hex_235 : ∀ a0 a1, dt_d A (Rex_235 a0 a1)) {k0 : Nat} {v1 : Int32} {v2 : Int32} {v3 : Int32} {v4 : Int32} {v5 : Int32} {v6 : Int32} {v9 : Int32} {v10 : Int32} {s0 : Int32} {I : Mm} : dt_d A (fun p => w_X7_marksOf_B185 Y (fun a0 a1 => Rpost a0 a1 p) (fun a0 a1 a2 a3 a4 a5 a6 a7 => Rrc a0 a1 a2 a3 a4 a5 a6 a7 p) (fun a0 a1 => Rex_235 a0 a1 p) k0 v1 v2 v3 v4 v5 v6 v9 v10 s0 I) := by
  unfold w_X7_marksOf_B185
  repeat' (first | (with_reducible apply hpost) | (with_reducible apply hrc) | (with_reducible apply hex_235) | (with_reducible refine dd_cT (d_X7_in) ?_) | (with_reducible refine dd_cT (d_X7_isMark) ?_) | (with_reducible refine dd_cV (d_X7_keepMark) ?_) | (with_reducible exact dd_pT) | (with_reducible exact dd_pV) | (with_reducible refine dd_if ?_ ?_) | (with_reducible refine dd_fi ?_ ?_) | (with_reducible refine dd_ex ?_) | (with_reducible refine dd_eq ?_) | (with_reducible refine dd_and ?_) | (intro _))
set_option maxHeartbeats 4000000 in
theorem d_X7_marksOf_B161 {P : Type} {A : (P → Prop) → Prop} {Y : Ly} {Rpost : Int32 → Mm → P → Prop} (hpost : ∀ a0 a1, dt_d A (Rpost a0 a1)) {Rrc : Nat → Int32 → Int32 → Int32 → Int32 → Int32 → Int32 → Mm → P → Prop} (hrc : ∀ a0 a1 a2 a3 a4 a5 a6 a7, dt_d A (Rrc a0 a1 a2 a3 a4 a5 a6 a7)) {Rex_235 : Int32 → Mm → P → Prop} (hex_235 : ∀ a0 a1, dt_d A (Rex_235 a0 a1)) {k0 : Nat} {v1 : Int32} {v2 : Int32} {v3 : Int32} {v4 : Int32} {v5 : Int32} {v6 : Int32} {v9 : Int32} {v10 : Int32} {v11 : Int32} {s0 : Int32} {I : Mm} : dt_d A (fun p => w_X7_marksOf_B161 Y (fun a0 a1 => Rpost a0 a1 p) (fun a0 a1 a2 a3 a4 a5 a6 a7 => Rrc a0 a1 a2 a3 a4 a5 a6 a7 p) (fun a0 a1 => Rex_235 a0 a1 p) k0 v1 v2 v3 v4 v5 v6 v9 v10 v11 s0 I) := by
  unfold w_X7_marksOf_B161
  repeat' (first | (with_reducible apply hpost) | (with_reducible apply hrc) | (with_reducible apply hex_235) | (with_reducible refine dd_cT (d_X7_least) ?_) | (with_reducible apply d_X7_marksOf_B185) | (with_reducible exact dd_pT) | (with_reducible exact dd_pV) | (with_reducible refine dd_if ?_ ?_) | (with_reducible refine dd_fi ?_ ?_) | (with_reducible refine dd_ex ?_) | (with_reducible refine dd_eq ?_) | (with_reducible refine dd_and ?_) | (intro _))
set_option maxHeartbeats 4000000 in
theorem d_X7_marksOf_B132 {P : Type} {A : (P → Prop) → Prop} {Y : Ly} {Rpost : Int32 → Mm → P → Prop} (hpost : ∀ a0 a1, dt_d A (Rpost a0 a1)) {Rrc : Nat → Int32 → Int32 → Int32 → Int32 → Int32 → Int32 → Mm → P → Prop} (hrc : ∀ a0 a1 a2 a3 a4 a5 a6 a7, dt_d A (Rrc a0 a1 a2 a3 a4 a5 a6 a7)) {Rex_235 : Int32 → Mm → P → Prop} (hex_235 : ∀ a0 a1, dt_d A (Rex_235 a0 a1)) {k0 : Nat} {v1 : Int32} {v2 : Int32} {v3 : Int32} {v4 : Int32} {v5 : Int32} {v6 : Int32} {v9 : Int32} {v10 : Int32} {s0 : Int32} {I : Mm} : dt_d A (fun p => w_X7_marksOf_B132 Y (fun a0 a1 => Rpost a0 a1 p) (fun a0 a1 a2 a3 a4 a5 a6 a7 => Rrc a0 a1 a2 a3 a4 a5 a6 a7 p) (fun a0 a1 => Rex_235 a0 a1 p) k0 v1 v2 v3 v4 v5 v6 v9 v10 s0 I) := by
  unfold w_X7_marksOf_B132
  repeat' (first | (with_reducible apply hpost) | (with_reducible apply hrc) | (with_reducible apply hex_235) | (with_reducible apply d_X7_marksOf_B161) | (with_reducible exact dd_pT) | (with_reducible exact dd_pV) | (with_reducible refine dd_if ?_ ?_) | (with_reducible refine dd_fi ?_ ?_) | (with_reducible refine dd_ex ?_) | (with_reducible refine dd_eq ?_) | (with_reducible refine dd_and ?_) | (intro _))
set_option maxHeartbeats 4000000 in
theorem d_X7_marksOf_B86 {P : Type} {A : (P → Prop) → Prop} {Y : Ly} {Rpost : Int32 → Mm → P → Prop} (hpost : ∀ a0 a1, dt_d A (Rpost a0 a1)) {Rrc : Nat → Int32 → Int32 → Int32 → Int32 → Int32 → Int32 → Mm → P → Prop} (hrc : ∀ a0 a1 a2 a3 a4 a5 a6 a7, dt_d A (Rrc a0 a1 a2 a3 a4 a5 a6 a7)) {Rex_235 : Int32 → Mm → P → Prop} (hex_235 : ∀ a0 a1, dt_d A (Rex_235 a0 a1)) {k0 : Nat} {v1 : Int32} {v2 : Int32} {v3 : Int32} {v4 : Int32} {v5 : Int32} {v6 : Int32} {v9 : Int32} {s0 : Int32} {I : Mm} : dt_d A (fun p => w_X7_marksOf_B86 Y (fun a0 a1 => Rpost a0 a1 p) (fun a0 a1 a2 a3 a4 a5 a6 a7 => Rrc a0 a1 a2 a3 a4 a5 a6 a7 p) (fun a0 a1 => Rex_235 a0 a1 p) k0 v1 v2 v3 v4 v5 v6 v9 s0 I) := by
  unfold w_X7_marksOf_B86
  repeat' (first | (with_reducible apply hpost) | (with_reducible apply hrc) | (with_reducible apply hex_235) | (with_reducible apply d_X7_marksOf_B132) | (with_reducible exact dd_pT) | (with_reducible exact dd_pV) | (with_reducible refine dd_if ?_ ?_) | (with_reducible refine dd_fi ?_ ?_) | (with_reducible refine dd_ex ?_) | (with_reducible refine dd_eq ?_) | (with_reducible refine dd_and ?_) | (intro _))
set_option maxHeartbeats 4000000 in
theorem d_X7_marksOf_B69 {P : Type} {A : (P → Prop) → Prop} {Y : Ly} {Rpost : Int32 → Mm → P → Prop} (hpost : ∀ a0 a1, dt_d A (Rpost a0 a1)) {Rrc : Nat → Int32 → Int32 → Int32 → Int32 → Int32 → Int32 → Mm → P → Prop} (hrc : ∀ a0 a1 a2 a3 a4 a5 a6 a7, dt_d A (Rrc a0 a1 a2 a3 a4 a5 a6 a7)) {Rex_235 : Int32 → Mm → P → Prop} (hex_235 : ∀ a0 a1, dt_d A (Rex_235 a0 a1)) {k0 : Nat} {v1 : Int32} {v2 : Int32} {v3 : Int32} {v4 : Int32} {v5 : Int32} {v6 : Int32} {v8 : Int32} {s0 : Int32} {I : Mm} : dt_d A (fun p => w_X7_marksOf_B69 Y (fun a0 a1 => Rpost a0 a1 p) (fun a0 a1 a2 a3 a4 a5 a6 a7 => Rrc a0 a1 a2 a3 a4 a5 a6 a7 p) (fun a0 a1 => Rex_235 a0 a1 p) k0 v1 v2 v3 v4 v5 v6 v8 s0 I) := by
  unfold w_X7_marksOf_B69
  repeat' (first | (with_reducible apply hpost) | (with_reducible apply hrc) | (with_reducible apply hex_235) | (with_reducible apply d_X7_marksOf_B86) | (with_reducible exact dd_pT) | (with_reducible exact dd_pV) | (with_reducible refine dd_if ?_ ?_) | (with_reducible refine dd_fi ?_ ?_) | (with_reducible refine dd_ex ?_) | (with_reducible refine dd_eq ?_) | (with_reducible refine dd_and ?_) | (intro _))
set_option maxHeartbeats 4000000 in
theorem d_X7_marksOf_L30 {P : Type} {A : (P → Prop) → Prop} {Y : Ly} {Rpost : Int32 → Mm → P → Prop} (hpost : ∀ a0 a1, dt_d A (Rpost a0 a1)) {Rex_235 : Int32 → Mm → P → Prop} (hex_235 : ∀ a0 a1, dt_d A (Rex_235 a0 a1)) : ∀ {n : Nat} {b0 : Nat} {b1 : Int32} {b2 : Int32} {b3 : Int32} {b4 : Int32} {b5 : Int32} {b6 : Int32} {b7 : Mm}, dt_d A (fun p => w_X7_marksOf_L30 Y (fun a0 a1 => Rpost a0 a1 p) (fun a0 a1 => Rex_235 a0 a1 p) n b0 b1 b2 b3 b4 b5 b6 b7) := by
  intro n
  induction n with
  | zero => intros; exact dd_false
  | succ n ih =>
    intros
    simp only [w_X7_marksOf_L30]
    repeat' (first | (with_reducible apply hpost) | (with_reducible apply hex_235) | (with_reducible apply ih) | (with_reducible apply d_X7_marksOf_B69) | (with_reducible exact dd_pT) | (with_reducible exact dd_pV) | (with_reducible refine dd_if ?_ ?_) | (with_reducible refine dd_fi ?_ ?_) | (with_reducible refine dd_ex ?_) | (with_reducible refine dd_eq ?_) | (with_reducible refine dd_and ?_) | (intro _))
set_option maxHeartbeats 4000000 in
theorem d_X7_marksOf {Y : Ly} {I : Mm} {k0 : Nat} {v1 : Int32} : dt_d dt_T (fun post => w_X7_marksOf Y I k0 v1 post) := by
  unfold w_X7_marksOf
  repeat' (first | (with_reducible apply d_X7_marksOf_L30) | (with_reducible exact dd_pT) | (with_reducible exact dd_pV) | (with_reducible refine dd_if ?_ ?_) | (with_reducible refine dd_fi ?_ ?_) | (with_reducible refine dd_ex ?_) | (with_reducible refine dd_eq ?_) | (with_reducible refine dd_and ?_) | (intro _))
set_option maxHeartbeats 4000000 in
theorem d_X7_improve_L42 {P : Type} {A : (P → Prop) → Prop} {Y : Ly} {Rpost : Int32 → Mm → P → Prop} (hpost : ∀ a0 a1, dt_d A (Rpost a0 a1)) {Rex_79 : Nat → Int32 → Mm → P → Prop} (hex_79 : ∀ a0 a1 a2, dt_d A (Rex_79 a0 a1 a2)) : ∀ {n : Nat} {b0 : Nat} {b1 : Int32} {b2 : Int32} {b3 : Mm}, dt_d A (fun p => w_X7_improve_L42 Y (fun a0 a1 => Rpost a0 a1 p) (fun a0 a1 a2 => Rex_79 a0 a1 a2 p) n b0 b1 b2 b3) := by
  intro n
  induction n with
  | zero => intros; exact dd_false
  | succ n ih =>
    intros
    simp only [w_X7_improve_L42]
    repeat' (first | (with_reducible apply hpost) | (with_reducible apply hex_79) | (with_reducible apply ih) | (with_reducible refine dd_cT (d_X7_holdsTogether) ?_) | (with_reducible refine dd_cV (d_X7_gather) ?_) | (with_reducible refine dd_cT (d_X7_marksOf) ?_) | (with_reducible exact dd_pT) | (with_reducible exact dd_pV) | (with_reducible refine dd_if ?_ ?_) | (with_reducible refine dd_fi ?_ ?_) | (with_reducible refine dd_ex ?_) | (with_reducible refine dd_eq ?_) | (with_reducible refine dd_and ?_) | (intro _))
set_option maxHeartbeats 4000000 in
theorem d_X7_improve {Y : Ly} {I : Mm} {k0 : Nat} : dt_d dt_T (fun post => w_X7_improve Y I k0 post) := by
  unfold w_X7_improve
  repeat' (first | (with_reducible refine dd_cV (d_X7_freshStart) ?_) | (with_reducible refine dd_cT (d_X7_holdsTogether) ?_) | (with_reducible refine dd_cV (d_X7_gather) ?_) | (with_reducible apply d_X7_improve_L42) | (with_reducible exact dd_pT) | (with_reducible exact dd_pV) | (with_reducible refine dd_if ?_ ?_) | (with_reducible refine dd_fi ?_ ?_) | (with_reducible refine dd_ex ?_) | (with_reducible refine dd_eq ?_) | (with_reducible refine dd_and ?_) | (intro _))
