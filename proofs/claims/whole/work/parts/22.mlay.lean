/-! THE REFERENCE: its layout -/
def md_rw : List Nat := [0, 0, 1, 2, 3, 4, 5, 0, 6, 7, 8, 9, 10, 11, 12, 13, 14, 15, 16, 17, 0, 0, 18, 0, 0, 0, 19, 20, 21, 22, 0, 23, 24, 25, 26, 27, 28, 0, 0]
def md_len : List Nat := [0, 4, 4, 16, 16, 16, 12, 24, 12, 24, 48, 12, 96, 96, 96, 64, 64, 128, 2, 800, 800, 800, 201, 41, 41, 41, 41, 41, 90]
def md_Y (ad : Nat → Nat) : Ly := (29, ad, fun k => (if k = 0 then 7 else 8, md_len.getD k 0), fun _ j => md_rw.getD j 0)
theorem md_k0 {ad : Nat → Nat} : ky_is (md_Y ad) 0 7 := ⟨(by decide : 0 < 29), rfl⟩
theorem md_r2 {ad : Nat → Nat} : ky_rp (md_Y ad) 0 2 = 1 := rfl
theorem md_k1 {ad : Nat → Nat} : ky_is (md_Y ad) 1 8 := ⟨(by decide : 1 < 29), rfl⟩
theorem md_l1 {ad : Nat → Nat} : ky_ln (md_Y ad) 1 = 4 := rfl
theorem md_r3 {ad : Nat → Nat} : ky_rp (md_Y ad) 0 3 = 2 := rfl
theorem md_k2 {ad : Nat → Nat} : ky_is (md_Y ad) 2 8 := ⟨(by decide : 2 < 29), rfl⟩
theorem md_l2 {ad : Nat → Nat} : ky_ln (md_Y ad) 2 = 4 := rfl
theorem md_r4 {ad : Nat → Nat} : ky_rp (md_Y ad) 0 4 = 3 := rfl
theorem md_k3 {ad : Nat → Nat} : ky_is (md_Y ad) 3 8 := ⟨(by decide : 3 < 29), rfl⟩
theorem md_l3 {ad : Nat → Nat} : ky_ln (md_Y ad) 3 = 16 := rfl
theorem md_r5 {ad : Nat → Nat} : ky_rp (md_Y ad) 0 5 = 4 := rfl
theorem md_k4 {ad : Nat → Nat} : ky_is (md_Y ad) 4 8 := ⟨(by decide : 4 < 29), rfl⟩
theorem md_l4 {ad : Nat → Nat} : ky_ln (md_Y ad) 4 = 16 := rfl
theorem md_r6 {ad : Nat → Nat} : ky_rp (md_Y ad) 0 6 = 5 := rfl
theorem md_k5 {ad : Nat → Nat} : ky_is (md_Y ad) 5 8 := ⟨(by decide : 5 < 29), rfl⟩
theorem md_l5 {ad : Nat → Nat} : ky_ln (md_Y ad) 5 = 16 := rfl
theorem md_r8 {ad : Nat → Nat} : ky_rp (md_Y ad) 0 8 = 6 := rfl
theorem md_k6 {ad : Nat → Nat} : ky_is (md_Y ad) 6 8 := ⟨(by decide : 6 < 29), rfl⟩
theorem md_l6 {ad : Nat → Nat} : ky_ln (md_Y ad) 6 = 12 := rfl
theorem md_r9 {ad : Nat → Nat} : ky_rp (md_Y ad) 0 9 = 7 := rfl
theorem md_k7 {ad : Nat → Nat} : ky_is (md_Y ad) 7 8 := ⟨(by decide : 7 < 29), rfl⟩
theorem md_l7 {ad : Nat → Nat} : ky_ln (md_Y ad) 7 = 24 := rfl
theorem md_r10 {ad : Nat → Nat} : ky_rp (md_Y ad) 0 10 = 8 := rfl
theorem md_k8 {ad : Nat → Nat} : ky_is (md_Y ad) 8 8 := ⟨(by decide : 8 < 29), rfl⟩
theorem md_l8 {ad : Nat → Nat} : ky_ln (md_Y ad) 8 = 12 := rfl
theorem md_r11 {ad : Nat → Nat} : ky_rp (md_Y ad) 0 11 = 9 := rfl
theorem md_k9 {ad : Nat → Nat} : ky_is (md_Y ad) 9 8 := ⟨(by decide : 9 < 29), rfl⟩
theorem md_l9 {ad : Nat → Nat} : ky_ln (md_Y ad) 9 = 24 := rfl
theorem md_r12 {ad : Nat → Nat} : ky_rp (md_Y ad) 0 12 = 10 := rfl
theorem md_k10 {ad : Nat → Nat} : ky_is (md_Y ad) 10 8 := ⟨(by decide : 10 < 29), rfl⟩
theorem md_l10 {ad : Nat → Nat} : ky_ln (md_Y ad) 10 = 48 := rfl
theorem md_r13 {ad : Nat → Nat} : ky_rp (md_Y ad) 0 13 = 11 := rfl
theorem md_k11 {ad : Nat → Nat} : ky_is (md_Y ad) 11 8 := ⟨(by decide : 11 < 29), rfl⟩
theorem md_l11 {ad : Nat → Nat} : ky_ln (md_Y ad) 11 = 12 := rfl
theorem md_r14 {ad : Nat → Nat} : ky_rp (md_Y ad) 0 14 = 12 := rfl
theorem md_k12 {ad : Nat → Nat} : ky_is (md_Y ad) 12 8 := ⟨(by decide : 12 < 29), rfl⟩
theorem md_l12 {ad : Nat → Nat} : ky_ln (md_Y ad) 12 = 96 := rfl
theorem md_r15 {ad : Nat → Nat} : ky_rp (md_Y ad) 0 15 = 13 := rfl
theorem md_k13 {ad : Nat → Nat} : ky_is (md_Y ad) 13 8 := ⟨(by decide : 13 < 29), rfl⟩
theorem md_l13 {ad : Nat → Nat} : ky_ln (md_Y ad) 13 = 96 := rfl
theorem md_r16 {ad : Nat → Nat} : ky_rp (md_Y ad) 0 16 = 14 := rfl
theorem md_k14 {ad : Nat → Nat} : ky_is (md_Y ad) 14 8 := ⟨(by decide : 14 < 29), rfl⟩
theorem md_l14 {ad : Nat → Nat} : ky_ln (md_Y ad) 14 = 96 := rfl
theorem md_r17 {ad : Nat → Nat} : ky_rp (md_Y ad) 0 17 = 15 := rfl
theorem md_k15 {ad : Nat → Nat} : ky_is (md_Y ad) 15 8 := ⟨(by decide : 15 < 29), rfl⟩
theorem md_l15 {ad : Nat → Nat} : ky_ln (md_Y ad) 15 = 64 := rfl
theorem md_r18 {ad : Nat → Nat} : ky_rp (md_Y ad) 0 18 = 16 := rfl
theorem md_k16 {ad : Nat → Nat} : ky_is (md_Y ad) 16 8 := ⟨(by decide : 16 < 29), rfl⟩
theorem md_l16 {ad : Nat → Nat} : ky_ln (md_Y ad) 16 = 64 := rfl
theorem md_r19 {ad : Nat → Nat} : ky_rp (md_Y ad) 0 19 = 17 := rfl
theorem md_k17 {ad : Nat → Nat} : ky_is (md_Y ad) 17 8 := ⟨(by decide : 17 < 29), rfl⟩
theorem md_l17 {ad : Nat → Nat} : ky_ln (md_Y ad) 17 = 128 := rfl
theorem md_r22 {ad : Nat → Nat} : ky_rp (md_Y ad) 0 22 = 18 := rfl
theorem md_k18 {ad : Nat → Nat} : ky_is (md_Y ad) 18 8 := ⟨(by decide : 18 < 29), rfl⟩
theorem md_l18 {ad : Nat → Nat} : ky_ln (md_Y ad) 18 = 2 := rfl
theorem md_r26 {ad : Nat → Nat} : ky_rp (md_Y ad) 0 26 = 19 := rfl
theorem md_k19 {ad : Nat → Nat} : ky_is (md_Y ad) 19 8 := ⟨(by decide : 19 < 29), rfl⟩
theorem md_l19 {ad : Nat → Nat} : ky_ln (md_Y ad) 19 = 800 := rfl
theorem md_r27 {ad : Nat → Nat} : ky_rp (md_Y ad) 0 27 = 20 := rfl
theorem md_k20 {ad : Nat → Nat} : ky_is (md_Y ad) 20 8 := ⟨(by decide : 20 < 29), rfl⟩
theorem md_l20 {ad : Nat → Nat} : ky_ln (md_Y ad) 20 = 800 := rfl
theorem md_r28 {ad : Nat → Nat} : ky_rp (md_Y ad) 0 28 = 21 := rfl
theorem md_k21 {ad : Nat → Nat} : ky_is (md_Y ad) 21 8 := ⟨(by decide : 21 < 29), rfl⟩
theorem md_l21 {ad : Nat → Nat} : ky_ln (md_Y ad) 21 = 800 := rfl
theorem md_r29 {ad : Nat → Nat} : ky_rp (md_Y ad) 0 29 = 22 := rfl
theorem md_k22 {ad : Nat → Nat} : ky_is (md_Y ad) 22 8 := ⟨(by decide : 22 < 29), rfl⟩
theorem md_l22 {ad : Nat → Nat} : ky_ln (md_Y ad) 22 = 201 := rfl
theorem md_r31 {ad : Nat → Nat} : ky_rp (md_Y ad) 0 31 = 23 := rfl
theorem md_k23 {ad : Nat → Nat} : ky_is (md_Y ad) 23 8 := ⟨(by decide : 23 < 29), rfl⟩
theorem md_l23 {ad : Nat → Nat} : ky_ln (md_Y ad) 23 = 41 := rfl
theorem md_r32 {ad : Nat → Nat} : ky_rp (md_Y ad) 0 32 = 24 := rfl
theorem md_k24 {ad : Nat → Nat} : ky_is (md_Y ad) 24 8 := ⟨(by decide : 24 < 29), rfl⟩
theorem md_l24 {ad : Nat → Nat} : ky_ln (md_Y ad) 24 = 41 := rfl
theorem md_r33 {ad : Nat → Nat} : ky_rp (md_Y ad) 0 33 = 25 := rfl
theorem md_k25 {ad : Nat → Nat} : ky_is (md_Y ad) 25 8 := ⟨(by decide : 25 < 29), rfl⟩
theorem md_l25 {ad : Nat → Nat} : ky_ln (md_Y ad) 25 = 41 := rfl
theorem md_r34 {ad : Nat → Nat} : ky_rp (md_Y ad) 0 34 = 26 := rfl
theorem md_k26 {ad : Nat → Nat} : ky_is (md_Y ad) 26 8 := ⟨(by decide : 26 < 29), rfl⟩
theorem md_l26 {ad : Nat → Nat} : ky_ln (md_Y ad) 26 = 41 := rfl
theorem md_r35 {ad : Nat → Nat} : ky_rp (md_Y ad) 0 35 = 27 := rfl
theorem md_k27 {ad : Nat → Nat} : ky_is (md_Y ad) 27 8 := ⟨(by decide : 27 < 29), rfl⟩
theorem md_l27 {ad : Nat → Nat} : ky_ln (md_Y ad) 27 = 41 := rfl
theorem md_r36 {ad : Nat → Nat} : ky_rp (md_Y ad) 0 36 = 28 := rfl
theorem md_k28 {ad : Nat → Nat} : ky_is (md_Y ad) 28 8 := ⟨(by decide : 28 < 29), rfl⟩
theorem md_l28 {ad : Nat → Nat} : ky_ln (md_Y ad) 28 = 90 := rfl
