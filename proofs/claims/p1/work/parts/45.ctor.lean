theorem mX12_init {S : Sh} {h : Hp} {a : Nat} {Q : Sh → Nat → Hp → Prop} (hS : S a = (13, 0)) (hz : Fz h (a + 1)) (hI : ∀ j, gI h a j = 0)
    (q : ∀ (S' : Sh) (h' : Hp), RS S' a → RR h' a → Fz h' (a + 35) → (∀ b, b ≤ a → S' b = S b) → (∀ b j, gI h' b j = if b = a ∧ (j = 2 ∨ j = 56) then -1 else gI h b j) → (∀ b j, gJ h' b j = gJ h b j) → (∀ b, b < a → ∀ j, gR h' b j = gR h b j) → Q S' (a + 35) h') : wX12_init S (a + 1) h a Q := by
  unfold wX12_init
  refine ⟨by rw [hS]; decide, by rw [hS], ?_⟩
  intro g0 e0
  have f0 : Fz g0 (a + 1) := by rw [e0]; exact hz.pI (by omega) 2 (-1)
  refine ⟨f0.h0 (by omega), by omega, by omega, by simp [uS, hS, Nat.add_assoc], ?_⟩
  intro g1 e1
  have f1 : Fz g1 (a + 1) := by rw [e1]; exact f0.pR (by omega) 3 (a + 1)
  refine ⟨f1.h0 (by omega), by omega, by omega, by simp [uS, hS, Nat.add_assoc], ?_⟩
  intro g2 e2
  have f2 : Fz g2 (a + 1) := by rw [e2]; exact f1.pR (by omega) 14 (a + 1 + 1)
  refine ⟨f2.h0 (by omega), by omega, by omega, by simp [uS, hS, Nat.add_assoc], ?_⟩
  intro g3 e3
  have f3 : Fz g3 (a + 1) := by rw [e3]; exact f2.pR (by omega) 15 (a + 1 + 2)
  refine ⟨f3.h0 (by omega), by omega, by omega, by simp [uS, hS, Nat.add_assoc], ?_⟩
  intro g4 e4
  have f4 : Fz g4 (a + 1) := by rw [e4]; exact f3.pR (by omega) 16 (a + 1 + 3)
  refine ⟨f4.h0 (by omega), by omega, by omega, by simp [uS, hS, Nat.add_assoc], ?_⟩
  intro g5 e5
  have f5 : Fz g5 (a + 1) := by rw [e5]; exact f4.pR (by omega) 17 (a + 1 + 4)
  refine ⟨f5.h0 (by omega), by omega, by omega, by simp [uS, hS, Nat.add_assoc], ?_⟩
  intro g6 e6
  have f6 : Fz g6 (a + 1) := by rw [e6]; exact f5.pR (by omega) 18 (a + 1 + 5)
  refine ⟨f6.h0 (by omega), by omega, by omega, by simp [uS, hS, Nat.add_assoc], ?_⟩
  intro g7 e7
  have f7 : Fz g7 (a + 1) := by rw [e7]; exact f6.pR (by omega) 19 (a + 1 + 6)
  refine ⟨f7.h0 (by omega), by omega, by omega, by simp [uS, hS, Nat.add_assoc], ?_⟩
  intro g8 e8
  have f8 : Fz g8 (a + 1) := by rw [e8]; exact f7.pR (by omega) 20 (a + 1 + 7)
  refine ⟨f8.h0 (by omega), by omega, by omega, by simp [uS, hS, Nat.add_assoc], ?_⟩
  intro g9 e9
  have f9 : Fz g9 (a + 1) := by rw [e9]; exact f8.pR (by omega) 21 (a + 1 + 8)
  refine ⟨f9.h0 (by omega), by omega, by omega, by simp [uS, hS, Nat.add_assoc], ?_⟩
  intro g10 e10
  have f10 : Fz g10 (a + 1) := by rw [e10]; exact f9.pR (by omega) 22 (a + 1 + 9)
  refine ⟨f10.h0 (by omega), by omega, by omega, by simp [uS, hS, Nat.add_assoc], ?_⟩
  intro g11 e11
  have f11 : Fz g11 (a + 1) := by rw [e11]; exact f10.pR (by omega) 23 (a + 1 + 10)
  refine ⟨f11.h0 (by omega), by omega, by omega, by simp [uS, hS, Nat.add_assoc], ?_⟩
  intro g12 e12
  have f12 : Fz g12 (a + 1) := by rw [e12]; exact f11.pR (by omega) 24 (a + 1 + 11)
  refine ⟨f12.h0 (by omega), by omega, by omega, by simp [uS, hS, Nat.add_assoc], ?_⟩
  intro g13 e13
  have f13 : Fz g13 (a + 1) := by rw [e13]; exact f12.pR (by omega) 25 (a + 1 + 12)
  refine ⟨f13.h0 (by omega), by omega, by omega, by simp [uS, hS, Nat.add_assoc], ?_⟩
  intro g14 e14
  have f14 : Fz g14 (a + 1) := by rw [e14]; exact f13.pR (by omega) 26 (a + 1 + 13)
  refine ⟨f14.h0 (by omega), by omega, by omega, by simp [uS, hS, Nat.add_assoc], ?_⟩
  intro g15 e15
  have f15 : Fz g15 (a + 1) := by rw [e15]; exact f14.pR (by omega) 27 (a + 1 + 14)
  refine ⟨f15.h0 (by omega), by omega, by omega, by simp [uS, hS, Nat.add_assoc], ?_⟩
  intro g16 e16
  have f16 : Fz g16 (a + 1) := by rw [e16]; exact f15.pR (by omega) 28 (a + 1 + 15)
  refine ⟨f16.h0 (by omega), by omega, by omega, by simp [uS, hS, Nat.add_assoc], ?_⟩
  intro g17 e17
  have f17 : Fz g17 (a + 1) := by rw [e17]; exact f16.pR (by omega) 29 (a + 1 + 16)
  refine ⟨f17.h0 (by omega), by omega, by omega, by simp [uS, hS, Nat.add_assoc], ?_⟩
  intro g18 e18
  have f18 : Fz g18 (a + 1) := by rw [e18]; exact f17.pR (by omega) 30 (a + 1 + 17)
  refine ⟨f18.h0 (by omega), by omega, by omega, by simp [uS, hS, Nat.add_assoc], ?_⟩
  intro g19 e19
  have f19 : Fz g19 (a + 1) := by rw [e19]; exact f18.pR (by omega) 31 (a + 1 + 18)
  refine ⟨f19.h0 (by omega), by omega, by omega, by simp [uS, hS, Nat.add_assoc], ?_⟩
  intro g20 e20
  have f20 : Fz g20 (a + 1) := by rw [e20]; exact f19.pR (by omega) 32 (a + 1 + 19)
  refine ⟨f20.h0 (by omega), by omega, by omega, by simp [uS, hS, Nat.add_assoc], ?_⟩
  intro g21 e21
  have f21 : Fz g21 (a + 1) := by rw [e21]; exact f20.pR (by omega) 33 (a + 1 + 20)
  refine ⟨f21.h0 (by omega), by omega, by omega, by simp [uS, hS, Nat.add_assoc], ?_⟩
  intro g22 e22
  have f22 : Fz g22 (a + 1) := by rw [e22]; exact f21.pR (by omega) 34 (a + 1 + 21)
  refine ⟨f22.h0 (by omega), by omega, by omega, by simp [uS, hS, Nat.add_assoc], ?_⟩
  intro g23 e23
  have f23 : Fz g23 (a + 1) := by rw [e23]; exact f22.pR (by omega) 35 (a + 1 + 22)
  refine ⟨f23.h0 (by omega), by omega, by omega, by simp [uS, hS, Nat.add_assoc], ?_⟩
  intro g24 e24
  have f24 : Fz g24 (a + 1) := by rw [e24]; exact f23.pR (by omega) 36 (a + 1 + 23)
  refine ⟨f24.h0 (by omega), by omega, by omega, by simp [uS, hS, Nat.add_assoc], ?_⟩
  intro g25 e25
  have f25 : Fz g25 (a + 1) := by rw [e25]; exact f24.pR (by omega) 39 (a + 1 + 24)
  refine ⟨f25.h0 (by omega), by omega, by omega, by simp [uS, hS, Nat.add_assoc], ?_⟩
  intro g26 e26
  have f26 : Fz g26 (a + 1) := by rw [e26]; exact f25.pR (by omega) 40 (a + 1 + 25)
  refine ⟨f26.h0 (by omega), by omega, by omega, by simp [uS, hS, Nat.add_assoc], ?_⟩
  intro g27 e27
  have f27 : Fz g27 (a + 1) := by rw [e27]; exact f26.pR (by omega) 46 (a + 1 + 26)
  refine ⟨f27.h0 (by omega), by omega, by omega, by simp [uS, hS, Nat.add_assoc], ?_⟩
  intro g28 e28
  have f28 : Fz g28 (a + 1) := by rw [e28]; exact f27.pR (by omega) 47 (a + 1 + 27)
  refine ⟨f28.h0 (by omega), by omega, by omega, by simp [uS, hS, Nat.add_assoc], ?_⟩
  intro g29 e29
  have f29 : Fz g29 (a + 1) := by rw [e29]; exact f28.pR (by omega) 48 (a + 1 + 28)
  refine ⟨f29.h0 (by omega), by omega, by omega, by simp [uS, hS, Nat.add_assoc], ?_⟩
  intro g30 e30
  have f30 : Fz g30 (a + 1) := by rw [e30]; exact f29.pR (by omega) 54 (a + 1 + 29)
  intro g31 e31
  have f31 : Fz g31 (a + 1) := by rw [e31]; exact f30.pI (by omega) 56 (-1)
  refine ⟨f31.h0 (by omega), by omega, by omega, by simp [uS, hS, Nat.add_assoc], ?_⟩
  intro g32 e32
  have f32 : Fz g32 (a + 1) := by rw [e32]; exact f31.pR (by omega) 59 (a + 1 + 30)
  refine ⟨f32.h0 (by omega), by omega, by omega, by simp [uS, hS, Nat.add_assoc], ?_⟩
  intro g33 e33
  have f33 : Fz g33 (a + 1) := by rw [e33]; exact f32.pR (by omega) 60 (a + 1 + 31)
  refine ⟨f33.h0 (by omega), by omega, by omega, by simp [uS, hS, Nat.add_assoc], ?_⟩
  intro g34 e34
  have f34 : Fz g34 (a + 1) := by rw [e34]; exact f33.pR (by omega) 62 (a + 1 + 32)
  refine ⟨f34.h0 (by omega), by omega, by omega, by simp [uS, hS, Nat.add_assoc], ?_⟩
  refine ⟨by omega, by omega, ?_⟩
  subst e0
  subst e1
  subst e2
  subst e3
  subst e4
  subst e5
  subst e6
  subst e7
  subst e8
  subst e9
  subst e10
  subst e11
  subst e12
  subst e13
  subst e14
  subst e15
  subst e16
  subst e17
  subst e18
  subst e19
  subst e20
  subst e21
  subst e22
  subst e23
  subst e24
  subst e25
  subst e26
  subst e27
  subst e28
  subst e29
  subst e30
  subst e31
  subst e32
  subst e33
  subst e34
  refine q _ _ ?_ ?_ ((f34.pR (by omega) _ _).up (by omega)) (fun b hb => ?_) (fun b j => ?_) (fun b j => ?_) (fun b hb j => ?_)
  · unfold RS
    simp [uS, hS, Nat.add_assoc]
  · unfold RR
    simp [gR_pR, gR_pI, Nat.add_assoc]
  · simp only [uS]
    repeat rw [if_neg (by omega)]
  · simp only [gI_pR, gI_pI]
    by_cases hb : b = a
    · subst hb
      by_cases h2 : j = 2
      · simp [h2]
      · by_cases h5 : j = 56
        · simp [h5]
        · simp [h2, h5]
    · simp [hb]
  · rfl
  · have hb : b ≠ a := by omega
    simp [gR_pR, gR_pI, hb]
