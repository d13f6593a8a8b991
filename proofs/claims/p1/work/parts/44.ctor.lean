theorem mX5_init {K : Nat → Nat} {S : Sh} {h : Hp} {a : Nat} {Q : Sh → Nat → Hp → Prop} (hS : S a = (6, 0)) (hz : Fz h (a + 1))
    (q : ∀ (S' : Sh) (h' : Hp), (S' (a + 1) = (9, 0) ∧ S' (a + 2) = (20, 601) ∧ S' (a + 3) = (20, 601) ∧ S' (a + 4) = (23, 601) ∧ S' (a + 5) = (23, 16) ∧ S' (a + 6) = (23, 24)) →
      (gR h' a 0 = a + 1 ∧ gR h' a 1 = a + 6 ∧ gR h' (a + 1) 0 = a + 2 ∧ gR h' (a + 1) 1 = a + 3 ∧ gR h' (a + 1) 2 = a + 4 ∧ gR h' (a + 1) 3 = a + 5) → Fz h' (a + 7) → (∀ b, b ≤ a → S' b = S b) → (∀ b j, gI h' b j = gI h b j) → (∀ b, b ≠ a + 5 → ∀ j, gJ h' b j = gJ h b j) → (∀ j, gJ h' (a + 5) j = (rsF 72).2 j) → (∀ b, b < a → ∀ j, gR h' b j = gR h b j) → Q S' (a + 7) h') : wX5_init K S (a + 1) h a Q := by
  unfold wX5_init
  refine ⟨by rw [hS]; decide, hz.h0 (Nat.le_refl _), by omega, by omega, by omega, by omega, by rw [uS_at]; decide, ?_⟩
  refine mX8_init (a := a + 1) uS_at (hz.up (by omega)) (fun S' h' s1 r1 f1 c1 c2 c3 c4 c5 => ?_)
  have sa : S' a = (6, 0) := by rw [c1 a (by omega), uS_ne (by omega), hS]
  refine ⟨by rw [sa], ?_⟩
  intro h12 e12
  subst e12
  have f2 := f1.pR (a := a) (by omega) 0 (a + 1)
  refine ⟨f2.h0 (by omega), by omega, by omega, by rw [uS_ne (by omega), sa], by omega, by omega, ?_⟩
  refine q _ _ ⟨?_, ?_, ?_, ?_, ?_, ?_⟩ ⟨?_, ?_, ?_, ?_, ?_, ?_⟩ ((f2.up (by omega)).pR (by omega) _ _) (fun b hb => ?_) c2 c3 c4 (fun b hb j => ?_)
  · rw [uS_ne (by omega), c1 (a + 1) (by omega), uS_at]
  · rw [uS_ne (by omega)]; exact s1.1
  · rw [uS_ne (by omega)]; exact s1.2.1
  · rw [uS_ne (by omega)]; exact s1.2.2.1
  · rw [uS_ne (by omega)]; exact s1.2.2.2
  · exact uS_at
  · simp [gR_pR]
  · rw [gR_pR, if_pos ⟨rfl, rfl⟩]
  · rw [gR_pR, if_neg (by omega), gR_pR, if_neg (by omega)]; exact r1.1
  · rw [gR_pR, if_neg (by omega), gR_pR, if_neg (by omega)]; exact r1.2.1
  · rw [gR_pR, if_neg (by omega), gR_pR, if_neg (by omega)]; exact r1.2.2.1
  · rw [gR_pR, if_neg (by omega), gR_pR, if_neg (by omega)]; exact r1.2.2.2
  · rw [uS_ne (by omega), c1 b (by omega), uS_ne (by omega)]
  · rw [gR_pR, if_neg (by omega), gR_pR, if_neg (by omega)]
    exact c5 b (by omega) j
theorem mX1_init {S : Sh} {h : Hp} {a : Nat} {Q : Sh → Nat → Hp → Prop} (hS : S a = (2, 0)) (hz : Fz h (a + 1))
    (q : ∀ (S' : Sh) (h' : Hp), S' (a + 1) = (8, 0) → gR h' a 0 = a + 1 → Fz h' (a + 2) → Cn a S S' h h' → Q S' (a + 2) h') : wX1_init S (a + 1) h a Q := by
  unfold wX1_init wX7_init
  refine ⟨by rw [hS]; decide, hz.h0 (Nat.le_refl _), by omega, by omega, by omega, by omega, by rw [uS_at]; decide, by rw [uS_at]; decide, by rw [uS_ne (by omega), hS], by omega, by omega, ?_⟩
  exact q _ _ uS_at (by simp [gR_pR]) ((hz.up (by omega)).pR (by omega) _ _) ((Cn.rf.uS (by omega) _).pR (Nat.le_refl _) _ _)
theorem mX10_init {S : Sh} {h : Hp} {a : Nat} {Q : Sh → Nat → Hp → Prop} (hS : S a = (11, 0)) (hz : Fz h (a + 1))
    (q : ∀ (S' : Sh) (h' : Hp), (S' (a + 1) = (8, 0) ∧ S' (a + 2) = (8, 0)) → (gR h' a 0 = a + 1 ∧ gR h' a 1 = a + 2) → Fz h' (a + 3) → Cn a S S' h h' → Q S' (a + 3) (pI h' a 2 (-1))) : wX10_init S (a + 1) h a Q := by
  unfold wX10_init wX7_init
  refine ⟨by rw [hS]; decide, hz.h0 (Nat.le_refl _), by omega, by omega, by omega, by omega, by rw [uS_at]; decide, by rw [uS_at]; decide, by rw [uS_ne (by omega), hS], ?_⟩
  intro h12 e12
  subst e12
  have f1 := hz.pR (a := a) (by omega) 0 (a + 1)
  refine ⟨f1.h0 (by omega), by omega, by omega, by omega, by omega, by rw [uS_at]; decide, by rw [uS_at]; decide, by rw [uS_ne (by omega), uS_ne (by omega), hS], ?_⟩
  intro h23 e23
  subst e23
  refine ⟨by omega, by omega, ?_⟩
  exact q _ _ ⟨by rw [uS_ne (by omega)]; exact uS_at, uS_at⟩ ⟨by simp [gR_pR], by simp [gR_pR]⟩ ((f1.up (by omega)).pR (by omega) _ _) ((((Cn.rf.uS (by omega) _).uS (by omega) _).pR (Nat.le_refl _) _ _).pR (Nat.le_refl _) _ _)
theorem mX4_init {S : Sh} {h : Hp} {a : Nat} {Q : Sh → Nat → Hp → Prop} (hS : S a = (5, 0)) (hz : Fz h (a + 1))
    (q : ∀ (S' : Sh) (h' : Hp), (S' (a + 1) = (20, 100) ∧ S' (a + 2) = (20, 100)) → (gR h' a 0 = a + 1 ∧ gR h' a 1 = a + 2) → Fz h' (a + 3) → Cn a S S' h h' → Q S' (a + 3) h') : wX4_init S (a + 1) h a Q := by
  unfold wX4_init
  refine ⟨by rw [hS]; decide, hz.h0 (Nat.le_refl _), by omega, by omega, by rw [uS_ne (by omega), hS], ?_⟩
  intro h12 e12
  subst e12
  have f1 := hz.pR (a := a) (by omega) 0 (a + 1)
  refine ⟨f1.h0 (by omega), by omega, by omega, by rw [uS_ne (by omega), uS_ne (by omega), hS], by omega, by omega, ?_⟩
  exact q _ _ ⟨by rw [uS_ne (by omega)]; exact uS_at, uS_at⟩ ⟨by simp [gR_pR], by simp [gR_pR]⟩ ((f1.up (by omega)).pR (by omega) _ _) ((((Cn.rf.uS (by omega) _).uS (by omega) _).pR (Nat.le_refl _) _ _).pR (Nat.le_refl _) _ _)
theorem mX6_init {S : Sh} {h : Hp} {a : Nat} {Q : Sh → Nat → Hp → Prop} (hS : S a = (7, 0)) (hz : Fz h (a + 1))
    (q : ∀ (S' : Sh) (h' : Hp), S' (a + 1) = (21, 68) → gR h' a 0 = a + 1 → Fz h' (a + 2) → Cn a S S' h h' → Q S' (a + 2) h') : wX6_init S (a + 1) h a Q := by
  unfold wX6_init
  refine ⟨by rw [hS]; decide, hz.h0 (Nat.le_refl _), by omega, by omega, by rw [uS_ne (by omega), hS], by omega, by omega, ?_⟩
  exact q _ _ uS_at (by simp [gR_pR]) ((hz.up (by omega)).pR (by omega) _ _) ((Cn.rf.uS (by omega) _).pR (Nat.le_refl _) _ _)
