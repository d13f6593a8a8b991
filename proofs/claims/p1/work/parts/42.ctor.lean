theorem mX2_init {S : Sh} {h : Hp} {a : Nat} {Q : Sh → Nat → Hp → Prop} (hS : S a = (3, 0)) (hz : Fz h (a + 1))
    (q : ∀ (S' : Sh) (h' : Hp), MS S' a → MR h' a → Fz h' (a + 145) → Cn a S S' h h' → Q S' (a + 145) h') : wX2_init S (a + 1) h a Q := by
  unfold wX2_init
  have n0 : a ≠ a + 1 + 0 := by omega
  have n1 : a ≠ a + 1 + 1 := by omega
  have n2 : a ≠ a + 1 + 2 := by omega
  have n3 : a ≠ a + 1 + 3 := by omega
  have n4 : a ≠ a + 1 + 4 := by omega
  have n5 : a ≠ a + 1 + 5 := by omega
  have n6 : a ≠ a + 1 + 6 := by omega
  have n7 : a ≠ a + 1 + 7 := by omega
  have n8 : a ≠ a + 1 + 8 := by omega
  have n9 : a ≠ a + 1 + 9 := by omega
  refine ⟨by rw [hS]; decide, hz.h0 (by omega), by omega, by omega, by rw [uS_ne (show a ≠ a + 1 from n0), hS], ?_⟩
  intro g0 e0
  subst e0
  have f0 := hz.pR (a := a) (by omega) 0 (a + 1)
  refine ⟨f0.h0 (by omega), by omega, by omega, by rw [uS_ne n1, uS_ne (show a ≠ a + 1 from n0), hS], ?_⟩
  intro g1 e1
  subst e1
  have f1 := f0.pR (a := a) (by omega) 1 (a + 1 + 1)
  refine ⟨f1.h0 (by omega), by omega, by omega, by rw [uS_ne n2, uS_ne n1, uS_ne (show a ≠ a + 1 from n0), hS], ?_⟩
  intro g2 e2
  subst e2
  have f2 := f1.pR (a := a) (by omega) 2 (a + 1 + 2)
  refine ⟨f2.h0 (by omega), by omega, by omega, by rw [uS_ne n3, uS_ne n2, uS_ne n1, uS_ne (show a ≠ a + 1 from n0), hS], ?_⟩
  intro g3 e3
  subst e3
  have f3 := f2.pR (a := a) (by omega) 3 (a + 1 + 3)
  refine ⟨f3.h0 (by omega), by omega, by omega, by rw [uS_ne n4, uS_ne n3, uS_ne n2, uS_ne n1, uS_ne (show a ≠ a + 1 from n0), hS], ?_⟩
  intro g4 e4
  subst e4
  have f4 := f3.pR (a := a) (by omega) 4 (a + 1 + 4)
  refine ⟨f4.h0 (by omega), by omega, by omega, by rw [uS_ne n5, uS_ne n4, uS_ne n3, uS_ne n2, uS_ne n1, uS_ne (show a ≠ a + 1 from n0), hS], ?_⟩
  intro g5 e5
  subst e5
  have f5 := f4.pR (a := a) (by omega) 5 (a + 1 + 5)
  refine ⟨f5.h0 (by omega), by omega, by omega, by rw [uS_ne n6, uS_ne n5, uS_ne n4, uS_ne n3, uS_ne n2, uS_ne n1, uS_ne (show a ≠ a + 1 from n0), hS], ?_⟩
  intro g6 e6
  subst e6
  have f6 := f5.pR (a := a) (by omega) 6 (a + 1 + 6)
  refine ⟨f6.h0 (by omega), by omega, by omega, by rw [uS_ne n7, uS_ne n6, uS_ne n5, uS_ne n4, uS_ne n3, uS_ne n2, uS_ne n1, uS_ne (show a ≠ a + 1 from n0), hS], ?_⟩
  intro g7 e7
  subst e7
  have f7 := f6.pR (a := a) (by omega) 7 (a + 1 + 7)
  refine ⟨f7.h0 (by omega), by omega, by omega, by rw [uS_ne n8, uS_ne n7, uS_ne n6, uS_ne n5, uS_ne n4, uS_ne n3, uS_ne n2, uS_ne n1, uS_ne (show a ≠ a + 1 from n0), hS], ?_⟩
  intro g8 e8
  subst e8
  have f8 := f7.pR (a := a) (by omega) 8 (a + 1 + 8)
  refine ⟨f8.h0 (by omega), by omega, by omega, by rw [uS_ne n9, uS_ne n8, uS_ne n7, uS_ne n6, uS_ne n5, uS_ne n4, uS_ne n3, uS_ne n2, uS_ne n1, uS_ne (show a ≠ a + 1 from n0), hS], ?_⟩
  have f9 := f8.pR (a := a) (by omega) 9 (a + 1 + 9)
  refine ⟨5, mX2_83 (S0 := S) (h0 := h) (fun S' h' hM hF hC => q S' h' hM.ms.1 hM.ms.2 hF hC) 4 0 _ _ rfl ⟨⟨?_, ?_, ?_, ?_, ?_, ?_, ?_, ?_, ?_, ?_, ?_⟩, ?_, fun j hj => absurd hj (Nat.not_lt_zero _), fun j hj => absurd hj (Nat.not_lt_zero _), fun j hj => absurd hj (Nat.not_lt_zero _)⟩ (f9.up (by omega)) (Cn.pR (Cn.pR (Cn.pR (Cn.pR (Cn.pR (Cn.pR (Cn.pR (Cn.pR (Cn.pR (Cn.pR (Cn.uS (Cn.uS (Cn.uS (Cn.uS (Cn.uS (Cn.uS (Cn.uS (Cn.uS (Cn.uS (Cn.uS Cn.rf (by omega) _) (by omega) _) (by omega) _) (by omega) _) (by omega) _) (by omega) _) (by omega) _) (by omega) _) (by omega) _) (by omega) _) (Nat.le_refl _) _ _) (Nat.le_refl _) _ _) (Nat.le_refl _) _ _) (Nat.le_refl _) _ _) (Nat.le_refl _) _ _) (Nat.le_refl _) _ _) (Nat.le_refl _) _ _) (Nat.le_refl _) _ _) (Nat.le_refl _) _ _) (Nat.le_refl _) _ _)⟩
  · rw [uS_ne n9, uS_ne n8, uS_ne n7, uS_ne n6, uS_ne n5, uS_ne n4, uS_ne n3, uS_ne n2, uS_ne n1, uS_ne (show a ≠ a + 1 from n0), hS]
  · rw [uS_ne (show a + 1 ≠ a + 1 + 9 by omega), uS_ne (show a + 1 ≠ a + 1 + 8 by omega), uS_ne (show a + 1 ≠ a + 1 + 7 by omega), uS_ne (show a + 1 ≠ a + 1 + 6 by omega), uS_ne (show a + 1 ≠ a + 1 + 5 by omega), uS_ne (show a + 1 ≠ a + 1 + 4 by omega), uS_ne (show a + 1 ≠ a + 1 + 3 by omega), uS_ne (show a + 1 ≠ a + 1 + 2 by omega), uS_ne (show a + 1 ≠ a + 1 + 1 by omega)]
    exact uS_at
  · rw [uS_ne (show a + 2 ≠ a + 1 + 9 by omega), uS_ne (show a + 2 ≠ a + 1 + 8 by omega), uS_ne (show a + 2 ≠ a + 1 + 7 by omega), uS_ne (show a + 2 ≠ a + 1 + 6 by omega), uS_ne (show a + 2 ≠ a + 1 + 5 by omega), uS_ne (show a + 2 ≠ a + 1 + 4 by omega), uS_ne (show a + 2 ≠ a + 1 + 3 by omega), uS_ne (show a + 2 ≠ a + 1 + 2 by omega), show a + 2 = a + 1 + 1 from rfl]
    exact uS_at
  · rw [uS_ne (show a + 3 ≠ a + 1 + 9 by omega), uS_ne (show a + 3 ≠ a + 1 + 8 by omega), uS_ne (show a + 3 ≠ a + 1 + 7 by omega), uS_ne (show a + 3 ≠ a + 1 + 6 by omega), uS_ne (show a + 3 ≠ a + 1 + 5 by omega), uS_ne (show a + 3 ≠ a + 1 + 4 by omega), uS_ne (show a + 3 ≠ a + 1 + 3 by omega), show a + 3 = a + 1 + 2 from rfl]
    exact uS_at
  · rw [uS_ne (show a + 4 ≠ a + 1 + 9 by omega), uS_ne (show a + 4 ≠ a + 1 + 8 by omega), uS_ne (show a + 4 ≠ a + 1 + 7 by omega), uS_ne (show a + 4 ≠ a + 1 + 6 by omega), uS_ne (show a + 4 ≠ a + 1 + 5 by omega), uS_ne (show a + 4 ≠ a + 1 + 4 by omega), show a + 4 = a + 1 + 3 from rfl]
    exact uS_at
  · rw [uS_ne (show a + 5 ≠ a + 1 + 9 by omega), uS_ne (show a + 5 ≠ a + 1 + 8 by omega), uS_ne (show a + 5 ≠ a + 1 + 7 by omega), uS_ne (show a + 5 ≠ a + 1 + 6 by omega), uS_ne (show a + 5 ≠ a + 1 + 5 by omega), show a + 5 = a + 1 + 4 from rfl]
    exact uS_at
  · rw [uS_ne (show a + 6 ≠ a + 1 + 9 by omega), uS_ne (show a + 6 ≠ a + 1 + 8 by omega), uS_ne (show a + 6 ≠ a + 1 + 7 by omega), uS_ne (show a + 6 ≠ a + 1 + 6 by omega), show a + 6 = a + 1 + 5 from rfl]
    exact uS_at
  · rw [uS_ne (show a + 7 ≠ a + 1 + 9 by omega), uS_ne (show a + 7 ≠ a + 1 + 8 by omega), uS_ne (show a + 7 ≠ a + 1 + 7 by omega), show a + 7 = a + 1 + 6 from rfl]
    exact uS_at
  · rw [uS_ne (show a + 8 ≠ a + 1 + 9 by omega), uS_ne (show a + 8 ≠ a + 1 + 8 by omega), show a + 8 = a + 1 + 7 from rfl]
    exact uS_at
  · rw [uS_ne (show a + 9 ≠ a + 1 + 9 by omega), show a + 9 = a + 1 + 8 from rfl]
    exact uS_at
  · rw [show a + 10 = a + 1 + 9 from rfl]
    exact uS_at
  · intro k hk
    simp only [gR_pR, true_and]
    rcases (show k = 0 ∨ k = 1 ∨ k = 2 ∨ k = 3 ∨ k = 4 ∨ k = 5 ∨ k = 6 ∨ k = 7 ∨ k = 8 ∨ k = 9 from by omega) with rfl | rfl | rfl | rfl | rfl | rfl | rfl | rfl | rfl | rfl <;> simp
theorem MS.of {S S1 : Sh} {a : Nat} (H : MS S a) (e : ∀ q, a ≤ q → q < a + 145 → S1 q = S q) : MS S1 a := by
  obtain ⟨a0, a1, a2, a3, a4, a5, a6, a7, a8, a9, a10, he, hs, hi⟩ := H
  refine ⟨?_, ?_, ?_, ?_, ?_, ?_, ?_, ?_, ?_, ?_, ?_, fun j hj => (he j hj).of (fun q q1 q2 => e q (by omega) (by omega)), fun j hj => ?_, fun j hj => ?_⟩
  · rw [e _ (by omega) (by omega)]; exact a0
  · rw [e _ (by omega) (by omega)]; exact a1
  · rw [e _ (by omega) (by omega)]; exact a2
  · rw [e _ (by omega) (by omega)]; exact a3
  · rw [e _ (by omega) (by omega)]; exact a4
  · rw [e _ (by omega) (by omega)]; exact a5
  · rw [e _ (by omega) (by omega)]; exact a6
  · rw [e _ (by omega) (by omega)]; exact a7
  · rw [e _ (by omega) (by omega)]; exact a8
  · rw [e _ (by omega) (by omega)]; exact a9
  · rw [e _ (by omega) (by omega)]; exact a10
  · rw [e _ (by omega) (by omega)]; exact hs j hj
  · rw [e _ (by omega) (by omega)]; exact hi j hj
theorem DS.of {S S1 : Sh} {a : Nat} (H : DS S a) (e : ∀ q, a ≤ q → q < a + 441 → S1 q = S q) : DS S1 a := by
  obtain ⟨a0, a1, a2, a3, a4, a5, hm⟩ := H
  refine ⟨?_, ?_, ?_, ?_, ?_, ?_, fun j hj => (hm j hj).of (fun q q1 q2 => e q (by omega) (by omega))⟩
  · rw [e _ (by omega) (by omega)]; exact a0
  · rw [e _ (by omega) (by omega)]; exact a1
  · rw [e _ (by omega) (by omega)]; exact a2
  · rw [e _ (by omega) (by omega)]; exact a3
  · rw [e _ (by omega) (by omega)]; exact a4
  · rw [e _ (by omega) (by omega)]; exact a5
/-- a model at a with m machines made -/
def DI (a m : Nat) (S : Sh) (h : Hp) : Prop :=
  (S a = (4, 0) ∧ S (a + 1) = (25, 3) ∧ S (a + 2) = (20, 601) ∧ S (a + 3) = (20, 7) ∧ S (a + 4) = (20, 32) ∧ S (a + 5) = (20, 3)) ∧ (∀ k, k < 5 → gR h a k = a + 1 + k) ∧
  (∀ j, j < m → MS S (a + 6 + 145 * j) ∧ gR h (a + 1) j = a + 6 + 145 * j ∧ MR h (a + 6 + 145 * j))
theorem mX3_46 {a : Nat} {S0 : Sh} {h0 : Hp} {Q : Sh → Nat → Hp → Prop} (q : ∀ (S' : Sh) (h' : Hp), DI a 3 S' h' → Fz h' (a + 441) → Cn a S0 S' h0 h' → Q S' (a + 441) h') :
    ∀ (n i : Nat) (S : Sh) (h : Hp), i + n = 3 → DI a i S h → Fz h (a + 6 + 145 * i) → Cn a S0 S h0 h → wX3_init_46 a Q (n + 1) S (a + 6 + 145 * i) (5 + 145 * i) (646 + 5478 * i) h (nI i)
  | 0, i, S, h, hi, hM, hz, hc => by
    have e : i = 3 := by omega
    subst e
    show wX3_init_46b a Q _ S _ _ _ h _
    unfold wX3_init_46b
    exact ⟨fun _ => ⟨by omega, by omega, q S h hM hz hc⟩, fun g => absurd (show (3 : Int32) ≤ nI 3 by decide) g⟩
  | n + 1, i, S, h, hi, hM, hz, hc => by
    show wX3_init_46b a Q (wX3_init_46 a Q (n + 1)) S _ _ _ h _
    unfold wX3_init_46b
    refine ⟨fun g => absurd g (nI_ge (b := 3) (by omega) (by decide)), fun _ => ?_⟩
    have hR9 : gR h a 0 = a + 1 := hM.2.1 0 (by omega)
    refine ⟨by rw [hM.1.1], hz.h0 (Nat.le_refl _), by omega, by omega, by omega, by omega, by rw [uS_at]; decide, ?_⟩
    refine mX2_init uS_at (hz.up (by omega)) (fun S' h' hES hER hF hC => ?_)
    have hS' : ∀ b, b < a + 6 + 145 * i → S' b = S b := fun b hb => (hC.1 b (by omega)).trans (uS_ne (by omega))
    refine ⟨?_, ?_, ?_⟩
    · rw [hR9]
      exact inA_of (by rw [hS' _ (by omega)]; exact hM.1.2.1) (by omega) (by decide)
    · rw [hC.1 _ (Nat.le_refl _), uS_at]
    · rw [hR9, ix_nI (by omega), nI_1]
      have hc' : Cn a S0 S' h0 (pR h' (a + 1) i (a + 6 + 145 * i)) := ((hc.uS (by omega) (3, 0)).tr hC (by omega)).pR (by omega) _ _
      have := mX3_46 q n (i + 1) S' (pR h' (a + 1) i (a + 6 + 145 * i)) (by omega) ?_ ?_ hc'
      · rw [show a + 6 + 145 * i + 145 = a + 6 + 145 * (i + 1) from by omega, show 5 + 145 * i + 145 = 5 + 145 * (i + 1) from by omega, show 646 + 5478 * i + 5478 = 646 + 5478 * (i + 1) from by omega]
        exact this
      · obtain ⟨m0, m1, m2⟩ := hM
        have hG : ∀ b, b < a + 6 + 145 * i → ∀ j, gR h' b j = gR h b j := fun b hb j => hC.2.2.2 b hb j
        refine ⟨?_, fun k hk => by rw [gR_pR, if_neg (by omega), hG _ (by omega)]; exact m1 k hk, fun j hj => ?_⟩
        · rw [hS' a (by omega), hS' (a + 1) (by omega), hS' (a + 2) (by omega), hS' (a + 3) (by omega), hS' (a + 4) (by omega), hS' (a + 5) (by omega)]
          exact m0
        · by_cases hji : j = i
          · subst hji
            exact ⟨hES, by rw [gR_pR, if_pos ⟨rfl, rfl⟩], hER.of (fun q q1 q2 k => by rw [gR_pR, if_neg (by omega)])⟩
          · exact ⟨(m2 j (by omega)).1.of (fun q q1 q2 => hS' q (by omega)), by rw [gR_pR, if_neg (by omega), hG _ (by omega)]; exact (m2 j (by omega)).2.1, (m2 j (by omega)).2.2.of (fun q q1 q2 k => by rw [gR_pR, if_neg (by omega), hG _ (by omega)])⟩
      · exact (hF.up (z' := a + 6 + 145 * (i + 1)) (by omega)).pR (by omega) _ _
theorem DI.ds {a : Nat} {S : Sh} {h : Hp} (H : DI a 3 S h) : DS S a ∧ DR h a := by
  obtain ⟨⟨a0, a1, a2, a3, a4, a5⟩, m1, m2⟩ := H
  exact ⟨⟨a0, a1, a2, a3, a4, a5, fun e he => (m2 e he).1⟩, m1, fun e he => (m2 e he).2⟩
theorem mX3_init {S : Sh} {h : Hp} {a : Nat} {Q : Sh → Nat → Hp → Prop} (hS : S a = (4, 0)) (hz : Fz h (a + 1))
    (q : ∀ (S' : Sh) (h' : Hp), DS S' a → DR h' a → Fz h' (a + 441) → Cn a S S' h h' → Q S' (a + 441) h') : wX3_init S (a + 1) h a Q := by
  unfold wX3_init
  have n0 : a ≠ a + 1 + 0 := by omega
  have n1 : a ≠ a + 1 + 1 := by omega
  have n2 : a ≠ a + 1 + 2 := by omega
  have n3 : a ≠ a + 1 + 3 := by omega
  have n4 : a ≠ a + 1 + 4 := by omega
  refine ⟨by rw [hS]; decide, hz.h0 (by omega), by omega, by omega, by rw [uS_ne (show a ≠ a + 1 from n0), hS], ?_⟩
  intro g0 e0
  subst e0
  have f0 := hz.pR (a := a) (by omega) 0 (a + 1)
  refine ⟨f0.h0 (by omega), by omega, by omega, by rw [uS_ne n1, uS_ne (show a ≠ a + 1 from n0), hS], ?_⟩
  intro g1 e1
  subst e1
  have f1 := f0.pR (a := a) (by omega) 1 (a + 1 + 1)
  refine ⟨f1.h0 (by omega), by omega, by omega, by rw [uS_ne n2, uS_ne n1, uS_ne (show a ≠ a + 1 from n0), hS], ?_⟩
  intro g2 e2
  subst e2
  have f2 := f1.pR (a := a) (by omega) 2 (a + 1 + 2)
  refine ⟨f2.h0 (by omega), by omega, by omega, by rw [uS_ne n3, uS_ne n2, uS_ne n1, uS_ne (show a ≠ a + 1 from n0), hS], ?_⟩
  intro g3 e3
  subst e3
  have f3 := f2.pR (a := a) (by omega) 3 (a + 1 + 3)
  refine ⟨f3.h0 (by omega), by omega, by omega, by rw [uS_ne n4, uS_ne n3, uS_ne n2, uS_ne n1, uS_ne (show a ≠ a + 1 from n0), hS], ?_⟩
  have f4 := f3.pR (a := a) (by omega) 4 (a + 1 + 4)
  refine ⟨4, mX3_46 (S0 := S) (h0 := h) (fun S' h' hM hF hC => q S' h' hM.ds.1 hM.ds.2 hF hC) 3 0 _ _ rfl ⟨⟨?_, ?_, ?_, ?_, ?_, ?_⟩, ?_, fun j hj => absurd hj (Nat.not_lt_zero _)⟩ (f4.up (by omega)) (Cn.pR (Cn.pR (Cn.pR (Cn.pR (Cn.pR (Cn.uS (Cn.uS (Cn.uS (Cn.uS (Cn.uS Cn.rf (by omega) _) (by omega) _) (by omega) _) (by omega) _) (by omega) _) (Nat.le_refl _) _ _) (Nat.le_refl _) _ _) (Nat.le_refl _) _ _) (Nat.le_refl _) _ _) (Nat.le_refl _) _ _)⟩
  · rw [uS_ne n4, uS_ne n3, uS_ne n2, uS_ne n1, uS_ne (show a ≠ a + 1 from n0), hS]
  · rw [uS_ne (show a + 1 ≠ a + 1 + 4 by omega), uS_ne (show a + 1 ≠ a + 1 + 3 by omega), uS_ne (show a + 1 ≠ a + 1 + 2 by omega), uS_ne (show a + 1 ≠ a + 1 + 1 by omega)]
    exact uS_at
  · rw [uS_ne (show a + 2 ≠ a + 1 + 4 by omega), uS_ne (show a + 2 ≠ a + 1 + 3 by omega), uS_ne (show a + 2 ≠ a + 1 + 2 by omega), show a + 2 = a + 1 + 1 from rfl]
    exact uS_at
  · rw [uS_ne (show a + 3 ≠ a + 1 + 4 by omega), uS_ne (show a + 3 ≠ a + 1 + 3 by omega), show a + 3 = a + 1 + 2 from rfl]
    exact uS_at
  · rw [uS_ne (show a + 4 ≠ a + 1 + 4 by omega), show a + 4 = a + 1 + 3 from rfl]
    exact uS_at
  · rw [show a + 5 = a + 1 + 4 from rfl]
    exact uS_at
  · intro k hk
    simp only [gR_pR, true_and]
    rcases (show k = 0 ∨ k = 1 ∨ k = 2 ∨ k = 3 ∨ k = 4 from by omega) with rfl | rfl | rfl | rfl | rfl <;> simp
