/-- the reserved words, letter by letter: how many are done, and the row -/
def rsF : Nat → Nat × (Nat → Int64)
  | 0 => (0, fun _ => 0)
  | i + 1 => if (bytS.getD 0 []).getD i 0 = 32 then ((rsF i).1 + 1, (rsF i).2) else if 16 ≤ (rsF i).1 then rsF i else ((rsF i).1, fun k => if k = (rsF i).1 then (shl64 ((rsF i).2 (rsF i).1) 5 ||| (((bytS.getD 0 []).getD i 0 - 97) + 1).toInt64) else (rsF i).2 k)
theorem rsF_le : ∀ i, (rsF i).1 ≤ i
  | 0 => Nat.le_refl _
  | i + 1 => by
    unfold rsF
    have := rsF_le i
    split
    · simp; omega
    · split
      · omega
      · simp; omega
theorem mX8_43 {K : Nat → Nat} {a : Nat} {S : Sh} {h : Hp} {Q : Sh → Nat → Hp → Prop} (hS : S a = (9, 0)) (hS4 : S (a + 4) = (23, 16))
    (q : ∀ h' : Hp, (∀ b j, gI h' b j = gI h b j) → (∀ b j, gR h' b j = gR h b j) → (∀ b, b ≠ a + 4 → ∀ j, gJ h' b j = gJ h b j) → (∀ j, gJ h' (a + 4) j = (rsF 72).2 j) → Q S (a + 5) h') (hR : gR h a 3 = a + 4) :
    ∀ (n i : Nat) (h1 : Hp), i + n = 72 → (∀ b j, gI h1 b j = gI h b j) → (∀ b j, gR h1 b j = gR h b j) → (∀ b, b ≠ a + 4 → ∀ j, gJ h1 b j = gJ h b j) → (∀ j, gJ h1 (a + 4) j = (rsF i).2 j) → wX8_init_43 K a Q (n + 1) S (a + 5) 4 1819 h1 (nI (rsF i).1) (nI i)
  | 0, i, h1, hi, c1, c2, c3, c4 => by
    have e : i = 72 := by omega
    subst e
    show wX8_init_43b K a Q _ S _ _ _ h1 _ _
    unfold wX8_init_43b wJ0_length_8abf5
    refine ⟨by omega, by omega, 0, by omega, rfl, ?_⟩
    exact ⟨fun _ => ⟨by omega, by omega, q h1 c1 c2 c3 c4⟩, fun g => absurd (show nI (lenS.getD 0 0) ≤ nI 72 by decide) g⟩
  | n + 1, i, h1, hi, c1, c2, c3, c4 => by
    show wX8_init_43b K a Q (wX8_init_43 K a Q (n + 1)) S _ _ _ h1 _ _
    unfold wX8_init_43b wJ0_length_8abf5
    have hw := rsF_le i
    have hl : lenS.getD 0 0 = 72 := rfl
    refine ⟨by omega, by omega, 0, by omega, rfl, fun g => absurd g (nI_ge (b := 72) (by omega) (by decide)), fun _ => ?_⟩
    unfold wJ0_charAt_5068e
    refine ⟨0, i, by omega, rfl, rfl, by omega, fun hc => ⟨fun g => ?_, fun g => ?_⟩, fun hc => ?_⟩
    · have g16 : 16 ≤ (rsF i).1 := (nI_leI (a := 16) (by decide) (by omega)).mp g
      have e : rsF (i + 1) = rsF i := by
        conv => lhs; unfold rsF
        rw [if_neg hc, if_pos g16]
      have := mX8_43 (K := K) hS hS4 q hR n (i + 1) h1 (by omega) c1 c2 c3 (by rw [e]; exact c4)
      rw [e] at this
      rw [nI_1]
      exact this
    · have g16 : ¬ 16 ≤ (rsF i).1 := fun x => g (nI_le (a := 16) x (by omega))
      have e : rsF (i + 1) = ((rsF i).1, fun k => if k = (rsF i).1 then (shl64 ((rsF i).2 (rsF i).1) 5 ||| (((bytS.getD 0 []).getD i 0 - 97) + 1).toInt64) else (rsF i).2 k) := by
        conv => lhs; unfold rsF
        rw [if_neg hc, if_neg g16]
      have hR1 : gR h1 a 3 = a + 4 := (c2 a 3).trans hR
      refine ⟨by rw [hS], by rw [hR1]; exact inA_of hS4 (by omega) (by decide), ?_⟩
      rw [hR1, ix_nI (by omega), nI_1]
      have := mX8_43 (K := K) hS hS4 q hR n (i + 1) (pJ h1 (a + 4) (rsF i).1 (shl64 (gJ h1 (a + 4) (rsF i).1) 5 ||| (((bytS.getD 0 []).getD i 0 - 97) + 1).toInt64)) (by omega) c1 c2 (fun b hb j => by rw [gJ_pJ, if_neg (fun x => hb x.1)]; exact c3 b hb j) (fun j => by
        rw [gJ_pJ, e, c4]
        simp only [true_and]
        split
        · rfl
        · exact c4 j)
      rw [e] at this
      exact this
    · have e : rsF (i + 1) = ((rsF i).1 + 1, (rsF i).2) := by
        conv => lhs; unfold rsF
        rw [if_pos hc]
      have := mX8_43 (K := K) hS hS4 q hR n (i + 1) h1 (by omega) c1 c2 c3 (by rw [e]; exact c4)
      rw [e] at this
      rw [nI_1, nI_1]
      exact this
theorem mX8_init {K : Nat → Nat} {S : Sh} {h : Hp} {a : Nat} {Q : Sh → Nat → Hp → Prop} (hS : S a = (9, 0)) (hz : Fz h (a + 1))
    (q : ∀ (S' : Sh) (h' : Hp), (S' (a + 1) = (20, 601) ∧ S' (a + 2) = (20, 601) ∧ S' (a + 3) = (23, 601) ∧ S' (a + 4) = (23, 16)) → (gR h' a 0 = a + 1 ∧ gR h' a 1 = a + 2 ∧ gR h' a 2 = a + 3 ∧ gR h' a 3 = a + 4) → Fz h' (a + 5) → (∀ b, b ≤ a → S' b = S b) → (∀ b j, gI h' b j = gI h b j) → (∀ b, b ≠ a + 4 → ∀ j, gJ h' b j = gJ h b j) → (∀ j, gJ h' (a + 4) j = (rsF 72).2 j) → (∀ b, b < a → ∀ j, gR h' b j = gR h b j) → Q S' (a + 5) h') : wX8_init K S (a + 1) h a Q := by
  unfold wX8_init
  have n0 : a ≠ a + 1 + 0 := by omega
  have n1 : a ≠ a + 1 + 1 := by omega
  have n2 : a ≠ a + 1 + 2 := by omega
  have n3 : a ≠ a + 1 + 3 := by omega
  refine ⟨by rw [hS]; decide, hz.h0 (by omega), by omega, by omega, by rw [uS_ne (show a ≠ a + 1 from n0), hS], ?_⟩
  intro g0 e0
  subst e0
  have f0 := hz.pR (a := a) (by omega) 0 (a + 1)
  refine ⟨f0.h0 (by omega), by omega, by omega, by rw [uS_ne n1, uS_ne (show a ≠ a + 1 from n0), hS], ?_⟩
  intro g1 e1
  subst e1
  have f1 := f0.pR (a := a) (by omega) 1 (a + 1 + 1)
  refine ⟨f1.h0 (by omega), by omega, by omega, by rw [uS_ne n2, uS_ne n1, uS_ne (show a ≠ a + 1 from n0), hS], ?_⟩
  intro g2 e2
  subst e2
  have f2 := f1.pR (a := a) (by omega) 2 (a + 1 + 2)
  refine ⟨f2.h0 (by omega), by omega, by omega, by rw [uS_ne n3, uS_ne n2, uS_ne n1, uS_ne (show a ≠ a + 1 from n0), hS], ?_⟩
  have f3 := f2.pR (a := a) (by omega) 3 (a + 1 + 3)
  have hC : Cn a S (uS (uS (uS (uS S (a + 1) (20, 601)) (a + 1 + 1) (20, 601)) (a + 1 + 2) (23, 601)) (a + 1 + 3) (23, 16)) h (pR (pR (pR (pR h a 0 (a + 1)) a 1 (a + 1 + 1)) a 2 (a + 1 + 2)) a 3 (a + 1 + 3)) := (Cn.pR (Cn.pR (Cn.pR (Cn.pR (Cn.uS (Cn.uS (Cn.uS (Cn.uS Cn.rf (by omega) _) (by omega) _) (by omega) _) (by omega) _) (Nat.le_refl _) _ _) (Nat.le_refl _) _ _) (Nat.le_refl _) _ _) (Nat.le_refl _) _ _)
  refine ⟨73, mX8_43 (K := K) (h := pR (pR (pR (pR h a 0 (a + 1)) a 1 (a + 1 + 1)) a 2 (a + 1 + 2)) a 3 (a + 1 + 3)) ?_ ?_ (fun h' d1 d2 d3 d4 => q _ h' ⟨?_, ?_, ?_, ?_⟩ ?_ (fun b hb j => ?_) hC.1 (fun b j => (d1 b j).trans (hC.2.1 b j)) (fun b hb j => (d3 b hb j).trans (hC.2.2.1 b j)) d4 (fun b hb j => (d2 b j).trans (hC.2.2.2 b hb j))) ?_ 72 0 _ rfl (fun _ _ => rfl) (fun _ _ => rfl) (fun _ _ _ => rfl) (fun j => (f3 (a + 4) (by omega) j).2.1)⟩
  · rw [uS_ne n3, uS_ne n2, uS_ne n1, uS_ne (show a ≠ a + 1 from n0), hS]
  · rw [show a + 4 = a + 1 + 3 from rfl]
    exact uS_at
  · rw [uS_ne (show a + 1 ≠ a + 1 + 3 by omega), uS_ne (show a + 1 ≠ a + 1 + 2 by omega), uS_ne (show a + 1 ≠ a + 1 + 1 by omega)]
    exact uS_at
  · rw [uS_ne (show a + 2 ≠ a + 1 + 3 by omega), uS_ne (show a + 2 ≠ a + 1 + 2 by omega), show a + 2 = a + 1 + 1 from rfl]
    exact uS_at
  · rw [uS_ne (show a + 3 ≠ a + 1 + 3 by omega), show a + 3 = a + 1 + 2 from rfl]
    exact uS_at
  · rw [show a + 4 = a + 1 + 3 from rfl]
    exact uS_at
  · rw [d2, d2, d2, d2]
    simp [gR_pR]
  · rw [d1, d2, d3 b (by omega)]
    exact f3 b (by omega) j
  · simp [gR_pR]
