/-! THE CONSTRUCTORS -/
/-- all rows from z on are empty -/
def Fz (h : Hp) (z : Nat) : Prop := ∀ a, z ≤ a → ∀ j, gI h a j = 0 ∧ gJ h a j = 0 ∧ gR h a j = 0
theorem Fz.h0 {h : Hp} {z a : Nat} (H : Fz h z) (ha : z ≤ a) : h0 h a := ⟨fun j => (H a ha j).1, fun j => (H a ha j).2.1, fun j => (H a ha j).2.2⟩
theorem Fz.up {h : Hp} {z z' : Nat} (H : Fz h z) (hz : z ≤ z') : Fz h z' := fun a ha => H a (Nat.le_trans hz ha)
theorem Fz.pR {h : Hp} {z a : Nat} (H : Fz h z) (ha : a < z) (k v : Nat) : Fz (pR h a k v) z := fun b hb j => by
  rw [gI_pR, gJ_pR, gR_pR, if_neg (by omega)]
  exact H b hb j
theorem Fz.pI {h : Hp} {z a : Nat} (H : Fz h z) (ha : a < z) (k : Nat) (v : Int32) : Fz (pI h a k v) z := fun b hb j => by
  rw [gI_pI, gJ_pI, gR_pI, if_neg (by omega)]
  exact H b hb j
theorem Fz.pJ {h : Hp} {z a : Nat} (H : Fz h z) (ha : a < z) (k : Nat) (v : Int64) : Fz (pJ h a k v) z := fun b hb j => by
  rw [gI_pJ, gJ_pJ, gR_pJ, if_neg (by omega)]
  exact H b hb j
/-- what a constructor may do: rows from a on, references alone -/
def Cn (a : Nat) (S S' : Sh) (h h' : Hp) : Prop := (∀ b, b ≤ a → S' b = S b) ∧ (∀ b j, gI h' b j = gI h b j) ∧ (∀ b j, gJ h' b j = gJ h b j) ∧ ∀ b, b < a → ∀ j, gR h' b j = gR h b j
theorem Cn.rf {a : Nat} {S : Sh} {h : Hp} : Cn a S S h h := ⟨fun _ _ => rfl, fun _ _ => rfl, fun _ _ => rfl, fun _ _ _ => rfl⟩
theorem Cn.tr {a b : Nat} {S S1 S2 : Sh} {h h1 h2 : Hp} (x : Cn a S S1 h h1) (y : Cn b S1 S2 h1 h2) (hab : a ≤ b) : Cn a S S2 h h2 :=
  ⟨fun c hc => (y.1 c (Nat.le_trans hc hab)).trans (x.1 c hc), fun c j => (y.2.1 c j).trans (x.2.1 c j), fun c j => (y.2.2.1 c j).trans (x.2.2.1 c j), fun c hc j => (y.2.2.2 c (Nat.lt_of_lt_of_le hc hab) j).trans (x.2.2.2 c hc j)⟩
theorem Cn.uS {a b : Nat} {S S' : Sh} {h h' : Hp} (x : Cn a S S' h h') (hb : a < b) (p : Nat × Nat) : Cn a S (uS S' b p) h h' := ⟨fun c hc => by
  show (if c = b then p else S' c) = _
  rw [if_neg (by omega)]
  exact x.1 c hc, x.2⟩
theorem Cn.pR {a b : Nat} {S S' : Sh} {h h' : Hp} (x : Cn a S S' h h') (hb : a ≤ b) (k v : Nat) : Cn a S S' h (pR h' b k v) := ⟨x.1, x.2.1, x.2.2.1, fun c hc j => by
  rw [gR_pR, if_neg (by omega)]
  exact x.2.2.2 c hc j⟩
theorem uS_at {S : Sh} {a : Nat} {p : Nat × Nat} : uS S a p a = p := if_pos rfl
theorem uS_ne {S : Sh} {a b : Nat} {p : Nat × Nat} (h : b ≠ a) : uS S a p b = S b := if_neg h
theorem mX0_init {S : Sh} {h : Hp} {a : Nat} {Q : Sh → Nat → Hp → Prop} (hS : S a = (1, 0)) (hz : Fz h (a + 1))
    (q : ∀ (S' : Sh) (h' : Hp), ES S' a → ER h' a → Fz h' (a + 5) → Cn a S S' h h' → Q S' (a + 5) h') : wX0_init S (a + 1) h a Q := by
  unfold wX0_init
  have n1 : a ≠ a + 1 := by omega
  have n2 : a ≠ a + 1 + 1 := by omega
  have n3 : a ≠ a + 1 + 2 := by omega
  have n4 : a ≠ a + 1 + 3 := by omega
  refine ⟨by rw [hS]; decide, hz.h0 (by omega), by omega, by omega, by rw [uS_ne n1, hS], ?_⟩
  intro h8 e8
  subst e8
  have f8 := hz.pR (a := a) (by omega) 0 (a + 1)
  refine ⟨f8.h0 (by omega), by omega, by omega, by rw [uS_ne n2, uS_ne n1, hS], ?_⟩
  intro h16 e16
  subst e16
  have f16 := f8.pR (a := a) (by omega) 1 (a + 1 + 1)
  refine ⟨f16.h0 (by omega), by omega, by omega, by rw [uS_ne n3, uS_ne n2, uS_ne n1, hS], ?_⟩
  intro h24 e24
  subst e24
  have f24 := f16.pR (a := a) (by omega) 2 (a + 1 + 2)
  refine ⟨f24.h0 (by omega), by omega, by omega, by rw [uS_ne n4, uS_ne n3, uS_ne n2, uS_ne n1, hS], by omega, by omega, ?_⟩
  refine q _ _ ⟨?_, ?_, ?_, ?_, ?_⟩ ⟨?_, ?_, ?_, ?_⟩ ((f24.pR (a := a) (by omega) 3 (a + 1 + 3)).up (by omega)) ?_
  · rw [uS_ne n4, uS_ne n3, uS_ne n2, uS_ne n1, hS]
  · rw [uS_ne (by omega), uS_ne (by omega), uS_ne (by omega), uS_at]
  · rw [uS_ne (by omega), uS_ne (by omega), show a + 2 = a + 1 + 1 from rfl, uS_at]
  · rw [uS_ne (by omega), show a + 3 = a + 1 + 2 from rfl, uS_at]
  · rw [show a + 4 = a + 1 + 3 from rfl, uS_at]
  · simp [gR_pR]
  · simp [gR_pR]
  · simp [gR_pR]
  · simp [gR_pR]
  · exact (((((((Cn.rf.uS (by omega) _).uS (by omega) _).uS (by omega) _).uS (by omega) _).pR (Nat.le_refl _) _ _).pR (Nat.le_refl _) _ _).pR (Nat.le_refl _) _ _).pR (Nat.le_refl _) _ _
/-- a machine at a with e events, s sets, i verdicts made -/
def MI (a e s i : Nat) (S : Sh) (h : Hp) : Prop :=
  (S a = (3, 0) ∧ S (a + 1) = (23, 3) ∧ S (a + 2) = (20, 3) ∧ S (a + 3) = (20, 3) ∧ S (a + 4) = (20, 3) ∧ S (a + 5) = (20, 4) ∧ S (a + 6) = (24, 4) ∧ S (a + 7) = (22, 100) ∧ S (a + 8) = (26, 100) ∧ S (a + 9) = (20, 100) ∧ S (a + 10) = (27, 14)) ∧
  (∀ k, k < 10 → gR h a k = a + 1 + k) ∧
  (∀ j, j < e → ES S (a + 11 + 5 * j) ∧ gR h (a + 6) j = a + 11 + 5 * j ∧ ER h (a + 11 + 5 * j)) ∧
  (∀ j, j < s → S (a + 31 + j) = (8, 0) ∧ gR h (a + 8) j = a + 31 + j) ∧
  (∀ j, j < i → S (a + 131 + j) = (10, 0) ∧ gR h (a + 10) j = a + 131 + j)
theorem ES.of {S S1 : Sh} {v : Nat} (H : ES S v) (e : ∀ q, v ≤ q → q < v + 5 → S1 q = S q) : ES S1 v := by
  unfold ES at H ⊢
  rw [e v (by omega) (by omega), e (v + 1) (by omega) (by omega), e (v + 2) (by omega) (by omega), e (v + 3) (by omega) (by omega), e (v + 4) (by omega) (by omega)]
  exact H
/-- it stands where only later rows are made -/
theorem MI.keep {a e s i z : Nat} {S S1 : Sh} {h h1 : Hp} (H : MI a e s i S h) (he : 0 < e → a + 11 + 5 * e ≤ z) (hs : 0 < s → a + 31 + s ≤ z) (hi : 0 < i → a + 131 + i ≤ z) (hz : a + 11 ≤ z) (c1 : ∀ b, b < z → S1 b = S b) (c2 : ∀ b, b < z → ∀ j, gR h1 b j = gR h b j) : MI a e s i S1 h1 := by
  obtain ⟨h0, hk, h2, h3, h4⟩ := H
  refine ⟨?_, fun k hk' => by rw [c2 a (by omega)]; exact hk k hk', fun j hj => ⟨(h2 j hj).1.of (fun q q1 q2 => c1 q (by omega)), ?_, (h2 j hj).2.2.of (c2 _ (by omega))⟩, fun j hj => ⟨?_, ?_⟩, fun j hj => ⟨?_, ?_⟩⟩
  · rw [c1 a (by omega), c1 (a + 1) (by omega), c1 (a + 2) (by omega), c1 (a + 3) (by omega), c1 (a + 4) (by omega), c1 (a + 5) (by omega), c1 (a + 6) (by omega), c1 (a + 7) (by omega), c1 (a + 8) (by omega), c1 (a + 9) (by omega), c1 (a + 10) (by omega)]
    exact h0
  · rw [c2 _ (by omega)]; exact (h2 j hj).2.1
  · rw [c1 _ (by omega)]; exact (h3 j hj).1
  · rw [c2 _ (by omega)]; exact (h3 j hj).2
  · rw [c1 _ (by omega)]; exact (h4 j hj).1
  · rw [c2 _ (by omega)]; exact (h4 j hj).2
theorem mX2_136 {a : Nat} {S0 : Sh} {h0 : Hp} {Q : Sh → Nat → Hp → Prop} (q : ∀ (S' : Sh) (h' : Hp), MI a 4 100 14 S' h' → Fz h' (a + 145) → Cn a S0 S' h0 h' → Q S' (a + 145) h') :
    ∀ (n i : Nat) (S : Sh) (h : Hp), i + n = 14 → MI a 4 100 i S h → Fz h (a + 131 + i) → Cn a S0 S h0 h → wX2_init_136 a Q (n + 1) S (a + 131 + i) (130 + i) (5390 + 5 * i) h (nI i)
  | 0, i, S, h, hi, hM, hz, hc => by
    have e : i = 14 := by omega
    subst e
    show wX2_init_136b a Q _ S _ _ _ h _
    unfold wX2_init_136b
    exact ⟨fun _ => ⟨by omega, by omega, q S h hM (hz.up (by omega)) hc⟩, fun g => absurd (show (14 : Int32) ≤ nI 14 by decide) g⟩
  | n + 1, i, S, h, hi, hM, hz, hc => by
    show wX2_init_136b a Q (wX2_init_136 a Q (n + 1)) S _ _ _ h _
    unfold wX2_init_136b
    refine ⟨fun g => absurd g (nI_ge (b := 14) (by omega) (by decide)), fun _ => ?_⟩
    have hR9 : gR h a 9 = a + 10 := hM.2.1 9 (by omega)
    refine ⟨by rw [hM.1.1], hz.h0 (Nat.le_refl _), by omega, by omega, by omega, by omega, by rw [uS_at]; decide, ?_⟩
    unfold wX9_init
    refine ⟨by rw [uS_at]; decide, ?_, by rw [uS_at], ?_⟩
    · rw [hR9]
      exact inA_of (by rw [uS_ne (by omega)]; exact hM.1.2.2.2.2.2.2.2.2.2.2) (by omega) (by decide)
    · rw [hR9, ix_nI (by omega), nI_1]
      have hc' : Cn a S0 (uS S (a + 131 + i) (10, 0)) h0 (pR h (a + 10) i (a + 131 + i)) := (hc.uS (by omega) _).pR (by omega) _ _
      have := mX2_136 q n (i + 1) (uS S (a + 131 + i) (10, 0)) (pR h (a + 10) i (a + 131 + i)) (by omega) ?_ ?_ hc'
      · rw [show a + 131 + i + 1 = a + 131 + (i + 1) from by omega, show 130 + i + 1 = 130 + (i + 1) from by omega, show 5390 + 5 * i + 5 = 5390 + 5 * (i + 1) from by omega]
        exact this
      · obtain ⟨m0, m1, m2, m3, m4⟩ := hM
        refine ⟨?_, fun k hk => by rw [gR_pR, if_neg (by omega)]; exact m1 k hk, fun j hj => ⟨(m2 j hj).1.of (fun q q1 q2 => uS_ne (by omega)), by rw [gR_pR, if_neg (by omega)]; exact (m2 j hj).2.1, (m2 j hj).2.2.of (fun k => by rw [gR_pR, if_neg (by omega)])⟩, fun j hj => ⟨by rw [uS_ne (by omega)]; exact (m3 j hj).1, by rw [gR_pR, if_neg (by omega)]; exact (m3 j hj).2⟩, fun j hj => ?_⟩
        · simp only [uS_ne (show a ≠ a + 131 + i by omega), uS_ne (show a + 1 ≠ a + 131 + i by omega), uS_ne (show a + 2 ≠ a + 131 + i by omega), uS_ne (show a + 3 ≠ a + 131 + i by omega), uS_ne (show a + 4 ≠ a + 131 + i by omega), uS_ne (show a + 5 ≠ a + 131 + i by omega), uS_ne (show a + 6 ≠ a + 131 + i by omega), uS_ne (show a + 7 ≠ a + 131 + i by omega), uS_ne (show a + 8 ≠ a + 131 + i by omega), uS_ne (show a + 9 ≠ a + 131 + i by omega), uS_ne (show a + 10 ≠ a + 131 + i by omega)]
          exact m0
        · by_cases hji : j = i
          · subst hji
            exact ⟨uS_at, by rw [gR_pR, if_pos ⟨rfl, rfl⟩]⟩
          · exact ⟨by rw [uS_ne (by omega)]; exact (m4 j (by omega)).1, by rw [gR_pR, if_neg (by omega)]; exact (m4 j (by omega)).2⟩
      · exact (hz.up (z' := a + 131 + (i + 1)) (by omega)).pR (by omega) _ _
theorem mX2_109 {a : Nat} {S0 : Sh} {h0 : Hp} {Q : Sh → Nat → Hp → Prop} (q : ∀ (S' : Sh) (h' : Hp), MI a 4 100 14 S' h' → Fz h' (a + 145) → Cn a S0 S' h0 h' → Q S' (a + 145) h') :
    ∀ (n i : Nat) (S : Sh) (h : Hp), i + n = 100 → MI a 4 i 0 S h → Fz h (a + 31 + i) → Cn a S0 S h0 h → wX2_init_109 a Q (n + 1) S (a + 31 + i) (30 + i) (5190 + 2 * i) h (nI i)
  | 0, i, S, h, hi, hM, hz, hc => by
    have e : i = 100 := by omega
    subst e
    show wX2_init_109b a Q _ S _ _ _ h _
    unfold wX2_init_109b
    refine ⟨fun _ => ?_, fun g => absurd (show (100 : Int32) ≤ nI 100 by decide) g⟩
    unfold wX2_init_j134
    exact ⟨15, mX2_136 q 14 0 S h rfl hM hz hc⟩
  | n + 1, i, S, h, hi, hM, hz, hc => by
    show wX2_init_109b a Q (wX2_init_109 a Q (n + 1)) S _ _ _ h _
    unfold wX2_init_109b
    refine ⟨fun g => absurd g (nI_ge (b := 100) (by omega) (by decide)), fun _ => ?_⟩
    have hR9 : gR h a 7 = a + 8 := hM.2.1 7 (by omega)
    refine ⟨by rw [hM.1.1], hz.h0 (Nat.le_refl _), by omega, by omega, by omega, by omega, by rw [uS_at]; decide, ?_⟩
    unfold wX7_init
    refine ⟨by rw [uS_at]; decide, ?_, by rw [uS_at], ?_⟩
    · rw [hR9]
      exact inA_of (by rw [uS_ne (by omega)]; exact hM.1.2.2.2.2.2.2.2.2.1) (by omega) (by decide)
    · rw [hR9, ix_nI (by omega), nI_1]
      have hc' : Cn a S0 (uS S (a + 31 + i) (8, 0)) h0 (pR h (a + 8) i (a + 31 + i)) := (hc.uS (by omega) _).pR (by omega) _ _
      have := mX2_109 q n (i + 1) (uS S (a + 31 + i) (8, 0)) (pR h (a + 8) i (a + 31 + i)) (by omega) ?_ ?_ hc'
      · rw [show a + 31 + i + 1 = a + 31 + (i + 1) from by omega, show 30 + i + 1 = 30 + (i + 1) from by omega, show 5190 + 2 * i + 2 = 5190 + 2 * (i + 1) from by omega]
        exact this
      · obtain ⟨m0, m1, m2, m3, m4⟩ := hM
        refine ⟨?_, fun k hk => by rw [gR_pR, if_neg (by omega)]; exact m1 k hk, fun j hj => ⟨(m2 j hj).1.of (fun q q1 q2 => uS_ne (by omega)), by rw [gR_pR, if_neg (by omega)]; exact (m2 j hj).2.1, (m2 j hj).2.2.of (fun k => by rw [gR_pR, if_neg (by omega)])⟩, fun j hj => ?_, fun j hj => absurd hj (Nat.not_lt_zero _)⟩
        · simp only [uS_ne (show a ≠ a + 31 + i by omega), uS_ne (show a + 1 ≠ a + 31 + i by omega), uS_ne (show a + 2 ≠ a + 31 + i by omega), uS_ne (show a + 3 ≠ a + 31 + i by omega), uS_ne (show a + 4 ≠ a + 31 + i by omega), uS_ne (show a + 5 ≠ a + 31 + i by omega), uS_ne (show a + 6 ≠ a + 31 + i by omega), uS_ne (show a + 7 ≠ a + 31 + i by omega), uS_ne (show a + 8 ≠ a + 31 + i by omega), uS_ne (show a + 9 ≠ a + 31 + i by omega), uS_ne (show a + 10 ≠ a + 31 + i by omega)]
          exact m0
        · by_cases hji : j = i
          · subst hji
            exact ⟨uS_at, by rw [gR_pR, if_pos ⟨rfl, rfl⟩]⟩
          · exact ⟨by rw [uS_ne (by omega)]; exact (m3 j (by omega)).1, by rw [gR_pR, if_neg (by omega)]; exact (m3 j (by omega)).2⟩
      · exact (hz.up (z' := a + 31 + (i + 1)) (by omega)).pR (by omega) _ _
theorem mX2_83 {a : Nat} {S0 : Sh} {h0 : Hp} {Q : Sh → Nat → Hp → Prop} (q : ∀ (S' : Sh) (h' : Hp), MI a 4 100 14 S' h' → Fz h' (a + 145) → Cn a S0 S' h0 h' → Q S' (a + 145) h') :
    ∀ (n i : Nat) (S : Sh) (h : Hp), i + n = 4 → MI a i 0 0 S h → Fz h (a + 11 + 5 * i) → Cn a S0 S h0 h → wX2_init_83 a Q (n + 1) S (a + 11 + 5 * i) (10 + 5 * i) (334 + 1214 * i) h (nI i)
  | 0, i, S, h, hi, hM, hz, hc => by
    have e : i = 4 := by omega
    subst e
    show wX2_init_83b a Q _ S _ _ _ h _
    unfold wX2_init_83b
    refine ⟨fun _ => ?_, fun g => absurd (show (4 : Int32) ≤ nI 4 by decide) g⟩
    unfold wX2_init_j107
    exact ⟨101, mX2_109 q 100 0 S h rfl hM hz hc⟩
  | n + 1, i, S, h, hi, hM, hz, hc => by
    show wX2_init_83b a Q (wX2_init_83 a Q (n + 1)) S _ _ _ h _
    unfold wX2_init_83b
    refine ⟨fun g => absurd g (nI_ge (b := 4) (by omega) (by decide)), fun _ => ?_⟩
    have hR9 : gR h a 5 = a + 6 := hM.2.1 5 (by omega)
    refine ⟨by rw [hM.1.1], hz.h0 (Nat.le_refl _), by omega, by omega, by omega, by omega, by rw [uS_at]; decide, ?_⟩
    refine mX0_init uS_at (hz.up (by omega)) (fun S' h' hES hER hF hC => ?_)
    have hS' : ∀ b, b < a + 11 + 5 * i → S' b = S b := fun b hb => (hC.1 b (by omega)).trans (uS_ne (by omega))
    refine ⟨?_, ?_, ?_⟩
    · rw [hR9]
      exact inA_of (by rw [hS' _ (by omega)]; exact hM.1.2.2.2.2.2.2.1) (by omega) (by decide)
    · rw [hC.1 _ (Nat.le_refl _), uS_at]
    · rw [hR9, ix_nI (by omega), nI_1]
      have hc' : Cn a S0 S' h0 (pR h' (a + 6) i (a + 11 + 5 * i)) := ((hc.uS (by omega) (1, 0)).tr hC (by omega)).pR (by omega) _ _
      have := mX2_83 q n (i + 1) S' (pR h' (a + 6) i (a + 11 + 5 * i)) (by omega) ?_ ?_ hc'
      · rw [show a + 11 + 5 * i + 5 = a + 11 + 5 * (i + 1) from by omega, show 10 + 5 * i + 5 = 10 + 5 * (i + 1) from by omega, show 334 + 1214 * i + 1214 = 334 + 1214 * (i + 1) from by omega]
        exact this
      · obtain ⟨m0, m1, m2, m3, m4⟩ := hM
        have hG : ∀ b, b < a + 11 + 5 * i → ∀ j, gR h' b j = gR h b j := fun b hb j => hC.2.2.2 b hb j
        refine ⟨?_, fun k hk => by rw [gR_pR, if_neg (by omega), hG _ (by omega)]; exact m1 k hk, fun j hj => ?_, fun j hj => absurd hj (Nat.not_lt_zero _), fun j hj => absurd hj (Nat.not_lt_zero _)⟩
        · rw [hS' a (by omega), hS' (a + 1) (by omega), hS' (a + 2) (by omega), hS' (a + 3) (by omega), hS' (a + 4) (by omega), hS' (a + 5) (by omega), hS' (a + 6) (by omega), hS' (a + 7) (by omega), hS' (a + 8) (by omega), hS' (a + 9) (by omega), hS' (a + 10) (by omega)]
          exact m0
        · by_cases hji : j = i
          · subst hji
            exact ⟨hES, by rw [gR_pR, if_pos ⟨rfl, rfl⟩], hER.of (fun k => by rw [gR_pR, if_neg (by omega)])⟩
          · exact ⟨(m2 j (by omega)).1.of (fun q q1 q2 => hS' q (by omega)), by rw [gR_pR, if_neg (by omega), hG _ (by omega)]; exact (m2 j (by omega)).2.1, (m2 j (by omega)).2.2.of (fun k => by rw [gR_pR, if_neg (by omega), hG _ (by omega)])⟩
      · exact (hF.up (z' := a + 11 + 5 * (i + 1)) (by omega)).pR (by omega) _ _
theorem MI.ms {a : Nat} {S : Sh} {h : Hp} (H : MI a 4 100 14 S h) : MS S a ∧ MR h a := by
  obtain ⟨⟨a0, a1, a2, a3, a4, a5, a6, a7, a8, a9, a10⟩, m1, m2, m3, m4⟩ := H
  exact ⟨⟨a0, a1, a2, a3, a4, a5, a6, a7, a8, a9, a10, fun e he => (m2 e he).1, fun s hs => (m3 s hs).1, fun i hi => (m4 i hi).1⟩, m1, fun e he => (m2 e he).2, fun s hs => (m3 s hs).2, fun i hi => (m4 i hi).2⟩
