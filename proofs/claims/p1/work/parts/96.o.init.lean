theorem c12 {S : Sh} {a : Nat} {k : Nat} {R : List (Nat × Nat × Nat)} {h : Hp} (H : CIn k R S h a) (hk : 0 < k) : (S a).1 = 12 := by
  have := H.1 0 hk
  rw [Nat.add_zero] at this
  rw [this]
  rfl
/-- both models -/
theorem mX11_mod {S : Sh} {h : Hp} {a : Nat} {R : List (Nat × Nat × Nat)} {Q : Sh → Nat → Hp → Prop} (H : CIn 20 R S h a) (hR : ∀ t ∈ R, ¬ (t.1 = 0 ∧ t.2.1 = 7) ∧ ¬ (t.1 = 0 ∧ t.2.1 = 8)) (I : IJn h a true)
    (q : ∀ (S' : Sh) (h' : Hp), (∀ i, i < 20 → S' (a + i) = csL.getD i (0, 0)) → (∀ t ∈ R, gR h' (a + t.1) t.2.1 = a + t.2.2) → DS S' (a + 20) → DR h' (a + 20) → DS S' (a + 461) → DR h' (a + 461) → gR h' a 7 = a + 20 → gR h' a 8 = a + 461 →
      (∀ b j, gI h' b j = if (b = a ∧ (j = 10 ∨ j = 13)) ∨ (b = a + 11 ∧ j = 2) then -1 else 0) → (∀ b j, gJ h' b j = if b = a + 7 then (rsF 72).2 j else 0) → Fz h' (a + 902) → Q S' (a + 902) h') :
    wX3_init (uS S (a + 20) (4, 0)) (a + 20 + 1) h (a + 20) (fun S80 z80 h80 => (S80 a).1 = 12 ∧ ∀ h83 : Hp, h83 = pR h80 a 7 (a + 20) → h0 h83 z80 ∧ 460 + 1 ≤ 901 ∧ 19840 + 7 ≤ 36927 ∧ 461 + 440 ≤ 901 ∧ 19847 + 17080 ≤ 36927 ∧ ((uS S80 z80 (4, 0)) z80).1 ≠ 0 ∧
      wX3_init (uS S80 z80 (4, 0)) (z80 + 1) h83 z80 (fun S91 z91 h91 => (S91 a).1 = 12 ∧ ∀ h94 : Hp, h94 = pR h91 a 8 z80 → ∀ h99 : Hp, h99 = pI h94 a 9 (0 : Int32) → ∀ h104 : Hp, h104 = pI h99 a 10 (-1 : Int32) → ∀ h109 : Hp, h109 = pI h104 a 11 (0 : Int32) → ∀ h114 : Hp, h114 = pI h109 a 12 (0 : Int32) → 901 ≤ 901 ∧ 36927 ≤ 36927 ∧ Q S91 z91 (pI h114 a 13 (-1 : Int32)))) := by
  refine mX3_init (a := a + 20) uS_at (H.2.2.up (by omega)) (fun S1 h1 s1 r1 f1 c1 => ?_)
  have S1o : ∀ b, b < a + 20 → S1 b = S b := fun b hb => (c1.1 b (Nat.le_of_lt hb)).trans (uS_ne (Nat.ne_of_lt hb))
  have H1 : ∀ i, i < 20 → S1 (a + i) = csL.getD i (0, 0) := fun i hi => by rw [S1o _ (by omega)]; exact H.1 i hi
  have R1 : ∀ t ∈ R, gR h1 (a + t.1) t.2.1 = a + t.2.2 := fun t ht => by rw [c1.2.2.2 _ (by have := (H.2.1 t ht).1; omega)]; exact (H.2.1 t ht).2
  have t1 : ∀ t ∈ R, t.1 < 20 := fun t ht => (H.2.1 t ht).1
  have i1 : ∀ b j, gI h1 b j = if b = a + 11 ∧ j = 2 then -1 else 0 := fun b j => by rw [c1.2.1, I.1]; simp
  have j1 : ∀ b j, gJ h1 b j = if b = a + 7 then (rsF 72).2 j else 0 := fun b j => by rw [c1.2.2.1, I.2]
  clear c1 I H S1o
  have e12 : (S1 a).1 = 12 := by
    have := H1 0 (by omega)
    rw [Nat.add_zero] at this
    rw [this]
    rfl
  rw [show a + 20 + 441 = a + 461 by omega] at f1 ⊢
  refine ⟨e12, nm_e ?_⟩
  have f2 : Fz (pR h1 a 7 (a + 20)) (a + 461) := f1.pR (by omega) _ _
  have g2 : ∀ b j, gR (pR h1 a 7 (a + 20)) b j = if b = a ∧ j = 7 then a + 20 else gR h1 b j := fun b j => by rw [gR_pR]
  have i2 : ∀ b j, gI (pR h1 a 7 (a + 20)) b j = if b = a + 11 ∧ j = 2 then -1 else 0 := i1
  have j2 : ∀ b j, gJ (pR h1 a 7 (a + 20)) b j = if b = a + 7 then (rsF 72).2 j else 0 := j1
  generalize pR h1 a 7 (a + 20) = h2 at f2 g2 i2 j2
  refine ⟨f2.h0 (Nat.le_refl _), by omega, by omega, by omega, by omega, by rw [uS_at]; decide, ?_⟩
  refine mX3_init (a := a + 461) uS_at (f2.up (by omega)) (fun S3 h3 s3 r3 f3 c3 => ?_)
  have S3o : ∀ b, b < a + 461 → S3 b = S1 b := fun b hb => (c3.1 b (Nat.le_of_lt hb)).trans (uS_ne (Nat.ne_of_lt hb))
  have i3 : ∀ b j, gI h3 b j = if b = a + 11 ∧ j = 2 then -1 else 0 := fun b j => by rw [c3.2.1, i2]
  have j3 : ∀ b j, gJ h3 b j = if b = a + 7 then (rsF 72).2 j else 0 := fun b j => by rw [c3.2.2.1, j2]
  have g3 : ∀ b, b < a + 461 → ∀ j, gR h3 b j = if b = a ∧ j = 7 then a + 20 else gR h1 b j := fun b hb j => by rw [c3.2.2.2 b hb, g2]
  clear c3 i2 j2 i1 j1 f2 g2
  rw [show a + 461 + 441 = a + 902 by omega] at f3 ⊢
  refine ⟨by rw [S3o a (by omega)]; exact e12, nm_e (nm_e (nm_e (nm_e (nm_e ⟨by omega, by omega, ?_⟩))))⟩
  have gF : ∀ b j, gR (pI (pI (pI (pI (pI (pR h3 a 8 (a + 461)) a 9 0) a 10 (-1)) a 11 0) a 12 0) a 13 (-1)) b j = if b = a ∧ j = 8 then a + 461 else gR h3 b j := fun b j => by
    show gR (pR h3 a 8 (a + 461)) b j = _
    rw [gR_pR]
  have iF : ∀ b j, gI (pI (pI (pI (pI (pI (pR h3 a 8 (a + 461)) a 9 0) a 10 (-1)) a 11 0) a 12 0) a 13 (-1)) b j = if (b = a ∧ (j = 10 ∨ j = 13)) ∨ (b = a + 11 ∧ j = 2) then -1 else 0 := fun b j => by
    rw [gI_pI, gI_pI, gI_pI, gI_pI, gI_pI, gI_pR, i3]
    by_cases cb : b = a
    · subst cb
      by_cases c13 : j = 13
      · subst c13; simp
      · by_cases c12 : j = 12
        · subst c12; simp
        · by_cases c11 : j = 11
          · subst c11; simp
          · by_cases c10 : j = 10
            · subst c10; simp
            · by_cases c9 : j = 9
              · subst c9; simp
              · rw [if_neg (by omega), if_neg (by omega), if_neg (by omega), if_neg (by omega), if_neg (by omega), if_neg (by omega), if_neg (by omega)]
    · rw [if_neg (fun q => cb q.1), if_neg (fun q => cb q.1), if_neg (fun q => cb q.1), if_neg (fun q => cb q.1), if_neg (fun q => cb q.1)]
      by_cases c2 : b = a + 11 ∧ j = 2
      · rw [if_pos c2, if_pos (Or.inr c2)]
      · rw [if_neg c2, if_neg (by omega)]
  have jF : ∀ b j, gJ (pI (pI (pI (pI (pI (pR h3 a 8 (a + 461)) a 9 0) a 10 (-1)) a 11 0) a 12 0) a 13 (-1)) b j = if b = a + 7 then (rsF 72).2 j else 0 := j3
  have fF : Fz (pI (pI (pI (pI (pI (pR h3 a 8 (a + 461)) a 9 0) a 10 (-1)) a 11 0) a 12 0) a 13 (-1)) (a + 902) := (((((f3.pR (by omega) _ _).pI (by omega) _ _).pI (by omega) _ _).pI (by omega) _ _).pI (by omega) _ _).pI (by omega) _ _
  generalize pI (pI (pI (pI (pI (pR h3 a 8 (a + 461)) a 9 0) a 10 (-1)) a 11 0) a 12 0) a 13 (-1) = hF at gF iF jF fF
  refine q S3 hF (fun i hi => by rw [S3o _ (by omega)]; exact H1 i hi) (fun t ht => ?_) (s1.of fun b b1 b2 => S3o b (by omega)) (r1.of fun b b1 b2 k => ?_) s3 (r3.of fun b b1 b2 k => ?_) ?_ ?_ iF jF fF
  · have := t1 t ht
    have := hR t ht
    rw [gF, if_neg (by omega), g3 _ (by omega), if_neg (by omega)]
    exact R1 t ht
  · rw [gF, if_neg (by omega), g3 _ (by omega), if_neg (by omega)]
  · rw [gF, if_neg (by omega)]
  · rw [gF, if_neg (by omega), g3 _ (by omega), if_pos ⟨rfl, rfl⟩]
  · rw [gF, if_pos ⟨rfl, rfl⟩]
