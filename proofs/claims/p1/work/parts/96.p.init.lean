theorem CS_of {S : Sh} {a : Nat} (H : ∀ i, i < 20 → S (a + i) = csL.getD i (0, 0)) : CS S a := by
  refine ⟨H 0 (by omega), H 1 (by omega), H 2 (by omega), H 3 (by omega), H 4 (by omega), H 5 (by omega), H 6 (by omega), H 7 (by omega), H 8 (by omega), H 9 (by omega), H 10 (by omega), H 11 (by omega), H 12 (by omega), H 13 (by omega), H 14 (by omega), H 15 (by omega), H 16 (by omega), H 17 (by omega), H 18 (by omega), H 19 (by omega)⟩
/-- the references within a new object, as they come -/
def crA : List (Nat × Nat × Nat) := [(0, 0, 1)]
def crB : List (Nat × Nat × Nat) := (0, 1, 2) :: ([(2, 0, 3), (2, 1, 8), (3, 0, 4), (3, 1, 5), (3, 2, 6), (3, 3, 7)] ++ crA)
def crC : List (Nat × Nat × Nat) := (0, 2, 9) :: ([(9, 0, 10)] ++ crB)
def crD : List (Nat × Nat × Nat) := (0, 3, 11) :: ([(11, 0, 12), (11, 1, 13)] ++ crC)
def crE : List (Nat × Nat × Nat) := (0, 4, 14) :: ([(14, 0, 15), (14, 1, 16)] ++ crD)
def crF : List (Nat × Nat × Nat) := (0, 5, 17) :: ([(17, 0, 18)] ++ crE)
def crG : List (Nat × Nat × Nat) := (0, 6, 19) :: ([] ++ crF)
theorem CR_of {h : Hp} {a : Nat} (H : ∀ t ∈ crG, gR h (a + t.1) t.2.1 = a + t.2.2) : CR h a :=
  ⟨H (0, 0, 1) (by decide), H (0, 1, 2) (by decide), H (0, 2, 9) (by decide), H (0, 3, 11) (by decide), H (0, 4, 14) (by decide), H (0, 5, 17) (by decide), H (0, 6, 19) (by decide), H (2, 0, 3) (by decide), H (2, 1, 8) (by decide), H (3, 0, 4) (by decide), H (3, 1, 5) (by decide), H (3, 2, 6) (by decide), H (3, 3, 7) (by decide), H (9, 0, 10) (by decide), H (11, 0, 12) (by decide), H (11, 1, 13) (by decide), H (14, 0, 15) (by decide), H (14, 1, 16) (by decide), H (17, 0, 18) (by decide)⟩
theorem mem2 {P : Nat × Nat × Nat → Prop} {x y : Nat × Nat × Nat} (h1 : P x) (h2 : P y) : ∀ t ∈ [x, y], P t := fun t ht => by
  rcases List.mem_cons.mp ht with e | ht
  · rw [e]; exact h1
  · rw [List.mem_singleton.mp ht]; exact h2
/-- a new object of the class -/
theorem mX11_init {K : Nat → Nat} {S : Sh} {h : Hp} {a : Nat} {Q : Sh → Nat → Hp → Prop} (hS : S a = (12, 0)) (hz : Fz h (a + 1)) (hI : ∀ b j, gI h b j = 0) (hJ : ∀ b j, gJ h b j = 0)
    (q : ∀ (S' : Sh) (h' : Hp), CS S' a → CR h' a → DS S' (a + 20) → DR h' (a + 20) → DS S' (a + 461) → DR h' (a + 461) → gR h' a 7 = a + 20 → gR h' a 8 = a + 461 →
      (∀ b j, gI h' b j = if (b = a ∧ (j = 10 ∨ j = 13)) ∨ (b = a + 11 ∧ j = 2) then -1 else 0) → (∀ b j, gJ h' b j = if b = a + 7 then (rsF 72).2 j else 0) → Fz h' (a + 902) → Q S' (a + 902) h') : wX11_init K S (a + 1) h a Q := by
  unfold wX11_init
  have H0 : CIn 1 [] S h a := ⟨fun i hi => by
    have : i = 0 := by omega
    subst this
    exact hS, fun t ht => (by cases ht), hz⟩
  refine ⟨by rw [hS]; decide, hz.h0 (Nat.le_refl _), by omega, by omega, by rw [uS_ne (by omega), hS], nm_e ?_⟩
  have H1 : CIn 2 crA (uS S (a + 1) (21, 600)) (pR h a 0 (a + 1)) a := H0.step (n := 1) (Rn := []) (by decide) (fun b hb => uS_ne (by omega)) (fun i hi => by
    have : i = 0 := by omega
    subst this
    exact uS_at) (fun b _ j => rfl) (fun t ht => (by cases ht)) (hz.up (by omega)) (fun t ht => (by cases ht))
  have I1 : (∀ b j, gI (pR h a 0 (a + 1)) b j = 0) ∧ ∀ b j, gJ (pR h a 0 (a + 1)) b j = 0 := ⟨hI, hJ⟩
  generalize pR h a 0 (a + 1) = h1 at H1 I1 ⊢
  generalize uS S (a + 1) (21, 600) = S1 at H1 ⊢
  clear H0 hS hz hI hJ S h
  rw [show a + 1 + 1 = a + 2 from rfl, show a + 1 + 2 = a + 2 + 1 from rfl]
  refine ⟨H1.2.2.h0 (Nat.le_refl _), by omega, by omega, by omega, by omega, by rw [uS_at]; decide, ?_⟩
  refine mX5_init (a := a + 2) uS_at (H1.2.2.up (by omega)) (fun S2 h2 s2 r2 f2 c1 ci cj cr cg => ?_)
  have H2 : CIn 9 crB S2 (pR h2 a 1 (a + 2)) a := H1.step (k := 2) (n := 7) (jw := 1) (Rn := [(2, 0, 3), (2, 1, 8), (3, 0, 4), (3, 1, 5), (3, 2, 6), (3, 3, 7)]) (by decide) (fun b hb => (c1 b (by omega)).trans (uS_ne (by omega))) (fun i hi => by
      have : i = 0 ∨ i = 1 ∨ i = 2 ∨ i = 3 ∨ i = 4 ∨ i = 5 ∨ i = 6 := by omega
      rcases this with e | e | e | e | e | e | e <;> subst e
      · rw [Nat.add_zero, c1 _ (Nat.le_refl _)]; exact uS_at
      · exact s2.1
      · exact s2.2.1
      · exact s2.2.2.1
      · exact s2.2.2.2.1
      · exact s2.2.2.2.2.1
      · exact s2.2.2.2.2.2) (fun b hb j => cg b hb j) (fun t ht => by
      simp only [List.mem_cons, List.mem_nil_iff, or_false] at ht
      rcases ht with e | e | e | e | e | e <;> subst e
      · exact ⟨by decide, by decide, r2.1⟩
      · exact ⟨by decide, by decide, r2.2.1⟩
      · exact ⟨by decide, by decide, r2.2.2.1⟩
      · exact ⟨by decide, by decide, r2.2.2.2.1⟩
      · exact ⟨by decide, by decide, r2.2.2.2.2.1⟩
      · exact ⟨by decide, by decide, r2.2.2.2.2.2⟩) f2 (by decide)
  have I2 : IJn (pR h2 a 1 (a + 2)) a false := ⟨fun b j => by rw [gI_pR, ci, I1.1]; simp, fun b j => by
    rw [gJ_pR]
    by_cases hb : b = a + 7
    · rw [if_pos hb, hb]; exact cr j
    · rw [if_neg hb, cj b hb]; exact I1.2 b j⟩
  have e12 := c12 (h := pR h2 a 1 (a + 2)) H2 (by decide)
  refine ⟨e12, nm_e ?_⟩
  generalize pR h2 a 1 (a + 2) = h3 at H2 I2 ⊢
  clear s2 r2 f2 c1 ci cj cr cg I1 H1 S1 h1 h2 e12
  rw [show a + 2 + 7 = a + 9 from rfl]
  refine ⟨H2.2.2.h0 (Nat.le_refl _), by omega, by omega, by omega, by omega, by rw [uS_at]; decide, ?_⟩
  refine mX1_init (a := a + 9) uS_at (H2.2.2.up (by omega)) (fun S4 h4 s4 r4 f4 c4 => ?_)
  have H4 : CIn 11 crC S4 (pR h4 a 2 (a + 9)) a := H2.step (k := 9) (n := 2) (jw := 2) (Rn := [(9, 0, 10)]) (by decide) (fun b hb => (c4.1 b (by omega)).trans (uS_ne (by omega))) (fun i hi => by
      have : i = 0 ∨ i = 1 := by omega
      rcases this with e | e <;> subst e
      · rw [Nat.add_zero, c4.1 _ (Nat.le_refl _)]; exact uS_at
      · exact s4) (fun b hb j => c4.2.2.2 b hb j) (fun t ht => by
      rw [List.mem_singleton.mp ht]
      exact ⟨by decide, by decide, r4⟩) f4 (by decide)
  have I4 : IJn (pR h4 a 2 (a + 9)) a false := ⟨fun b j => by rw [gI_pR, c4.2.1]; exact I2.1 b j, fun b j => by rw [gJ_pR, c4.2.2.1]; exact I2.2 b j⟩
  refine ⟨c12 H4 (by decide), nm_e ?_⟩
  generalize pR h4 a 2 (a + 9) = h5 at H4 I4 ⊢
  clear s4 r4 f4 c4 H2 I2 S2 h3 h4
  rw [show a + 9 + 2 = a + 11 from rfl]
  refine ⟨H4.2.2.h0 (Nat.le_refl _), by omega, by omega, by omega, by omega, by rw [uS_at]; decide, ?_⟩
  refine mX10_init (a := a + 11) uS_at (H4.2.2.up (by omega)) (fun S6 h6 s6 r6 f6 c6 => ?_)
  have H6 : CIn 14 crD S6 (pR (pI h6 (a + 11) 2 (-1)) a 3 (a + 11)) a := H4.step (k := 11) (n := 3) (jw := 3) (Rn := [(11, 0, 12), (11, 1, 13)]) (by decide) (fun b hb => (c6.1 b (by omega)).trans (uS_ne (by omega))) (fun i hi => by
      have : i = 0 ∨ i = 1 ∨ i = 2 := by omega
      rcases this with e | e | e <;> subst e
      · rw [Nat.add_zero, c6.1 _ (Nat.le_refl _)]; exact uS_at
      · exact s6.1
      · exact s6.2) (fun b hb j => c6.2.2.2 b hb j) (mem2 ⟨by decide, by decide, r6.1⟩ ⟨by decide, by decide, r6.2⟩) (f6.pI (by omega) _ _) (by decide)
  have I6 : IJn (pR (pI h6 (a + 11) 2 (-1)) a 3 (a + 11)) a true := ⟨fun b j => by rw [gI_pR, gI_pI, c6.2.1, I4.1]; simp, fun b j => by rw [gJ_pR, gJ_pI, c6.2.2.1]; exact I4.2 b j⟩
  refine ⟨c12 H6 (by decide), nm_e ?_⟩
  generalize pR (pI h6 (a + 11) 2 (-1)) a 3 (a + 11) = h7 at H6 I6 ⊢
  clear s6 r6 f6 c6 H4 I4 S4 h5 h6
  rw [show a + 11 + 3 = a + 14 from rfl]
  refine ⟨H6.2.2.h0 (Nat.le_refl _), by omega, by omega, by omega, by omega, by rw [uS_at]; decide, ?_⟩
  refine mX4_init (a := a + 14) uS_at (H6.2.2.up (by omega)) (fun S8 h8 s8 r8 f8 c8 => ?_)
  have H8 : CIn 17 crE S8 (pR h8 a 4 (a + 14)) a := H6.step (k := 14) (n := 3) (jw := 4) (Rn := [(14, 0, 15), (14, 1, 16)]) (by decide) (fun b hb => (c8.1 b (by omega)).trans (uS_ne (by omega))) (fun i hi => by
      have : i = 0 ∨ i = 1 ∨ i = 2 := by omega
      rcases this with e | e | e <;> subst e
      · rw [Nat.add_zero, c8.1 _ (Nat.le_refl _)]; exact uS_at
      · exact s8.1
      · exact s8.2) (fun b hb j => c8.2.2.2 b hb j) (mem2 ⟨by decide, by decide, r8.1⟩ ⟨by decide, by decide, r8.2⟩) f8 (by decide)
  have I8 : IJn (pR h8 a 4 (a + 14)) a true := ⟨fun b j => by rw [gI_pR, c8.2.1]; exact I6.1 b j, fun b j => by rw [gJ_pR, c8.2.2.1]; exact I6.2 b j⟩
  refine ⟨c12 H8 (by decide), nm_e ?_⟩
  generalize pR h8 a 4 (a + 14) = h9 at H8 I8 ⊢
  clear s8 r8 f8 c8 H6 I6 S6 h7 h8
  rw [show a + 14 + 3 = a + 17 from rfl]
  refine ⟨H8.2.2.h0 (Nat.le_refl _), by omega, by omega, by omega, by omega, by rw [uS_at]; decide, ?_⟩
  refine mX6_init (a := a + 17) uS_at (H8.2.2.up (by omega)) (fun Sa ha sa ra fa ca => ?_)
  have Ha : CIn 19 crF Sa (pR ha a 5 (a + 17)) a := H8.step (k := 17) (n := 2) (jw := 5) (Rn := [(17, 0, 18)]) (by decide) (fun b hb => (ca.1 b (by omega)).trans (uS_ne (by omega))) (fun i hi => by
      have : i = 0 ∨ i = 1 := by omega
      rcases this with e | e <;> subst e
      · rw [Nat.add_zero, ca.1 _ (Nat.le_refl _)]; exact uS_at
      · exact sa) (fun b hb j => ca.2.2.2 b hb j) (fun t ht => by
      rw [List.mem_singleton.mp ht]
      exact ⟨by decide, by decide, ra⟩) fa (by decide)
  have Ia : IJn (pR ha a 5 (a + 17)) a true := ⟨fun b j => by rw [gI_pR, ca.2.1]; exact I8.1 b j, fun b j => by rw [gJ_pR, ca.2.2.1]; exact I8.2 b j⟩
  refine ⟨c12 Ha (by decide), nm_e ?_⟩
  generalize pR ha a 5 (a + 17) = hb at Ha Ia ⊢
  clear sa ra fa ca H8 I8 S8 h9 ha
  rw [show a + 17 + 2 = a + 19 from rfl]
  refine ⟨Ha.2.2.h0 (Nat.le_refl _), by omega, by omega, by rw [uS_ne (by omega)]; exact c12 Ha (by decide), nm_e ?_⟩
  have Hc : CIn 20 crG (uS Sa (a + 19) (20, 3)) (pR hb a 6 (a + 19)) a := Ha.step (k := 19) (n := 1) (jw := 6) (Rn := []) (by decide) (fun b hb => uS_ne (by omega)) (fun i hi => by
    have : i = 0 := by omega
    subst this
    exact uS_at) (fun b _ j => rfl) (fun t ht => (by cases ht)) (Ha.2.2.up (by omega)) (by decide)
  have Ic : IJn (pR hb a 6 (a + 19)) a true := Ia
  generalize pR hb a 6 (a + 19) = hc at Hc Ic ⊢
  generalize uS Sa (a + 19) (20, 3) = Sc at Hc ⊢
  clear Ha Ia Sa hb
  rw [show a + 19 + 1 = a + 20 from rfl, show a + 19 + 2 = a + 20 + 1 from rfl]
  refine ⟨Hc.2.2.h0 (Nat.le_refl _), by omega, by omega, by omega, by omega, by rw [uS_at]; decide, ?_⟩
  exact mX11_mod Hc (by decide) Ic (fun S' h' cs cr d1 d2 d3 d4 e7 e8 i j f => q S' h' (CS_of cs) (CR_of cr) d1 d2 d3 d4 e7 e8 i j f)
