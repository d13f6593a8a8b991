/-! THE JUDGE -/
def Vf (h : Hp) (v : Nat) (f : Fo) : Prop := gI h v 1 = nI f.1 ∧ (f.1 ≠ 0 → gI h v 2 = nI f.2.1 ∧ gI h v 3 = nI f.2.2.1 ∧ gI h v 4 = nI f.2.2.2)
/-- the judge at J, at the machine m of the model at D, the verdict at v -/
def Jd (A : Ab) (S : Sh) (h : Hp) (J D m v : Nat) : Prop :=
  S J = (2, 0) ∧ S (J + 1) = (8, 0) ∧ S v = (10, 0) ∧ S D = (4, 0) ∧ S (D + 1) = (25, 3) ∧ gR h J 0 = J + 1 ∧ gR h J 1 = D ∧ gR h J 2 = D + 6 + 145 * m ∧ gR h J 3 = v ∧ gI h J 4 = nI m ∧
  gR h D 0 = D + 1 ∧ (∀ k, k < 3 → gR h (D + 1) k = D + 6 + 145 * k) ∧ m < 3 ∧ Cm A S h (D + 6 + 145 * m) m ∧ (0 < m → Cm A S h (D + 6 + 145 * (m - 1)) (m - 1)) ∧ (J + 1 < D ∨ D + 441 ≤ J) ∧ (∃ i, i < 14 ∧ v = D + 6 + 145 * m + 131 + i)
/-- all but the image and the verdict is as it was -/
abbrev Jf (J v : Nat) (h h' : Hp) : Prop := Sm (fun b => b ≠ J + 1 ∧ b ≠ v) h h'
theorem Jd.of {A : Ab} {S : Sh} {h h' : Hp} {J D m v : Nat} (H : Jd A S h J D m v) (s : Jf J v h h') : Jd A S h' J D m v := by
  obtain ⟨h1, h2, h3, h4, h5, h6, h7, h8, h9, h10, h11, h12, h13, h14, h15, h16, i, h17, h18⟩ := H
  refine ⟨h1, h2, h3, h4, h5, ?_, ?_, ?_, ?_, ?_, ?_, fun k hk => ?_, h13, h14.of (s.mono fun b hb => by omega), fun h0 => (h15 h0).of (s.mono fun b hb => by omega), h16, i, h17, h18⟩
  · rw [s.R ⟨by omega, by omega⟩]; exact h6
  · rw [s.R ⟨by omega, by omega⟩]; exact h7
  · rw [s.R ⟨by omega, by omega⟩]; exact h8
  · rw [s.R ⟨by omega, by omega⟩]; exact h9
  · rw [s.I ⟨by omega, by omega⟩]; exact h10
  · rw [s.R ⟨by omega, by omega⟩]; exact h11
  · rw [s.R ⟨by omega, by omega⟩]; exact h12 k hk
theorem Jd.M {A : Ab} {S : Sh} {h : Hp} {J D m v : Nat} (H : Jd A S h J D m v) : Cm A S h (D + 6 + 145 * m) m := H.2.2.2.2.2.2.2.2.2.2.2.2.2.1
theorem Jd.P {A : Ab} {S : Sh} {h : Hp} {J D m v : Nat} (H : Jd A S h J D m v) (h0 : 0 < m) : Cm A S h (D + 6 + 145 * (m - 1)) (m - 1) := H.2.2.2.2.2.2.2.2.2.2.2.2.2.2.1 h0
theorem Jd.j {A : Ab} {S : Sh} {h : Hp} {J D m v : Nat} (H : Jd A S h J D m v) : (S J).1 = 2 ∧ gR h J 0 = J + 1 ∧ gR h J 1 = D ∧ gR h J 2 = D + 6 + 145 * m ∧ gR h J 3 = v ∧ gI h J 4 = nI m ∧ m < 3 := by
  obtain ⟨h1, h2, h3, h4, h5, h6, h7, h8, h9, h10, h11, h12, h13, h14, h15, h16, h17⟩ := H
  exact ⟨by rw [h1], h6, h7, h8, h9, h10, h13⟩
theorem cNote {S : Sh} {h : Hp} {v a s p : Nat} {f : Fo} {Q : Hp → Prop} (hS : S v = (10, 0)) (hf : Vf h v f) (hb : f.1 < 2 ^ 31) (q : ∀ h', Sm (fun b => b ≠ v) h h' → Vf h' v (nt f a s p) → gI h' v 0 = gI h v 0 → Q h') : wX9_note S h v (nI a) (nI s) (nI p) Q := by
  refine ⟨by rw [hS], ?_⟩
  rw [hf.1]
  by_cases h0 : f.1 = 0
  · refine ⟨fun n => absurd (by rw [h0]; rfl) n, fun _ => nm_e (nm_e (nm_e (q _ ((((Sm.rf.pI (by simp) _ _).pI (by simp) _ _).pI (by simp) _ _).pI (by simp) _ _) ?_ ?_)))⟩
    · have e : nt f a s p = (1, a, s, p) := by unfold nt; rw [if_pos h0]
      rw [e]
      refine ⟨?_, fun _ => ?_⟩
      · rw [gI_pI, if_pos ⟨rfl, rfl⟩, gI_pI, if_neg (by omega), gI_pI, if_neg (by omega), gI_pI, if_neg (by omega), hf.1, h0]
        rfl
      · simp [gI_pI]
    · simp [gI_pI]
  · refine ⟨fun _ => q _ (Sm.rf.pI (by simp) _ _) ?_ ?_, fun n => absurd n (nI_ne0 (by omega) (by omega))⟩
    · have e : nt f a s p = (f.1 + 1, f.2) := by unfold nt; rw [if_neg h0]
      rw [e]
      refine ⟨?_, fun _ => ?_⟩
      · rw [gI_pI, if_pos ⟨rfl, rfl⟩, nI_1]
      · simp only [gI_pI]
        rw [if_neg (by omega), if_neg (by omega), if_neg (by omega)]
        exact hf.2 h0
    · rw [gI_pI, if_neg (by omega)]
theorem cPaired {A : Ab} {S : Sh} {h : Hp} {J D m v a s : Nat} {Q : Int32 → Hp → Prop} (H : Jd A S h J D m v) (hs : s < aSz A m) (ha : 0 < m → a < aSz A (m - 1)) (q : Q (bI (aPd A m a s)) h) : wX1_paired S h J (nI a) (nI s) Q := by
  obtain ⟨j0, j1, j2, j3, j4, j5, j6⟩ := H.j
  have C := H.M
  have ws := C.2.2.2.s100
  unfold wX1_paired
  rw [j5, j3]
  refine ⟨j0, ?_⟩
  unfold aPd at q
  by_cases hm0 : m = 0
  · rw [if_pos hm0] at q
    refine br_t (by rw [hm0]; decide) ⟨by rw [C.1.1], ?_⟩
    have hsn := C.2.2.2.sn hs
    rw [C.2.1.k (k := 6) (by omega), ix_nI (by omega), show D + 6 + 145 * m + 1 + 6 = D + 6 + 145 * m + 7 by omega, C.2.2.1.2.2.2.2.2.2.1 s hs, n01 hsn]
    refine ⟨inA_of C.1.2.2.2.2.2.2.2.1 (by omega) (by decide), bI_and _, ?_⟩
    rw [hm0]
    exact q
  · rw [if_neg hm0] at q
    have ha1 := ha (by omega)
    have w1 := (H.P (by omega)).2.2.2.s100
    refine br_f (nI_nle (by omega) (by omega)) ⟨by rw [C.1.1], ?_⟩
    rw [C.2.1.k (k := 7) (by omega), ix_nI (by omega), show D + 6 + 145 * m + 1 + 7 = D + 6 + 145 * m + 8 by omega, C.2.1.2.2.1 s (by omega)]
    have hg : S (D + 6 + 145 * m + 31 + s) = (8, 0) := C.1.2.2.2.2.2.2.2.2.2.2.2.2.1 s (by omega)
    refine ⟨inA_of C.1.2.2.2.2.2.2.2.2.1 (by omega) (by decide), by rw [hg], cHas hg (C.2.2.1.2.2.2.2.2.2.2.1 (by omega) s hs) (by omega) ⟨bI_and _, ?_⟩⟩
    have e : glF A m s a = decide (aGl A m a s = 1) := by unfold glF; rw [decide_eq_true ha1, Bool.true_and]
    rw [e]
    exact q
theorem cLess {A : Ab} {S : Sh} {h : Hp} {J D m v s k : Nat} {Q : Int32 → Hp → Prop} (H : Jd A S h J D m v) (hs : s < aSz A m) (hk : k < aSz A m) (q : Q (bI (!(decide (aVt A m = 0) || decide (aVr A m k < 0) || !decide (aVr A m k < aVr A m s)))) h) : wX1_lessens S h J (nI s) (nI k) Q := by
  obtain ⟨j0, j1, j2, j3, j4, j5, j6⟩ := H.j
  have C := H.M
  have ws := C.2.2.2.s100
  unfold wX1_lessens
  rw [j3]
  refine ⟨j0, by rw [C.1.1], ?_⟩
  rcases C.2.2.1.2.2.2.2.2.1 with ⟨v1, v2⟩ | ⟨v1, v2, v3⟩
  · rw [v2]
    refine br_t rfl ?_
    simpa [v1, bI] using q
  · refine br_f v2 ?_
    rw [C.2.1.k (k := 8) (by omega), ix_nI (by omega), ix_nI (by omega), show D + 6 + 145 * m + 1 + 8 = D + 6 + 145 * m + 9 by omega, v3 s hs, v3 k hk]
    have hS9 : S (D + 6 + 145 * m + 9) = (20, 100) := C.1.2.2.2.2.2.2.2.2.2.1
    refine ⟨inA_of hS9 (by omega) (by decide), ?_⟩
    by_cases h1 : aVr A m k < 0
    · refine br_t h1 ?_
      simpa [v1, h1, bI] using q
    · refine br_f h1 ⟨inA_of hS9 (by omega) (by decide), ?_⟩
      by_cases h2 : aVr A m k < aVr A m s
      · refine br_f (by simpa using h2) ?_
        simpa [v1, h1, h2, bI] using q
      · refine br_t (by simpa using h2) ?_
        simpa [v1, h1, h2, bI] using q
theorem aAn_eq {A : Ab} {m o a t : Nat} (w1 : wfM A (m - 1)) (ho : o < aEm A (m - 1)) : anyF (fun x => glF A m t x && gvS A (m - 1) o a 10 x) 100 0 = aAn A m o a t := by
  have we := w1.ev ho
  have ws := w1.s100
  apply Bool.eq_iff_iff.mpr
  rw [anyF_iff, aAn, anyF_iff]
  constructor
  · rintro ⟨x, -, x2, x3⟩
    rw [Bool.and_eq_true] at x3
    obtain ⟨g1, g2⟩ := x3
    unfold gvS at g2
    obtain ⟨i, -, i2, i3⟩ := (anyF_iff _ 10 0).mp g2
    rw [Bool.and_eq_true] at i3
    obtain ⟨s1, s2, s3⟩ := sF_i i3.1
    have e := of_decide_eq_true i3.2
    unfold gsA at s2
    rw [Bool.and_eq_true] at s2
    unfold glF at g1
    rw [Bool.and_eq_true] at g1
    refine ⟨aFp A (m - 1) o + i, by omega, by unfold aNp; omega, ?_⟩
    rw [s2.1, Bool.true_and]
    unfold glI
    rw [e, nI_clamp (by omega), g1.2, decide_eq_true (nI_n2 (k := x) (by omega))]
    rfl
  · rintro ⟨p, p1, p2, p3⟩
    rw [Bool.and_eq_true] at p3
    unfold aNp at p2
    obtain ⟨c1, c2⟩ := p3
    unfold glI at c2
    rw [Bool.and_eq_true] at c2
    have n2 := of_decide_eq_true c2.1
    rcases aGv_bd w1 o a p with hg | ⟨k, hk, hg⟩
    · exact absurd hg n2
    · rw [hg, nI_clamp (by omega)] at c2
      refine ⟨k, by omega, by omega, ?_⟩
      rw [Bool.and_eq_true]
      refine ⟨by unfold glF; rw [c2.2, decide_eq_true hk]; rfl, ?_⟩
      unfold gvS
      refine (anyF_iff _ 10 0).mpr ⟨p - aFp A (m - 1) o, by omega, by omega, ?_⟩
      have ep : aFp A (m - 1) o + (p - aFp A (m - 1) o) = p := by omega
      rw [ep, hg, decide_eq_true rfl, Bool.and_true]
      unfold sF gsA
      rw [ep, c1, decide_eq_true (show p ≤ aLp A (m - 1) o by omega), decide_eq_true n2]
      rfl
theorem cKeeps {A : Ab} {S : Sh} {h : Hp} {J D m v e a k : Nat} {Q : Int32 → Hp → Prop} (H : Jd A S h J D m v) (he : e < aEm A m) (hk : k < aSz A m) (ha : 0 < m → a < aSz A (m - 1)) (hi : aOe A m e ≠ 0 → stB h (J + 1) (gvS A (m - 1) (aOe A m e - 1) a 10))
    (q : Q (bI (!(if m = 0 then !decide (aSn A 0 k = 1) else if aOe A m e = 0 then !decide (aGl A m a k = 1) else !aAn A m (aOe A m e - 1) a k))) h) : wX1_keeps S h J (D + 6 + 145 * m + 11 + 5 * e) (nI a) (nI k) Q := by
  obtain ⟨j0, j1, j2, j3, j4, j5, j6⟩ := H.j
  have C := H.M
  have ws := C.2.2.2.s100
  obtain ⟨e1, e2, e3, e4, e5⟩ := C.E he
  have we := C.2.2.2.ev he
  unfold wX1_keeps
  rw [j5, j3, j1]
  refine ⟨j0, ?_⟩
  by_cases hm0 : m = 0
  · rw [if_pos hm0] at q
    refine br_t (by rw [hm0]; decide) (cPaired H hk ha ⟨bI_and _, ?_⟩)
    unfold aPd
    rw [if_pos hm0]
    simpa using q
  · rw [if_neg hm0] at q
    refine br_f (nI_nle (by omega) (by omega)) ⟨by rw [e1.1], ?_⟩
    rw [e3.1]
    by_cases ho : aOe A m e = 0
    · rw [if_pos ho] at q
      refine br_t (by unfold aOI; rw [if_pos ho]) (cPaired H hk ha ⟨bI_and _, ?_⟩)
      unfold aPd
      rw [if_neg hm0]
      simpa using q
    · rw [if_neg ho] at q
      have w1 := H.P (by omega)
      have ho1 := we.2.2.2.1 ho
      have w4 := w1.2.2.2.e4
      have hn : aOI A m e ≠ -2 := by unfold aOI; rw [if_neg ho]; exact nI_n2 (by omega)
      refine br_f hn ⟨by rw [C.1.1], ?_⟩
      rw [C.2.1.k (k := 7) (by omega), ix_nI (by omega), show D + 6 + 145 * m + 1 + 7 = D + 6 + 145 * m + 8 by omega, C.2.1.2.2.1 k (by omega)]
      have hg : S (D + 6 + 145 * m + 31 + k) = (8, 0) := C.1.2.2.2.2.2.2.2.2.2.2.2.2.1 k (by omega)
      refine ⟨inA_of C.1.2.2.2.2.2.2.2.2.1 (by omega) (by decide), by rw [hg], cMeets hg H.2.1 (C.2.2.1.2.2.2.2.2.2.2.1 (by omega) k hk) (hi ho) ⟨bI_and _, ?_⟩⟩
      rw [aAn_eq w1.2.2.2 (by omega)]
      simpa using q
