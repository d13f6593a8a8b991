theorem cGs_l {A : Ab} {S : Sh} {h0 : Hp} {J D m v a : Nat} {B2 : Hp → Int32 → Prop} {Q : Hp → Prop} (H0 : Jd A S h0 J D m v) (ha : 0 < m → a < aSz A (m - 1)) (hg : (decide (m = 0) || aGo A (m - 1) a) = true) {F : Fo}
    (q : ∀ h', Sm (fun b => b ≠ v) h0 h' → Vf h' v F → gI h' v 0 = gI h0 v 0 → B2 h' (nI (a + 1))) :
    ∀ (j s : Nat) (f : Fo) (h : Hp), s + j = aSz A m → Sm (fun b => b ≠ v) h0 h → Vf h v f → gI h v 0 = gI h0 v 0 → f.1 + j ≤ 800000 → fdS (fun s _ => gnA A m a s) (aPd A m a) 1 0 a j s f = F → wX1_judgeGoingOn_43 S B2 J (nI a) Q (j + 1) h (nI s)
  | 0, s, f, h, hj, s0, hf, hk, _, hF => by
    have H := H0.of (s0.mono fun b hb => hb.2)
    obtain ⟨j0, j1, j2, j3, j4, j5, j6⟩ := H.j
    have C := H.M
    have ws := C.2.2.2.s100
    show wX1_judgeGoingOn_43b S B2 J (nI a) Q _ h (nI s)
    unfold wX1_judgeGoingOn_43b
    rw [j3, C.2.2.1.2.1, nI_1 a]
    refine ⟨j0, by rw [C.1.1], br_t (nI_le (by omega) (by omega)) ?_⟩
    subst hF
    exact q h s0 hf hk
  | j + 1, s, f, h, hj, s0, hf, hk, hb, hF => by
    have H := H0.of (s0.mono fun b hb => hb.2)
    obtain ⟨j0, j1, j2, j3, j4, j5, j6⟩ := H.j
    have C := H.M
    have ws := C.2.2.2.s100
    have hs : s < aSz A m := by omega
    show wX1_judgeGoingOn_43b S B2 J (nI a) Q (wX1_judgeGoingOn_43 S B2 J (nI a) Q (j + 1)) h (nI s)
    unfold wX1_judgeGoingOn_43b
    rw [j3, C.2.2.1.2.1, nI_1 s]
    refine ⟨j0, by rw [C.1.1], br_f (nI_ge (by omega) (by omega)) (cPaired H hs ha ?_)⟩
    unfold fdS at hF
    have nx := fun f' h' s' hf' hk' hb' hF' => cGs_l (Q := Q) H0 ha hg q j (s + 1) f' h' (by omega) s' hf' hk' hb' hF'
    cases hp : aPd A m a s
    · rw [hp] at hF
      exact br_t rfl (nx f h s0 hf hk (by omega) hF)
    · rw [hp, if_pos rfl] at hF
      rw [j3]
      refine br_f (by decide) ⟨by rw [C.1.1], cAny C hs ?_⟩
      cases hc : aGo A m s
      · refine ⟨fun n => absurd rfl n, fun _ => ?_⟩
        rw [j4]
        have hn : gnA A m a s = true := by unfold gnA; rw [hg, hc]; rfl
        rw [show fdP (fun _ => gnA A m a s) a s 1 0 f = nt f a s 0 by simp [fdP, hn]] at hF
        refine ⟨by rw [H.2.2.1], cNote (p := 0) H.2.2.1 hf (by omega) fun h1 s1 hf1 hk1 => nx _ h1 (s0.tr s1) hf1 (hk1.trans hk) ?_ hF⟩
        rw [nt_le]
        omega
      · refine ⟨fun _ => nx f h s0 hf hk (by omega) ?_, fun n => absurd n (by decide)⟩
        have hn : gnA A m a s = false := by unfold gnA; rw [hc]; simp
        rw [show fdP (fun _ => gnA A m a s) a s 1 0 f = f by simp [fdP, hn]] at hF
        exact hF
theorem cGo_l {A : Ab} {S : Sh} {h0 : Hp} {J D m v : Nat} {Q : Hp → Prop} (H0 : Jd A S h0 J D m v) (q : ∀ h', Sm (fun b => b ≠ v) h0 h' → Vf h' v (aVg A m) → gI h' v 0 = gI h0 v 0 → Q h') :
    ∀ (j a : Nat) (f : Fo) (h : Hp), a + j = aSa A m → Sm (fun b => b ≠ v) h0 h → Vf h v f → gI h v 0 = gI h0 v 0 → f.1 + 100 * j ≤ 700000 → fdA (fun a s _ => gnA A m a s) (aPd A m) 1 0 (aSz A m) j a f = aVg A m → wX1_judgeGoingOn_2 S J Q (j + 1) h (nI a) := by
  intro j
  induction j with
  | zero =>
    intro a f h hj s0 hf hk _ hF
    have H := H0.of (s0.mono fun b hb => hb.2)
    refine ⟨H.j.1, cSA H (br_t (nI_le (by omega) ?_) (q h s0 (by rw [← hF]; exact hf) hk))⟩
    unfold aSa at hj
    split at hj
    · omega
    · have := (H.P (by omega)).2.2.2.s100
      omega
  | succ j ih =>
    intro a f h hj s0 hf hk hb hF
    have H := H0.of (s0.mono fun b hb => hb.2)
    obtain ⟨j0, j1, j2, j3, j4, j5, j6⟩ := H.j
    have C := H.M
    have ws := C.2.2.2.s100
    have hsa : aSa A m ≤ 100 ∧ (0 < m → aSa A m = aSz A (m - 1)) := by
      unfold aSa
      by_cases hm0 : m = 0
      · rw [if_pos hm0]
        exact ⟨by omega, by omega⟩
      · rw [if_neg hm0]
        exact ⟨(H.P (by omega)).2.2.2.s100, fun _ => rfl⟩
    have ha : 0 < m → a < aSz A (m - 1) := fun h0 => by have := hsa.2 h0; omega
    unfold fdA at hF
    have inner : (decide (m = 0) || aGo A (m - 1) a) = true → wX1_judgeGoingOn_j41 S (wX1_judgeGoingOn_2 S J Q (j + 1)) h J (nI a) Q := by
      intro hg
      refine ⟨_, cGs_l H ha hg (fun h2 s2 hf2 hk2 => ?_) (aSz A m) 0 f h (by omega) Sm.rf hf rfl (by omega) rfl⟩
      refine ih (a + 1) _ h2 (by omega) (s0.tr s2) hf2 (hk2.trans hk) ?_ hF
      have h1 := fdS_le (P := fun s _ => gnA A m a s) (K := aPd A m a) (np := 1) (fp := 0) (a := a) (aSz A m) 0 f
      omega
    show wX1_judgeGoingOn_2b S J Q (wX1_judgeGoingOn_2 S J Q (j + 1)) h (nI a)
    refine ⟨j0, cSA H (br_f (nI_ge (by omega) (by omega)) ?_)⟩
    rw [j5, j2]
    by_cases hm0 : m = 0
    · exact br_t (by rw [hm0]; decide) (inner (by simp [hm0]))
    · have P := H.P (by omega)
      have hD0 : gR h D 0 = D + 1 := H.2.2.2.2.2.2.2.2.2.2.1
      have hD1 : gR h (D + 1) (m - 1) = D + 6 + 145 * (m - 1) := H.2.2.2.2.2.2.2.2.2.2.2.1 (m - 1) (by omega)
      refine br_f (nI_nle (by omega) (by omega)) ⟨by rw [H.2.2.2.1], ?_⟩
      rw [hD0, show nI m - 1 = nI (m - 1) from n_sub (b := 1) (by omega), ix_nI (by omega), hD1]
      refine ⟨inA_of H.2.2.2.2.1 (by omega) (by decide), by rw [P.1.1], cAny P (ha (by omega)) ?_⟩
      cases hc : aGo A (m - 1) a
      · refine ⟨fun n => absurd rfl n, fun _ => ?_⟩
        rw [nI_1]
        refine ih (a + 1) f h (by omega) s0 hf hk (by omega) ?_
        rw [fdS_no fun s p => by unfold gnA; rw [hc, decide_eq_false hm0]; rfl] at hF
        exact hF
      · exact ⟨fun _ => inner (by rw [hc, Bool.or_true]), fun n => absurd n (by decide)⟩
theorem cGo {A : Ab} {S : Sh} {h : Hp} {J D m v : Nat} {Q : Hp → Prop} (H : Jd A S h J D m v) (hf : Vf h v (0, 0, 0, 0)) (q : ∀ h', Sm (fun b => b ≠ v) h h' → Vf h' v (aVg A m) → gI h' v 0 = gI h v 0 → Q h') : wX1_judgeGoingOn S h J Q := by
  have hsa : aSa A m ≤ 100 := by
    unfold aSa
    split
    · omega
    · exact (H.P (by omega)).2.2.2.s100
  exact ⟨_, cGo_l H q (aSa A m) 0 (0, 0, 0, 0) h (by omega) Sm.rf hf rfl (by show 0 + _ ≤ _; omega) rfl⟩
theorem cJb {A : Ab} {S : Sh} {h : Hp} {J D m v : Nat} {Q : Hp → Prop} (H : Jd A S h J D m v) (hf : Vf h v (0, 0, 0, 0)) (q : ∀ h', Sm (fun b => b ≠ v) h h' → Vf h' v (aVb A m) → gI h' v 0 = gI h v 0 → Q h') : wX1_judgeBegin S h J Q := by
  obtain ⟨j0, j1, j2, j3, j4, j5, j6⟩ := H.j
  have C := H.M
  have hb := aBe_bd C.2.2.2
  have j36 : ∀ a, (0 < m → a < aSz A (m - 1)) → aB1 A m = a → wX1_judgeBegin_j36 S h J (nI (aBe A m)) (nI a) Q := by
    intro a ha e
    refine ⟨j0, cPaired H hb ha ?_⟩
    unfold aVb at q
    rw [e] at q
    cases hp : aPd A m a (aBe A m)
    · rw [hp] at q
      refine ⟨fun n => absurd rfl n, fun _ => ?_⟩
      rw [j4]
      exact ⟨by rw [H.2.2.1], cNote (p := 0) H.2.2.1 hf (by decide) fun h1 s1 hf1 hk1 => q h1 s1 hf1 hk1⟩
    · rw [hp] at q
      exact ⟨fun _ => q h Sm.rf hf rfl, fun n => absurd n (by decide)⟩
  unfold wX1_judgeBegin
  rw [j3]
  refine ⟨j0, by rw [C.1.1], cBeg C.1 C.2.1 C.2.2.2 C.2.2.1.1 ?_⟩
  rw [j5, j2]
  by_cases hm0 : m = 0
  · exact br_t (by rw [hm0]; decide) (j36 0 (fun h0 => by omega) (by unfold aB1; rw [if_pos hm0]))
  · have P := H.P (by omega)
    have hD0 : gR h D 0 = D + 1 := H.2.2.2.2.2.2.2.2.2.2.1
    have hD1 : gR h (D + 1) (m - 1) = D + 6 + 145 * (m - 1) := H.2.2.2.2.2.2.2.2.2.2.2.1 (m - 1) (by omega)
    refine br_f (nI_nle (by omega) (by omega)) ⟨by rw [H.2.2.2.1], ?_⟩
    rw [hD0, show nI m - 1 = nI (m - 1) from n_sub (b := 1) (by omega), ix_nI (by omega), hD1]
    exact ⟨inA_of H.2.2.2.2.1 (by omega) (by decide), by rw [P.1.1], cBeg P.1 P.2.1 P.2.2.2 P.2.2.1.1 (j36 (aBe A (m - 1)) (fun _ => aBe_bd P.2.2.2) (by unfold aB1; rw [if_neg hm0]))⟩
/-- a duty's cases; the place of its verdict -/
def aV (A : Ab) (m e d : Nat) : Fo := if d = 3 then aVb A m else if d = 4 then aVg A m else aVd A m e d
def slV (e d : Nat) : Nat := if d < 3 then 3 * e + d else 9 + d
theorem aVd_0 {A : Ab} {m e d : Nat} (h : (d = 1 ∧ aOe A m e = 0) ∨ (d = 2 ∧ (m = 0 ∨ aOe A m e ≠ 0))) : aVd A m e d = (0, 0, 0, 0) := by
  unfold aVd
  refine fdA_no (fun a s p => ?_) _ _ _
  rcases h with ⟨h1, h2⟩ | ⟨h1, h2⟩
  · subst h1
    unfold aFl
    rw [if_pos rfl, decide_eq_false (show ¬ aOe A m e ≠ 0 by omega), Bool.false_and, Bool.and_false]
  · subst h1
    unfold aFl
    rw [if_neg (by decide), if_pos rfl]
    rcases h2 with h2 | h2
    · simp [h2]
    · simp [h2]
/-- a machine's verdicts are right, where they are known -/
def Vk (A : Ab) (h : Hp) (a m : Nat) : Prop := ∀ e d, (d < 3 → e < aEm A m) → d < 5 → gI h (a + 131 + slV e d) 0 ≠ 0 → Vf h (a + 131 + slV e d) (aV A m e d)
/-- the judge at J, any machine m -/
def Jb (A : Ab) (S : Sh) (h : Hp) (J D m : Nat) : Prop :=
  S J = (2, 0) ∧ S (J + 1) = (8, 0) ∧ S D = (4, 0) ∧ S (D + 1) = (25, 3) ∧ gR h J 0 = J + 1 ∧ gR h D 0 = D + 1 ∧ (∀ k, k < 3 → gR h (D + 1) k = D + 6 + 145 * k) ∧ m < 3 ∧ Cm A S h (D + 6 + 145 * m) m ∧ (0 < m → Cm A S h (D + 6 + 145 * (m - 1)) (m - 1)) ∧ (J + 1 < D ∨ D + 441 ≤ J)
theorem cCon {A : Ab} {S : Sh} {h : Hp} {J D m v e d : Nat} {Q : Int32 → Hp → Prop} (H : Jd A S h J D m v) (he : e < aEm A m) (hd : d < 3) (q1 : (d = 1 → aOe A m e ≠ 0) ∧ (d = 2 → 0 < m ∧ aOe A m e = 0) → Q 1 h) (q0 : (d = 1 ∧ aOe A m e = 0) ∨ (d = 2 ∧ (m = 0 ∨ aOe A m e ≠ 0)) → Q 0 h) :
    wX1_concerns S h J (nI d) (D + 6 + 145 * m + 11 + 5 * e) Q := by
  obtain ⟨k0, k1, k2, k3, k4, k5, k6⟩ := H.j
  have C1 := H.M
  obtain ⟨v1, v2, v3, v4, v5⟩ := C1.E he
  have wo := (C1.2.2.2.ev he).2.2.2.1
  have hO : aOI A m e = -2 ↔ aOe A m e = 0 := by
    unfold aOI
    by_cases ho : aOe A m e = 0
    · simp [ho]
    · rw [if_neg ho]
      have h1 := wo ho
      have h2 := (H.P h1.1).2.2.2.e4
      exact ⟨fun n => absurd n (nI_n2 (by omega)), fun n => absurd n ho⟩
  have d1 : nI d = 1 ↔ d = 1 := by rw [n_1, nI_eq (by omega) (by omega)]
  have d0 : nI d = 0 ↔ d = 0 := by rw [n_0, nI_eq (by omega) (by omega)]
  have m0 : nI m ≤ 0 ↔ m = 0 := by rw [n_0, nI_leI (by omega) (by omega)]; omega
  unfold wX1_concerns wX1_concerns_j40
  rw [v3.1, k5, hO, d1, d0, m0]
  by_cases hd1 : d = 1
  · refine ⟨fun n => absurd hd1 n, fun _ => ⟨by rw [v1.1], ?_⟩⟩
    by_cases ho : aOe A m e = 0
    · exact br_t ho (q0 (Or.inl ⟨hd1, ho⟩))
    · exact br_f ho (q1 ⟨fun _ => ho, fun n => by omega⟩)
  · refine ⟨fun _ => ?_, fun n => absurd n hd1⟩
    by_cases hd0 : d = 0
    · exact br_t hd0 (q1 ⟨fun n => by omega, fun n => by omega⟩)
    · have hd2 : d = 2 := by omega
      refine br_f hd0 ⟨k0, ?_⟩
      by_cases hm0 : m = 0
      · exact br_t hm0 (q0 (Or.inr ⟨hd2, Or.inl hm0⟩))
      · refine br_f hm0 ⟨by rw [v1.1], ?_⟩
        by_cases ho : aOe A m e = 0
        · exact ⟨fun n => absurd ho n, fun _ => q1 ⟨fun n => by omega, fun _ => ⟨by omega, ho⟩⟩⟩
        · exact ⟨fun _ => q0 (Or.inr ⟨hd2, Or.inr ho⟩), fun n => absurd n ho⟩
theorem cVer {A : Ab} {S : Sh} {h : Hp} {J D m e d : Nat} {xe : Int32} {Q : Nat → Hp → Prop} (H : Jb A S h J D m) (K : Vk A h (D + 6 + 145 * m) m) (he : d < 3 → e < aEm A m ∧ xe = nI e) (hd : d < 5)
    (q : ∀ h', Sm (fun b => b ≠ J ∧ b ≠ J + 1 ∧ b ≠ D + 6 + 145 * m + 131 + slV e d) h h' → (∀ k, k ≠ 4 → gI h' J k = gI h J k) → gR h' J 0 = J + 1 → Vf h' (D + 6 + 145 * m + 131 + slV e d) (aV A m e d) → gI h' (D + 6 + 145 * m + 131 + slV e d) 0 ≠ 0 → Q (D + 6 + 145 * m + 131 + slV e d) h') :
    wX1_verdictOn S h J D (nI m) xe (nI d) Q := by
  obtain ⟨b1, b2, b3, b4, b5, b6, b7, b8, b9, b10, b11⟩ := H
  have w4 := b9.2.2.2.e4
  have hsl : slV e d < 14 := by
    unfold slV
    split
    · rename_i h3
      have := (he h3).1
      omega
    · omega
  refine ⟨by rw [b1], nm_e (nm_e ⟨by rw [b3], ?_⟩)⟩
  have g1 : ∀ (hh : Hp), (∀ b k, b ≠ J → gR hh b k = gR h b k) → gR hh D 0 = D + 1 ∧ gR hh (D + 1) m = D + 6 + 145 * m := fun hh e => ⟨by rw [e _ _ (by omega)]; exact b6, by rw [e _ _ (by omega)]; exact b7 m b8⟩
  have e1 := g1 (pI (pR h J 1 D) J 4 (nI m)) (fun b k hb => by rw [gR_pI, gR_pR, if_neg (by omega)])
  rw [e1.1, ix_nI (by omega), e1.2]
  refine ⟨inA_of b4 (by omega) (by decide), nm_e ?_⟩
  generalize eh : pR (pI (pR h J 1 D) J 4 (nI m)) J 2 (D + 6 + 145 * m) = h17
  have s17 : Sm (fun b => b ≠ J) h h17 := by
    rw [← eh]
    exact ((Sm.rf.pR (by simp) _ _).pI (by simp) _ _).pR (by simp) _ _
  have r17 : gR h17 J 0 = J + 1 ∧ gR h17 J 1 = D ∧ gR h17 J 2 = D + 6 + 145 * m ∧ gI h17 J 4 = nI m ∧ ∀ k, k ≠ 4 → gI h17 J k = gI h J k := by
    rw [← eh]
    refine ⟨?_, ?_, ?_, ?_, fun k hk => ?_⟩
    · rw [gR_pR, if_neg (by omega), gR_pI, gR_pR, if_neg (by omega)]; exact b5
    · rw [gR_pR, if_neg (by omega), gR_pI, gR_pR, if_pos ⟨rfl, rfl⟩]
    · rw [gR_pR, if_pos ⟨rfl, rfl⟩]
    · rw [gI_pR, gI_pI, if_pos ⟨rfl, rfl⟩]
    · rw [gI_pR, gI_pI, if_neg (by omega), gI_pR]
  have C17 := b9.of (s17.mono fun b hb => by omega)
  have hv : S (D + 6 + 145 * m + 131 + slV e d) = (10, 0) := C17.1.2.2.2.2.2.2.2.2.2.2.2.2.2 _ hsl
  have hrv : gR h17 (D + 6 + 145 * m + 10) (slV e d) = D + 6 + 145 * m + 131 + slV e d := C17.2.1.2.2.2 _ hsl
  have j68 : ∀ y, y = nI (slV e d) → wX1_verdictOn_j68 S h17 J xe (nI d) J (D + 6 + 145 * m + 10) y Q := by
    intro y hy
    subst hy
    unfold wX1_verdictOn_j68
    rw [ix_nI (by omega), hrv]
    refine ⟨inA_of C17.1.2.2.2.2.2.2.2.2.2.2.1 hsl (by decide), by rw [b1], nm_e ⟨by rw [b1], ?_⟩⟩
    generalize eh2 : pR h17 J 3 (D + 6 + 145 * m + 131 + slV e d) = h69
    have s69 : Sm (fun b => b ≠ J) h h69 := by
      rw [← eh2]
      exact s17.pR (by simp) _ _
    have r69 : gR h69 J 3 = D + 6 + 145 * m + 131 + slV e d := by
      rw [← eh2, gR_pR, if_pos ⟨rfl, rfl⟩]
    have i69 : ∀ k, k ≠ 4 → gI h69 J k = gI h J k := fun k hk => by
      rw [← eh2, gI_pR]
      exact r17.2.2.2.2 k hk
    have r690 : gR h69 J 0 = J + 1 := by
      rw [← eh2, gR_pR, if_neg (by omega)]
      exact r17.1
    have HJ : Jd A S h69 J D m (D + 6 + 145 * m + 131 + slV e d) := by
      refine ⟨b1, b2, hv, b3, b4, r690, ?_, ?_, r69, ?_, ?_, fun k hk => ?_, b8, b9.of (s69.mono fun b hb => by omega), fun h0 => (b10 h0).of (s69.mono fun b hb => by omega), b11, slV e d, hsl, rfl⟩
      · rw [← eh2, gR_pR, if_neg (by omega)]; exact r17.2.1
      · rw [← eh2, gR_pR, if_neg (by omega)]; exact r17.2.2.1
      · rw [← eh2, gI_pR]; exact r17.2.2.2.1
      · rw [s69.R (by omega)]; exact b6
      · rw [s69.R (by omega)]; exact b7 k hk
    rw [r69]
    refine ⟨by rw [hv], ?_⟩
    by_cases hk : gI h69 (D + 6 + 145 * m + 131 + slV e d) 0 = 0
    · refine br_t hk ⟨by rw [hv], nm_e ?_⟩
      generalize eh3 : pI (pI h69 (D + 6 + 145 * m + 131 + slV e d) 0 0) (D + 6 + 145 * m + 131 + slV e d) 1 0 = h91
      have s91 : Sm (fun b => b ≠ D + 6 + 145 * m + 131 + slV e d) h69 h91 := by
        rw [← eh3]
        exact (Sm.rf.pI (by simp) _ _).pI (by simp) _ _
      have f91 : Vf h91 (D + 6 + 145 * m + 131 + slV e d) (0, 0, 0, 0) := by
        rw [← eh3]
        exact ⟨by rw [gI_pI, if_pos ⟨rfl, rfl⟩]; rfl, fun n => absurd rfl n⟩
      have HJ1 := HJ.of (s91.mono fun b hb => hb.2)
      obtain ⟨k0, k1, k2, k3, k4, k5, k6⟩ := HJ1.j
      have fin : ∀ h', Jf J (D + 6 + 145 * m + 131 + slV e d) h91 h' → Vf h' (D + 6 + 145 * m + 131 + slV e d) (aV A m e d) → (S (gR h' J 3)).1 = 10 ∧ ∀ h158 : Hp, h158 = pI h' (gR h' J 3) 0 1 → Q (gR h158 J 3) h158 := by
        intro h' s' f'
        rw [s'.R ⟨by omega, by omega⟩, k4]
        refine ⟨by rw [hv], nm_e ?_⟩
        rw [gR_pI, s'.R ⟨by omega, by omega⟩, k4]
        refine q _ (((s69.mono fun b hb => hb.1).tr ((s91.mono fun b hb => hb.2.2).tr (s'.mono fun b hb => ⟨hb.2.1, hb.2.2⟩))).pI (by simp) _ _) (fun k hk => ?_) ?_ ⟨?_, fun n => ?_⟩ ?_
        · rw [gI_pI, if_neg (by omega), s'.I ⟨by omega, by omega⟩, s91.I (by omega)]
          exact i69 k hk
        · rw [gR_pI, s'.R ⟨by omega, by omega⟩]
          exact k1
        · rw [gI_pI, if_neg (by omega)]
          exact f'.1
        · rw [gI_pI, if_neg (by omega), gI_pI, if_neg (by omega), gI_pI, if_neg (by omega)]
          exact f'.2 n
        · rw [gI_pI, if_pos ⟨rfl, rfl⟩]
          decide
      rw [show (3 : Int32) = nI 3 from rfl, show (4 : Int32) = nI 4 from rfl, nI_eq (by omega) (by omega), nI_eq (by omega) (by omega)]
      by_cases h3 : d = 3
      · refine ⟨fun n => absurd h3 n, fun _ => cJb HJ1 f91 fun h' s' f' _ => fin h' (s'.mono fun b hb => hb.2) ?_⟩
        unfold aV
        rw [if_pos h3]
        exact f'
      · refine ⟨fun _ => ?_, fun n => absurd n h3⟩
        by_cases h4 : d = 4
        · refine ⟨fun n => absurd h4 n, fun _ => cGo HJ1 f91 fun h' s' f' _ => fin h' (s'.mono fun b hb => hb.2) ?_⟩
          unfold aV
          rw [if_neg h3, if_pos h4]
          exact f'
        · refine ⟨fun _ => ?_, fun n => absurd n h4⟩
          obtain ⟨he1, he2⟩ := he (by omega)
          subst he2
          have eV : aV A m e d = aVd A m e d := by unfold aV; rw [if_neg h3, if_neg h4]
          rw [eV] at fin
          have C1 := HJ1.M
          obtain ⟨v1, v2, v3, v4, v5⟩ := C1.E he1
          have eE : gR h91 (gR h91 (gR h91 J 2) 5) (ix (nI e)) = D + 6 + 145 * m + 11 + 5 * e := by
            rw [k3, C1.2.1.k (k := 5) (by omega), show D + 6 + 145 * m + 1 + 5 = D + 6 + 145 * m + 6 by omega, ix_nI (by omega), v4]
          have eI : inA S (gR h91 (gR h91 J 2) 5) 24 (nI e) := by
            rw [k3, C1.2.1.k (k := 5) (by omega), show D + 6 + 145 * m + 1 + 5 = D + 6 + 145 * m + 6 by omega]
            exact inA_of C1.1.2.2.2.2.2.2.1 (by omega) (by decide)
          have e3 : (S (gR h91 J 2)).1 = 3 := by rw [k3, C1.1.1]
          refine ⟨e3, eI, ?_⟩
          rw [eE]
          refine cCon HJ1 he1 (by omega) (fun c1 => br_f (by decide) ⟨e3, eI, ?_⟩) (fun c0 => br_t rfl (fin h91 Sm.rf (by rw [aVd_0 c0]; exact f91)))
          rw [eE]
          exact cJe HJ1 he1 (by omega) c1.1 c1.2 f91 fun h' s' f' _ => fin h' s' f'
    · refine br_f hk (q h69 (s69.mono fun b hb => hb.1) i69 r690 ?_ hk)
      have e0 : ∀ k, gI h69 (D + 6 + 145 * m + 131 + slV e d) k = gI h (D + 6 + 145 * m + 131 + slV e d) k := fun k => s69.I (by omega) k
      have := K e d (fun h3 => (he h3).1) hd (by rw [← e0]; exact hk)
      unfold Vf at this ⊢
      rw [e0, e0, e0, e0]
      exact this
  have j37 : ∀ y, (y = 0 ↔ d < 3) → wX1_verdictOn_j37 S h17 J xe (nI d) y Q := by
    intro y hy
    unfold wX1_verdictOn_j37
    rw [r17.2.2.1, C17.2.1.k (k := 9) (by omega), show D + 6 + 145 * m + 1 + 9 = D + 6 + 145 * m + 10 by omega]
    refine ⟨by rw [b1], by rw [C17.1.1], fun n => j68 _ ?_, fun n => j68 _ ?_⟩
    · have h3 := hy.mp n
      obtain ⟨he1, he2⟩ := he h3
      rw [he2, n_3, nI_mul, nI_add]
      unfold slV
      rw [if_pos h3, Nat.mul_comm]
    · have h3 : ¬ d < 3 := fun q => n (hy.mpr q)
      rw [show (12 : Int32) = nI 12 from rfl, n_3, nI_add, n_sub (by omega)]
      unfold slV
      rw [if_neg h3]
      congr 1
      omega
  rw [show (3 : Int32) = nI 3 from rfl, show (4 : Int32) = nI 4 from rfl, nI_eq (by omega) (by omega), nI_eq (by omega) (by omega)]
  by_cases h3 : d = 3
  · exact br_t h3 (j37 1 ⟨fun n => absurd n (by decide), fun n => by omega⟩)
  · refine br_f h3 ?_
    by_cases h4 : d = 4
    · exact ⟨fun n => absurd h4 n, fun _ => j37 1 ⟨fun n => absurd n (by decide), fun n => by omega⟩⟩
    · exact ⟨fun _ => j37 0 ⟨fun _ => by omega, fun _ => rfl⟩, fun n => absurd n h4⟩
