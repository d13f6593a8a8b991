theorem fdS_no {P : Nat → Nat → Bool} {K : Nat → Bool} {np fp a : Nat} (hP : ∀ s p, P s p = false) : ∀ (j s : Nat) (f : Fo), fdS P K np fp a j s f = f
  | 0, _, _ => rfl
  | j + 1, s, f => by
    unfold fdS
    rw [fdP_no np fp f (fun k _ _ => hP s k)]
    have : (if K s = true then f else f) = f := by split <;> rfl
    rw [this]
    exact fdS_no hP j (s + 1) f
theorem fdA_no {P : Nat → Nat → Nat → Bool} {K : Nat → Nat → Bool} {np fp sz : Nat} (hP : ∀ a s p, P a s p = false) : ∀ (j a : Nat) (f : Fo), fdA P K np fp sz j a f = f
  | 0, _, _ => rfl
  | j + 1, a, f => by
    unfold fdA
    rw [fdS_no (hP a)]
    exact fdA_no hP j (a + 1) f
theorem cJs_l {A : Ab} {S : Sh} {h0 : Hp} {J D m v e d a : Nat} {B2 : Hp → Int32 → Prop} {Q : Hp → Prop} (H0 : Jd A S h0 J D m v) (he : e < aEm A m) (ha : 0 < m → a < aSz A (m - 1)) (hd : d < 3)
    (c0 : d = 0 → aOe A m e ≠ 0 → stB h0 (J + 1) (gvS A (m - 1) (aOe A m e - 1) a 10)) (c1 : d = 1 → ∀ s p, aFl A m e 1 a s p = true) (c2 : d = 2 → 0 < m ∧ aOe A m e = 0) {F : Fo}
    (q : ∀ h', Sm (fun b => b ≠ v) h0 h' → Vf h' v F → gI h' v 0 = gI h0 v 0 → B2 h' (nI (a + 1))) :
    ∀ (j s : Nat) (f : Fo) (h : Hp), s + j = aSz A m → Sm (fun b => b ≠ v) h0 h → Vf h v f → gI h v 0 = gI h0 v 0 → f.1 + 10 * j ≤ 800000 → fdS (fun s p => cbA A m e s p && aFl A m e d a s p) (aPd A m a) (aNp A m e) (aFp A m e) a j s f = F →
      wX1_judgeEvent_102 S B2 J (D + 6 + 145 * m + 11 + 5 * e) (nI d) (nI a) Q (j + 1) h (nI s)
  | 0, s, f, h, hj, s0, hf, hk, _, hF => by
    have H := H0.of (s0.mono fun b hb => hb.2)
    obtain ⟨j0, j1, j2, j3, j4, j5, j6⟩ := H.j
    have C := H.M
    have ws := C.2.2.2.s100
    show wX1_judgeEvent_102b S B2 J _ (nI d) (nI a) Q _ h (nI s)
    unfold wX1_judgeEvent_102b
    rw [j3, C.2.2.1.2.1, nI_1 a]
    refine ⟨j0, by rw [C.1.1], br_t (nI_le (by omega) (by omega)) ?_⟩
    subst hF
    exact q h s0 hf hk
  | j + 1, s, f, h, hj, s0, hf, hk, hb, hF => by
    have H := H0.of (s0.mono fun b hb => hb.2)
    obtain ⟨j0, j1, j2, j3, j4, j5, j6⟩ := H.j
    have C := H.M
    have ws := C.2.2.2.s100
    have we := C.2.2.2.ev he
    have hs : s < aSz A m := by omega
    obtain ⟨iv, hiv0, hiv⟩ := H.2.2.2.2.2.2.2.2.2.2.2.2.2.2.2.2
    have hJ := H.2.2.2.2.2.2.2.2.2.2.2.2.2.2.2.1
    show wX1_judgeEvent_102b S B2 J _ (nI d) (nI a) Q (wX1_judgeEvent_102 S B2 J (D + 6 + 145 * m + 11 + 5 * e) (nI d) (nI a) Q (j + 1)) h (nI s)
    unfold wX1_judgeEvent_102b
    rw [j3, C.2.2.1.2.1, nI_1 s]
    refine ⟨j0, by rw [C.1.1], br_f (nI_ge (by omega) (by omega)) (cPaired H hs ha ?_)⟩
    unfold fdS at hF
    have hnp : aNp A m e ≤ 10 := by unfold aNp; omega
    cases hp : aPd A m a s
    · rw [hp] at hF
      exact br_t rfl (cJs_l H0 he ha hd c0 c1 c2 q j (s + 1) f h (by omega) s0 hf hk (by omega) hF)
    · rw [hp, if_pos rfl] at hF
      refine br_f (by decide) (cJp H he hs ha hd (fun d0 ho => (c0 d0 ho).of ⟨s0.J (by omega) _, s0.J (by omega) _⟩) (fun d1 => c1 d1 s) c2 hf (by omega) fun h1 s1 hf1 hk1 => ?_)
      refine cJs_l H0 he ha hd c0 c1 c2 q j (s + 1) _ h1 (by omega) (s0.tr s1) hf1 (hk1.trans hk) ?_ hF
      have := fdP_le (P := fun p => cbA A m e s p && aFl A m e d a s p) (a := a) (s := s) (aNp A m e) (aFp A m e) f
      omega
theorem cJe_l {A : Ab} {S : Sh} {h0 : Hp} {J D m v e d : Nat} {Q : Hp → Prop} (H0 : Jd A S h0 J D m v) (he : e < aEm A m) (hd : d < 3) (c1 : d = 1 → aOe A m e ≠ 0) (c2 : d = 2 → 0 < m ∧ aOe A m e = 0)
    (q : ∀ h', Jf J v h0 h' → Vf h' v (aVd A m e d) → gI h' v 0 = gI h0 v 0 → Q h') :
    ∀ (j a : Nat) (f : Fo) (h : Hp), a + j = aSa A m → Jf J v h0 h → Vf h v f → gI h v 0 = gI h0 v 0 → f.1 + 1000 * j ≤ 700000 → fdA (fun a s p => cbA A m e s p && aFl A m e d a s p) (aPd A m) (aNp A m e) (aFp A m e) (aSz A m) j a f = aVd A m e d →
      wX1_judgeEvent_2 S J (D + 6 + 145 * m + 11 + 5 * e) (nI d) Q (j + 1) h (nI a) := by
  intro j
  induction j with
  | zero =>
    intro a f h hj s0 hf hk _ hF
    have H := H0.of s0
    refine ⟨H.j.1, cSA H (br_t (nI_le (by omega) ?_) (q h s0 (by rw [← hF]; exact hf) hk))⟩
    unfold aSa at hj
    split at hj
    · omega
    · have := (H.P (by omega)).2.2.2.s100
      omega
  | succ j ih =>
    intro a f h hj s0 hf hk hb hF
    have H := H0.of s0
    obtain ⟨j0, j1, j2, j3, j4, j5, j6⟩ := H.j
    have C := H.M
    have ws := C.2.2.2.s100
    have we := C.2.2.2.ev he
    have hnp : aNp A m e ≤ 10 := by unfold aNp; omega
    have hsa : aSa A m ≤ 100 ∧ (0 < m → aSa A m = aSz A (m - 1)) := by
      unfold aSa
      by_cases hm0 : m = 0
      · rw [if_pos hm0]
        exact ⟨by omega, by omega⟩
      · rw [if_neg hm0]
        exact ⟨(H.P (by omega)).2.2.2.s100, fun _ => rfl⟩
    have ha : 0 < m → a < aSz A (m - 1) := fun h0 => by have := hsa.2 h0; omega
    obtain ⟨iv, hiv0, hiv⟩ := H.2.2.2.2.2.2.2.2.2.2.2.2.2.2.2.2
    have hJ := H.2.2.2.2.2.2.2.2.2.2.2.2.2.2.2.1
    unfold fdA at hF
    have inner : ∀ h1, Sm (fun b => b ≠ J + 1) h h1 → (d = 0 → aOe A m e ≠ 0 → stB h1 (J + 1) (gvS A (m - 1) (aOe A m e - 1) a 10)) → (d = 1 → ∀ s p, aFl A m e 1 a s p = true) →
        wX1_judgeEvent_j99 S (wX1_judgeEvent_2 S J (D + 6 + 145 * m + 11 + 5 * e) (nI d) Q (j + 1)) h1 J (D + 6 + 145 * m + 11 + 5 * e) (nI d) (nI a) Q := by
      intro h1 s1 d0 d1
      have s1' : Jf J v h h1 := s1.mono fun b hb => hb.1
      have hf1 : Vf h1 v f := by
        unfold Vf at hf ⊢
        rw [s1.I (by omega), s1.I (by omega), s1.I (by omega), s1.I (by omega)]
        exact hf
      refine ⟨_, cJs_l (H.of s1') he ha hd d0 d1 c2 (fun h2 s2 hf2 hk2 => ?_) (aSz A m) 0 f h1 (by omega) Sm.rf hf1 rfl (by omega) rfl⟩
      refine ih (a + 1) _ h2 (by omega) ((s0.tr s1').tr (s2.mono fun b hb => hb.2)) hf2 ?_ ?_ hF
      · rw [hk2, s1.I (by omega)]
        exact hk
      · have h1 := fdS_le (P := fun s p => cbA A m e s p && aFl A m e d a s p) (K := aPd A m a) (np := aNp A m e) (fp := aFp A m e) (a := a) (aSz A m) 0 f
        have h2 : aSz A m * aNp A m e ≤ 100 * 10 := Nat.mul_le_mul ws hnp
        omega
    have skip : ∀ h1, Sm (fun b => b ≠ J + 1) h h1 → (∀ s p, aFl A m e d a s p = false) → wX1_judgeEvent_2 S J (D + 6 + 145 * m + 11 + 5 * e) (nI d) Q (j + 1) h1 (nI (a + 1)) := by
      intro h1 s1 hno
      have s1' : Jf J v h h1 := s1.mono fun b hb => hb.1
      have hf1 : Vf h1 v f := by
        unfold Vf at hf ⊢
        rw [s1.I (by omega), s1.I (by omega), s1.I (by omega), s1.I (by omega)]
        exact hf
      refine ih (a + 1) f h1 (by omega) (s0.tr s1') hf1 ?_ (by omega) ?_
      · rw [s1.I (by omega)]
        exact hk
      · rw [fdS_no fun s p => by rw [hno s p, Bool.and_false]] at hF
        exact hF
    show wX1_judgeEvent_2b S J _ (nI d) Q (wX1_judgeEvent_2 S J (D + 6 + 145 * m + 11 + 5 * e) (nI d) Q (j + 1)) h (nI a)
    refine ⟨j0, cSA H (br_f (nI_ge (by omega) (by omega)) ?_)⟩
    rw [j1]
    refine ⟨by rw [H.2.1], cClr H.2.1 fun h1 s1 hi1 => ?_⟩
    have H1 := H.of (s1.mono fun b hb => hb.1)
    obtain ⟨k0, k1, k2, k3, k4, k5, k6⟩ := H1.j
    obtain ⟨e1, e2, e3, e4, e5⟩ := H1.M.E he
    refine ⟨by rw [e1.1], ?_⟩
    rw [e3.1, k5, k2]
    by_cases ho : aOe A m e = 0
    · refine br_t (by unfold aOI; rw [if_pos ho]) ?_
      unfold wX1_judgeEvent_j86
      refine ⟨fun _ => inner h1 s1 (fun _ n => absurd ho n) (fun d1 => absurd ho (c1 d1)), fun d1 => ?_⟩
      rw [n_1, nI_eq (by omega) (by omega)] at d1
      exact absurd ho (c1 d1)
    · have ho1 := we.2.2.2.1 ho
      have P := H1.P ho1.1
      have p4 := P.2.2.2.e4
      have hn : aOI A m e ≠ -2 := by unfold aOI; rw [if_neg ho]; exact nI_n2 (by omega)
      obtain ⟨p1, p2, p3, p5, p6⟩ := P.E (e := aOe A m e - 1) (by omega)
      refine br_f hn (br_f (nI_nle (by omega) (by omega)) ⟨by rw [H1.2.2.2.1], ?_⟩)
      have hD0 : gR h1 D 0 = D + 1 := H1.2.2.2.2.2.2.2.2.2.2.1
      have hD1 : gR h1 (D + 1) (m - 1) = D + 6 + 145 * (m - 1) := H1.2.2.2.2.2.2.2.2.2.2.2.1 (m - 1) (by omega)
      have eO : aOI A m e = nI (aOe A m e - 1) := by unfold aOI; rw [if_neg ho]
      rw [hD0, show nI m - 1 = nI (m - 1) from n_sub (b := 1) (by omega), ix_nI (by omega), hD1, P.2.1.k (k := 5) (by omega), eO, ix_nI (by omega), show D + 6 + 145 * (m - 1) + 1 + 5 = D + 6 + 145 * (m - 1) + 6 by omega, p5]
      refine ⟨inA_of H1.2.2.2.2.1 (by omega) (by decide), by rw [P.1.1], inA_of P.1.2.2.2.2.2.2.1 (by omega) (by decide), nm_e ⟨by rw [p1.1], ?_⟩⟩
      rw [k1]
      refine cPutG p1 p2 P.2.2.2 (by omega) p3 (ha ho1.1) H1.2.1 (by omega) hi1 fun h2 s2 hi2 => ?_
      have s12 := s1.tr s2
      have H2 := H1.of (s2.mono fun b hb => hb.1)
      have P2 := H2.P ho1.1
      obtain ⟨q1, q2, q3, q5, q6⟩ := P2.E (e := aOe A m e - 1) (by omega)
      refine cPicks q1 q2 P2.2.2.2 (by omega) q3 (ha ho1.1) ?_
      have hi3 : stB h2 (J + 1) (gvS A (m - 1) (aOe A m e - 1) a 10) := hi2.ext fun x _ => Bool.false_or _
      have hany := pF_any (s := a) P2.2.2.2 (show aOe A m e - 1 < aEm A (m - 1) by omega)
      have hst : ∀ y, y = bI (aAny A (m - 1) (aOe A m e - 1) a) → wX1_judgeEvent_j84 S (wX1_judgeEvent_2 S J (D + 6 + 145 * m + 11 + 5 * e) (nI d) Q (j + 1)) h2 J (D + 6 + 145 * m + 11 + 5 * e) (nI d) (nI a) y Q := by
        intro y hy
        subst hy
        unfold wX1_judgeEvent_j84 wX1_judgeEvent_j86
        have n1 : nI d = 1 ↔ d = 1 := by rw [n_1, nI_eq (by omega) (by omega)]
        by_cases hd1 : d = 1
        · refine ⟨fun n => absurd (n1.mpr hd1) n, fun _ => ?_⟩
          subst hd1
          cases hA : aAny A (m - 1) (aOe A m e - 1) a
          · refine br_t rfl (inner h2 s12 (fun d0 => by omega) fun _ s p => ?_)
            unfold aFl
            rw [if_pos rfl, hA, decide_eq_true ho]
            rfl
          · refine br_f (by decide) ?_
            rw [nI_1]
            refine skip h2 s12 fun s p => ?_
            unfold aFl
            rw [if_pos rfl, hA, Bool.not_true, Bool.and_false]
        · exact ⟨fun _ => inner h2 s12 (fun _ _ => hi3) (fun d1 => absurd d1 hd1), fun n => absurd (n1.mp n) hd1⟩
      cases hA : aAny A (m - 1) (aOe A m e - 1) a
      · rw [hany.mpr hA]
        exact br_t rfl (hst _ (by rw [hA]; rfl))
      · refine br_f (nI_ne0 (Nat.pos_of_ne_zero fun n => ?_) (by have := m10 (pF A (m - 1) (aOe A m e - 1) a); omega)) (hst _ (by rw [hA]; rfl))
        rw [hany.mp n] at hA
        cases hA
theorem cJe {A : Ab} {S : Sh} {h : Hp} {J D m v e d : Nat} {Q : Hp → Prop} (H : Jd A S h J D m v) (he : e < aEm A m) (hd : d < 3) (c1 : d = 1 → aOe A m e ≠ 0) (c2 : d = 2 → 0 < m ∧ aOe A m e = 0) (hf : Vf h v (0, 0, 0, 0))
    (q : ∀ h', Jf J v h h' → Vf h' v (aVd A m e d) → gI h' v 0 = gI h v 0 → Q h') : wX1_judgeEvent S h J (D + 6 + 145 * m + 11 + 5 * e) (nI d) Q := by
  have hsa : aSa A m ≤ 100 := by
    unfold aSa
    split
    · omega
    · exact (H.P (by omega)).2.2.2.s100
  exact ⟨_, cJe_l H he hd c1 c2 q (aSa A m) 0 (0, 0, 0, 0) h (by omega) Sm.rf hf rfl (by show 0 + _ ≤ _; omega) rfl⟩
