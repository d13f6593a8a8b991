theorem fdP_ext {P P' : Nat → Bool} {a s : Nat} : ∀ (j p : Nat) (f : Fo), (∀ k, p ≤ k → k < p + j → P k = P' k) → fdP P a s j p f = fdP P' a s j p f
  | 0, _, _, _ => rfl
  | j + 1, p, f, h => by
    unfold fdP
    rw [h p (by omega) (by omega)]
    exact fdP_ext j (p + 1) _ fun k h1 h2 => h k (by omega) (by omega)
theorem fdP_no {P : Nat → Bool} {a s : Nat} : ∀ (j p : Nat) (f : Fo), (∀ k, p ≤ k → k < p + j → P k = false) → fdP P a s j p f = f
  | 0, _, _, _ => rfl
  | j + 1, p, f, h => by
    unfold fdP
    rw [h p (by omega) (by omega)]
    exact fdP_no j (p + 1) _ fun k h1 h2 => h k (by omega) (by omega)
theorem fdP_add {P : Nat → Bool} {a s : Nat} : ∀ (i j p : Nat) (f : Fo), fdP P a s (i + j) p f = fdP P a s j (p + i) (fdP P a s i p f)
  | 0, j, p, f => by rw [Nat.zero_add]; rfl
  | i + 1, j, p, f => by
    rw [show i + 1 + j = i + j + 1 by omega]
    show fdP P a s (i + j) (p + 1) _ = fdP P a s j (p + (i + 1)) (fdP P a s i (p + 1) _)
    rw [fdP_add i j (p + 1), show p + 1 + i = p + (i + 1) by omega]
/-- the picks of an event that fail, as the class meets them -/
def jP (A : Ab) (m e d a s p : Nat) : Bool := pF A m e s (p - aFp A m e) && aFl A m e d a s p
theorem jP_eq {A : Ab} {m e d a s : Nat} {f : Fo} (w : wfM A m) (he : e < aEm A m) : fdP (jP A m e d a s) a s 10 (aFp A m e) f = fdP (fun p => cbA A m e s p && aFl A m e d a s p) a s (aNp A m e) (aFp A m e) f := by
  have we := w.ev he
  have hn : aNp A m e ≤ 10 := by unfold aNp; omega
  rw [show 10 = aNp A m e + (10 - aNp A m e) by omega, fdP_add, fdP_no (10 - aNp A m e)]
  · refine fdP_ext _ _ _ fun k k1 k2 => ?_
    unfold jP pF
    unfold aNp at k2
    rw [show aFp A m e + (k - aFp A m e) = k by omega, decide_eq_true (show k ≤ aLp A m e by omega), Bool.true_and]
  · intro k k1 k2
    unfold jP pF
    unfold aNp at k1
    rw [show aFp A m e + (k - aFp A m e) = k by omega, decide_eq_false (show ¬ k ≤ aLp A m e by omega), Bool.false_and, Bool.false_and]
theorem sh_n {g v : Nat} (hg : g < 2 ^ 31) (hv : v < 31) : shr32 (nI g) (nI v) = nI (g / 2 ^ v) := by
  unfold shr32
  exact pk_shrN hg _ v (bit_i v hv)
theorem cJp_l {A : Ab} {S : Sh} {h0 : Hp} {J D m v e d a s : Nat} {Q : Hp → Prop} (H0 : Jd A S h0 J D m v) (he : e < aEm A m) (hs : s < aSz A m) (ha : 0 < m → a < aSz A (m - 1)) (hd : d < 3)
    (c0 : d = 0 → aOe A m e ≠ 0 → stB h0 (J + 1) (gvS A (m - 1) (aOe A m e - 1) a 10)) (c1 : d = 1 → ∀ p, aFl A m e 1 a s p = true) (c2 : d = 2 → 0 < m ∧ aOe A m e = 0) {F : Fo}
    (q : ∀ h', Sm (fun b => b ≠ v) h0 h' → Vf h' v F → gI h' v 0 = gI h0 v 0 → Q h') :
    ∀ (j i : Nat) (f : Fo) (h : Hp), i + j = 10 → Sm (fun b => b ≠ v) h0 h → Vf h v f → gI h v 0 = gI h0 v 0 → f.1 + j ≤ 1000000 → fdP (jP A m e d a s) a s j (aFp A m e + i) f = F → wX1_judgePicks_11 S J (D + 6 + 145 * m + 11 + 5 * e) (nI d) (nI a) (nI s) (nI (msk (pF A m e s) 10)) Q (j + 1) h (nI i)
  | 0, i, f, h, hj, s0, hf, hk, _, hF => by
    subst hF
    show wX1_judgePicks_11b _ _ _ _ _ _ _ _ _ _ _
    unfold wX1_judgePicks_11b
    have hQ := q h s0 hf hk
    by_cases hc : shr32 (nI (msk (pF A m e s) 10)) (nI i) = 0
    · exact br_t hc hQ
    · exact br_f hc (br_t (nI_le (a := 10) (by omega) (by omega)) hQ)
  | j + 1, i, f, h, hj, s0, hf, hk, hb, hF => by
    have H := H0.of (s0.mono fun b hb => hb.2)
    obtain ⟨j0, j1, j2, j3, j4, j5, j6⟩ := H.j
    have C := H.M
    have w := C.2.2.2
    have ws := w.s100
    obtain ⟨e1, e2, e3, e4, e5⟩ := C.E he
    have we := w.ev he
    have hv := H.2.2.1
    obtain ⟨iv, hiv0, hiv⟩ := H.2.2.2.2.2.2.2.2.2.2.2.2.2.2.2.2
    have hJ := H.2.2.2.2.2.2.2.2.2.2.2.2.2.2.2.1
    show wX1_judgePicks_11b S J _ (nI d) (nI a) (nI s) (nI (msk (pF A m e s) 10)) Q (wX1_judgePicks_11 S J (D + 6 + 145 * m + 11 + 5 * e) (nI d) (nI a) (nI s) (nI (msk (pF A m e s) 10)) Q (j + 1)) h (nI i)
    unfold wX1_judgePicks_11b
    have hm1 := m10 (pF A m e s)
    have ep : aFp A m e + i - aFp A m e = i := by omega
    unfold fdP at hF
    rw [show jP A m e d a s (aFp A m e + i) = (pF A m e s i && aFl A m e d a s (aFp A m e + i)) by unfold jP; rw [ep], Nat.add_assoc] at hF
    have nx := fun f' h' s' hf' hk' hb' hF' => cJp_l H0 he hs ha hd c0 c1 c2 q j (i + 1) f' h' (by omega) s' hf' hk' hb' hF'
    by_cases hz : msk (pF A m e s) 10 / 2 ^ i = 0
    · refine br_t (by rw [sh_n (by omega) (by omega), hz]; rfl) (q h s0 ?_ hk)
      rw [msk_sh] at hz
      rw [hz i (by omega) (by omega), Bool.false_and] at hF
      rw [fdP_no] at hF
      · rw [← hF]
        exact hf
      · intro k k1 k2
        unfold jP
        rw [hz (k - aFp A m e) (by omega) (by omega), Bool.false_and]
    · refine br_f ?_ (br_f (nI_ge (b := 10) (by omega) (by omega)) ?_)
      · rw [sh_n (by omega) (by omega)]
        exact nI_ne0 (Nat.pos_of_ne_zero hz) (Nat.lt_of_le_of_lt (Nat.div_le_self _ _) (by omega))
      rw [cBit (by omega), nI_1]
      cases hc : pF A m e s i
      · rw [hc, Bool.false_and] at hF
        exact ⟨fun n => absurd rfl n, fun _ => nx f h s0 hf hk (by omega) hF⟩
      · rw [hc, Bool.true_and] at hF
        have hi : aFp A m e + i ≤ aLp A m e := by
          unfold pF at hc
          rw [Bool.and_eq_true] at hc
          exact of_decide_eq_true hc.1
        refine ⟨fun _ => ⟨by rw [e1.1], cAfter e1 e2 w he e3 hs hi ?_⟩, fun n => absurd n (by decide)⟩
        have j95 : ∀ y, y = bI (aFl A m e d a s (aFp A m e + i)) → wX1_judgePicks_j95 S (wX1_judgePicks_11 S J (D + 6 + 145 * m + 11 + 5 * e) (nI d) (nI a) (nI s) (nI (msk (pF A m e s) 10)) Q (j + 1)) h J (D + 6 + 145 * m + 11 + 5 * e) (nI d) (nI a) (nI s) (nI (msk (pF A m e s) 10)) (nI i) y Q := by
          intro y hy
          subst hy
          unfold wX1_judgePicks_j95
          rw [nI_1]
          cases hl : aFl A m e d a s (aFp A m e + i)
          · rw [hl] at hF
            exact br_t rfl (nx f h s0 hf hk (by omega) hF)
          · rw [hl, if_pos rfl] at hF
            refine br_f (by decide) ⟨j0, by rw [e1.1], ?_⟩
            rw [j4, e3.2.1, nI_add]
            refine ⟨by rw [hv], cNote hv hf (by omega) fun h1 s1 hf1 hk1 => nx _ h1 (s0.tr s1) hf1 (hk1.trans hk) ?_ hF⟩
            rw [nt_le]
            omega
        rcases (show d = 0 ∨ d = 1 ∨ d = 2 by omega) with hd0 | hd0 | hd0
        · subst hd0
          refine br_f (by decide) ?_
          unfold aFl at j95
          rw [if_neg (by decide), if_neg (by decide)] at j95
          rcases aGv_bd w e s (aFp A m e + i) with hg | ⟨k, hk', hg⟩
          · refine br_t (by rw [hg]; decide) (j95 _ ?_)
            rw [hg]
            rfl
          · obtain ⟨hg1, hg2⟩ := aGv_k hg (by omega)
            rw [decide_eq_false hg1, Bool.false_or, hg2] at j95
            rw [hg]
            refine br_f (nI_pos (by omega)) ⟨fun _ => ⟨fun n => absurd rfl n, fun _ => ⟨j0, ?_⟩⟩, fun n => absurd n (by decide)⟩
            refine cKeeps H he hk' ha (fun ho => (c0 rfl ho).of ⟨s0.J (by omega) _, s0.J (by omega) _⟩) ?_
            generalize (if m = 0 then !decide (aSn A 0 k = 1) else if aOe A m e = 0 then !decide (aGl A m a k = 1) else !aAn A m (aOe A m e - 1) a k) = B at j95 ⊢
            cases B
            · exact ⟨fun _ => j95 _ rfl, fun n => absurd n (by decide)⟩
            · exact ⟨fun n => absurd rfl n, fun _ => j95 _ rfl⟩
        · subst hd0
          refine br_t rfl (j95 _ ?_)
          rw [c1 rfl]
          rfl
        · subst hd0
          refine br_f (by decide) ?_
          obtain ⟨hm0, ho⟩ := c2 rfl
          unfold aFl at j95
          rw [if_neg (by decide), if_pos rfl, decide_eq_false (show ¬ m = 0 by omega), decide_eq_false (show ¬ aOe A m e ≠ 0 by omega), Bool.or_false, Bool.not_false, Bool.true_and] at j95
          rcases aGv_bd w e s (aFp A m e + i) with hg | ⟨k, hk', hg⟩
          · refine br_t (by rw [hg]; decide) (j95 _ ?_)
            rw [decide_eq_true hg]
            simp [bI]
          · obtain ⟨hg1, hg2⟩ := aGv_k hg (by omega)
            rw [decide_eq_false hg1, hg2, Bool.or_false] at j95
            rw [hg]
            refine br_f (nI_pos (by omega)) ⟨fun n => absurd rfl n, fun _ => ⟨j0, cLess H hs hk' ?_⟩⟩
            generalize (decide (aVt A m = 0) || decide (aVr A m k < 0) || !decide (aVr A m k < aVr A m s)) = B at j95 ⊢
            cases B
            · exact br_f (by decide) ⟨fun _ => j95 _ rfl, fun n => absurd n (by decide)⟩
            · exact br_t rfl (j95 _ rfl)
theorem cJp {A : Ab} {S : Sh} {h : Hp} {J D m v e d a s : Nat} {f : Fo} {Q : Hp → Prop} (H : Jd A S h J D m v) (he : e < aEm A m) (hs : s < aSz A m) (ha : 0 < m → a < aSz A (m - 1)) (hd : d < 3)
    (c0 : d = 0 → aOe A m e ≠ 0 → stB h (J + 1) (gvS A (m - 1) (aOe A m e - 1) a 10)) (c1 : d = 1 → ∀ p, aFl A m e 1 a s p = true) (c2 : d = 2 → 0 < m ∧ aOe A m e = 0) (hf : Vf h v f) (hb : f.1 ≤ 900000)
    (q : ∀ h', Sm (fun b => b ≠ v) h h' → Vf h' v (fdP (fun p => cbA A m e s p && aFl A m e d a s p) a s (aNp A m e) (aFp A m e) f) → gI h' v 0 = gI h v 0 → Q h') : wX1_judgePicks S h J (D + 6 + 145 * m + 11 + 5 * e) (nI d) (nI a) (nI s) Q := by
  obtain ⟨e1, e2, e3, e4, e5⟩ := H.M.E he
  rw [← jP_eq H.M.2.2.2 he] at q
  exact ⟨by rw [e1.1], cPicks e1 e2 H.M.2.2.2 he e3 hs ⟨_, cJp_l H he hs ha hd c0 c1 c2 q 10 0 f h rfl Sm.rf hf rfl (by omega) rfl⟩⟩
theorem cSA {A : Ab} {S : Sh} {h : Hp} {J D m v : Nat} {Q : Int32 → Hp → Prop} (H : Jd A S h J D m v) (q : Q (nI (aSa A m)) h) : wX1_statesAhead S h J Q := by
  obtain ⟨j0, j1, j2, j3, j4, j5, j6⟩ := H.j
  have P0 := fun h0 => H.P h0
  obtain ⟨-, -, -, k1, k2, -, -, -, -, -, k3, k4, -⟩ := H
  unfold wX1_statesAhead
  rw [j5, j2]
  refine ⟨j0, ?_⟩
  unfold aSa at q
  by_cases hm0 : m = 0
  · rw [if_pos hm0] at q
    exact br_t (by rw [hm0]; decide) q
  · rw [if_neg hm0] at q
    have P := P0 (by omega)
    refine br_f (nI_nle (by omega) (by omega)) ⟨by rw [k1], ?_⟩
    rw [k3, show nI m - 1 = nI (m - 1) from n_sub (b := 1) (by omega), ix_nI (by omega), k4 (m - 1) (by omega), P.2.2.1.2.1]
    exact ⟨inA_of k2 (by omega) (by decide), by rw [P.1.1], q⟩
