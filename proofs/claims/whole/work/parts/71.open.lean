/-! HOW MANY DUTIES ARE OPEN -/
def fail1 (f : Fo) : Nat := if f.1 = 0 then 0 else 1
def opD (A : Ab) (m e n : Nat) : Nat := sumF (fun d => fail1 (aVd A m e d)) n
def opE (A : Ab) (m n : Nat) : Nat := sumF (fun e => opD A m e 3) n
def opC (A : Ab) (m : Nat) : Nat := opE A m (aEm A m) + fail1 (aVb A m) + fail1 (aVg A m)
theorem fail1_le (f : Fo) : fail1 f ≤ 1 := by unfold fail1; split <;> omega
theorem opD_le (A : Ab) (m e : Nat) : ∀ n, opD A m e n ≤ n
  | 0 => Nat.le_refl _
  | n + 1 => by
    have := opD_le A m e n
    have h1 := fail1_le (aVd A m e n)
    show opD A m e n + fail1 (aVd A m e n) ≤ n + 1
    omega
theorem opE_le (A : Ab) (m : Nat) : ∀ n, opE A m n ≤ 3 * n
  | 0 => Nat.le_refl _
  | n + 1 => by
    have := opE_le A m n
    have h1 := opD_le A m n 3
    show opE A m n + opD A m n 3 ≤ 3 * (n + 1)
    omega
/-- all but the judge and a machine's verdicts is as it was -/
abbrev Vr (J a : Nat) (h h' : Hp) : Prop := Sm (fun b => b ≠ J ∧ b ≠ J + 1 ∧ ¬ (a + 131 ≤ b ∧ b < a + 145)) h h'
theorem Jb.of {A : Ab} {S : Sh} {h h' : Hp} {J D m : Nat} (H : Jb A S h J D m) (s : Vr J (D + 6 + 145 * m) h h') (r : gR h' J 0 = J + 1) : Jb A S h' J D m := by
  obtain ⟨b1, b2, b3, b4, b5, b6, b7, b8, b9, b10, b11⟩ := H
  refine ⟨b1, b2, b3, b4, r, ?_, fun k hk => ?_, b8, b9.of (s.mono fun b hb => by omega), fun h0 => (b10 h0).of (s.mono fun b hb => by omega), b11⟩
  · rw [s.R (by omega)]; exact b6
  · rw [s.R (by omega)]; exact b7 k hk
theorem slV_inj {A : Ab} {m e d e' d' : Nat} (h1 : d < 5) (h2 : d' < 5) (h : slV e d = slV e' d') (w4 : aEm A m ≤ 4) (he : d < 3 → e < aEm A m) (he' : d' < 3 → e' < aEm A m) : aV A m e d = aV A m e' d' := by
  unfold slV at h
  by_cases h3 : d < 3
  · rw [if_pos h3] at h
    have := he h3
    by_cases h3' : d' < 3
    · rw [if_pos h3'] at h
      have : e = e' ∧ d = d' := by omega
      rw [this.1, this.2]
    · rw [if_neg h3'] at h
      omega
  · rw [if_neg h3] at h
    by_cases h3' : d' < 3
    · rw [if_pos h3'] at h
      have := he' h3'
      omega
    · rw [if_neg h3'] at h
      have : d = d' := by omega
      subst this
      unfold aV
      have : d = 3 ∨ d = 4 := by omega
      rcases this with e | e <;> simp [e]
/-- verdictOn, and what stays -/
theorem cVerK {A : Ab} {S : Sh} {h : Hp} {J D m e d : Nat} {xe : Int32} {Q : Nat → Hp → Prop} (H : Jb A S h J D m) (K : Vk A h (D + 6 + 145 * m) m) (he : d < 3 → e < aEm A m ∧ xe = nI e) (hd : d < 5)
    (q : ∀ h', Vr J (D + 6 + 145 * m) h h' → gR h' J 0 = J + 1 → Vk A h' (D + 6 + 145 * m) m → (S (D + 6 + 145 * m + 131 + slV e d)).1 = 10 → Vf h' (D + 6 + 145 * m + 131 + slV e d) (aV A m e d) → Q (D + 6 + 145 * m + 131 + slV e d) h') :
    wX1_verdictOn S h J D (nI m) xe (nI d) Q := by
  have w4 := H.2.2.2.2.2.2.2.2.1.2.2.2.e4
  have hsl : slV e d < 14 := by
    unfold slV
    split
    · rename_i h3
      have := (he h3).1
      omega
    · omega
  have hJ := H.2.2.2.2.2.2.2.2.2.2
  refine cVer H K he hd fun h' s' _ r' f' k' => q h' (s'.mono fun b hb => by omega) r' (fun e2 d2 g1 g2 g3 => ?_) (by rw [H.2.2.2.2.2.2.2.2.1.1.2.2.2.2.2.2.2.2.2.2.2.2.2 _ hsl]) f'
  by_cases hs : slV e2 d2 = slV e d
  · rw [hs, slV_inj g2 hd hs w4 g1 fun h3 => (he h3).1]
    exact f'
  · have hsl2 : slV e2 d2 < 14 := by
      unfold slV
      split
      · rename_i h3
        have := g1 h3
        omega
      · omega
    have hb := H.2.2.2.2.2.2.2.1
    have e0 : ∀ k, gI h' (D + 6 + 145 * m + 131 + slV e2 d2) k = gI h (D + 6 + 145 * m + 131 + slV e2 d2) k := fun k => s'.I (by omega) k
    have := K e2 d2 g1 g2 (by rw [← e0]; exact g3)
    unfold Vf at this ⊢
    rw [e0, e0, e0, e0]
    exact this
theorem fdA_le {P : Nat → Nat → Nat → Bool} {K : Nat → Nat → Bool} {np fp sz : Nat} : ∀ (j a : Nat) (f : Fo), (fdA P K np fp sz j a f).1 ≤ f.1 + j * (sz * np)
  | 0, _, _ => Nat.le_add_right _ _
  | j + 1, a, f => by
    unfold fdA
    refine Nat.le_trans (fdA_le j (a + 1) _) ?_
    have := fdS_le (P := P a) (K := K a) (np := np) (fp := fp) (a := a) sz 0 f
    rw [Nat.add_mul]
    omega
theorem aV_le {A : Ab} {S : Sh} {h : Hp} {J D m e d : Nat} (H : Jb A S h J D m) (hd : d < 5) (he : d < 3 → e < aEm A m) : (aV A m e d).1 ≤ 1000000 := by
  obtain ⟨-, -, -, -, -, -, -, -, b9, b10, -⟩ := H
  have ws := b9.2.2.2.s100
  have hsa : aSa A m ≤ 100 := by
    unfold aSa
    split
    · omega
    · exact (b10 (by omega)).2.2.2.s100
  unfold aV
  split
  · unfold aVb
    split <;> simp
  · split
    · have h1 := fdA_le (P := fun a s _ => gnA A m a s) (K := aPd A m) (np := 1) (fp := 0) (sz := aSz A m) (aSa A m) 0 (0, 0, 0, 0)
      have h2 : aSa A m * (aSz A m * 1) ≤ 100 * 100 := Nat.mul_le_mul hsa (by omega)
      unfold aVg
      show (fdA _ _ _ _ _ _ _ _).1 ≤ _
      have h3 : ((0, 0, 0, 0) : Fo).1 = 0 := rfl
      omega
    · have we := b9.2.2.2.ev (he (by omega))
      have hnp : aNp A m e ≤ 10 := by unfold aNp; omega
      have h1 := fdA_le (P := fun a s p => cbA A m e s p && aFl A m e d a s p) (K := aPd A m) (np := aNp A m e) (fp := aFp A m e) (sz := aSz A m) (aSa A m) 0 (0, 0, 0, 0)
      have h2 : aSz A m * aNp A m e ≤ 100 * 10 := Nat.mul_le_mul ws hnp
      have h4 : aSa A m * (aSz A m * aNp A m e) ≤ 100 * 1000 := Nat.mul_le_mul hsa h2
      unfold aVd
      have h3 : ((0, 0, 0, 0) : Fo).1 = 0 := rfl
      omega
theorem cOp3 {A : Ab} {S : Sh} {h0 : Hp} {J D m : Nat} {Q : Int32 → Hp → Prop} {N : Nat} (q : ∀ h', Vr J (D + 6 + 145 * m) h0 h' → gR h' J 0 = J + 1 → Vk A h' (D + 6 + 145 * m) m → Q (nI N) h') :
    ∀ (j d n : Nat) (h : Hp), d + j = 5 → 3 ≤ d → Jb A S h J D m → Vk A h (D + 6 + 145 * m) m → Vr J (D + 6 + 145 * m) h0 h → n + j ≤ 100 → N = n + (if d ≤ 3 then fail1 (aVb A m) else 0) + (if d ≤ 4 then fail1 (aVg A m) else 0) → wX1_countOpen_67 S J D (nI m) Q (j + 1) h (nI n) (nI d)
  | 0, d, n, h, hj, _, H, K, s0, _, hN => by
    refine br_t (nI_lt (a := 4) (by omega) (by omega)) ?_
    rw [if_neg (by omega), if_neg (by omega)] at hN
    have := q h s0 H.2.2.2.2.1 K
    rw [hN] at this
    exact this
  | j + 1, d, n, h, hj, h3, H, K, s0, hn, hN => by
    show wX1_countOpen_67b S J D (nI m) Q (wX1_countOpen_67 S J D (nI m) Q (j + 1)) h (nI n) (nI d)
    refine br_f (nI_nlt (a := 4) (b := d) (by omega) (by omega)) ⟨by rw [H.1], cVerK (e := 0) H K (fun h => by omega) (by omega) fun h1 s1 r1 K1 k1 f1 => ⟨k1, ?_⟩⟩
    have nx := fun n' hn' hN' => cOp3 q j (d + 1) n' h1 (by omega) (by omega) (H.of s1 r1) K1 (s0.tr s1) hn' hN'
    have hd : d = 3 ∨ d = 4 := by omega
    have eF : N = n + fail1 (aV A m 0 d) + (if d + 1 ≤ 3 then fail1 (aVb A m) else 0) + (if d + 1 ≤ 4 then fail1 (aVg A m) else 0) := by
      rw [hN]
      unfold aV
      rcases hd with e | e <;> subst e <;> simp
    rw [f1.1, nI_1 d]
    have hle := fail1_le (aV A m 0 d)
    by_cases hf : (aV A m 0 d).1 = 0
    · refine br_t (by rw [hf]; decide) ?_
      rw [show nI n + 0 = nI n from Int32.add_zero _]
      refine nx n (by omega) ?_
      rw [eF]
      unfold fail1
      rw [if_pos hf]
      rfl
    · by_cases hp : nI (aV A m 0 d).1 ≤ 0
      · refine absurd hp (nI_nle (by omega) ?_)
        have : (aV A m 0 d).1 ≤ 1000000 := aV_le H (by omega) (fun h => by omega)
        omega
      · refine br_f hp ?_
        rw [nI_1]
        refine nx (n + 1) (by omega) ?_
        rw [eF]
        unfold fail1
        rw [if_neg hf]
theorem cOpD {A : Ab} {S : Sh} {h0 : Hp} {J D m e b : Nat} {B5 : Hp → Int32 → Int32 → Prop} {Q : Int32 → Hp → Prop} (he : e < aEm A m) (hb : b ≤ 90) (q : ∀ h', Jb A S h' J D m → Vk A h' (D + 6 + 145 * m) m → Vr J (D + 6 + 145 * m) h0 h' → B5 h' (nI (b + opD A m e 3)) (nI (e + 1))) :
    ∀ (j d : Nat) (h : Hp), d + j = 3 → Jb A S h J D m → Vk A h (D + 6 + 145 * m) m → Vr J (D + 6 + 145 * m) h0 h → wX1_countOpen_22 S B5 J D (nI m) (nI e) Q (j + 1) h (nI (b + opD A m e d)) (nI d)
  | 0, d, h, hj, H, K, s0 => by
    have : d = 3 := by omega
    subst this
    have := q h H K s0
    refine br_t (by decide) ?_
    rw [nI_1 e]
    exact this
  | j + 1, d, h, hj, H, K, s0 => by
    show wX1_countOpen_22b S B5 J D (nI m) (nI e) Q (wX1_countOpen_22 S B5 J D (nI m) (nI e) Q (j + 1)) h _ (nI d)
    refine br_f (nI_ge (b := 3) (by omega) (by omega)) ⟨by rw [H.1], cVerK (e := e) H K (fun _ => ⟨he, rfl⟩) (by omega) fun h1 s1 r1 K1 k1 f1 => ⟨k1, ?_⟩⟩
    have nx := cOpD (Q := Q) he hb q j (d + 1) h1 (by omega) (H.of s1 r1) K1 (s0.tr s1)
    have eV : aV A m e d = aVd A m e d := by unfold aV; rw [if_neg (by omega), if_neg (by omega)]
    have eS : opD A m e (d + 1) = opD A m e d + fail1 (aVd A m e d) := rfl
    have hle := opD_le A m e d
    rw [f1.1, nI_1 d, eV]
    by_cases hf : (aVd A m e d).1 = 0
    · refine br_t (by rw [hf]; decide) ?_
      rw [show nI (b + opD A m e d) + 0 = nI (b + opD A m e d) from Int32.add_zero _]
      rw [eS, show fail1 (aVd A m e d) = 0 by unfold fail1; rw [if_pos hf]] at nx
      exact nx
    · have : (aVd A m e d).1 ≤ 1000000 := by
        rw [← eV]
        exact aV_le H (by omega) (fun _ => he)
      refine br_f (nI_nle (by omega) (by omega)) ?_
      rw [nI_1]
      rw [eS, show fail1 (aVd A m e d) = 1 by unfold fail1; rw [if_neg hf]] at nx
      exact nx
theorem cOp {A : Ab} {S : Sh} {h : Hp} {J D m : Nat} {Q : Int32 → Hp → Prop} (H : Jb A S h J D m) (K : Vk A h (D + 6 + 145 * m) m) (q : ∀ h', Vr J (D + 6 + 145 * m) h h' → gR h' J 0 = J + 1 → Vk A h' (D + 6 + 145 * m) m → Q (nI (opC A m)) h') : wX1_countOpen S h J D (nI m) Q := by
  have w4 := H.2.2.2.2.2.2.2.2.1.2.2.2.e4
  have lp : ∀ (j e : Nat) (h1 : Hp), e + j = aEm A m → Jb A S h1 J D m → Vk A h1 (D + 6 + 145 * m) m → Vr J (D + 6 + 145 * m) h h1 → wX1_countOpen_5 S J D (nI m) Q (j + 1) h1 (nI (opE A m e)) (nI e) := by
    intro j
    induction j with
    | zero =>
      intro e h1 hj H1 K1 s1
      have hle := opE_le A m e
      show wX1_countOpen_5b S J D (nI m) Q _ h1 _ (nI e)
      obtain ⟨b1, b2, b3, b4, b5, b6, b7, b8, b9, b10, b11⟩ := H1
      unfold wX1_countOpen_5b
      rw [b6, ix_nI (by omega), b7 m b8, b9.2.2.1.2.2.2.1]
      refine ⟨by rw [b3], inA_of b4 (by omega) (by decide), by rw [b9.1.1], br_t (nI_le (by omega) (by omega)) ⟨_, cOp3 (N := opC A m) q 2 3 (opE A m e) h1 rfl (by omega) ⟨b1, b2, b3, b4, b5, b6, b7, b8, b9, b10, b11⟩ K1 s1 (by omega) ?_⟩⟩
      rw [show e = aEm A m by omega]
      rfl
    | succ j ih =>
      intro e h1 hj H1 K1 s1
      have hle := opE_le A m e
      show wX1_countOpen_5b S J D (nI m) Q (wX1_countOpen_5 S J D (nI m) Q (j + 1)) h1 _ (nI e)
      have H1' := H1
      obtain ⟨b1, b2, b3, b4, b5, b6, b7, b8, b9, b10, b11⟩ := H1
      unfold wX1_countOpen_5b
      rw [b6, ix_nI (by omega), b7 m b8, b9.2.2.1.2.2.2.1]
      refine ⟨by rw [b3], inA_of b4 (by omega) (by decide), by rw [b9.1.1], br_f (nI_ge (by omega) (by omega)) ⟨_, cOpD (e := e) (b := opE A m e) (by omega) (by omega) (fun h2 H2 K2 s2 => ih (e + 1) h2 (by omega) H2 K2 s2) 3 0 h1 rfl H1' K1 s1⟩⟩
  exact ⟨_, lp (aEm A m) 0 h (by omega) H K Sm.rf⟩
