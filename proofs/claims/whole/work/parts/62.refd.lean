/-! THE REFERENCE'S DUTIES: fails, failing, begins, goesOn -/
theorem aGv_k {A : Ab} {m e s p k : Nat} (hg : aGv A m e s p = nI k) (hk : k < 2 ^ 31) : aGv A m e s p ≠ -2 ∧ (aGv A m e s p).toNatClampNeg = k := by
  rw [hg]
  exact ⟨nI_n2 hk, nI_clamp hk⟩
theorem rFails {A : Ab} {S : Sh} {h : Hp} {r m e d a s p : Nat} {Q : Int32 → Hp → Prop} (H : Rf A S h r) (hm : m < aMM A) (he : e < aEm A m) (hs : s < aSz A m) (ha : 0 < m → a < aSz A (m - 1)) (hd : d < 3)
    (q : ∀ h', Pl r h h' → Q (bI (aFl A m e d a s p)) h') : wX12_fails S h r (nI m) (nI e) (nI d) (nI a) (nI s) (nI p) Q := by
  have h3 := H.m3
  have w := H.w hm
  have w4 := w.e4
  have ws := w.s100
  have we := w.ev he
  unfold wX12_fails
  rw [H.2.1.eventOf, n_4, nI_mul, nI_add, ix_nI (by omega), ((H.M hm).ev he).1]
  refine ⟨H.1.1, H.1.eventOf (by omega), nm_e (rGiv H hm he hs fun h1 s1 => ?_)⟩
  have H1 := H.pl s1
  have hoe : (aOe A m e = 0 ∧ aOI A m e = -2) ∨ (aOe A m e ≠ 0 ∧ aOI A m e = nI (aOe A m e - 1) ∧ aOI A m e ≠ -2) := by
    unfold aOI
    by_cases ho : aOe A m e = 0
    · exact Or.inl ⟨ho, by rw [if_pos ho]⟩
    · right
      rw [if_neg ho]
      have := we.2.2.2.1 ho
      have w5 := (H.w (m := m - 1) (by omega)).e4
      exact ⟨ho, rfl, nI_n2 (by omega)⟩
  have hd' : d = 0 ∨ d = 1 ∨ d = 2 := by omega
  rcases hd' with e0 | e0 | e0
  · subst e0
    simp only [aFl, if_neg (show ¬ (0 = 1) by decide), if_neg (show ¬ (0 = 2) by decide)] at q
    refine ⟨fun _ => ?_, fun n => absurd n (by decide)⟩
    refine ⟨fun _ => ?_, fun n => absurd n (by decide)⟩
    rcases aGv_bd w e s p with hg | ⟨k, hk, hg⟩
    · refine ⟨fun n => absurd hg n, fun _ => ?_⟩
      have := q h1 s1
      simpa [hg, bI] using this
    · obtain ⟨hg1, hg2⟩ := aGv_k hg (by omega)
      rw [hg2, decide_eq_false hg1, Bool.false_or] at q
      rw [hg]
      refine ⟨fun _ => ?_, fun n => absurd (hg.trans n) hg1⟩
      by_cases hm0 : m = 0
      · subst hm0
        refine ⟨fun n => absurd rfl n, fun _ => ?_⟩
        rw [H1.2.1.isSound, ix_nI (by omega)]
        refine ⟨H1.1.isSound (by omega), ?_⟩
        have hsn := (H1.G hm).1 k hk
        rw [Nat.mul_zero, Nat.zero_add] at hsn
        have hle := w.sn hk
        have := q h1 s1
        rw [if_pos rfl] at this
        rw [hsn]
        by_cases hx : aSn A 0 k = 1
        · rw [hx]
          exact ⟨fun _ => by simpa [hx, bI] using this, fun n => absurd n (by decide)⟩
        · rw [show aSn A 0 k = 0 by omega]
          exact ⟨fun n => absurd rfl n, fun _ => by simpa [hx, bI] using this⟩
      · refine ⟨fun _ => ?_, fun n => absurd n (nI_ne0 (by omega) (by omega))⟩
        rw [if_neg hm0] at q
        have ha' := ha (by omega)
        rcases hoe with ⟨o1, o2⟩ | ⟨o1, o2, o3⟩
        · refine ⟨fun n => absurd o2 n, fun _ => ?_⟩
          rw [if_pos o1] at q
          rw [H1.2.1.isGlued]
          refine rPair H1 hm (by omega) ha' hk fun g1 g2 => ⟨g1, ?_⟩
          have hle := w.gl (by omega) ha' hk
          have := q h1 s1
          rw [g2]
          by_cases hx : aGl A m a k = 1
          · rw [hx]
            exact ⟨fun _ => by simpa [hx, bI] using this, fun n => absurd n (by decide)⟩
          · rw [show aGl A m a k = 0 by omega]
            exact ⟨fun n => absurd rfl n, fun _ => by simpa [hx, bI] using this⟩
        · refine ⟨fun _ => ?_, fun n => absurd n o3⟩
          rw [if_neg o1] at q
          rw [o2]
          have := we.2.2.2.1 o1
          refine rAns H1 hm (by omega) (by omega) ha' hk fun h2 s2 => ?_
          have := q h2 (s1.tr s2)
          cases hx : aAn A m (aOe A m e - 1) a k
          · exact ⟨fun n => absurd rfl n, fun _ => by simpa [hx, bI] using this⟩
          · exact ⟨fun _ => by simpa [hx, bI] using this, fun n => absurd n (by decide)⟩
  · subst e0
    simp only [aFl, if_true] at q
    refine ⟨fun n => absurd rfl n, fun _ => ?_⟩
    rcases hoe with ⟨o1, o2⟩ | ⟨o1, o2, o3⟩
    · refine br_t o2 ?_
      have := q h1 s1
      simpa [o1, bI] using this
    · refine br_f o3 ?_
      have := we.2.2.2.1 o1
      rw [o2, show nI m - 1 = nI (m - 1) from n_sub (b := 1) this.1]
      refine rAny H1 (by omega) (by omega) (ha this.1) fun h2 s2 => ?_
      have q2 := q h2 (s1.tr s2)
      cases hx : aAny A (m - 1) (aOe A m e - 1) a
      · exact ⟨fun n => absurd rfl n, fun _ => by simpa [hx, o1, bI] using q2⟩
      · exact ⟨fun _ => by simpa [hx, o1, bI] using q2, fun n => absurd n (by decide)⟩
  · subst e0
    simp only [aFl, if_neg (show ¬ (2 = 1) by decide), if_true] at q
    refine ⟨fun _ => ?_, fun n => absurd n (by decide)⟩
    refine ⟨fun n => absurd rfl n, fun _ => ?_⟩
    by_cases hm0 : m = 0
    · subst hm0
      refine br_t rfl ?_
      have := q h1 s1
      simpa [bI] using this
    · refine br_f (nI_ne0 (by omega) (by omega)) ?_
      rcases hoe with ⟨o1, o2⟩ | ⟨o1, o2, o3⟩
      · refine br_t o2 ?_
        simp only [hm0, o1, decide_false, ne_eq, not_true_eq_false, Bool.or_self, Bool.not_false, Bool.true_and] at q
        rw [H1.2.1.variantFrom, ix_nI (by omega)]
        refine ⟨H1.1.variantFrom (by omega), ?_⟩
        by_cases hv : aVt A m = 0
        · refine br_t ((H1.M hm).2.2.2.2.2.2.2.1 hv) ?_
          have := q h1 s1
          simpa [wX12_fails_j118, hv, bI] using this
        · obtain ⟨f, f1, f2, f3⟩ := (H1.M hm).2.2.2.2.2.2.2.2 hv
          have f4 : f ≤ 700 := by have := f3.1; omega
          rw [f1]
          refine br_f (fun n => ?_) ?_
          · have := nI_pos (n := f) (by omega)
            rw [n] at this
            exact this (by decide)
          simp only [hv, decide_false, Bool.false_or] at q
          rcases aGv_bd w e s p with hg | ⟨k, hk, hg⟩
          · refine br_t hg ?_
            have := q h1 s1
            simpa [wX12_fails_j118, hg, bI] using this
          · obtain ⟨hg1, hg2⟩ := aGv_k hg (by omega)
            refine br_f hg1 ?_
            rw [hg2, decide_eq_false hg1, Bool.false_or] at q
            rw [hg]
            refine rVt H1 hm hk hv fun h2 s2 => ?_
            have H2 := H1.pl s2
            by_cases hx : aVr A m k < 0
            · refine br_t hx ?_
              have := q h2 (s1.tr s2)
              simpa [wX12_fails_j118, hx, bI] using this
            · refine br_f hx (rVt H2 hm hk hv fun h4 s4 => rVt (H2.pl s4) hm hs hv fun h5 s5 => ?_)
              have := q h5 (s1.tr (s2.tr (s4.tr s5)))
              by_cases hy : aVr A m k < aVr A m s
              · exact br_t hy (by simpa [wX12_fails_j118, hx, hy, bI] using this)
              · exact br_f hy (by simpa [wX12_fails_j118, hx, hy, bI] using this)
      · refine br_f o3 ?_
        have := q h1 s1
        simpa [o1, bI] using this
/-! cases that fail: how many, the first one -/
abbrev Fo : Type := Nat × Nat × Nat × Nat
def nt (f : Fo) (a s p : Nat) : Fo := if f.1 = 0 then (1, a, s, p) else (f.1 + 1, f.2)
def fdP (P : Nat → Bool) (a s : Nat) : Nat → Nat → Fo → Fo
  | 0, _, f => f
  | j + 1, p, f => fdP P a s j (p + 1) (if P p then nt f a s p else f)
def fdS (P : Nat → Nat → Bool) (K : Nat → Bool) (np fp a : Nat) : Nat → Nat → Fo → Fo
  | 0, _, f => f
  | j + 1, s, f => fdS P K np fp a j (s + 1) (if K s then fdP (P s) a s np fp f else f)
def fdA (P : Nat → Nat → Nat → Bool) (K : Nat → Nat → Bool) (np fp sz : Nat) : Nat → Nat → Fo → Fo
  | 0, _, f => f
  | j + 1, a, f => fdA P K np fp sz j (a + 1) (fdS (P a) (K a) np fp a sz 0 f)
def aPd (A : Ab) (m a s : Nat) : Bool := if m = 0 then decide (aSn A 0 s = 1) else decide (aGl A m a s = 1)
def aSa (A : Ab) (m : Nat) : Nat := if m = 0 then 1 else aSz A (m - 1)
def aVd (A : Ab) (m e d : Nat) : Fo := fdA (fun a s p => cbA A m e s p && aFl A m e d a s p) (aPd A m) (aNp A m e) (aFp A m e) (aSz A m) (aSa A m) 0 (0, 0, 0, 0)
def gnA (A : Ab) (m a s : Nat) : Bool := (decide (m = 0) || aGo A (m - 1) a) && !aGo A m s
def aVg (A : Ab) (m : Nat) : Fo := fdA (fun a s _ => gnA A m a s) (aPd A m) 1 0 (aSz A m) (aSa A m) 0 (0, 0, 0, 0)
def aB1 (A : Ab) (m : Nat) : Nat := if m = 0 then 0 else aBe A (m - 1)
def aVb (A : Ab) (m : Nat) : Fo := if aPd A m (aB1 A m) (aBe A m) then (0, 0, 0, 0) else (1, aB1 A m, aBe A m, 0)
/-- what is shown of the machine m, if so wanted (t); the rest of the reference as it was, its pile apart -/
def Sw (r m : Nat) (t : Bool) (h0 h : Hp) (f : Fo) : Prop :=
  Sm (fun b => b ≠ r + 27 ∧ b ≠ r) h0 h ∧ (∀ k, gR h r k = gR h0 r k) ∧ (∀ k, gJ h r k = gJ h0 r k) ∧ (∀ k, k < 49 ∨ 53 < k → gI h r k = gI h0 r k) ∧
  (t = true → f.1 ≠ 0 → gI h r 49 = nI m ∧ gI h r 50 = nI f.2.1 ∧ gI h r 51 = nI f.2.2.1 ∧ gI h r 52 = nI f.2.2.2 ∧ gI h r 53 = 1) ∧ (t = false ∨ f.1 = 0 → ∀ k, gI h r k = gI h0 r k)
theorem Sw.rf {r m : Nat} {t : Bool} {h : Hp} {f : Fo} (hf : f.1 = 0) : Sw r m t h h f := ⟨Sm.rf, fun _ => rfl, fun _ => rfl, fun _ _ => rfl, fun _ n => absurd hf n, fun _ _ => rfl⟩
theorem Sw.pl {r m : Nat} {t : Bool} {h0 h h' : Hp} {f : Fo} (H : Sw r m t h0 h f) (s : Pl r h h') : Sw r m t h0 h' f := by
  obtain ⟨h1, h2, h3, h4, h5, h6⟩ := H
  refine ⟨h1.tr (s.mono fun x hx => hx.1), fun k => (s.R (by omega) k).trans (h2 k), fun k => (s.J (by omega) k).trans (h3 k), fun k hk => (s.I (by omega) k).trans (h4 k hk), fun ht hf => ?_, fun hf k => (s.I (by omega) k).trans (h6 hf k)⟩
  rw [s.I (by omega), s.I (by omega), s.I (by omega), s.I (by omega), s.I (by omega)]
  exact h5 ht hf
theorem Sw.Rf {A : Ab} {S : Sh} {r m : Nat} {t : Bool} {h0 h : Hp} {f : Fo} (H : Sw r m t h0 h f) (h1 : Rf A S h0 r) : Rf A S h r :=
  h1.of (H.1.mono fun x hx => by omega) (H.2.2.2.1 37 (by omega)) H.2.1
/-- one more case is noted, and not shown: there was one already, or it isn't wanted -/
theorem Sw.more {r m : Nat} {t : Bool} {h0 h : Hp} {f : Fo} (H : Sw r m t h0 h f) (hf : t = false ∨ f.1 ≠ 0) (a s p : Nat) : Sw r m t h0 h (nt f a s p) := by
  obtain ⟨h1, h2, h3, h4, h5, h6⟩ := H
  refine ⟨h1, h2, h3, h4, fun ht hn => ?_, fun hq => ?_⟩
  · have hf' : f.1 ≠ 0 := hf.resolve_left (by rw [ht]; decide)
    have := h5 ht hf'
    unfold nt
    rw [if_neg hf']
    exact this
  · refine h6 ?_
    rcases hq with hq | hq
    · exact Or.inl hq
    · unfold nt at hq
      split at hq <;> simp at hq
theorem rShows {S : Sh} {r m a s p : Nat} {h0 h : Hp} {f : Fo} {Q : Hp → Prop} (h13 : (S r).1 = 13) (H : Sw r m true h0 h f) (hf : f.1 = 0) (q : ∀ h', Sw r m true h0 h' (nt f a s p) → Q h') : wX12_shows S h r (nI m) (nI a) (nI s) (nI p) Q := by
  refine ⟨h13, nm_e (nm_e (nm_e (nm_e (q _ ?_))))⟩
  obtain ⟨h1, h2, h3, h4, h5, h6⟩ := H
  have hn : nt f a s p = (1, a, s, p) := by unfold nt; rw [if_pos hf]
  rw [hn]
  refine ⟨((((h1.pI (by simp) _ _).pI (by simp) _ _).pI (by simp) _ _).pI (by simp) _ _).pI (by simp) _ _, h2, h3, fun k hk => ?_, fun _ _ => ?_, fun hq => ?_⟩
  · simp only [gI_pI]
    rw [if_neg (by omega), if_neg (by omega), if_neg (by omega), if_neg (by omega), if_neg (by omega)]
    exact h4 k hk
  · simp [gI_pI]
  · rcases hq with hq | hq
    · cases hq
    · simp at hq
theorem nt_le {f : Fo} {a s p : Nat} : (nt f a s p).1 = f.1 + 1 := by
  unfold nt
  split
  · rename_i h
    rw [h]
  · rfl
