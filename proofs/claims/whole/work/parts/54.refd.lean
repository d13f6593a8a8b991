/-! THE REFERENCE'S DUTIES -/
def anyF (f : Nat → Bool) : Nat → Nat → Bool
  | 0, _ => false
  | j + 1, i => f i || anyF f j (i + 1)
theorem anyF_iff (f : Nat → Bool) : ∀ j i, anyF f j i = true ↔ ∃ k, i ≤ k ∧ k < i + j ∧ f k = true
  | 0, i => by
    simp only [anyF, Bool.false_eq_true, false_iff]
    rintro ⟨k, h1, h2, -⟩
    omega
  | j + 1, i => by
    simp only [anyF, Bool.or_eq_true, anyF_iff f j (i + 1)]
    constructor
    · rintro (h | ⟨k, h1, h2, h3⟩)
      · exact ⟨i, by omega, by omega, h⟩
      · exact ⟨k, by omega, by omega, h3⟩
    · rintro ⟨k, h1, h2, h3⟩
      by_cases e : i = k
      · subst e
        exact Or.inl h3
      · exact Or.inr ⟨k, by omega, by omega, h3⟩
def aNp (A : Ab) (m e : Nat) : Nat := aLp A m e + 1 - aFp A m e
def aAny (A : Ab) (m e s : Nat) : Bool := anyF (cbA A m e s) (aNp A m e) (aFp A m e)
def aGo (A : Ab) (m s : Nat) : Bool := anyF (fun e => aAny A m e s) (aEm A m) 0
def gsA (A : Ab) (m e s p : Nat) : Bool := cbA A m e s p && decide (aGv A m e s p ≠ -2)
def aLd (A : Ab) (m s : Nat) : Bool := anyF (fun e => anyF (gsA A m e s) (aNp A m e) (aFp A m e)) (aEm A m) 0
def glI (A : Ab) (m : Nat) (x : Int32) (t : Nat) : Bool := decide (x ≠ -2) && decide (aGl A m x.toNatClampNeg t = 1)
def aAn (A : Ab) (m o a t : Nat) : Bool := anyF (fun p => cbA A (m - 1) o a p && glI A m (aGv A (m - 1) o a p) t) (aNp A (m - 1) o) (aFp A (m - 1) o)
def aVr (A : Ab) (m s : Nat) : Int32 := evl (aEn A m 0 s 0) (aVc A m)
def aFl (A : Ab) (m e d a s p : Nat) : Bool :=
  if d = 1 then decide (aOe A m e ≠ 0) && !aAny A (m - 1) (aOe A m e - 1) a
  else if d = 2 then !(decide (m = 0) || decide (aOe A m e ≠ 0)) && (decide (aVt A m = 0) || decide (aGv A m e s p = -2) || decide (aVr A m (aGv A m e s p).toNatClampNeg < 0) || !decide (aVr A m (aGv A m e s p).toNatClampNeg < aVr A m s))
  else decide (aGv A m e s p = -2) || (if m = 0 then !decide (aSn A 0 (aGv A m e s p).toNatClampNeg = 1) else if aOe A m e = 0 then !decide (aGl A m a (aGv A m e s p).toNatClampNeg = 1) else !aAn A m (aOe A m e - 1) a (aGv A m e s p).toNatClampNeg)
theorem nI_n2 {k : Nat} (h : k < 2 ^ 31) : nI k ≠ -2 := fun e => by
  have := nI_pos h
  rw [e] at this
  exact this (by decide)
theorem rBeg_l {A : Ab} {S : Sh} {h : Hp} {r m : Nat} {Q : Int32 → Hp → Prop} (H : Rf A S h r) (hm : m < aMM A) (q : Q (nI (aBe A m)) h) : ∀ (j v n : Nat), v + j = aVm A m → n < aPr A m v → aBg A m j v n = aBe A m → wX12_beginOf_4 S r (nI m) Q (j + 1) h (nI n) (nI v)
  | 0, v, n, hj, _, hb => by
    have h3 := H.m3
    have w3 := (H.w hm).v3
    show wX12_beginOf_4b _ _ _ _ _ _ _ _
    unfold wX12_beginOf_4b
    rw [H.2.1.varMany, ix_nI (by omega), (H.M hm).1]
    refine ⟨H.1.1, H.1.varMany (by omega), br_t (nI_le (by omega) (by omega)) ?_⟩
    rw [← hb] at q
    exact q
  | j + 1, v, n, hj, hn, hb => by
    have h3 := H.m3
    have w := H.w hm
    have w3 := w.v3
    have hv : v < aVm A m := by omega
    have hd := aWd_pos w hv
    have hbd := w.vb hv
    have hr := (H.M hm).vr hv
    have hp := aPr_le w (v := v) (by omega)
    have hle : n * aWd A m v ≤ 100 * 10 := Nat.mul_le_mul (by omega) hd.2.1
    show wX12_beginOf_4b _ _ _ _ (wX12_beginOf_4 S r (nI m) Q (j + 1)) _ _ _
    unfold wX12_beginOf_4b
    rw [H.2.1.varMany, H.2.1.varHigh, H.2.1.varLow, H.2.1.varAt, ix_nI (by omega), (H.M hm).1, n_3, nI_mul, nI_add, ix_nI (by omega), hr.1, hr.2.1, hr.2.2.1]
    refine ⟨H.1.1, H.1.varMany (by omega), br_f (nI_ge (by omega) (by omega)) ⟨H.1.varHigh (by omega), H.1.varLow (by omega), H.1.varAt (by omega), ?_⟩⟩
    refine nm_r (e' := nI (n * aWd A m v + aAt A m v - aLo A m v)) ?_ ?_
    · rw [n_sub hd.2.2.2, nI_1, ← hd.2.2.1, nI_mul, nI_add, n_sub (by omega)]
    · rw [nI_1]
      refine rBeg_l H hm q j (v + 1) _ (by omega) ?_ hb
      show _ < aPr A m v * aWd A m v
      have : (n + 1) * aWd A m v ≤ aPr A m v * aWd A m v := Nat.mul_le_mul_right _ hn
      rw [Nat.add_mul] at this
      omega
theorem rBeg {A : Ab} {S : Sh} {h : Hp} {r m : Nat} {Q : Int32 → Hp → Prop} (H : Rf A S h r) (hm : m < aMM A) (q : Q (nI (aBe A m)) h) : wX12_beginOf S h r (nI m) Q :=
  ⟨_, rBeg_l H hm q (aVm A m) 0 0 (by omega) (by show 0 < 1; omega) rfl⟩
theorem rAny_l {A : Ab} {S : Sh} {h0 : Hp} {r m e s : Nat} {Q : Int32 → Hp → Prop} (hm : m < aMM A) (he : e < aEm A m) (hs : s < aSz A m) (q : ∀ h', Pl r h0 h' → Q (bI (aAny A m e s)) h') :
    ∀ (j p : Nat) (h : Hp), p + j = aLp A m e + 1 → Rf A S h r → Pl r h0 h → anyF (cbA A m e s) j p = aAny A m e s → wX12_canBeAny_12 S r (nI m) (nI e) (nI s) Q (j + 1) h (nI p)
  | 0, p, h, hj, H, s0, ha => by
    have h3 := H.m3
    have w4 := (H.w hm).e4
    have we := (H.w hm).ev he
    show wX12_canBeAny_12b _ _ _ _ _ _ _ _ _
    unfold wX12_canBeAny_12b
    rw [H.2.1.lastPick, n_4, nI_mul, nI_add, ix_nI (by omega), ((H.M hm).ev he).2.2.1]
    refine ⟨H.1.1, H.1.lastPick (by omega), br_t (nI_lt (by omega) (by omega)) ?_⟩
    have := q h s0
    rw [← ha] at this
    exact this
  | j + 1, p, h, hj, H, s0, ha => by
    have h3 := H.m3
    have w4 := (H.w hm).e4
    have we := (H.w hm).ev he
    show wX12_canBeAny_12b _ _ _ _ _ _ (wX12_canBeAny_12 S r (nI m) (nI e) (nI s) Q (j + 1)) _ _
    unfold wX12_canBeAny_12b
    rw [H.2.1.lastPick, n_4, nI_mul, nI_add, ix_nI (by omega), ((H.M hm).ev he).2.2.1]
    refine ⟨H.1.1, H.1.lastPick (by omega), br_f (nI_nlt (by omega) (by omega)) (rCan H hm he hs fun h1 s1 => ?_)⟩
    simp only [anyF] at ha
    cases hc : cbA A m e s p
    · rw [hc, Bool.false_or] at ha
      rw [nI_1]
      exact br_t rfl (rAny_l hm he hs q j (p + 1) h1 (by omega) (H.pl s1) (s0.tr s1) ha)
    · rw [hc, Bool.true_or] at ha
      refine br_f (by decide) ?_
      have := q h1 (s0.tr s1)
      rw [← ha] at this
      exact this
theorem rAny {A : Ab} {S : Sh} {h : Hp} {r m e s : Nat} {Q : Int32 → Hp → Prop} (H : Rf A S h r) (hm : m < aMM A) (he : e < aEm A m) (hs : s < aSz A m) (q : ∀ h', Pl r h h' → Q (bI (aAny A m e s)) h') : wX12_canBeAny S h r (nI m) (nI e) (nI s) Q := by
  have h3 := H.m3
  have w4 := (H.w hm).e4
  have we := (H.w hm).ev he
  unfold wX12_canBeAny
  rw [H.2.1.firstPick, n_4, nI_mul, nI_add, ix_nI (by omega), ((H.M hm).ev he).2.1]
  exact ⟨H.1.1, H.1.firstPick (by omega), nm_e ⟨_, rAny_l hm he hs q (aNp A m e) (aFp A m e) h (by unfold aNp; omega) H Sm.rf rfl⟩⟩
theorem rGo_l {A : Ab} {S : Sh} {h0 : Hp} {r m s : Nat} {Q : Int32 → Hp → Prop} (hm : m < aMM A) (hs : s < aSz A m) (q : ∀ h', Pl r h0 h' → Q (bI (aGo A m s)) h') :
    ∀ (j e : Nat) (h : Hp), e + j = aEm A m → Rf A S h r → Pl r h0 h → anyF (fun e => aAny A m e s) j e = aGo A m s → wX12_canGoOn_2 S r (nI m) (nI s) Q (j + 1) h (nI e)
  | 0, e, h, hj, H, s0, ha => by
    have h3 := H.m3
    have w4 := (H.w hm).e4
    show wX12_canGoOn_2b _ _ _ _ _ _ _ _
    unfold wX12_canGoOn_2b
    rw [H.2.1.eventMany, ix_nI (by omega), (H.M hm).2.2.1]
    refine ⟨H.1.1, H.1.eventMany (by omega), br_t (nI_le (by omega) (by omega)) ?_⟩
    have := q h s0
    rw [← ha] at this
    exact this
  | j + 1, e, h, hj, H, s0, ha => by
    have h3 := H.m3
    have w4 := (H.w hm).e4
    show wX12_canGoOn_2b _ _ _ _ _ (wX12_canGoOn_2 S r (nI m) (nI s) Q (j + 1)) _ _
    unfold wX12_canGoOn_2b
    rw [H.2.1.eventMany, ix_nI (by omega), (H.M hm).2.2.1]
    refine ⟨H.1.1, H.1.eventMany (by omega), br_f (nI_ge (by omega) (by omega)) (rAny H hm (by omega) hs fun h1 s1 => ?_)⟩
    simp only [anyF] at ha
    cases hc : aAny A m e s
    · rw [hc, Bool.false_or] at ha
      rw [nI_1]
      exact br_t rfl (rGo_l hm hs q j (e + 1) h1 (by omega) (H.pl s1) (s0.tr s1) ha)
    · rw [hc, Bool.true_or] at ha
      refine br_f (by decide) ?_
      have := q h1 (s0.tr s1)
      rw [← ha] at this
      exact this
theorem rGo {A : Ab} {S : Sh} {h : Hp} {r m s : Nat} {Q : Int32 → Hp → Prop} (H : Rf A S h r) (hm : m < aMM A) (hs : s < aSz A m) (q : ∀ h', Pl r h h' → Q (bI (aGo A m s)) h') : wX12_canGoOn S h r (nI m) (nI s) Q :=
  ⟨_, rGo_l hm hs q (aEm A m) 0 h (by omega) H Sm.rf rfl⟩
theorem rGoes {A : Ab} {S : Sh} {h : Hp} {r m e s p : Nat} {Q : Int32 → Hp → Prop} (H : Rf A S h r) (hm : m < aMM A) (he : e < aEm A m) (hs : s < aSz A m) (q : ∀ h', Pl r h h' → Q (bI (gsA A m e s p)) h') : wX12_goes S h r (nI m) (nI e) (nI s) (nI p) Q := by
  refine ⟨H.1.1, rCan H hm he hs fun h1 s1 => ?_⟩
  unfold gsA at q
  cases hc : cbA A m e s p
  · refine br_t rfl ?_
    have := q h1 s1
    rw [hc, Bool.false_and] at this
    exact this
  · refine br_f (by decide) (rGiv (H.pl s1) hm he hs fun h2 s2 => ?_)
    have := q h2 (s1.tr s2)
    rw [hc, Bool.true_and] at this
    by_cases hg : aGv A m e s p = -2
    · exact br_t hg (by simpa [hg, bI] using this)
    · exact br_f hg (by simpa [hg, bI] using this)
theorem n_pair {m a s : Nat} (h : 0 < m) : (10000 : Int32) * (nI m - 1) + 100 * nI a + nI s = nI (10000 * (m - 1) + 100 * a + s) := by
  rw [show nI m - 1 = nI (m - 1) from n_sub (b := 1) h, show (10000 : Int32) = nI 10000 from rfl, n_100, nI_mul, nI_mul, nI_add, nI_add]
theorem rPair {A : Ab} {S : Sh} {h : Hp} {r m a s : Nat} {Q : Int32 → Hp → Prop} (H : Rf A S h r) (hm : m < aMM A) (h0 : 0 < m) (ha : a < aSz A (m - 1)) (hs : s < aSz A m) (q : inA S (r + 29) 22 (nI (10000 * (m - 1) + 100 * a + s)) → gI h (r + 29) (ix (nI (10000 * (m - 1) + 100 * a + s))) = nI (aGl A m a s) → Q (nI (10000 * (m - 1) + 100 * a + s)) h) : wX12_pair S h (nI m) (nI a) (nI s) Q := by
  have h3 := H.m3
  have w1 := (H.w hm).s100
  have w2 := (H.w (m := m - 1) (by omega)).s100
  unfold wX12_pair
  rw [n_pair h0]
  exact q (H.1.isGlued (by omega)) (by rw [ix_nI (by omega)]; exact (H.G hm).2 h0 a s ha hs)
theorem n01 {x : Nat} (h : x ≤ 1) : nI x = bI (decide (x = 1)) := by
  have : x = 0 ∨ x = 1 := by omega
  rcases this with e | e <;> subst e <;> rfl
theorem rAns_l {A : Ab} {S : Sh} {h0 : Hp} {r m o a t : Nat} {Q : Int32 → Hp → Prop} (hm : m < aMM A) (hm0 : 0 < m) (ho : o < aEm A (m - 1)) (ha : a < aSz A (m - 1)) (ht : t < aSz A m) (q : ∀ h', Pl r h0 h' → Q (bI (aAn A m o a t)) h') :
    ∀ (j p : Nat) (h : Hp), p + j = aLp A (m - 1) o + 1 → Rf A S h r → Pl r h0 h → anyF (fun p => cbA A (m - 1) o a p && glI A m (aGv A (m - 1) o a p) t) j p = aAn A m o a t → wX12_isAnswered_14 S r (nI m) (nI o) (nI a) (nI t) Q (j + 1) h (nI p)
  | 0, p, h, hj, H, s0, hb => by
    have h3 := H.m3
    have hm1 : m - 1 < aMM A := by omega
    have w4 := (H.w hm1).e4
    have we := (H.w hm1).ev ho
    show wX12_isAnswered_14b _ _ _ _ _ _ _ _ _ _
    unfold wX12_isAnswered_14b
    rw [H.2.1.lastPick, show nI m - 1 = nI (m - 1) from n_sub (b := 1) hm0, n_4, nI_mul, nI_add, ix_nI (by omega), ((H.M hm1).ev ho).2.2.1]
    refine ⟨H.1.1, H.1.lastPick (by omega), br_t (nI_lt (by omega) (by omega)) ?_⟩
    have := q h s0
    rw [← hb] at this
    exact this
  | j + 1, p, h, hj, H, s0, hb => by
    have h3 := H.m3
    have hm1 : m - 1 < aMM A := by omega
    have w4 := (H.w hm1).e4
    have we := (H.w hm1).ev ho
    show wX12_isAnswered_14b _ _ _ _ _ _ _ (wX12_isAnswered_14 S r (nI m) (nI o) (nI a) (nI t) Q (j + 1)) _ _
    unfold wX12_isAnswered_14b
    rw [H.2.1.lastPick, show nI m - 1 = nI (m - 1) from n_sub (b := 1) hm0, n_4, nI_mul, nI_add, ix_nI (by omega), ((H.M hm1).ev ho).2.2.1]
    refine ⟨H.1.1, H.1.lastPick (by omega), br_f (nI_nlt (by omega) (by omega)) (rCan H hm1 ho ha fun h1 s1 => ?_)⟩
    simp only [anyF] at hb
    cases hc : cbA A (m - 1) o a p
    · rw [hc, Bool.false_and, Bool.false_or] at hb
      rw [nI_1]
      exact ⟨fun n => absurd rfl n, fun _ => rAns_l hm hm0 ho ha ht q j (p + 1) h1 (by omega) (H.pl s1) (s0.tr s1) hb⟩
    · rw [hc, Bool.true_and] at hb
      refine ⟨fun _ => rGiv (H.pl s1) hm1 ho ha fun h2 s2 => ?_, fun n => absurd n (by decide)⟩
      have s3 := s1.tr s2
      have H2 := H.pl s3
      have nx := fun hq => rAns_l hm hm0 ho ha ht q j (p + 1) h2 (by omega) H2 (s0.tr s3) hq
      rw [nI_1]
      rcases aGv_bd (H.w hm1) o a p with hg | ⟨k, hk, hg⟩
      · refine br_t hg (nx ?_)
        rw [show glI A m (aGv A (m - 1) o a p) t = false by simp [glI, hg], Bool.false_or] at hb
        exact hb
      · rw [hg] at hb ⊢
        have hk1 := (H.w hm1).s100
        refine br_f (nI_n2 (by omega)) ?_
        rw [H2.2.1.isGlued]
        refine rPair H2 hm hm0 hk ht fun g1 g2 => ⟨g1, ?_⟩
        rw [g2]
        have hgl := (H.w hm).gl hm0 hk ht
        have e1 : glI A m (nI k) t = decide (aGl A m k t = 1) := by
          unfold glI
          rw [nI_clamp (by omega), decide_eq_true (nI_n2 (k := k) (by omega)), Bool.true_and]
        rw [e1] at hb
        by_cases hx : aGl A m k t = 1
        · rw [hx]
          refine br_f (by decide) ?_
          have := q h2 (s0.tr s3)
          rw [← hb, decide_eq_true hx, Bool.true_or] at this
          exact this
        · rw [show aGl A m k t = 0 by omega]
          refine br_t rfl (nx ?_)
          rw [decide_eq_false hx, Bool.false_or] at hb
          exact hb
theorem rAns {A : Ab} {S : Sh} {h : Hp} {r m o a t : Nat} {Q : Int32 → Hp → Prop} (H : Rf A S h r) (hm : m < aMM A) (hm0 : 0 < m) (ho : o < aEm A (m - 1)) (ha : a < aSz A (m - 1)) (ht : t < aSz A m) (q : ∀ h', Pl r h h' → Q (bI (aAn A m o a t)) h') : wX12_isAnswered S h r (nI m) (nI o) (nI a) (nI t) Q := by
  have h3 := H.m3
  have hm1 : m - 1 < aMM A := by omega
  have w4 := (H.w hm1).e4
  have we := (H.w hm1).ev ho
  unfold wX12_isAnswered
  rw [H.2.1.firstPick, show nI m - 1 = nI (m - 1) from n_sub (b := 1) hm0, n_4, nI_mul, nI_add, ix_nI (by omega), ((H.M hm1).ev ho).2.1]
  exact ⟨H.1.1, H.1.firstPick (by omega), nm_e ⟨_, rAns_l hm hm0 ho ha ht q (aNp A (m - 1) o) (aFp A (m - 1) o) h (by unfold aNp; omega) H Sm.rf rfl⟩⟩
