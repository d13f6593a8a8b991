/-! THE CLASS'S TABLES, ONCE SETTLED -/
def cntF (f : Nat → Bool) : Nat → Nat
  | 0 => 0
  | n + 1 => cntF f n + (if f n then 1 else 0)
def sumF (f : Nat → Nat) : Nat → Nat
  | 0 => 0
  | n + 1 => sumF f n + f n
def hF (A : Ab) (m e s i : Nat) : Bool := decide (aFp A m e + i ≤ aLp A m e) && aCb A m e s (aFp A m e + i)
def lF (A : Ab) (m e s i : Nat) : Bool := hF A m e s i && decide (aGv A m e s (aFp A m e + i) ≠ -2)
def pF (A : Ab) (m e s i : Nat) : Bool := decide (aFp A m e + i ≤ aLp A m e) && cbA A m e s (aFp A m e + i)
def sF (A : Ab) (m e s i : Nat) : Bool := decide (aFp A m e + i ≤ aLp A m e) && gsA A m e s (aFp A m e + i)
def glF (A : Ab) (m s x : Nat) : Bool := decide (x < aSz A (m - 1)) && decide (aGl A m x s = 1)
def ClE (A : Ab) (h : Hp) (v m e : Nat) : Prop := gI h v 5 = aOI A m e ∧ gI h v 6 = nI (aFp A m e) ∧ gI h v 7 = nI (aLp A m e) ∧ gI h v 8 = nI (aGb A m e) ∧ gI h v 10 = nI (aAs A m e) ∧
  ∀ s, s < aSz A m → gI h (v + 2) s = nI (msk (hF A m e s) 10) ∧ gI h (v + 3) s = nI (msk (lF A m e s) 10) ∧ ∀ i, aFp A m e + i ≤ aLp A m e → gI h (v + 4) (10 * s + i) = aGv A m e s (aFp A m e + i)
def ClM (A : Ab) (h : Hp) (a m : Nat) : Prop := ClV A h a m ∧ gI h a 12 = nI (aSz A m) ∧ gI h a 13 = nI (aLm A m) ∧ gI h a 14 = nI (aEm A m) ∧ gJ h a 10 = aMn A m ∧
  ((aVt A m = 0 ∧ gI h a 15 = -1) ∨ (aVt A m ≠ 0 ∧ gI h a 15 ≠ -1 ∧ ∀ s, s < aSz A m → gI h (a + 9) s = aVr A m s)) ∧ (∀ s, s < aSz A m → gI h (a + 7) s = nI (aSn A m s)) ∧
  (0 < m → ∀ s, s < aSz A m → stB h (a + 31 + s) (glF A m s)) ∧ (∀ e, e < aEm A m → ClE A h (a + 11 + 5 * e) m e) ∧
  gI h a 16 = nI (cntF (fun s => decide (aSn A m s = 1)) (aSz A m)) ∧ gI h a 17 = nI (if m = 0 then 0 else sumF (fun s => cntF (glF A m s) (aSz A (m - 1))) (aSz A m))
theorem ClE.of {A : Ab} {h h' : Hp} {v m e : Nat} (H : ClE A h v m e) (s : Sm (fun b => v ≤ b ∧ b ≤ v + 4) h h') : ClE A h' v m e := by
  obtain ⟨h1, h2, h3, h4, h5, h6⟩ := H
  refine ⟨?_, ?_, ?_, ?_, ?_, fun t ht => ⟨?_, ?_, fun i hi => ?_⟩⟩
  · rw [s.I ⟨by omega, by omega⟩]; exact h1
  · rw [s.I ⟨by omega, by omega⟩]; exact h2
  · rw [s.I ⟨by omega, by omega⟩]; exact h3
  · rw [s.I ⟨by omega, by omega⟩]; exact h4
  · rw [s.I ⟨by omega, by omega⟩]; exact h5
  · rw [s.I ⟨by omega, by omega⟩]; exact (h6 t ht).1
  · rw [s.I ⟨by omega, by omega⟩]; exact (h6 t ht).2.1
  · rw [s.I ⟨by omega, by omega⟩]; exact (h6 t ht).2.2 i hi
theorem ClM.of {A : Ab} {h h' : Hp} {a m : Nat} (w : wfM A m) (H : ClM A h a m) (s : Sm (fun b => a ≤ b ∧ b < a + 131) h h') : ClM A h' a m := by
  obtain ⟨h1, h2, h3, h4, h5, h6, h7, h8, h9, h10, h11⟩ := H
  have w4 := w.e4
  have ws := w.s100
  refine ⟨h1.of (s.mono fun b hb => by omega), ?_, ?_, ?_, ?_, ?_, fun t ht => ?_, fun h0 t ht => ?_, fun e he => ?_, ?_, ?_⟩
  · rw [s.I ⟨by omega, by omega⟩]; exact h2
  · rw [s.I ⟨by omega, by omega⟩]; exact h3
  · rw [s.I ⟨by omega, by omega⟩]; exact h4
  · rw [s.J ⟨by omega, by omega⟩]; exact h5
  · rcases h6 with ⟨k1, k2⟩ | ⟨k1, k2, k3⟩
    · exact Or.inl ⟨k1, by rw [s.I ⟨by omega, by omega⟩]; exact k2⟩
    · exact Or.inr ⟨k1, by rw [s.I ⟨by omega, by omega⟩]; exact k2, fun t ht => by rw [s.I ⟨by omega, by omega⟩]; exact k3 t ht⟩
  · rw [s.I ⟨by omega, by omega⟩]; exact h7 t ht
  · exact (h8 h0 t ht).of ⟨s.J ⟨by omega, by omega⟩ _, s.J ⟨by omega, by omega⟩ _⟩
  · exact (h9 e he).of (s.mono fun b hb => by omega)
  · rw [s.I ⟨by omega, by omega⟩]; exact h10
  · rw [s.I ⟨by omega, by omega⟩]; exact h11
/-! an event -/
theorem pF_eq {A : Ab} {m e s : Nat} (h : aAs A m e = 0) : pF A m e s = hF A m e s := by
  funext i
  unfold pF hF cbA
  rw [h]
  simp
theorem pF_as {A : Ab} {m e s : Nat} (h : aAs A m e ≠ 0) (i : Nat) : pF A m e s i = false := by
  unfold pF cbA
  simp [h]
theorem sF_eq {A : Ab} {m e s : Nat} (h : aAs A m e = 0) : sF A m e s = lF A m e s := by
  funext i
  unfold sF lF hF gsA cbA
  rw [h]
  simp [Bool.and_assoc]
theorem sF_as {A : Ab} {m e s : Nat} (h : aAs A m e ≠ 0) (i : Nat) : sF A m e s i = false := by
  unfold sF gsA cbA
  simp [h]
theorem m10 (f : Nat → Bool) : msk f 10 < 1024 := msk_lt f 10
theorem cPicks {A : Ab} {S : Sh} {h : Hp} {v m e s : Nat} {Q : Int32 → Hp → Prop} (hS : ES S v) (hR : ER h v) (w : wfM A m) (he : e < aEm A m) (H : ClE A h v m e) (hs : s < aSz A m) (q : Q (nI (msk (pF A m e s) 10)) h) : wX0_picksAt S h v (nI s) Q := by
  have ws := w.s100
  have wa := (w.ev he).2.2.2.2.2.2.2.2
  unfold wX0_picksAt
  rw [H.2.2.2.2.1, hR.2.1, ix_nI (by omega), (H.2.2.2.2.2 s hs).1]
  refine ⟨by rw [hS.1], ?_⟩
  by_cases ha : aAs A m e = 0
  · rw [pF_eq ha] at q
    exact br_t (by rw [ha]; rfl) ⟨inA_of hS.2.2.1 (by omega) (by decide), q⟩
  · rw [(msk_0 (n := 10)).mpr fun i _ => pF_as ha i] at q
    exact br_f (nI_ne0 (by omega) (by omega)) q
theorem cSteps {A : Ab} {S : Sh} {h : Hp} {v m e s : Nat} {Q : Int32 → Hp → Prop} (hS : ES S v) (hR : ER h v) (w : wfM A m) (he : e < aEm A m) (H : ClE A h v m e) (hs : s < aSz A m) (q : Q (nI (msk (sF A m e s) 10)) h) : wX0_stepsAt S h v (nI s) Q := by
  have ws := w.s100
  have wa := (w.ev he).2.2.2.2.2.2.2.2
  unfold wX0_stepsAt
  rw [H.2.2.2.2.1, hR.2.2.1, ix_nI (by omega), (H.2.2.2.2.2 s hs).2.1]
  refine ⟨by rw [hS.1], ?_⟩
  by_cases ha : aAs A m e = 0
  · rw [sF_eq ha] at q
    exact br_t (by rw [ha]; rfl) ⟨inA_of hS.2.2.2.1 (by omega) (by decide), q⟩
  · rw [(msk_0 (n := 10)).mpr fun i _ => sF_as ha i] at q
    exact br_f (nI_ne0 (by omega) (by omega)) q
theorem cAfter {A : Ab} {S : Sh} {h : Hp} {v m e s i : Nat} {Q : Int32 → Hp → Prop} (hS : ES S v) (hR : ER h v) (w : wfM A m) (he : e < aEm A m) (H : ClE A h v m e) (hs : s < aSz A m) (hi : aFp A m e + i ≤ aLp A m e) (q : Q (aGv A m e s (aFp A m e + i)) h) : wX0_after S h v (nI s) (nI i) Q := by
  have ws := w.s100
  have we := w.ev he
  unfold wX0_after
  rw [hR.2.2.2, n_10, nI_mul, nI_add, ix_nI (by omega), Nat.mul_comm, (H.2.2.2.2.2 s hs).2.2 i hi]
  exact ⟨by rw [hS.1], inA_of hS.2.2.2.2 (by omega) (by decide), q⟩
theorem cBit {f : Nat → Bool} {i : Nat} (hi : i < 10) : shr32 (nI (msk f 10)) (nI i) &&& 1 = bI (f i) := by
  rw [bit_n (by have := m10 f; omega) (by omega), msk_bit, decide_eq_true hi, Bool.true_and]
  cases f i <;> rfl
theorem sF_i {A : Ab} {m e s i : Nat} (h : sF A m e s i = true) : aFp A m e + i ≤ aLp A m e ∧ gsA A m e s (aFp A m e + i) = true ∧ aGv A m e s (aFp A m e + i) ≠ -2 := by
  unfold sF at h
  rw [Bool.and_eq_true] at h
  refine ⟨of_decide_eq_true h.1, h.2, ?_⟩
  have := h.2
  unfold gsA at this
  rw [Bool.and_eq_true] at this
  exact of_decide_eq_true this.2
/-- whether an event gives the state x by a pick of the first n -/
def gvS (A : Ab) (m e s : Nat) (n x : Nat) : Bool := anyF (fun i => sF A m e s i && decide (aGv A m e s (aFp A m e + i) = nI x)) n 0
theorem anyF_snoc (f : Nat → Bool) : ∀ j i, anyF f (j + 1) i = (anyF f j i || f (i + j))
  | 0, i => by simp [anyF]
  | j + 1, i => by
    have := anyF_snoc f j (i + 1)
    unfold anyF
    rw [this, show i + 1 + j = i + (j + 1) by omega, Bool.or_assoc]
theorem cPutG_l {A : Ab} {S : Sh} {h0 : Hp} {v m e s b : Nat} {f : Nat → Bool} {Q : Hp → Prop} (hS : ES S v) (hR : ER h0 v) (w : wfM A m) (he : e < aEm A m) (H : ClE A h0 v m e) (hs : s < aSz A m) (hb : S b = (8, 0)) (hbv : b < v ∨ v + 4 < b)
    (q : ∀ h', Sm (fun c => c ≠ b) h0 h' → stB h' b (fun x => f x || gvS A m e s 10 x) → Q h') :
    ∀ (j i : Nat) (h : Hp), i + j = 10 → Sm (fun c => c ≠ b) h0 h → stB h b (fun x => f x || gvS A m e s i x) → wX0_putGiven_9 S v (nI s) b (nI (msk (sF A m e s) 10)) Q (j + 1) h (nI i)
  | 0, i, h, hj, s0, hf => by
    have : i = 10 := by omega
    subst this
    exact br_t (by decide) (q h s0 hf)
  | j + 1, i, h, hj, s0, hf => by
    have ws := w.s100
    show wX0_putGiven_9b S v (nI s) b (nI (msk (sF A m e s) 10)) Q (wX0_putGiven_9 S v (nI s) b (nI (msk (sF A m e s) 10)) Q (j + 1)) h (nI i)
    unfold wX0_putGiven_9b
    rw [cBit (by omega), nI_1]
    refine br_f (nI_ge (b := 10) (by omega) (by omega)) ?_
    have e1 : ∀ x, gvS A m e s (i + 1) x = (gvS A m e s i x || (sF A m e s i && decide (aGv A m e s (aFp A m e + i) = nI x))) := by
      intro x
      unfold gvS
      rw [anyF_snoc, Nat.zero_add]
    cases hc : sF A m e s i
    · refine br_t rfl (cPutG_l hS hR w he H hs hb hbv q j (i + 1) h (by omega) s0 ?_)
      refine hf.ext fun x _ => ?_
      rw [e1, hc, Bool.false_and, Bool.or_false]
    · obtain ⟨g1, g2, g3⟩ := sF_i hc
      rcases aGv_bd w e s (aFp A m e + i) with hg | ⟨k, hk, hg⟩
      · exact absurd hg g3
      have hR' : ER h v := hR.of fun k => s0.R (by omega) k
      have H' : ClE A h v m e := H.of (s0.mono fun c hc => by omega)
      refine br_f (by decide) ⟨by rw [hS.1], cAfter hS hR' w he H' hs g1 ⟨by rw [hb], ?_⟩⟩
      rw [hg]
      refine cPut hb hf (by omega) fun h1 s1 hf1 => cPutG_l hS hR w he H hs hb hbv q j (i + 1) h1 (by omega) (s0.tr s1) ?_
      refine hf1.ext fun x hx => ?_
      rw [e1, hc, hg, Bool.true_and, Bool.or_assoc, show decide (x = k) = decide (nI k = nI x) from decide_eq_decide.mpr (by rw [nI_eq (by omega) (by omega)]; exact eq_comm)]
theorem cPutG {A : Ab} {S : Sh} {h : Hp} {v m e s b : Nat} {f : Nat → Bool} {Q : Hp → Prop} (hS : ES S v) (hR : ER h v) (w : wfM A m) (he : e < aEm A m) (H : ClE A h v m e) (hs : s < aSz A m) (hb : S b = (8, 0)) (hbv : b < v ∨ v + 4 < b) (hf : stB h b f)
    (q : ∀ h', Sm (fun c => c ≠ b) h h' → stB h' b (fun x => f x || gvS A m e s 10 x) → Q h') : wX0_putGiven S h v (nI s) b Q := by
  refine ⟨by rw [hS.1], cSteps hS hR w he H hs ⟨_, cPutG_l hS hR w he H hs hb hbv q 10 0 h rfl Sm.rf ?_⟩⟩
  exact hf.ext fun x _ => by simp [gvS, anyF]
/-! a machine -/
def Cm (A : Ab) (S : Sh) (h : Hp) (a m : Nat) : Prop := MS S a ∧ MR h a ∧ ClM A h a m ∧ wfM A m
theorem Cm.of {A : Ab} {S : Sh} {h h' : Hp} {a m : Nat} (H : Cm A S h a m) (s : Sm (fun b => a ≤ b ∧ b < a + 131) h h') : Cm A S h' a m :=
  ⟨H.1, by
    obtain ⟨r1, r2, r3, r4⟩ := H.2.1
    exact ⟨fun k hk => by rw [s.R ⟨by omega, by omega⟩]; exact r1 k hk, fun e he => ⟨by rw [s.R ⟨by omega, by omega⟩]; exact (r2 e he).1, (r2 e he).2.of fun k => s.R ⟨by omega, by omega⟩ k⟩,
      fun t ht => by rw [s.R ⟨by omega, by omega⟩]; exact r3 t ht, fun i hi => by rw [s.R ⟨by omega, by omega⟩]; exact r4 i hi⟩, H.2.2.1.of H.2.2.2 s, H.2.2.2⟩
theorem Cm.E {A : Ab} {S : Sh} {h : Hp} {a m e : Nat} (H : Cm A S h a m) (he : e < aEm A m) : ES S (a + 11 + 5 * e) ∧ ER h (a + 11 + 5 * e) ∧ ClE A h (a + 11 + 5 * e) m e ∧ gR h (a + 6) e = a + 11 + 5 * e ∧ e < 4 := by
  have := H.2.2.2.e4
  exact ⟨H.1.2.2.2.2.2.2.2.2.2.2.2.1 e (by omega), (H.2.1.2.1 e (by omega)).2, H.2.2.1.2.2.2.2.2.2.2.2.1 e he, (H.2.1.2.1 e (by omega)).1, by omega⟩
theorem pF_any {A : Ab} {m e s : Nat} (w : wfM A m) (he : e < aEm A m) : msk (pF A m e s) 10 = 0 ↔ aAny A m e s = false := by
  have we := w.ev he
  rw [msk_0, Bool.eq_false_iff, Ne, aAny, anyF_iff]
  constructor
  · rintro h ⟨k, k1, k2, k3⟩
    unfold aNp at k2
    have := h (k - aFp A m e) (by omega)
    unfold pF at this
    rw [show aFp A m e + (k - aFp A m e) = k by omega, k3, decide_eq_true (by omega)] at this
    cases this
  · intro h i hi
    cases hc : pF A m e s i
    · rfl
    · unfold pF at hc
      rw [Bool.and_eq_true] at hc
      exact absurd ⟨aFp A m e + i, by omega, by unfold aNp; have := of_decide_eq_true hc.1; omega, hc.2⟩ h
theorem cAny_l {A : Ab} {S : Sh} {h : Hp} {a m s : Nat} {Q : Int32 → Hp → Prop} (H : Cm A S h a m) (hs : s < aSz A m) (q : Q (bI (aGo A m s)) h) : ∀ (j e : Nat), e + j = aEm A m → anyF (fun e => aAny A m e s) j e = aGo A m s → wX2_anyCan_2 S a (nI s) Q (j + 1) h (nI e)
  | 0, e, hj, ha => by
    have w4 := H.2.2.2.e4
    refine ⟨by rw [H.1.1], br_t ?_ ?_⟩
    · rw [H.2.2.1.2.2.2.1]
      exact nI_le (by omega) (by omega)
    · rw [← ha] at q
      exact q
  | j + 1, e, hj, ha => by
    have w4 := H.2.2.2.e4
    have he : e < aEm A m := by omega
    obtain ⟨e1, e2, e3, e4, e5⟩ := H.E he
    show wX2_anyCan_2b S a (nI s) Q (wX2_anyCan_2 S a (nI s) Q (j + 1)) h (nI e)
    unfold wX2_anyCan_2b
    rw [H.2.2.1.2.2.2.1, H.2.1.k (k := 5) (by omega), show a + 1 + 5 = a + 6 by omega, ix_nI (by omega), e4, nI_1]
    refine ⟨by rw [H.1.1], br_f (nI_ge (by omega) (by omega)) ⟨inA_of H.1.2.2.2.2.2.2.1 (by omega) (by decide), by rw [e1.1], cPicks e1 e2 H.2.2.2 he e3 hs ?_⟩⟩
    simp only [anyF] at ha
    cases hc : aAny A m e s
    · rw [(pF_any H.2.2.2 he).mpr hc]
      rw [hc, Bool.false_or] at ha
      exact br_t rfl (cAny_l H hs q j (e + 1) (by omega) ha)
    · rw [hc, Bool.true_or] at ha
      refine br_f (nI_ne0 ?_ (by have := m10 (pF A m e s); omega)) (by rw [← ha] at q; exact q)
      rcases Nat.eq_zero_or_pos (msk (pF A m e s) 10) with h0 | h0
      · rw [(pF_any H.2.2.2 he).mp h0] at hc
        cases hc
      · exact h0
theorem cAny {A : Ab} {S : Sh} {h : Hp} {a m s : Nat} {Q : Int32 → Hp → Prop} (H : Cm A S h a m) (hs : s < aSz A m) (q : Q (bI (aGo A m s)) h) : wX2_anyCan S h a (nI s) Q := ⟨_, cAny_l H hs q (aEm A m) 0 (by omega) rfl⟩
