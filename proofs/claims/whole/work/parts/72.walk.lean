/-! THE RUN: what stands beside, behind an event -/
def wkB (A : Ab) (m e t : Nat) (B : Nat → Bool) (x : Nat) : Bool :=
  if m = 0 then B x else if aOe A m e = 0 then B x && glF A m t x else anyF (fun a => B a && gvS A (m - 1) (aOe A m e - 1) a 10 x) (aSz A (m - 1)) 0 && glF A m t x
abbrev Wf (r : Nat) (h h' : Hp) : Prop := Sm (fun b => b ≠ r + 27 ∧ b ≠ r + 31 ∧ b ≠ r + 32) h h'
theorem Rf.wf {A : Ab} {S : Sh} {h h' : Hp} {r : Nat} (H : Rf A S h r) (s : Wf r h h') : Rf A S h' r :=
  H.of (s.mono fun a ha => by omega) (s.I ⟨by omega, by omega, by omega⟩ _) (fun k => s.R ⟨by omega, by omega, by omega⟩ k)
def bsR (h : Hp) (r : Nat) (B : Nat → Bool) : Prop := ∀ x, x < 100 → gI h (r + 31) x = bI (B x)
theorem bsR.pl {h h' : Hp} {r : Nat} {B : Nat → Bool} (H : bsR h r B) (s : Pl r h h') : bsR h' r B := fun x hx => by rw [s.I (by omega)]; exact H x hx
theorem bsR.set {h : Hp} {r k : Nat} {B : Nat → Bool} (H : bsR h r B) (hk : k < 100) : bsR (pI h (r + 31) k 1) r (fun x => B x || decide (x = k)) := by
  intro x hx
  rw [gI_pI]
  by_cases e : x = k
  · rw [if_pos ⟨rfl, e⟩]
    simp [e, bI]
  · rw [if_neg (fun q => e q.2), H x hx]
    simp [e]
theorem bsR.ext {h : Hp} {r : Nat} {B C : Nat → Bool} (H : bsR h r B) (e : ∀ x, x < 100 → B x = C x) : bsR h r C := fun x hx => by rw [← e x hx]; exact H x hx
theorem gvS_np {A : Ab} {m e s x : Nat} (w : wfM A m) (he : e < aEm A m) : gvS A m e s (aNp A m e) x = gvS A m e s 10 x := by
  have we := w.ev he
  apply Bool.eq_iff_iff.mpr
  unfold gvS
  rw [anyF_iff, anyF_iff]
  constructor
  · rintro ⟨k, k1, k2, k3⟩
    unfold aNp at k2
    exact ⟨k, k1, by omega, k3⟩
  · rintro ⟨k, k1, k2, k3⟩
    rw [Bool.and_eq_true] at k3
    have := (sF_i k3.1).1
    exact ⟨k, k1, by unfold aNp; omega, by rw [Bool.and_eq_true]; exact k3⟩
theorem rFol_p {A : Ab} {S : Sh} {h0 : Hp} {r m o a t : Nat} {C : Nat → Bool} {B63 : Hp → Int32 → Prop} {Q : Hp → Prop} (H0 : Rf A S h0 r) (hm : m < aMM A) (hm0 : 0 < m) (ho : o < aEm A (m - 1)) (ha : a < aSz A (m - 1)) (ht : t < aSz A m)
    (q : ∀ h', Wf r h0 h' → (∀ x, gI h' (r + 32) x = gI h0 (r + 32) x) → bsR h' r (fun x => C x || (gvS A (m - 1) o a 10 x && glF A m t x)) → B63 h' (nI (a + 1))) :
    ∀ (j i : Nat) (h : Hp), i + j = aNp A (m - 1) o → Wf r h0 h → (∀ x, gI h (r + 32) x = gI h0 (r + 32) x) → bsR h r (fun x => C x || (gvS A (m - 1) o a i x && glF A m t x)) →
      wX12_follows_137 S B63 r (nI t) (nI m) (nI o) (nI a) Q (j + 1) h (nI (aFp A (m - 1) o + i))
  | 0, i, h, hj, s0, h32, hb => by
    have H := H0.wf s0
    have h3 := H.m3
    have hm1 : m - 1 < aMM A := by omega
    have w4 := (H.w hm1).e4
    have we := (H.w hm1).ev ho
    unfold aNp at hj
    show wX12_follows_137b S B63 r (nI t) (nI m) (nI o) (nI a) Q _ h _
    unfold wX12_follows_137b
    rw [H.2.1.lastPick, show nI m - 1 = nI (m - 1) from n_sub (b := 1) hm0, n_4, nI_mul, nI_add, ix_nI (by omega), ((H.M hm1).ev ho).2.2.1, nI_1 a]
    refine ⟨H.1.1, H.1.lastPick (by omega), br_t (nI_lt (by omega) (by omega)) (q h s0 h32 ?_)⟩
    refine hb.ext fun x _ => ?_
    rw [← gvS_np (H.w hm1) ho]
    unfold aNp
    rw [show aLp A (m - 1) o + 1 - aFp A (m - 1) o = i by omega]
  | j + 1, i, h, hj, s0, h32, hb => by
    have H := H0.wf s0
    have h3 := H.m3
    have hm1 : m - 1 < aMM A := by omega
    have w4 := (H.w hm1).e4
    have we := (H.w hm1).ev ho
    have ws1 := (H.w hm1).s100
    have hj' := hj
    unfold aNp at hj'
    have nx := fun h' s' h32' hb' => rFol_p (Q := Q) H0 hm hm0 ho ha ht q j (i + 1) h' (by omega) s' h32' hb'
    show wX12_follows_137b S B63 r (nI t) (nI m) (nI o) (nI a) Q (wX12_follows_137 S B63 r (nI t) (nI m) (nI o) (nI a) Q (j + 1)) h _
    unfold wX12_follows_137b
    rw [H.2.1.lastPick, show nI m - 1 = nI (m - 1) from n_sub (b := 1) hm0, n_4, nI_mul, nI_add, ix_nI (by omega), ((H.M hm1).ev ho).2.2.1]
    have e1 : ∀ x, gvS A (m - 1) o a (i + 1) x = (gvS A (m - 1) o a i x || (sF A (m - 1) o a i && decide (aGv A (m - 1) o a (aFp A (m - 1) o + i) = nI x))) := by
      intro x
      unfold gvS
      rw [anyF_snoc, Nat.zero_add]
    have eS : sF A (m - 1) o a i = gsA A (m - 1) o a (aFp A (m - 1) o + i) := by
      unfold sF
      rw [decide_eq_true (show aFp A (m - 1) o + i ≤ aLp A (m - 1) o by omega), Bool.true_and]
    refine ⟨H.1.1, H.1.lastPick (by omega), br_f (nI_nlt (by omega) (by omega)) (rCan H hm1 ho ha fun h1 s1 => ?_)⟩
    have wf1 : ∀ {h1}, Pl r h h1 → Wf r h0 h1 := fun s => s0.tr (s.mono fun b hb => hb.1)
    have no : ∀ h1, Pl r h h1 → sF A (m - 1) o a i = false → wX12_follows_137 S B63 r (nI t) (nI m) (nI o) (nI a) Q (j + 1) h1 (nI (aFp A (m - 1) o + i) + 1) := by
      intro h1 s1 hs
      rw [nI_1, Nat.add_assoc]
      refine nx h1 (wf1 s1) (fun x => by rw [s1.I (by omega)]; exact h32 x) ((hb.pl s1).ext fun x _ => ?_)
      rw [e1, hs, Bool.false_and, Bool.or_false]
    cases hc : cbA A (m - 1) o a (aFp A (m - 1) o + i)
    · refine br_t rfl (br_t rfl (no h1 s1 ?_))
      rw [eS]
      unfold gsA
      rw [hc, Bool.false_and]
    · refine br_f (by decide) (rGiv (H.pl s1) hm1 ho ha fun h2 s2 => ?_)
      have s12 := s1.tr s2
      have H2 := H.pl s12
      unfold wX12_follows_j189
      rcases aGv_bd (H.w hm1) o a (aFp A (m - 1) o + i) with hg | ⟨k, hk, hg⟩
      · refine br_t hg (no h2 s12 ?_)
        rw [eS]
        unfold gsA
        rw [hg, hc]
        rfl
      · rw [hg]
        refine br_f (nI_n2 (by omega)) ⟨H2.1.1, ?_⟩
        rw [H2.2.1.isGlued]
        have hsf : sF A (m - 1) o a i = true := by
          rw [eS]
          unfold gsA
          rw [hg, hc, decide_eq_true (nI_n2 (k := k) (by omega))]
          rfl
        refine rPair H2 hm hm0 hk ht fun g1 g2 => ⟨g1, ?_⟩
        have hgl := (H.w hm).gl hm0 hk ht
        rw [g2, H2.2.1.isBeside, nI_1, Nat.add_assoc, ix_nI (by omega)]
        have eG : glF A m t k = decide (aGl A m k t = 1) := by unfold glF; rw [decide_eq_true hk, Bool.true_and]
        have eX : ∀ x, x < 100 → decide (nI k = nI x) = decide (x = k) := fun x hx => decide_eq_decide.mpr (by rw [nI_eq (by omega) (by omega)]; exact eq_comm)
        by_cases hx : aGl A m k t = 1
        · rw [hx]
          refine br_f (by decide) ⟨H2.1.isBeside (by omega), ?_⟩
          rw [show (1 : Int32) &&& 1 = 1 by decide]
          refine nx _ ((wf1 s12).pI (by simp) _ _) (fun x => ?_) (((hb.pl s12).set (k := k) (by omega)).ext fun x hx' => ?_)
          · rw [gI_pI, if_neg (by omega), s12.I (by omega)]
            exact h32 x
          · rw [e1, hsf, hg, Bool.true_and, eX x hx']
            by_cases exk : x = k
            · subst exk
              rw [eG, decide_eq_true hx]
              simp
            · simp [exk]
        · rw [show aGl A m k t = 0 by omega]
          refine br_t rfl (nx h2 (wf1 s12) (fun x => by rw [s12.I (by omega)]; exact h32 x) ((hb.pl s12).ext fun x hx' => ?_))
          rw [e1, hsf, hg, Bool.true_and, eX x hx']
          by_cases exk : x = k
          · subst exk
            rw [eG, decide_eq_false hx]
            simp
          · simp [exk]
/-- those of the first n states ahead that are beside behind the event -/
def wkA (A : Ab) (m e t : Nat) (B : Nat → Bool) (n x : Nat) : Bool :=
  if aOe A m e = 0 then decide (x < n) && (B x && glF A m t x) else anyF (fun a => B a && gvS A (m - 1) (aOe A m e - 1) a 10 x) n 0 && glF A m t x
theorem rFol_a {A : Ab} {S : Sh} {h0 : Hp} {r m e t : Nat} {B : Nat → Bool} {Q : Hp → Prop} (H0 : Rf A S h0 r) (hm : m < aMM A) (hm0 : 0 < m) (he : e < aEm A m) (ht : t < aSz A m) (hB : ∀ x, x < 100 → gI h0 (r + 32) x = bI (B x))
    (q : ∀ h', Wf r h0 h' → bsR h' r (wkB A m e t B) → Q h') :
    ∀ (j a : Nat) (h : Hp), a + j = aSz A (m - 1) → Wf r h0 h → (∀ x, gI h (r + 32) x = gI h0 (r + 32) x) → bsR h r (wkA A m e t B a) → wX12_follows_63 S r (nI t) (nI m) (aOI A m e) Q (j + 1) h (nI a) := by
  intro j
  induction j with
  | zero =>
    intro a h hj s0 h32 hb
    have H := H0.wf s0
    have h3 := H.m3
    have hm1 : m - 1 < aMM A := by omega
    have ws1 := (H.w hm1).s100
    show wX12_follows_63b S r (nI t) (nI m) (aOI A m e) Q _ h (nI a)
    unfold wX12_follows_63b
    rw [H.2.1.sizes, show nI m - 1 = nI (m - 1) from n_sub (b := 1) hm0, ix_nI (by omega), (H.M hm1).2.2.2.1]
    refine ⟨H.1.1, H.1.sizes (by omega), br_t (nI_le (by omega) (by omega)) (q h s0 (hb.ext fun x hx => ?_))⟩
    unfold wkA wkB
    rw [if_neg (show ¬ m = 0 by omega)]
    split
    · rw [show a = aSz A (m - 1) by omega]
      unfold glF
      cases decide (x < aSz A (m - 1)) <;> simp
    · rw [show a = aSz A (m - 1) by omega]
  | succ j ih =>
    intro a h hj s0 h32 hb
    have H := H0.wf s0
    have h3 := H.m3
    have w := H.w hm
    have hm1 : m - 1 < aMM A := by omega
    have ws1 := (H.w hm1).s100
    have w4 := (H.w hm1).e4
    have we := w.ev he
    have ha : a < aSz A (m - 1) := by omega
    show wX12_follows_63b S r (nI t) (nI m) (aOI A m e) Q (wX12_follows_63 S r (nI t) (nI m) (aOI A m e) Q (j + 1)) h (nI a)
    unfold wX12_follows_63b
    rw [H.2.1.sizes, H.2.1.wasBeside, H.2.1.firstPick, H.2.1.isGlued, show nI m - 1 = nI (m - 1) from n_sub (b := 1) hm0, ix_nI (by omega), ix_nI (by omega), (H.M hm1).2.2.2.1, h32, hB a (by omega)]
    refine ⟨H.1.1, H.1.sizes (by omega), br_f (nI_ge (by omega) (by omega)) ⟨H.1.wasBeside (by omega), ?_⟩⟩
    have eA : ∀ x, aOe A m e ≠ 0 → wkA A m e t B (a + 1) x = (wkA A m e t B a x || (B a && gvS A (m - 1) (aOe A m e - 1) a 10 x && glF A m t x)) := by
      intro x hn
      unfold wkA
      rw [if_neg hn, if_neg hn, anyF_snoc, Nat.zero_add, Bool.and_or_distrib_right]
    have e0 : ∀ x, aOe A m e = 0 → wkA A m e t B (a + 1) x = (wkA A m e t B a x || (decide (x = a) && (B x && glF A m t x))) := by
      intro x hn
      unfold wkA
      rw [if_pos hn, if_pos hn, ← Bool.and_or_distrib_right]
      congr 1
      by_cases h1 : x = a
      · simp [h1]
      · simp [h1]
        omega
    cases hBa : B a
    · refine ⟨fun n => absurd rfl n, fun _ => ?_⟩
      rw [nI_1 a]
      refine ih (a + 1) h (by omega) s0 h32 (hb.ext fun x _ => ?_)
      by_cases ho : aOe A m e = 0
      · rw [e0 x ho]
        by_cases h1 : x = a
        · simp [h1, hBa]
        · simp [h1]
      · rw [eA x ho, hBa, Bool.false_and, Bool.false_and, Bool.or_false]
    · refine ⟨fun _ => ?_, fun n => absurd n (by decide)⟩
      by_cases ho : aOe A m e = 0
      · have eO : aOI A m e = -2 := by unfold aOI; rw [if_pos ho]
        refine ⟨fun n => absurd eO n, fun _ => rPair H hm hm0 ha ht fun g1 g2 => ⟨g1, ?_⟩⟩
        have hgl := w.gl hm0 ha ht
        have eG : glF A m t a = decide (aGl A m a t = 1) := by unfold glF; rw [decide_eq_true ha, Bool.true_and]
        rw [g2, H.2.1.isBeside, nI_1 a]
        by_cases hx : aGl A m a t = 1
        · rw [hx]
          refine br_f (by decide) ⟨H.1.isBeside (by omega), ?_⟩
          rw [show (1 : Int32) &&& 1 = 1 by decide]
          refine ih (a + 1) _ (by omega) (s0.pI (by simp) _ _) (fun x => ?_) ((hb.set (k := a) (by omega)).ext fun x _ => ?_)
          · rw [gI_pI, if_neg (by omega)]
            exact h32 x
          · rw [e0 x ho]
            by_cases h1 : x = a
            · simp [h1, hBa, eG, hx]
            · simp [h1]
        · rw [show aGl A m a t = 0 by omega]
          refine br_t rfl (ih (a + 1) h (by omega) s0 h32 (hb.ext fun x _ => ?_))
          rw [e0 x ho]
          by_cases h1 : x = a
          · simp [h1, eG, hx]
          · simp [h1]
      · have ho1 := we.2.2.2.1 ho
        have eO : aOI A m e = nI (aOe A m e - 1) := by unfold aOI; rw [if_neg ho]
        rw [eO]
        refine ⟨fun _ => ?_, fun n => absurd n (nI_n2 (by omega))⟩
        rw [n_4, nI_mul, nI_add, ix_nI (by omega), ((H.M hm1).ev (e := aOe A m e - 1) (by omega)).2.1]
        rw [← eO]
        refine ⟨H.1.firstPick (by omega), nm_e ⟨aNp A (m - 1) (aOe A m e - 1) + 1, ?_⟩⟩
        rw [eO]
        refine rFol_p (C := wkA A m e t B a) H hm hm0 (o := aOe A m e - 1) (by omega) ha ht (fun h' s' h32' hb' => ?_) (aNp A (m - 1) (aOe A m e - 1)) 0 h (by omega) Sm.rf (fun _ => rfl) (hb.ext fun x _ => by simp [gvS, anyF])
        have := ih (a + 1) h' (by omega) (s0.tr s') (fun x => (h32' x).trans (h32 x)) (hb'.ext fun x _ => by rw [eA x ho, hBa, Bool.true_and])
        rw [eO] at this
        exact this
