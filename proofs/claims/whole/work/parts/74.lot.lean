/-! BY LOT: the ways on from a state, in their order -/
def chN (A : Ab) (m s n : Nat) : Nat := sumF (fun e => cntF (sF A m e s) 10) n
def chT (A : Ab) (m s : Nat) : Nat := chN A m s (aEm A m)
theorem cntF_mono (f : Nat → Bool) {i j : Nat} (h : i ≤ j) : cntF f i ≤ cntF f j := by
  induction j with
  | zero => rw [show i = 0 by omega]; exact Nat.le_refl _
  | succ j ih =>
    by_cases e : i = j + 1
    · rw [e]; exact Nat.le_refl _
    · exact Nat.le_trans (ih (by omega)) (Nat.le_add_right _ _)
theorem cntF_le (f : Nat → Bool) : ∀ n, cntF f n ≤ n
  | 0 => Nat.le_refl _
  | n + 1 => by
    have := cntF_le f n
    unfold cntF
    split <;> omega
theorem cntF_s (f : Nat → Bool) {i : Nat} (h : f i = true) : cntF f (i + 1) = cntF f i + 1 := by
  show cntF f i + (if f i = true then 1 else 0) = _
  rw [if_pos h]
theorem cntF_n (f : Nat → Bool) {i : Nat} (h : f i = false) : cntF f (i + 1) = cntF f i := by
  show cntF f i + (if f i = true then 1 else 0) = _
  rw [h]
  rfl
theorem chN_s (A : Ab) (m s n : Nat) : chN A m s (n + 1) = chN A m s n + cntF (sF A m n s) 10 := rfl
theorem chN_mono (A : Ab) (m s : Nat) {i j : Nat} (h : i ≤ j) : chN A m s i ≤ chN A m s j := by
  induction j with
  | zero => rw [show i = 0 by omega]; exact Nat.le_refl _
  | succ j ih =>
    by_cases e : i = j + 1
    · rw [e]; exact Nat.le_refl _
    · exact Nat.le_trans (ih (by omega)) (Nat.le_add_right _ _)
theorem chN_le (A : Ab) (m s : Nat) : ∀ n, chN A m s n ≤ 10 * n
  | 0 => Nat.le_refl _
  | n + 1 => by
    have := chN_le A m s n
    have h2 := cntF_le (sF A m n s) 10
    rw [chN_s]
    omega
def isCh (A : Ab) (m s k : Nat) (c : Nat × Nat) : Prop := c.1 < aEm A m ∧ c.2 < 10 ∧ sF A m c.1 s c.2 = true ∧ chN A m s c.1 + cntF (sF A m c.1 s) c.2 = k
theorem isCh_lt {A : Ab} {m s k k' : Nat} {c c' : Nat × Nat} (h : isCh A m s k c) (h' : isCh A m s k' c') (l : c.1 < c'.1 ∨ (c.1 = c'.1 ∧ c.2 < c'.2)) : k < k' := by
  obtain ⟨a1, a2, a3, a4⟩ := h
  obtain ⟨b1, b2, b3, b4⟩ := h'
  have e1 := cntF_s _ a3
  rcases l with l | ⟨l1, l2⟩
  · have h1 := cntF_mono (sF A m c.1 s) (show c.2 + 1 ≤ 10 by omega)
    have h2 := chN_mono A m s (show c.1 + 1 ≤ c'.1 by omega)
    rw [chN_s] at h2
    omega
  · have h1 := cntF_mono (sF A m c.1 s) (show c.2 + 1 ≤ c'.2 by omega)
    rw [← l1] at b4
    omega
theorem isCh_eq {A : Ab} {m s k : Nat} {c c' : Nat × Nat} (h : isCh A m s k c) (h' : isCh A m s k c') : c = c' := by
  by_cases l1 : c.1 < c'.1 ∨ (c.1 = c'.1 ∧ c.2 < c'.2)
  · exact absurd (isCh_lt h h' l1) (Nat.lt_irrefl _)
  · by_cases l2 : c'.1 < c.1 ∨ (c'.1 = c.1 ∧ c'.2 < c.2)
    · exact absurd (isCh_lt h' h l2) (Nat.lt_irrefl _)
    · exact Prod.ext (by omega) (by omega)
noncomputable def chX (A : Ab) (m s k : Nat) : Nat × Nat := Classical.epsilon (isCh A m s k)
theorem isCh.x {A : Ab} {m s k : Nat} {c : Nat × Nat} (h : isCh A m s k c) : c = chX A m s k := isCh_eq h (Classical.epsilon_spec ⟨c, h⟩)
theorem isCh.lt {A : Ab} {m s k : Nat} {c : Nat × Nat} (h : isCh A m s k c) : k < chT A m s := by
  obtain ⟨a1, a2, a3, a4⟩ := h
  have e1 := cntF_s _ a3
  have h1 := cntF_mono (sF A m c.1 s) (show c.2 + 1 ≤ 10 by omega)
  have h2 := chN_mono A m s (show c.1 + 1 ≤ aEm A m by omega)
  rw [chN_s] at h2
  unfold chT
  omega
theorem isCh.gv {A : Ab} {m s k : Nat} {c : Nat × Nat} (w : wfM A m) (h : isCh A m s k c) : aFp A m c.1 + c.2 ≤ aLp A m c.1 ∧ ∃ t, t < aSz A m ∧ aGv A m c.1 s (aFp A m c.1 + c.2) = nI t ∧ t = (aGv A m c.1 s (aFp A m c.1 + c.2)).toNatClampNeg := by
  obtain ⟨s1, s2, s3⟩ := sF_i h.2.2.1
  refine ⟨s1, ?_⟩
  rcases aGv_bd w c.1 s (aFp A m c.1 + c.2) with hg | ⟨k, hk, hg⟩
  · exact absurd hg s3
  · have := w.s100
    exact ⟨k, hk, hg, by rw [hg, nI_clamp (by omega)]⟩
theorem cnt_np {A : Ab} {m e s : Nat} (w : wfM A m) (he : e < aEm A m) : cntF (sF A m e s) (aNp A m e) = cntF (sF A m e s) 10 := by
  have we := w.ev he
  have hn : aNp A m e ≤ 10 := by unfold aNp; omega
  have : ∀ d, aNp A m e + d ≤ 10 → cntF (sF A m e s) (aNp A m e + d) = cntF (sF A m e s) (aNp A m e) := by
    intro d
    induction d with
    | zero => intro _; rfl
    | succ d ih =>
      intro hd
      rw [show aNp A m e + (d + 1) = aNp A m e + d + 1 by omega, cntF_n, ih (by omega)]
      cases hc : sF A m e s (aNp A m e + d)
      · rfl
      · have := (sF_i hc).1
        unfold aNp at this
        omega
  have h := this (10 - aNp A m e) (by omega)
  rw [show aNp A m e + (10 - aNp A m e) = 10 by omega] at h
  exact h.symm
/-- the reference's ways: K is none, or the way that is made -/
theorem rWay_p {A : Ab} {S : Sh} {h0 : Hp} {r m s e : Nat} {n : Int32} {B : Nat → Bool} {x1 : Int32} {B4 : Hp → Int32 → Int32 → Prop} {Q : Int32 → Hp → Prop} (H0 : Rf A S h0 r) (hm : m < aMM A) (hs : s < aSz A m) (he : e < aEm A m) (R0 : RunR h0 r m s n B)
    (nx : ∀ h', Pl r h0 h' → (∀ k, k < chN A m s (e + 1) → x1 ≠ nI k) → B4 h' (nI (chN A m s (e + 1))) (nI (e + 1)))
    (q : ∀ k c t h', x1 = nI k → isCh A m s k c → t < aSz A m → t = (aGv A m c.1 s (aFp A m c.1 + c.2)).toNatClampNeg → Mf r h0 h' → RunR h' r m t (n + 1) (wkB A m c.1 t B) → Q (nI k) h') :
    ∀ (j i : Nat) (h : Hp), i + j = aNp A m e → Pl r h0 h → (∀ k, k < chN A m s e + cntF (sF A m e s) i → x1 ≠ nI k) → wX12_ways_32 S B4 r x1 (nI e) Q (j + 1) h (nI (chN A m s e + cntF (sF A m e s) i)) (nI (aFp A m e + i))
  | 0, i, h, hj, s0, hno => by
    have H := H0.pl s0
    have h3 := H.m3
    have w := H.w hm
    have w4 := w.e4
    have we := w.ev he
    have R := R0.pl s0
    have hj' := hj
    unfold aNp at hj'
    have hi : i = aNp A m e := by omega
    show wX12_ways_32b S B4 r x1 (nI e) Q _ h _ _
    unfold wX12_ways_32b
    rw [R.1, H.2.1.lastPick, n_4, nI_mul, nI_add, ix_nI (by omega), ((H.M hm).ev he).2.2.1, nI_1 e]
    refine ⟨H.1.1, H.1.lastPick (by omega), br_t (nI_lt (by omega) (by omega)) ?_⟩
    rw [hi, cnt_np w he] at hno ⊢
    exact nx h s0 hno
  | j + 1, i, h, hj, s0, hno => by
    have H := H0.pl s0
    have h3 := H.m3
    have w := H.w hm
    have w4 := w.e4
    have we := w.ev he
    have R := R0.pl s0
    have hj' := hj
    unfold aNp at hj'
    have hc1 := chN_le A m s e
    have hc2 := cntF_le (sF A m e s) i
    show wX12_ways_32b S B4 r x1 (nI e) Q (wX12_ways_32 S B4 r x1 (nI e) Q (j + 1)) h _ _
    unfold wX12_ways_32b
    rw [R.1, R.2.1, H.2.1.lastPick, n_4, nI_mul, nI_add, ix_nI (by omega), ((H.M hm).ev he).2.2.1, nI_1 (aFp A m e + i), nI_1 (chN A m s e + cntF (sF A m e s) i), Nat.add_assoc (aFp A m e)]
    refine ⟨H.1.1, H.1.lastPick (by omega), br_f (nI_nlt (by omega) (by omega)) (rGoes H hm he hs fun h1 s1 => ?_)⟩
    have eS : sF A m e s i = gsA A m e s (aFp A m e + i) := by
      unfold sF
      rw [decide_eq_true (show aFp A m e + i ≤ aLp A m e by omega), Bool.true_and]
    have nx1 := rWay_p (Q := Q) H0 hm hs he R0 nx q j (i + 1) h1 (by omega) (s0.tr s1)
    rw [← eS]
    cases hc : sF A m e s i
    · refine ⟨fun n => absurd rfl n, fun _ => ?_⟩
      rw [cntF_n _ hc] at nx1
      exact nx1 hno
    · refine ⟨fun _ => ?_, fun n => absurd n (by decide)⟩
      rw [cntF_s _ hc, ← Nat.add_assoc] at nx1
      by_cases hk : nI (chN A m s e + cntF (sF A m e s) i) = x1
      · refine ⟨fun n => absurd hk n, fun _ => ?_⟩
        have hch : isCh A m s (chN A m s e + cntF (sF A m e s) i) (e, i) := ⟨he, by show i < 10; omega, hc, rfl⟩
        obtain ⟨g1, t, t1, t2, t3⟩ := hch.gv w
        exact rMakes (H.pl s1) hm he hs (R.pl s1) t1 t2 fun h2 m2 R2 => q _ (e, i) t h2 hk.symm hch t1 t3 ((Mf.pl (s0.tr s1)).tr m2) R2
      · refine ⟨fun _ => nx1 fun k hk1 => ?_, fun n => absurd n hk⟩
        by_cases e1 : k = chN A m s e + cntF (sF A m e s) i
        · rw [e1]
          exact fun q => hk q.symm
        · exact hno k (by omega)
theorem rWays {A : Ab} {S : Sh} {h : Hp} {r m s : Nat} {n : Int32} {B : Nat → Bool} {x1 : Int32} {Q : Int32 → Hp → Prop} (H : Rf A S h r) (hm : m < aMM A) (hs : s < aSz A m) (R : RunR h r m s n B)
    (q0 : (∀ k, k < chT A m s → x1 ≠ nI k) → ∀ h', Pl r h h' → Q (nI (chT A m s)) h')
    (q : ∀ k c t h', x1 = nI k → isCh A m s k c → t < aSz A m → t = (aGv A m c.1 s (aFp A m c.1 + c.2)).toNatClampNeg → Mf r h h' → RunR h' r m t (n + 1) (wkB A m c.1 t B) → Q (nI k) h') : wX12_ways S h r x1 Q := by
  have w4 := (H.w hm).e4
  have lp : ∀ (j e : Nat) (h1 : Hp), e + j = aEm A m → Pl r h h1 → (∀ k, k < chN A m s e → x1 ≠ nI k) → wX12_ways_4 S r x1 Q (j + 1) h1 (nI (chN A m s e)) (nI e) := by
    intro j
    induction j with
    | zero =>
      intro e h1 hj s1 hno
      have H1 := H.pl s1
      have h3 := H1.m3
      have R1 := R.pl s1
      show wX12_ways_4b S r x1 Q _ h1 _ _
      unfold wX12_ways_4b
      rw [R1.1, H1.2.1.eventMany, ix_nI (by omega), (H1.M hm).2.2.1]
      have he : e = aEm A m := by omega
      subst he
      exact ⟨H1.1.1, H1.1.eventMany (by omega), br_t (nI_le (by omega) (by omega)) (q0 hno h1 s1)⟩
    | succ j ih =>
      intro e h1 hj s1 hno
      have H1 := H.pl s1
      have h3 := H1.m3
      have R1 := R.pl s1
      have he : e < aEm A m := by omega
      have we := (H1.w hm).ev he
      show wX12_ways_4b S r x1 Q (wX12_ways_4 S r x1 Q (j + 1)) h1 _ _
      unfold wX12_ways_4b
      rw [R1.1, H1.2.1.eventMany, H1.2.1.firstPick, n_4, nI_mul, nI_add, ix_nI (by omega), ix_nI (by omega), (H1.M hm).2.2.1, ((H1.M hm).ev he).2.1]
      refine ⟨H1.1.1, H1.1.eventMany (by omega), br_f (nI_ge (by omega) (by omega)) ⟨H1.1.firstPick (by omega), nm_e ⟨_, rWay_p H1 hm hs he R1 (fun h2 s2 hno2 => ih (e + 1) h2 (by omega) (s1.tr s2) hno2) (fun k c t h2 g1 g2 g3 g4 g5 g6 => q k c t h2 g1 g2 g3 g4 ((Mf.pl s1).tr g5) g6) (aNp A m e) 0 h1 (by omega) Sm.rf hno⟩⟩⟩
  exact ⟨_, lp (aEm A m) 0 h (by omega) Sm.rf (fun k hk => absurd hk (by show ¬ k < 0; omega))⟩
