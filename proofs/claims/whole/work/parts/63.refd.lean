theorem fdP_le {P : Nat → Bool} {a s : Nat} : ∀ (j p : Nat) (f : Fo), (fdP P a s j p f).1 ≤ f.1 + j
  | 0, _, _ => Nat.le_refl _
  | j + 1, p, f => by
    unfold fdP
    refine Nat.le_trans (fdP_le j (p + 1) _) ?_
    split
    · rw [nt_le]; omega
    · omega
theorem fdS_le {P : Nat → Nat → Bool} {K : Nat → Bool} {np fp a : Nat} : ∀ (j s : Nat) (f : Fo), (fdS P K np fp a j s f).1 ≤ f.1 + j * np
  | 0, _, _ => Nat.le_add_right _ _
  | j + 1, s, f => by
    unfold fdS
    refine Nat.le_trans (fdS_le j (s + 1) _) ?_
    rw [Nat.add_mul]
    split
    · have := fdP_le (P := P s) (a := a) (s := s) np fp f
      omega
    · omega
theorem rFail_p {A : Ab} {S : Sh} {h0 : Hp} {r m e d a s : Nat} {t : Bool} {B6 B30 : Hp → Int32 → Int32 → Prop} {Q : Int32 → Hp → Prop} (H0 : Rf A S h0 r) (hm : m < aMM A) (he : e < aEm A m) (hs : s < aSz A m) (ha : 0 < m → a < aSz A (m - 1)) (hd : d < 3)
    {F : Fo} (q : ∀ h', Sw r m t h0 h' F → B30 h' (nI F.1) (nI (s + 1))) :
    ∀ (j p : Nat) (f : Fo) (h : Hp), p + j = aLp A m e + 1 → Sw r m t h0 h f → f.1 + j ≤ 1000000 → fdP (fun p => cbA A m e s p && aFl A m e d a s p) a s j p f = F → wX12_failing_89 S B6 B30 r (nI m) (nI e) (nI d) (bI t) (nI a) (nI s) Q (j + 1) h (nI f.1) (nI p)
  | 0, p, f, h, hj, W, _, hf => by
    have H := W.Rf H0
    have h3 := H.m3
    have w4 := (H.w hm).e4
    have we := (H.w hm).ev he
    show wX12_failing_89b S B6 B30 r (nI m) (nI e) (nI d) (bI t) (nI a) (nI s) Q _ h (nI f.1) (nI p)
    unfold wX12_failing_89b
    rw [H.2.1.lastPick, n_4, nI_mul, nI_add, ix_nI (by omega), ((H.M hm).ev he).2.2.1, nI_1 s]
    refine ⟨H.1.1, H.1.lastPick (by omega), br_t (nI_lt (by omega) (by omega)) ?_⟩
    subst hf
    exact q h W
  | j + 1, p, f, h, hj, W, hb, hf => by
    have H := W.Rf H0
    have h3 := H.m3
    have w4 := (H.w hm).e4
    have we := (H.w hm).ev he
    have nx := fun f' h' (W' : Sw r m t h0 h' f') hb' hf' => rFail_p (B6 := B6) (Q := Q) H0 hm he hs ha hd q j (p + 1) f' h' (by omega) W' hb' hf'
    show wX12_failing_89b S B6 B30 r (nI m) (nI e) (nI d) (bI t) (nI a) (nI s) Q (wX12_failing_89 S B6 B30 r (nI m) (nI e) (nI d) (bI t) (nI a) (nI s) Q (j + 1)) h (nI f.1) (nI p)
    unfold wX12_failing_89b
    rw [H.2.1.lastPick, n_4, nI_mul, nI_add, ix_nI (by omega), ((H.M hm).ev he).2.2.1, nI_1 p, nI_1 f.1]
    refine ⟨H.1.1, H.1.lastPick (by omega), br_f (nI_nlt (by omega) (by omega)) (rCan H hm he hs fun h1 s1 => ?_)⟩
    unfold fdP at hf
    cases hc : cbA A m e s p
    · rw [hc, Bool.false_and] at hf
      exact br_t rfl (nx f h1 (W.pl s1) (by omega) hf)
    · rw [hc, Bool.true_and] at hf
      refine br_f (by decide) (rFails (H.pl s1) hm he hs ha hd fun h2 s2 => ?_)
      have W2 := (W.pl s1).pl s2
      cases hl : aFl A m e d a s p
      · rw [hl] at hf
        exact ⟨fun n => absurd rfl n, fun _ => nx f h2 W2 (by omega) hf⟩
      · rw [hl, if_pos rfl] at hf
        refine ⟨fun _ => ?_, fun n => absurd n (by decide)⟩
        have hn := nt_le (f := f) (a := a) (s := s) (p := p)
        by_cases hf0 : f.1 = 0
        · refine ⟨fun n => absurd (by rw [hf0]; rfl) n, fun _ => ?_⟩
          cases t
          · refine br_t rfl ?_
            have := nx (nt f a s p) h2 (W2.more (Or.inl rfl) a s p) (by omega) hf
            rw [hn] at this
            exact this
          · refine br_f (by decide) (rShows H.1.1 W2 hf0 fun h4 W4 => ?_)
            have := nx (nt f a s p) h4 W4 (by omega) hf
            rw [hn] at this
            exact this
        · refine ⟨fun _ => ?_, fun n => absurd n (nI_ne0 (by omega) (by omega))⟩
          have := nx (nt f a s p) h2 (W2.more (Or.inr hf0) a s p) (by omega) hf
          rw [hn] at this
          exact this
theorem aPd_bd {A : Ab} {S : Sh} {h : Hp} {r m a s : Nat} (H : Rf A S h r) (hm : m < aMM A) (ha : 0 < m → a < aSz A (m - 1)) (hs : s < aSz A m) :
    (m = 0 → gI h (r + 28) s = bI (aPd A m a s)) ∧ (0 < m → gI h (r + 29) (10000 * (m - 1) + 100 * a + s) = bI (aPd A m a s)) := by
  have w := H.w hm
  refine ⟨fun e => ?_, fun e => ?_⟩
  · subst e
    have := (H.G hm).1 s hs
    rw [Nat.mul_zero, Nat.zero_add] at this
    rw [this]
    unfold aPd
    rw [if_pos rfl]
    exact n01 (w.sn hs)
  · rw [(H.G hm).2 e a s (ha e) hs]
    unfold aPd
    rw [if_neg (by omega)]
    exact n01 (w.gl e (ha e) hs)
theorem rFail_s {A : Ab} {S : Sh} {h0 : Hp} {r m e d a : Nat} {t : Bool} {B6 : Hp → Int32 → Int32 → Prop} {Q : Int32 → Hp → Prop} (H0 : Rf A S h0 r) (hm : m < aMM A) (he : e < aEm A m) (ha : 0 < m → a < aSz A (m - 1)) (ha' : a < 100) (hd : d < 3)
    {F : Fo} (q : ∀ h', Sw r m t h0 h' F → B6 h' (nI F.1) (nI (a + 1))) :
    ∀ (j s : Nat) (f : Fo) (h : Hp), s + j = aSz A m → Sw r m t h0 h f → f.1 + 10 * j ≤ 1000000 → fdS (fun s p => cbA A m e s p && aFl A m e d a s p) (aPd A m a) (aNp A m e) (aFp A m e) a j s f = F → wX12_failing_30 S B6 r (nI m) (nI e) (nI d) (bI t) (nI a) Q (j + 1) h (nI f.1) (nI s)
  | 0, s, f, h, hj, W, _, hf => by
    have H := W.Rf H0
    have h3 := H.m3
    have ws := (H.w hm).s100
    show wX12_failing_30b _ _ _ _ _ _ _ _ _ _ _ _ _
    unfold wX12_failing_30b
    rw [H.2.1.sizes, ix_nI (by omega), (H.M hm).2.2.2.1, nI_1 a]
    refine ⟨H.1.1, H.1.sizes (by omega), br_t (nI_le (by omega) (by omega)) ?_⟩
    subst hf
    exact q h W
  | j + 1, s, f, h, hj, W, hb, hf => by
    have H := W.Rf H0
    have h3 := H.m3
    have w := H.w hm
    have ws := w.s100
    have w4 := w.e4
    have we := w.ev he
    have nx := fun f' h' (W' : Sw r m t h0 h' f') hb' hf' => rFail_s (Q := Q) H0 hm he ha ha' hd q j (s + 1) f' h' (by omega) W' hb' hf'
    have pd := aPd_bd H hm (a := a) (s := s) ha (by omega)
    have picks : aPd A m a s = true → wX12_failing_j77 S B6 (wX12_failing_30 S B6 r (nI m) (nI e) (nI d) (bI t) (nI a) Q (j + 1)) h r (nI m) (nI e) (nI d) (bI t) (nI f.1) (nI a) (nI s) Q := by
      intro hp
      unfold wX12_failing_j77
      rw [H.2.1.firstPick, n_4, nI_mul, nI_add, ix_nI (by omega), ((H.M hm).ev he).2.1]
      have hnp : aNp A m e ≤ 10 := by unfold aNp; omega
      refine ⟨H.1.1, H.1.firstPick (by omega), nm_e ⟨_, rFail_p H0 hm he (by omega) ha hd (fun h' W' => ?_) (aNp A m e) (aFp A m e) f h (by unfold aNp; omega) W (by omega) rfl⟩⟩
      refine nx _ h' W' ?_ ?_
      · have := fdP_le (P := fun p => cbA A m e s p && aFl A m e d a s p) (a := a) (s := s) (aNp A m e) (aFp A m e) f
        omega
      · unfold fdS at hf
        rw [hp, if_pos rfl] at hf
        exact hf
    have skip : aPd A m a s = false → wX12_failing_30 S B6 r (nI m) (nI e) (nI d) (bI t) (nI a) Q (j + 1) h (nI f.1) (nI (s + 1)) := by
      intro hp
      refine nx f h W (by omega) ?_
      unfold fdS at hf
      rw [hp] at hf
      exact hf
    show wX12_failing_30b _ _ _ _ _ _ _ _ _ (wX12_failing_30 S B6 r (nI m) (nI e) (nI d) (bI t) (nI a) Q (j + 1)) _ _ _
    unfold wX12_failing_30b
    rw [H.2.1.sizes, H.2.1.isGlued, H.2.1.isSound, ix_nI (by omega), ix_nI (by omega), (H.M hm).2.2.2.1, nI_1 s]
    refine ⟨H.1.1, H.1.sizes (by omega), br_f (nI_ge (by omega) (by omega)) ?_⟩
    by_cases hm0 : m = 0
    · refine ⟨fun n => absurd (by rw [hm0]; rfl) n, fun _ => ⟨H.1.isSound (by omega), ?_⟩⟩
      rw [pd.1 hm0]
      cases hp : aPd A m a s
      · exact ⟨fun n => absurd rfl n, fun _ => skip hp⟩
      · exact ⟨fun _ => picks hp, fun n => absurd n (by decide)⟩
    · refine ⟨fun _ => ?_, fun n => absurd n (nI_ne0 (by omega) (by omega))⟩
      have w2 := (H.w (m := m - 1) (by omega)).s100
      have ha2 := ha (by omega)
      unfold wX12_pair
      rw [n_pair (by omega)]
      refine ⟨H.1.isGlued (by omega), ?_⟩
      rw [ix_nI (by omega), pd.2 (by omega)]
      cases hp : aPd A m a s
      · exact ⟨fun n => absurd rfl n, fun _ => skip hp⟩
      · exact ⟨fun _ => picks hp, fun n => absurd n (by decide)⟩
theorem rFail_a {A : Ab} {S : Sh} {h0 : Hp} {r m e d : Nat} {t : Bool} {Q : Int32 → Hp → Prop} (H0 : Rf A S h0 r) (hm : m < aMM A) (he : e < aEm A m) (hd : d < 3) (q : ∀ h', Sw r m t h0 h' (aVd A m e d) → Q (nI (aVd A m e d).1) h') :
    ∀ (j a : Nat) (f : Fo) (h : Hp), a + j = aSa A m → Sw r m t h0 h f → f.1 + 1000 * j ≤ 1000000 → fdA (fun a s p => cbA A m e s p && aFl A m e d a s p) (aPd A m) (aNp A m e) (aFp A m e) (aSz A m) j a f = aVd A m e d →
      wX12_failing_6 S r (nI m) (nI e) (nI d) (bI t) Q (j + 1) h (nI f.1) (nI a) := by
  intro j
  induction j with
  | zero =>
    intro a f h hj W _ hf
    have H := W.Rf H0
    have h3 := H.m3
    have q' := q h (by rw [← hf]; exact W)
    rw [← hf] at q'
    show wX12_failing_6b _ _ _ _ _ _ _ _ _ _ _
    unfold wX12_failing_6b wX12_failing_j24
    by_cases hm0 : m = 0
    · refine ⟨fun n => absurd (by rw [hm0]; rfl) n, fun _ => br_t ?_ q'⟩
      unfold aSa at hj
      rw [if_pos hm0] at hj
      exact nI_le (a := 1) (by omega) (by omega)
    · refine ⟨fun _ => ⟨H.1.1, ?_⟩, fun n => absurd n (nI_ne0 (by omega) (by omega))⟩
      have w2 := (H.w (m := m - 1) (by omega)).s100
      unfold aSa at hj
      rw [if_neg hm0] at hj
      rw [show nI m - 1 = nI (m - 1) from n_sub (b := 1) (by omega), H.2.1.sizes, ix_nI (by omega), (H.M (m := m - 1) (by omega)).2.2.2.1]
      exact ⟨H.1.sizes (by omega), br_t (nI_le (by omega) (by omega)) q'⟩
  | succ j ih =>
    intro a f h hj W hb hf
    have H := W.Rf H0
    have h3 := H.m3
    have w := H.w hm
    have ws := w.s100
    have we := w.ev he
    have hsa : aSa A m ≤ 100 ∧ (0 < m → aSa A m = aSz A (m - 1)) := by
      unfold aSa
      by_cases hm0 : m = 0
      · rw [if_pos hm0]
        exact ⟨by omega, by omega⟩
      · rw [if_neg hm0]
        exact ⟨(H.w (m := m - 1) (by omega)).s100, fun _ => rfl⟩
    have hnp : aNp A m e ≤ 10 := by unfold aNp; omega
    have inner : ∃ n30, wX12_failing_30 S (wX12_failing_6 S r (nI m) (nI e) (nI d) (bI t) Q (j + 1)) r (nI m) (nI e) (nI d) (bI t) (nI a) Q n30 h (nI f.1) 0 := by
      refine ⟨_, rFail_s H0 hm he (fun h0 => by have := hsa.2 h0; omega) (by omega) hd (fun h' W' => ?_) (aSz A m) 0 f h (by omega) W (by omega) rfl⟩
      refine ih (a + 1) _ h' (by omega) W' ?_ hf
      have h1 := fdS_le (P := fun s p => cbA A m e s p && aFl A m e d a s p) (K := aPd A m a) (np := aNp A m e) (fp := aFp A m e) (a := a) (aSz A m) 0 f
      have h2 : aSz A m * aNp A m e ≤ 100 * 10 := Nat.mul_le_mul ws hnp
      omega
    show wX12_failing_6b _ _ _ _ _ _ _ (wX12_failing_6 S r (nI m) (nI e) (nI d) (bI t) Q (j + 1)) _ _ _
    unfold wX12_failing_6b wX12_failing_j24
    by_cases hm0 : m = 0
    · refine ⟨fun n => absurd (by rw [hm0]; rfl) n, fun _ => br_f ?_ inner⟩
      unfold aSa at hj
      rw [if_pos hm0] at hj
      exact nI_ge (b := 1) (by omega) (by omega)
    · refine ⟨fun _ => ⟨H.1.1, ?_⟩, fun n => absurd n (nI_ne0 (by omega) (by omega))⟩
      have w2 := (H.w (m := m - 1) (by omega)).s100
      unfold aSa at hj
      rw [if_neg hm0] at hj
      rw [show nI m - 1 = nI (m - 1) from n_sub (b := 1) (by omega), H.2.1.sizes, ix_nI (by omega), (H.M (m := m - 1) (by omega)).2.2.2.1]
      exact ⟨H.1.sizes (by omega), br_f (nI_ge (by omega) (by omega)) inner⟩
theorem rFail {A : Ab} {S : Sh} {h : Hp} {r m e d : Nat} {t : Bool} {Q : Int32 → Hp → Prop} (H : Rf A S h r) (hm : m < aMM A) (he : e < aEm A m) (hd : d < 3) (q : ∀ h', Sw r m t h h' (aVd A m e d) → Q (nI (aVd A m e d).1) h') :
    wX12_failing S h r (nI m) (nI e) (nI d) (bI t) Q := by
  have h3 := H.m3
  refine ⟨_, rFail_a H hm he hd q (aSa A m) 0 (0, 0, 0, 0) h (by omega) (Sw.rf rfl) ?_ rfl⟩
  unfold aSa
  by_cases hm0 : m = 0
  · rw [if_pos hm0]
    show 0 + _ ≤ _
    omega
  · rw [if_neg hm0]
    have := (H.w (m := m - 1) (by omega)).s100
    show 0 + _ ≤ _
    omega
