theorem nt_k {f : Fo} {a s p : Nat} (h : f.1 ≠ 0) : (nt f a s p).1 ≠ 0 ∧ (nt f a s p).2 = f.2 := by
  unfold nt
  rw [if_neg h]
  exact ⟨Nat.succ_ne_zero _, rfl⟩
theorem fdP_k {P : Nat → Bool} {a s : Nat} : ∀ (j p : Nat) (f : Fo), f.1 ≠ 0 → (fdP P a s j p f).1 ≠ 0 ∧ (fdP P a s j p f).2 = f.2
  | 0, _, _, h => ⟨h, rfl⟩
  | j + 1, p, f, h => by
    unfold fdP
    cases P p
    · exact fdP_k j (p + 1) f h
    · have h1 := nt_k (a := a) (s := s) (p := p) h
      have h2 := fdP_k (P := P) (a := a) (s := s) j (p + 1) (nt f a s p) h1.1
      exact ⟨h2.1, h2.2.trans h1.2⟩
theorem fdS_k {P : Nat → Nat → Bool} {K : Nat → Bool} {np fp a : Nat} : ∀ (j s : Nat) (f : Fo), f.1 ≠ 0 → (fdS P K np fp a j s f).1 ≠ 0 ∧ (fdS P K np fp a j s f).2 = f.2
  | 0, _, _, h => ⟨h, rfl⟩
  | j + 1, s, f, h => by
    unfold fdS
    cases K s
    · exact fdS_k j (s + 1) f h
    · have h1 := fdP_k (P := P s) (a := a) (s := s) np fp f h
      have h2 := fdS_k (P := P) (K := K) (np := np) (fp := fp) (a := a) j (s + 1) (fdP (P s) a s np fp f) h1.1
      exact ⟨h2.1, h2.2.trans h1.2⟩
theorem fdA_k {P : Nat → Nat → Nat → Bool} {K : Nat → Nat → Bool} {np fp sz : Nat} : ∀ (j a : Nat) (f : Fo), f.1 ≠ 0 → (fdA P K np fp sz j a f).1 ≠ 0 ∧ (fdA P K np fp sz j a f).2 = f.2
  | 0, _, _, h => ⟨h, rfl⟩
  | j + 1, a, f, h => by
    unfold fdA
    have h1 := fdS_k (P := P a) (K := K a) (np := np) (fp := fp) (a := a) sz 0 f h
    have h2 := fdA_k (P := P) (K := K) (np := np) (fp := fp) (sz := sz) j (a + 1) _ h1.1
    exact ⟨h2.1, h2.2.trans h1.2⟩
theorem Sw.eq {r m : Nat} {t : Bool} {h0 h : Hp} {f F : Fo} (H : Sw r m t h0 h f) (hf : f.1 ≠ 0) (hF : F.1 ≠ 0) (e : F.2 = f.2) : Sw r m t h0 h F := by
  obtain ⟨h1, h2, h3, h4, h5, h6⟩ := H
  refine ⟨h1, h2, h3, h4, fun ht _ => ?_, fun hq => h6 (hq.elim Or.inl fun q => absurd q hF)⟩
  rw [e]
  exact h5 ht hf
def f00 : Fo := (0, 0, 0, 0)
theorem rGon_s {A : Ab} {S : Sh} {h0 : Hp} {r m a J : Nat} {t : Bool} {B2 : Hp → Int32 → Prop} {Q : Int32 → Hp → Prop} (H0 : Rf A S h0 r) (hm : m < aMM A) (ha : 0 < m → a < aSz A (m - 1)) (ha' : a < 100)
    (q : ∀ h', Sw r m t h0 h' (aVg A m) → Q (bI (decide ((aVg A m).1 = 0))) h')
    (nx : ∀ h', Pl r h0 h' → fdA (fun a s _ => gnA A m a s) (aPd A m) 1 0 (aSz A m) J (a + 1) f00 = aVg A m → B2 h' (nI (a + 1))) :
    ∀ (j s : Nat) (h : Hp), s + j = aSz A m → Pl r h0 h → fdA (fun a s _ => gnA A m a s) (aPd A m) 1 0 (aSz A m) J (a + 1) (fdS (fun s _ => gnA A m a s) (aPd A m a) 1 0 a j s f00) = aVg A m → wX12_goesOn_25 S B2 r (nI m) (bI t) (nI a) Q (j + 1) h (nI s)
  | 0, s, h, hj, W, hf => by
    have H := H0.pl W
    have h3 := H.m3
    have ws := (H.w hm).s100
    show wX12_goesOn_25b S B2 r (nI m) (bI t) (nI a) Q _ h (nI s)
    unfold wX12_goesOn_25b
    rw [H.2.1.sizes, ix_nI (by omega), (H.M hm).2.2.2.1, nI_1 a]
    exact ⟨H.1.1, H.1.sizes (by omega), br_t (nI_le (by omega) (by omega)) (nx h W hf)⟩
  | j + 1, s, h, hj, W, hf => by
    have H := H0.pl W
    have h3 := H.m3
    have w := H.w hm
    have ws := w.s100
    have hs : s < aSz A m := by omega
    have go : ∀ h', Pl r h h' → (if aPd A m a s then fdP (fun _ => gnA A m a s) a s 1 0 f00 else f00) = f00 → wX12_goesOn_25 S B2 r (nI m) (bI t) (nI a) Q (j + 1) h' (nI (s + 1)) := by
      intro h' W' e
      refine rGon_s H0 hm ha ha' q nx j (s + 1) h' (by omega) (W.tr W') ?_
      unfold fdS at hf
      rw [e] at hf
      exact hf
    have pd := aPd_bd H hm (a := a) (s := s) ha hs
    have j86 : aPd A m a s = true → (decide (m = 0) || aGo A (m - 1) a) = true → ∀ h1, Pl r h h1 → wX12_goesOn_j86 S B2 (wX12_goesOn_25 S B2 r (nI m) (bI t) (nI a) Q (j + 1)) h1 r (nI m) (bI t) (nI a) (nI s) Q := by
      intro hp hg h1 s1
      refine ⟨H.1.1, rGo (H.pl s1) hm hs fun h2 s2 => ?_⟩
      cases hc : aGo A m s
      · have hgn : gnA A m a s = true := by unfold gnA; rw [hg, hc]; rfl
        refine br_t rfl ?_
        have hV : (aVg A m).1 ≠ 0 ∧ (aVg A m).2 = (a, s, 0) := by
          rw [← hf]
          unfold fdS
          rw [hp, if_pos rfl]
          have e1 : fdP (fun _ => gnA A m a s) a s 1 0 f00 = (1, a, s, 0) := by
            simp [fdP, hgn, nt, f00]
          rw [e1]
          have k1 := fdS_k (P := fun s _ => gnA A m a s) (K := aPd A m a) (np := 1) (fp := 0) (a := a) j (s + 1) (1, a, s, 0) Nat.one_ne_zero
          have k2 := fdA_k (P := fun a s _ => gnA A m a s) (K := aPd A m) (np := 1) (fp := 0) (sz := aSz A m) J (a + 1) _ k1.1
          exact ⟨k2.1, k2.2.trans k1.2⟩
        have q' := fun h' W' => q h' W'
        rw [decide_eq_false hV.1] at q'
        have W2 : Sw r m t h0 h2 f00 := ((Sw.rf rfl).pl W).pl (s1.tr s2)
        unfold wX12_goesOn_j99
        cases t
        · refine br_t rfl (q' h2 ?_)
          exact (W2.more (Or.inl rfl) a s 0).eq Nat.one_ne_zero hV.1 hV.2
        · refine br_f (by decide) ⟨H.1.1, rShows H.1.1 W2 rfl fun h4 W4 => q' h4 (W4.eq Nat.one_ne_zero hV.1 hV.2)⟩
      · refine br_f (by decide) ?_
        rw [nI_1 s]
        refine go h2 (s1.tr s2) ?_
        rw [hp, if_pos rfl]
        have : gnA A m a s = false := by unfold gnA; rw [hc]; simp
        simp [fdP, this]
    have picks : aPd A m a s = true → wX12_goesOn_j71 S B2 (wX12_goesOn_25 S B2 r (nI m) (bI t) (nI a) Q (j + 1)) h r (nI m) (bI t) (nI a) (nI s) Q := by
      intro hp
      unfold wX12_goesOn_j71
      by_cases hm0 : m = 0
      · exact br_t (by rw [hm0]; decide) (j86 hp (by simp [hm0]) h Sm.rf)
      · refine br_f (nI_nle (by omega) (by omega)) ⟨H.1.1, ?_⟩
        rw [show nI m - 1 = nI (m - 1) from n_sub (b := 1) (by omega)]
        refine rGo H (by omega) (ha (by omega)) fun h1 s1 => ?_
        cases hc : aGo A (m - 1) a
        · refine br_t rfl ?_
          rw [nI_1 s]
          refine go h1 s1 ?_
          rw [hp, if_pos rfl]
          have : gnA A m a s = false := by unfold gnA; rw [hc]; simp [hm0]
          simp [fdP, this]
        · exact br_f (by decide) (j86 hp (by rw [hc, Bool.or_true]) h1 s1)
    show wX12_goesOn_25b S B2 r (nI m) (bI t) (nI a) Q (wX12_goesOn_25 S B2 r (nI m) (bI t) (nI a) Q (j + 1)) h (nI s)
    unfold wX12_goesOn_25b
    rw [H.2.1.sizes, H.2.1.isGlued, H.2.1.isSound, ix_nI (by omega), ix_nI (by omega), (H.M hm).2.2.2.1, nI_1 s]
    refine ⟨H.1.1, H.1.sizes (by omega), br_f (nI_ge (by omega) (by omega)) ?_⟩
    by_cases hm0 : m = 0
    · refine ⟨fun n => absurd (by rw [hm0]; rfl) n, fun _ => ⟨H.1.isSound (by omega), ?_⟩⟩
      rw [pd.1 hm0]
      cases hp : aPd A m a s
      · exact ⟨fun n => absurd rfl n, fun _ => go h Sm.rf (by simp [hp])⟩
      · exact ⟨fun _ => picks hp, fun n => absurd n (by decide)⟩
    · refine ⟨fun _ => ?_, fun n => absurd n (nI_ne0 (by omega) (by omega))⟩
      have w2 := (H.w (m := m - 1) (by omega)).s100
      have ha2 := ha (by omega)
      unfold wX12_pair
      rw [n_pair (by omega)]
      refine ⟨H.1.isGlued (by omega), ?_⟩
      rw [ix_nI (by omega), pd.2 (by omega)]
      cases hp : aPd A m a s
      · exact ⟨fun n => absurd rfl n, fun _ => go h Sm.rf (by simp [hp])⟩
      · exact ⟨fun _ => picks hp, fun n => absurd n (by decide)⟩
theorem rGon_a {A : Ab} {S : Sh} {h0 : Hp} {r m : Nat} {t : Bool} {Q : Int32 → Hp → Prop} (H0 : Rf A S h0 r) (hm : m < aMM A) (q : ∀ h', Sw r m t h0 h' (aVg A m) → Q (bI (decide ((aVg A m).1 = 0))) h') :
    ∀ (j a : Nat) (h : Hp), a + j = aSa A m → Pl r h0 h → fdA (fun a s _ => gnA A m a s) (aPd A m) 1 0 (aSz A m) j a f00 = aVg A m → wX12_goesOn_2 S r (nI m) (bI t) Q (j + 1) h (nI a) := by
  intro j
  induction j with
  | zero =>
    intro a h hj W hf
    have H := H0.pl W
    have h3 := H.m3
    have q' : Q 1 h := by
      have hW : Sw r m t h0 h (aVg A m) := by
        rw [← hf]
        exact (Sw.rf rfl).pl W
      have := q h hW
      rw [← hf] at this
      exact this
    show wX12_goesOn_2b S r (nI m) (bI t) Q _ h (nI a)
    unfold wX12_goesOn_2b wX12_goesOn_j19
    by_cases hm0 : m = 0
    · refine ⟨fun n => absurd (by rw [hm0]; rfl) n, fun _ => br_t ?_ q'⟩
      unfold aSa at hj
      rw [if_pos hm0] at hj
      exact nI_le (a := 1) (by omega) (by omega)
    · refine ⟨fun _ => ⟨H.1.1, ?_⟩, fun n => absurd n (nI_ne0 (by omega) (by omega))⟩
      have w2 := (H.w (m := m - 1) (by omega)).s100
      unfold aSa at hj
      rw [if_neg hm0] at hj
      rw [show nI m - 1 = nI (m - 1) from n_sub (b := 1) (by omega), H.2.1.sizes, ix_nI (by omega), (H.M (m := m - 1) (by omega)).2.2.2.1]
      exact ⟨H.1.sizes (by omega), br_t (nI_le (by omega) (by omega)) q'⟩
  | succ j ih =>
    intro a h hj W hf
    have H := H0.pl W
    have h3 := H.m3
    have w := H.w hm
    have ws := w.s100
    have hsa : aSa A m ≤ 100 ∧ (0 < m → aSa A m = aSz A (m - 1)) := by
      unfold aSa
      by_cases hm0 : m = 0
      · rw [if_pos hm0]
        exact ⟨by omega, by omega⟩
      · rw [if_neg hm0]
        exact ⟨(H.w (m := m - 1) (by omega)).s100, fun _ => rfl⟩
    have inner : ∃ n25, wX12_goesOn_25 S (wX12_goesOn_2 S r (nI m) (bI t) Q (j + 1)) r (nI m) (bI t) (nI a) Q n25 h 0 :=
      ⟨_, rGon_s (J := j) H0 hm (fun h0 => by have := hsa.2 h0; omega) (by omega) q (fun h' W' hf' => ih (a + 1) h' (by omega) W' hf') (aSz A m) 0 h (by omega) W hf⟩
    show wX12_goesOn_2b S r (nI m) (bI t) Q (wX12_goesOn_2 S r (nI m) (bI t) Q (j + 1)) h (nI a)
    unfold wX12_goesOn_2b wX12_goesOn_j19
    by_cases hm0 : m = 0
    · refine ⟨fun n => absurd (by rw [hm0]; rfl) n, fun _ => br_f ?_ inner⟩
      unfold aSa at hj
      rw [if_pos hm0] at hj
      exact nI_ge (b := 1) (by omega) (by omega)
    · refine ⟨fun _ => ⟨H.1.1, ?_⟩, fun n => absurd n (nI_ne0 (by omega) (by omega))⟩
      have w2 := (H.w (m := m - 1) (by omega)).s100
      unfold aSa at hj
      rw [if_neg hm0] at hj
      rw [show nI m - 1 = nI (m - 1) from n_sub (b := 1) (by omega), H.2.1.sizes, ix_nI (by omega), (H.M (m := m - 1) (by omega)).2.2.2.1]
      exact ⟨H.1.sizes (by omega), br_f (nI_ge (by omega) (by omega)) inner⟩
theorem rGon {A : Ab} {S : Sh} {h : Hp} {r m : Nat} {t : Bool} {Q : Int32 → Hp → Prop} (H : Rf A S h r) (hm : m < aMM A) (q : ∀ h', Sw r m t h h' (aVg A m) → Q (bI (decide ((aVg A m).1 = 0))) h') : wX12_goesOn S h r (nI m) (bI t) Q :=
  ⟨_, rGon_a H hm q (aSa A m) 0 h (by omega) Sm.rf rfl⟩
theorem rBgs {A : Ab} {S : Sh} {h : Hp} {r m : Nat} {t : Bool} {Q : Int32 → Hp → Prop} (H : Rf A S h r) (hm : m < aMM A) (q : ∀ h', Sw r m t h h' (aVb A m) → Q (bI (decide ((aVb A m).1 = 0))) h') : wX12_begins_ S h r (nI m) (bI t) Q := by
  have h3 := H.m3
  have w := H.w hm
  have ws := w.s100
  have hb := aBe_bd w
  have j48 : ∀ x, x = bI (aPd A m (aB1 A m) (aBe A m)) → wX12_begins__j48 S h r (nI m) (bI t) (nI (aBe A m)) (nI (aB1 A m)) x Q := by
    intro x hx
    subst hx
    unfold wX12_begins__j48
    have hV : aVb A m = if aPd A m (aB1 A m) (aBe A m) then (0, 0, 0, 0) else (1, aB1 A m, aBe A m, 0) := rfl
    cases hp : aPd A m (aB1 A m) (aBe A m)
    · rw [hp] at hV
      refine ⟨fun n => absurd rfl n, fun _ => ?_⟩
      have e : aVb A m = (1, aB1 A m, aBe A m, 0) := hV
      rw [e] at q
      have W : Sw r m t h h f00 := Sw.rf rfl
      cases t
      · exact br_t rfl ⟨by decide, q h (W.more (Or.inl rfl) (aB1 A m) (aBe A m) 0)⟩
      · exact br_f (by decide) ⟨H.1.1, rShows H.1.1 W rfl fun h4 W4 => ⟨by decide, q h4 W4⟩⟩
    · rw [hp] at hV
      have e : aVb A m = (0, 0, 0, 0) := hV
      rw [e] at q
      exact ⟨fun _ => ⟨by decide, q h (Sw.rf rfl)⟩, fun n => absurd n (by decide)⟩
  refine ⟨H.1.1, rBeg H hm ?_⟩
  by_cases hm0 : m = 0
  · refine ⟨fun n => absurd (by rw [hm0]; rfl) n, fun _ => ⟨fun n => absurd (by rw [hm0]; rfl) n, fun _ => ⟨H.1.1, ?_⟩⟩⟩
    rw [H.2.1.isSound, ix_nI (by omega)]
    refine ⟨H.1.isSound (by omega), ?_⟩
    have e : aB1 A m = 0 := by unfold aB1; rw [if_pos hm0]
    rw [e] at j48
    exact j48 _ ((aPd_bd H hm (a := 0) (s := aBe A m) (fun h0 => by omega) hb).1 hm0)
  · have hm1 : m - 1 < aMM A := by omega
    have hb1 := aBe_bd (H.w hm1)
    have ws1 := (H.w hm1).s100
    have e : aB1 A m = aBe A (m - 1) := by unfold aB1; rw [if_neg hm0]
    rw [e] at j48
    refine ⟨fun _ => ?_, fun n => absurd n (nI_ne0 (by omega) (by omega))⟩
    rw [show nI m - 1 = nI (m - 1) from n_sub (b := 1) (by omega)]
    refine rBeg H hm1 ⟨fun _ => ⟨H.1.1, ?_⟩, fun n => absurd n (nI_ne0 (by omega) (by omega))⟩
    unfold wX12_pair
    rw [H.2.1.isGlued, n_pair (by omega)]
    refine ⟨H.1.isGlued (by omega), ?_⟩
    rw [ix_nI (by omega)]
    exact j48 _ ((aPd_bd H hm (a := aBe A (m - 1)) (s := aBe A m) (fun h0 => hb1) hb).2 (by omega))
