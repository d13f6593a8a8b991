def stF (A : Ab) (m : Nat) (b : Bs) : Nat → Nat → Int32 → Int32
  | 0, _, x => x
  | j + 1, s, x => stF A m b j (s + 1) (if b.1 s = -2 then x else if aLd A m s then x else if x = -2 then nI s else if b.1 x.toNatClampNeg ≤ b.1 s then x else nI s)
def aSk (A : Ab) (m : Nat) : Int32 := stF A m (bfA A m) (aSz A m) 0 (-2)
theorem cFe {A : Ab} {S : Sh} {h : Hp} {p a m : Nat} {Q : Int32 → Hp → Prop} (M : Cm A S h a m) (hP : PhS S h p) (C : BfC h p (bfA A m)) (q : Q (aSk A m) h) : wX4_firstEnd S h p a Q := by
  have w := M.2.2.2
  have ws := w.s100
  have lp : ∀ (j s : Nat) (x : Int32), s + j = aSz A m → (x = -2 ∨ ∃ k, k < aSz A m ∧ x = nI k) → stF A m (bfA A m) j s x = aSk A m → wX4_firstEnd_5 S p a Q (j + 1) h x (nI s) := by
    intro j
    induction j with
    | zero =>
      intro s x hj hx hF
      refine ⟨by rw [M.1.1], br_t (by rw [M.2.2.1.2.1]; exact nI_le (by omega) (by omega)) ?_⟩
      rw [← hF] at q
      exact q
    | succ j ih =>
      intro s x hj hx hF
      have hs : s < aSz A m := by omega
      have fS : S (p + 1) = (20, 100) := hP.2.1
      show wX4_firstEnd_5b S p a Q (wX4_firstEnd_5 S p a Q (j + 1)) h x (nI s)
      unfold wX4_firstEnd_5b
      rw [M.2.2.1.2.1, hP.2.2.2.1, ix_nI (by omega), C.1 s (by omega), nI_1]
      refine ⟨by rw [M.1.1], br_f (nI_ge (by omega) (by omega)) ⟨by rw [hP.1], inA_of fS (by omega) (by decide), ?_⟩⟩
      unfold stF at hF
      by_cases h2 : (bfA A m).1 s = -2
      · rw [if_pos h2] at hF
        exact br_t h2 (ih (s + 1) x (by omega) hx hF)
      · rw [if_neg h2] at hF
        refine br_f h2 (cEv M hs ?_)
        have hlt := evM_lt A m s (aEm A m)
        cases hl : aLd A m s
        · rw [hl] at hF
          rw [(ev_ld w).mpr hl]
          refine ⟨fun n => absurd rfl n, fun _ => ?_⟩
          rw [if_neg (by decide)] at hF
          rcases hx with hx | ⟨k, hk, hx⟩
          · rw [if_pos hx] at hF
            exact br_t hx (ih (s + 1) (nI s) (by omega) (Or.inr ⟨s, hs, rfl⟩) hF)
          · have hn : x ≠ -2 := by rw [hx]; exact nI_n2 (by omega)
            rw [if_neg hn, hx, nI_clamp (by omega)] at hF
            refine br_f hn ?_
            rw [hx, hP.2.2.2.1, ix_nI (by omega), C.1 k (by omega), C.1 s (by omega)]
            refine ⟨inA_of fS (by omega) (by decide), inA_of fS (by omega) (by decide), ?_⟩
            by_cases hle : (bfA A m).1 k ≤ (bfA A m).1 s
            · rw [if_pos hle] at hF
              exact br_t hle (ih (s + 1) (nI k) (by omega) (Or.inr ⟨k, hk, rfl⟩) hF)
            · rw [if_neg hle] at hF
              exact br_f hle (ih (s + 1) (nI s) (by omega) (Or.inr ⟨s, hs, rfl⟩) hF)
        · rw [hl, if_pos rfl] at hF
          refine ⟨fun _ => ih (s + 1) x (by omega) hx hF, fun n => ?_⟩
          have : evM A m s (aEm A m) = 0 := (nI_eq (b := 0) (by omega) (by omega)).mp n
          rw [(ev_ld w).mp this] at hl
          cases hl
  exact ⟨_, lp (aSz A m) 0 (-2) (by omega) (Or.inl rfl) rfl⟩
theorem rFe {A : Ab} {S : Sh} {h : Hp} {r m : Nat} {Q : Int32 → Hp → Prop} (H : Rf A S h r) (hm : m < aMM A) (C : BfR h r (bfA A m)) (q : ∀ h', Pl r h h' → wX12_good S h' r (aSk A m) Q) : ∃ n, wX12_stuck_29 S r (nI m) Q n h (-2) 0 := by
  have w := H.w hm
  have ws := w.s100
  have lp : ∀ (j s : Nat) (x : Int32) (h1 : Hp), s + j = aSz A m → Pl r h h1 → (x = -2 ∨ ∃ k, k < aSz A m ∧ x = nI k) → stF A m (bfA A m) j s x = aSk A m → wX12_stuck_29 S r (nI m) Q (j + 1) h1 x (nI s) := by
    intro j
    induction j with
    | zero =>
      intro s x h1 hj s1 hx hF
      have H1 := H.pl s1
      have h3 := H1.m3
      show wX12_stuck_29b S r (nI m) Q _ h1 x (nI s)
      unfold wX12_stuck_29b
      rw [H1.2.1.sizes, ix_nI (by omega), (H1.M hm).2.2.2.1]
      refine ⟨H1.1.1, H1.1.sizes (by omega), br_t (nI_le (by omega) (by omega)) ?_⟩
      have := q h1 s1
      rw [← hF] at this
      exact this
    | succ j ih =>
      intro s x h1 hj s1 hx hF
      have H1 := H.pl s1
      have C1 := C.pl s1
      have h3 := H1.m3
      have hs : s < aSz A m := by omega
      show wX12_stuck_29b S r (nI m) Q (wX12_stuck_29 S r (nI m) Q (j + 1)) h1 x (nI s)
      unfold wX12_stuck_29b
      rw [H1.2.1.sizes, H1.2.1.far, ix_nI (by omega), ix_nI (by omega), (H1.M hm).2.2.2.1, C1.1 s (by omega), nI_1]
      refine ⟨H1.1.1, H1.1.sizes (by omega), br_f (nI_ge (by omega) (by omega)) ⟨H1.1.far (by omega), ?_⟩⟩
      unfold stF at hF
      by_cases h2 : (bfA A m).1 s = -2
      · rw [if_pos h2] at hF
        exact br_t h2 (ih (s + 1) x h1 (by omega) s1 hx hF)
      · rw [if_neg h2] at hF
        refine br_f h2 (rLead H1 hm hs fun h4 s4 => ?_)
        have H4 := H1.pl s4
        have C4 := C1.pl s4
        have s14 := s1.tr s4
        cases hl : aLd A m s
        · rw [hl] at hF
          refine ⟨fun n => absurd rfl n, fun _ => ?_⟩
          rw [if_neg (by decide)] at hF
          rcases hx with hx | ⟨k, hk, hx⟩
          · rw [if_pos hx] at hF
            exact br_t hx (ih (s + 1) (nI s) h4 (by omega) s14 (Or.inr ⟨s, hs, rfl⟩) hF)
          · have hn : x ≠ -2 := by rw [hx]; exact nI_n2 (by omega)
            rw [if_neg hn, hx, nI_clamp (by omega)] at hF
            refine br_f hn ?_
            rw [hx, H4.2.1.far, ix_nI (by omega), C4.1 k (by omega), C4.1 s (by omega)]
            refine ⟨H4.1.far (by omega), H4.1.far (by omega), ?_⟩
            by_cases hle : (bfA A m).1 k ≤ (bfA A m).1 s
            · rw [if_pos hle] at hF
              exact br_t hle (ih (s + 1) (nI k) h4 (by omega) s14 (Or.inr ⟨k, hk, rfl⟩) hF)
            · rw [if_neg hle] at hF
              exact br_f hle (ih (s + 1) (nI s) h4 (by omega) s14 (Or.inr ⟨s, hs, rfl⟩) hF)
        · rw [hl, if_pos rfl] at hF
          exact ⟨fun _ => ih (s + 1) x h4 (by omega) s14 hx hF, fun n => absurd n (by decide)⟩
  exact ⟨_, lp (aSz A m) 0 (-2) h (by omega) Sm.rf (Or.inl rfl) rfl⟩
def aUn (A : Ab) (m : Nat) : Nat := cntF (fun k => unS A m ((bfA A m).2.1 k)) (bfA A m).2.2
theorem cUn {A : Ab} {S : Sh} {h : Hp} {p a m : Nat} {Q : Int32 → Hp → Prop} (M : Cm A S h a m) (hP : PhS S h p) (C : BfC h p (bfA A m)) (q : Q (nI (aUn A m)) h) : wX4_countUnsound S h p a Q := by
  have w := M.2.2.2
  have ws := w.s100
  have e0 : aUn A m = cntF (fun s => decide ((bfA A m).1 s ≠ -2) && unS A m s) (aSz A m) := (bfA_w w).2.2.2.2
  rw [e0] at q
  have lp : ∀ (j s : Nat), s + j = aSz A m → wX4_countUnsound_4 S p a Q (j + 1) h (nI (cntF (fun s => decide ((bfA A m).1 s ≠ -2) && unS A m s) s)) (nI s) := by
    intro j
    induction j with
    | zero =>
      intro s hj
      refine ⟨by rw [M.1.1], br_t (by rw [M.2.2.1.2.1]; exact nI_le (by omega) (by omega)) ?_⟩
      have he : s = aSz A m := by omega
      subst he
      exact q
    | succ j ih =>
      intro s hj
      have hs : s < aSz A m := by omega
      have ih1 := ih (s + 1) (by omega)
      show wX4_countUnsound_4b S p a Q (wX4_countUnsound_4 S p a Q (j + 1)) h _ (nI s)
      unfold wX4_countUnsound_4b
      rw [M.2.2.1.2.1, hP.2.2.2.1, ix_nI (by omega), C.1 s (by omega), M.2.1.k (k := 6) (by omega), show a + 1 + 6 = a + 7 by omega, M.2.2.1.2.2.2.2.2.2.1 s hs, nI_1 s]
      refine ⟨by rw [M.1.1], br_f (nI_ge (by omega) (by omega)) ⟨by rw [hP.1], inA_of hP.2.1 (by omega) (by decide), ?_⟩⟩
      have hsn := w.sn hs
      by_cases h2 : (bfA A m).1 s = -2
      · refine br_t h2 ?_
        rw [cntF_n _ (by simp [h2])] at ih1
        exact ih1
      · refine br_f h2 ⟨inA_of M.1.2.2.2.2.2.2.2.1 (by omega) (by decide), ?_⟩
        by_cases hx : aSn A m s = 1
        · rw [hx]
          refine ⟨fun _ => ?_, fun n => absurd n (by decide)⟩
          rw [cntF_n _ (by simp [unS, hx])] at ih1
          exact ih1
        · rw [show aSn A m s = 0 by omega]
          refine ⟨fun n => absurd rfl n, fun _ => ?_⟩
          rw [cntF_s _ (by simp [unS, hx, h2]), ← nI_1] at ih1
          exact ih1
  exact ⟨_, lp (aSz A m) 0 (by omega)⟩
theorem rUn {A : Ab} {S : Sh} {h : Hp} {r m : Nat} {Q : Int32 → Hp → Prop} (H : Rf A S h r) (hm : m < aMM A) (C : BfR h r (bfA A m)) (q : wX12_good S h r (nI (aUn A m)) Q) : ∃ n, wX12_unsound_28 S r (nI m) Q n h 0 0 := by
  have w := H.w hm
  have ws := w.s100
  have W := bfA_w w
  have h100 := W.1
  have h3 := H.m3
  have lp : ∀ (j k : Nat), k + j = (bfA A m).2.2 → wX12_unsound_28 S r (nI m) Q (j + 1) h (nI (cntF (fun k => unS A m ((bfA A m).2.1 k)) k)) (nI k) := by
    intro j
    induction j with
    | zero =>
      intro k hj
      refine ⟨H.1.1, br_t (by rw [C.2.2]; exact nI_le (by omega) (by omega)) ?_⟩
      have he : k = (bfA A m).2.2 := by omega
      subst he
      exact q
    | succ j ih =>
      intro k hj
      have hk : k < (bfA A m).2.2 := by omega
      have hq := (W.2.1 k hk).1
      have ih1 := ih (k + 1) (by omega)
      show wX12_unsound_28b S r (nI m) Q (wX12_unsound_28 S r (nI m) Q (j + 1)) h _ (nI k)
      unfold wX12_unsound_28b
      rw [C.2.2, H.2.1.queue, H.2.1.isSound, ix_nI (by omega), C.2.1 k hk, n_100, nI_mul, nI_add, ix_nI (by omega), (H.G hm).1 _ hq, nI_1 k]
      refine ⟨H.1.1, br_f (nI_ge (by omega) (by omega)) ⟨H.1.queue (by omega), H.1.isSound (by omega), ?_⟩⟩
      have hsn := w.sn hq
      by_cases hx : aSn A m ((bfA A m).2.1 k) = 1
      · rw [hx]
        refine br_f (by decide) ?_
        rw [cntF_n _ (by simp [unS, hx])] at ih1
        rw [Int32.add_zero]
        exact ih1
      · rw [show aSn A m ((bfA A m).2.1 k) = 0 by omega]
        refine br_t rfl ?_
        rw [cntF_s _ (by simp [unS, hx]), ← nI_1] at ih1
        exact ih1
  exact ⟨_, lp (bfA A m).2.2 0 (by omega)⟩
