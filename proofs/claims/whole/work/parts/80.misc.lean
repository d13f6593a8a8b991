/-! EVENTS THAT LEAD ON, WHERE ONE STOPS, WHAT IS UNSOUND -/
def aLe (A : Ab) (m e s : Nat) : Bool := anyF (gsA A m e s) (aNp A m e) (aFp A m e)
theorem sF_any {A : Ab} {m e s : Nat} (w : wfM A m) (he : e < aEm A m) : msk (sF A m e s) 10 = 0 ↔ aLe A m e s = false := by
  have we := w.ev he
  rw [msk_0, Bool.eq_false_iff, Ne, aLe, anyF_iff]
  constructor
  · rintro h ⟨k, k1, k2, k3⟩
    unfold aNp at k2
    have := h (k - aFp A m e) (by omega)
    unfold sF at this
    rw [show aFp A m e + (k - aFp A m e) = k by omega, k3, decide_eq_true (by omega)] at this
    cases this
  · intro h i hi
    cases hc : sF A m e s i
    · rfl
    · unfold sF at hc
      rw [Bool.and_eq_true] at hc
      exact absurd ⟨aFp A m e + i, by omega, by unfold aNp; have := of_decide_eq_true hc.1; omega, hc.2⟩ h
def evM (A : Ab) (m s n : Nat) : Nat := msk (fun x => decide (x < n) && aLe A m x s) 4
theorem or_bit : ∀ M : Nat, M < 16 → ∀ e, e < 4 → nI M ||| shl32 1 (nI e) = nI (M ||| 2 ^ e) := by decide +kernel
theorem evM_s {A : Ab} {m s e : Nat} (he : e < 4) (h : aLe A m e s = true) : evM A m s e ||| 2 ^ e = evM A m s (e + 1) := by
  unfold evM
  rw [msk_or he]
  refine msk_ext fun x _ => ?_
  by_cases h1 : x = e
  · subst h1
    simp [h]
  · rw [decide_eq_false h1, Bool.or_false, show decide (x < e + 1) = decide (x < e) from decide_eq_decide.mpr (by omega)]
theorem evM_n {A : Ab} {m s e : Nat} (h : aLe A m e s = false) : evM A m s (e + 1) = evM A m s e := by
  unfold evM
  refine msk_ext fun x _ => ?_
  by_cases h1 : x = e
  · subst h1
    simp [h]
  · rw [show decide (x < e + 1) = decide (x < e) from decide_eq_decide.mpr (by omega)]
theorem evM_o {A : Ab} {m s e : Nat} (he : e < 4) (h : aLe A m e s = true) : evM A m s (e + 1) ||| 2 ^ e = evM A m s (e + 1) := by
  rw [← evM_s he h, Nat.or_assoc, Nat.or_self]
theorem evM_lt (A : Ab) (m s n : Nat) : evM A m s n < 16 := msk_lt _ 4
theorem cEv {A : Ab} {S : Sh} {h : Hp} {a m s : Nat} {Q : Int32 → Hp → Prop} (C : Cm A S h a m) (hs : s < aSz A m) (q : Q (nI (evM A m s (aEm A m))) h) : wX2_eventsFrom S h a (nI s) Q := by
  have w4 := C.2.2.2.e4
  have lp : ∀ (j e : Nat), e + j = aEm A m → wX2_eventsFrom_4 S a (nI s) Q (j + 1) h (nI (evM A m s e)) (nI e) := by
    intro j
    induction j with
    | zero =>
      intro e hj
      refine ⟨by rw [C.1.1], br_t (by rw [C.2.2.1.2.2.2.1]; exact nI_le (by omega) (by omega)) ?_⟩
      have he : e = aEm A m := by omega
      subst he
      exact q
    | succ j ih =>
      intro e hj
      have he : e < aEm A m := by omega
      obtain ⟨e1, e2, e3, e4, e5⟩ := C.E he
      have hlt := evM_lt A m s e
      show wX2_eventsFrom_4b S a (nI s) Q (wX2_eventsFrom_4 S a (nI s) Q (j + 1)) h _ (nI e)
      unfold wX2_eventsFrom_4b
      rw [C.2.2.1.2.2.2.1, C.2.1.k (k := 5) (by omega), show a + 1 + 5 = a + 6 by omega, ix_nI (by omega), e4, nI_1]
      refine ⟨by rw [C.1.1], br_f (nI_ge (by omega) (by omega)) ⟨inA_of C.1.2.2.2.2.2.2.1 (by omega) (by decide), by rw [e1.1], cSteps e1 e2 C.2.2.2 he e3 hs ?_⟩⟩
      have ih1 := ih (e + 1) (by omega)
      cases hc : aLe A m e s
      · rw [(sF_any C.2.2.2 he).mpr hc]
        rw [evM_n hc] at ih1
        exact br_t rfl ih1
      · refine br_f (nI_ne0 (Nat.pos_of_ne_zero fun n => ?_) (by have := m10 (sF A m e s); omega)) ?_
        · rw [(sF_any C.2.2.2 he).mp n] at hc
          cases hc
        · exact nm_r (by rw [or_bit _ hlt e (by omega), evM_s (by omega) hc]) ih1
  have h0 := lp (aEm A m) 0 (by omega)
  have e0 : evM A m s 0 = 0 := msk_0.mpr fun i _ => by simp
  rw [e0] at h0
  exact ⟨_, h0⟩
theorem rEv {A : Ab} {S : Sh} {h : Hp} {r m s : Nat} {n : Int32} {B : Nat → Bool} {Q : Int32 → Hp → Prop} (H : Rf A S h r) (hm : m < aMM A) (hs : s < aSz A m) (R : RunR h r m s n B) (q : ∀ h', Pl r h h' → Q (nI (evM A m s (aEm A m))) h') : wX12_eventsNow S h r Q := by
  have w := H.w hm
  have w4 := w.e4
  have lpI : ∀ (B4 : Hp → Int32 → Int32 → Prop) (e : Nat) (h0 : Hp), e < aEm A m → (∀ h', Pl r h h' → B4 h' (nI (evM A m s (e + 1))) (nI (e + 1))) → ∀ (j i M : Nat) (h1 : Hp), i + j = aNp A m e → Pl r h h1 →
      (M = evM A m s e ∧ anyF (gsA A m e s) j (aFp A m e + i) = aLe A m e s ∨ M = evM A m s (e + 1) ∧ aLe A m e s = true) → wX12_eventsNow_31 S B4 r (nI e) Q (j + 1) h1 (nI M) (nI (aFp A m e + i)) := by
    intro B4 e h0 he nx j
    induction j with
    | zero =>
      intro i M h1 hj s1 hM
      have H1 := H.pl s1
      have h3 := H1.m3
      have we := w.ev he
      have R1 := R.pl s1
      have hj' := hj
      unfold aNp at hj'
      show wX12_eventsNow_31b S B4 r (nI e) Q _ h1 _ _
      unfold wX12_eventsNow_31b
      rw [R1.1, H1.2.1.lastPick, n_4, nI_mul, nI_add, ix_nI (by omega), ((H1.M hm).ev he).2.2.1, nI_1 e]
      refine ⟨H1.1.1, H1.1.lastPick (by omega), br_t (nI_lt (by omega) (by omega)) ?_⟩
      have eM : M = evM A m s (e + 1) := by
        rcases hM with ⟨m1, m2⟩ | ⟨m1, m2⟩
        · rw [m1, evM_n m2.symm]
        · exact m1
      rw [eM]
      exact nx h1 s1
    | succ j ih =>
      intro i M h1 hj s1 hM
      have H1 := H.pl s1
      have h3 := H1.m3
      have we := w.ev he
      have R1 := R.pl s1
      have hj' := hj
      unfold aNp at hj'
      have hlt : M < 16 := by
        rcases hM with ⟨m1, -⟩ | ⟨m1, -⟩ <;> rw [m1] <;> exact evM_lt _ _ _ _
      show wX12_eventsNow_31b S B4 r (nI e) Q (wX12_eventsNow_31 S B4 r (nI e) Q (j + 1)) h1 _ _
      unfold wX12_eventsNow_31b
      rw [R1.1, R1.2.1, H1.2.1.lastPick, n_4, nI_mul, nI_add, ix_nI (by omega), ((H1.M hm).ev he).2.2.1, nI_1 (aFp A m e + i), Nat.add_assoc]
      refine ⟨H1.1.1, H1.1.lastPick (by omega), br_f (nI_nlt (by omega) (by omega)) (rGoes H1 hm he hs fun h2 s2 => ?_)⟩
      cases hc : gsA A m e s (aFp A m e + i)
      · refine br_t rfl (ih (i + 1) M h2 (by omega) (s1.tr s2) ?_)
        rcases hM with ⟨m1, m2⟩ | hM
        · refine Or.inl ⟨m1, ?_⟩
          simp only [anyF, hc, Bool.false_or] at m2
          exact m2
        · exact Or.inr hM
      · have hle : aLe A m e s = true := by
          unfold aLe
          exact (anyF_iff _ _ _).mpr ⟨aFp A m e + i, by omega, by unfold aNp; omega, hc⟩
        refine br_f (by decide) (nm_r (e' := nI (evM A m s (e + 1))) ?_ (ih (i + 1) _ h2 (by omega) (s1.tr s2) (Or.inr ⟨rfl, hle⟩)))
        rw [or_bit M hlt e (by omega)]
        rcases hM with ⟨m1, -⟩ | ⟨m1, -⟩
        · rw [m1, evM_s (by omega) hle]
        · rw [m1, evM_o (by omega) hle]
  have lp : ∀ (j e : Nat) (h1 : Hp), e + j = aEm A m → Pl r h h1 → wX12_eventsNow_4 S r Q (j + 1) h1 (nI (evM A m s e)) (nI e) := by
    intro j
    induction j with
    | zero =>
      intro e h1 hj s1
      have H1 := H.pl s1
      have h3 := H1.m3
      have R1 := R.pl s1
      show wX12_eventsNow_4b S r Q _ h1 _ _
      unfold wX12_eventsNow_4b
      rw [R1.1, H1.2.1.eventMany, ix_nI (by omega), (H1.M hm).2.2.1]
      have he : e = aEm A m := by omega
      subst he
      exact ⟨H1.1.1, H1.1.eventMany (by omega), br_t (nI_le (by omega) (by omega)) (q h1 s1)⟩
    | succ j ih =>
      intro e h1 hj s1
      have H1 := H.pl s1
      have h3 := H1.m3
      have R1 := R.pl s1
      have he : e < aEm A m := by omega
      have we := w.ev he
      show wX12_eventsNow_4b S r Q (wX12_eventsNow_4 S r Q (j + 1)) h1 _ _
      unfold wX12_eventsNow_4b
      rw [R1.1, H1.2.1.eventMany, H1.2.1.firstPick, n_4, nI_mul, nI_add, ix_nI (by omega), ix_nI (by omega), (H1.M hm).2.2.1, ((H1.M hm).ev he).2.1]
      exact ⟨H1.1.1, H1.1.eventMany (by omega), br_f (nI_ge (by omega) (by omega)) ⟨H1.1.firstPick (by omega), nm_e ⟨_, lpI _ e h1 he (fun h2 s2 => ih (e + 1) h2 (by omega) s2) (aNp A m e) 0 _ h1 (by omega) s1 (Or.inl ⟨rfl, rfl⟩)⟩⟩⟩
  have h0 := lp (aEm A m) 0 h (by omega) Sm.rf
  have e0 : evM A m s 0 = 0 := msk_0.mpr fun i _ => by simp
  rw [e0] at h0
  exact ⟨_, h0⟩
theorem rLead {A : Ab} {S : Sh} {h : Hp} {r m s : Nat} {Q : Int32 → Hp → Prop} (H : Rf A S h r) (hm : m < aMM A) (hs : s < aSz A m) (q : ∀ h', Pl r h h' → Q (bI (aLd A m s)) h') : wX12_leads S h r (nI m) (nI s) Q := by
  have w := H.w hm
  have w4 := w.e4
  have lpI : ∀ (B2 : Hp → Int32 → Prop) (e : Nat), e < aEm A m → (aLe A m e s = false → ∀ h', Pl r h h' → B2 h' (nI (e + 1))) → (aLe A m e s = true → aLd A m s = true) → ∀ (j i : Nat) (h1 : Hp), i + j = aNp A m e → Pl r h h1 → anyF (gsA A m e s) j (aFp A m e + i) = aLe A m e s →
      wX12_leads_24 S B2 r (nI m) (nI s) (nI e) Q (j + 1) h1 (nI (aFp A m e + i)) := by
    intro B2 e he nx hd j
    induction j with
    | zero =>
      intro i h1 hj s1 hM
      have H1 := H.pl s1
      have h3 := H1.m3
      have we := w.ev he
      have hj' := hj
      unfold aNp at hj'
      show wX12_leads_24b S B2 r (nI m) (nI s) (nI e) Q _ h1 _
      unfold wX12_leads_24b
      rw [H1.2.1.lastPick, n_4, nI_mul, nI_add, ix_nI (by omega), ((H1.M hm).ev he).2.2.1, nI_1 e]
      exact ⟨H1.1.1, H1.1.lastPick (by omega), br_t (nI_lt (by omega) (by omega)) (nx hM.symm h1 s1)⟩
    | succ j ih =>
      intro i h1 hj s1 hM
      have H1 := H.pl s1
      have h3 := H1.m3
      have we := w.ev he
      have hj' := hj
      unfold aNp at hj'
      show wX12_leads_24b S B2 r (nI m) (nI s) (nI e) Q (wX12_leads_24 S B2 r (nI m) (nI s) (nI e) Q (j + 1)) h1 _
      unfold wX12_leads_24b
      rw [H1.2.1.lastPick, n_4, nI_mul, nI_add, ix_nI (by omega), ((H1.M hm).ev he).2.2.1, nI_1 (aFp A m e + i), Nat.add_assoc]
      refine ⟨H1.1.1, H1.1.lastPick (by omega), br_f (nI_nlt (by omega) (by omega)) (rGoes H1 hm he hs fun h2 s2 => ?_)⟩
      simp only [anyF] at hM
      cases hc : gsA A m e s (aFp A m e + i)
      · rw [hc, Bool.false_or] at hM
        exact br_t rfl (ih (i + 1) h2 (by omega) (s1.tr s2) hM)
      · rw [hc, Bool.true_or] at hM
        refine br_f (by decide) ?_
        have := q h2 (s1.tr s2)
        rw [hd hM.symm] at this
        exact this
  have lp : ∀ (j e : Nat) (h1 : Hp), e + j = aEm A m → Pl r h h1 → anyF (fun e => aLe A m e s) j e = aLd A m s → wX12_leads_2 S r (nI m) (nI s) Q (j + 1) h1 (nI e) := by
    intro j
    induction j with
    | zero =>
      intro e h1 hj s1 hM
      have H1 := H.pl s1
      have h3 := H1.m3
      show wX12_leads_2b S r (nI m) (nI s) Q _ h1 _
      unfold wX12_leads_2b
      rw [H1.2.1.eventMany, ix_nI (by omega), (H1.M hm).2.2.1]
      refine ⟨H1.1.1, H1.1.eventMany (by omega), br_t (nI_le (by omega) (by omega)) ?_⟩
      have := q h1 s1
      rw [← hM] at this
      exact this
    | succ j ih =>
      intro e h1 hj s1 hM
      have H1 := H.pl s1
      have h3 := H1.m3
      have he : e < aEm A m := by omega
      have we := w.ev he
      show wX12_leads_2b S r (nI m) (nI s) Q (wX12_leads_2 S r (nI m) (nI s) Q (j + 1)) h1 _
      unfold wX12_leads_2b
      rw [H1.2.1.eventMany, H1.2.1.firstPick, n_4, nI_mul, nI_add, ix_nI (by omega), ix_nI (by omega), (H1.M hm).2.2.1, ((H1.M hm).ev he).2.1]
      refine ⟨H1.1.1, H1.1.eventMany (by omega), br_f (nI_ge (by omega) (by omega)) ⟨H1.1.firstPick (by omega), nm_e ⟨_, lpI _ e he (fun hf h2 s2 => ih (e + 1) h2 (by omega) s2 ?_) (fun ht => ?_) (aNp A m e) 0 h1 (by omega) s1 rfl⟩⟩⟩
      · simp only [anyF] at hM
        rw [hf, Bool.false_or] at hM
        exact hM
      · simp only [anyF] at hM
        rw [ht, Bool.true_or] at hM
        exact hM.symm
  exact ⟨_, lp (aEm A m) 0 h (by omega) Sm.rf rfl⟩
theorem ev_ld {A : Ab} {m s : Nat} (w : wfM A m) : evM A m s (aEm A m) = 0 ↔ aLd A m s = false := by
  have w4 := w.e4
  unfold evM
  rw [msk_0, Bool.eq_false_iff, Ne, aLd, anyF_iff]
  constructor
  · rintro h ⟨k, k1, k2, k3⟩
    have := h k (by omega)
    rw [decide_eq_true (show k < aEm A m by omega), Bool.true_and] at this
    have k3' : aLe A m k s = true := k3
    rw [this] at k3'
    cases k3'
  · intro h i hi
    cases hc : (decide (i < aEm A m) && aLe A m i s)
    · rfl
    · rw [Bool.and_eq_true] at hc
      exact absurd ⟨i, by omega, by have := of_decide_eq_true hc.1; omega, hc.2⟩ h
