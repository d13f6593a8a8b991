theorem addM_ag {A : Ab} {w i : Nat} (hi : i ≠ aMM A) : AgM A (addM A w) i := by
  refine ⟨fun k hk => funext fun x => ?_, rfl, rfl, fun _ _ => rfl, rfl, ?_, funext fun x => ?_, funext fun x => ?_⟩
  · show (if k = 0 then _ else if i = aMM A then _ else _) = _
    rw [if_neg hk, if_neg hi]
  · show (if 0 = 0 ∧ i = aMM A then _ else _) = _
    rw [if_neg (fun q => hi q.2)]
  · show (if 1 + i = 0 ∧ x = aMM A then _ else _) = _
    rw [if_neg (by omega)]
  · show (if 10 + i = 0 ∧ x = aMM A then _ else _) = _
    rw [if_neg (by omega)]
theorem addV_ag {A : Ab} {m w lo hi at_ i : Nat} (hi' : i ≠ m) (hm : m < 3) : AgM A (addV A m w lo hi at_) i := by
  refine ⟨fun k hk => funext fun x => ?_, rfl, rfl, fun _ _ => rfl, rfl, ?_, funext fun x => ?_, funext fun x => ?_⟩
  · show (if i = m ∧ k = 1 then _ else if i = m ∧ k = 5 then _ else if i = m ∧ x = aVm A m ∧ k = 2 then _ else if i = m ∧ x = aVm A m ∧ k = 3 then _ else if i = m ∧ x = aVm A m ∧ k = 4 then _ else _) = _
    rw [if_neg (fun q => hi' q.1), if_neg (fun q => hi' q.1), if_neg (fun q => hi' q.1), if_neg (fun q => hi' q.1), if_neg (fun q => hi' q.1)]
  · show (if 0 = 1 + m ∧ i = aVm A m then _ else _) = _
    rw [if_neg (by omega)]
  · show (if 1 + i = 1 + m ∧ x = aVm A m then _ else _) = _
    rw [if_neg (by omega)]
  · show (if 10 + i = 1 + m ∧ x = aVm A m then _ else _) = _
    rw [if_neg (by omega)]
theorem addL_ag {A : Ab} {m i : Nat} {c : Cd} (hi : i ≠ m) : AgM A (addL A m c) i := by
  refine ⟨fun k hk => funext fun x => ?_, funext fun x => ?_, funext fun x => ?_, fun e _ => funext fun x => ?_, funext fun x => ?_, rfl, rfl, rfl⟩
  · show (if i = m ∧ k = 6 then _ else _) = _
    rw [if_neg (fun q => hi q.1)]
  · show (if 0 = 0 ∧ i = m ∧ x = aLm A m then _ else _) = _
    rw [if_neg (fun q => hi q.2.1)]
  · simp [addL]
  · simp [addL]
  · simp [addL]
theorem addT_ag {A : Ab} {m i : Nat} {c : Cd} (hi : i ≠ m) : AgM A (addT A m c) i := by
  refine ⟨fun k hk => funext fun x => ?_, funext fun x => ?_, funext fun x => ?_, fun e _ => funext fun x => ?_, funext fun x => ?_, rfl, rfl, rfl⟩
  · show (if i = m ∧ k = 8 then _ else _) = _
    rw [if_neg (fun q => hi q.1)]
  · simp [addT]
  · simp [addT]
  · simp [addT]
  · show (if 3 = 3 ∧ i = m then _ else _) = _
    rw [if_neg (fun q => hi q.2)]
theorem addE_ag {A : Ab} {m w o fp lp gb i : Nat} {gc : Cd} {sc : Nat → Cd} (hi : i ≠ m) (hi3 : i < 3) (he : aEm A m < 4) : AgM A (addE A m w o fp lp gb gc sc) i := by
  refine ⟨fun k hk => funext fun x => ?_, funext fun x => ?_, funext fun x => ?_, fun e he' => funext fun x => ?_, funext fun x => ?_, ?_, funext fun x => ?_, funext fun x => ?_⟩
  · show (if i = m ∧ k = 7 then _ else if i = m ∧ x = aEm A m ∧ k = 9 then _ else if i = m ∧ x = aEm A m ∧ k = 10 then _ else if i = m ∧ x = aEm A m ∧ k = 11 then _ else if i = m ∧ x = aEm A m ∧ k = 12 then _ else if i = m ∧ x = aEm A m ∧ k = 13 then _ else _) = _
    rw [if_neg (fun q => hi q.1), if_neg (fun q => hi q.1), if_neg (fun q => hi q.1), if_neg (fun q => hi q.1), if_neg (fun q => hi q.1), if_neg (fun q => hi q.1)]
  · simp [addE]
  · simp [addE, hi]
  · simp only [addE]
    rw [if_neg (by omega), if_neg (by omega)]
  · simp [addE]
  · show (if 0 = 10 + m ∧ i = aEm A m then _ else _) = _
    rw [if_neg (by omega)]
  · show (if 1 + i = 10 + m ∧ x = aEm A m then _ else _) = _
    rw [if_neg (by omega)]
  · show (if 10 + i = 10 + m ∧ x = aEm A m then _ else _) = _
    rw [if_neg (by omega)]
/-! the machine that is being told -/
theorem addM_m {A : Ab} {w : Nat} : aMM (addM A w) = aMM A + 1 ∧ aVm (addM A w) (aMM A) = 0 ∧ aSz (addM A w) (aMM A) = 1 ∧ aLm (addM A w) (aMM A) = 0 ∧ aEm (addM A w) (aMM A) = 0 ∧ aVt (addM A w) (aMM A) = 0 ∧ aMn (addM A w) (aMM A) = lN w := by
  refine ⟨rfl, ?_, ?_, ?_, ?_, ?_, ?_⟩
  · simp [aVm, addM]
  · simp [aSz, addM]
  · simp [aLm, addM]
  · simp [aEm, addM]
  · simp [aVt, addM]
  · simp [aMn, addM]
theorem wdA_M {A : Ab} {w : Nat} (H : wdA A) (h3 : aMM A < 3) (hv : ¬ (0 < aMM A ∧ aVm A (cM A) = 0)) : wdA (addM A w) := by
  obtain ⟨e0, e1, e2, e3, e4, e5, e6⟩ := addM_m (A := A) (w := w)
  refine ⟨by rw [e0]; omega, fun m hm => ?_, fun m hm => ?_⟩
  · rw [e0] at hm
    by_cases c : m = aMM A
    · subst c
      refine ⟨by omega, by omega, by omega, by rw [e1, e2]; rfl, by omega, by omega, fun v hv => ?_, fun q => absurd e5 q, fun e he => ?_, fun l hl => ?_, fun _ => ⟨e3, e4, e5⟩⟩
      · omega
      · omega
      · omega
    · refine wdM_ag (addM_ag c) (fun h0 => ?_) (H.2.1 m (by omega))
      have ag := addM_ag (A := A) (w := w) (i := m - 1) (by omega)
      exact ⟨ag.vm, ag.em⟩
  · rw [e0] at hm
    have ag := addM_ag (A := A) (w := w) (i := m) (by omega)
    rw [ag.vm]
    by_cases c : m + 1 < aMM A
    · exact H.2.2 m c
    · have : m = cM A := by unfold cM; omega
      rw [this]
      have := fun q => hv ⟨by omega, q⟩
      omega
section
variable {A : Ab} {m w lo hi at_ : Nat}
theorem addV_mm (hm : m < 3) : aMM (addV A m w lo hi at_) = aMM A := by
  simp [aMM, addV]
theorem addV_k {k x : Nat} (h : k ≠ 1 ∧ k ≠ 5) (hx : x ≠ aVm A m ∨ (k ≠ 2 ∧ k ≠ 3 ∧ k ≠ 4)) : (addV A m w lo hi at_).1 k m x = A.1 k m x := by
  show (if m = m ∧ k = 1 then _ else if m = m ∧ k = 5 then _ else if m = m ∧ x = aVm A m ∧ k = 2 then _ else if m = m ∧ x = aVm A m ∧ k = 3 then _ else if m = m ∧ x = aVm A m ∧ k = 4 then _ else _) = _
  rw [if_neg (by omega), if_neg (by omega), if_neg (by omega), if_neg (by omega), if_neg (by omega)]
theorem addV_m : aVm (addV A m w lo hi at_) m = aVm A m + 1 ∧ aSz (addV A m w lo hi at_) m = aSz A m * (hi - lo + 1) ∧ aLo (addV A m w lo hi at_) m (aVm A m) = lo ∧ aHi (addV A m w lo hi at_) m (aVm A m) = hi ∧ aAt (addV A m w lo hi at_) m (aVm A m) = at_ ∧
    (∀ v, v ≠ aVm A m → aLo (addV A m w lo hi at_) m v = aLo A m v ∧ aHi (addV A m w lo hi at_) m v = aHi A m v ∧ aAt (addV A m w lo hi at_) m v = aAt A m v ∧ aVn (addV A m w lo hi at_) m v = aVn A m v) ∧ aVn (addV A m w lo hi at_) m (aVm A m) = lN w ∧
    aLm (addV A m w lo hi at_) m = aLm A m ∧ aEm (addV A m w lo hi at_) m = aEm A m ∧ aVt (addV A m w lo hi at_) m = aVt A m ∧ aMn (addV A m w lo hi at_) m = aMn A m := by
  refine ⟨?_, ?_, ?_, ?_, ?_, fun v hv => ⟨addV_k ⟨by decide, by decide⟩ (Or.inl hv), addV_k ⟨by decide, by decide⟩ (Or.inl hv), addV_k ⟨by decide, by decide⟩ (Or.inl hv), ?_⟩, ?_, addV_k ⟨by decide, by decide⟩ (Or.inr ⟨by decide, by decide, by decide⟩), addV_k ⟨by decide, by decide⟩ (Or.inr ⟨by decide, by decide, by decide⟩), addV_k ⟨by decide, by decide⟩ (Or.inr ⟨by decide, by decide, by decide⟩), ?_⟩
  · simp [aVm, addV]
  · simp [aSz, addV]
  · simp [aLo, addV]
  · simp [aHi, addV]
  · simp [aAt, addV]
  · show (if 1 + m = 1 + m ∧ v = aVm A m then _ else _) = _
    rw [if_neg (fun q => hv q.2)]
    rfl
  · show (if 1 + m = 1 + m ∧ aVm A m = aVm A m then _ else _) = _; simp
  · show (if 0 = 1 + m ∧ m = aVm A m then _ else _) = _
    rw [if_neg (by omega)]
    rfl
end
theorem wdA_V {A : Ab} {w lo hi at_ : Nat} (H : wdA A) (h0 : aMM A ≠ 0) (hv : ¬ (3 ≤ aVm A (cM A) ∨ 0 < aLm A (cM A) ∨ 0 < aEm A (cM A) ∨ aVt A (cM A) ≠ 0)) (b1 : lo ≤ at_) (b2 : at_ ≤ hi) (b3 : hi ≤ 9) (b4 : aSz A (cM A) * (hi - lo + 1) ≤ 100) : wdA (addV A (cM A) w lo hi at_) := by
  have h3 := H.1
  have hm : cM A < aMM A := by unfold cM; omega
  have hm3 : cM A < 3 := by omega
  obtain ⟨e1, e2, e3, e4, e5, e6, e7, e8, e9, e10, e11⟩ := addV_m (A := A) (m := cM A) (w := w) (lo := lo) (hi := hi) (at_ := at_)
  obtain ⟨w1, w2, w3, w4, w5, w6, w7, w8, w9, w10, w11⟩ := H.2.1 _ hm
  rw [wdA, addV_mm hm3]
  refine ⟨h3, fun m hmm => ?_, fun m hmm => ?_⟩
  · by_cases c : m = cM A
    · subst c
      have pr : ∀ v, v ≤ aVm A (cM A) → aPr (addV A (cM A) w lo hi at_) (cM A) v = aPr A (cM A) v := by
        intro v
        induction v with
        | zero => intro _; rfl
        | succ v ih =>
          intro hv
          have := e6 v (by omega)
          show aPr _ _ v * (aHi _ _ v + 1 - aLo _ _ v) = aPr A (cM A) v * (aHi A (cM A) v + 1 - aLo A (cM A) v)
          rw [ih (by omega), this.1, this.2.1]
      refine ⟨by omega, by omega, by omega, ?_, by omega, ?_, fun v hv => ?_, fun q => absurd e10 (by omega), fun e he => by omega, fun l hl => by omega, fun q => by omega⟩
      · rw [e1, e2]
        show _ = aPr _ _ (aVm A (cM A)) * (aHi _ _ (aVm A (cM A)) + 1 - aLo _ _ (aVm A (cM A)))
        rw [pr _ (Nat.le_refl _), e3, e4, ← w4]
        congr 1
        omega
      · rw [e2]
        exact Nat.mul_pos (by omega) (by omega)
      · rw [e1] at hv
        by_cases cv : v = aVm A (cM A)
        · subst cv
          rw [e3, e4, e5]
          exact ⟨b1, b2, b3⟩
        · have := e6 v cv
          rw [this.1, this.2.1, this.2.2.1]
          exact w7 v (by omega)
    · refine wdM_ag (addV_ag c hm3) (fun h0 => ?_) (H.2.1 m hmm)
      have ag := addV_ag (A := A) (m := cM A) (w := w) (lo := lo) (hi := hi) (at_ := at_) (i := m - 1) (by unfold cM; omega) hm3
      exact ⟨ag.vm, ag.em⟩
  · by_cases c : m = cM A
    · subst c
      omega
    · rw [(addV_ag c hm3).vm]
      exact H.2.2 m hmm
