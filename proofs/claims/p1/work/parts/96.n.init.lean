/-! A NEW OBJECT OF THE CLASS: its parts one behind another -/
def csL : List (Nat × Nat) := [(12, 0), (21, 600), (6, 0), (9, 0), (20, 601), (20, 601), (23, 601), (23, 16), (23, 24), (2, 0), (8, 0), (11, 0), (8, 0), (8, 0), (5, 0), (20, 100), (20, 100), (7, 0), (21, 68), (20, 3)]
/-- k cells stand, with the references R (cell, place, where to) -/
def CIn (k : Nat) (R : List (Nat × Nat × Nat)) (S : Sh) (h : Hp) (a : Nat) : Prop := (∀ i, i < k → S (a + i) = csL.getD i (0, 0)) ∧ (∀ t ∈ R, t.1 < k ∧ gR h (a + t.1) t.2.1 = a + t.2.2) ∧ Fz h (a + k)
theorem CIn.step {k n jw : Nat} {R Rn : List (Nat × Nat × Nat)} {S S' : Sh} {h h' : Hp} {a : Nat} (H : CIn k R S h a) (hk : 0 < k) (s0 : ∀ b, b < a + k → S' b = S b) (sn : ∀ i, i < n → S' (a + k + i) = csL.getD (k + i) (0, 0)) (r0 : ∀ b, b < a + k → ∀ j, gR h' b j = gR h b j)
    (rn : ∀ t ∈ Rn, k ≤ t.1 ∧ t.1 < k + n ∧ gR h' (a + t.1) t.2.1 = a + t.2.2) (fz : Fz h' (a + k + n)) (jn : ∀ t ∈ R, ¬ (t.1 = 0 ∧ t.2.1 = jw)) : CIn (k + n) ((0, jw, k) :: (Rn ++ R)) S' (pR h' a jw (a + k)) a := by
  refine ⟨fun i hi => ?_, fun t ht => ?_, ?_⟩
  · by_cases c : i < k
    · rw [s0 _ (by omega)]; exact H.1 i c
    · have := sn (i - k) (by omega)
      rw [show a + k + (i - k) = a + i by omega, show k + (i - k) = i by omega] at this
      exact this
  · rcases List.mem_cons.mp ht with e | ht
    · subst e
      refine ⟨by show 0 < k + n; omega, ?_⟩
      show gR (pR h' a jw (a + k)) (a + 0) jw = a + k
      rw [gR_pR, if_pos ⟨by omega, rfl⟩]
    · rcases List.mem_append.mp ht with ht | ht
      · obtain ⟨t1, t2, t3⟩ := rn t ht
        exact ⟨t2, by rw [gR_pR, if_neg (by omega)]; exact t3⟩
      · obtain ⟨t1, t2⟩ := H.2.1 t ht
        have := jn t ht
        exact ⟨by omega, by rw [gR_pR, if_neg (by omega), r0 _ (by omega)]; exact t2⟩
  · have := fz.pR (a := a) (by omega) jw (a + k)
    rw [show a + (k + n) = a + k + n by omega]
    exact this
/-- what numbers and longs a new object has -/
def IJn (h : Hp) (a : Nat) (w : Bool) : Prop := (∀ b j, gI h b j = if w = true ∧ b = a + 11 ∧ j = 2 then -1 else 0) ∧ ∀ b j, gJ h b j = if b = a + 7 then (rsF 72).2 j else 0
