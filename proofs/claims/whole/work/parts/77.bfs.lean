/-! WHERE ONE CAN COME: the steps to each state, the states met, how many -/
abbrev Bs : Type := (Nat → Int32) × (Nat → Nat) × Nat
def bfV (b : Bs) (t : Nat) (d : Int32) : Bs := if b.1 t = -2 then (fun s => if s = t then d else b.1 s, fun k => if k = b.2.2 then t else b.2.1 k, b.2.2 + 1) else b
def bfP (A : Ab) (m e s : Nat) : Nat → Nat → Bs → Bs
  | 0, _, b => b
  | j + 1, i, b => bfP A m e s j (i + 1) (if sF A m e s i then bfV b (aGv A m e s (aFp A m e + i)).toNatClampNeg (b.1 s + 1) else b)
def bfE (A : Ab) (m s : Nat) : Nat → Nat → Bs → Bs
  | 0, _, b => b
  | j + 1, e, b => bfE A m s j (e + 1) (bfP A m e s 10 0 b)
def bfO (A : Ab) (m : Nat) : Nat → Nat → Bs → Bs
  | 0, _, b => b
  | j + 1, k, b => if k < b.2.2 then bfO A m j (k + 1) (bfE A m (b.2.1 k) (aEm A m) 0 b) else b
def bf0 : Bs := (fun _ => -2, fun _ => 0, 0)
def bfA (A : Ab) (m : Nat) : Bs := bfO A m 100 0 (bfV bf0 (aBe A m) 0)
def unS (A : Ab) (m s : Nat) : Bool := !decide (aSn A m s = 1)
def WfB (A : Ab) (m : Nat) (b : Bs) : Prop := b.2.2 ≤ 100 ∧ (∀ k, k < b.2.2 → b.2.1 k < aSz A m ∧ b.1 (b.2.1 k) ≠ -2) ∧ (∀ s, s < 100 → b.1 s = -2 ∨ ∃ d, d ≤ b.2.2 ∧ b.1 s = nI d) ∧ cntF (fun s => decide (b.1 s = -2)) 100 + b.2.2 = 100 ∧
  cntF (fun k => unS A m (b.2.1 k)) b.2.2 = cntF (fun s => decide (b.1 s ≠ -2) && unS A m s) (aSz A m)
theorem cntF_upd {f g : Nat → Bool} {t : Nat} : ∀ {n : Nat}, t < n → f t = true → g t = false → (∀ s, s ≠ t → f s = g s) → cntF f n = cntF g n + 1
  | 0, h, _, _, _ => absurd h (by omega)
  | n + 1, h, h1, h2, h3 => by
    show cntF f n + (if f n = true then 1 else 0) = cntF g n + (if g n = true then 1 else 0) + 1
    by_cases e : t = n
    · subst e
      rw [cntF_ext (n := t) (fun i hi => h3 i (by omega)), h1, h2]
      simp
    · rw [cntF_upd (n := n) (by omega) h1 h2 h3, h3 n (Ne.symm e)]
      omega
theorem cntF_0 {f : Nat → Bool} : ∀ {n : Nat}, cntF f n = 0 → ∀ i, i < n → f i = false
  | 0, _, i, hi => absurd hi (by omega)
  | n + 1, h, i, hi => by
    have h' : cntF f n + (if f n = true then 1 else 0) = 0 := h
    by_cases e : i = n
    · subst e
      cases hf : f i
      · rfl
      · rw [hf] at h'
        simp at h'
    · exact cntF_0 (n := n) (by omega) i (by omega)
theorem WfB.lt {A : Ab} {m t : Nat} {b : Bs} (H : WfB A m b) (w : wfM A m) (ht : t < aSz A m) (hn : b.1 t = -2) : b.2.2 < 100 := by
  have ws := w.s100
  by_cases h : b.2.2 = 100
  · have h4 := H.2.2.2.1
    have := cntF_0 (f := fun s => decide (b.1 s = -2)) (n := 100) (by omega) t (by omega)
    simp [hn] at this
  · have := H.1
    omega
theorem WfB.vis {A : Ab} {m t d : Nat} {b : Bs} (H : WfB A m b) (w : wfM A m) (ht : t < aSz A m) (hd : d ≤ b.2.2 + 1) : WfB A m (bfV b t (nI d)) := by
  have ws := w.s100
  unfold bfV
  split
  · rename_i hn
    have hlt := H.lt w ht hn
    obtain ⟨h1, h2, h3, h4, h5⟩ := H
    have hd2 : nI d ≠ -2 := nI_n2 (by omega)
    refine ⟨by show b.2.2 + 1 ≤ 100; omega, fun k hk => ?_, fun s hs => ?_, ?_, ?_⟩
    · show (if k = b.2.2 then t else b.2.1 k) < aSz A m ∧ (if (if k = b.2.2 then t else b.2.1 k) = t then nI d else b.1 (if k = b.2.2 then t else b.2.1 k)) ≠ -2
      by_cases e : k = b.2.2
      · rw [if_pos e, if_pos rfl]
        exact ⟨ht, hd2⟩
      · rw [if_neg e]
        have hk' : k < b.2.2 + 1 := hk
        have := h2 k (by omega)
        refine ⟨this.1, ?_⟩
        split
        · exact hd2
        · exact this.2
    · show (if s = t then nI d else b.1 s) = -2 ∨ ∃ d', d' ≤ b.2.2 + 1 ∧ (if s = t then nI d else b.1 s) = nI d'
      by_cases e : s = t
      · rw [if_pos e]
        exact Or.inr ⟨d, hd, rfl⟩
      · rw [if_neg e]
        rcases h3 s hs with q | ⟨d', q1, q2⟩
        · exact Or.inl q
        · exact Or.inr ⟨d', by omega, q2⟩
    · show cntF (fun s => decide ((if s = t then nI d else b.1 s) = -2)) 100 + (b.2.2 + 1) = 100
      have := cntF_upd (f := fun s => decide (b.1 s = -2)) (g := fun s => decide ((if s = t then nI d else b.1 s) = -2)) (t := t) (n := 100) (by omega) (by simp [hn]) (by simp [hd2]) (fun s hs => by simp [hs])
      omega
    · show cntF (fun k => unS A m (if k = b.2.2 then t else b.2.1 k)) (b.2.2 + 1) = cntF (fun s => decide ((if s = t then nI d else b.1 s) ≠ -2) && unS A m s) (aSz A m)
      have e1 : cntF (fun k => unS A m (if k = b.2.2 then t else b.2.1 k)) (b.2.2 + 1) = cntF (fun k => unS A m (b.2.1 k)) b.2.2 + (if unS A m t = true then 1 else 0) := by
        show cntF _ b.2.2 + (if unS A m (if b.2.2 = b.2.2 then t else b.2.1 b.2.2) = true then 1 else 0) = _
        rw [if_pos rfl, cntF_ext (n := b.2.2) fun k hk => by rw [if_neg (show ¬ k = b.2.2 by omega)]]
      rw [e1, h5]
      cases hu : unS A m t
      · show cntF _ _ + 0 = _
        rw [Nat.add_zero]
        refine cntF_ext fun s _ => ?_
        by_cases e : s = t
        · rw [e, hu, Bool.and_false, Bool.and_false]
        · rw [if_neg e]
      · show cntF _ _ + 1 = _
        refine (cntF_upd (t := t) ht ?_ ?_ fun s hs => ?_).symm
        · rw [if_pos rfl, hu, decide_eq_true hd2]
          rfl
        · rw [hn]
          rfl
        · rw [if_neg hs]
  · exact H
theorem WfB.d {A : Ab} {m s : Nat} {b : Bs} (H : WfB A m b) (hs : s < 100) (hn : b.1 s ≠ -2) : ∃ d, d ≤ b.2.2 ∧ b.1 s = nI d ∧ b.1 s + 1 = nI (d + 1) := by
  rcases H.2.2.1 s hs with q | ⟨d, q1, q2⟩
  · exact absurd q hn
  · exact ⟨d, q1, q2, by rw [q2, nI_1]⟩
theorem bfV_k {b : Bs} {t s : Nat} {d : Int32} (h : b.1 s ≠ -2) : (bfV b t d).1 s = b.1 s := by
  unfold bfV
  split
  · rename_i hn
    show (if s = t then d else b.1 s) = b.1 s
    by_cases e : s = t
    · exact absurd hn (e ▸ h)
    · rw [if_neg e]
  · rfl
theorem bfV_q {b : Bs} {t k : Nat} {d : Int32} (h : k < b.2.2) : (bfV b t d).2.1 k = b.2.1 k ∧ b.2.2 ≤ (bfV b t d).2.2 := by
  unfold bfV
  split
  · exact ⟨if_neg (by omega), Nat.le_succ _⟩
  · exact ⟨rfl, Nat.le_refl _⟩
/-- the same steps: a state that is met keeps what it has -/
def bfG (A : Ab) (m s k : Nat) (b b' : Bs) : Prop := WfB A m b' ∧ b'.1 s = b.1 s ∧ b'.2.1 k = b.2.1 k ∧ b.2.2 ≤ b'.2.2
theorem bfP_w {A : Ab} {m e s k : Nat} (w : wfM A m) (hs : s < aSz A m) : ∀ (j i : Nat) (b : Bs), WfB A m b → b.1 s ≠ -2 → k < b.2.2 → bfG A m s k b (bfP A m e s j i b)
  | 0, _, b, H, _, _ => ⟨H, rfl, rfl, Nat.le_refl _⟩
  | j + 1, i, b, H, hn, hk => by
    unfold bfP
    have ws := w.s100
    cases hc : sF A m e s i
    · exact bfP_w w hs j (i + 1) b H hn hk
    · obtain ⟨g1, g2, g3⟩ := sF_i hc
      rcases aGv_bd w e s (aFp A m e + i) with hg | ⟨t, ht, hg⟩
      · exact absurd hg g3
      obtain ⟨d, d1, d2, d3⟩ := H.d (by omega) hn
      rw [if_pos rfl, hg, nI_clamp (by omega), d3]
      have H1 := H.vis w ht (d := d + 1) (by omega)
      have h1 := bfV_k (t := t) (d := nI (d + 1)) hn
      have h2 := bfV_q (t := t) (d := nI (d + 1)) hk
      have := bfP_w (e := e) (k := k) w hs j (i + 1) _ H1 (by rw [h1]; exact hn) (Nat.lt_of_lt_of_le hk h2.2)
      exact ⟨this.1, this.2.1.trans h1, this.2.2.1.trans h2.1, Nat.le_trans h2.2 this.2.2.2⟩
theorem bfE_w {A : Ab} {m s k : Nat} (w : wfM A m) (hs : s < aSz A m) : ∀ (j e : Nat) (b : Bs), WfB A m b → b.1 s ≠ -2 → k < b.2.2 → bfG A m s k b (bfE A m s j e b)
  | 0, _, b, H, _, _ => ⟨H, rfl, rfl, Nat.le_refl _⟩
  | j + 1, e, b, H, hn, hk => by
    unfold bfE
    have h1 := bfP_w (e := e) (k := k) w hs 10 0 b H hn hk
    have h2 := bfE_w (k := k) w hs j (e + 1) _ h1.1 (by rw [h1.2.1]; exact hn) (Nat.lt_of_lt_of_le hk h1.2.2.2)
    exact ⟨h2.1, h2.2.1.trans h1.2.1, h2.2.2.1.trans h1.2.2.1, Nat.le_trans h1.2.2.2 h2.2.2.2⟩
theorem bfO_w {A : Ab} {m : Nat} (w : wfM A m) : ∀ (j k : Nat) (b : Bs), WfB A m b → WfB A m (bfO A m j k b)
  | 0, _, _, H => H
  | j + 1, k, b, H => by
    unfold bfO
    split
    · rename_i hk
      have h2 := H.2.1 k hk
      exact bfO_w w j (k + 1) _ (bfE_w (k := k) w h2.1 (aEm A m) 0 b H h2.2 hk).1
    · exact H
theorem bf0_w {A : Ab} {m : Nat} : WfB A m bf0 := by
  refine ⟨Nat.zero_le _, fun k hk => absurd hk (by show ¬ k < 0; omega), fun s _ => Or.inl rfl, ?_, ?_⟩
  · show cntF (fun _ => decide ((-2 : Int32) = -2)) 100 + 0 = 100
    decide
  · show 0 = cntF (fun s => decide ((-2 : Int32) ≠ -2) && unS A m s) (aSz A m)
    have : ∀ n, cntF (fun s => decide ((-2 : Int32) ≠ -2) && unS A m s) n = 0 := by
      intro n
      induction n with
      | zero => rfl
      | succ n ih =>
        rw [cntF_n, ih]
        rfl
    exact (this _).symm
theorem bf1_w {A : Ab} {m : Nat} (w : wfM A m) : WfB A m (bfV bf0 (aBe A m) 0) := bf0_w.vis (d := 0) w (aBe_bd w) (Nat.zero_le _)
theorem bfA_w {A : Ab} {m : Nat} (w : wfM A m) : WfB A m (bfA A m) := bfO_w w _ _ _ (bf1_w w)
