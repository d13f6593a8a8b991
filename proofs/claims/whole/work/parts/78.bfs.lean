/-! the class's paths at p -/
def PhS (S : Sh) (h : Hp) (p : Nat) : Prop := S p = (5, 0) ∧ S (p + 1) = (20, 100) ∧ S (p + 2) = (20, 100) ∧ gR h p 0 = p + 1 ∧ gR h p 1 = p + 2
def BfC (h : Hp) (p : Nat) (b : Bs) : Prop := (∀ s, s < 100 → gI h (p + 1) s = b.1 s) ∧ (∀ k, k < b.2.2 → gI h (p + 2) k = nI (b.2.1 k)) ∧ gI h p 2 = nI b.2.2
abbrev Pf (p : Nat) (h h' : Hp) : Prop := Sm (fun b => b ≠ p ∧ b ≠ p + 1 ∧ b ≠ p + 2) h h'
theorem cVis {A : Ab} {S : Sh} {h : Hp} {p m t d : Nat} {b : Bs} {Q : Hp → Prop} (hP : PhS S h p) (w : wfM A m) (H : WfB A m b) (C : BfC h p b) (ht : t < aSz A m) (q : ∀ h', Pf p h h' → PhS S h' p → BfC h' p (bfV b t (nI d)) → Q h') : wX4_reachState S h p (nI t) (nI d) Q := by
  obtain ⟨p1, p2, p3, p4, p5⟩ := hP
  obtain ⟨c1, c2, c3⟩ := C
  have ws := w.s100
  have h100 := H.1
  unfold wX4_reachState
  refine br_f (nI_pos (by omega)) ⟨by rw [p1], ?_⟩
  rw [p4, ix_nI (by omega), c1 t (by omega), c3]
  refine ⟨inA_of p2 (by omega) (by decide), ?_⟩
  unfold bfV at q
  by_cases hn : b.1 t = -2
  · rw [if_pos hn] at q
    have hlt := H.lt w ht hn
    refine ⟨fun n => absurd hn n, fun _ => br_f (nI_ge (b := 100) (by omega) (by omega)) (nm_e ?_)⟩
    rw [show gR (pI h (p + 1) t (nI d)) p 1 = p + 2 from p5, show gI (pI h (p + 1) t (nI d)) p 2 = nI b.2.2 from by rw [gI_pI, if_neg (by omega)]; exact c3, ix_nI (by omega)]
    refine ⟨inA_of p3 (by omega) (by decide), nm_e (q _ (((Sm.rf.pI (by simp) _ _).pI (by simp) _ _).pI (by simp) _ _) ⟨p1, p2, p3, p4, p5⟩ ⟨fun s hs => ?_, fun k hk => ?_, ?_⟩)⟩
    · rw [gI_pI, if_neg (by omega), gI_pI, if_neg (by omega), gI_pI]
      show _ = if s = t then nI d else b.1 s
      by_cases e : s = t
      · rw [if_pos ⟨rfl, e⟩, if_pos e]
      · rw [if_neg (fun q => e q.2), if_neg e]
        exact c1 s hs
    · rw [gI_pI, if_neg (by omega), gI_pI]
      show _ = nI (if k = b.2.2 then t else b.2.1 k)
      by_cases e : k = b.2.2
      · rw [if_pos ⟨rfl, e⟩, if_pos e]
      · rw [if_neg (fun q => e q.2), if_neg e, gI_pI, if_neg (by omega)]
        have hk' : k < b.2.2 + 1 := hk
        exact c2 k (by omega)
    · rw [gI_pI, if_pos ⟨rfl, rfl⟩, gI_pI, if_neg (by omega), gI_pI, if_neg (by omega), c3, nI_1]
  · rw [if_neg hn] at q
    exact ⟨fun _ => q h Sm.rf ⟨p1, p2, p3, p4, p5⟩ ⟨c1, c2, c3⟩, fun n => absurd n hn⟩
theorem cRf {A : Ab} {S : Sh} {h0 : Hp} {p a m e s k : Nat} {b0 : Bs} {Q : Hp → Prop} (M : Cm A S h0 a m) (hpa : p + 2 < a ∨ a + 145 ≤ p) (he : e < aEm A m) (hs : s < aSz A m) (hk : k < b0.2.2) (H0 : WfB A m b0) (hn0 : b0.1 s ≠ -2) (hP0 : PhS S h0 p) (C0 : BfC h0 p b0)
    (q : ∀ h', Pf p h0 h' → PhS S h' p → BfC h' p (bfP A m e s 10 0 b0) → Q h') : wX4_reachFrom S h0 p (a + 11 + 5 * e) (nI s) Q := by
  have w := M.2.2.2
  have ws := w.s100
  have w4 := w.e4
  obtain ⟨e1, e2, e3, e4, e5⟩ := M.E he
  refine ⟨by rw [e1.1], cSteps e1 e2 w he e3 hs ?_⟩
  have lp : ∀ (j i : Nat) (h : Hp) (b : Bs), i + j = 10 → Pf p h0 h → PhS S h p → BfC h p b → WfB A m b → b.1 s ≠ -2 → k < b.2.2 → bfP A m e s j i b = bfP A m e s 10 0 b0 → wX4_reachFrom_9 S p (a + 11 + 5 * e) (nI s) (nI (msk (sF A m e s) 10)) Q (j + 1) h (nI i) := by
    intro j
    induction j with
    | zero =>
      intro i h b hj s0 hP C H hn hk hF
      refine br_t (nI_le (a := 10) (by omega) (by omega)) (q h s0 hP ?_)
      rw [← hF]
      exact C
    | succ j ih =>
      intro i h b hj s0 hP C H hn hk hF
      show wX4_reachFrom_9b S p _ (nI s) _ Q (wX4_reachFrom_9 S p (a + 11 + 5 * e) (nI s) (nI (msk (sF A m e s) 10)) Q (j + 1)) h (nI i)
      unfold wX4_reachFrom_9b
      rw [cBit (by omega), nI_1]
      refine br_f (nI_ge (b := 10) (by omega) (by omega)) ?_
      unfold bfP at hF
      cases hc : sF A m e s i
      · rw [hc] at hF
        exact br_t rfl (ih (i + 1) h b (by omega) s0 hP C H hn hk hF)
      · obtain ⟨g1, g2, g3⟩ := sF_i hc
        rcases aGv_bd w e s (aFp A m e + i) with hg | ⟨t, ht, hg⟩
        · exact absurd hg g3
        obtain ⟨d, d1, d2, d3⟩ := H.d (by omega) hn
        rw [hc, if_pos rfl, hg, nI_clamp (by omega), d3] at hF
        have M1 := M.of (s0.mono fun c hc => by omega)
        obtain ⟨v1, v2, v3, v4, v5⟩ := M1.E he
        refine br_f (by decide) ⟨by rw [v1.1], cAfter v1 v2 w he v3 hs g1 ⟨by rw [hP.1], ?_⟩⟩
        rw [hP.2.2.2.1, ix_nI (by omega), C.1 s (by omega), d3, hg]
        refine ⟨inA_of hP.2.1 (by omega) (by decide), cVis hP w H C ht fun h1 s1 hP1 C1 => ?_⟩
        have H1 := H.vis w ht (d := d + 1) (by omega)
        have h1' := bfV_k (t := t) (d := nI (d + 1)) hn
        have h2' := bfV_q (t := t) (d := nI (d + 1)) hk
        exact ih (i + 1) h1 _ (by omega) (s0.tr s1) hP1 C1 H1 (by rw [h1']; exact hn) (Nat.lt_of_lt_of_le hk h2'.2) hF
  exact ⟨_, lp 10 0 h0 b0 rfl Sm.rf hP0 C0 H0 hn0 hk rfl⟩
theorem cEx_e {A : Ab} {S : Sh} {h0 : Hp} {p a m s k : Nat} {b0 : Bs} {B25 : Hp → Int32 → Prop} {Q : Hp → Prop} (M : Cm A S h0 a m) (hpa : p + 2 < a ∨ a + 145 ≤ p) (hs : s < aSz A m) {F : Bs} (q : ∀ h', Pf p h0 h' → PhS S h' p → BfC h' p F → B25 h' (nI (k + 1))) :
    ∀ (j e : Nat) (h : Hp) (b : Bs), e + j = aEm A m → Pf p h0 h → PhS S h p → BfC h p b → WfB A m b → b.1 s ≠ -2 → k < b.2.2 → bfE A m s j e b = F → wX4_explore_49 S B25 p a (nI k) (nI s) Q (j + 1) h (nI e)
  | 0, e, h, b, hj, s0, hP, C, H, hn, hk, hF => by
    have M1 := M.of (s0.mono fun c hc => by omega)
    have w4 := M.2.2.2.e4
    have h100 := H.1
    show wX4_explore_49b S B25 p a (nI k) (nI s) Q _ h (nI e)
    unfold wX4_explore_49b
    rw [M1.2.2.1.2.2.2.1, nI_1 k]
    subst hF
    exact ⟨by rw [M1.1.1], br_t (nI_le (by omega) (by omega)) (q h s0 hP C)⟩
  | j + 1, e, h, b, hj, s0, hP, C, H, hn, hk, hF => by
    have M1 := M.of (s0.mono fun c hc => by omega)
    have w := M.2.2.2
    have w4 := w.e4
    have he : e < aEm A m := by omega
    obtain ⟨v1, v2, v3, v4, v5⟩ := M1.E he
    show wX4_explore_49b S B25 p a (nI k) (nI s) Q (wX4_explore_49 S B25 p a (nI k) (nI s) Q (j + 1)) h (nI e)
    unfold wX4_explore_49b
    rw [M1.2.2.1.2.2.2.1, M1.2.1.k (k := 5) (by omega), show a + 1 + 5 = a + 6 by omega, ix_nI (by omega), v4, nI_1 e]
    refine ⟨by rw [M1.1.1], br_f (nI_ge (by omega) (by omega)) ⟨inA_of M1.1.2.2.2.2.2.2.1 (by omega) (by decide), by rw [hP.1], cRf M1 hpa he hs hk H hn hP C fun h1 s1 hP1 C1 => ?_⟩⟩
    have g1 := bfP_w (e := e) (k := k) w hs 10 0 b H hn hk
    exact cEx_e (b0 := b0) M hpa hs q j (e + 1) h1 _ (by omega) (s0.tr s1) hP1 C1 g1.1 (by rw [g1.2.1]; exact hn) (Nat.lt_of_lt_of_le hk g1.2.2.2) hF
theorem cEx {A : Ab} {S : Sh} {h : Hp} {p a m : Nat} {Q : Hp → Prop} (M : Cm A S h a m) (hpa : p + 2 < a ∨ a + 145 ≤ p) (hP : PhS S h p) (q : ∀ h', Pf p h h' → PhS S h' p → BfC h' p (bfA A m) → Q h') : wX4_explore S h p a Q := by
  have w := M.2.2.2
  have ws := w.s100
  have hbe := aBe_bd w
  obtain ⟨p1, p2, p3, p4, p5⟩ := hP
  have lpO : ∀ (j k : Nat) (h1 : Hp) (b : Bs), k + j = 100 → Pf p h h1 → PhS S h1 p → BfC h1 p b → WfB A m b → bfO A m j k b = bfA A m → wX4_explore_25 S p a Q (j + 1) h1 (nI k) := by
    intro j
    induction j with
    | zero =>
      intro k h1 b hj s1 hP1 C1 H1 hF
      refine br_t (nI_le (a := 100) (by omega) (by omega)) (q h1 s1 hP1 ?_)
      rw [← hF]
      exact C1
    | succ j ih =>
      intro k h1 b hj s1 hP1 C1 H1 hF
      have M1 := M.of (s1.mono fun c hc => by omega)
      have h100 := H1.1
      show wX4_explore_25b S p a Q (wX4_explore_25 S p a Q (j + 1)) h1 (nI k)
      unfold wX4_explore_25b
      rw [C1.2.2, hP1.2.2.2.2, ix_nI (by omega)]
      refine br_f (nI_ge (b := 100) (by omega) (by omega)) ⟨by rw [p1], ?_⟩
      unfold bfO at hF
      by_cases hk : k < b.2.2
      · rw [if_pos hk] at hF
        have h2 := H1.2.1 k hk
        refine br_f (nI_ge (by omega) (by omega)) ⟨inA_of hP1.2.2.1 (by omega) (by decide), nm_r (C1.2.1 k hk) ⟨_, cEx_e (b0 := b) M1 hpa h2.1 (fun h3 s3 hP3 C3 => ?_) (aEm A m) 0 h1 b (by omega) Sm.rf hP1 C1 H1 h2.2 hk rfl⟩⟩
        exact ih (k + 1) h3 _ (by omega) (s1.tr s3) hP3 C3 (bfE_w (k := k) w h2.1 (aEm A m) 0 b H1 h2.2 hk).1 hF
      · rw [if_neg hk] at hF
        refine br_t (nI_le (by omega) (by omega)) (q h1 s1 hP1 ?_)
        rw [← hF]
        exact C1
  unfold wX4_explore
  rw [p4]
  refine ⟨by rw [p1], by rw [p2], ?_⟩
  rw [p2]
  have fill : ∀ (j i : Nat) (h1 : Hp), i + j = 100 → Pf p h h1 → PhS S h1 p → (∀ s, s < i → gI h1 (p + 1) s = -2) → wJ7_fill_53178_5 S (p + 1) (-2) (nI 100) (fun h6 => (S a).1 = 3 ∧ wX2_beginState S (pI h6 p 2 0) a (fun r16 h16 => wX4_reachState S h16 p r16 0 (fun h20 => ∃ n25, wX4_explore_25 S p a Q n25 h20 0))) (j + 1) h1 (nI i) := by
    intro j
    induction j with
    | zero =>
      intro i h1 hj s1 hP1 a1
      have hi : i = 100 := by omega
      subst hi
      refine br_t (by decide) ⟨by rw [M.1.1], ?_⟩
      have s2 : Pf p h (pI h1 p 2 0) := s1.pI (by simp) _ _
      have M2 := M.of (s2.mono fun c hc => by omega)
      have hP2 : PhS S (pI h1 p 2 0) p := hP1
      have C2 : BfC (pI h1 p 2 0) p bf0 := ⟨fun s hs => by rw [gI_pI, if_neg (by omega)]; exact a1 s hs, fun k hk => absurd hk (by show ¬ k < 0; omega), by rw [gI_pI, if_pos ⟨rfl, rfl⟩]; rfl⟩
      refine cBeg M2.1 M2.2.1 w M2.2.2.1.1 (cVis (d := 0) hP2 w bf0_w C2 hbe fun h3 s3 hP3 C3 => ⟨_, lpO 100 0 h3 _ (by omega) (s2.tr s3) hP3 C3 (bf1_w w) rfl⟩)
    | succ j ih =>
      intro i h1 hj s1 hP1 a1
      refine br_f (nI_ge (by omega) (by decide)) ⟨inA_of p2 (by omega) (by decide), ?_⟩
      rw [ix_nI (by omega), nI_1]
      refine ih (i + 1) _ (by omega) (s1.pI (by simp) _ _) hP1 fun s hs => ?_
      rw [gI_pI]
      by_cases e : s = i
      · rw [if_pos ⟨rfl, e⟩]
      · rw [if_neg (fun q => e q.2)]
        exact a1 s (by omega)
  exact ⟨_, fill 100 0 h (by omega) Sm.rf ⟨p1, p2, p3, p4, p5⟩ (fun s hs => absurd hs (by omega))⟩
