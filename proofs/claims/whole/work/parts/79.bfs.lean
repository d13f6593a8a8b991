/-! the reference's spreads -/
def BfR (h : Hp) (r : Nat) (b : Bs) : Prop := (∀ s, s < 100 → gI h (r + 33) s = b.1 s) ∧ (∀ k, k < b.2.2 → gI h (r + 34) k = nI (b.2.1 k)) ∧ gI h r 64 = nI b.2.2
/-- what spreads changes -/
def Sf (r : Nat) (h h' : Hp) : Prop := Sm (fun b => b ≠ r ∧ b ≠ r + 27 ∧ b ≠ r + 33 ∧ b ≠ r + 34) h h' ∧ (∀ k, gR h' r k = gR h r k) ∧ (∀ k, gJ h' r k = gJ h r k) ∧ ∀ k, k ≠ 64 → gI h' r k = gI h r k
theorem Sf.rf {r : Nat} {h : Hp} : Sf r h h := ⟨Sm.rf, fun _ => rfl, fun _ => rfl, fun _ _ => rfl⟩
theorem Sf.tr {r : Nat} {h1 h2 h3 : Hp} (a : Sf r h1 h2) (b : Sf r h2 h3) : Sf r h1 h3 := ⟨a.1.tr b.1, fun k => (b.2.1 k).trans (a.2.1 k), fun k => (b.2.2.1 k).trans (a.2.2.1 k), fun k p => (b.2.2.2 k p).trans (a.2.2.2 k p)⟩
theorem Sf.pl {r : Nat} {h h' : Hp} (s : Pl r h h') : Sf r h h' := ⟨s.mono fun b hb => hb.2.1, fun k => s.R (by omega) k, fun k => s.J (by omega) k, fun k _ => s.I (by omega) k⟩
theorem Rf.sf {A : Ab} {S : Sh} {h h' : Hp} {r : Nat} (H : Rf A S h r) (s : Sf r h h') : Rf A S h' r := H.of (s.1.mono fun a ha => by omega) (s.2.2.2 37 (by omega)) s.2.1
theorem BfR.pl {h h' : Hp} {r : Nat} {b : Bs} (H : BfR h r b) (s : Pl r h h') : BfR h' r b := ⟨fun t ht => by rw [s.I (by omega)]; exact H.1 t ht, fun k hk => by rw [s.I (by omega)]; exact H.2.1 k hk, by rw [s.I (by omega)]; exact H.2.2⟩
theorem rSp_p {A : Ab} {S : Sh} {h0 : Hp} {r m e s k : Nat} {B52 B62 : Hp → Int32 → Prop} {Q : Hp → Prop} (H0 : Rf A S h0 r) (hm : m < aMM A) (he : e < aEm A m) (hs : s < aSz A m) {F : Bs} (q : ∀ h', Sf r h0 h' → BfR h' r F → B62 h' (nI (e + 1))) :
    ∀ (j i : Nat) (h : Hp) (b : Bs), i + j = aNp A m e → Sf r h0 h → BfR h r b → WfB A m b → b.1 s ≠ -2 → k < b.2.2 → b.2.1 k = s → bfP A m e s (10 - i) i b = F → wX12_spreads_84 S B52 B62 r (nI m) (nI k) (nI e) Q (j + 1) h (nI (aFp A m e + i))
  | 0, i, h, b, hj, s0, C, W, hn, hk, hks, hF => by
    have H := H0.sf s0
    have h3 := H.m3
    have w := H.w hm
    have w4 := w.e4
    have we := w.ev he
    unfold aNp at hj
    show wX12_spreads_84b S B52 B62 r (nI m) (nI k) (nI e) Q _ h _
    unfold wX12_spreads_84b
    rw [H.2.1.lastPick, n_4, nI_mul, nI_add, ix_nI (by omega), ((H.M hm).ev he).2.2.1, nI_1 e]
    refine ⟨H.1.1, H.1.lastPick (by omega), br_t (nI_lt (by omega) (by omega)) (q h s0 ?_)⟩
    have no : ∀ (n i : Nat), aLp A m e < aFp A m e + i → bfP A m e s n i b = b := by
      intro n
      induction n with
      | zero => intro i _; rfl
      | succ n ih =>
        intro i hi
        unfold bfP
        have : sF A m e s i = false := by
          cases hc : sF A m e s i
          · rfl
          · have := (sF_i hc).1
            omega
        rw [this]
        exact ih (i + 1) (by omega)
    rw [no _ _ (by omega)] at hF
    rw [← hF]
    exact C
  | j + 1, i, h, b, hj, s0, C, W, hn, hk, hks, hF => by
    have H := H0.sf s0
    have h3 := H.m3
    have w := H.w hm
    have ws := w.s100
    have w4 := w.e4
    have we := w.ev he
    have hj' := hj
    unfold aNp at hj'
    have h100 := W.1
    have eS : sF A m e s i = gsA A m e s (aFp A m e + i) := by
      unfold sF
      rw [decide_eq_true (show aFp A m e + i ≤ aLp A m e by omega), Bool.true_and]
    rw [show 10 - i = 10 - (i + 1) + 1 by omega] at hF
    unfold bfP at hF
    have nx := fun h' b' s' C' W' hn' hk' hks' hF' => rSp_p (B52 := B52) (Q := Q) (k := k) H0 hm he hs q j (i + 1) h' b' (by omega) s' C' W' hn' hk' hks' hF'
    show wX12_spreads_84b S B52 B62 r (nI m) (nI k) (nI e) Q (wX12_spreads_84 S B52 B62 r (nI m) (nI k) (nI e) Q (j + 1)) h _
    unfold wX12_spreads_84b
    have eQ : ∀ h1, Pl r h h1 → gI h1 (gR h1 r 63) (ix (nI k)) = nI s := by
      intro h1 s1
      rw [(H.pl s1).2.1.queue, ix_nI (by omega), (C.pl s1).2.1 k hk, hks]
    rw [eQ h Sm.rf, H.2.1.lastPick, H.2.1.queue, n_4, nI_mul, nI_add, ix_nI (by omega), ((H.M hm).ev he).2.2.1]
    refine ⟨H.1.1, H.1.lastPick (by omega), br_f (nI_nlt (by omega) (by omega)) ⟨H.1.queue (by omega), rCan H hm he hs fun h1 s1 => ?_⟩⟩
    have no : ∀ h1, Pl r h h1 → sF A m e s i = false → wX12_spreads_84 S B52 B62 r (nI m) (nI k) (nI e) Q (j + 1) h1 (nI (aFp A m e + i) + 1) := by
      intro h1 s1 hc
      rw [hc] at hF
      rw [nI_1, Nat.add_assoc]
      exact nx h1 b (s0.tr (Sf.pl s1)) (C.pl s1) W hn hk hks hF
    cases hc : cbA A m e s (aFp A m e + i)
    · refine br_t rfl (br_t rfl (no h1 s1 ?_))
      rw [eS]
      unfold gsA
      rw [hc, Bool.false_and]
    · rw [eQ h1 s1, (H.pl s1).2.1.queue]
      refine br_f (by decide) ⟨H.1.queue (by omega), rGiv (H.pl s1) hm he hs fun h2 s2 => ?_⟩
      have s12 := s1.tr s2
      have H2 := H.pl s12
      have C2 := C.pl s12
      unfold wX12_spreads_j135
      rcases aGv_bd w e s (aFp A m e + i) with hg | ⟨t, ht, hg⟩
      · refine br_t hg (no h2 s12 ?_)
        rw [eS]
        unfold gsA
        rw [hg, hc]
        rfl
      · have hsf : sF A m e s i = true := by
          rw [eS]
          unfold gsA
          rw [hg, hc, decide_eq_true (nI_n2 (k := t) (by omega))]
          rfl
        obtain ⟨d, d1, d2, d3⟩ := W.d (by omega) hn
        rw [hsf, if_pos rfl, hg, nI_clamp (by omega), d3] at hF
        rw [hg]
        have W' := W.vis w ht (d := d + 1) (by omega)
        have h1' := bfV_k (t := t) (d := nI (d + 1)) hn
        have h2' := bfV_q (t := t) (d := nI (d + 1)) hk
        have fin := fun h' s' C' => nx h' (bfV b t (nI (d + 1))) s' C' W' (by rw [h1']; exact hn) (Nat.lt_of_lt_of_le hk h2'.2) (h2'.1.trans hks) hF
        refine br_f (nI_n2 (by omega)) ⟨H2.1.1, ?_⟩
        rw [eQ h2 s12, H2.2.1.far, H2.2.1.queue, ix_nI (by omega), ix_nI (by omega), C2.1 t (by omega), C2.1 s (by omega), d3, nI_1, Nat.add_assoc]
        refine ⟨H2.1.far (by omega), ?_⟩
        by_cases hv : b.1 t = -2
        · have hlt := W.lt w ht hv
          refine br_t hv ⟨H2.1.queue (by omega), H2.1.far (by omega), nm_e ?_⟩
          rw [show gR (pI h2 (r + 33) t (nI (d + 1))) r 63 = r + 34 from H2.2.1.queue, show gI (pI h2 (r + 33) t (nI (d + 1))) r 64 = nI b.2.2 from by rw [gI_pI, if_neg (by omega)]; exact C2.2.2, ix_nI (by omega)]
          refine ⟨H2.1.queue (by omega), nm_e (fin _ ?_ ?_)⟩
          · refine s0.tr ((Sf.pl s12).tr ⟨((Sm.rf.pI (by simp) _ _).pI (by simp) _ _).pI (by simp) _ _, fun _ => rfl, fun _ => rfl, fun k hk => ?_⟩)
            rw [gI_pI, if_neg (by omega), gI_pI, if_neg (by omega), gI_pI, if_neg (by omega)]
          · unfold bfV
            rw [if_pos hv]
            refine ⟨fun x hx => ?_, fun k' hk' => ?_, ?_⟩
            · rw [gI_pI, if_neg (by omega), gI_pI, if_neg (by omega), gI_pI]
              show _ = if x = t then nI (d + 1) else b.1 x
              by_cases e : x = t
              · rw [if_pos ⟨rfl, e⟩, if_pos e]
              · rw [if_neg (fun q => e q.2), if_neg e]
                exact C2.1 x hx
            · rw [gI_pI, if_neg (by omega), gI_pI]
              show _ = nI (if k' = b.2.2 then t else b.2.1 k')
              by_cases e : k' = b.2.2
              · rw [if_pos ⟨rfl, e⟩, if_pos e]
              · rw [if_neg (fun q => e q.2), if_neg e, gI_pI, if_neg (by omega)]
                have hk'' : k' < b.2.2 + 1 := hk'
                exact C2.2.1 k' (by omega)
            · rw [gI_pI, if_pos ⟨rfl, rfl⟩, gI_pI, if_neg (by omega), gI_pI, if_neg (by omega), C2.2.2, nI_1]
        · refine br_f hv (fin h2 (s0.tr (Sf.pl s12)) ?_)
          unfold bfV
          rw [if_neg hv]
          exact C2
theorem rSp_e {A : Ab} {S : Sh} {h0 : Hp} {r m s k : Nat} {B52 : Hp → Int32 → Prop} {Q : Hp → Prop} (H0 : Rf A S h0 r) (hm : m < aMM A) (hs : s < aSz A m) {F : Bs} (q : ∀ h', Sf r h0 h' → BfR h' r F → B52 h' (nI (k + 1))) :
    ∀ (j e : Nat) (h : Hp) (b : Bs), e + j = aEm A m → Sf r h0 h → BfR h r b → WfB A m b → b.1 s ≠ -2 → k < b.2.2 → b.2.1 k = s → bfE A m s j e b = F → wX12_spreads_62 S B52 r (nI m) (nI k) Q (j + 1) h (nI e) := by
  intro j
  induction j with
  | zero =>
    intro e h b hj s0 C W hn hk hks hF
    have H := H0.sf s0
    have h3 := H.m3
    have w4 := (H.w hm).e4
    show wX12_spreads_62b S B52 r (nI m) (nI k) Q _ h (nI e)
    unfold wX12_spreads_62b
    rw [H.2.1.eventMany, ix_nI (by omega), (H.M hm).2.2.1, nI_1 k]
    subst hF
    exact ⟨H.1.1, H.1.eventMany (by omega), br_t (nI_le (by omega) (by omega)) (q h s0 C)⟩
  | succ j ih =>
    intro e h b hj s0 C W hn hk hks hF
    have H := H0.sf s0
    have h3 := H.m3
    have w := H.w hm
    have w4 := w.e4
    have he : e < aEm A m := by omega
    have we := w.ev he
    show wX12_spreads_62b S B52 r (nI m) (nI k) Q (wX12_spreads_62 S B52 r (nI m) (nI k) Q (j + 1)) h (nI e)
    unfold wX12_spreads_62b
    rw [H.2.1.eventMany, H.2.1.firstPick, n_4, nI_mul, nI_add, ix_nI (by omega), ix_nI (by omega), (H.M hm).2.2.1, ((H.M hm).ev he).2.1]
    refine ⟨H.1.1, H.1.eventMany (by omega), br_f (nI_ge (by omega) (by omega)) ⟨H.1.firstPick (by omega), nm_e ⟨_, rSp_p H hm he hs (fun h1 s1 C1 => ?_) (aNp A m e) 0 h b (by omega) Sf.rf C W hn hk hks rfl⟩⟩⟩
    have g1 := bfP_w (e := e) (k := k) w hs 10 0 b W hn hk
    exact ih (e + 1) h1 _ (by omega) (s0.tr s1) C1 g1.1 (by rw [g1.2.1]; exact hn) (Nat.lt_of_lt_of_le hk g1.2.2.2) (g1.2.2.1.trans hks) hF
theorem rSp {A : Ab} {S : Sh} {h : Hp} {r m : Nat} {Q : Hp → Prop} (H : Rf A S h r) (hm : m < aMM A) (q : ∀ h', Sf r h h' → BfR h' r (bfA A m) → Q h') : wX12_spreads S h r (nI m) Q := by
  have w := H.w hm
  have ws := w.s100
  have hbe := aBe_bd w
  have lpO : ∀ (j k : Nat) (h1 : Hp) (b : Bs), k + j = 101 → Sf r h h1 → BfR h1 r b → WfB A m b → bfO A m (100 - k) k b = bfA A m → k ≤ b.2.2 → wX12_spreads_52 S r (nI m) Q (j + 1) h1 (nI k) := by
    intro j
    induction j with
    | zero =>
      intro k h1 b hj s1 C1 W1 hF hkb
      have := W1.1
      omega
    | succ j ih =>
      intro k h1 b hj s1 C1 W1 hF hkb
      have H1 := H.sf s1
      have h100 := W1.1
      show wX12_spreads_52b S r (nI m) Q (wX12_spreads_52 S r (nI m) Q (j + 1)) h1 (nI k)
      unfold wX12_spreads_52b
      rw [C1.2.2]
      refine ⟨H1.1.1, ?_⟩
      by_cases hk : k < b.2.2
      · rw [show 100 - k = 100 - (k + 1) + 1 by omega] at hF
        unfold bfO at hF
        rw [if_pos hk] at hF
        have h2 := W1.2.1 k hk
        refine br_f (nI_ge (by omega) (by omega)) ⟨_, rSp_e H1 hm h2.1 (fun h3 s3 C3 => ?_) (aEm A m) 0 h1 b (by omega) Sf.rf C1 W1 h2.2 hk rfl rfl⟩
        have g1 := bfE_w (k := k) w h2.1 (aEm A m) 0 b W1 h2.2 hk
        exact ih (k + 1) h3 _ (by omega) (s1.tr s3) C3 g1.1 hF (Nat.le_trans hk g1.2.2.2)
      · refine br_t (nI_le (by omega) (by omega)) (q h1 s1 ?_)
        have e : bfO A m (100 - k) k b = b := by
          cases 100 - k with
          | zero => rfl
          | succ n => unfold bfO; rw [if_neg hk]
        rw [e] at hF
        rw [← hF]
        exact C1
  have fill : ∀ (j i : Nat) (h1 : Hp), i + j = 100 → Sf r h h1 → (∀ s, s < i → gI h1 (r + 33) s = -2) → wX12_spreads_2 S r (nI m) Q (j + 1) h1 (nI i) := by
    intro j
    induction j with
    | zero =>
      intro i h1 hj s1 a1
      have hi : i = 100 := by omega
      subst hi
      have H1 := H.sf s1
      have h3 := H1.m3
      refine br_t (by decide) ⟨H1.1.1, nm_e ?_⟩
      have s2 : Sf r h (pI h1 r 64 1) := s1.tr ⟨Sm.rf.pI (by simp) _ _, fun _ => rfl, fun _ => rfl, fun k hk => by rw [gI_pI, if_neg (by omega)]⟩
      have H2 := H.sf s2
      refine rBeg H2 hm ?_
      rw [H2.2.1.queue]
      refine ⟨H2.1.queue (i := 0) (by omega), nm_e ?_⟩
      show inA S (gR (pI h1 r 64 1) r 63) 20 (nI 0) ∧ _
      rw [H2.2.1.queue, show gR (pI (pI h1 r 64 1) (r + 34) (ix 0) (nI (aBe A m))) r 63 = r + 34 from H2.2.1.queue, show gR (pI (pI h1 r 64 1) (r + 34) (ix 0) (nI (aBe A m))) r 62 = r + 33 from H2.2.1.far]
      have e0 : gI (pI (pI h1 r 64 1) (r + 34) (ix 0) (nI (aBe A m))) (r + 34) (ix 0) = nI (aBe A m) := by rw [gI_pI, if_pos ⟨rfl, rfl⟩]
      rw [e0, ix_nI (by omega)]
      refine ⟨H2.1.queue (i := 0) (by omega), H2.1.far (by omega), ⟨_, lpO 101 0 _ (bfV bf0 (aBe A m) 0) (by omega) (s2.tr ⟨(Sm.rf.pI (by simp) _ _).pI (by simp) _ _, fun _ => rfl, fun _ => rfl, fun k hk => by rw [gI_pI, if_neg (by omega), gI_pI, if_neg (by omega)]⟩) ⟨fun s hs => ?_, fun k hk => ?_, ?_⟩ (bf1_w w) rfl (Nat.zero_le _)⟩⟩
      · rw [gI_pI]
        show _ = if s = aBe A m then 0 else -2
        by_cases e : s = aBe A m
        · rw [if_pos ⟨rfl, e⟩, if_pos e]
        · rw [if_neg (fun q => e q.2), if_neg e, gI_pI, if_neg (by omega), gI_pI, if_neg (by omega)]
          exact a1 s hs
      · have hk0 : k = 0 := by
          have hk1 : k < 1 := hk
          omega
        subst hk0
        rw [gI_pI, if_neg (by omega), gI_pI, if_pos ⟨rfl, rfl⟩]
        rfl
      · rw [gI_pI, if_neg (by omega), gI_pI, if_neg (by omega), gI_pI, if_pos ⟨rfl, rfl⟩]
        rfl
    | succ j ih =>
      intro i h1 hj s1 a1
      have H1 := H.sf s1
      show wX12_spreads_2b S r (nI m) Q (wX12_spreads_2 S r (nI m) Q (j + 1)) h1 (nI i)
      unfold wX12_spreads_2b
      rw [H1.2.1.far, ix_nI (by omega), nI_1]
      refine br_f (nI_ge (b := 100) (by omega) (by omega)) ⟨H1.1.1, H1.1.far (by omega), ih (i + 1) _ (by omega) (s1.tr ⟨Sm.rf.pI (by simp) _ _, fun _ => rfl, fun _ => rfl, fun k hk => by rw [gI_pI, if_neg (by omega)]⟩) fun s hs => ?_⟩
      rw [gI_pI]
      by_cases e : s = i
      · rw [if_pos ⟨rfl, e⟩]
      · rw [if_neg (fun q => e q.2)]
        exact a1 s (by omega)
  exact ⟨_, fill 100 0 h (by omega) Sf.rf (fun s hs => absurd hs (by omega))⟩
