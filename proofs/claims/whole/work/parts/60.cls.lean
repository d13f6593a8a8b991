/-! THE CLASS'S MACHINE AT a: its variables -/
def ClV (A : Ab) (h : Hp) (a m : Nat) : Prop := gI h a 11 = nI (aVm A m) ∧ ∀ v, v < aVm A m → gI h (a + 2) v = nI (aLo A m v) ∧ gI h (a + 3) v = nI (aHi A m v) ∧ gI h (a + 4) v = nI (aAt A m v) ∧ gJ h (a + 1) v = aVn A m v
theorem MR.k {h : Hp} {a : Nat} (H : MR h a) {k : Nat} (hk : k < 10) : gR h a k = a + 1 + k := H.1 k hk
theorem ClV.of {A : Ab} {h h' : Hp} {a m : Nat} (H : ClV A h a m) (s : Sm (fun b => a ≤ b ∧ b ≤ a + 4) h h') : ClV A h' a m := by
  refine ⟨by rw [s.I ⟨by omega, by omega⟩]; exact H.1, fun v hv => ?_⟩
  rw [s.I ⟨by omega, by omega⟩, s.I ⟨by omega, by omega⟩, s.I ⟨by omega, by omega⟩, s.J ⟨by omega, by omega⟩]
  exact H.2 v hv
theorem max_n {n : Nat} (h0 : 1 ≤ n) (h : n < 2 ^ 31) : max32 1 (nI n) = nI n := by
  unfold max32
  split
  · rfl
  · rename_i hc
    rw [n_1, nI_ltI (by omega) h] at hc
    rw [n_1]
    congr 1
    omega
theorem max_0 {n : Nat} (h : n < 2 ^ 31) : max32 0 (nI n) = nI n := by
  unfold max32
  split
  · rfl
  · rename_i hc
    rw [n_0, nI_ltI (by omega) h] at hc
    rw [n_0]
    congr 1
    omega
theorem cSpan {A : Ab} {S : Sh} {h : Hp} {a m v : Nat} {Q : Int32 → Hp → Prop} (hS : MS S a) (hR : MR h a) (w : wfM A m) (H : ClV A h a m) (hv : v < aVm A m) (q : Q (nI (aWd A m v)) h) : wX2_span S h a (nI v) Q := by
  unfold wX2_span
  have w3 := w.v3
  have hd := aWd_pos w hv
  have hb := w.vb hv
  have hr := H.2 v hv
  rw [hR.k (k := 2) (by omega), hR.k (k := 1) (by omega), ix_nI (by omega), show a + 1 + 2 = a + 3 by omega, show a + 1 + 1 = a + 2 by omega, hr.1, hr.2.1, n_sub hd.2.2.2, nI_1, ← hd.2.2.1, max_n hd.1 (by omega)]
  exact ⟨by rw [hS.1], inA_of hS.2.2.2.1 (by omega) (by decide), inA_of hS.2.2.1 (by omega) (by decide), q⟩
theorem cSpread_l {A : Ab} {S : Sh} {a m b f s N : Nat} {h0 : Hp} {Q : Hp → Prop} (hS : MS S a) (w : wfM A m) (hs : s < 100) (hb : S b = (20, N)) (hN : f + aVm A m ≤ N) (hN' : N < 2 ^ 31) (hba : b < a ∨ a + 10 < b)
    (q : ∀ h', Sm (fun c => c ≠ b) h0 h' → (∀ v, v < aVm A m → gI h' b (f + v) = nI (aVl A m s v)) → (∀ k, k < f ∨ f + aVm A m ≤ k → gI h' b k = gI h0 b k) → Q h') :
    ∀ (k : Nat) (h : Hp), k ≤ aVm A m → MR h a → ClV A h a m → Sm (fun c => c ≠ b) h0 h → (∀ v, k ≤ v → v < aVm A m → gI h b (f + v) = nI (aVl A m s v)) → (∀ j, j < f ∨ f + aVm A m ≤ j → gI h b j = gI h0 b j) →
      wX2_spread_11 S a b (nI f) Q (k + 1) h (nI (aRs A m s (aVm A m - k))) (nI k - 1)
  | 0, h, hk, hR, H, s0, h1, h2 => by
    refine br_t (by decide) (q h s0 (fun v hv => h1 v (by omega) hv) h2)
  | k + 1, h, hk, hR, H, s0, h1, h2 => by
    have w3 := w.v3
    have hv : k < aVm A m := by omega
    have hd := aWd_pos w hv
    have hbd := w.vb hv
    have hr := H.2 k hv
    have hle := aRs_le A m s (aVm A m - (k + 1))
    have hle2 := Nat.mod_lt (aRs A m s (aVm A m - (k + 1))) hd.1
    have e1 : aRs A m s (aVm A m - k) = aRs A m s (aVm A m - (k + 1)) / aWd A m k := by
      rw [show aVm A m - k = aVm A m - (k + 1) + 1 by omega]
      show _ / aWd A m (aVm A m - 1 - (aVm A m - (k + 1))) = _
      rw [show aVm A m - 1 - (aVm A m - (k + 1)) = k by omega]
    show wX2_spread_11b S a b (nI f) Q (wX2_spread_11 S a b (nI f) Q (k + 1)) h _ _
    unfold wX2_spread_11b
    rw [show nI (k + 1) - 1 = nI k from nI_pred k]
    refine br_f (nI_pos (by omega)) ⟨by rw [hS.1], cSpan hS hR w H hv ?_⟩
    rw [hR.k (k := 1) (by omega), show a + 1 + 1 = a + 2 by omega, nI_add, ix_nI (by omega), ix_nI (by omega), hr.1, rem_n (by omega) hd.1 (by omega), nI_add, pk_div (by omega) hd.1 (by omega), ← e1, n_m1]
    refine ⟨inA_of hS.2.2.1 (by omega) (by decide), nI_ne0 hd.1 (by omega), inA_of hb (by omega) hN', ?_⟩
    have sm : Sm (fun c => c ≠ b) h (pI h b (f + k) (nI (aLo A m k + aRs A m s (aVm A m - (k + 1)) % aWd A m k))) := Sm.rf.pI (by simp) _ _
    refine cSpread_l hS w hs hb hN hN' hba q k _ (by omega) (hR.of fun c c1 c2 j => rfl) (H.of (sm.mono fun c hc => by omega)) (s0.tr sm) (fun v hv1 hv2 => ?_) (fun j hj => ?_)
    · rw [gI_pI]
      by_cases hvk : v = k
      · subst hvk
        rw [if_pos ⟨rfl, rfl⟩]
        unfold aVl
        rw [show aVm A m - 1 - v = aVm A m - (v + 1) by omega]
      · rw [if_neg (by omega)]
        exact h1 v (by omega) hv2
    · rw [gI_pI, if_neg (by omega)]
      exact h2 j hj
theorem cSpread {A : Ab} {S : Sh} {h : Hp} {a m b f s N : Nat} {Q : Hp → Prop} (hS : MS S a) (hR : MR h a) (w : wfM A m) (H : ClV A h a m) (hs : s < 100) (hb : S b = (20, N)) (hN : f + aVm A m ≤ N) (hN' : N < 2 ^ 31) (hba : b < a ∨ a + 10 < b)
    (q : ∀ h', Sm (fun c => c ≠ b) h h' → (∀ v, v < aVm A m → gI h' b (f + v) = nI (aVl A m s v)) → (∀ k, k < f ∨ f + aVm A m ≤ k → gI h' b k = gI h b k) → Q h') : wX2_spread S h a (nI s) b (nI f) Q := by
  refine ⟨by rw [hS.1], nm_e ⟨aVm A m + 1, ?_⟩⟩
  have := cSpread_l hS w hs hb hN hN' hba q (aVm A m) h (Nat.le_refl _) hR H Sm.rf (fun v h1 h2 => absurd h1 (by omega)) (fun _ _ => rfl)
  rw [Nat.sub_self] at this
  rw [H.1]
  exact this
theorem cNum_l {A : Ab} {S : Sh} {h : Hp} {a m s v : Nat} {Q : Int32 → Hp → Prop} (hS : MS S a) (hR : MR h a) (w : wfM A m) (H : ClV A h a m) (hs : s < 100) (hv : v < aVm A m) (q : Q (nI (aVl A m s v)) h) :
    ∀ (d k : Nat), k = v + d → k < aVm A m → wX2_number_10 S a (nI v) Q (d + 1) h (nI (aRs A m s (aVm A m - 1 - k))) (nI k)
  | 0, k, hk, hk2 => by
    have w3 := w.v3
    have hd := aWd_pos w hv
    have hbd := w.vb hv
    have hr := H.2 v hv
    have hle := aRs_le A m s (aVm A m - 1 - v)
    have hk' : v = k := by omega
    subst hk'
    refine br_t (nI_le (by omega) (by omega)) ?_
    refine ⟨by rw [hS.1], ?_⟩
    rw [hR.k (k := 1) (by omega), show a + 1 + 1 = a + 2 by omega]
    refine ⟨inA_of hS.2.2.1 (by omega) (by decide), cSpan hS hR w H hv ?_⟩
    refine ⟨nI_ne0 hd.1 (by omega), ?_⟩
    rw [ix_nI (by omega), hr.1, rem_n (by omega) hd.1 (by omega), nI_add]
    exact q
  | d + 1, k, hk, hk2 => by
    have w3 := w.v3
    have hd := aWd_pos w hk2
    have hle := aRs_le A m s (aVm A m - 1 - k)
    refine br_f (nI_ge (by omega) (by omega)) ⟨by rw [hS.1], cSpan hS hR w H hk2 ⟨nI_ne0 hd.1 (by omega), ?_⟩⟩
    rw [pk_div (by omega) hd.1 (by omega)]
    obtain ⟨k, rfl⟩ : ∃ j, k = j + 1 := ⟨v + d, by omega⟩
    rw [show nI (k + 1) + -1 = nI k from pk_m1 k]
    have := cNum_l hS hR w H hs hv q d k (by omega) (by omega)
    rw [show aVm A m - 1 - k = aVm A m - 1 - (k + 1) + 1 by omega] at this
    unfold aRs at this
    rw [show aVm A m - 1 - (aVm A m - 1 - (k + 1)) = k + 1 by omega] at this
    exact this
theorem cNum {A : Ab} {S : Sh} {h : Hp} {a m s v : Nat} {Q : Int32 → Hp → Prop} (hS : MS S a) (hR : MR h a) (w : wfM A m) (H : ClV A h a m) (hs : s < 100) (hv : v < aVm A m) (q : Q (nI (aVl A m s v)) h) : wX2_number S h a (nI s) (nI v) Q := by
  have w1 := w.v1
  refine ⟨by rw [hS.1], nm_r (e' := nI (aVm A m - 1)) (by rw [H.1]; exact n_sub (b := 1) w1) ⟨aVm A m - 1 - v + 1, ?_⟩⟩
  have := cNum_l hS hR w H hs hv q (aVm A m - 1 - v) (aVm A m - 1) (by omega) (by omega)
  rw [Nat.sub_self] at this
  exact this
theorem cSo_l {A : Ab} {S : Sh} {h : Hp} {a m b f N : Nat} {g : Nat → Int32} {Q : Int32 → Hp → Prop} (hS : MS S a) (hR : MR h a) (w : wfM A m) (H : ClV A h a m) (hb : S b = (20, N)) (hN : f + aVm A m ≤ N) (hN' : N < 2 ^ 31) (hg : ∀ v, v < aVm A m → gI h b (f + v) = g v) :
    ∀ (j v n : Nat), v + j = aVm A m → n < 101 → n < aPr A m v → Q (aSo A m g j v n) h → wX2_stateOf_5 S a b (nI f) Q (j + 1) h (nI n) (nI v)
  | 0, v, n, hj, _, _, q => by
    have w3 := w.v3
    refine ⟨by rw [hS.1], br_t ?_ q⟩
    rw [H.1]
    exact nI_le (by omega) (by omega)
  | j + 1, v, n, hj, hn, hp, q => by
    have w3 := w.v3
    have hv : v < aVm A m := by omega
    have hd := aWd_pos w hv
    have hbd := w.vb hv
    have hr := H.2 v hv
    show wX2_stateOf_5b S a b (nI f) Q (wX2_stateOf_5 S a b (nI f) Q (j + 1)) h (nI n) (nI v)
    unfold wX2_stateOf_5b
    rw [H.1, hR.k (k := 1) (by omega), hR.k (k := 2) (by omega), nI_add, ix_nI (by omega), ix_nI (by omega), show a + 1 + 2 = a + 3 by omega, show a + 1 + 1 = a + 2 by omega, hr.1, hr.2.1, hg v hv]
    unfold aSo at q
    refine ⟨by rw [hS.1], br_f (nI_ge (by omega) (by omega)) ⟨inA_of hb (by omega) hN', nm_e ⟨inA_of hS.2.2.1 (by omega) (by decide), ?_⟩⟩⟩
    by_cases c1 : g v < nI (aLo A m v)
    · rw [if_neg (fun hc => absurd c1 (by simpa using hc.1))] at q
      exact br_t c1 q
    · refine br_f c1 ⟨inA_of hS.2.2.2.1 (by omega) (by decide), ?_⟩
      by_cases c2 : g v ≤ nI (aHi A m v)
      · refine br_t c2 (cSpan hS hR w H hv ?_)
        have hc : nI (aLo A m v) ≤ g v ∧ g v ≤ nI (aHi A m v) := ⟨by simpa using c1, c2⟩
        rw [if_pos hc] at q
        obtain ⟨k, k1, k2, k3⟩ := nI_big hc.1 hc.2 (by omega) (by omega)
        rw [k3, nI_clamp (by omega)] at q
        rw [hR.k (k := 1) (by omega), show a + 1 + 1 = a + 2 by omega, hr.1, k3]
        have hle : n * aWd A m v ≤ 101 * 10 := Nat.mul_le_mul (by omega) hd.2.1
        refine ⟨inA_of hS.2.2.1 (by omega) (by decide), nm_r (e' := nI (n * aWd A m v + k - aLo A m v)) (by rw [nI_mul, nI_add, n_sub (by omega)]) ?_⟩
        rw [nI_1]
        have hlt : n * aWd A m v + k - aLo A m v < aPr A m (v + 1) := by
          show _ < aPr A m v * aWd A m v
          have : (n + 1) * aWd A m v ≤ aPr A m v * aWd A m v := Nat.mul_le_mul_right _ hp
          rw [Nat.add_mul] at this
          omega
        have hp1 := aPr_le w (v := v + 1) (by omega)
        exact cSo_l hS hR w H hb hN hN' hg j (v + 1) _ (by omega) (by omega) hlt q
      · rw [if_neg (fun hc => c2 hc.2)] at q
        exact br_f c2 q
theorem cSo {A : Ab} {S : Sh} {h : Hp} {a m b f N : Nat} {g : Nat → Int32} {Q : Int32 → Hp → Prop} (hS : MS S a) (hR : MR h a) (w : wfM A m) (H : ClV A h a m) (hb : S b = (20, N)) (hN : f + aVm A m ≤ N) (hN' : N < 2 ^ 31) (hg : ∀ v, v < aVm A m → gI h b (f + v) = g v)
    (q : Q (aSo A m g (aVm A m) 0 0) h) : wX2_stateOf S h a b (nI f) Q := ⟨_, cSo_l hS hR w H hb hN hN' hg (aVm A m) 0 0 (by omega) (by omega) (by show 0 < 1; omega) q⟩
theorem aSo_at {A : Ab} {m : Nat} (w : wfM A m) : ∀ (j v n : Nat), v + j = aVm A m → n < aPr A m v → aSo A m (fun v => nI (aAt A m v)) j v n = nI (aBg A m j v n)
  | 0, v, n, _, _ => rfl
  | j + 1, v, n, hj, hn => by
    have hb := w.vb (v := v) (by omega)
    have hd := aWd_pos w (v := v) (by omega)
    unfold aSo aBg
    rw [if_pos ⟨nI_le hb.1 (by omega), nI_le hb.2.1 (by omega)⟩, nI_clamp (by omega)]
    refine aSo_at w j (v + 1) _ (by omega) ?_
    show _ < aPr A m v * aWd A m v
    have : (n + 1) * aWd A m v ≤ aPr A m v * aWd A m v := Nat.mul_le_mul_right _ hn
    rw [Nat.add_mul] at this
    omega
theorem cBeg {A : Ab} {S : Sh} {h : Hp} {a m : Nat} {Q : Int32 → Hp → Prop} (hS : MS S a) (hR : MR h a) (w : wfM A m) (H : ClV A h a m) (q : Q (nI (aBe A m)) h) : wX2_beginState S h a Q := by
  refine ⟨by rw [hS.1], ?_⟩
  rw [hR.k (k := 3) (by omega), show a + 1 + 3 = a + 4 by omega]
  have w3 := w.v3
  refine cSo (f := 0) (g := fun v => nI (aAt A m v)) hS hR w H hS.2.2.2.2.1 (by omega) (by decide) (fun v hv => by rw [Nat.zero_add]; exact (H.2 v hv).2.2.1) ?_
  rw [aSo_at w _ 0 0 (by omega) (by show 0 < 1; omega), max_0]
  · exact q
  · have := aBe_bd w
    have := w.s100
    unfold aBe at *
    omega
