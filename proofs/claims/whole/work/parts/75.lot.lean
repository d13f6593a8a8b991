def bc32 (x0 : Int32) : Int32 :=
  let x9 := x0 - ((ush32 x0 1) &&& 1431655765)
  let x23 := (x9 &&& 858993459) + ((ush32 x9 2) &&& 858993459)
  let x33 := (x23 + (ush32 x23 4)) &&& 252645135
  let x40 := x33 + (ush32 x33 8)
  let x47 := x40 + (ush32 x40 16)
  x47 &&& 63
theorem bc32_all : ∀ M, M < 1024 → bc32 (nI M) = nI (cntF (fun i => M.testBit i) 10) := by decide +kernel
theorem cntF_ext {f g : Nat → Bool} : ∀ {n : Nat}, (∀ i, i < n → f i = g i) → cntF f n = cntF g n
  | 0, _ => rfl
  | n + 1, h => by
    show cntF f n + (if f n = true then 1 else 0) = cntF g n + (if g n = true then 1 else 0)
    rw [cntF_ext (n := n) (fun i hi => h i (by omega)), h n (by omega)]
theorem cBc {S : Sh} {h : Hp} {f : Nat → Bool} {Q : Int32 → Hp → Prop} (q : Q (nI (cntF f 10)) h) : wJ6_bitCount_0f7a4 S h (nI (msk f 10)) Q := by
  refine nm_e (nm_e (nm_e (nm_e (nm_e ?_))))
  have := bc32_all (msk f 10) (m10 f)
  rw [cntF_ext (g := f) fun i hi => by rw [msk_tb, decide_eq_true hi, Bool.true_and]] at this
  rw [← this] at q
  exact q
theorem cCh {A : Ab} {S : Sh} {h : Hp} {w D m s : Nat} {n : Int32} {B : Nat → Bool} {Q : Int32 → Hp → Prop} (hW : WkS S h w D) (C : Cm A S h (D + 6 + 145 * m) m) (R : RunC h w m s n B) (hs : s < aSz A m) (q : Q (nI (chT A m s)) h) : wX10_countChoices S h w (D + 6 + 145 * m) Q := by
  have w4 := C.2.2.2.e4
  have lp : ∀ (j e : Nat), e + j = aEm A m → wX10_countChoices_4 S w (D + 6 + 145 * m) Q (j + 1) h (nI (chN A m s e)) (nI e) := by
    intro j
    induction j with
    | zero =>
      intro e hj
      refine ⟨by rw [C.1.1], br_t (by rw [C.2.2.1.2.2.2.1]; exact nI_le (by omega) (by omega)) ?_⟩
      have he : e = aEm A m := by omega
      subst he
      exact q
    | succ j ih =>
      intro e hj
      have he : e < aEm A m := by omega
      obtain ⟨e1, e2, e3, e4, e5⟩ := C.E he
      show wX10_countChoices_4b S w _ Q (wX10_countChoices_4 S w (D + 6 + 145 * m) Q (j + 1)) h _ (nI e)
      unfold wX10_countChoices_4b
      rw [C.2.2.1.2.2.2.1, C.2.1.k (k := 5) (by omega), show D + 6 + 145 * m + 1 + 5 = D + 6 + 145 * m + 6 by omega, ix_nI (by omega), e4, R.2.1, nI_1]
      refine ⟨by rw [C.1.1], br_f (nI_ge (by omega) (by omega)) ⟨inA_of C.1.2.2.2.2.2.2.1 (by omega) (by decide), by rw [hW.1], by rw [e1.1], cSteps e1 e2 C.2.2.2 he e3 hs (cBc ?_)⟩⟩
      rw [nI_add]
      exact ih (e + 1) (by omega)
  exact ⟨_, lp (aEm A m) 0 (by omega)⟩
theorem cTake {A : Ab} {S : Sh} {h : Hp} {w D m s k : Nat} {n : Int32} {B : Nat → Bool} {Q : Hp → Prop} (hW : WkS S h w D) (M : Md A S h D m) (R : RunC h w m s n B) (hs : s < aSz A m) (hk : k < chT A m s)
    (q : ∀ c t h', isCh A m s k c → t < aSz A m → t = (aGv A m c.1 s (aFp A m c.1 + c.2)).toNatClampNeg → Cf w h h' → (∀ k, gR h' w k = gR h w k) → RunC h' w m t (n + 1) (wkB A m c.1 t B) → Q h') : wX10_take S h w D (nI k) Q := by
  have C := M.2.2.2.2.2.1
  have w4 := C.2.2.2.e4
  have m3 := M.2.2.2.2.1
  have hT := chN_le A m s (aEm A m)
  have hk' : k < 100 := by unfold chT at hk; omega
  unfold wX10_take
  rw [R.1, M.2.2.1, ix_nI (by omega), M.2.2.2.1 m m3]
  refine ⟨by rw [M.1], by rw [hW.1], inA_of M.2.1 (by omega) (by decide), nm_e ?_⟩
  have lpI : ∀ (B16 : Hp → Int32 → Int32 → Prop) (e : Nat), e < aEm A m → (chN A m s (e + 1) ≤ k → B16 h (nI (k - chN A m s (e + 1))) (nI (e + 1))) → ∀ (j i : Nat), i + j = 10 → chN A m s e + cntF (sF A m e s) i ≤ k → wX10_take_44 S B16 w D (D + 6 + 145 * m) (nI e) (nI (msk (sF A m e s) 10)) Q (j + 1) h (nI (k - (chN A m s e + cntF (sF A m e s) i))) (nI i) := by
    intro B16 e he nx j
    induction j with
    | zero =>
      intro i hj hle
      have hi : i = 10 := by omega
      subst hi
      refine br_t (by decide) ?_
      rw [nI_1]
      exact nx hle
    | succ j ih =>
      intro i hj hle
      show wX10_take_44b S B16 w D (D + 6 + 145 * m) (nI e) (nI (msk (sF A m e s) 10)) Q (wX10_take_44 S B16 w D (D + 6 + 145 * m) (nI e) (nI (msk (sF A m e s) 10)) Q (j + 1)) h _ (nI i)
      unfold wX10_take_44b
      rw [cBit (by omega), nI_1 i]
      refine br_f (nI_ge (b := 10) (by omega) (by omega)) ?_
      have ih1 := ih (i + 1) (by omega)
      cases hc : sF A m e s i
      · refine ⟨fun n => absurd rfl n, fun _ => ?_⟩
        rw [cntF_n _ hc] at ih1
        exact ih1 hle
      · refine ⟨fun _ => ?_, fun n => absurd n (by decide)⟩
        rw [cntF_s _ hc, ← Nat.add_assoc] at ih1
        by_cases hz : k = chN A m s e + cntF (sF A m e s) i
        · refine ⟨fun n => absurd (by rw [← hz, Nat.sub_self]; rfl) n, fun _ => ⟨by rw [hW.1], ?_⟩⟩
          have hch : isCh A m s k (e, i) := ⟨he, by show i < 10; omega, hc, hz.symm⟩
          obtain ⟨g1, t, t1, t2, t3⟩ := hch.gv C.2.2.2
          exact cMove hW M R he hs g1 t1 t2 fun h2 s2 r2 R2 => q (e, i) t h2 hch t1 t3 s2 r2 R2
        · refine ⟨fun _ => ?_, fun n => absurd n (nI_ne0 (by omega) (by omega))⟩
          have e9 : nI (k - (chN A m s e + cntF (sF A m e s) i)) + -1 = nI (k - (chN A m s e + cntF (sF A m e s) i + 1)) := by
            rw [show k - (chN A m s e + cntF (sF A m e s) i) = k - (chN A m s e + cntF (sF A m e s) i + 1) + 1 by omega]
            exact pk_m1 _
          rw [e9]
          exact ih1 (by omega)
  have lp : ∀ (j e : Nat), e + j = aEm A m → chN A m s e ≤ k → wX10_take_16 S w D (D + 6 + 145 * m) Q (j + 1) h (nI (k - chN A m s e)) (nI e) := by
    intro j
    induction j with
    | zero =>
      intro e hj hle
      have he : e = aEm A m := by omega
      subst he
      unfold chT at hk
      omega
    | succ j ih =>
      intro e hj hle
      have he : e < aEm A m := by omega
      obtain ⟨e1, e2, e3, e4, e5⟩ := C.E he
      show wX10_take_16b S w D _ Q (wX10_take_16 S w D (D + 6 + 145 * m) Q (j + 1)) h _ (nI e)
      unfold wX10_take_16b
      rw [C.2.2.1.2.2.2.1, C.2.1.k (k := 5) (by omega), show D + 6 + 145 * m + 1 + 5 = D + 6 + 145 * m + 6 by omega, ix_nI (by omega), e4, R.2.1]
      exact ⟨by rw [C.1.1], br_f (nI_ge (by omega) (by omega)) ⟨inA_of C.1.2.2.2.2.2.2.1 (by omega) (by decide), by rw [hW.1], by rw [e1.1], cSteps e1 e2 C.2.2.2 he e3 hs ⟨_, lpI _ e he (fun hle2 => ih (e + 1) (by omega) hle2) 10 0 rfl hle⟩⟩⟩
  have := lp (aEm A m) 0 (by omega) (Nat.zero_le _)
  exact ⟨_, this⟩
/-- up to j moves by lot: how many, the state, what is beside -/
noncomputable def wkW (A : Ab) (m : Nat) : Nat → Nat → Nat → (Nat → Bool) → Nat × Nat × (Nat → Bool)
  | 0, _, s, B => (0, s, B)
  | j + 1, X, s, B => if chT A m s = 0 then (0, s, B) else
    ((wkW A m j ((1103515245 * X + 12345) % 2147483648) (aGv A m (chX A m s ((1103515245 * X + 12345) % 2147483648 / 65536 % chT A m s)).1 s (aFp A m (chX A m s ((1103515245 * X + 12345) % 2147483648 / 65536 % chT A m s)).1 + (chX A m s ((1103515245 * X + 12345) % 2147483648 / 65536 % chT A m s)).2)).toNatClampNeg
      (wkB A m (chX A m s ((1103515245 * X + 12345) % 2147483648 / 65536 % chT A m s)).1 (aGv A m (chX A m s ((1103515245 * X + 12345) % 2147483648 / 65536 % chT A m s)).1 s (aFp A m (chX A m s ((1103515245 * X + 12345) % 2147483648 / 65536 % chT A m s)).1 + (chX A m s ((1103515245 * X + 12345) % 2147483648 / 65536 % chT A m s)).2)).toNatClampNeg B)).1 + 1,
     (wkW A m j ((1103515245 * X + 12345) % 2147483648) (aGv A m (chX A m s ((1103515245 * X + 12345) % 2147483648 / 65536 % chT A m s)).1 s (aFp A m (chX A m s ((1103515245 * X + 12345) % 2147483648 / 65536 % chT A m s)).1 + (chX A m s ((1103515245 * X + 12345) % 2147483648 / 65536 % chT A m s)).2)).toNatClampNeg
      (wkB A m (chX A m s ((1103515245 * X + 12345) % 2147483648 / 65536 % chT A m s)).1 (aGv A m (chX A m s ((1103515245 * X + 12345) % 2147483648 / 65536 % chT A m s)).1 s (aFp A m (chX A m s ((1103515245 * X + 12345) % 2147483648 / 65536 % chT A m s)).1 + (chX A m s ((1103515245 * X + 12345) % 2147483648 / 65536 % chT A m s)).2)).toNatClampNeg B)).2)
theorem wkW_0 {A : Ab} {m j X s : Nat} {B : Nat → Bool} (h : chT A m s = 0) : wkW A m (j + 1) X s B = (0, s, B) := by
  unfold wkW
  rw [if_pos h]
theorem wkW_s {A : Ab} {m j X s t : Nat} {B : Nat → Bool} {c : Nat × Nat} (h : chT A m s ≠ 0) (hc : isCh A m s ((1103515245 * X + 12345) % 2147483648 / 65536 % chT A m s) c) (ht : t = (aGv A m c.1 s (aFp A m c.1 + c.2)).toNatClampNeg) :
    wkW A m (j + 1) X s B = ((wkW A m j ((1103515245 * X + 12345) % 2147483648) t (wkB A m c.1 t B)).1 + 1, (wkW A m j ((1103515245 * X + 12345) % 2147483648) t (wkB A m c.1 t B)).2) := by
  rw [wkW, if_neg h, ← hc.x, ← ht]
theorem wkW_le {A : Ab} {m : Nat} : ∀ (j X s : Nat) (B : Nat → Bool), (wkW A m j X s B).1 ≤ j
  | 0, _, _, _ => Nat.le_refl _
  | j + 1, X, s, B => by
    unfold wkW
    split
    · exact Nat.zero_le _
    · exact Nat.succ_le_succ (wkW_le j _ _ _)
theorem lot_x {X : Nat} (h : X < 2147483648) : rem64 ((1103515245 : Int64) * lN X + 12345) 2147483648 = lN ((1103515245 * X + 12345) % 2147483648) := by
  unfold rem64
  rw [show (1103515245 : Int64) = lN 1103515245 from rfl, show (12345 : Int64) = lN 12345 from rfl, show (2147483648 : Int64) = lN 2147483648 from rfl, lN_mul, lN_add]
  exact pk_lRem (by omega) (by decide) (by decide)
theorem lot_k {Y T : Nat} (hY : Y < 2147483648) (hT : 0 < T) (hT2 : T < 2 ^ 31) : (rem64 (lN Y / 65536) (nI T).toInt64).toInt32 = nI (Y / 65536 % T) := by
  unfold rem64
  rw [nI_l hT2, show (65536 : Int64) = lN 65536 from rfl, pk_lDiv (by omega) (by decide) (by decide), pk_lRem (Nat.lt_of_le_of_lt (Nat.div_le_self _ _) (by omega)) hT (by omega), lN_i]
