theorem wb_tb (n : Nat) : (lN n).toBitVec = BitVec.ofNat 64 n := rfl
theorem wb_inj {a b : Int64} (h : a.toBitVec = b.toBitVec) : a = b := Int64.toBitVec_inj.mp h
theorem wb_tn {n : Nat} (h : n < 2 ^ 64) : (lN n).toBitVec.toNat = n := by rw [wb_tb, BitVec.toNat_ofNat, Nat.mod_eq_of_lt h]
theorem wb_of (x : Int64) : ∃ n, n < 2 ^ 64 ∧ x = lN n := ⟨x.toBitVec.toNat, x.toBitVec.isLt, wb_inj (by rw [wb_tb]; simp)⟩
theorem wb_of32 (x : Int32) : ∃ n, n < 2 ^ 32 ∧ x = nI n := ⟨x.toBitVec.toNat, x.toBitVec.isLt, Int32.toBitVec_inj.mp (by show _ = BitVec.ofNat 32 _; simp)⟩
theorem wb_c : ∀ k, k < 64 → ((nI k).toInt64 &&& 63) = lN k := by decide +kernel
theorem wb_cu : ∀ k, k < 64 → ((nI k).toInt64.toUInt64 &&& Int64.toUInt64 63) = UInt64.ofNat k := by decide +kernel
theorem wb_sm : ∀ k, k < 64 → (BitVec.ofNat 64 k).smod 64 = BitVec.ofNat 64 k := by decide +kernel
theorem wb_pw {a b : Nat} (h : a ≤ b) : 2 ^ b = 2 ^ a * 2 ^ (b - a) := by rw [← Nat.pow_add]; congr 1; omega
theorem wb_lt2 {a b : Nat} (h : a < b) : 2 ^ a < 2 ^ b := Nat.pow_lt_pow_right (by decide) h
theorem wb_mod (n : Nat) : lN n = lN (n % 2 ^ 64) := wb_inj (by rw [wb_tb, wb_tb]; apply BitVec.eq_of_toNat_eq; rw [BitVec.toNat_ofNat, BitVec.toNat_ofNat, Nat.mod_mod])
theorem wb_shr {n k : Nat} (hn : n < 2 ^ 64) (hk : k < 64) : ((lN n).toUInt64 >>> ((nI k).toInt64.toUInt64 &&& Int64.toUInt64 63)).toInt64 = lN (n / 2 ^ k) := by
  rw [wb_cu k hk]
  apply wb_inj
  apply BitVec.eq_of_toNat_eq
  show ((lN n).toUInt64 >>> UInt64.ofNat k).toNat = (BitVec.ofNat 64 _).toNat
  have h1 : (UInt64.ofNat k).toNat = k := by
    show (BitVec.ofNat 64 k).toNat = k
    rw [BitVec.toNat_ofNat, Nat.mod_eq_of_lt (by omega)]
  have h2 : (lN n).toUInt64.toNat = n := wb_tn hn
  rw [UInt64.toNat_shiftRight, h1, h2, Nat.mod_eq_of_lt hk, Nat.shiftRight_eq_div_pow, BitVec.toNat_ofNat, Nat.mod_eq_of_lt (Nat.lt_of_le_of_lt (Nat.div_le_self _ _) hn)]
theorem wb_shl (n : Nat) {k : Nat} (hk : k < 64) : lN n <<< ((nI k).toInt64 &&& 63) = lN (n * 2 ^ k) := by
  rw [wb_c k hk]
  apply wb_inj
  rw [Int64.toBitVec_shiftLeft, wb_tb, wb_tb, wb_tb, wb_sm k hk]
  apply BitVec.eq_of_toNat_eq
  rw [BitVec.shiftLeft_eq', BitVec.toNat_shiftLeft, BitVec.toNat_ofNat, BitVec.toNat_ofNat, BitVec.toNat_ofNat, Nat.mod_eq_of_lt (show k < 2 ^ 64 by omega), Nat.shiftLeft_eq, Nat.mul_mod, Nat.mod_mod, ← Nat.mul_mod]
theorem wb_and {a b : Nat} (ha : a < 2 ^ 64) (hb : b < 2 ^ 64) : lN a &&& lN b = lN (a &&& b) := by
  apply wb_inj
  rw [Int64.toBitVec_and, wb_tb, wb_tb, wb_tb]
  apply BitVec.eq_of_toNat_eq
  rw [BitVec.toNat_and, BitVec.toNat_ofNat, BitVec.toNat_ofNat, BitVec.toNat_ofNat, Nat.mod_eq_of_lt ha, Nat.mod_eq_of_lt hb, Nat.mod_eq_of_lt (Nat.and_lt_two_pow _ hb)]
theorem wb_or {a b : Nat} (ha : a < 2 ^ 64) (hb : b < 2 ^ 64) : lN a ||| lN b = lN (a ||| b) := by
  apply wb_inj
  rw [Int64.toBitVec_or, wb_tb, wb_tb, wb_tb]
  apply BitVec.eq_of_toNat_eq
  rw [BitVec.toNat_or, BitVec.toNat_ofNat, BitVec.toNat_ofNat, BitVec.toNat_ofNat, Nat.mod_eq_of_lt ha, Nat.mod_eq_of_lt hb, Nat.mod_eq_of_lt (Nat.or_lt_two_pow ha hb)]
theorem wb_mask {n k : Nat} (hn : n < 2 ^ 64) (hk : k < 64) : lN n &&& lN (2 ^ k - 1) = lN (n % 2 ^ k) := by
  rw [wb_and hn (by have := wb_lt2 hk; omega), Nat.and_two_pow_sub_one_eq_mod]
theorem wb_a1 {n : Nat} (hn : n < 2 ^ 64) : lN n &&& 1 = lN (n % 2) := wb_mask (k := 1) hn (by decide)
theorem wb_bit {n k : Nat} (hn : n < 2 ^ 64) (hk : k < 64) : ((lN n).toUInt64 >>> ((nI k).toInt64.toUInt64 &&& Int64.toUInt64 63)).toInt64 &&& 1 = lN (n / 2 ^ k % 2) := by
  rw [wb_shr hn hk, wb_a1 (Nat.lt_of_le_of_lt (Nat.div_le_self _ _) hn)]
/-! MASKS AND SETS OF STATES -/
def msk (f : Nat → Bool) : Nat → Nat
  | 0 => 0
  | n + 1 => msk f n + (if f n then 2 ^ n else 0)
theorem msk_lt (f : Nat → Bool) : ∀ n, msk f n < 2 ^ n
  | 0 => by show 0 < 1; omega
  | n + 1 => by
    have := msk_lt f n
    rw [Nat.pow_succ]
    unfold msk
    split <;> omega
theorem msk_tb (f : Nat → Bool) : ∀ n i, (msk f n).testBit i = (decide (i < n) && f i)
  | 0, i => by simp [msk]
  | n + 1, i => by
    have h1 := msk_lt f n
    have ih := msk_tb f n i
    unfold msk
    by_cases hn : i = n
    · subst hn
      rw [Nat.testBit_lt_two_pow h1] at ih
      cases hf : f i
      · rw [if_neg (by decide), Nat.add_zero, Nat.testBit_lt_two_pow h1]
        simp
      · rw [if_pos rfl, Nat.add_comm, Nat.testBit_two_pow_add_eq, Nat.testBit_lt_two_pow h1]
        simp
    · by_cases hi : i < n
      · have e : (if f n = true then 2 ^ n else 0) = 2 ^ n ∨ (if f n = true then 2 ^ n else 0) = 0 := by split <;> simp
        rw [decide_eq_true hi] at ih
        rw [decide_eq_true (show i < n + 1 by omega)]
        rcases e with e | e
        · rw [e, Nat.add_comm, Nat.testBit_two_pow_add_gt hi]
          exact ih
        · rw [e, Nat.add_zero]
          exact ih
      · rw [decide_eq_false (by omega), Bool.false_and]
        apply Nat.testBit_lt_two_pow
        have h2 : 2 ^ (n + 1) ≤ 2 ^ i := Nat.pow_le_pow_right (by decide) (by omega)
        rw [Nat.pow_succ] at h2
        split <;> omega
theorem msk_bit (f : Nat → Bool) (n i : Nat) : msk f n / 2 ^ i % 2 = if (decide (i < n) && f i) = true then 1 else 0 := by
  have h := msk_tb f n i
  rw [Nat.testBit_eq_decide_div_mod_eq] at h
  by_cases hc : (decide (i < n) && f i) = true
  · rw [if_pos hc]
    rw [hc] at h
    simpa using h
  · rw [if_neg hc]
    rw [Bool.eq_false_iff.mpr hc] at h
    have := of_decide_eq_false h
    omega
theorem msk_ext {f g : Nat → Bool} : ∀ {n : Nat}, (∀ i, i < n → f i = g i) → msk f n = msk g n
  | 0, _ => rfl
  | n + 1, h => by
    unfold msk
    rw [msk_ext (n := n) (fun i hi => h i (by omega)), h n (by omega)]
theorem msk_0 {f : Nat → Bool} : ∀ {n : Nat}, msk f n = 0 ↔ ∀ i, i < n → f i = false
  | 0 => ⟨fun _ i hi => absurd hi (by omega), fun _ => rfl⟩
  | n + 1 => by
    unfold msk
    have ih := msk_0 (f := f) (n := n)
    have hp : 0 < 2 ^ n := Nat.two_pow_pos n
    constructor
    · intro h i hi
      cases hf : f n
      · rw [hf] at h
        by_cases e : i = n
        · rw [e]; exact hf
        · exact ih.mp (by simpa using h) i (by omega)
      · rw [hf, if_pos rfl] at h
        omega
    · intro h
      rw [ih.mpr fun i hi => h i (by omega), h n (by omega)]
      rfl
theorem msk_or {f : Nat → Bool} {n k : Nat} (hk : k < n) : msk f n ||| 2 ^ k = msk (fun i => f i || decide (i = k)) n := by
  apply Nat.eq_of_testBit_eq
  intro i
  rw [Nat.testBit_or, msk_tb, msk_tb, Nat.testBit_two_pow]
  by_cases e : i = k
  · subst e
    simp [hk]
  · simp [e, Ne.symm e]
theorem msk_and {f g : Nat → Bool} {n : Nat} : msk f n &&& msk g n = msk (fun i => f i && g i) n := by
  apply Nat.eq_of_testBit_eq
  intro i
  rw [Nat.testBit_and, msk_tb, msk_tb, msk_tb]
  cases decide (i < n) <;> simp
theorem msk_sh {f : Nat → Bool} {n i : Nat} : msk f n / 2 ^ i = 0 ↔ ∀ k, i ≤ k → k < n → f k = false := by
  constructor
  · intro h k h1 h2
    have hb := msk_bit f n k
    have : msk f n < 2 ^ i := by
      rw [Nat.div_eq_zero_iff] at h
      exact h.resolve_left (by have := Nat.two_pow_pos i; omega)
    have h3 : 2 ^ i ≤ 2 ^ k := Nat.pow_le_pow_right (by decide) h1
    rw [Nat.div_eq_of_lt (by omega)] at hb
    cases hf : f k
    · rfl
    · rw [hf, decide_eq_true h2] at hb
      simp at hb
  · intro h
    apply Nat.div_eq_of_lt
    rw [msk_ext (g := fun k => decide (k < i) && f k) (n := n) (fun k hk => by
      by_cases hki : k < i
      · simp [hki]
      · rw [h k (by omega) hk]; simp)]
    refine Nat.lt_pow_two_of_testBit _ fun k hk => ?_
    rw [msk_tb]
    simp [show ¬ k < i by omega]
def stB (h : Hp) (b : Nat) (f : Nat → Bool) : Prop := gJ h b 0 = lN (msk f 64) ∧ gJ h b 1 = lN (msk (fun i => f (64 + i)) 36)
theorem stB.of {h h' : Hp} {b : Nat} {f : Nat → Bool} (H : stB h b f) (s : gJ h' b 0 = gJ h b 0 ∧ gJ h' b 1 = gJ h b 1) : stB h' b f := ⟨s.1.trans H.1, s.2.trans H.2⟩
theorem stB.ext {h : Hp} {b : Nat} {f g : Nat → Bool} (H : stB h b f) (e : ∀ x, x < 100 → f x = g x) : stB h b g :=
  ⟨by rw [← msk_ext fun i hi => e i (by omega)]; exact H.1, by rw [← msk_ext (f := fun i => f (64 + i)) fun i hi => e (64 + i) (by omega)]; exact H.2⟩
theorem m64 (f : Nat → Bool) : msk f 64 < 2 ^ 64 := msk_lt f 64
theorem m36 (f : Nat → Bool) : msk f 36 < 2 ^ 64 := Nat.lt_trans (msk_lt f 36) (by decide)
theorem ush_n {n k : Nat} (hn : n < 2 ^ 64) (hk : k < 64) : ush64 (lN n) (nI k) = lN (n / 2 ^ k) := wb_shr hn hk
theorem cmp_n {n : Nat} (h : n < 2 ^ 64) : lg_cmp (lN n) 0 = 0 ↔ n = 0 := by
  rw [lg_cmp_eq]
  constructor
  · intro e
    have := wb_tn h
    rw [e] at this
    exact this.symm
  · intro e
    subst e
    rfl
theorem cHas {S : Sh} {h : Hp} {b x : Nat} {f : Nat → Bool} {Q : Int32 → Hp → Prop} (hS : S b = (8, 0)) (H : stB h b f) (hx : x < 100) (q : Q (bI (f x)) h) : wX7_has S h b (nI x) Q := by
  unfold wX7_has wX7_has_j17
  have e63 : nI x &&& 63 = nI (x % 64) := pk_andN (k := 6) (by omega) rfl
  have h64 : x % 64 < 64 := Nat.mod_lt _ (by decide)
  rw [e63, H.1, H.2, ush_n (m64 f) h64, ush_n (m36 _) h64, wb_a1 (Nat.lt_of_le_of_lt (Nat.div_le_self _ _) (m64 f)), wb_a1 (Nat.lt_of_le_of_lt (Nat.div_le_self _ _) (m36 _)), cmp_n (by omega), cmp_n (by omega), msk_bit, msk_bit]
  by_cases hc : 64 ≤ x
  · refine br_t (nI_le (a := 64) hc (by omega)) ⟨by rw [hS], ?_⟩
    have e : 64 + x % 64 = x := by omega
    rw [e, decide_eq_true (show x % 64 < 36 by omega), Bool.true_and]
    cases hf : f x
    · exact br_t rfl (by rw [hf] at q; exact q)
    · exact br_f (by decide) (by rw [hf] at q; exact q)
  · refine br_f (nI_ge (b := 64) (by omega) (by omega)) ⟨by rw [hS], ?_⟩
    have e : x % 64 = x := by omega
    rw [e, decide_eq_true (show x < 64 by omega), Bool.true_and]
    cases hf : f x
    · exact br_t rfl (by rw [hf] at q; exact q)
    · exact br_f (by decide) (by rw [hf] at q; exact q)
theorem cPut {S : Sh} {h : Hp} {b x : Nat} {f : Nat → Bool} {Q : Hp → Prop} (hS : S b = (8, 0)) (H : stB h b f) (hx : x < 100) (q : ∀ h', Sm (fun c => c ≠ b) h h' → stB h' b (fun i => f i || decide (i = x)) → Q h') : wX7_put S h b (nI x) Q := by
  unfold wX7_put
  by_cases hc : 64 ≤ x
  · refine br_t (nI_le (a := 64) hc (by omega)) ⟨by rw [hS], q _ (Sm.rf.pJ (by simp) _ _) ⟨?_, ?_⟩⟩
    · rw [gJ_pJ, if_neg (by omega), H.1]
      congr 1
      exact msk_ext fun i hi => by rw [decide_eq_false (show ¬ i = x by omega), Bool.or_false]
    · rw [gJ_pJ, if_pos ⟨rfl, rfl⟩, H.2]
      have e : shl64 1 (nI x - 64) = lN (2 ^ (x - 64)) := by
        rw [show nI x - 64 = nI (x - 64) from n_sub (b := 64) hc]
        have := wb_shl 1 (k := x - 64) (by omega)
        rw [Nat.one_mul] at this
        exact this
      rw [e, wb_or (m36 _) (Nat.pow_lt_pow_right (by decide) (by omega)), msk_or (by omega)]
      rw [msk_ext fun i hi => ?_]
      rw [show decide (i = x - 64) = decide (64 + i = x) from decide_eq_decide.mpr (by omega)]
  · refine br_f (nI_ge (b := 64) (by omega) (by omega)) ⟨by rw [hS], q _ (Sm.rf.pJ (by simp) _ _) ⟨?_, ?_⟩⟩
    · rw [gJ_pJ, if_pos ⟨rfl, rfl⟩, H.1]
      have e : shl64 1 (nI x) = lN (2 ^ x) := by
        have := wb_shl 1 (k := x) (by omega)
        rw [Nat.one_mul] at this
        exact this
      rw [e, wb_or (m64 _) (Nat.pow_lt_pow_right (by decide) (by omega)), msk_or (by omega)]
    · rw [gJ_pJ, if_neg (by omega), H.2]
      congr 1
      exact msk_ext fun i hi => by show f (64 + i) = (f (64 + i) || decide (64 + i = x)); rw [decide_eq_false (show ¬ 64 + i = x by omega), Bool.or_false]
theorem cClr {S : Sh} {h : Hp} {b : Nat} {Q : Hp → Prop} (hS : S b = (8, 0)) (q : ∀ h', Sm (fun c => c ≠ b) h h' → stB h' b (fun _ => false) → Q h') : wX7_clear S h b Q := by
  refine ⟨by rw [hS], nm_e (q _ ((Sm.rf.pJ (by simp) _ _).pJ (by simp) _ _) ⟨?_, ?_⟩)⟩
  · rw [gJ_pJ, if_neg (by omega), gJ_pJ, if_pos ⟨rfl, rfl⟩, (msk_0 (n := 64)).mpr fun _ _ => rfl]
    rfl
  · rw [gJ_pJ, if_pos ⟨rfl, rfl⟩, (msk_0 (n := 36)).mpr fun _ _ => rfl]
    rfl
theorem cCpy {S : Sh} {h : Hp} {b c : Nat} {f : Nat → Bool} {Q : Hp → Prop} (hS : S b = (8, 0)) (hC : S c = (8, 0)) (hbc : c ≠ b) (H : stB h c f) (q : ∀ h', Sm (fun c => c ≠ b) h h' → stB h' b f → Q h') : wX7_copy S h b c Q := by
  refine ⟨by rw [hC], by rw [hS], nm_e (q _ ((Sm.rf.pJ (by simp) _ _).pJ (by simp) _ _) ⟨?_, ?_⟩)⟩
  · rw [gJ_pJ, if_neg (by omega), gJ_pJ, if_pos ⟨rfl, rfl⟩]
    exact H.1
  · rw [gJ_pJ, if_pos ⟨rfl, rfl⟩, gJ_pJ, if_neg (by omega)]
    exact H.2
theorem cKeep {S : Sh} {h : Hp} {b c : Nat} {f g : Nat → Bool} {Q : Hp → Prop} (hS : S b = (8, 0)) (hC : S c = (8, 0)) (hbc : c ≠ b) (H : stB h b f) (G : stB h c g) (q : ∀ h', Sm (fun c => c ≠ b) h h' → stB h' b (fun x => f x && g x) → Q h') : wX7_keepOnly S h b c Q := by
  refine ⟨by rw [hS], by rw [hC], nm_e (q _ ((Sm.rf.pJ (by simp) _ _).pJ (by simp) _ _) ⟨?_, ?_⟩)⟩
  · rw [gJ_pJ, if_neg (by omega), gJ_pJ, if_pos ⟨rfl, rfl⟩, H.1, G.1, wb_and (m64 _) (m64 _), msk_and]
  · rw [gJ_pJ, if_pos ⟨rfl, rfl⟩, gJ_pJ, if_neg (by omega), gJ_pJ, if_neg (by omega), H.2, G.2, wb_and (m36 _) (m36 _), msk_and]
theorem cMeets {S : Sh} {h : Hp} {b c : Nat} {f g : Nat → Bool} {Q : Int32 → Hp → Prop} (hS : S b = (8, 0)) (hC : S c = (8, 0)) (H : stB h b f) (G : stB h c g) (q : Q (bI (anyF (fun x => f x && g x) 100 0)) h) : wX7_meets S h b c Q := by
  unfold wX7_meets wX7_meets_j28
  rw [H.1, H.2, G.1, G.2, wb_and (m64 _) (m64 _), wb_and (m36 _) (m36 _), msk_and, msk_and, cmp_n (m64 _), cmp_n (m36 _), msk_0, msk_0]
  refine ⟨by rw [hS], by rw [hC], ?_⟩
  by_cases h1 : ∀ i, i < 64 → (f i && g i) = false
  · refine ⟨fun n => absurd h1 n, fun _ => ?_⟩
    by_cases h2 : ∀ i, i < 36 → (f (64 + i) && g (64 + i)) = false
    · refine br_t h2 ?_
      have : anyF (fun x => f x && g x) 100 0 = false := by
        rw [Bool.eq_false_iff]
        intro e
        obtain ⟨k, -, k2, k3⟩ := (anyF_iff _ 100 0).mp e
        by_cases hk : k < 64
        · rw [h1 k hk] at k3
          cases k3
        · have := h2 (k - 64) (by omega)
          rw [show 64 + (k - 64) = k by omega] at this
          rw [this] at k3
          cases k3
      rw [this] at q
      exact q
    · refine br_f h2 ?_
      have : anyF (fun x => f x && g x) 100 0 = true := by
        by_cases e : anyF (fun x => f x && g x) 100 0 = true
        · exact e
        · refine absurd (fun i hi => ?_) h2
          cases hf : (f (64 + i) && g (64 + i))
          · rfl
          · exact absurd ((anyF_iff _ 100 0).mpr ⟨64 + i, by omega, by omega, hf⟩) e
      rw [this] at q
      exact q
  · refine ⟨fun _ => ?_, fun n => absurd n h1⟩
    have : anyF (fun x => f x && g x) 100 0 = true := by
      by_cases e : anyF (fun x => f x && g x) 100 0 = true
      · exact e
      · refine absurd (fun i hi => ?_) h1
        cases hf : (f i && g i)
        · rfl
        · exact absurd ((anyF_iff _ 100 0).mpr ⟨i, by omega, by omega, hf⟩) e
    rw [this] at q
    exact q
