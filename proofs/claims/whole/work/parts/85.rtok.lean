/-! THE REFERENCE AT A TOKEN -/
theorem rsL_inj : ∀ i, i < 16 → ∀ j, j < 16 → rsL.getD i 0 = rsL.getD j 0 → i = j := by decide +kernel
theorem rsL_lt : ∀ i, i < 16 → rsL.getD i 0 < 2 ^ 63 := by decide +kernel
theorem kwF_f (w : Nat) : ∀ j i, i + j = 16 → ∀ k, k < 16 → kwF w j i = 400 + k → rsL.getD k 0 = w
  | 0, i, _, k, hk, h => by unfold kwF at h; omega
  | j + 1, i, hj, k, hk, h => by
    unfold kwF at h
    split at h
    · rename_i e
      rw [show k = i by omega]
      exact e
    · exact kwF_f w j (i + 1) (by omega) k hk h
theorem kwF_b (w k : Nat) (hk : k < 16) (h : rsL.getD k 0 = w) : ∀ j i, i + j = 16 → i ≤ k → kwF w j i = 400 + k
  | 0, i, hj, hi => by omega
  | j + 1, i, hj, hi => by
    unfold kwF
    split
    · rename_i e
      rw [rsL_inj i (by omega) k hk (e.trans h.symm)]
    · rename_i e
      have : i ≠ k := fun q => e (by rw [q]; exact h)
      exact kwF_b w k hk h j (i + 1) (by omega) (by omega)
theorem kwF_iff {w k : Nat} (hk : k < 16) : kwF w 16 0 = 400 + k ↔ rsL.getD k 0 = w := ⟨kwF_f w 16 0 rfl k hk, fun h => kwF_b w k hk h 16 0 rfl (Nat.zero_le _)⟩
theorem tk_word {B : Bx} {t : Nat} (h : tkK B t = 302 ∨ 400 ≤ tkK B t) (hb : ∀ i, B.1 i < 256) : tkK B t = kwF (tkC B t) 16 0 := by
  have hb := hb (tkP B t)
  unfold tkK bK at h ⊢
  unfold tkC bC
  split at h
  · omega
  · rename_i h1
    rw [if_neg h1]
    split at h
    · rename_i h2
      rw [if_pos h2, if_pos h2]
      split at h
      · rename_i h3
        rw [if_pos h3, show min 7 (bwe B (tkP B t) - tkP B t) = bwe B (tkP B t) - tkP B t by omega]
      · omega
    · split at h
      · split at h <;> omega
      · split at h <;> omega
theorem tk_kind {B : Bx} {t : Nat} (hb : ∀ i, B.1 i < 256) : tkK B t < 256 ∨ tkK B t = 300 ∨ tkK B t = 301 ∨ tkK B t = 302 ∨ tkK B t = 303 ∨ (400 ≤ tkK B t ∧ tkK B t < 416) := by
  have hb := hb (tkP B t)
  unfold tkK bK
  split
  · omega
  · split
    · split
      · rcases kwF_k (wcd B (tkP B t) (bwe B (tkP B t) - tkP B t)) 16 0 rfl with h1 | h1 <;> omega
      · omega
    · split
      · split <;> omega
      · split <;> omega
/-- the reference reads, and nothing was wrong so far; token t stands -/
def Rp (B : Bx) (S : Sh) (h : Hp) (r t : Nat) : Prop := RS S r ∧ RR h r ∧ LxB B h r ∧ Tk B h r t ∧ gI h r 7 = 0
theorem Rp.go {B : Bx} {S : Sh} {h : Hp} {r t : Nat} {Q : Hp → Prop} (H : Rp B S h r t) (q : ∀ h', Gf r h h' → Rp B S h' r (t + 1) → Q h') : wX12_goOn S h r Q :=
  rGoOn H.1 H.2.1 H.2.2.1 H.2.2.2.2 H.2.2.2.1.1 (fun h' g k => q h' g ⟨H.1, H.2.1.of g.2.1, H.2.2.1.gf g, k, (g.2.2.2 7 (by omega)).trans H.2.2.2.2⟩)
theorem Rp.bd {B : Bx} {S : Sh} {h : Hp} {r t : Nat} (H : Rp B S h r t) : tkK B t < 256 ∨ tkK B t = 300 ∨ tkK B t = 301 ∨ tkK B t = 302 ∨ tkK B t = 303 ∨ (400 ≤ tkK B t ∧ tkK B t < 416) := tk_kind H.2.2.1.2.2.2
theorem lN_cmp {a b : Nat} (ha : a < 2 ^ 63) (hb : b < 2 ^ 63) : lg_cmp (lN a) (lN b) = 0 ↔ a = b := by rw [lg_cmp_eq, pk_lEQ ha hb]
theorem tkC_63 {B : Bx} {t : Nat} : tkC B t < 2 ^ 63 := Nat.lt_trans tkC_lt (by decide)
theorem Rp.word {B : Bx} {S : Sh} {K : Nat → Nat} {h : Hp} {r t i : Nat} {Q : Int32 → Hp → Prop} (H : Rp B S h r t) (hi : i < 16) (q : Q (bI (decide (tkK B t = 400 + i))) h) : wX12_isWord S K h r (K (i + 2)) Q := by
  obtain ⟨hS, hR, L, T, h7⟩ := H
  unfold wX12_isWord
  rw [h7]
  refine ⟨hS.1, fun n => absurd rfl n, fun _ => ?_⟩
  rcases tk_kind (t := t) L.2.2.2 with k | k | k | k | k | k
  · rw [decide_eq_false (by omega)] at q
    rw [(T.2.2.2.2.2.2 (by omega)).1]
    exact ⟨fun _ => q, fun n => absurd n (by decide)⟩
  · rw [decide_eq_false (by omega)] at q
    rw [T.2.2.1 k]
    exact ⟨fun _ => q, fun n => absurd n (by decide)⟩
  · rw [decide_eq_false (by omega)] at q
    rw [T.2.2.2.1 k]
    exact ⟨fun _ => q, fun n => absurd n (by decide)⟩
  · have w := T.2.2.2.2.1 (Or.inl k)
    have kw := tk_word (Or.inl k) L.2.2.2
    rw [decide_eq_false (by omega)] at q
    rw [w.1]
    refine ⟨fun n => absurd rfl n, fun _ => rWo hi ?_⟩
    rw [w.2, lN_cmp tkC_63 (rsL_lt i hi)]
    refine ⟨fun _ => q, fun e => ?_⟩
    have := (kwF_iff hi).mpr e.symm
    omega
  · rw [decide_eq_false (by omega)] at q
    rw [(T.2.2.2.2.2.1 k).1]
    exact ⟨fun _ => q, fun n => absurd n (by decide)⟩
  · have w := T.2.2.2.2.1 (Or.inr k.1)
    have kw := tk_word (Or.inr k.1) L.2.2.2
    rw [w.1]
    refine ⟨fun n => absurd rfl n, fun _ => rWo hi ?_⟩
    rw [w.2, lN_cmp tkC_63 (rsL_lt i hi)]
    by_cases c : tkK B t = 400 + i
    · rw [decide_eq_true c] at q
      exact ⟨fun n => absurd ((kwF_iff hi).mp (kw ▸ c)).symm n, fun _ => q⟩
    · rw [decide_eq_false c] at q
      refine ⟨fun _ => q, fun e => absurd ((kwF_iff hi).mpr e.symm) ?_⟩
      rw [← kw]
      exact c
theorem Rp.sign {B : Bx} {S : Sh} {h : Hp} {r t c : Nat} {Q : Int32 → Hp → Prop} (H : Rp B S h r t) (hc : c < 256) (q : Q (bI (decide (tkK B t = c))) h) : wX12_isSign S h r (nI c) Q := by
  obtain ⟨hS, hR, L, T, h7⟩ := H
  unfold wX12_isSign
  rw [h7]
  refine ⟨hS.1, fun n => absurd rfl n, fun _ => ?_⟩
  have no : ∀ v : Int32, gI h r 9 = v → v ≠ 4 → tkK B t ≠ c → ((¬ gI h r 9 = 4 → Q 0 h) ∧ (gI h r 9 = 4 → ((¬ gI h r 11 = nI c → Q 0 h) ∧ (gI h r 11 = nI c → Q 1 h)))) := by
    intro v e1 e2 e3
    rw [decide_eq_false e3] at q
    rw [e1]
    exact ⟨fun _ => q, fun n => absurd n e2⟩
  rcases tk_kind (t := t) L.2.2.2 with k | k | k | k | k | k
  · obtain ⟨e1, e2⟩ := T.2.2.2.2.2.2 (by omega)
    rw [e1, e2, nI_eq (by omega) (by omega)]
    refine ⟨fun n => absurd rfl n, fun _ => ?_⟩
    by_cases e : tkK B t = c
    · rw [decide_eq_true e] at q
      exact ⟨fun n => absurd e n, fun _ => q⟩
    · rw [decide_eq_false e] at q
      exact ⟨fun _ => q, fun n => absurd n e⟩
  · exact no _ (T.2.2.1 k) (by decide) (by omega)
  · exact no _ (T.2.2.2.1 k) (by decide) (by omega)
  · exact no _ (T.2.2.2.2.1 (Or.inl k)).1 (by decide) (by omega)
  · exact no _ (T.2.2.2.2.2.1 k).1 (by decide) (by omega)
  · exact no _ (T.2.2.2.2.1 (Or.inr k.1)).1 (by decide) (by omega)
/-- the word that stands: its kind by field 9 -/
theorem Rp.is2 {B : Bx} {S : Sh} {h : Hp} {r t : Nat} (H : Rp B S h r t) : gI h r 9 = 2 ↔ (tkK B t = 302 ∨ 400 ≤ tkK B t) := by
  obtain ⟨hS, hR, L, T, h7⟩ := H
  rcases tk_kind (t := t) L.2.2.2 with k | k | k | k | k | k
  · rw [(T.2.2.2.2.2.2 (by omega)).1]; exact ⟨fun e => absurd e (by decide), fun e => by omega⟩
  · rw [T.2.2.1 k]; exact ⟨fun e => absurd e (by decide), fun e => by omega⟩
  · rw [T.2.2.2.1 k]; exact ⟨fun e => absurd e (by decide), fun e => by omega⟩
  · rw [(T.2.2.2.2.1 (Or.inl k)).1]; exact ⟨fun _ => Or.inl k, fun _ => rfl⟩
  · rw [(T.2.2.2.2.2.1 k).1]; exact ⟨fun e => absurd e (by decide), fun e => by omega⟩
  · rw [(T.2.2.2.2.1 (Or.inr k.1)).1]; exact ⟨fun _ => Or.inr k.1, fun _ => rfl⟩
theorem Rp.is3 {B : Bx} {S : Sh} {h : Hp} {r t : Nat} (H : Rp B S h r t) : gI h r 9 = 3 ↔ tkK B t = 303 := by
  obtain ⟨hS, hR, L, T, h7⟩ := H
  rcases tk_kind (t := t) L.2.2.2 with k | k | k | k | k | k
  · rw [(T.2.2.2.2.2.2 (by omega)).1]; exact ⟨fun e => absurd e (by decide), fun e => by omega⟩
  · rw [T.2.2.1 k]; exact ⟨fun e => absurd e (by decide), fun e => by omega⟩
  · rw [T.2.2.2.1 k]; exact ⟨fun e => absurd e (by decide), fun e => by omega⟩
  · rw [(T.2.2.2.2.1 (Or.inl k)).1]; exact ⟨fun e => absurd e (by decide), fun e => by omega⟩
  · rw [(T.2.2.2.2.2.1 k).1]; exact ⟨fun _ => k, fun _ => rfl⟩
  · rw [(T.2.2.2.2.1 (Or.inr k.1)).1]; exact ⟨fun e => absurd e (by decide), fun e => by omega⟩
theorem Rp.is1 {B : Bx} {S : Sh} {h : Hp} {r t : Nat} (H : Rp B S h r t) : gI h r 9 = 1 ↔ tkK B t = 300 := by
  obtain ⟨hS, hR, L, T, h7⟩ := H
  rcases tk_kind (t := t) L.2.2.2 with k | k | k | k | k | k
  · rw [(T.2.2.2.2.2.2 (by omega)).1]; exact ⟨fun e => absurd e (by decide), fun e => by omega⟩
  · rw [T.2.2.1 k]; exact ⟨fun _ => k, fun _ => rfl⟩
  · rw [T.2.2.2.1 k]; exact ⟨fun e => absurd e (by decide), fun e => by omega⟩
  · rw [(T.2.2.2.2.1 (Or.inl k)).1]; exact ⟨fun e => absurd e (by decide), fun e => by omega⟩
  · rw [(T.2.2.2.2.2.1 k).1]; exact ⟨fun e => absurd e (by decide), fun e => by omega⟩
  · rw [(T.2.2.2.2.1 (Or.inr k.1)).1]; exact ⟨fun e => absurd e (by decide), fun e => by omega⟩
theorem Rp.own {B : Bx} {S : Sh} {K : Nat → Nat} {h : Hp} {r t : Nat} {Q : Int32 → Hp → Prop} (H : Rp B S h r t) (q : Q (bI (decide (400 ≤ tkK B t))) h) : wX12_isOwn S K h r Q := by
  have h1 := H.1.1
  have hk := H.bd
  have y : ∀ i, tkK B t = 400 + i → Q 1 h := fun i e => by rw [decide_eq_true (by omega)] at q; exact q
  have b0 : ∀ b : Bool, b = true → ¬ bI b = 0 := fun b e => by rw [e]; decide
  have b1 : ∀ b : Bool, b = false → bI b = 0 := fun b e => by rw [e]; rfl
  refine ⟨h1, ?_⟩
  refine H.word (i := 0) (by decide) ?_
  by_cases c0 : tkK B t = 400 + 0
  · have y1 : wX12_isOwn_j72 S K h r Q := ⟨fun _ => y 0 c0, fun n => absurd n (by decide)⟩
    rw [decide_eq_true c0]
    first | exact ⟨fun _ => y1, fun n => absurd n (by decide)⟩ | exact ⟨fun n => absurd n (by decide), fun _ => y1⟩
  rw [decide_eq_false c0]
  refine ⟨fun n => absurd rfl n, fun _ => ?_⟩
  refine H.word (i := 1) (by decide) ?_
  by_cases c1 : tkK B t = 400 + 1
  · have y1 : wX12_isOwn_j72 S K h r Q := ⟨fun _ => y 1 c1, fun n => absurd n (by decide)⟩
    rw [decide_eq_true c1]
    first | exact ⟨fun _ => y1, fun n => absurd n (by decide)⟩ | exact ⟨fun n => absurd n (by decide), fun _ => y1⟩
  rw [decide_eq_false c1]
  refine ⟨fun n => absurd rfl n, fun _ => ?_⟩
  refine H.word (i := 2) (by decide) ?_
  by_cases c2 : tkK B t = 400 + 2
  · have y1 : wX12_isOwn_j72 S K h r Q := ⟨fun _ => y 2 c2, fun n => absurd n (by decide)⟩
    rw [decide_eq_true c2]
    first | exact ⟨fun _ => y1, fun n => absurd n (by decide)⟩ | exact ⟨fun n => absurd n (by decide), fun _ => y1⟩
  rw [decide_eq_false c2]
  refine ⟨fun n => absurd rfl n, fun _ => ?_⟩
  refine H.word (i := 3) (by decide) ?_
  by_cases c3 : tkK B t = 400 + 3
  · have y1 : wX12_isOwn_j72 S K h r Q := ⟨fun _ => y 3 c3, fun n => absurd n (by decide)⟩
    rw [decide_eq_true c3]
    first | exact ⟨fun _ => y1, fun n => absurd n (by decide)⟩ | exact ⟨fun n => absurd n (by decide), fun _ => y1⟩
  rw [decide_eq_false c3]
  refine ⟨fun n => absurd rfl n, fun _ => ?_⟩
  refine H.word (i := 4) (by decide) ?_
  by_cases c4 : tkK B t = 400 + 4
  · have y1 : wX12_isOwn_j72 S K h r Q := ⟨fun _ => y 4 c4, fun n => absurd n (by decide)⟩
    rw [decide_eq_true c4]
    first | exact ⟨fun _ => y1, fun n => absurd n (by decide)⟩ | exact ⟨fun n => absurd n (by decide), fun _ => y1⟩
  rw [decide_eq_false c4]
  refine ⟨fun n => absurd rfl n, fun _ => ?_⟩
  refine H.word (i := 5) (by decide) ?_
  by_cases c5 : tkK B t = 400 + 5
  · have y1 : wX12_isOwn_j72 S K h r Q := ⟨fun _ => y 5 c5, fun n => absurd n (by decide)⟩
    rw [decide_eq_true c5]
    first | exact ⟨fun _ => y1, fun n => absurd n (by decide)⟩ | exact ⟨fun n => absurd n (by decide), fun _ => y1⟩
  rw [decide_eq_false c5]
  refine ⟨fun n => absurd rfl n, fun _ => ?_⟩
  refine H.word (i := 6) (by decide) ?_
  by_cases c6 : tkK B t = 400 + 6
  · have y1 : wX12_isOwn_j72 S K h r Q := ⟨fun _ => y 6 c6, fun n => absurd n (by decide)⟩
    rw [decide_eq_true c6]
    first | exact ⟨fun _ => y1, fun n => absurd n (by decide)⟩ | exact ⟨fun n => absurd n (by decide), fun _ => y1⟩
  rw [decide_eq_false c6]
  refine ⟨fun n => absurd rfl n, fun _ => ?_⟩
  refine H.word (i := 7) (by decide) ?_
  by_cases c7 : tkK B t = 400 + 7
  · have y1 : wX12_isOwn_j72 S K h r Q := ⟨fun _ => y 7 c7, fun n => absurd n (by decide)⟩
    rw [decide_eq_true c7]
    first | exact ⟨fun _ => y1, fun n => absurd n (by decide)⟩ | exact ⟨fun n => absurd n (by decide), fun _ => y1⟩
  rw [decide_eq_false c7]
  refine ⟨fun _ => ⟨fun n => absurd rfl n, fun _ => ⟨h1, ?_⟩⟩, fun n => absurd rfl n⟩
  refine H.word (i := 8) (by decide) ?_
  by_cases c8 : tkK B t = 400 + 8
  · have y1 : wX12_isOwn_j154 S K h Q := y 8 c8
    rw [decide_eq_true c8]
    first | exact ⟨fun _ => y1, fun n => absurd n (by decide)⟩ | exact ⟨fun n => absurd n (by decide), fun _ => y1⟩
  rw [decide_eq_false c8]
  refine ⟨fun n => absurd rfl n, fun _ => ?_⟩
  refine H.word (i := 9) (by decide) ?_
  by_cases c9 : tkK B t = 400 + 9
  · have y1 : wX12_isOwn_j154 S K h Q := y 9 c9
    rw [decide_eq_true c9]
    first | exact ⟨fun _ => y1, fun n => absurd n (by decide)⟩ | exact ⟨fun n => absurd n (by decide), fun _ => y1⟩
  rw [decide_eq_false c9]
  refine ⟨fun n => absurd rfl n, fun _ => ?_⟩
  refine H.word (i := 10) (by decide) ?_
  by_cases c10 : tkK B t = 400 + 10
  · have y1 : wX12_isOwn_j154 S K h Q := y 10 c10
    rw [decide_eq_true c10]
    first | exact ⟨fun _ => y1, fun n => absurd n (by decide)⟩ | exact ⟨fun n => absurd n (by decide), fun _ => y1⟩
  rw [decide_eq_false c10]
  refine ⟨fun n => absurd rfl n, fun _ => ?_⟩
  refine H.word (i := 11) (by decide) ?_
  by_cases c11 : tkK B t = 400 + 11
  · have y1 : wX12_isOwn_j154 S K h Q := y 11 c11
    rw [decide_eq_true c11]
    first | exact ⟨fun _ => y1, fun n => absurd n (by decide)⟩ | exact ⟨fun n => absurd n (by decide), fun _ => y1⟩
  rw [decide_eq_false c11]
  refine ⟨fun n => absurd rfl n, fun _ => ?_⟩
  refine H.word (i := 12) (by decide) ?_
  by_cases c12 : tkK B t = 400 + 12
  · have y1 : wX12_isOwn_j154 S K h Q := y 12 c12
    rw [decide_eq_true c12]
    first | exact ⟨fun _ => y1, fun n => absurd n (by decide)⟩ | exact ⟨fun n => absurd n (by decide), fun _ => y1⟩
  rw [decide_eq_false c12]
  refine ⟨fun n => absurd rfl n, fun _ => ?_⟩
  refine H.word (i := 13) (by decide) ?_
  by_cases c13 : tkK B t = 400 + 13
  · have y1 : wX12_isOwn_j154 S K h Q := y 13 c13
    rw [decide_eq_true c13]
    first | exact ⟨fun _ => y1, fun n => absurd n (by decide)⟩ | exact ⟨fun n => absurd n (by decide), fun _ => y1⟩
  rw [decide_eq_false c13]
  refine ⟨fun n => absurd rfl n, fun _ => ?_⟩
  refine H.word (i := 14) (by decide) ?_
  by_cases c14 : tkK B t = 400 + 14
  · have y1 : wX12_isOwn_j154 S K h Q := y 14 c14
    rw [decide_eq_true c14]
    first | exact ⟨fun _ => y1, fun n => absurd n (by decide)⟩ | exact ⟨fun n => absurd n (by decide), fun _ => y1⟩
  rw [decide_eq_false c14]
  refine ⟨fun n => absurd rfl n, fun _ => ?_⟩
  refine H.word (i := 15) (by decide) ?_
  by_cases c15 : tkK B t = 400 + 15
  · have y1 : wX12_isOwn_j154 S K h Q := y 15 c15
    rw [decide_eq_true c15]
    first | exact ⟨fun _ => y1, fun n => absurd n (by decide)⟩ | exact ⟨fun n => absurd n (by decide), fun _ => y1⟩
  rw [decide_eq_false c15]
  have e : decide (400 ≤ tkK B t) = false := decide_eq_false (by omega)
  rw [e] at q
  first | exact ⟨fun _ => q, fun n => absurd rfl n⟩ | exact ⟨fun n => absurd rfl n, fun _ => q⟩
theorem Rp.name {B : Bx} {S : Sh} {K : Nat → Nat} {h : Hp} {r t : Nat} {Q : Int32 → Hp → Prop} (H : Rp B S h r t) (q : Q (bI (decide (tkK B t = 302))) h) : wX12_isName S K h r Q := by
  have i2 := H.is2
  have hk := H.bd
  unfold wX12_isName
  rw [H.2.2.2.2]
  refine ⟨H.1.1, fun n => absurd rfl n, fun _ => ?_⟩
  by_cases c : gI h r 9 = 2
  · refine ⟨fun n => absurd c n, fun _ => H.own ?_⟩
    rw [i2] at c
    by_cases e : tkK B t = 302
    · rw [decide_eq_true e] at q
      rw [decide_eq_false (by omega)]
      exact ⟨fun n => absurd rfl n, fun _ => q⟩
    · rw [decide_eq_false e] at q
      rw [decide_eq_true (by omega)]
      exact ⟨fun _ => q, fun n => absurd n (by decide)⟩
  · refine ⟨fun _ => ?_, fun n => absurd n c⟩
    rw [i2] at c
    rw [decide_eq_false (by omega)] at q
    exact q
/-! once something was wrong -/
theorem fWord {S : Sh} {K : Nat → Nat} {h : Hp} {r a : Nat} {Q : Int32 → Hp → Prop} (h1 : (S r).1 = 13) (h7 : gI h r 7 ≠ 0) (q : Q 0 h) : wX12_isWord S K h r a Q := ⟨h1, fun _ => q, fun n => absurd n h7⟩
theorem fSign {S : Sh} {h : Hp} {r : Nat} {c : Int32} {Q : Int32 → Hp → Prop} (h1 : (S r).1 = 13) (h7 : gI h r 7 ≠ 0) (q : Q 0 h) : wX12_isSign S h r c Q := ⟨h1, fun _ => q, fun n => absurd n h7⟩
theorem fName {S : Sh} {K : Nat → Nat} {h : Hp} {r : Nat} {Q : Int32 → Hp → Prop} (h1 : (S r).1 = 13) (h7 : gI h r 7 ≠ 0) (q : Q 0 h) : wX12_isName S K h r Q := ⟨h1, fun _ => q, fun n => absurd n h7⟩
/-- a fault's number and place -/
def Fm (h : Hp) (r f p : Nat) : Prop := gI h r 7 = nI f ∧ 0 < f ∧ f < 10 ∧ gI h r 8 = nI p
theorem Fm.n0 {h : Hp} {r f p : Nat} (H : Fm h r f p) : gI h r 7 ≠ 0 := by rw [H.1]; exact nI_ne0 H.2.1 (by have := H.2.2.1; omega)
theorem Fm.gt {h : Hp} {r f p : Nat} (H : Fm h r f p) : ¬ gI h r 7 ≤ 0 := by rw [H.1]; exact nI_ge (a := 0) H.2.1 (by have := H.2.2.1; omega)
theorem Fm.of {h h' : Hp} {r f p : Nat} (H : Fm h r f p) (e7 : gI h' r 7 = gI h r 7) (e8 : gI h' r 8 = gI h r 8) : Fm h' r f p := ⟨e7.trans H.1, H.2.1, H.2.2.1, e8.trans H.2.2.2⟩
theorem fGo {S : Sh} {h : Hp} {r f p : Nat} {Q : Hp → Prop} (h1 : (S r).1 = 13) (F : Fm h r f p) (q : Q h) : wX12_goOn S h r Q := ⟨h1, br_f F.gt q⟩
theorem fFlaw {S : Sh} {h : Hp} {r f p : Nat} {x : Int32} {Q : Hp → Prop} (h1 : (S r).1 = 13) (F : Fm h r f p) (q : Q h) : wX12_flaw S h r x Q := ⟨h1, br_f F.gt q⟩
/-- the first flaw -/
def flw (h : Hp) (r f : Nat) : Hp := pI (pI h r 7 (nI f)) r 8 (gI h r 10)
theorem Rp.flaw {B : Bx} {S : Sh} {h : Hp} {r t f : Nat} {Q : Hp → Prop} (H : Rp B S h r t) (q : Q (flw h r f)) : wX12_flaw S h r (nI f) Q := by
  unfold wX12_flaw
  rw [H.2.2.2.2]
  refine ⟨H.1.1, br_t (by decide) (nm_e ?_)⟩
  rw [gI_pI, if_neg (by omega)]
  exact q
theorem Rp.fm {B : Bx} {S : Sh} {h : Hp} {r t f : Nat} (H : Rp B S h r t) (h0 : 0 < f) (hf : f < 10) : Fm (flw h r f) r f (tkP B t) := by
  unfold flw
  refine ⟨by rw [gI_pI, if_neg (by omega), gI_pI, if_pos ⟨rfl, rfl⟩], h0, hf, ?_⟩
  rw [gI_pI, if_pos ⟨rfl, rfl⟩]
  exact H.2.2.2.1.2.1
theorem fNeeds {S : Sh} {K : Nat → Nat} {h : Hp} {r a f p : Nat} {Q : Hp → Prop} (h1 : (S r).1 = 13) (F : Fm h r f p) (q : Q h) : wX12_needs S K h r a Q := ⟨h1, fWord h1 F.n0 ⟨fun n => absurd rfl n, fun _ => fFlaw h1 F (fGo h1 F q)⟩⟩
theorem fNeedsS {S : Sh} {h : Hp} {r f p : Nat} {c : Int32} {Q : Hp → Prop} (h1 : (S r).1 = 13) (F : Fm h r f p) (q : Q h) : wX12_needsSign S h r c Q := ⟨h1, fSign h1 F.n0 ⟨fun n => absurd rfl n, fun _ => fFlaw h1 F (fGo h1 F q)⟩⟩
theorem fPass {S : Sh} {K : Nat → Nat} {h : Hp} {r a f p : Nat} {Q : Int32 → Hp → Prop} (h1 : (S r).1 = 13) (F : Fm h r f p) (q : Q 0 h) : wX12_passes S K h r a Q := ⟨h1, fWord h1 F.n0 ⟨fun n => absurd rfl n, fun _ => q⟩⟩
theorem fPassS {S : Sh} {h : Hp} {r f p : Nat} {c : Int32} {Q : Int32 → Hp → Prop} (h1 : (S r).1 = 13) (F : Fm h r f p) (q : Q 0 h) : wX12_passesSign S h r c Q := ⟨h1, fSign h1 F.n0 ⟨fun n => absurd rfl n, fun _ => q⟩⟩
theorem Rp.needs {B : Bx} {S : Sh} {K : Nat → Nat} {h : Hp} {r t i : Nat} {Q : Hp → Prop} (H : Rp B S h r t) (hi : i < 16) (q1 : tkK B t = 400 + i → ∀ h', Gf r h h' → Rp B S h' r (t + 1) → Q h') (q0 : tkK B t ≠ 400 + i → Q (flw h r 1)) : wX12_needs S K h r (K (i + 2)) Q := by
  refine ⟨H.1.1, H.word hi ?_⟩
  by_cases c : tkK B t = 400 + i
  · rw [decide_eq_true c]
    exact ⟨fun _ => H.go (q1 c), fun n => absurd n (by decide)⟩
  · rw [decide_eq_false c]
    exact ⟨fun n => absurd rfl n, fun _ => H.flaw (fGo H.1.1 (H.fm (f := 1) (by decide) (by decide)) (q0 c))⟩
theorem Rp.needsS {B : Bx} {S : Sh} {h : Hp} {r t c : Nat} {Q : Hp → Prop} (H : Rp B S h r t) (hc : c < 256) (q1 : tkK B t = c → ∀ h', Gf r h h' → Rp B S h' r (t + 1) → Q h') (q0 : tkK B t ≠ c → Q (flw h r 1)) : wX12_needsSign S h r (nI c) Q := by
  refine ⟨H.1.1, H.sign hc ?_⟩
  by_cases e : tkK B t = c
  · rw [decide_eq_true e]
    exact ⟨fun _ => H.go (q1 e), fun n => absurd n (by decide)⟩
  · rw [decide_eq_false e]
    exact ⟨fun n => absurd rfl n, fun _ => H.flaw (fGo H.1.1 (H.fm (f := 1) (by decide) (by decide)) (q0 e))⟩
theorem Rp.passes {B : Bx} {S : Sh} {K : Nat → Nat} {h : Hp} {r t i : Nat} {Q : Int32 → Hp → Prop} (H : Rp B S h r t) (hi : i < 16) (q1 : tkK B t = 400 + i → ∀ h', Gf r h h' → Rp B S h' r (t + 1) → Q 1 h') (q0 : tkK B t ≠ 400 + i → Q 0 h) : wX12_passes S K h r (K (i + 2)) Q := by
  refine ⟨H.1.1, H.word hi ?_⟩
  by_cases c : tkK B t = 400 + i
  · rw [decide_eq_true c]
    exact ⟨fun _ => H.go (q1 c), fun n => absurd n (by decide)⟩
  · rw [decide_eq_false c]
    exact ⟨fun n => absurd rfl n, fun _ => q0 c⟩
theorem Rp.passesS {B : Bx} {S : Sh} {h : Hp} {r t c : Nat} {Q : Int32 → Hp → Prop} (H : Rp B S h r t) (hc : c < 256) (q1 : tkK B t = c → ∀ h', Gf r h h' → Rp B S h' r (t + 1) → Q 1 h') (q0 : tkK B t ≠ c → Q 0 h) : wX12_passesSign S h r (nI c) Q := by
  refine ⟨H.1.1, H.sign hc ?_⟩
  by_cases e : tkK B t = c
  · rw [decide_eq_true e]
    exact ⟨fun _ => H.go (q1 e), fun n => absurd n (by decide)⟩
  · rw [decide_eq_false e]
    exact ⟨fun n => absurd rfl n, fun _ => q0 e⟩
