/-! THE REFERENCE'S TOKENS -/
/-- all but what goOn writes -/
def Gf (r : Nat) (h h' : Hp) : Prop := Sm (fun a => a ≠ r) h h' ∧ (∀ k, gR h' r k = gR h r k) ∧ (∀ k, k ≠ 13 → gJ h' r k = gJ h r k) ∧ ∀ k, (k < 6 ∨ k = 7 ∨ k = 8 ∨ 12 < k) → gI h' r k = gI h r k
theorem Gf.rf {r : Nat} {h : Hp} : Gf r h h := ⟨Sm.rf, fun _ => rfl, fun _ _ => rfl, fun _ _ => rfl⟩
theorem Gf.tr {r : Nat} {h1 h2 h3 : Hp} (a : Gf r h1 h2) (b : Gf r h2 h3) : Gf r h1 h3 := ⟨a.1.tr b.1, fun k => (b.2.1 k).trans (a.2.1 k), fun k p => (b.2.2.1 k p).trans (a.2.2.1 k p), fun k p => (b.2.2.2 k p).trans (a.2.2.2 k p)⟩
theorem Gf.pI {r : Nat} {h h' : Hp} (a : Gf r h h') {k : Nat} (hk : k = 6 ∨ k = 9 ∨ k = 10 ∨ k = 11 ∨ k = 12) (v : Int32) : Gf r h (pI h' r k v) :=
  ⟨a.1.pI (by simp) _ _, a.2.1, a.2.2.1, fun j hj => by rw [gI_pI, if_neg (by omega)]; exact a.2.2.2 j hj⟩
theorem Gf.pJ {r : Nat} {h h' : Hp} (a : Gf r h h') (v : Int64) : Gf r h (pJ h' r 13 v) :=
  ⟨a.1.pJ (by simp) _ _, a.2.1, fun j hj => by rw [gJ_pJ, if_neg (by omega)]; exact a.2.2.1 j hj, a.2.2.2⟩
/-- the text in the reference -/
def LxB (B : Bx) (h : Hp) (r : Nat) : Prop := gI h r 5 = nI B.2 ∧ B.2 ≤ 600 ∧ (∀ i, i < B.2 → gI h (r + 1) i = nI (B.1 i)) ∧ ∀ i, B.1 i < 256
theorem LxB.of {B : Bx} {h h' : Hp} {r : Nat} (H : LxB B h r) (e : gI h' r 5 = gI h r 5) (s : ∀ i, gI h' (r + 1) i = gI h (r + 1) i) : LxB B h' r :=
  ⟨e.trans H.1, H.2.1, fun i hi => (s i).trans (H.2.2.1 i hi), H.2.2.2⟩
theorem LxB.gf {B : Bx} {h h' : Hp} {r : Nat} (H : LxB B h r) (g : Gf r h h') : LxB B h' r := H.of (g.2.2.2 5 (by omega)) (fun i => g.1.I (by omega) i)
/-- token t is the one that stands in the reference -/
def Tk (B : Bx) (h : Hp) (r t : Nat) : Prop := gI h r 6 = nI (tkS B (t + 1)) ∧ gI h r 10 = nI (tkP B t) ∧
  (tkK B t = 300 → gI h r 9 = 1) ∧ (tkK B t = 301 → gI h r 9 = 0) ∧ (tkK B t = 302 ∨ 400 ≤ tkK B t → gI h r 9 = 2 ∧ gJ h r 13 = lN (tkC B t)) ∧
  (tkK B t = 303 → gI h r 9 = 3 ∧ gI h r 12 = nI (tkC B t)) ∧ (tkK B t < 300 → gI h r 9 = 4 ∧ gI h r 11 = nI (tkK B t))
theorem rLet {B : Bx} {S : Sh} {h : Hp} {r i : Nat} {Q : Int32 → Hp → Prop} (hS : RS S r) (hR : RR h r) (L : LxB B h r) (hi : i ≤ B.2) (q : Q (bI (decide (i < B.2) && isL (B.1 i))) h) : wX12_isLetterAt S h r (nI i) Q := by
  have hn := L.2.1
  unfold wX12_isLetterAt
  rw [L.1, hR.tape, ix_nI (by omega)]
  refine ⟨hS.1, ?_⟩
  by_cases c : i < B.2
  · rw [decide_eq_true c, Bool.true_and] at q
    rw [L.2.2.1 i c]
    have hb := L.2.2.2 i
    refine br_f (nI_ge c (by omega)) ⟨hS.tape (by omega), ?_⟩
    by_cases hl : isL (B.1 i) = true
    · rw [hl] at q
      have := isL_iff.mp hl
      exact rIn_y (nI_nlt (b := 97) this.1 (by omega)) (nI_nlt (a := 122) this.2 (by decide)) ⟨fun n => absurd n (by decide), fun _ => q⟩
    · rw [Bool.eq_false_iff.mpr hl] at q
      rw [isL_iff] at hl
      refine rIn_n ?_ ⟨fun _ => q, fun n => absurd rfl n⟩
      by_cases h1 : B.1 i < 97
      · exact Or.inl (nI_lt h1 (by decide))
      · exact Or.inr (nI_lt (a := 122) (by omega) (by omega))
  · rw [decide_eq_false c, Bool.false_and] at q
    exact br_t (nI_le (by omega) (by omega)) q
theorem rDig {B : Bx} {S : Sh} {h : Hp} {r i : Nat} {Q : Int32 → Hp → Prop} (hS : RS S r) (hR : RR h r) (L : LxB B h r) (hi : i ≤ B.2) (q : Q (bI (decide (i < B.2) && isD (B.1 i))) h) : wX12_isDigitAt S h r (nI i) Q := by
  have hn := L.2.1
  unfold wX12_isDigitAt
  rw [L.1, hR.tape, ix_nI (by omega)]
  refine ⟨hS.1, ?_⟩
  by_cases c : i < B.2
  · rw [decide_eq_true c, Bool.true_and] at q
    rw [L.2.2.1 i c]
    have hb := L.2.2.2 i
    refine br_f (nI_ge c (by omega)) ⟨hS.tape (by omega), ?_⟩
    by_cases hl : isD (B.1 i) = true
    · rw [hl] at q
      have := isD_iff.mp hl
      exact rIn_y (nI_nlt (b := 48) this.1 (by omega)) (nI_nlt (a := 57) this.2 (by decide)) ⟨fun n => absurd n (by decide), fun _ => q⟩
    · rw [Bool.eq_false_iff.mpr hl] at q
      rw [isD_iff] at hl
      refine rIn_n ?_ ⟨fun _ => q, fun n => absurd rfl n⟩
      by_cases h1 : B.1 i < 48
      · exact Or.inl (nI_lt h1 (by decide))
      · exact Or.inr (nI_lt (a := 57) (by omega) (by omega))
  · rw [decide_eq_false c, Bool.false_and] at q
    exact br_t (nI_le (by omega) (by omega)) q
theorem sg_all : ∀ c, c < 256 → ∀ v ∈ [59, 44, 61, 60, 62, 43, 45, 42, 40, 41, 91, 93], (nI c = nI v ↔ c = v) := by
  intro c hc v hv
  have : v < 256 := by
    simp only [List.mem_cons, List.mem_nil_iff, or_false] at hv
    omega
  exact nI_eq (by omega) (by omega)
theorem rSg {S : Sh} {h : Hp} {c : Nat} {Q : Int32 → Hp → Prop} (hc : c < 256) (q : Q (bI (isSg c)) h) : wX12_isSignOf S h (nI c) Q := by
  unfold wX12_isSignOf wX12_isSignOf_j72
  have E : ∀ v : Nat, v < 256 → (nI c = nI v ↔ c = v) := fun v hv => nI_eq (by omega) (by omega)
  unfold isSg at q
  rw [show (59 : Int32) = nI 59 from rfl, show (44 : Int32) = nI 44 from rfl, show (61 : Int32) = nI 61 from rfl, show (60 : Int32) = nI 60 from rfl, show (62 : Int32) = nI 62 from rfl, show (43 : Int32) = nI 43 from rfl, show (45 : Int32) = nI 45 from rfl, show (42 : Int32) = nI 42 from rfl, show (40 : Int32) = nI 40 from rfl, show (41 : Int32) = nI 41 from rfl, show (91 : Int32) = nI 91 from rfl, show (93 : Int32) = nI 93 from rfl]
  rw [E 59 (by decide), E 44 (by decide), E 61 (by decide), E 60 (by decide), E 62 (by decide), E 43 (by decide), E 45 (by decide), E 42 (by decide), E 40 (by decide), E 41 (by decide), E 91 (by decide), E 93 (by decide)]
  by_cases hs : (c = 59 ∨ c = 44 ∨ c = 61 ∨ c = 60 ∨ c = 62 ∨ c = 43 ∨ c = 45 ∨ c = 42 ∨ c = 40 ∨ c = 41 ∨ c = 91 ∨ c = 93)
  · rw [decide_eq_true hs] at q
    refine ⟨fun _ => q, fun n1 => ⟨fun _ => q, fun n2 => ⟨fun _ => q, fun n3 => ⟨fun _ => q, fun n4 => ⟨fun _ => q, fun n5 => ⟨fun _ => q, fun n6 => ⟨fun _ => q, fun n7 => ⟨fun _ => q, fun n8 => ⟨fun _ => q, fun n9 => ⟨fun _ => q, fun n10 => ⟨fun _ => q, fun n11 => ⟨fun n12 => ?_, fun _ => q⟩⟩⟩⟩⟩⟩⟩⟩⟩⟩⟩⟩
    omega
  · rw [decide_eq_false hs] at q
    refine br_f (by omega) (br_f (by omega) (br_f (by omega) (br_f (by omega) (br_f (by omega) (br_f (by omega) (br_f (by omega) (br_f (by omega) (br_f (by omega) (br_f (by omega) (br_f (by omega) ⟨fun _ => q, fun n => ?_⟩))))))))))
    omega
theorem rSkip {B : Bx} {S : Sh} {r : Nat} {h0 : Hp} {Q : Hp → Prop} (hS : RS S r) (hR0 : RR h0 r) (L0 : LxB B h0 r) (F : Nat) (q : ∀ h', Gf r h0 h' → gI h' r 6 = nI F → wX12_goOn_j46 S h' r Q) :
    ∀ (j i : Nat) (h : Hp), i + j = B.2 → Gf r h0 h → gI h r 6 = nI i → rnE (fun k => decide (B.1 k = 32)) j i = F → wX12_goOn_8 S r Q (j + 1) h
  | 0, i, h, hj, g, h6, hF => by
    have L := L0.gf g
    have hn := L.2.1
    show wX12_goOn_8b S r Q _ h
    unfold wX12_goOn_8b
    rw [L.1, h6]
    exact ⟨hS.1, br_t (nI_le (by omega) (by omega)) (q h g (by rw [h6, ← hF]; rfl))⟩
  | j + 1, i, h, hj, g, h6, hF => by
    have L := L0.gf g
    have hR := hR0.of g.2.1
    have hn := L.2.1
    have hb := L.2.2.2 i
    show wX12_goOn_8b S r Q (wX12_goOn_8 S r Q (j + 1)) h
    unfold wX12_goOn_8b
    rw [L.1, h6, hR.tape, ix_nI (by omega), L.2.2.1 i (by omega), nI_1]
    refine ⟨hS.1, br_f (nI_ge (by omega) (by omega)) ⟨hS.tape (by omega), ?_⟩⟩
    by_cases c : B.1 i = 32
    · rw [rnE_s (decide_eq_true c)] at hF
      refine ⟨fun n => absurd (by rw [c]; rfl) n, fun _ => rSkip hS hR0 L0 F q j (i + 1) _ (by omega) (g.pI (by omega) _) (by rw [gI_pI, if_pos ⟨rfl, rfl⟩]) hF⟩
    · rw [rnE_n (decide_eq_false c)] at hF
      refine ⟨fun _ => q h g (by rw [h6, hF]), fun n => absurd n ?_⟩
      rw [show (32 : Int32) = nI 32 from rfl, nI_eq (by omega) (by omega)]
      exact c
theorem wd_step {w c : Nat} (h1 : 97 ≤ c) (h2 : c ≤ 122) : lN w * 32 + (nI c).toInt64 - 97 + 1 = lN (w * 32 + (c - 96)) := by
  rw [nI_l (by omega), show (32 : Int64) = lN 32 from rfl, show (97 : Int64) = lN 97 from rfl, lN_mul, lN_add, lN_sub (by omega), lN_1]
  congr 1
  omega
theorem rWord {B : Bx} {S : Sh} {r p : Nat} {h0 : Hp} {Q : Hp → Prop} (hS : RS S r) (hR0 : RR h0 r) (L0 : LxB B h0 r) (hp : p ≤ B.2) (q : ∀ h', Gf r h0 h' → gI h' r 6 = nI (bwe B p) → gI h' r 10 = nI p → gI h' r 9 = (if bwe B p ≤ p + 7 then 2 else 0) → gJ h' r 13 = lN (wcd B p (min 7 (bwe B p - p))) → Q h') :
    ∀ (j k : Nat) (h : Hp), p + k + j = B.2 → Gf r h0 h → gI h r 6 = nI (p + k) → gI h r 10 = nI p → gJ h r 13 = lN (wcd B p (min 7 k)) → rnE (fun k => isL (B.1 k)) j (p + k) = bwe B p → wX12_goOn_89 S r Q (j + 1) h := by
  have fin : ∀ (k : Nat) (h : Hp), p + k ≤ B.2 → Gf r h0 h → gI h r 6 = nI (p + k) → gI h r 10 = nI p → gJ h r 13 = lN (wcd B p (min 7 k)) → p + k = bwe B p → wX12_goOn_j156 S h r Q := by
    intro k h hk g h6 h10 h13 he
    have hn := L0.2.1
    unfold wX12_goOn_j156
    rw [h6, h10, n_sub (by omega), show p + k - p = k by omega]
    have q' : ∀ v, v = (if bwe B p ≤ p + 7 then (2 : Int32) else 0) → Q (pI h r 9 v) := fun v hv => q _ (g.pI (by omega) _) (by rw [gI_pI, if_neg (by omega), h6, he]) (by rw [gI_pI, if_neg (by omega), h10]) (by rw [gI_pI, if_pos ⟨rfl, rfl⟩, hv]) (by rw [gJ_pI, h13, ← he, show p + k - p = k by omega])
    refine ⟨hS.1, ?_⟩
    by_cases c : k ≤ 7
    · exact br_t (nI_le (b := 7) c (by decide)) ⟨hS.1, q' 2 (by rw [if_pos (by omega)])⟩
    · exact br_f (nI_ge (a := 7) (by omega) (by omega)) ⟨hS.1, q' 0 (by rw [if_neg (by omega)])⟩
  intro j
  induction j with
  | zero =>
    intro k h hj g h6 h10 h13 he
    have L := L0.gf g
    have hR := hR0.of g.2.1
    show wX12_goOn_89b S r Q _ h
    unfold wX12_goOn_89b
    rw [h6]
    refine ⟨hS.1, rLet hS hR L (by omega) ?_⟩
    rw [decide_eq_false (by omega), Bool.false_and]
    exact br_t rfl (fin k h (by omega) g h6 h10 h13 he)
  | succ j ih =>
    intro k h hj g h6 h10 h13 he
    have L := L0.gf g
    have hR := hR0.of g.2.1
    have hn := L.2.1
    show wX12_goOn_89b S r Q (wX12_goOn_89 S r Q (j + 1)) h
    unfold wX12_goOn_89b
    rw [h6]
    refine ⟨hS.1, rLet hS hR L (by omega) ?_⟩
    rw [decide_eq_true (show p + k < B.2 by omega), Bool.true_and]
    by_cases c : isL (B.1 (p + k)) = true
    · rw [rnE_s (p := fun k => isL (B.1 k)) c] at he
      have cb := isL_iff.mp c
      rw [c]
      refine br_f (by decide) ?_
      rw [h6, h10, n_sub (by omega), show p + k - p = k by omega]
      by_cases c7 : 7 ≤ k
      · refine br_t (nI_le (a := 7) c7 (by omega)) ⟨hS.1, ?_⟩
        rw [h6, nI_1]
        refine ih (k + 1) _ (by omega) (g.pI (by omega) _) (by rw [gI_pI, if_pos ⟨rfl, rfl⟩]; rfl) (by rw [gI_pI, if_neg (by omega), h10]) ?_ he
        rw [gJ_pI, h13, show min 7 (k + 1) = min 7 k by omega]
      · refine br_f (nI_ge (b := 7) (by omega) (by decide)) ?_
        rw [hR.tape, ix_nI (by omega), L.2.2.1 (p + k) (by omega), h13, wd_step cb.1 cb.2]
        refine ⟨hS.tape (by omega), ⟨hS.1, ?_⟩⟩
        rw [gI_pJ, h6, nI_1]
        refine ih (k + 1) _ (by omega) ((g.pJ _).pI (by omega) _) (by rw [gI_pI, if_pos ⟨rfl, rfl⟩]; rfl) (by rw [gI_pI, if_neg (by omega), gI_pJ, h10]) ?_ he
        rw [gJ_pI, gJ_pJ, if_pos ⟨rfl, rfl⟩, show min 7 (k + 1) = min 7 k + 1 by omega, show min 7 k = k by omega]
        rfl
    · have c' : isL (B.1 (p + k)) = false := Bool.eq_false_iff.mpr c
      rw [rnE_n (p := fun k => isL (B.1 k)) c'] at he
      rw [c']
      exact br_t rfl (fin k h (by omega) g h6 h10 h13 he)
theorem rNumb {B : Bx} {S : Sh} {r p : Nat} {h0 : Hp} {Q : Hp → Prop} (hS : RS S r) (hR0 : RR h0 r) (L0 : LxB B h0 r) (hp : p ≤ B.2) (q : ∀ h', Gf r h0 h' → gI h' r 6 = nI (bde B p) → gI h' r 10 = nI p → gI h' r 9 = (if bde B p ≤ p + 3 then 3 else 0) → gI h' r 12 = nI (dcd B p (min 3 (bde B p - p))) → Q h') :
    ∀ (j k : Nat) (h : Hp), p + k + j = B.2 → Gf r h0 h → gI h r 6 = nI (p + k) → gI h r 10 = nI p → gI h r 12 = nI (dcd B p (min 3 k)) → rnE (fun k => isD (B.1 k)) j (p + k) = bde B p → wX12_goOn_198 S r Q (j + 1) h := by
  have fin : ∀ (k : Nat) (h : Hp), p + k ≤ B.2 → Gf r h0 h → gI h r 6 = nI (p + k) → gI h r 10 = nI p → gI h r 12 = nI (dcd B p (min 3 k)) → p + k = bde B p → wX12_goOn_j259 S h r Q := by
    intro k h hk g h6 h10 h13 he
    have hn := L0.2.1
    unfold wX12_goOn_j259
    rw [h6, h10, n_sub (by omega), show p + k - p = k by omega]
    have q' : ∀ v, v = (if bde B p ≤ p + 3 then (3 : Int32) else 0) → Q (pI h r 9 v) := fun v hv => q _ (g.pI (by omega) _) (by rw [gI_pI, if_neg (by omega), h6, he]) (by rw [gI_pI, if_neg (by omega), h10]) (by rw [gI_pI, if_pos ⟨rfl, rfl⟩, hv]) (by rw [gI_pI, if_neg (by omega), h13, ← he, show p + k - p = k by omega])
    refine ⟨hS.1, ?_⟩
    by_cases c : k ≤ 3
    · exact br_t (nI_le (b := 3) c (by decide)) ⟨hS.1, q' 3 (by rw [if_pos (by omega)])⟩
    · exact br_f (nI_ge (a := 3) (by omega) (by omega)) ⟨hS.1, q' 0 (by rw [if_neg (by omega)])⟩
  intro j
  induction j with
  | zero =>
    intro k h hj g h6 h10 h13 he
    have L := L0.gf g
    have hR := hR0.of g.2.1
    show wX12_goOn_198b S r Q _ h
    unfold wX12_goOn_198b
    rw [h6]
    refine ⟨hS.1, rDig hS hR L (by omega) ?_⟩
    rw [decide_eq_false (by omega), Bool.false_and]
    exact br_t rfl (fin k h (by omega) g h6 h10 h13 he)
  | succ j ih =>
    intro k h hj g h6 h10 h13 he
    have L := L0.gf g
    have hR := hR0.of g.2.1
    have hn := L.2.1
    show wX12_goOn_198b S r Q (wX12_goOn_198 S r Q (j + 1)) h
    unfold wX12_goOn_198b
    rw [h6]
    refine ⟨hS.1, rDig hS hR L (by omega) ?_⟩
    rw [decide_eq_true (show p + k < B.2 by omega), Bool.true_and]
    by_cases c : isD (B.1 (p + k)) = true
    · rw [rnE_s (p := fun k => isD (B.1 k)) c] at he
      have cb := isD_iff.mp c
      rw [c]
      refine br_f (by decide) ?_
      rw [h6, h10, n_sub (by omega), show p + k - p = k by omega]
      by_cases c7 : 3 ≤ k
      · refine br_t (nI_le (a := 3) c7 (by omega)) ⟨hS.1, ?_⟩
        rw [h6, nI_1]
        refine ih (k + 1) _ (by omega) (g.pI (by omega) _) (by rw [gI_pI, if_pos ⟨rfl, rfl⟩]; rfl) (by rw [gI_pI, if_neg (by omega), h10]) ?_ he
        rw [gI_pI, if_neg (by omega), h13, show min 3 (k + 1) = min 3 k by omega]
      · refine br_f (nI_ge (b := 3) (by omega) (by decide)) ?_
        rw [hR.tape, ix_nI (by omega), L.2.2.1 (p + k) (by omega), h13, n_10, nI_mul, nI_add, show (48 : Int32) = nI 48 from rfl, n_sub (by omega)]
        refine ⟨hS.tape (by omega), ⟨hS.1, ?_⟩⟩
        rw [gI_pI, if_neg (by omega), h6, nI_1]
        refine ih (k + 1) _ (by omega) ((g.pI (by omega) _).pI (by omega) _) (by rw [gI_pI, if_pos ⟨rfl, rfl⟩]; rfl) (by rw [gI_pI, if_neg (by omega), gI_pI, if_neg (by omega), h10]) ?_ he
        rw [gI_pI, if_neg (by omega), gI_pI, if_pos ⟨rfl, rfl⟩, show min 3 (k + 1) = min 3 k + 1 by omega, show min 3 k = k by omega]
        show _ = nI (10 * dcd B p k + (B.1 (p + k) - 48))
        congr 1
        omega
    · have c' : isD (B.1 (p + k)) = false := Bool.eq_false_iff.mpr c
      rw [rnE_n (p := fun k => isD (B.1 k)) c'] at he
      rw [c']
      exact br_t rfl (fin k h (by omega) g h6 h10 h13 he)
theorem bK_L {B : Bx} {q : Nat} (h : q < B.2) (hl : isL (B.1 q) = true) : bK B q = if bwe B q ≤ q + 7 then kwF (wcd B q (bwe B q - q)) 16 0 else 301 := by
  unfold bK
  rw [if_neg (by omega), if_pos hl]
theorem bK_D {B : Bx} {q : Nat} (h : q < B.2) (hl : isL (B.1 q) = false) (hd : isD (B.1 q) = true) : bK B q = if bde B q ≤ q + 3 then 303 else 301 := by
  unfold bK
  rw [if_neg (by omega), if_neg (by rw [hl]; decide), if_pos hd]
theorem bK_S {B : Bx} {q : Nat} (h : q < B.2) (hl : isL (B.1 q) = false) (hd : isD (B.1 q) = false) : bK B q = if isSg (B.1 q) then B.1 q else 301 := by
  unfold bK
  rw [if_neg (by omega), if_neg (by rw [hl]; decide), if_neg (by rw [hd]; decide)]
theorem rGo46 {B : Bx} {S : Sh} {h : Hp} {r t : Nat} {Q : Hp → Prop} (hS : RS S r) (hR : RR h r) (L : LxB B h r) (h6 : gI h r 6 = nI (tkP B t)) (q : ∀ h', Gf r h h' → Tk B h' r t → Q h') : wX12_goOn_j46 S h r Q := by
  have hn := L.2.1
  have hp := (tkP_le B t).2
  refine ⟨hS.1, nm_e ?_⟩
  have g1 : Gf r h (pI h r 10 (gI h r 6)) := Gf.rf.pI (by omega) _
  have L1 := L.gf g1
  have R1 : RR (pI h r 10 (gI h r 6)) r := hR.of g1.2.1
  have e6 : gI (pI h r 10 (gI h r 6)) r 6 = nI (tkP B t) := by rw [gI_pI, if_neg (by omega)]; exact h6
  have e10 : gI (pI h r 10 (gI h r 6)) r 10 = nI (tkP B t) := by rw [gI_pI, if_pos ⟨rfl, rfl⟩]; exact h6
  generalize pI h r 10 (gI h r 6) = h1 at g1 L1 R1 e6 e10
  rw [L1.1, e6]
  by_cases c : tkP B t < B.2
  · refine ⟨fun _ => rLet hS R1 L1 hp ?_, fun e => absurd e (by rw [nI_eq (by omega) (by omega)]; omega)⟩
    have n300 : tkK B t ≠ 300 := fun e => by rw [tkK_300] at e; omega
    rw [decide_eq_true c, Bool.true_and]
    by_cases hl : isL (B.1 (tkP B t)) = true
    · rw [hl]
      have K : tkK B t = _ := bK_L c hl
      have kw := kwF_k (wcd B (tkP B t) (bwe B (tkP B t) - tkP B t)) 16 0 rfl
      refine ⟨fun n => absurd n (by decide), fun _ => ⟨B.2 - tkP B t + 1, ?_⟩⟩
      refine rWord (p := tkP B t) hS R1 L1 hp (fun h' g e6' e10' e9 e13 => ?_) (B.2 - tkP B t) 0 _ (by omega) (Gf.rf.pJ 0) (by rw [gI_pJ, Nat.add_zero]; exact e6) (by rw [gI_pJ]; exact e10) (by rw [gJ_pJ, if_pos ⟨rfl, rfl⟩]; rfl) rfl
      have eC : tkC B t = wcd B (tkP B t) (min 7 (bwe B (tkP B t) - tkP B t)) := if_pos hl
      refine q h' (g1.tr g) ⟨?_, e10', fun e => absurd e n300, ?_, ?_, ?_, ?_⟩
      · rw [e6', tkS_s c, bE, if_pos hl]
      all_goals by_cases c7 : bwe B (tkP B t) ≤ tkP B t + 7
      all_goals first | rw [if_pos c7] at K e9 | rw [if_neg c7] at K e9
      · intro e; omega
      · intro e; exact e9
      · intro e; exact ⟨e9, by rw [eC]; exact e13⟩
      · intro e; omega
      · intro e; omega
      · intro e; omega
      · intro e; omega
      · intro e; omega
    · have hl' : isL (B.1 (tkP B t)) = false := Bool.eq_false_iff.mpr hl
      rw [hl']
      refine ⟨fun _ => ?_, fun n => absurd rfl n⟩
      rw [e6]
      refine rDig hS R1 L1 hp ?_
      rw [decide_eq_true c, Bool.true_and]
      by_cases hd : isD (B.1 (tkP B t)) = true
      · rw [hd]
        have K : tkK B t = _ := bK_D c hl' hd
        refine ⟨fun n => absurd n (by decide), fun _ => ⟨B.2 - tkP B t + 1, ?_⟩⟩
        refine rNumb (p := tkP B t) hS R1 L1 hp (fun h' g e6' e10' e9 e13 => ?_) (B.2 - tkP B t) 0 _ (by omega) (Gf.rf.pI (k := 12) (by omega) 0) (by rw [gI_pI, if_neg (by omega), Nat.add_zero]; exact e6) (by rw [gI_pI, if_neg (by omega)]; exact e10) (by rw [gI_pI, if_pos ⟨rfl, rfl⟩]; rfl) rfl
        have eC : tkC B t = dcd B (tkP B t) (min 3 (bde B (tkP B t) - tkP B t)) := if_neg (by rw [hl']; decide)
        refine q h' (g1.tr g) ⟨?_, e10', fun e => absurd e n300, ?_, ?_, ?_, ?_⟩
        · rw [e6', tkS_s c, bE, if_neg hl, if_pos hd]
        all_goals by_cases c7 : bde B (tkP B t) ≤ tkP B t + 3
        all_goals first | rw [if_pos c7] at K e9 | rw [if_neg c7] at K e9
        · intro e; omega
        · intro e; exact e9
        · intro e; omega
        · intro e; omega
        · intro e; exact ⟨e9, by rw [eC]; exact e13⟩
        · intro e; omega
        · intro e; omega
        · intro e; omega
      · have hd' : isD (B.1 (tkP B t)) = false := Bool.eq_false_iff.mpr hd
        rw [hd']
        have K : tkK B t = _ := bK_S c hl' hd'
        refine ⟨fun _ => ?_, fun n => absurd rfl n⟩
        rw [e6, R1.tape, ix_nI (by omega), L1.2.2.1 _ c]
        refine ⟨hS.tape (by omega), nm_e ?_⟩
        have hb := L.2.2.2 (tkP B t)
        have eS : tkS B (t + 1) = tkP B t + 1 := by rw [tkS_s c, bE, if_neg hl, if_neg hd]
        have sgl : isSg (B.1 (tkP B t)) = true → B.1 (tkP B t) < 300 := fun _ => by omega
        have fin : ∀ v, (isSg (B.1 (tkP B t)) = true → v = 4) → (isSg (B.1 (tkP B t)) = false → v = 0) → Q (pI (pI (pI h1 r 11 (nI (B.1 (tkP B t)))) r 9 v) r 6 (gI (pI (pI h1 r 11 (nI (B.1 (tkP B t)))) r 9 v) r 6 + 1)) := by
          intro v v4 v0
          refine q _ (((g1.pI (by omega) _).pI (by omega) _).pI (by omega) _) ⟨?_, ?_, fun e => absurd e n300, fun e => ?_, fun e => ?_, fun e => ?_, fun e => ?_⟩
          · rw [gI_pI, if_pos ⟨rfl, rfl⟩, gI_pI, if_neg (by omega), gI_pI, if_neg (by omega), e6, nI_1, eS]
          · rw [gI_pI, if_neg (by omega), gI_pI, if_neg (by omega), gI_pI, if_neg (by omega), e10]
          · rw [gI_pI, if_neg (by omega), gI_pI, if_pos ⟨rfl, rfl⟩]
            refine v0 (Bool.eq_false_iff.mpr fun hs => ?_)
            rw [if_pos hs] at K
            omega
          · split at K <;> omega
          · split at K <;> omega
          · have hs : isSg (B.1 (tkP B t)) = true := by
              by_cases hs : isSg (B.1 (tkP B t)) = true
              · exact hs
              · rw [if_neg hs] at K
                omega
            rw [if_pos hs] at K
            rw [gI_pI, if_neg (by omega), gI_pI, if_pos ⟨rfl, rfl⟩, gI_pI, if_neg (by omega), gI_pI, if_neg (by omega), gI_pI, if_pos ⟨rfl, rfl⟩, K]
            exact ⟨v4 hs, rfl⟩
        rw [gI_pI, if_pos ⟨rfl, rfl⟩]
        refine rSg hb ?_
        cases hs : isSg (B.1 (tkP B t))
        · exact ⟨fun _ => nm_e (fin 0 (fun e => by rw [hs] at e; cases e) (fun _ => rfl)), fun n => absurd rfl n⟩
        · exact ⟨fun n => absurd n (by decide), fun _ => nm_e (fin 4 (fun _ => rfl) (fun e => by rw [hs] at e; cases e))⟩
  · have e : tkP B t = B.2 := by omega
    have hk : tkK B t = 300 := tkK_300.mpr e
    refine ⟨fun n => absurd (by rw [e]) n, fun _ => q _ (g1.pI (by omega) _) ⟨?_, ?_, fun _ => ?_, fun e => ?_, fun e => ?_, fun e => ?_, fun e => ?_⟩⟩
    · rw [gI_pI, if_neg (by omega), e6, tkS_e e, e]
    · rw [gI_pI, if_neg (by omega), e10]
    · rw [gI_pI, if_pos ⟨rfl, rfl⟩]
    · omega
    · omega
    · omega
    · omega
/-- goOn: token t comes to stand -/
theorem rGoOn {B : Bx} {S : Sh} {h : Hp} {r t : Nat} {Q : Hp → Prop} (hS : RS S r) (hR : RR h r) (L : LxB B h r) (h7 : gI h r 7 = 0) (h6 : gI h r 6 = nI (tkS B t)) (q : ∀ h', Gf r h h' → Tk B h' r t → Q h') : wX12_goOn S h r Q := by
  have hs := tkS_le B t
  refine ⟨hS.1, br_t (by rw [h7]; decide) ⟨B.2 - tkS B t + 1, ?_⟩⟩
  exact rSkip hS hR L (tkP B t) (fun h1 g1 e6 => rGo46 hS (hR.of g1.2.1) (L.gf g1) e6 (fun h2 g2 k => q h2 (g1.tr g2) k)) (B.2 - tkS B t) (tkS B t) h (by omega) Gf.rf h6 rfl
/-! words -/
def wdF (i : Nat) : Nat → Int64
  | 0 => 0
  | j + 1 => wdF i j * 32 + ((bytS.getD i []).getD j 0).toInt64 - 97 + 1
theorem wdF_rs : ∀ i, i < 16 → wdF (i + 2) (lenS.getD (i + 2) 0) = lN (rsL.getD i 0) := by decide +kernel
theorem lenS_lt : ∀ i, i < 18 → lenS.getD i 0 < 100 := by decide
theorem rWo {K : Nat → Nat} {S : Sh} {h : Hp} {i : Nat} {Q : Int64 → Hp → Prop} (hi : i < 16) (q : Q (lN (rsL.getD i 0)) h) : wX12_wordOf S K h (K (i + 2)) Q := by
  rw [← wdF_rs i hi] at q
  have hl := lenS_lt (i + 2) (by omega)
  have lp : ∀ (n j : Nat), j + n = lenS.getD (i + 2) 0 → wX12_wordOf_4 S K (K (i + 2)) Q (n + 1) h (wdF (i + 2) j) (nI j) := by
    intro n
    induction n with
    | zero =>
      intro j hj
      refine ⟨i + 2, by omega, rfl, br_t (nI_le (by omega) (by omega)) ?_⟩
      rw [show j = lenS.getD (i + 2) 0 by omega]
      exact q
    | succ n ih =>
      intro j hj
      refine ⟨i + 2, by omega, rfl, br_f (nI_ge (by omega) (by omega)) ⟨i + 2, j, by omega, rfl, rfl, by omega, nm_e ?_⟩⟩
      rw [nI_1]
      exact ih (j + 1) (by omega)
  exact ⟨_, lp (lenS.getD (i + 2) 0) 0 (by omega)⟩
