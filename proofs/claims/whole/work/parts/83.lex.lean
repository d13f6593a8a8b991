/-! THE TEXT AND ITS TOKENS: bytes and their number; kinds as the class has them -/
abbrev Bx : Type := (Nat → Nat) × Nat
def isL (c : Nat) : Bool := decide (97 ≤ c) && decide (c ≤ 122)
def isD (c : Nat) : Bool := decide (48 ≤ c) && decide (c ≤ 57)
def isSg (c : Nat) : Bool := decide (c = 59 ∨ c = 44 ∨ c = 61 ∨ c = 60 ∨ c = 62 ∨ c = 43 ∨ c = 45 ∨ c = 42 ∨ c = 40 ∨ c = 41 ∨ c = 91 ∨ c = 93)
def rnE (p : Nat → Bool) : Nat → Nat → Nat
  | 0, i => i
  | j + 1, i => if p i then rnE p j (i + 1) else i
def bsk (B : Bx) (i : Nat) : Nat := rnE (fun k => decide (B.1 k = 32)) (B.2 - i) i
def bwe (B : Bx) (i : Nat) : Nat := rnE (fun k => isL (B.1 k)) (B.2 - i) i
def bde (B : Bx) (i : Nat) : Nat := rnE (fun k => isD (B.1 k)) (B.2 - i) i
def wcd (B : Bx) (i : Nat) : Nat → Nat
  | 0 => 0
  | k + 1 => wcd B i k * 32 + (B.1 (i + k) - 96)
def dcd (B : Bx) (i : Nat) : Nat → Nat
  | 0 => 0
  | k + 1 => 10 * dcd B i k + (B.1 (i + k) - 48)
def rsL : List Nat := [13995615685, 22578, 215533, 655, 52, 12343, 5969364, 486, 1497, 762030, 143, 23675045332, 498, 1476, 14836, 533611]
def kwF (w : Nat) : Nat → Nat → Nat
  | 0, _ => 302
  | j + 1, i => if rsL.getD i 0 = w then 400 + i else kwF w j (i + 1)
def bE (B : Bx) (q : Nat) : Nat := if isL (B.1 q) then bwe B q else if isD (B.1 q) then bde B q else q + 1
def bK (B : Bx) (q : Nat) : Nat := if B.2 ≤ q then 300 else if isL (B.1 q) then (if bwe B q ≤ q + 7 then kwF (wcd B q (bwe B q - q)) 16 0 else 301)
  else if isD (B.1 q) then (if bde B q ≤ q + 3 then 303 else 301) else if isSg (B.1 q) then B.1 q else 301
def bC (B : Bx) (q : Nat) : Nat := if isL (B.1 q) then wcd B q (min 7 (bwe B q - q)) else dcd B q (min 3 (bde B q - q))
def tkS (B : Bx) : Nat → Nat
  | 0 => 0
  | t + 1 => if B.2 ≤ bsk B (tkS B t) then B.2 else bE B (bsk B (tkS B t))
def tkP (B : Bx) (t : Nat) : Nat := bsk B (tkS B t)
def tkK (B : Bx) (t : Nat) : Nat := bK B (tkP B t)
def tkC (B : Bx) (t : Nat) : Nat := bC B (tkP B t)
theorem rnE_le (p : Nat → Bool) : ∀ j i, i ≤ rnE p j i ∧ rnE p j i ≤ i + j
  | 0, i => ⟨Nat.le_refl _, Nat.le_refl _⟩
  | j + 1, i => by
    have := rnE_le p j (i + 1)
    unfold rnE
    split <;> omega
theorem rnE_in (p : Nat → Bool) : ∀ j i k, i ≤ k → k < rnE p j i → p k = true
  | 0, i, k, h1, h2 => absurd h2 (by show ¬ k < i; omega)
  | j + 1, i, k, h1, h2 => by
    unfold rnE at h2
    split at h2
    · rename_i hp
      by_cases e : k = i
      · rw [e]; exact hp
      · exact rnE_in p j (i + 1) k (by omega) h2
    · omega
theorem rnE_out (p : Nat → Bool) : ∀ j i, rnE p j i < i + j → p (rnE p j i) = false
  | 0, i, h => absurd h (by show ¬ i < i + 0; omega)
  | j + 1, i, h => by
    unfold rnE at h ⊢
    split
    · rename_i hp
      rw [if_pos hp] at h
      exact rnE_out p j (i + 1) (by omega)
    · rename_i hp
      simpa using hp
theorem rnE_s {p : Nat → Bool} {j i : Nat} (h : p i = true) : rnE p (j + 1) i = rnE p j (i + 1) := if_pos h
theorem rnE_n {p : Nat → Bool} {j i : Nat} (h : p i = false) : rnE p (j + 1) i = i := if_neg (by rw [h]; decide)
theorem bsk_le {B : Bx} {i : Nat} (h : i ≤ B.2) : i ≤ bsk B i ∧ bsk B i ≤ B.2 := by
  have := rnE_le (fun k => decide (B.1 k = 32)) (B.2 - i) i
  unfold bsk
  omega
theorem bwe_le {B : Bx} {i : Nat} (h : i ≤ B.2) : i ≤ bwe B i ∧ bwe B i ≤ B.2 := by
  have := rnE_le (fun k => isL (B.1 k)) (B.2 - i) i
  unfold bwe
  omega
theorem bde_le {B : Bx} {i : Nat} (h : i ≤ B.2) : i ≤ bde B i ∧ bde B i ≤ B.2 := by
  have := rnE_le (fun k => isD (B.1 k)) (B.2 - i) i
  unfold bde
  omega
theorem bwe_lt {B : Bx} {i : Nat} (h : i < B.2) (hl : isL (B.1 i) = true) : i < bwe B i := by
  unfold bwe
  obtain ⟨j, hj⟩ : ∃ j, B.2 - i = j + 1 := ⟨B.2 - i - 1, by omega⟩
  rw [hj, rnE_s (p := fun k => isL (B.1 k)) hl]
  have := rnE_le (fun k => isL (B.1 k)) j (i + 1)
  omega
theorem bde_lt {B : Bx} {i : Nat} (h : i < B.2) (hl : isD (B.1 i) = true) : i < bde B i := by
  unfold bde
  obtain ⟨j, hj⟩ : ∃ j, B.2 - i = j + 1 := ⟨B.2 - i - 1, by omega⟩
  rw [hj, rnE_s (p := fun k => isD (B.1 k)) hl]
  have := rnE_le (fun k => isD (B.1 k)) j (i + 1)
  omega
theorem bE_lt {B : Bx} {q : Nat} (h : q < B.2) : q < bE B q ∧ bE B q ≤ B.2 := by
  unfold bE
  split
  · rename_i hl
    exact ⟨bwe_lt h hl, (bwe_le (Nat.le_of_lt h)).2⟩
  · split
    · rename_i hl
      exact ⟨bde_lt h hl, (bde_le (Nat.le_of_lt h)).2⟩
    · omega
theorem tkS_le (B : Bx) : ∀ t, tkS B t ≤ B.2
  | 0 => Nat.zero_le _
  | t + 1 => by
    unfold tkS
    split
    · exact Nat.le_refl _
    · rename_i h
      exact (bE_lt (by omega)).2
theorem tkP_le (B : Bx) (t : Nat) : tkS B t ≤ tkP B t ∧ tkP B t ≤ B.2 := bsk_le (tkS_le B t)
theorem tkS_s {B : Bx} {t : Nat} (h : tkP B t < B.2) : tkS B (t + 1) = bE B (tkP B t) := if_neg (by unfold tkP at h; omega)
theorem tkS_e {B : Bx} {t : Nat} (h : tkP B t = B.2) : tkS B (t + 1) = B.2 := if_pos (by unfold tkP at h; omega)
theorem tkS_ge {B : Bx} : ∀ t, (∀ i, i < t → tkP B i < B.2) → t ≤ tkS B t
  | 0, _ => Nat.zero_le _
  | t + 1, h => by
    have h1 := tkS_ge t (fun i hi => h i (by omega))
    have h2 := h t (by omega)
    rw [tkS_s h2]
    have := (bE_lt h2).1
    have := (tkP_le B t).1
    omega
theorem kwF_k (w : Nat) : ∀ j i, i + j = 16 → kwF w j i = 302 ∨ (400 + i ≤ kwF w j i ∧ kwF w j i < 416)
  | 0, i, _ => Or.inl rfl
  | j + 1, i, h => by
    unfold kwF
    split
    · right; omega
    · rcases kwF_k w j (i + 1) (by omega) with h1 | h1
      · exact Or.inl h1
      · right; omega
theorem bK_300 {B : Bx} {q : Nat} : bK B q = 300 ↔ B.2 ≤ q := by
  unfold bK
  constructor
  · intro h
    by_cases c : B.2 ≤ q
    · exact c
    · rw [if_neg c] at h
      split at h
      · split at h
        · rcases kwF_k (wcd B q (bwe B q - q)) 16 0 rfl with h1 | h1 <;> omega
        · cases h
      · split at h
        · split at h <;> cases h
        · split at h
          · rename_i hs
            unfold isSg at hs
            have := of_decide_eq_true hs
            omega
          · cases h
  · intro h
    rw [if_pos h]
theorem tkK_300 {B : Bx} {t : Nat} : tkK B t = 300 ↔ tkP B t = B.2 := by
  unfold tkK
  rw [bK_300]
  have := (tkP_le B t).2
  omega
/-- the number of tokens ahead of the end -/
theorem tk_end (B : Bx) : ∃ N, N ≤ B.2 ∧ tkK B N = 300 ∧ ∀ i, i < N → tkK B i ≠ 300 := by
  have h : ∃ N, N ≤ B.2 ∧ tkK B N = 300 := by
    refine Classical.byContradiction fun hn => ?_
    have h1 : ∀ i, i < B.2 + 1 → tkP B i < B.2 := fun i hi => by
      have h2 : tkK B i ≠ 300 := fun e => hn ⟨i, by omega, e⟩
      rw [Ne, tkK_300] at h2
      have := (tkP_le B i).2
      omega
    have h3 := tkS_ge (B.2 + 1) h1
    have := tkS_le B (B.2 + 1)
    omega
  obtain ⟨N, hN⟩ := h
  induction N using Nat.strongRecOn with
  | _ N ih =>
    by_cases c : ∃ i, i < N ∧ tkK B i = 300
    · obtain ⟨i, i1, i2⟩ := c
      exact ih i i1 ⟨by omega, i2⟩
    · exact ⟨N, hN.1, hN.2, fun i hi e => c ⟨i, hi, e⟩⟩
theorem isL_iff {c : Nat} : isL c = true ↔ 97 ≤ c ∧ c ≤ 122 := by unfold isL; simp
theorem isD_iff {c : Nat} : isD c = true ↔ 48 ≤ c ∧ c ≤ 57 := by unfold isD; simp
theorem wcd_lt {B : Bx} {i : Nat} : ∀ k, (∀ j, j < k → isL (B.1 (i + j)) = true) → wcd B i k < 32 ^ k
  | 0, _ => by show 0 < 1; omega
  | k + 1, h => by
    have h1 := wcd_lt k (fun j hj => h j (by omega))
    have h2 := isL_iff.mp (h k (by omega))
    rw [Nat.pow_succ]
    unfold wcd
    omega
theorem dcd_lt {B : Bx} {i : Nat} : ∀ k, (∀ j, j < k → isD (B.1 (i + j)) = true) → dcd B i k < 10 ^ k
  | 0, _ => by show 0 < 1; omega
  | k + 1, h => by
    have h1 := dcd_lt k (fun j hj => h j (by omega))
    have h2 := isD_iff.mp (h k (by omega))
    rw [Nat.pow_succ]
    unfold dcd
    omega
theorem bwe_in {B : Bx} {q k : Nat} (h1 : q ≤ k) (h2 : k < bwe B q) : isL (B.1 k) = true := rnE_in _ _ _ k h1 h2
theorem bde_in {B : Bx} {q k : Nat} (h1 : q ≤ k) (h2 : k < bde B q) : isD (B.1 k) = true := rnE_in _ _ _ k h1 h2
theorem bwe_out {B : Bx} {q : Nat} (h : q ≤ B.2) (h2 : bwe B q < B.2) : isL (B.1 (bwe B q)) = false := rnE_out (fun k => isL (B.1 k)) (B.2 - q) q (by unfold bwe at h2; omega)
theorem bde_out {B : Bx} {q : Nat} (h : q ≤ B.2) (h2 : bde B q < B.2) : isD (B.1 (bde B q)) = false := rnE_out (fun k => isD (B.1 k)) (B.2 - q) q (by unfold bde at h2; omega)
/-- a word's number, a whole's -/
theorem tkC_lt {B : Bx} {t : Nat} : tkC B t < 32 ^ 7 := by
  unfold tkC bC
  split
  · have h := wcd_lt (B := B) (i := tkP B t) (min 7 (bwe B (tkP B t) - tkP B t)) (fun j hj => bwe_in (q := tkP B t) (by omega) (by omega))
    exact Nat.lt_of_lt_of_le h (Nat.pow_le_pow_right (by decide) (by omega))
  · have h := dcd_lt (B := B) (i := tkP B t) (min 3 (bde B (tkP B t) - tkP B t)) (fun j hj => bde_in (q := tkP B t) (by omega) (by omega))
    have h2 : 10 ^ (min 3 (bde B (tkP B t) - tkP B t)) ≤ 10 ^ 3 := Nat.pow_le_pow_right (by decide) (by omega)
    have h3 : (10 : Nat) ^ 3 < 32 ^ 7 := by decide
    omega
theorem tkC_999 {B : Bx} {t : Nat} (h : tkK B t = 303) : tkC B t ≤ 999 := by
  have hk := h
  unfold tkK bK at hk
  unfold tkC bC
  split at hk
  · cases hk
  · split at hk
    · split at hk
      · rcases kwF_k (wcd B (tkP B t) (bwe B (tkP B t) - tkP B t)) 16 0 rfl with h1 | h1 <;> omega
      · cases hk
    · rename_i hl
      rw [if_neg hl]
      have h := dcd_lt (B := B) (i := tkP B t) (min 3 (bde B (tkP B t) - tkP B t)) (fun j hj => bde_in (q := tkP B t) (by omega) (by omega))
      have h2 : 10 ^ (min 3 (bde B (tkP B t) - tkP B t)) ≤ 10 ^ 3 := Nat.pow_le_pow_right (by decide) (by omega)
      have h3 : (10 : Nat) ^ 3 = 1000 := by decide
      omega
