/-! WHAT IS TOLD OF THE MACHINES, WITHOUT A HEAP: counts, bounds, events, codes (kind and number of each step), names -/
abbrev Cd : Type := List (Nat × Nat)
abbrev Ab : Type := (Nat → Nat → Nat → Nat) × (Nat → Nat → Nat → Cd) × (Nat → Nat → Int64)
def aMM (A : Ab) : Nat := A.1 0 0 0
def aVm (A : Ab) (m : Nat) : Nat := A.1 1 m 0
def aLo (A : Ab) (m v : Nat) : Nat := A.1 2 m v
def aHi (A : Ab) (m v : Nat) : Nat := A.1 3 m v
def aAt (A : Ab) (m v : Nat) : Nat := A.1 4 m v
def aSz (A : Ab) (m : Nat) : Nat := A.1 5 m 0
def aLm (A : Ab) (m : Nat) : Nat := A.1 6 m 0
def aEm (A : Ab) (m : Nat) : Nat := A.1 7 m 0
/-- 1 where there is a variant -/
def aVt (A : Ab) (m : Nat) : Nat := A.1 8 m 0
/-- 0: of none; k + 1: of the event k of the machine ahead -/
def aOe (A : Ab) (m e : Nat) : Nat := A.1 9 m e
def aFp (A : Ab) (m e : Nat) : Nat := A.1 10 m e
def aLp (A : Ab) (m e : Nat) : Nat := A.1 11 m e
def aGb (A : Ab) (m e : Nat) : Nat := A.1 12 m e
def aAs (A : Ab) (m e : Nat) : Nat := A.1 13 m e
def aSn (A : Ab) (m s : Nat) : Nat := A.1 14 m s
def aGl (A : Ab) (m a s : Nat) : Nat := A.1 15 m (100 * a + s)
def aLc (A : Ab) (m l : Nat) : Cd := A.2.1 0 m l
def aGc (A : Ab) (m e : Nat) : Cd := A.2.1 1 m e
def aSc (A : Ab) (m e v : Nat) : Cd := A.2.1 2 (4 * m + e) v
def aVc (A : Ab) (m : Nat) : Cd := A.2.1 3 m 0
def aMn (A : Ab) (m : Nat) : Int64 := A.2.2 0 m
def aVn (A : Ab) (m v : Nat) : Int64 := A.2.2 (1 + m) v
def aWd (A : Ab) (m v : Nat) : Nat := aHi A m v + 1 - aLo A m v
def aPr (A : Ab) (m : Nat) : Nat → Nat
  | 0 => 1
  | v + 1 => aPr A m v * aWd A m v
/-- what is left of a state behind j of its variables, from the last on -/
def aRs (A : Ab) (m s : Nat) : Nat → Nat
  | 0 => s
  | j + 1 => aRs A m s j / aWd A m (aVm A m - 1 - j)
def aVl (A : Ab) (m s v : Nat) : Nat := aLo A m v + aRs A m s (aVm A m - 1 - v) % aWd A m v
/-- the state with the numbers f, the first v of them being in n; -2 if one is out of bounds -/
def aSo (A : Ab) (m : Nat) (f : Nat → Int32) : Nat → Nat → Nat → Int32
  | 0, _, n => nI n
  | j + 1, v, n => if nI (aLo A m v) ≤ f v ∧ f v ≤ nI (aHi A m v) then aSo A m f j (v + 1) (n * aWd A m v + (f v).toNatClampNeg - aLo A m v) else -2
def aBg (A : Ab) (m : Nat) : Nat → Nat → Nat → Nat
  | 0, _, n => n
  | j + 1, v, n => aBg A m j (v + 1) (n * aWd A m v + aAt A m v - aLo A m v)
def aBe (A : Ab) (m : Nat) : Nat := aBg A m (aVm A m) 0 0
def jnN (w : Nat) (x y : Int32) : Int32 :=
  if w = 4 then x + y else if w = 5 then x - y else if w = 6 then x * y else if w = 7 then (if x < y then 1 else 0)
  else if w = 8 then (if y < x then 1 else 0) else if w = 9 then (if x = y then 1 else 0) else if w = 11 then x &&& y else x ||| y
def ev1 (en : Nat → Int32) (c : Nat × Nat) (st : List Int32) : List Int32 :=
  if c.1 = 0 then nI c.2 :: st else if c.1 = 1 then en c.2 :: st else if c.1 = 2 then en (3 + c.2) :: st else if c.1 = 3 then en 6 :: st
  else if c.1 = 10 then (match st with | x :: r => (1 - x) :: r | [] => [])
  else match st with | y :: x :: r => jnN c.1 x y :: r | q => q
def evs (en : Nat → Int32) : Cd → List Int32 → List Int32
  | [], st => st
  | c :: cs, st => evs en cs (ev1 en c st)
def evl (en : Nat → Int32) (L : Cd) : Int32 := (evs en L []).headD 0
/-- the height behind a code -/
def rnC : Cd → Nat → Option Nat
  | [], n => some n
  | c :: cs, n => if c.1 ≤ 3 then rnC cs (n + 1) else if c.1 = 10 then (if 1 ≤ n then rnC cs n else none) else if 2 ≤ n then rnC cs (n - 1) else none
/-- how often a code lays something down -/
def psC : Cd → Nat
  | [] => 0
  | c :: cs => (if c.1 ≤ 3 then 1 else 0) + psC cs
/-- k: 0 a law, 1 of an event, 2 a variant -/
def okC (A : Ab) (m k : Nat) (c : Nat × Nat) : Prop := c.1 ≤ 12 ∧ (c.1 = 0 → c.2 ≤ 999) ∧ (c.1 = 1 → c.2 < aVm A m) ∧ (c.1 = 2 → k = 0 ∧ 0 < m ∧ c.2 < aVm A (m - 1)) ∧ (c.1 = 3 → k = 1)
def wfC (A : Ab) (m k : Nat) (L : Cd) : Prop := rnC L 0 = some 1 ∧ psC L ≤ 30 ∧ L.length ≤ 600 ∧ ∀ c ∈ L, okC A m k c
def tsC (L : Cd) : Prop := ∀ en, evl en L = 0 ∨ evl en L = 1
def aEn (A : Ab) (m a s : Nat) (p : Int32) : Nat → Int32 := fun k => if k < 3 then nI (aVl A m s k) else if k < 6 then nI (aVl A (m - 1) a (k - 3)) else p
def aCb (A : Ab) (m e s p : Nat) : Bool := decide (evl (aEn A m 0 s (nI p)) (aGc A m e) = 1)
def aNx (A : Ab) (m e s p : Nat) (v : Nat) : Int32 := if aGb A m e / 2 ^ v % 2 = 1 then evl (aEn A m 0 s (nI p)) (aSc A m e v) else nI (aVl A m s v)
def aGv (A : Ab) (m e s p : Nat) : Int32 := aSo A m (aNx A m e s p) (aVm A m) 0 0
def aOI (A : Ab) (m e : Nat) : Int32 := if aOe A m e = 0 then -2 else nI (aOe A m e - 1)
def bI (b : Bool) : Int32 := if b then 1 else 0
/-- how a step is written in the class -/
def enC (c : Nat × Nat) : Nat := if c.1 = 0 then c.2 else if c.1 = 1 then 1000 + c.2 else if c.1 = 2 then 1003 + c.2 else if c.1 = 3 then 1006 else if c.1 = 4 then 2043 else if c.1 = 5 then 2045
  else if c.1 = 6 then 2042 else if c.1 = 7 then 2060 else if c.1 = 8 then 2062 else if c.1 = 9 then 2061 else if c.1 = 10 then 2414 else if c.1 = 11 then 2413 else 2412
/-- the machine m is as it must be -/
def wfM (A : Ab) (m : Nat) : Prop := 1 ≤ aVm A m ∧ aVm A m ≤ 3 ∧ aLm A m ≤ 4 ∧ aEm A m ≤ 4 ∧ aSz A m = aPr A m (aVm A m) ∧ aSz A m ≤ 100 ∧
  (∀ v, v < aVm A m → aLo A m v ≤ aAt A m v ∧ aAt A m v ≤ aHi A m v ∧ aHi A m v ≤ 9) ∧ (aVt A m ≠ 0 → wfC A m 2 (aVc A m)) ∧
  (∀ e, e < aEm A m → aFp A m e ≤ aLp A m e ∧ aLp A m e ≤ 99 ∧ aLp A m e < aFp A m e + 10 ∧ (aOe A m e ≠ 0 → 0 < m ∧ aOe A m e ≤ aEm A (m - 1)) ∧ aGb A m e < 8 ∧ wfC A m 1 (aGc A m e) ∧ tsC (aGc A m e) ∧
    (∀ v, v < aVm A m → aGb A m e / 2 ^ v % 2 = 1 → wfC A m 1 (aSc A m e v)) ∧ aAs A m e ≤ 1) ∧
  (∀ s, s < aSz A m → aSn A m s ≤ 1) ∧ ∀ a s, 0 < m → a < aSz A (m - 1) → s < aSz A m → aGl A m a s ≤ 1
def wfA (A : Ab) : Prop := aMM A ≤ 3 ∧ ∀ m, m < aMM A → wfM A m
/-! laws of these -/
theorem evs_app (en : Nat → Int32) : ∀ (L1 L2 : Cd) (st : List Int32), evs en (L1 ++ L2) st = evs en L2 (evs en L1 st)
  | [], _, _ => rfl
  | c :: cs, L2, st => evs_app en cs L2 (ev1 en c st)
theorem rnC_app : ∀ (L1 L2 : Cd) (n : Nat), rnC (L1 ++ L2) n = (rnC L1 n).bind (rnC L2)
  | [], _, _ => rfl
  | c :: cs, L2, n => by
    simp only [List.cons_append, rnC]
    split
    · exact rnC_app cs L2 _
    · split
      · split
        · exact rnC_app cs L2 _
        · rfl
      · split
        · exact rnC_app cs L2 _
        · rfl
theorem psC_app : ∀ (L1 L2 : Cd), psC (L1 ++ L2) = psC L1 + psC L2
  | [], _ => by simp [psC]
  | c :: cs, L2 => by simp only [List.cons_append, psC, psC_app cs L2, Nat.add_assoc]
theorem ev1_len {en : Nat → Int32} {c : Nat × Nat} {st : List Int32} {cs : Cd} {k : Nat} (h : rnC (c :: cs) st.length = some k) : rnC cs (ev1 en c st).length = some k := by
  unfold rnC at h
  unfold ev1
  by_cases h3 : c.1 ≤ 3
  · rw [if_pos h3] at h
    have : c.1 = 0 ∨ c.1 = 1 ∨ c.1 = 2 ∨ c.1 = 3 := by omega
    rcases this with e | e | e | e <;> simp [e] <;> exact h
  · rw [if_neg h3] at h
    rw [if_neg (by omega), if_neg (by omega), if_neg (by omega), if_neg (by omega)]
    by_cases h10 : c.1 = 10
    · rw [if_pos h10] at h ⊢
      cases st with
      | nil => simp at h
      | cons x r => simpa using h
    · rw [if_neg h10] at h ⊢
      match st, h with
      | [], h => simp at h
      | [x], h => simp at h
      | y :: x :: r, h => simpa using h
theorem aWd_pos {A : Ab} {m v : Nat} (h : wfM A m) (hv : v < aVm A m) : 0 < aWd A m v ∧ aWd A m v ≤ 10 ∧ aWd A m v = aHi A m v - aLo A m v + 1 ∧ aLo A m v ≤ aHi A m v := by
  have := h.2.2.2.2.2.2.1 v hv
  unfold aWd
  omega
theorem aRs_le (A : Ab) (m s : Nat) : ∀ j, aRs A m s j ≤ s
  | 0 => Nat.le_refl _
  | j + 1 => Nat.le_trans (Nat.div_le_self _ _) (aRs_le A m s j)
theorem aVl_bd {A : Ab} {m v : Nat} (h : wfM A m) (hv : v < aVm A m) (s : Nat) : aLo A m v ≤ aVl A m s v ∧ aVl A m s v ≤ aHi A m v ∧ aVl A m s v ≤ 9 := by
  have h1 := aWd_pos h hv
  have h2 := h.2.2.2.2.2.2.1 v hv
  have h3 := Nat.mod_lt (aRs A m s (aVm A m - 1 - v)) h1.1
  unfold aVl
  omega
theorem aSo_bd {A : Ab} {m : Nat} (h : wfM A m) (f : Nat → Int32) : ∀ (j v n : Nat), v + j = aVm A m → n < aPr A m v → aSo A m f j v n = -2 ∨ ∃ k, k < aPr A m (aVm A m) ∧ aSo A m f j v n = nI k
  | 0, v, n, hj, hn => Or.inr ⟨n, by rw [← hj]; exact hn, rfl⟩
  | j + 1, v, n, hj, hn => by
    have h1 := aWd_pos h (v := v) (by omega)
    have h2 := h.2.2.2.2.2.2.1 v (by omega)
    unfold aSo
    split
    · rename_i hc
      refine aSo_bd h f j (v + 1) _ (by omega) ?_
      obtain ⟨c1, c2⟩ := hc
      have hx : ∃ x, x ≤ 9 ∧ f v = nI x := by
        have h0 : ¬ f v < 0 := fun q => by
          have := Int32.lt_of_lt_of_le q (nI_pos' (n := aLo A m v) (by omega))
          exact absurd (Int32.lt_of_le_of_lt c1 this) (Int32.lt_irrefl)
        obtain ⟨x, hx1, hx2⟩ := nI_of h0
        rw [hx2, nI_leI hx1 (by omega)] at c2
        exact ⟨x, by omega, hx2⟩
      obtain ⟨x, hx1, hx2⟩ := hx
      rw [hx2] at c1 c2 ⊢
      rw [nI_leI (by omega) (by omega)] at c1 c2
      rw [nI_clamp (by omega)]
      show _ < aPr A m v * aWd A m v
      have : (n + 1) * aWd A m v ≤ aPr A m v * aWd A m v := Nat.mul_le_mul_right _ hn
      rw [Nat.add_mul] at this
      omega
    · exact Or.inl rfl
theorem aBg_bd {A : Ab} {m : Nat} (h : wfM A m) : ∀ (j v n : Nat), v + j = aVm A m → n < aPr A m v → aBg A m j v n < aPr A m (aVm A m)
  | 0, v, n, hj, hn => by rw [← hj]; exact hn
  | j + 1, v, n, hj, hn => by
    have h1 := aWd_pos h (v := v) (by omega)
    have h2 := h.2.2.2.2.2.2.1 v (by omega)
    unfold aBg
    refine aBg_bd h j (v + 1) _ (by omega) ?_
    show _ < aPr A m v * aWd A m v
    have : (n + 1) * aWd A m v ≤ aPr A m v * aWd A m v := Nat.mul_le_mul_right _ hn
    rw [Nat.add_mul] at this
    omega
theorem aBe_bd {A : Ab} {m : Nat} (h : wfM A m) : aBe A m < aSz A m := by
  rw [h.2.2.2.2.1]
  exact aBg_bd h _ 0 0 (by omega) (by show 0 < 1; omega)
theorem aGv_bd {A : Ab} {m : Nat} (h : wfM A m) (e s p : Nat) : aGv A m e s p = -2 ∨ ∃ k, k < aSz A m ∧ aGv A m e s p = nI k := by
  rw [h.2.2.2.2.1]
  exact aSo_bd h _ _ 0 0 (by omega) (by show 0 < 1; omega)
theorem bI_and (b : Bool) : bI b &&& 1 = bI b := by cases b <;> decide
theorem bI_0 (b : Bool) : bI b = 0 ↔ b = false := by cases b <;> decide
