/-! LONG.BITCOUNT -/
def mkM (c : Nat) : Nat → Nat
  | 0 => 0
  | k + 1 => c + 256 * mkM c k
theorem and_lane {x y c d : Nat} (hx : x < 256) (hc : c < 256) : (x + 256 * y) &&& (c + 256 * d) = (x &&& c) + 256 * (y &&& d) := by
  have hxc : x &&& c < 2 ^ 8 := Nat.lt_of_le_of_lt Nat.and_le_left hx
  apply Nat.eq_of_testBit_eq
  intro i
  rw [Nat.testBit_and, Nat.add_comm x, Nat.add_comm c, Nat.add_comm (x &&& c), show 256 = 2 ^ 8 from rfl, Nat.testBit_two_pow_mul_add _ hx, Nat.testBit_two_pow_mul_add _ hc, Nat.testBit_two_pow_mul_add _ hxc]
  split
  · rw [Nat.testBit_and]
  · rw [Nat.testBit_and]
def l1 (k n : Nat) : Nat := n - ((n / 2) &&& mkM 85 k)
def l2 (k n : Nat) : Nat := (n &&& mkM 51 k) + ((n / 4) &&& mkM 51 k)
def l3 (k n : Nat) : Nat := (n + n / 16) &&& mkM 15 k
def pc8 (a : Nat) : Nat := cntF (fun i => a.testBit i) 8
def y1 (a : Nat) : Nat := a - ((a / 2) &&& 85)
def y2 (a : Nat) : Nat := (a &&& 51) + ((a / 4) &&& 51)
theorem f1 : ∀ a, a < 256 → ∀ c, c < 2 → (a / 2 + 128 * c) &&& 85 = (a / 2) &&& 85 ∧ (a / 2) &&& 85 ≤ a := by decide +kernel
theorem f2 : ∀ a, a < 256 → ∀ c, c < 4 → (a / 4 + 64 * c) &&& 51 = (a / 4) &&& 51 := by decide +kernel
theorem f2b : ∀ a, a < 256 → y2 a % 16 ≤ 4 ∧ y2 a / 16 ≤ 6 := by decide +kernel
theorem f3 : ∀ a, a < 256 → y2 (y1 a) % 16 ≤ 4 ∧ y2 (y1 a) / 16 ≤ 4 ∧ y2 (y1 a) % 16 + y2 (y1 a) / 16 = pc8 a := by decide +kernel
theorem l1_lane {k a b : Nat} (ha : a < 256) (hb : (b / 2) &&& mkM 85 k ≤ b) : l1 (k + 1) (a + 256 * b) = y1 a + 256 * l1 k b ∧ ((a + 256 * b) / 2) &&& mkM 85 (k + 1) ≤ a + 256 * b := by
  have h2 := f1 a ha (b % 2) (Nat.mod_lt _ (by decide))
  have e : (a + 256 * b) / 2 = (a / 2 + 128 * (b % 2)) + 256 * (b / 2) := by omega
  have e2 : ((a + 256 * b) / 2) &&& mkM 85 (k + 1) = ((a / 2) &&& 85) + 256 * ((b / 2) &&& mkM 85 k) := by
    rw [e]
    show _ &&& (85 + 256 * mkM 85 k) = _
    rw [and_lane (by omega) (by decide), h2.1]
  unfold l1 y1
  rw [e2]
  have h3 := h2.2
  omega
theorem l2_lane {k a b : Nat} (ha : a < 256) : l2 (k + 1) (a + 256 * b) = y2 a + 256 * l2 k b := by
  have h2 := f2 a ha (b % 4) (Nat.mod_lt _ (by decide))
  have e : (a + 256 * b) / 4 = (a / 4 + 64 * (b % 4)) + 256 * (b / 4) := by omega
  unfold l2 y2
  rw [e]
  show (_ &&& (51 + 256 * mkM 51 k)) + (_ &&& (51 + 256 * mkM 51 k)) = _
  rw [and_lane ha (by decide), and_lane (by omega) (by decide), h2]
  omega
theorem and15 (x : Nat) : x &&& 15 = x % 16 := Nat.and_two_pow_sub_one_eq_mod x 4
theorem l3_lane {k a b : Nat} (h1 : a % 16 ≤ 4) (h2 : a / 16 ≤ 4) (h3 : b % 16 ≤ 4) : l3 (k + 1) (a + 256 * b) = (a % 16 + a / 16) + 256 * l3 k b := by
  unfold l3
  have e : a + 256 * b + (a + 256 * b) / 16 = (a + a / 16 + 16 * (b % 16)) + 256 * (b + b / 16) := by omega
  rw [e]
  show _ &&& (15 + 256 * mkM 15 k) = _
  rw [and_lane (by omega) (by decide), and15]
  omega
/-- the bytes' counts, a byte each -/
def bcB : Nat → Nat → Nat
  | 0, _ => 0
  | k + 1, n => pc8 (n % 256) + 256 * bcB k (n / 256)
theorem l_all : ∀ (k n : Nat), n < 256 ^ k → ((n / 2) &&& mkM 85 k ≤ n) ∧ (l2 k (l1 k n)) % 16 ≤ 4 ∧ l3 k (l2 k (l1 k n)) = bcB k n
  | 0, n, h => by
    have : n = 0 := by simpa using h
    subst this
    exact ⟨by decide, by decide, by decide⟩
  | k + 1, n, h => by
    have ha : n % 256 < 256 := Nat.mod_lt _ (by decide)
    have hb : n / 256 < 256 ^ k := by
      rw [Nat.pow_succ] at h
      exact Nat.div_lt_of_lt_mul (by rw [Nat.mul_comm]; exact h)
    obtain ⟨i1, i2, i3⟩ := l_all k (n / 256) hb
    have e : n = n % 256 + 256 * (n / 256) := by omega
    have g1 := l1_lane (k := k) ha i1
    rw [← e] at g1
    have hy1 : y1 (n % 256) < 256 := by unfold y1; omega
    have g2 := l2_lane (k := k) (b := l1 k (n / 256)) hy1
    have g3 := f3 (n % 256) ha
    refine ⟨g1.2, ?_, ?_⟩
    · rw [g1.1, g2]
      omega
    · rw [g1.1, g2, l3_lane g3.1 g3.2.1 i2, g3.2.2, i3]
      rfl
theorem pc8_le (a : Nat) : pc8 a ≤ 8 := cntF_le _ 8
theorem cntF_add (g : Nat → Bool) (j : Nat) : ∀ k, cntF g (j + k) = cntF g j + cntF (fun i => g (j + i)) k
  | 0 => rfl
  | k + 1 => by
    show cntF g (j + k) + (if g (j + k) = true then 1 else 0) = cntF g j + (cntF (fun i => g (j + i)) k + (if g (j + k) = true then 1 else 0))
    rw [cntF_add g j k, Nat.add_assoc]
theorem pc_byte (n : Nat) (k : Nat) : cntF (fun i => n.testBit i) (8 + k) = pc8 (n % 256) + cntF (fun i => (n / 256).testBit i) k := by
  rw [cntF_add]
  congr 1
  · unfold pc8
    refine cntF_ext fun i hi => ?_
    rw [show 256 = 2 ^ 8 from rfl, Nat.testBit_mod_two_pow, decide_eq_true hi, Bool.true_and]
  · refine cntF_ext fun i _ => ?_
    rw [show 256 = 2 ^ 8 from rfl, Nat.testBit_div_two_pow, Nat.add_comm]
theorem bc_sum (n : Nat) : ∃ p0 p1 p2 p3 p4 p5 p6 p7 : Nat, p0 ≤ 8 ∧ p1 ≤ 8 ∧ p2 ≤ 8 ∧ p3 ≤ 8 ∧ p4 ≤ 8 ∧ p5 ≤ 8 ∧ p6 ≤ 8 ∧ p7 ≤ 8 ∧ bcB 8 n = p0 + 256 * p1 + 65536 * p2 + 16777216 * p3 + 4294967296 * p4 + 1099511627776 * p5 + 281474976710656 * p6 + 72057594037927936 * p7 ∧
    cntF (fun i => n.testBit i) 64 = p0 + p1 + p2 + p3 + p4 + p5 + p6 + p7 := by
  refine ⟨pc8 (n % 256), pc8 (n / 256 % 256), pc8 (n / 256 / 256 % 256), pc8 (n / 256 / 256 / 256 % 256), pc8 (n / 256 / 256 / 256 / 256 % 256), pc8 (n / 256 / 256 / 256 / 256 / 256 % 256), pc8 (n / 256 / 256 / 256 / 256 / 256 / 256 % 256), pc8 (n / 256 / 256 / 256 / 256 / 256 / 256 / 256 % 256), pc8_le _, pc8_le _, pc8_le _, pc8_le _, pc8_le _, pc8_le _, pc8_le _, pc8_le _, ?_, ?_⟩
  · simp only [bcB]
    omega
  · rw [show 64 = 8 + 56 from rfl, pc_byte, show 56 = 8 + 48 from rfl, pc_byte, show 48 = 8 + 40 from rfl, pc_byte, show 40 = 8 + 32 from rfl, pc_byte, show 32 = 8 + 24 from rfl, pc_byte, show 24 = 8 + 16 from rfl, pc_byte, show 16 = 8 + 8 from rfl, pc_byte, show cntF _ 8 = cntF _ (8 + 0) from rfl, pc_byte]
    show _ + (_ + (_ + (_ + (_ + (_ + (_ + (_ + 0))))))) = _
    omega
theorem bc_fin {n3 p0 p1 p2 p3 p4 p5 p6 p7 : Nat} (h0 : p0 ≤ 8) (h1 : p1 ≤ 8) (h2 : p2 ≤ 8) (h3 : p3 ≤ 8) (h4 : p4 ≤ 8) (h5 : p5 ≤ 8) (h6 : p6 ≤ 8) (h7 : p7 ≤ 8) (e : n3 = p0 + 256 * p1 + 65536 * p2 + 16777216 * p3 + 4294967296 * p4 + 1099511627776 * p5 + 281474976710656 * p6 + 72057594037927936 * p7) :
    n3 < 2 ^ 60 ∧ (n3 + n3 / 256 + (n3 + n3 / 256) / 65536 + (n3 + n3 / 256 + (n3 + n3 / 256) / 65536) / 4294967296) % 128 = p0 + p1 + p2 + p3 + p4 + p5 + p6 + p7 := by
  have e1 : n3 / 256 = p1 + 256 * p2 + 65536 * p3 + 16777216 * p4 + 4294967296 * p5 + 1099511627776 * p6 + 281474976710656 * p7 := by omega
  have e2 : n3 + n3 / 256 = (p0 + p1) + 256 * (p1 + p2) + 65536 * (p2 + p3) + 16777216 * (p3 + p4) + 4294967296 * (p4 + p5) + 1099511627776 * (p5 + p6) + 281474976710656 * (p6 + p7) + 72057594037927936 * p7 := by omega
  have e3 : (n3 + n3 / 256) / 65536 = (p2 + p3) + 256 * (p3 + p4) + 65536 * (p4 + p5) + 16777216 * (p5 + p6) + 4294967296 * (p6 + p7) + 1099511627776 * p7 := by omega
  have e4 : n3 + n3 / 256 + (n3 + n3 / 256) / 65536 = (p0 + p1 + p2 + p3) + 256 * (p1 + p2 + p3 + p4) + 65536 * (p2 + p3 + p4 + p5) + 16777216 * (p3 + p4 + p5 + p6) + 4294967296 * (p4 + p5 + p6 + p7) + 1099511627776 * (p5 + p6 + p7) + 281474976710656 * (p6 + p7) + 72057594037927936 * p7 := by omega
  have e5 : (n3 + n3 / 256 + (n3 + n3 / 256) / 65536) / 4294967296 = (p4 + p5 + p6 + p7) + 256 * (p5 + p6 + p7) + 65536 * (p6 + p7) + 16777216 * p7 := by omega
  omega
