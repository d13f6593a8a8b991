/-! LAYER 2: nothing of the machine is left here. Laws of the three tables -/
theorem gI_pI (h : Hp) (a k : Nat) (v : Int32) (b j : Nat) : gI (pI h a k v) b j = if b = a ∧ j = k then v else gI h b j := by
  unfold gI pI
  by_cases hb : b = a
  · subst hb
    simp [u2]
  · simp [u2, hb]
theorem gJ_pJ (h : Hp) (a k : Nat) (v : Int64) (b j : Nat) : gJ (pJ h a k v) b j = if b = a ∧ j = k then v else gJ h b j := by
  unfold gJ pJ
  by_cases hb : b = a
  · subst hb
    simp [u2]
  · simp [u2, hb]
theorem gR_pR (h : Hp) (a k : Nat) (v : Nat) (b j : Nat) : gR (pR h a k v) b j = if b = a ∧ j = k then v else gR h b j := by
  unfold gR pR
  by_cases hb : b = a
  · subst hb
    simp [u2]
  · simp [u2, hb]
theorem gI_pJ (h : Hp) (a k : Nat) (v : Int64) (b j : Nat) : gI (pJ h a k v) b j = gI h b j := rfl
theorem gI_pR (h : Hp) (a k : Nat) (v : Nat) (b j : Nat) : gI (pR h a k v) b j = gI h b j := rfl
theorem gJ_pI (h : Hp) (a k : Nat) (v : Int32) (b j : Nat) : gJ (pI h a k v) b j = gJ h b j := rfl
theorem gJ_pR (h : Hp) (a k : Nat) (v : Nat) (b j : Nat) : gJ (pR h a k v) b j = gJ h b j := rfl
theorem gR_pI (h : Hp) (a k : Nat) (v : Int32) (b j : Nat) : gR (pI h a k v) b j = gR h b j := rfl
theorem gR_pJ (h : Hp) (a k : Nat) (v : Int64) (b j : Nat) : gR (pJ h a k v) b j = gR h b j := rfl
/-- the cells of a kind are as they were -/
def Sm (p : Nat → Prop) (h h' : Hp) : Prop := ∀ a, p a → h'.1 a = h.1 a ∧ h'.2.1 a = h.2.1 a ∧ h'.2.2 a = h.2.2 a
theorem Sm.rf {p : Nat → Prop} {h : Hp} : Sm p h h := fun _ _ => ⟨rfl, rfl, rfl⟩
theorem Sm.tr {p : Nat → Prop} {h1 h2 h3 : Hp} (a : Sm p h1 h2) (b : Sm p h2 h3) : Sm p h1 h3 := fun q hq => ⟨(b q hq).1.trans (a q hq).1, (b q hq).2.1.trans (a q hq).2.1, (b q hq).2.2.trans (a q hq).2.2⟩
theorem Sm.mono {p q : Nat → Prop} {h1 h2 : Hp} (a : Sm p h1 h2) (hq : ∀ x, q x → p x) : Sm q h1 h2 := fun x hx => a x (hq x hx)
theorem Sm.I {p : Nat → Prop} {h h' : Hp} (s : Sm p h h') {a : Nat} (ha : p a) (k : Nat) : gI h' a k = gI h a k := congrFun (s a ha).1 k
theorem Sm.J {p : Nat → Prop} {h h' : Hp} (s : Sm p h h') {a : Nat} (ha : p a) (k : Nat) : gJ h' a k = gJ h a k := congrFun (s a ha).2.1 k
theorem Sm.R {p : Nat → Prop} {h h' : Hp} (s : Sm p h h') {a : Nat} (ha : p a) (k : Nat) : gR h' a k = gR h a k := congrFun (s a ha).2.2 k
theorem Sm.pI {p : Nat → Prop} {h h' : Hp} (s : Sm p h h') {a : Nat} (ha : ¬ p a) (k : Nat) (v : Int32) : Sm p h (pI h' a k v) := fun q hq => by
  have hn : q ≠ a := fun e => ha (e ▸ hq)
  exact ⟨(u2_ne _ _ _ _ hn).trans (s q hq).1, (s q hq).2⟩
theorem Sm.pJ {p : Nat → Prop} {h h' : Hp} (s : Sm p h h') {a : Nat} (ha : ¬ p a) (k : Nat) (v : Int64) : Sm p h (pJ h' a k v) := fun q hq => by
  have hn : q ≠ a := fun e => ha (e ▸ hq)
  exact ⟨(s q hq).1, (u2_ne _ _ _ _ hn).trans (s q hq).2.1, (s q hq).2.2⟩
theorem Sm.pR {p : Nat → Prop} {h h' : Hp} (s : Sm p h h') {a : Nat} (ha : ¬ p a) (k : Nat) (v : Nat) : Sm p h (pR h' a k v) := fun q hq => by
  have hn : q ≠ a := fun e => ha (e ▸ hq)
  exact ⟨(s q hq).1, (s q hq).2.1, (u2_ne _ _ _ _ hn).trans (s q hq).2.2⟩
theorem inA_of {S : Sh} {a t N i : Nat} (hs : S a = (t, N)) (hi : i < N) (hN : N < 2 ^ 31) : inA S a t (nI i) := ⟨by rw [hs], by rw [hs]; exact vp_in_nI hi hN⟩
theorem ix_nI {i : Nat} (h : i < 2 ^ 31) : ix (nI i) = i := nI_clamp h
theorem nI_mul (a b : Nat) : nI a * nI b = nI (a * b) := (Int32.ofNat_mul a b).symm
theorem nI_sub {a b : Nat} (h : b ≤ a) : nI a - nI b = nI (a - b) := by
  have e : nI a = nI (a - b) + nI b := by rw [nI_add]; congr 1; omega
  rw [e]
  simp
theorem nI_dec {a : Nat} (h : 0 < a) : nI a + (-1) = nI (a - 1) := by
  have e : nI a = nI (a - 1) + 1 := by rw [nI_1]; congr 1; omega
  rw [e]
  generalize nI (a - 1) = x
  rw [Int32.add_assoc]
  simp
/-- where the reference r has its rows -/
def RR (h : Hp) (r : Nat) : Prop := gR h r 3 = r + 1 ∧ gR h r 14 = r + 2 ∧ gR h r 15 = r + 3 ∧ gR h r 16 = r + 4 ∧ gR h r 17 = r + 5 ∧ gR h r 18 = r + 6 ∧ gR h r 19 = r + 7 ∧ gR h r 20 = r + 8 ∧ gR h r 21 = r + 9 ∧ gR h r 22 = r + 10 ∧ gR h r 23 = r + 11 ∧ gR h r 24 = r + 12 ∧ gR h r 25 = r + 13 ∧ gR h r 26 = r + 14 ∧ gR h r 27 = r + 15 ∧ gR h r 28 = r + 16 ∧ gR h r 29 = r + 17 ∧ gR h r 30 = r + 18 ∧ gR h r 31 = r + 19 ∧ gR h r 32 = r + 20 ∧ gR h r 33 = r + 21 ∧ gR h r 34 = r + 22 ∧ gR h r 35 = r + 23 ∧ gR h r 36 = r + 24 ∧ gR h r 39 = r + 25 ∧ gR h r 40 = r + 26 ∧ gR h r 46 = r + 27 ∧ gR h r 47 = r + 28 ∧ gR h r 48 = r + 29 ∧ gR h r 54 = r + 30 ∧ gR h r 59 = r + 31 ∧ gR h r 60 = r + 32 ∧ gR h r 62 = r + 33 ∧ gR h r 63 = r + 34
def RS (S : Sh) (r : Nat) : Prop := (S r).1 = 13 ∧ S (r + 1) = (20, 600) ∧ S (r + 2) = (23, 6) ∧ S (r + 3) = (23, 18) ∧ S (r + 4) = (23, 24) ∧ S (r + 5) = (20, 6) ∧ S (r + 6) = (20, 6) ∧ S (r + 7) = (20, 6) ∧ S (r + 8) = (20, 6) ∧ S (r + 9) = (20, 6) ∧ S (r + 10) = (20, 6) ∧ S (r + 11) = (20, 18) ∧ S (r + 12) = (20, 18) ∧ S (r + 13) = (20, 18) ∧ S (r + 14) = (20, 24) ∧ S (r + 15) = (20, 24) ∧ S (r + 16) = (20, 24) ∧ S (r + 17) = (20, 24) ∧ S (r + 18) = (20, 24) ∧ S (r + 19) = (20, 24) ∧ S (r + 20) = (20, 24) ∧ S (r + 21) = (20, 24) ∧ S (r + 22) = (20, 72) ∧ S (r + 23) = (20, 72) ∧ S (r + 24) = (22, 24) ∧ S (r + 25) = (20, 1400) ∧ S (r + 26) = (20, 1400) ∧ S (r + 27) = (20, 700) ∧ S (r + 28) = (22, 300) ∧ S (r + 29) = (22, 20000) ∧ S (r + 30) = (20, 200) ∧ S (r + 31) = (22, 100) ∧ S (r + 32) = (22, 100) ∧ S (r + 33) = (20, 100) ∧ S (r + 34) = (20, 100)
theorem RR.tape {h : Hp} {r : Nat} (H : RR h r) : gR h r 3 = r + 1 := H.1
theorem RS.tape {S : Sh} {r : Nat} (H : RS S r) {i : Nat} (hi : i < 600) : inA S (r + 1) 20 (nI i) := inA_of H.2.1 hi (by decide)
theorem RR.machineName {h : Hp} {r : Nat} (H : RR h r) : gR h r 14 = r + 2 := H.2.1
theorem RS.machineName {S : Sh} {r : Nat} (H : RS S r) {i : Nat} (hi : i < 6) : inA S (r + 2) 23 (nI i) := inA_of H.2.2.1 hi (by decide)
theorem RR.varName {h : Hp} {r : Nat} (H : RR h r) : gR h r 15 = r + 3 := H.2.2.1
theorem RS.varName {S : Sh} {r : Nat} (H : RS S r) {i : Nat} (hi : i < 18) : inA S (r + 3) 23 (nI i) := inA_of H.2.2.2.1 hi (by decide)
theorem RR.eventName {h : Hp} {r : Nat} (H : RR h r) : gR h r 16 = r + 4 := H.2.2.2.1
theorem RS.eventName {S : Sh} {r : Nat} (H : RS S r) {i : Nat} (hi : i < 24) : inA S (r + 4) 23 (nI i) := inA_of H.2.2.2.2.1 hi (by decide)
theorem RR.varMany {h : Hp} {r : Nat} (H : RR h r) : gR h r 17 = r + 5 := H.2.2.2.2.1
theorem RS.varMany {S : Sh} {r : Nat} (H : RS S r) {i : Nat} (hi : i < 6) : inA S (r + 5) 20 (nI i) := inA_of H.2.2.2.2.2.1 hi (by decide)
theorem RR.lawMany {h : Hp} {r : Nat} (H : RR h r) : gR h r 18 = r + 6 := H.2.2.2.2.2.1
theorem RS.lawMany {S : Sh} {r : Nat} (H : RS S r) {i : Nat} (hi : i < 6) : inA S (r + 6) 20 (nI i) := inA_of H.2.2.2.2.2.2.1 hi (by decide)
theorem RR.eventMany {h : Hp} {r : Nat} (H : RR h r) : gR h r 19 = r + 7 := H.2.2.2.2.2.2.1
theorem RS.eventMany {S : Sh} {r : Nat} (H : RS S r) {i : Nat} (hi : i < 6) : inA S (r + 7) 20 (nI i) := inA_of H.2.2.2.2.2.2.2.1 hi (by decide)
theorem RR.sizes {h : Hp} {r : Nat} (H : RR h r) : gR h r 20 = r + 8 := H.2.2.2.2.2.2.2.1
theorem RS.sizes {S : Sh} {r : Nat} (H : RS S r) {i : Nat} (hi : i < 6) : inA S (r + 8) 20 (nI i) := inA_of H.2.2.2.2.2.2.2.2.1 hi (by decide)
theorem RR.variantFrom {h : Hp} {r : Nat} (H : RR h r) : gR h r 21 = r + 9 := H.2.2.2.2.2.2.2.2.1
theorem RS.variantFrom {S : Sh} {r : Nat} (H : RS S r) {i : Nat} (hi : i < 6) : inA S (r + 9) 20 (nI i) := inA_of H.2.2.2.2.2.2.2.2.2.1 hi (by decide)
theorem RR.variantTo {h : Hp} {r : Nat} (H : RR h r) : gR h r 22 = r + 10 := H.2.2.2.2.2.2.2.2.2.1
theorem RS.variantTo {S : Sh} {r : Nat} (H : RS S r) {i : Nat} (hi : i < 6) : inA S (r + 10) 20 (nI i) := inA_of H.2.2.2.2.2.2.2.2.2.2.1 hi (by decide)
theorem RR.varLow {h : Hp} {r : Nat} (H : RR h r) : gR h r 23 = r + 11 := H.2.2.2.2.2.2.2.2.2.2.1
theorem RS.varLow {S : Sh} {r : Nat} (H : RS S r) {i : Nat} (hi : i < 18) : inA S (r + 11) 20 (nI i) := inA_of H.2.2.2.2.2.2.2.2.2.2.2.1 hi (by decide)
theorem RR.varHigh {h : Hp} {r : Nat} (H : RR h r) : gR h r 24 = r + 12 := H.2.2.2.2.2.2.2.2.2.2.2.1
theorem RS.varHigh {S : Sh} {r : Nat} (H : RS S r) {i : Nat} (hi : i < 18) : inA S (r + 12) 20 (nI i) := inA_of H.2.2.2.2.2.2.2.2.2.2.2.2.1 hi (by decide)
theorem RR.varAt {h : Hp} {r : Nat} (H : RR h r) : gR h r 25 = r + 13 := H.2.2.2.2.2.2.2.2.2.2.2.2.1
theorem RS.varAt {S : Sh} {r : Nat} (H : RS S r) {i : Nat} (hi : i < 18) : inA S (r + 13) 20 (nI i) := inA_of H.2.2.2.2.2.2.2.2.2.2.2.2.2.1 hi (by decide)
theorem RR.lawFrom {h : Hp} {r : Nat} (H : RR h r) : gR h r 26 = r + 14 := H.2.2.2.2.2.2.2.2.2.2.2.2.2.1
theorem RS.lawFrom {S : Sh} {r : Nat} (H : RS S r) {i : Nat} (hi : i < 24) : inA S (r + 14) 20 (nI i) := inA_of H.2.2.2.2.2.2.2.2.2.2.2.2.2.2.1 hi (by decide)
theorem RR.lawTo {h : Hp} {r : Nat} (H : RR h r) : gR h r 27 = r + 15 := H.2.2.2.2.2.2.2.2.2.2.2.2.2.2.1
theorem RS.lawTo {S : Sh} {r : Nat} (H : RS S r) {i : Nat} (hi : i < 24) : inA S (r + 15) 20 (nI i) := inA_of H.2.2.2.2.2.2.2.2.2.2.2.2.2.2.2.1 hi (by decide)
theorem RR.eventOf {h : Hp} {r : Nat} (H : RR h r) : gR h r 28 = r + 16 := H.2.2.2.2.2.2.2.2.2.2.2.2.2.2.2.1
theorem RS.eventOf {S : Sh} {r : Nat} (H : RS S r) {i : Nat} (hi : i < 24) : inA S (r + 16) 20 (nI i) := inA_of H.2.2.2.2.2.2.2.2.2.2.2.2.2.2.2.2.1 hi (by decide)
theorem RR.firstPick {h : Hp} {r : Nat} (H : RR h r) : gR h r 29 = r + 17 := H.2.2.2.2.2.2.2.2.2.2.2.2.2.2.2.2.1
theorem RS.firstPick {S : Sh} {r : Nat} (H : RS S r) {i : Nat} (hi : i < 24) : inA S (r + 17) 20 (nI i) := inA_of H.2.2.2.2.2.2.2.2.2.2.2.2.2.2.2.2.2.1 hi (by decide)
theorem RR.lastPick {h : Hp} {r : Nat} (H : RR h r) : gR h r 30 = r + 18 := H.2.2.2.2.2.2.2.2.2.2.2.2.2.2.2.2.2.1
theorem RS.lastPick {S : Sh} {r : Nat} (H : RS S r) {i : Nat} (hi : i < 24) : inA S (r + 18) 20 (nI i) := inA_of H.2.2.2.2.2.2.2.2.2.2.2.2.2.2.2.2.2.2.1 hi (by decide)
theorem RR.guardFrom {h : Hp} {r : Nat} (H : RR h r) : gR h r 31 = r + 19 := H.2.2.2.2.2.2.2.2.2.2.2.2.2.2.2.2.2.2.1
theorem RS.guardFrom {S : Sh} {r : Nat} (H : RS S r) {i : Nat} (hi : i < 24) : inA S (r + 19) 20 (nI i) := inA_of H.2.2.2.2.2.2.2.2.2.2.2.2.2.2.2.2.2.2.2.1 hi (by decide)
theorem RR.guardTo {h : Hp} {r : Nat} (H : RR h r) : gR h r 32 = r + 20 := H.2.2.2.2.2.2.2.2.2.2.2.2.2.2.2.2.2.2.2.1
theorem RS.guardTo {S : Sh} {r : Nat} (H : RS S r) {i : Nat} (hi : i < 24) : inA S (r + 20) 20 (nI i) := inA_of H.2.2.2.2.2.2.2.2.2.2.2.2.2.2.2.2.2.2.2.2.1 hi (by decide)
theorem RR.givenBits {h : Hp} {r : Nat} (H : RR h r) : gR h r 33 = r + 21 := H.2.2.2.2.2.2.2.2.2.2.2.2.2.2.2.2.2.2.2.2.1
theorem RS.givenBits {S : Sh} {r : Nat} (H : RS S r) {i : Nat} (hi : i < 24) : inA S (r + 21) 20 (nI i) := inA_of H.2.2.2.2.2.2.2.2.2.2.2.2.2.2.2.2.2.2.2.2.2.1 hi (by decide)
theorem RR.sumFrom {h : Hp} {r : Nat} (H : RR h r) : gR h r 34 = r + 22 := H.2.2.2.2.2.2.2.2.2.2.2.2.2.2.2.2.2.2.2.2.2.1
theorem RS.sumFrom {S : Sh} {r : Nat} (H : RS S r) {i : Nat} (hi : i < 72) : inA S (r + 22) 20 (nI i) := inA_of H.2.2.2.2.2.2.2.2.2.2.2.2.2.2.2.2.2.2.2.2.2.2.1 hi (by decide)
theorem RR.sumTo {h : Hp} {r : Nat} (H : RR h r) : gR h r 35 = r + 23 := H.2.2.2.2.2.2.2.2.2.2.2.2.2.2.2.2.2.2.2.2.2.2.1
theorem RS.sumTo {S : Sh} {r : Nat} (H : RS S r) {i : Nat} (hi : i < 72) : inA S (r + 23) 20 (nI i) := inA_of H.2.2.2.2.2.2.2.2.2.2.2.2.2.2.2.2.2.2.2.2.2.2.2.1 hi (by decide)
theorem RR.isAside {h : Hp} {r : Nat} (H : RR h r) : gR h r 36 = r + 24 := H.2.2.2.2.2.2.2.2.2.2.2.2.2.2.2.2.2.2.2.2.2.2.2.1
theorem RS.isAside {S : Sh} {r : Nat} (H : RS S r) {i : Nat} (hi : i < 24) : inA S (r + 24) 22 (nI i) := inA_of H.2.2.2.2.2.2.2.2.2.2.2.2.2.2.2.2.2.2.2.2.2.2.2.2.1 hi (by decide)
theorem RR.what {h : Hp} {r : Nat} (H : RR h r) : gR h r 39 = r + 25 := H.2.2.2.2.2.2.2.2.2.2.2.2.2.2.2.2.2.2.2.2.2.2.2.2.1
theorem RS.what {S : Sh} {r : Nat} (H : RS S r) {i : Nat} (hi : i < 1400) : inA S (r + 25) 20 (nI i) := inA_of H.2.2.2.2.2.2.2.2.2.2.2.2.2.2.2.2.2.2.2.2.2.2.2.2.2.1 hi (by decide)
theorem RR.which {h : Hp} {r : Nat} (H : RR h r) : gR h r 40 = r + 26 := H.2.2.2.2.2.2.2.2.2.2.2.2.2.2.2.2.2.2.2.2.2.2.2.2.2.1
theorem RS.which {S : Sh} {r : Nat} (H : RS S r) {i : Nat} (hi : i < 1400) : inA S (r + 26) 20 (nI i) := inA_of H.2.2.2.2.2.2.2.2.2.2.2.2.2.2.2.2.2.2.2.2.2.2.2.2.2.2.1 hi (by decide)
theorem RR.pile {h : Hp} {r : Nat} (H : RR h r) : gR h r 46 = r + 27 := H.2.2.2.2.2.2.2.2.2.2.2.2.2.2.2.2.2.2.2.2.2.2.2.2.2.2.1
theorem RS.pile {S : Sh} {r : Nat} (H : RS S r) {i : Nat} (hi : i < 700) : inA S (r + 27) 20 (nI i) := inA_of H.2.2.2.2.2.2.2.2.2.2.2.2.2.2.2.2.2.2.2.2.2.2.2.2.2.2.2.1 hi (by decide)
theorem RR.isSound {h : Hp} {r : Nat} (H : RR h r) : gR h r 47 = r + 28 := H.2.2.2.2.2.2.2.2.2.2.2.2.2.2.2.2.2.2.2.2.2.2.2.2.2.2.2.1
theorem RS.isSound {S : Sh} {r : Nat} (H : RS S r) {i : Nat} (hi : i < 300) : inA S (r + 28) 22 (nI i) := inA_of H.2.2.2.2.2.2.2.2.2.2.2.2.2.2.2.2.2.2.2.2.2.2.2.2.2.2.2.2.1 hi (by decide)
theorem RR.isGlued {h : Hp} {r : Nat} (H : RR h r) : gR h r 48 = r + 29 := H.2.2.2.2.2.2.2.2.2.2.2.2.2.2.2.2.2.2.2.2.2.2.2.2.2.2.2.2.1
theorem RS.isGlued {S : Sh} {r : Nat} (H : RS S r) {i : Nat} (hi : i < 20000) : inA S (r + 29) 22 (nI i) := inA_of H.2.2.2.2.2.2.2.2.2.2.2.2.2.2.2.2.2.2.2.2.2.2.2.2.2.2.2.2.2.1 hi (by decide)
theorem RR.ink {h : Hp} {r : Nat} (H : RR h r) : gR h r 54 = r + 30 := H.2.2.2.2.2.2.2.2.2.2.2.2.2.2.2.2.2.2.2.2.2.2.2.2.2.2.2.2.2.1
theorem RS.ink {S : Sh} {r : Nat} (H : RS S r) {i : Nat} (hi : i < 200) : inA S (r + 30) 20 (nI i) := inA_of H.2.2.2.2.2.2.2.2.2.2.2.2.2.2.2.2.2.2.2.2.2.2.2.2.2.2.2.2.2.2.1 hi (by decide)
theorem RR.isBeside {h : Hp} {r : Nat} (H : RR h r) : gR h r 59 = r + 31 := H.2.2.2.2.2.2.2.2.2.2.2.2.2.2.2.2.2.2.2.2.2.2.2.2.2.2.2.2.2.2.1
theorem RS.isBeside {S : Sh} {r : Nat} (H : RS S r) {i : Nat} (hi : i < 100) : inA S (r + 31) 22 (nI i) := inA_of H.2.2.2.2.2.2.2.2.2.2.2.2.2.2.2.2.2.2.2.2.2.2.2.2.2.2.2.2.2.2.2.1 hi (by decide)
theorem RR.wasBeside {h : Hp} {r : Nat} (H : RR h r) : gR h r 60 = r + 32 := H.2.2.2.2.2.2.2.2.2.2.2.2.2.2.2.2.2.2.2.2.2.2.2.2.2.2.2.2.2.2.2.1
theorem RS.wasBeside {S : Sh} {r : Nat} (H : RS S r) {i : Nat} (hi : i < 100) : inA S (r + 32) 22 (nI i) := inA_of H.2.2.2.2.2.2.2.2.2.2.2.2.2.2.2.2.2.2.2.2.2.2.2.2.2.2.2.2.2.2.2.2.1 hi (by decide)
theorem RR.far {h : Hp} {r : Nat} (H : RR h r) : gR h r 62 = r + 33 := H.2.2.2.2.2.2.2.2.2.2.2.2.2.2.2.2.2.2.2.2.2.2.2.2.2.2.2.2.2.2.2.2.1
theorem RS.far {S : Sh} {r : Nat} (H : RS S r) {i : Nat} (hi : i < 100) : inA S (r + 33) 20 (nI i) := inA_of H.2.2.2.2.2.2.2.2.2.2.2.2.2.2.2.2.2.2.2.2.2.2.2.2.2.2.2.2.2.2.2.2.2.1 hi (by decide)
theorem RR.queue {h : Hp} {r : Nat} (H : RR h r) : gR h r 63 = r + 34 := H.2.2.2.2.2.2.2.2.2.2.2.2.2.2.2.2.2.2.2.2.2.2.2.2.2.2.2.2.2.2.2.2.2
theorem RS.queue {S : Sh} {r : Nat} (H : RS S r) {i : Nat} (hi : i < 100) : inA S (r + 34) 20 (nI i) := inA_of H.2.2.2.2.2.2.2.2.2.2.2.2.2.2.2.2.2.2.2.2.2.2.2.2.2.2.2.2.2.2.2.2.2.2 hi (by decide)
theorem RR.of {h h1 : Hp} {r : Nat} (H : RR h r) (e : ∀ k, gR h1 r k = gR h r k) : RR h1 r := by
  unfold RR at H ⊢
  simp only [e]
  exact H
/-- where the class at z has its parts; its models lie at z + 20 and z + 461 -/
def CR (h : Hp) (z : Nat) : Prop := gR h z 0 = z + 1 ∧ gR h z 1 = z + 2 ∧ gR h z 2 = z + 9 ∧ gR h z 3 = z + 11 ∧ gR h z 4 = z + 14 ∧ gR h z 5 = z + 17 ∧ gR h z 6 = z + 19 ∧ gR h (z + 2) 0 = z + 3 ∧ gR h (z + 2) 1 = z + 8 ∧ gR h (z + 3) 0 = z + 4 ∧ gR h (z + 3) 1 = z + 5 ∧ gR h (z + 3) 2 = z + 6 ∧ gR h (z + 3) 3 = z + 7 ∧ gR h (z + 9) 0 = z + 10 ∧ gR h (z + 11) 0 = z + 12 ∧ gR h (z + 11) 1 = z + 13 ∧ gR h (z + 14) 0 = z + 15 ∧ gR h (z + 14) 1 = z + 16 ∧ gR h (z + 17) 0 = z + 18
theorem CR.tape {h : Hp} {z : Nat} (H : CR h z) : gR h z 0 = z + 1 := H.1
theorem CR.reader {h : Hp} {z : Nat} (H : CR h z) : gR h z 1 = z + 2 := H.2.1
theorem CR.judge {h : Hp} {z : Nat} (H : CR h z) : gR h z 2 = z + 9 := H.2.2.1
theorem CR.walk {h : Hp} {z : Nat} (H : CR h z) : gR h z 3 = z + 11 := H.2.2.2.1
theorem CR.paths {h : Hp} {z : Nat} (H : CR h z) : gR h z 4 = z + 14 := H.2.2.2.2.1
theorem CR.scroll {h : Hp} {z : Nat} (H : CR h z) : gR h z 5 = z + 17 := H.2.2.2.2.2.1
theorem CR.shownCase {h : Hp} {z : Nat} (H : CR h z) : gR h z 6 = z + 19 := H.2.2.2.2.2.2.1
theorem CR.tokens {h : Hp} {z : Nat} (H : CR h z) : gR h (z + 2) 0 = z + 3 := H.2.2.2.2.2.2.2.1
theorem CR.toldNames {h : Hp} {z : Nat} (H : CR h z) : gR h (z + 2) 1 = z + 8 := H.2.2.2.2.2.2.2.2.1
theorem CR.kinds {h : Hp} {z : Nat} (H : CR h z) : gR h (z + 3) 0 = z + 4 := H.2.2.2.2.2.2.2.2.2.1
theorem CR.places {h : Hp} {z : Nat} (H : CR h z) : gR h (z + 3) 1 = z + 5 := H.2.2.2.2.2.2.2.2.2.2.1
theorem CR.codes {h : Hp} {z : Nat} (H : CR h z) : gR h (z + 3) 2 = z + 6 := H.2.2.2.2.2.2.2.2.2.2.2.1
theorem CR.reserved {h : Hp} {z : Nat} (H : CR h z) : gR h (z + 3) 3 = z + 7 := H.2.2.2.2.2.2.2.2.2.2.2.2.1
theorem CR.jImage {h : Hp} {z : Nat} (H : CR h z) : gR h (z + 9) 0 = z + 10 := H.2.2.2.2.2.2.2.2.2.2.2.2.2.1
theorem CR.near {h : Hp} {z : Nat} (H : CR h z) : gR h (z + 11) 0 = z + 12 := H.2.2.2.2.2.2.2.2.2.2.2.2.2.2.1
theorem CR.wImage {h : Hp} {z : Nat} (H : CR h z) : gR h (z + 11) 1 = z + 13 := H.2.2.2.2.2.2.2.2.2.2.2.2.2.2.2.1
theorem CR.far {h : Hp} {z : Nat} (H : CR h z) : gR h (z + 14) 0 = z + 15 := H.2.2.2.2.2.2.2.2.2.2.2.2.2.2.2.2.1
theorem CR.queue {h : Hp} {z : Nat} (H : CR h z) : gR h (z + 14) 1 = z + 16 := H.2.2.2.2.2.2.2.2.2.2.2.2.2.2.2.2.2.1
theorem CR.bytes {h : Hp} {z : Nat} (H : CR h z) : gR h (z + 17) 0 = z + 18 := H.2.2.2.2.2.2.2.2.2.2.2.2.2.2.2.2.2.2
def CS (S : Sh) (z : Nat) : Prop := S (z) = (12, 0) ∧ S (z + 1) = (21, 600) ∧ S (z + 2) = (6, 0) ∧ S (z + 3) = (9, 0) ∧ S (z + 4) = (20, 601) ∧ S (z + 5) = (20, 601) ∧ S (z + 6) = (23, 601) ∧ S (z + 7) = (23, 16) ∧ S (z + 8) = (23, 24) ∧ S (z + 9) = (2, 0) ∧ S (z + 10) = (8, 0) ∧ S (z + 11) = (11, 0) ∧ S (z + 12) = (8, 0) ∧ S (z + 13) = (8, 0) ∧ S (z + 14) = (5, 0) ∧ S (z + 15) = (20, 100) ∧ S (z + 16) = (20, 100) ∧ S (z + 17) = (7, 0) ∧ S (z + 18) = (21, 68) ∧ S (z + 19) = (20, 3)
theorem CS.s0 {S : Sh} {z : Nat} (H : CS S z) : S (z) = (12, 0) := H.1
theorem CS.s1 {S : Sh} {z : Nat} (H : CS S z) : S (z + 1) = (21, 600) := H.2.1
theorem CS.s2 {S : Sh} {z : Nat} (H : CS S z) : S (z + 2) = (6, 0) := H.2.2.1
theorem CS.s3 {S : Sh} {z : Nat} (H : CS S z) : S (z + 3) = (9, 0) := H.2.2.2.1
theorem CS.s4 {S : Sh} {z : Nat} (H : CS S z) : S (z + 4) = (20, 601) := H.2.2.2.2.1
theorem CS.s5 {S : Sh} {z : Nat} (H : CS S z) : S (z + 5) = (20, 601) := H.2.2.2.2.2.1
theorem CS.s6 {S : Sh} {z : Nat} (H : CS S z) : S (z + 6) = (23, 601) := H.2.2.2.2.2.2.1
theorem CS.s7 {S : Sh} {z : Nat} (H : CS S z) : S (z + 7) = (23, 16) := H.2.2.2.2.2.2.2.1
theorem CS.s8 {S : Sh} {z : Nat} (H : CS S z) : S (z + 8) = (23, 24) := H.2.2.2.2.2.2.2.2.1
theorem CS.s9 {S : Sh} {z : Nat} (H : CS S z) : S (z + 9) = (2, 0) := H.2.2.2.2.2.2.2.2.2.1
theorem CS.s10 {S : Sh} {z : Nat} (H : CS S z) : S (z + 10) = (8, 0) := H.2.2.2.2.2.2.2.2.2.2.1
theorem CS.s11 {S : Sh} {z : Nat} (H : CS S z) : S (z + 11) = (11, 0) := H.2.2.2.2.2.2.2.2.2.2.2.1
theorem CS.s12 {S : Sh} {z : Nat} (H : CS S z) : S (z + 12) = (8, 0) := H.2.2.2.2.2.2.2.2.2.2.2.2.1
theorem CS.s13 {S : Sh} {z : Nat} (H : CS S z) : S (z + 13) = (8, 0) := H.2.2.2.2.2.2.2.2.2.2.2.2.2.1
theorem CS.s14 {S : Sh} {z : Nat} (H : CS S z) : S (z + 14) = (5, 0) := H.2.2.2.2.2.2.2.2.2.2.2.2.2.2.1
theorem CS.s15 {S : Sh} {z : Nat} (H : CS S z) : S (z + 15) = (20, 100) := H.2.2.2.2.2.2.2.2.2.2.2.2.2.2.2.1
theorem CS.s16 {S : Sh} {z : Nat} (H : CS S z) : S (z + 16) = (20, 100) := H.2.2.2.2.2.2.2.2.2.2.2.2.2.2.2.2.1
theorem CS.s17 {S : Sh} {z : Nat} (H : CS S z) : S (z + 17) = (7, 0) := H.2.2.2.2.2.2.2.2.2.2.2.2.2.2.2.2.2.1
theorem CS.s18 {S : Sh} {z : Nat} (H : CS S z) : S (z + 18) = (21, 68) := H.2.2.2.2.2.2.2.2.2.2.2.2.2.2.2.2.2.2.1
theorem CS.s19 {S : Sh} {z : Nat} (H : CS S z) : S (z + 19) = (20, 3) := H.2.2.2.2.2.2.2.2.2.2.2.2.2.2.2.2.2.2.2
/-- an event at v -/
def ER (h : Hp) (v : Nat) : Prop := gR h v 0 = v + 1 ∧ gR h v 1 = v + 2 ∧ gR h v 2 = v + 3 ∧ gR h v 3 = v + 4
def ES (S : Sh) (v : Nat) : Prop := S v = (1, 0) ∧ S (v + 1) = (20, 3) ∧ S (v + 2) = (20, 100) ∧ S (v + 3) = (20, 100) ∧ S (v + 4) = (20, 1000)
/-- a machine at a: its events at a + 11 + 5 e, its sets at a + 31 + s, its verdicts at a + 131 + i -/
def MR (h : Hp) (a : Nat) : Prop := (∀ k, k < 10 → gR h a k = a + 1 + k) ∧ (∀ e, e < 4 → gR h (a + 6) e = a + 11 + 5 * e ∧ ER h (a + 11 + 5 * e)) ∧ (∀ s, s < 100 → gR h (a + 8) s = a + 31 + s) ∧ ∀ i, i < 14 → gR h (a + 10) i = a + 131 + i
def MS (S : Sh) (a : Nat) : Prop := S a = (3, 0) ∧ S (a + 1) = (23, 3) ∧ S (a + 2) = (20, 3) ∧ S (a + 3) = (20, 3) ∧ S (a + 4) = (20, 3) ∧ S (a + 5) = (20, 4) ∧ S (a + 6) = (24, 4) ∧ S (a + 7) = (22, 100) ∧ S (a + 8) = (26, 100) ∧ S (a + 9) = (20, 100) ∧ S (a + 10) = (27, 14) ∧ (∀ e, e < 4 → ES S (a + 11 + 5 * e)) ∧ (∀ s, s < 100 → S (a + 31 + s) = (8, 0)) ∧ ∀ i, i < 14 → S (a + 131 + i) = (10, 0)
/-- a model at D: its machines at D + 6 + 145 m -/
def DR (h : Hp) (D : Nat) : Prop := (∀ k, k < 5 → gR h D k = D + 1 + k) ∧ ∀ m, m < 3 → gR h (D + 1) m = D + 6 + 145 * m ∧ MR h (D + 6 + 145 * m)
def DS (S : Sh) (D : Nat) : Prop := S D = (4, 0) ∧ S (D + 1) = (25, 3) ∧ S (D + 2) = (20, 601) ∧ S (D + 3) = (20, 7) ∧ S (D + 4) = (20, 32) ∧ S (D + 5) = (20, 3) ∧ ∀ m, m < 3 → MS S (D + 6 + 145 * m)
theorem ER.of {h h1 : Hp} {v : Nat} (H : ER h v) (e : ∀ k, gR h1 v k = gR h v k) : ER h1 v := by
  unfold ER at H ⊢
  simp only [e]
  exact H
theorem MR.of {h h1 : Hp} {a : Nat} (H : MR h a) (e : ∀ q, a ≤ q → q < a + 145 → ∀ k, gR h1 q k = gR h q k) : MR h1 a := by
  obtain ⟨h1', h2, h3, h4⟩ := H
  refine ⟨fun k hk => ?_, fun i hi => ⟨?_, (h2 i hi).2.of (e _ (by omega) (by omega))⟩, fun i hi => ?_, fun i hi => ?_⟩
  · rw [e a (by omega) (by omega)]; exact h1' k hk
  · rw [e _ (by omega) (by omega)]; exact (h2 i hi).1
  · rw [e _ (by omega) (by omega)]; exact h3 i hi
  · rw [e _ (by omega) (by omega)]; exact h4 i hi
theorem DR.of {h h1 : Hp} {D : Nat} (H : DR h D) (e : ∀ q, D ≤ q → q < D + 441 → ∀ k, gR h1 q k = gR h q k) : DR h1 D := by
  obtain ⟨h1', h2⟩ := H
  refine ⟨fun k hk => ?_, fun m hm => ⟨?_, (h2 m hm).2.of (fun q q1 q2 => e q (by omega) (by omega))⟩⟩
  · rw [e _ (by omega) (by omega)]; exact h1' k hk
  · rw [e _ (by omega) (by omega)]; exact (h2 m hm).1
