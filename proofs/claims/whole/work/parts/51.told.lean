/-! THE REFERENCE'S ROWS HOLD WHAT IS TOLD -/
theorem n_0 : (0 : Int32) = nI 0 := rfl
theorem n_1 : (1 : Int32) = nI 1 := rfl
theorem n_2 : (2 : Int32) = nI 2 := rfl
theorem n_3 : (3 : Int32) = nI 3 := rfl
theorem n_4 : (4 : Int32) = nI 4 := rfl
theorem n_10 : (10 : Int32) = nI 10 := rfl
theorem n_100 : (100 : Int32) = nI 100 := rfl
theorem n_m1 (x : Int32) : x + (-1) = x - 1 := (Int32.sub_eq_add_neg x 1).symm
theorem n_sub {a b : Nat} (h : b ≤ a) : nI a - nI b = nI (a - b) := nI_sub h
theorem inA_n {S : Sh} {a t N i : Nat} {p : Nat × Nat} (hs : S a = p) (h1 : p = (t, N)) (hi : i < N) (hN : N < 2 ^ 31) : inA S a t (nI i) := inA_of (hs.trans h1) hi hN
theorem rem_n {a d : Nat} (ha : a < 2 ^ 31) (h0 : 0 < d) (hd : d < 2 ^ 31) : rem32 (nI a) (nI d) = nI (a % d) := pk_rem ha h0 hd
def RCd (h : Hp) (r f : Nat) (L : Cd) : Prop := f + L.length ≤ 700 ∧ ∀ (i : Nat) (c : Nat × Nat), L[i]? = some c → gI h (r + 25) (f + i) = nI c.1 ∧ gI h (r + 26) (f + i) = nI c.2
def RfM (A : Ab) (h : Hp) (r m : Nat) : Prop :=
  gI h (r + 5) m = nI (aVm A m) ∧ gI h (r + 6) m = nI (aLm A m) ∧ gI h (r + 7) m = nI (aEm A m) ∧ gI h (r + 8) m = nI (aSz A m) ∧ gJ h (r + 2) m = aMn A m ∧
  (∀ v, v < aVm A m → gI h (r + 11) (3 * m + v) = nI (aLo A m v) ∧ gI h (r + 12) (3 * m + v) = nI (aHi A m v) ∧ gI h (r + 13) (3 * m + v) = nI (aAt A m v) ∧ gJ h (r + 3) (3 * m + v) = aVn A m v) ∧
  (∀ e, e < aEm A m → gI h (r + 16) (4 * m + e) = aOI A m e ∧ gI h (r + 17) (4 * m + e) = nI (aFp A m e) ∧ gI h (r + 18) (4 * m + e) = nI (aLp A m e) ∧ gI h (r + 21) (4 * m + e) = nI (aGb A m e) ∧ gI h (r + 24) (4 * m + e) = nI (aAs A m e) ∧
    (∃ f, gI h (r + 19) (4 * m + e) = nI f ∧ gI h (r + 20) (4 * m + e) = nI (f + (aGc A m e).length) ∧ RCd h r f (aGc A m e)) ∧
    ∀ v, v < aVm A m → aGb A m e / 2 ^ v % 2 = 1 → ∃ f, gI h (r + 22) (3 * (4 * m + e) + v) = nI f ∧ gI h (r + 23) (3 * (4 * m + e) + v) = nI (f + (aSc A m e v).length) ∧ RCd h r f (aSc A m e v)) ∧
  (aVt A m = 0 → gI h (r + 9) m = -1) ∧ (aVt A m ≠ 0 → ∃ f, gI h (r + 9) m = nI f ∧ gI h (r + 10) m = nI (f + (aVc A m).length) ∧ RCd h r f (aVc A m))
def RfG (A : Ab) (h : Hp) (r m : Nat) : Prop :=
  (∀ s, s < aSz A m → gI h (r + 28) (100 * m + s) = nI (aSn A m s)) ∧ (0 < m → ∀ a s, a < aSz A (m - 1) → s < aSz A m → gI h (r + 29) (10000 * (m - 1) + 100 * a + s) = nI (aGl A m a s))
def RfA (A : Ab) (h : Hp) (r : Nat) : Prop := gI h r 37 = nI (aMM A) ∧ ∀ m, m < aMM A → RfM A h r m ∧ RfG A h r m
theorem RCd.of {h h' : Hp} {r f : Nat} {L : Cd} (H : RCd h r f L) (s : Sm (fun a => r + 2 ≤ a ∧ a ≤ r + 26) h h') : RCd h' r f L :=
  ⟨H.1, fun i c hc => by rw [s.I ⟨by omega, by omega⟩, s.I ⟨by omega, by omega⟩]; exact H.2 i c hc⟩
theorem RfM.of {A : Ab} {h h' : Hp} {r m : Nat} (H : RfM A h r m) (s : Sm (fun a => r + 2 ≤ a ∧ a ≤ r + 26) h h') : RfM A h' r m := by
  have E : ∀ k, 2 ≤ k → k ≤ 26 → ∀ j, gI h' (r + k) j = gI h (r + k) j := fun k h1 h2 j => s.I ⟨by omega, by omega⟩ j
  have F : ∀ k, 2 ≤ k → k ≤ 26 → ∀ j, gJ h' (r + k) j = gJ h (r + k) j := fun k h1 h2 j => s.J ⟨by omega, by omega⟩ j
  unfold RfM at H ⊢
  simp only [E 5 (by decide) (by decide), E 6 (by decide) (by decide), E 7 (by decide) (by decide), E 8 (by decide) (by decide), E 9 (by decide) (by decide), E 10 (by decide) (by decide), E 11 (by decide) (by decide), E 12 (by decide) (by decide), E 13 (by decide) (by decide),
    E 16 (by decide) (by decide), E 17 (by decide) (by decide), E 18 (by decide) (by decide), E 19 (by decide) (by decide), E 20 (by decide) (by decide), E 21 (by decide) (by decide), E 22 (by decide) (by decide), E 23 (by decide) (by decide), E 24 (by decide) (by decide), F 2 (by decide) (by decide), F 3 (by decide) (by decide)]
  obtain ⟨h1, h2, h3, h4, h5, h6, h7, h8, h9⟩ := H
  refine ⟨h1, h2, h3, h4, h5, h6, fun e he => ?_, h8, fun hv => ?_⟩
  · obtain ⟨g1, g2, g3, g4, g5, ⟨f, g6, g7, g8⟩, g9⟩ := h7 e he
    refine ⟨g1, g2, g3, g4, g5, ⟨f, g6, g7, g8.of s⟩, fun v hv hb => ?_⟩
    obtain ⟨f, k1, k2, k3⟩ := g9 v hv hb
    exact ⟨f, k1, k2, k3.of s⟩
  · obtain ⟨f, k1, k2, k3⟩ := h9 hv
    exact ⟨f, k1, k2, k3.of s⟩
theorem RfA.of {A : Ab} {h h' : Hp} {r : Nat} (H : RfA A h r) (s : Sm (fun a => (r + 2 ≤ a ∧ a ≤ r + 26) ∨ a = r + 28 ∨ a = r + 29) h h') (e : gI h' r 37 = gI h r 37) : RfA A h' r := by
  refine ⟨e.trans H.1, fun m hm => ⟨(H.2 m hm).1.of (s.mono fun x hx => Or.inl hx), ?_, ?_⟩⟩
  · intro q hq
    rw [s.I (Or.inr (Or.inl rfl))]
    exact (H.2 m hm).2.1 q hq
  · intro h0 a q ha hq
    rw [s.I (Or.inr (Or.inr rfl))]
    exact (H.2 m hm).2.2 h0 a q ha hq
theorem rVal_l {S : Sh} {h : Hp} {r m s v : Nat} {A : Ab} {Q : Int32 → Hp → Prop} (hS : RS S r) (hR : RR h r) (hM : RfM A h r m) (w : wfM A m) (hm : m < 3) (hs : s < 100) (q : Q (nI (aVl A m s v)) h) :
    ∀ (d k : Nat) (x5 : Int32), k = v + d → k ≤ aVm A m → (d = 0 → x5 = nI (aVl A m s v)) → wX12_valueOf_16 S r (nI m) (nI v) Q (d + 1) h (nI (aRs A m s (aVm A m - k))) x5 (nI k - 1)
  | 0, k, x5, hk, hk2, hx => by
    have w1 := w.2.1
    have hk' : v = k := by omega
    subst hk'
    rw [hx rfl]
    refine br_t ?_ q
    rw [n_1]
    rcases Nat.eq_zero_or_pos v with e | e
    · subst e
      decide
    · rw [n_sub e]
      exact nI_lt (by omega) (by omega)
  | d + 1, k, x5, hk, hk2, hx => by
    have w1 := w.2.1
    obtain ⟨k, rfl⟩ : ∃ j, k = j + 1 := ⟨v + d, by omega⟩
    have hd := aWd_pos w (v := k) (by omega)
    have hb := w.2.2.2.2.2.2.1 k (by omega)
    have hr := hM.2.2.2.2.2.1 k (by omega)
    have hle := aRs_le A m s (aVm A m - (k + 1))
    have hle2 := Nat.mod_lt (aRs A m s (aVm A m - (k + 1))) hd.1
    have e1 : aRs A m s (aVm A m - k) = aRs A m s (aVm A m - (k + 1)) / aWd A m k := by
      rw [show aVm A m - k = aVm A m - (k + 1) + 1 by omega]
      show _ / aWd A m (aVm A m - 1 - (aVm A m - (k + 1))) = _
      rw [show aVm A m - 1 - (aVm A m - (k + 1)) = k by omega]
    show wX12_valueOf_16b S r (nI m) (nI v) Q (wX12_valueOf_16 S r (nI m) (nI v) Q (d + 1)) h _ x5 _
    unfold wX12_valueOf_16b
    rw [n_1, n_sub (by omega), Nat.add_sub_cancel, n_3]
    refine br_f (nI_nlt (by omega) (by omega)) ⟨hS.1, ?_⟩
    rw [hR.varHigh, hR.varLow, nI_mul, nI_add, ix_nI (by omega), hr.1, hr.2.1]
    refine ⟨hS.varHigh (by omega), hS.varLow (by omega), ?_⟩
    refine nm_r (e' := nI (aWd A m k)) ?_ ⟨nI_ne0 hd.1 (by omega), ?_⟩
    · rw [n_sub hd.2.2.2, nI_add, hd.2.2.1]
    refine nm_r (e' := nI (aLo A m k + aRs A m s (aVm A m - (k + 1)) % aWd A m k)) ?_ ?_
    · rw [rem_n (by omega) hd.1 (by omega), nI_add]
    · rw [pk_div (by omega) hd.1 (by omega), ← e1, show nI k + -nI 1 = nI k - 1 from n_m1 _]
      refine rVal_l hS hR hM w hm hs q d k _ (by omega) (by omega) fun e => ?_
      subst e
      have : k = v := by omega
      subst this
      unfold aVl
      rw [show aVm A m - 1 - k = aVm A m - (k + 1) by omega]
/-- valueOf -/
theorem rVal {S : Sh} {h : Hp} {r m s v : Nat} {A : Ab} {Q : Int32 → Hp → Prop} (hS : RS S r) (hR : RR h r) (hM : RfM A h r m) (w : wfM A m) (hm : m < 3) (hs : s < 100) (hv : v < aVm A m) (q : Q (nI (aVl A m s v)) h) :
    wX12_valueOf S h r (nI m) (nI s) (nI v) Q := by
  unfold wX12_valueOf
  rw [hR.varMany, ix_nI (by omega), hM.1]
  refine ⟨hS.1, hS.varMany (by omega), nm_e ?_⟩
  have := rVal_l hS hR hM w hm hs q (aVm A m - v) (aVm A m) 0 (by omega) (Nat.le_refl _) (fun e => by omega)
  rw [Nat.sub_self] at this
  exact ⟨_, this⟩
/-- a stack in a row, its top last -/
def stk (h : Hp) (a : Nat) (st : List Int32) : Prop := ∀ (j : Nat) (x : Int32), st[j]? = some x → gI h a (st.length - 1 - j) = x
theorem stk.push {h : Hp} {a : Nat} {st : List Int32} (H : stk h a st) (x : Int32) : stk (pI h a st.length x) a (x :: st) := by
  intro j y hj
  rw [gI_pI]
  cases j with
  | zero =>
    simp at hj
    subst hj
    simp
  | succ j =>
    simp at hj
    have hl := (List.getElem?_eq_some_iff.mp hj).1
    have := H j y hj
    rw [List.length_cons, show st.length + 1 - 1 - (j + 1) = st.length - 1 - j by omega, if_neg (by omega)]
    exact this
theorem stk.top {h : Hp} {a : Nat} {x : Int32} {st : List Int32} (H : stk h a (x :: st)) : gI h a st.length = x := by
  have := H 0 x rfl
  simpa using this
theorem stk.tail {h : Hp} {a : Nat} {x : Int32} {st : List Int32} (H : stk h a (x :: st)) : stk h a st := by
  intro j y hj
  have := H (j + 1) y (by simpa using hj)
  rw [List.length_cons] at this
  rw [show st.length - 1 - j = st.length + 1 - 1 - (j + 1) by omega]
  exact this
theorem rJoin {S : Sh} {h : Hp} {w : Nat} {x y : Int32} {Q : Int32 → Hp → Prop} (hw : w = 4 ∨ w = 5 ∨ w = 6 ∨ w = 7 ∨ w = 8 ∨ w = 9 ∨ w = 11 ∨ w = 12) (q : Q (jnN w x y) h) : wX12_joined S h (nI w) x y Q := by
  unfold wX12_joined
  rcases hw with e | e | e | e | e | e | e | e <;> subst e
  · exact br_t rfl q
  · exact br_f (by decide) (br_t rfl q)
  · exact br_f (by decide) (br_f (by decide) (br_t rfl q))
  · refine br_f (by decide) (br_f (by decide) (br_f (by decide) (br_t rfl ?_)))
    by_cases hc : x < y
    · exact br_f (by simpa using hc) (by simpa [jnN, hc] using q)
    · exact br_t (by simpa using hc) (by simpa [jnN, hc] using q)
  · refine br_f (by decide) (br_f (by decide) (br_f (by decide) (br_f (by decide) (br_t rfl ?_))))
    by_cases hc : y < x
    · exact br_f (by simpa using hc) (by simpa [jnN, hc] using q)
    · exact br_t (by simpa using hc) (by simpa [jnN, hc] using q)
  · refine br_f (by decide) (br_f (by decide) (br_f (by decide) (br_f (by decide) (br_f (by decide) (br_t rfl ?_)))))
    by_cases hc : x = y
    · exact ⟨fun n => absurd hc n, fun _ => by simpa [jnN, hc] using q⟩
    · exact ⟨fun _ => by simpa [jnN, hc] using q, fun n => absurd n hc⟩
  · exact br_f (by decide) (br_f (by decide) (br_f (by decide) (br_f (by decide) (br_f (by decide) (br_f (by decide) (br_f (by decide) (br_t rfl q)))))))
  · exact br_f (by decide) (br_f (by decide) (br_f (by decide) (br_f (by decide) (br_f (by decide) (br_f (by decide) (br_f (by decide) (br_f (by decide) q)))))))
