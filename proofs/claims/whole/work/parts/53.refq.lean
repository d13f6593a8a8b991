/-! WHAT THE REFERENCE ASKS OF ITS ROWS -/
def Rf (A : Ab) (S : Sh) (h : Hp) (r : Nat) : Prop := RS S r ∧ RR h r ∧ RfA A h r ∧ wfA A
/-- all but the pile is as it was -/
abbrev Pl (r : Nat) (h h' : Hp) : Prop := Sm (fun b => b ≠ r + 27) h h'
theorem Rf.of {A : Ab} {S : Sh} {h h' : Hp} {r : Nat} (H : Rf A S h r) (s : Sm (fun a => (r + 2 ≤ a ∧ a ≤ r + 26) ∨ a = r + 28 ∨ a = r + 29) h h') (e : gI h' r 37 = gI h r 37) (f : ∀ k, gR h' r k = gR h r k) : Rf A S h' r :=
  ⟨H.1, H.2.1.of f, H.2.2.1.of s e, H.2.2.2⟩
theorem Rf.pl {A : Ab} {S : Sh} {h h' : Hp} {r : Nat} (H : Rf A S h r) (s : Pl r h h') : Rf A S h' r :=
  H.of (s.mono fun a ha => by omega) (s.I (by omega) _) (fun k => s.R (by omega) k)
theorem Rf.m3 {A : Ab} {S : Sh} {h : Hp} {r : Nat} (H : Rf A S h r) : aMM A ≤ 3 := H.2.2.2.1
theorem Rf.w {A : Ab} {S : Sh} {h : Hp} {r m : Nat} (H : Rf A S h r) (hm : m < aMM A) : wfM A m := H.2.2.2.2 m hm
theorem Rf.M {A : Ab} {S : Sh} {h : Hp} {r m : Nat} (H : Rf A S h r) (hm : m < aMM A) : RfM A h r m := (H.2.2.1.2 m hm).1
theorem Rf.G {A : Ab} {S : Sh} {h : Hp} {r m : Nat} (H : Rf A S h r) (hm : m < aMM A) : RfG A h r m := (H.2.2.1.2 m hm).2
theorem wfM.v3 {A : Ab} {m : Nat} (w : wfM A m) : aVm A m ≤ 3 := w.2.1
theorem wfM.v1 {A : Ab} {m : Nat} (w : wfM A m) : 1 ≤ aVm A m := w.1
theorem wfM.e4 {A : Ab} {m : Nat} (w : wfM A m) : aEm A m ≤ 4 := w.2.2.2.1
theorem wfM.s100 {A : Ab} {m : Nat} (w : wfM A m) : aSz A m ≤ 100 := w.2.2.2.2.2.1
theorem wfM.ev {A : Ab} {m e : Nat} (w : wfM A m) (he : e < aEm A m) : aFp A m e ≤ aLp A m e ∧ aLp A m e ≤ 99 ∧ aLp A m e < aFp A m e + 10 ∧ (aOe A m e ≠ 0 → 0 < m ∧ aOe A m e ≤ aEm A (m - 1)) ∧ aGb A m e < 8 ∧ wfC A m 1 (aGc A m e) ∧ tsC (aGc A m e) ∧
    (∀ v, v < aVm A m → aGb A m e / 2 ^ v % 2 = 1 → wfC A m 1 (aSc A m e v)) ∧ aAs A m e ≤ 1 := w.2.2.2.2.2.2.2.2.1 e he
theorem wfM.vb {A : Ab} {m v : Nat} (w : wfM A m) (hv : v < aVm A m) : aLo A m v ≤ aAt A m v ∧ aAt A m v ≤ aHi A m v ∧ aHi A m v ≤ 9 := w.2.2.2.2.2.2.1 v hv
theorem wfM.sn {A : Ab} {m s : Nat} (w : wfM A m) (hs : s < aSz A m) : aSn A m s ≤ 1 := w.2.2.2.2.2.2.2.2.2.1 s hs
theorem wfM.gl {A : Ab} {m a s : Nat} (w : wfM A m) (h0 : 0 < m) (ha : a < aSz A (m - 1)) (hs : s < aSz A m) : aGl A m a s ≤ 1 := w.2.2.2.2.2.2.2.2.2.2 a s h0 ha hs
theorem RfM.vr {A : Ab} {h : Hp} {r m v : Nat} (H : RfM A h r m) (hv : v < aVm A m) : gI h (r + 11) (3 * m + v) = nI (aLo A m v) ∧ gI h (r + 12) (3 * m + v) = nI (aHi A m v) ∧ gI h (r + 13) (3 * m + v) = nI (aAt A m v) ∧ gJ h (r + 3) (3 * m + v) = aVn A m v := H.2.2.2.2.2.1 v hv
theorem RfM.ev {A : Ab} {h : Hp} {r m e : Nat} (H : RfM A h r m) (he : e < aEm A m) : gI h (r + 16) (4 * m + e) = aOI A m e ∧ gI h (r + 17) (4 * m + e) = nI (aFp A m e) ∧ gI h (r + 18) (4 * m + e) = nI (aLp A m e) ∧ gI h (r + 21) (4 * m + e) = nI (aGb A m e) ∧ gI h (r + 24) (4 * m + e) = nI (aAs A m e) ∧
    (∃ f, gI h (r + 19) (4 * m + e) = nI f ∧ gI h (r + 20) (4 * m + e) = nI (f + (aGc A m e).length) ∧ RCd h r f (aGc A m e)) ∧
    ∀ v, v < aVm A m → aGb A m e / 2 ^ v % 2 = 1 → ∃ f, gI h (r + 22) (3 * (4 * m + e) + v) = nI f ∧ gI h (r + 23) (3 * (4 * m + e) + v) = nI (f + (aSc A m e v).length) ∧ RCd h r f (aSc A m e v) := H.2.2.2.2.2.2.1 e he
theorem aPr_mono {A : Ab} {m : Nat} (w : wfM A m) : ∀ d v, v + d ≤ aVm A m → aPr A m v ≤ aPr A m (v + d)
  | 0, _, _ => Nat.le_refl _
  | d + 1, v, h => by
    refine Nat.le_trans (aPr_mono w d v (by omega)) ?_
    show aPr A m (v + d) ≤ aPr A m (v + d) * aWd A m (v + d)
    exact Nat.le_mul_of_pos_right _ (aWd_pos w (by omega)).1
theorem aPr_le {A : Ab} {m v : Nat} (w : wfM A m) (hv : v ≤ aVm A m) : aPr A m v ≤ 100 := by
  have := aPr_mono w (aVm A m - v) v (by omega)
  rw [show v + (aVm A m - v) = aVm A m by omega, ← w.2.2.2.2.1] at this
  exact Nat.le_trans this w.s100
theorem bit_i : ∀ v : Nat, v < 31 → ((nI v &&& 31).toBitVec.smod 32).toNat = v := by decide
theorem bit_n {g v : Nat} (hg : g < 2 ^ 31) (hv : v < 31) : shr32 (nI g) (nI v) &&& 1 = nI (g / 2 ^ v % 2) := by
  unfold shr32
  rw [pk_shrN hg _ v (bit_i v hv)]
  exact pk_andN (k := 1) (Nat.lt_of_le_of_lt (Nat.div_le_self _ _) (by omega)) rfl
theorem rIn_y {S : Sh} {h : Hp} {x y z : Int32} {Q : Int32 → Hp → Prop} (h1 : ¬ x < y) (h2 : ¬ z < x) (q : Q 1 h) : wX12_in S h x y z Q := br_f h1 (br_f h2 q)
theorem rIn_n {S : Sh} {h : Hp} {x y z : Int32} {Q : Int32 → Hp → Prop} (h1 : x < y ∨ z < x) (q : Q 0 h) : wX12_in S h x y z Q := by
  by_cases h2 : x < y
  · exact br_t h2 q
  · exact br_f h2 (br_t (h1.resolve_left h2) q)
theorem rInN_y {S : Sh} {h : Hp} {j n : Nat} {Q : Int32 → Hp → Prop} (hj : j < n) (hn : n < 2 ^ 31) (q : Q 1 h) : wX12_in S h (nI j) 0 (nI n - 1) Q := by
  refine rIn_y (nI_pos (by omega)) ?_ q
  rw [show nI n - 1 = nI (n - 1) from n_sub (b := 1) (by omega)]
  exact nI_nlt (by omega) (by omega)
theorem rInN_n {S : Sh} {h : Hp} {x : Int32} {n : Nat} {Q : Int32 → Hp → Prop} (hx : ¬ ∃ j, j < n ∧ x = nI j) (hn : n < 2 ^ 31) (q : Q 0 h) : wX12_in S h x 0 (nI n - 1) Q := by
  refine rIn_n ?_ q
  rcases pk_ix x hn with h1 | h1 | h1
  · exact Or.inl h1
  · right
    rcases Nat.eq_zero_or_pos n with e | e
    · subst e
      exact Int32.lt_of_lt_of_le (show nI 0 - 1 < nI 0 by decide) h1
    · rw [show nI n - 1 = nI (n - 1) from n_sub (b := 1) e]
      exact Int32.lt_of_lt_of_le (nI_lt (by omega) hn) h1
  · exact absurd h1 hx
def isM (A : Ab) (x : Int32) : Prop := ∃ m, m < aMM A ∧ x = nI m
def isS (A : Ab) (x y : Int32) : Prop := ∃ m s, m < aMM A ∧ s < aSz A m ∧ x = nI m ∧ y = nI s
def isV (A : Ab) (x y : Int32) : Prop := ∃ m v, m < aMM A ∧ v < aVm A m ∧ x = nI m ∧ y = nI v
def isE (A : Ab) (x y : Int32) : Prop := ∃ m e, m < aMM A ∧ e < aEm A m ∧ x = nI m ∧ y = nI e
theorem rM_y {A : Ab} {S : Sh} {h : Hp} {r m : Nat} {Q : Int32 → Hp → Prop} (H : Rf A S h r) (hm : m < aMM A) (q : Q 1 h) : wX12_isMachine S h r (nI m) Q := by
  refine ⟨H.1.1, ?_⟩
  rw [H.2.2.1.1]
  exact rInN_y hm (by have := H.m3; omega) ⟨by decide, q⟩
theorem rM_n {A : Ab} {S : Sh} {h : Hp} {r : Nat} {x : Int32} {Q : Int32 → Hp → Prop} (H : Rf A S h r) (hm : ¬ isM A x) (q : Q 0 h) : wX12_isMachine S h r x Q := by
  refine ⟨H.1.1, ?_⟩
  rw [H.2.2.1.1]
  exact rInN_n hm (by have := H.m3; omega) ⟨by decide, q⟩
theorem rS_y {A : Ab} {S : Sh} {h : Hp} {r m s : Nat} {Q : Int32 → Hp → Prop} (H : Rf A S h r) (hm : m < aMM A) (hs : s < aSz A m) (q : Q 1 h) : wX12_isState S h r (nI m) (nI s) Q := by
  refine ⟨H.1.1, rM_y H hm (br_f (by decide) ?_)⟩
  have h3 := H.m3
  have h1 := (H.w hm).s100
  rw [H.2.1.sizes, ix_nI (by omega), (H.M hm).2.2.2.1]
  exact ⟨H.1.sizes (by omega), rInN_y hs (by omega) (br_f (by decide) q)⟩
theorem rS_n {A : Ab} {S : Sh} {h : Hp} {r : Nat} {x y : Int32} {Q : Int32 → Hp → Prop} (H : Rf A S h r) (hn : ¬ isS A x y) (q : Q 0 h) : wX12_isState S h r x y Q := by
  refine ⟨H.1.1, ?_⟩
  by_cases hM : isM A x
  · obtain ⟨m, hm, rfl⟩ := hM
    have h3 := H.m3
    have h1 := (H.w hm).s100
    refine rM_y H hm (br_f (by decide) ?_)
    rw [H.2.1.sizes, ix_nI (by omega), (H.M hm).2.2.2.1]
    exact ⟨H.1.sizes (by omega), rInN_n (fun ⟨s, hs, e⟩ => hn ⟨m, s, hm, hs, rfl, e⟩) (by omega) (br_t rfl q)⟩
  · exact rM_n H hM (br_t rfl q)
theorem rV_y {A : Ab} {S : Sh} {h : Hp} {r m v : Nat} {Q : Int32 → Hp → Prop} (H : Rf A S h r) (hm : m < aMM A) (hv : v < aVm A m) (q : Q 1 h) : wX12_isVar S h r (nI m) (nI v) Q := by
  refine ⟨H.1.1, rM_y H hm (br_f (by decide) ?_)⟩
  have h3 := H.m3
  have h1 := (H.w hm).v3
  rw [H.2.1.varMany, ix_nI (by omega), (H.M hm).1]
  exact ⟨H.1.varMany (by omega), rInN_y hv (by omega) (br_f (by decide) q)⟩
theorem rV_n {A : Ab} {S : Sh} {h : Hp} {r : Nat} {x y : Int32} {Q : Int32 → Hp → Prop} (H : Rf A S h r) (hn : ¬ isV A x y) (q : Q 0 h) : wX12_isVar S h r x y Q := by
  refine ⟨H.1.1, ?_⟩
  by_cases hM : isM A x
  · obtain ⟨m, hm, rfl⟩ := hM
    have h3 := H.m3
    have h1 := (H.w hm).v3
    refine rM_y H hm (br_f (by decide) ?_)
    rw [H.2.1.varMany, ix_nI (by omega), (H.M hm).1]
    exact ⟨H.1.varMany (by omega), rInN_n (fun ⟨s, hs, e⟩ => hn ⟨m, s, hm, hs, rfl, e⟩) (by omega) (br_t rfl q)⟩
  · exact rM_n H hM (br_t rfl q)
theorem rE_y {A : Ab} {S : Sh} {h : Hp} {r m e : Nat} {Q : Int32 → Hp → Prop} (H : Rf A S h r) (hm : m < aMM A) (he : e < aEm A m) (q : Q 1 h) : wX12_isEvent S h r (nI m) (nI e) Q := by
  refine ⟨H.1.1, rM_y H hm (br_f (by decide) ?_)⟩
  have h3 := H.m3
  have h1 := (H.w hm).e4
  rw [H.2.1.eventMany, ix_nI (by omega), (H.M hm).2.2.1]
  exact ⟨H.1.eventMany (by omega), rInN_y he (by omega) (br_f (by decide) q)⟩
theorem rE_n {A : Ab} {S : Sh} {h : Hp} {r : Nat} {x y : Int32} {Q : Int32 → Hp → Prop} (H : Rf A S h r) (hn : ¬ isE A x y) (q : Q 0 h) : wX12_isEvent S h r x y Q := by
  refine ⟨H.1.1, ?_⟩
  by_cases hM : isM A x
  · obtain ⟨m, hm, rfl⟩ := hM
    have h3 := H.m3
    have h1 := (H.w hm).e4
    refine rM_y H hm (br_f (by decide) ?_)
    rw [H.2.1.eventMany, ix_nI (by omega), (H.M hm).2.2.1]
    exact ⟨H.1.eventMany (by omega), rInN_n (fun ⟨s, hs, e⟩ => hn ⟨m, s, hm, hs, rfl, e⟩) (by omega) (br_t rfl q)⟩
  · exact rM_n H hM (br_t rfl q)
/-- whether an event can be, what is put aside counted -/
def cbA (A : Ab) (m e s p : Nat) : Bool := decide (aAs A m e = 0) && aCb A m e s p
theorem rCan {A : Ab} {S : Sh} {h : Hp} {r m e s p : Nat} {Q : Int32 → Hp → Prop} (H : Rf A S h r) (hm : m < aMM A) (he : e < aEm A m) (hs : s < aSz A m) (q : ∀ h', Pl r h h' → Q (bI (cbA A m e s p)) h') : wX12_canBe S h r (nI m) (nI e) (nI s) (nI p) Q := by
  have h3 := H.m3
  have w := H.w hm
  have h4 := w.e4
  have h1 := w.s100
  have we := w.ev he
  obtain ⟨-, -, -, -, g5, ⟨f, g6, g7, g8⟩, -⟩ := (H.M hm).ev he
  refine nm_r (e' := nI (4 * m + e)) (by rw [n_4, nI_mul, nI_add]) ⟨H.1.1, ?_⟩
  rw [H.2.1.isAside, H.2.1.guardFrom, H.2.1.guardTo, ix_nI (by omega), g5, g6, g7]
  refine ⟨H.1.isAside (by omega), ?_⟩
  unfold cbA at q
  by_cases ha : aAs A m e = 0
  · rw [ha]
    refine ⟨fun n => absurd rfl n, fun _ => ⟨H.1.guardFrom (by omega), H.1.guardTo (by omega), ?_⟩⟩
    refine rTold (a := 0) (k := 1) H.1 H.2.1 w (fun h0 => H.w (by omega)) (H.M hm) (fun h0 => H.M (by omega)) (by omega) (by omega) (by omega) g8 we.2.2.2.2.2.1 (fun h' s' => ?_)
    have q' := q h' s'
    rw [ha] at q'
    by_cases hc : evl (aEn A m 0 s (nI p)) (aGc A m e) = 1
    · exact ⟨fun n => absurd hc n, fun _ => by simpa [aCb, hc, bI] using q'⟩
    · exact ⟨fun _ => by simpa [aCb, hc, bI] using q', fun n => absurd n hc⟩
  · have q' := q h Sm.rf
    simp [ha, bI] at q'
    have : aAs A m e = 1 := by have := we.2.2.2.2.2.2.2.2; omega
    rw [this]
    exact ⟨fun _ => q', fun n => absurd n (by decide)⟩
theorem rVt {A : Ab} {S : Sh} {h : Hp} {r m s : Nat} {Q : Int32 → Hp → Prop} (H : Rf A S h r) (hm : m < aMM A) (hs : s < aSz A m) (hv : aVt A m ≠ 0) (q : ∀ h', Pl r h h' → Q (evl (aEn A m 0 s 0) (aVc A m)) h') : wX12_variantOf S h r (nI m) (nI s) Q := by
  have h3 := H.m3
  have w := H.w hm
  have h1 := w.s100
  obtain ⟨f, g1, g2, g3⟩ := (H.M hm).2.2.2.2.2.2.2.2 hv
  unfold wX12_variantOf
  rw [H.2.1.variantFrom, H.2.1.variantTo, ix_nI (by omega), g1, g2]
  exact ⟨H.1.1, H.1.variantFrom (by omega), H.1.variantTo (by omega), rTold (a := 0) (k := 2) H.1 H.2.1 w (fun h0 => H.w (by omega)) (H.M hm) (fun h0 => H.M (by omega)) (by omega) (by omega) (by omega) g3 (w.2.2.2.2.2.2.2.1 hv) q⟩
theorem nI_big {x : Int32} {lo hi : Nat} (h1 : nI lo ≤ x) (h2 : x ≤ nI hi) (hl : lo < 2 ^ 31) (hh : hi < 2 ^ 31) : ∃ k, lo ≤ k ∧ k ≤ hi ∧ x = nI k := by
  have h0 : ¬ x < 0 := fun q => absurd (Int32.lt_of_le_of_lt h1 q) (nI_pos hl)
  obtain ⟨k, hk, rfl⟩ := nI_of h0
  rw [nI_leI hl hk] at h1
  rw [nI_leI hk hh] at h2
  exact ⟨k, h1, h2, rfl⟩
theorem rGiv_j {A : Ab} {S : Sh} {h : Hp} {r m v n : Nat} {B : Hp → Int32 → Int32 → Prop} {x1 x3 x4 x5 : Int32} {f : Nat → Int32} {j : Nat} {Q : Int32 → Hp → Prop} (w : wfM A m) (hv : v < aVm A m) (hn : n < 101)
    (q0 : aSo A m f (j + 1) v n = -2 → Q (-2) h) (nx : nI (aLo A m v) ≤ f v ∧ f v ≤ nI (aHi A m v) → B h (nI (n * aWd A m v + (f v).toNatClampNeg - aLo A m v)) (nI (v + 1))) :
    wX12_givenBy_j122 S B h r x1 x3 x4 x5 (nI n) (nI v) (nI (aLo A m v)) (nI (aHi A m v)) (f v) Q := by
  unfold wX12_givenBy_j122
  have hb := w.vb hv
  have hd := aWd_pos w hv
  by_cases hc : nI (aLo A m v) ≤ f v ∧ f v ≤ nI (aHi A m v)
  · have nx := nx hc
    refine rIn_y (by simpa using hc.1) (by simpa using hc.2) ⟨fun _ => ?_, fun n => absurd n (by decide)⟩
    obtain ⟨k, k1, k2, k3⟩ := nI_big hc.1 hc.2 (by omega) (by omega)
    rw [k3] at nx ⊢
    rw [nI_clamp (by omega)] at nx
    have hle : n * aWd A m v ≤ 101 * 10 := Nat.mul_le_mul (by omega) hd.2.1
    refine nm_r ?_ (by rw [nI_1]; exact nx)
    rw [n_sub hd.2.2.2, nI_1, ← hd.2.2.1, nI_mul, nI_add, n_sub (by omega)]
  · have q0 := q0 (by unfold aSo; rw [if_neg hc])
    refine rIn_n ?_ ⟨fun n => absurd rfl n, fun _ => q0⟩
    by_cases h1 : nI (aLo A m v) ≤ f v
    · right
      have : ¬ f v ≤ nI (aHi A m v) := fun h2 => hc ⟨h1, h2⟩
      simpa using this
    · left
      simpa using h1
theorem rGiv_l {A : Ab} {S : Sh} {r m e s p : Nat} {Q : Int32 → Hp → Prop} {h0 : Hp} (hm : m < aMM A) (he : e < aEm A m) (hs : s < aSz A m) (q : ∀ h', Pl r h0 h' → Q (aGv A m e s p) h') :
    ∀ (j v n : Nat) (h : Hp), Rf A S h r → Pl r h0 h → v + j = aVm A m → n < aPr A m v → aPr A m v ≤ 100 → aSo A m (aNx A m e s p) j v n = aGv A m e s p → wX12_givenBy_13 S r (nI m) (nI s) (nI p) (nI (4 * m + e)) Q (j + 1) h (nI n) (nI v)
  | 0, v, n, h, H, s0, hj, hn, _, hg => by
    have h3 := H.m3
    have w := H.w hm
    show wX12_givenBy_13b _ _ _ _ _ _ _ _ _ _ _
    unfold wX12_givenBy_13b
    have w3 := w.v3
    rw [H.2.1.varMany, ix_nI (by omega), (H.M hm).1]
    refine ⟨H.1.1, H.1.varMany (by omega), br_t (nI_le (by omega) (by omega)) ?_⟩
    have := q h s0
    rw [← hg] at this
    exact this
  | j + 1, v, n, h, H, s0, hj, hn, hp, hg => by
    have h3 := H.m3
    have w := H.w hm
    have w3 := w.v3
    have w4 := w.e4
    have ws := w.s100
    have hv : v < aVm A m := by omega
    have hb := w.vb hv
    have hd := aWd_pos w hv
    have hr := (H.M hm).vr hv
    have he' := (H.M hm).ev he
    have we := w.ev he
    show wX12_givenBy_13b _ _ _ _ _ _ _ (wX12_givenBy_13 S r (nI m) (nI s) (nI p) (nI (4 * m + e)) Q (j + 1)) _ _ _
    unfold wX12_givenBy_13b
    rw [H.2.1.varMany, H.2.1.varLow, H.2.1.varHigh, H.2.1.givenBits, ix_nI (by omega), (H.M hm).1, n_3, nI_mul, nI_add, ix_nI (by omega), hr.1, hr.2.1, ix_nI (by omega), he'.2.2.2.1, bit_n (by omega) (by omega)]
    refine ⟨H.1.1, H.1.varMany (by omega), br_f (nI_ge (by omega) (by omega)) ⟨H.1.varLow (by omega), nm_e ⟨H.1.varHigh (by omega), nm_e ⟨H.1.givenBits (by omega), ?_⟩⟩⟩⟩
    have next : ∀ h1, Pl r h h1 → wX12_givenBy_j122 S (wX12_givenBy_13 S r (nI m) (nI s) (nI p) (nI (4 * m + e)) Q (j + 1)) h1 r (nI m) (nI s) (nI p) (nI (4 * m + e)) (nI n) (nI v) (nI (aLo A m v)) (nI (aHi A m v)) (aNx A m e s p v) Q := by
      intro h1 s1
      refine rGiv_j (j := j) w hv (by omega) (fun e0 => ?_) (fun hc => ?_)
      · have := q h1 (s0.tr s1)
        rw [← hg, e0] at this
        exact this
      · obtain ⟨k, k1, k2, k3⟩ := nI_big hc.1 hc.2 (by omega) (by omega)
        have hlt : n * aWd A m v + (aNx A m e s p v).toNatClampNeg - aLo A m v < aPr A m (v + 1) := by
          rw [k3, nI_clamp (by omega)]
          show _ < aPr A m v * aWd A m v
          have : (n + 1) * aWd A m v ≤ aPr A m v * aWd A m v := Nat.mul_le_mul_right _ hn
          rw [Nat.add_mul] at this
          omega
        refine rGiv_l hm he hs q j (v + 1) _ h1 (H.pl s1) (s0.tr s1) (by omega) hlt ?_ ?_
        · exact aPr_le w (by omega)
        · rw [← hg]
          rw [aSo, if_pos hc]
    have hbit : aGb A m e / 2 ^ v % 2 = 0 ∨ aGb A m e / 2 ^ v % 2 = 1 := by omega
    rcases hbit with hb0 | hb1
    · rw [hb0]
      refine ⟨fun _ => ?_, fun n => absurd n (by decide)⟩
      refine br_t rfl ⟨H.1.1, rVal H.1 H.2.1 (H.M hm) w (by omega) (by omega) hv ?_⟩
      have := next h Sm.rf
      rw [show aNx A m e s p v = nI (aVl A m s v) by unfold aNx; rw [if_neg (by omega)]] at this
      exact this
    · rw [hb1]
      refine ⟨fun n => absurd rfl n, fun _ => ?_⟩
      obtain ⟨f, g1, g2, g3⟩ := he'.2.2.2.2.2.2 v hv hb1
      refine br_f (by decide) ⟨H.1.1, ?_⟩
      rw [H.2.1.sumFrom, H.2.1.sumTo, n_3, nI_mul, nI_add, ix_nI (by omega), g1, g2]
      refine ⟨H.1.sumFrom (by omega), H.1.sumTo (by omega), ?_⟩
      refine rTold (a := 0) (k := 1) H.1 H.2.1 w (fun h0 => H.w (by omega)) (H.M hm) (fun h0 => H.M (by omega)) (by omega) (by omega) (by omega) g3 (we.2.2.2.2.2.2.2.1 v hv hb1) (fun h1 s1 => ?_)
      have := next h1 s1
      rw [show aNx A m e s p v = evl (aEn A m 0 s (nI p)) (aSc A m e v) by unfold aNx; rw [if_pos hb1]] at this
      exact this
theorem rGiv {A : Ab} {S : Sh} {h : Hp} {r m e s p : Nat} {Q : Int32 → Hp → Prop} (H : Rf A S h r) (hm : m < aMM A) (he : e < aEm A m) (hs : s < aSz A m) (q : ∀ h', Pl r h h' → Q (aGv A m e s p) h') : wX12_givenBy S h r (nI m) (nI e) (nI s) (nI p) Q := by
  refine nm_r (e' := nI (4 * m + e)) (by rw [n_4, nI_mul, nI_add]) ⟨_, rGiv_l hm he hs q (aVm A m) 0 0 h H Sm.rf (by omega) (by show 0 < 1; omega) (by show 1 ≤ 100; omega) rfl⟩
