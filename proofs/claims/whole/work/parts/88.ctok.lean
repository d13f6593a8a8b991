/-! THE CLASS AT A TOKEN: the reader at c, its tokens behind it, the draft at D -/
def TkC (B : Bx) (S : Sh) (h : Hp) (c N : Nat) : Prop := S c = (6, 0) ∧ S (c + 1) = (9, 0) ∧ S (c + 2) = (20, 601) ∧ S (c + 3) = (20, 601) ∧ S (c + 4) = (23, 601) ∧
  gR h c 0 = c + 1 ∧ gR h (c + 1) 0 = c + 2 ∧ gR h (c + 1) 1 = c + 3 ∧ gR h (c + 1) 2 = c + 4 ∧ N ≤ 600 ∧ tkK B N = 300 ∧
  (∀ i, i ≤ N → gI h (c + 2) i = nI (tkK B i) ∧ gI h (c + 3) i = nI (tkP B i) ∧ (tkK B i = 302 ∨ tkK B i = 303 → gJ h (c + 4) i = lN (tkC B i))) ∧ (∀ i, B.1 i < 256) ∧ B.2 ≤ 600
def Cp (B : Bx) (S : Sh) (h : Hp) (c N t : Nat) : Prop := TkC B S h c N ∧ gI h c 8 = nI t ∧ t ≤ N
theorem TkC.of {B : Bx} {S : Sh} {h h' : Hp} {c N : Nat} (H : TkC B S h c N) (s : Sm (fun b => c + 1 ≤ b ∧ b ≤ c + 4) h h') (e : gR h' c 0 = gR h c 0) : TkC B S h' c N := by
  obtain ⟨h1, h2, h3, h4, h5, h6, h7, h8, h9, h10, h11, h12, h13⟩ := H
  refine ⟨h1, h2, h3, h4, h5, e.trans h6, ?_, ?_, ?_, h10, h11, fun i hi => ?_, h13⟩
  · rw [s.R ⟨by omega, by omega⟩]; exact h7
  · rw [s.R ⟨by omega, by omega⟩]; exact h8
  · rw [s.R ⟨by omega, by omega⟩]; exact h9
  · rw [s.I ⟨by omega, by omega⟩, s.I ⟨by omega, by omega⟩, s.J ⟨by omega, by omega⟩]; exact h12 i hi
theorem Cp.n {B : Bx} {S : Sh} {h : Hp} {c N t : Nat} (H : Cp B S h c N t) : N ≤ 600 ∧ t ≤ N := ⟨H.1.2.2.2.2.2.2.2.2.2.1, H.2.2⟩
theorem Cp.lt {B : Bx} {S : Sh} {h : Hp} {c N t : Nat} (H : Cp B S h c N t) (hk : tkK B t ≠ 300) : t < N := by
  have h1 := H.1.2.2.2.2.2.2.2.2.2.2.1
  have h2 := H.2.2
  by_cases e : t = N
  · subst e; exact absurd h1 hk
  · omega
theorem cKind {B : Bx} {S : Sh} {h : Hp} {c N t : Nat} {Q : Int32 → Hp → Prop} (H : Cp B S h c N t) (q : Q (nI (tkK B t)) h) : wX5_kind S h c Q := by
  have hn := H.n
  obtain ⟨⟨h1, h2, h3, h4, h5, h6, h7, h8, h9, h10, h11, h12, h13⟩, t1, t2⟩ := H
  unfold wX5_kind
  rw [h6, h7, t1, ix_nI (by omega), (h12 t t2).1]
  exact ⟨by rw [h1], by rw [h2], inA_of h3 (by omega) (by decide), q⟩
theorem cCode {B : Bx} {S : Sh} {h : Hp} {c N t : Nat} {Q : Int64 → Hp → Prop} (H : Cp B S h c N t) (hk : tkK B t = 302) (q : Q (lN (tkC B t)) h) : wX5_code S h c Q := by
  have hn := H.n
  obtain ⟨⟨h1, h2, h3, h4, h5, h6, h7, h8, h9, h10, h11, h12, h13⟩, t1, t2⟩ := H
  unfold wX5_code
  rw [h6, h9, t1, ix_nI (by omega), (h12 t t2).2.2 (Or.inl hk)]
  exact ⟨by rw [h1], by rw [h2], inA_of h5 (by omega) (by decide), q⟩
theorem cNumb {B : Bx} {S : Sh} {h : Hp} {c N t : Nat} {Q : Int32 → Hp → Prop} (H : Cp B S h c N t) (hk : tkK B t = 303) (q : Q (nI (tkC B t)) h) : wX5_number S h c Q := by
  have hn := H.n
  obtain ⟨⟨h1, h2, h3, h4, h5, h6, h7, h8, h9, h10, h11, h12, h13⟩, t1, t2⟩ := H
  unfold wX5_number
  rw [h6, h9, t1, ix_nI (by omega), (h12 t t2).2.2 (Or.inr hk), lN_i]
  exact ⟨by rw [h1], by rw [h2], inA_of h5 (by omega) (by decide), q⟩
theorem cAdv {B : Bx} {S : Sh} {h : Hp} {c N t : Nat} {Q : Hp → Prop} (H : Cp B S h c N t) (hk : tkK B t ≠ 300) (q : Cp B S (pI h c 8 (nI (t + 1))) c N (t + 1) → Q (pI h c 8 (nI (t + 1)))) : wX5_advance S h c Q := by
  have hn := H.n
  have ht := H.lt hk
  unfold wX5_advance
  rw [H.2.1, nI_1]
  refine ⟨by rw [H.1.1], br_f (nI_ge (b := 600) (by omega) (by decide)) (q ⟨H.1.of (Sm.rf.pI (by omega) _ _) rfl, ?_, ht⟩)⟩
  rw [gI_pI, if_pos ⟨rfl, rfl⟩]
def cfl (h : Hp) (c f p : Nat) : Hp := pI (pI h c 2 (nI f)) c 3 (nI p)
theorem cFail {B : Bx} {S : Sh} {h : Hp} {c N t f : Nat} {Q : Int32 → Hp → Prop} (H : Cp B S h c N t) (q : Q 0 (cfl h c f (tkP B t))) : wX5_fail S h c (nI f) Q := by
  have hn := H.n
  obtain ⟨⟨h1, h2, h3, h4, h5, h6, h7, h8, h9, h10, h11, h12, h13⟩, t1, t2⟩ := H
  refine ⟨by rw [h1], nm_e ?_⟩
  show (S (gR h c 0)).1 = 9 ∧ inA S (gR h (gR h c 0) 1) 20 (gI (pI h c 2 (nI f)) c 8) ∧ Q 0 (pI (pI h c 2 (nI f)) c 3 (gI (pI h c 2 (nI f)) (gR h (gR h c 0) 1) (ix (gI (pI h c 2 (nI f)) c 8))))
  rw [gI_pI, if_neg (by omega), h6, h8, t1, ix_nI (by omega), gI_pI, if_neg (by omega), (h12 t t2).2.1]
  exact ⟨by rw [h2], inA_of h4 (by omega) (by decide), q⟩
theorem cfl_f {h : Hp} {c f p : Nat} : gI (cfl h c f p) c 2 = nI f ∧ gI (cfl h c f p) c 3 = nI p := by
  unfold cfl
  exact ⟨by rw [gI_pI, if_neg (by omega), gI_pI, if_pos ⟨rfl, rfl⟩], by rw [gI_pI, if_pos ⟨rfl, rfl⟩]⟩
/-- what the reading of a test or sum may change -/
def Fx (c D cz : Nat) (h h' : Hp) : Prop := (∀ b, b ≠ c → b ≠ D → b ≠ D + 2 → ∀ k, gI h' b k = gI h b k) ∧ (∀ b k, gR h' b k = gR h b k) ∧ (∀ b k, gJ h' b k = gJ h b k) ∧ (∀ k, k ≠ 2 → k ≠ 3 → k ≠ 8 → k ≠ 9 → gI h' c k = gI h c k) ∧
  (∀ k, k ≠ 6 → gI h' D k = gI h D k) ∧ ∀ j, j < cz → gI h' (D + 2) j = gI h (D + 2) j
theorem Fx.rf {c D cz : Nat} {h : Hp} : Fx c D cz h h := ⟨fun _ _ _ _ _ => rfl, fun _ _ => rfl, fun _ _ => rfl, fun _ _ _ _ _ => rfl, fun _ _ => rfl, fun _ _ => rfl⟩
theorem Fx.tr {c D cz cz' : Nat} {h1 h2 h3 : Hp} (a : Fx c D cz h1 h2) (b : Fx c D cz' h2 h3) (hz : cz ≤ cz') : Fx c D cz h1 h3 :=
  ⟨fun q p1 p2 p3 k => (b.1 q p1 p2 p3 k).trans (a.1 q p1 p2 p3 k), fun q k => (b.2.1 q k).trans (a.2.1 q k), fun q k => (b.2.2.1 q k).trans (a.2.2.1 q k), fun k p1 p2 p3 p4 => (b.2.2.2.1 k p1 p2 p3 p4).trans (a.2.2.2.1 k p1 p2 p3 p4),
    fun k p => (b.2.2.2.2.1 k p).trans (a.2.2.2.2.1 k p), fun j p => (b.2.2.2.2.2 j (by omega)).trans (a.2.2.2.2.2 j p)⟩
theorem Fx.c {c D cz k : Nat} {h h' : Hp} (a : Fx c D cz h h') (hD : c ≠ D ∧ c ≠ D + 2) (hk : k = 2 ∨ k = 3 ∨ k = 8 ∨ k = 9) (v : Int32) : Fx c D cz h (pI h' c k v) :=
  ⟨fun q p1 p2 p3 j => by rw [gI_pI, if_neg (by omega)]; exact a.1 q p1 p2 p3 j, a.2.1, a.2.2.1, fun j p1 p2 p3 p4 => by rw [gI_pI, if_neg (by omega)]; exact a.2.2.2.1 j p1 p2 p3 p4,
    fun j p => by rw [gI_pI, if_neg (by omega)]; exact a.2.2.2.2.1 j p, fun j p => by rw [gI_pI, if_neg (by omega)]; exact a.2.2.2.2.2 j p⟩
theorem Fx.fl {c D cz f p : Nat} {h h' : Hp} (a : Fx c D cz h h') (hD : c ≠ D ∧ c ≠ D + 2) : Fx c D cz h (cfl h' c f p) := (a.c hD (by omega) _).c hD (by omega) _
/-- the names that may stand: k is 0 in a law, 1 in an event, 2 in a variant -/
def CN (A : Ab) (S : Sh) (h : Hp) (c D m k : Nat) : Prop := m < 3 ∧ DS S D ∧ gR h c 4 = D ∧ gR h c 5 = D + 6 + 145 * m ∧ gI h c 10 = bI (decide (k = 0)) ∧ gI h c 11 = bI (decide (k = 1)) ∧ gI h D 5 = nI (m + 1) ∧
  gR h D 0 = D + 1 ∧ gR h D 1 = D + 2 ∧ (∀ i, i < 3 → gR h (D + 1) i = D + 6 + 145 * i ∧ gR h (D + 6 + 145 * i) 0 = D + 6 + 145 * i + 1) ∧
  (∀ i, i ≤ m → aVm A i ≤ 3 ∧ gI h (D + 6 + 145 * i) 11 = nI (aVm A i) ∧ ∀ v, v < aVm A i → gJ h (D + 6 + 145 * i + 1) v = aVn A i v) ∧ (c + 6 < D ∨ D + 441 ≤ c)
theorem CN.fx {A : Ab} {S : Sh} {h h' : Hp} {c D m k cz : Nat} (H : CN A S h c D m k) (f : Fx c D cz h h') : CN A S h' c D m k := by
  obtain ⟨h1, h2, h3, h4, h5, h6, h7, h8, h9, h10, h11, h12⟩ := H
  refine ⟨h1, h2, by rw [f.2.1]; exact h3, by rw [f.2.1]; exact h4, by rw [f.2.2.2.1 10 (by omega) (by omega) (by omega) (by omega)]; exact h5, by rw [f.2.2.2.1 11 (by omega) (by omega) (by omega) (by omega)]; exact h6,
    by rw [f.2.2.2.2.1 5 (by omega)]; exact h7, by rw [f.2.1]; exact h8, by rw [f.2.1]; exact h9, fun i hi => by rw [f.2.1, f.2.1]; exact h10 i hi, fun i hi => ⟨(h11 i hi).1, ?_, fun v hv => ?_⟩, h12⟩
  · rw [f.1 _ (by omega) (by omega) (by omega)]; exact (h11 i hi).2.1
  · rw [f.2.2.1]; exact (h11 i hi).2.2 v hv
theorem fdI_y {f : Nat → Int64} {w : Int64} {j i : Nat} (e : f i = w) : fdI f w (j + 1) i = some i := if_pos e
theorem fdI_n {f : Nat → Int64} {w : Int64} {j i : Nat} (e : ¬ f i = w) : fdI f w (j + 1) i = fdI f w j (i + 1) := if_neg e
def slI : Option (Nat × Nat) → Int32
  | none => -1
  | some c => if c.1 = 1 then nI c.2 else nI (3 + c.2)
theorem cSlot {A : Ab} {S : Sh} {h : Hp} {c D m k w : Nat} {Q : Int32 → Hp → Prop} (hc : S c = (6, 0)) (H : CN A S h c D m k) (q : Q (slI (slA A m k w)) h) : wX5_slotOf S h c (lN w) Q := by
  obtain ⟨h1, h2, h3, h4, h5, h6, h7, h8, h9, h10, h11, h12⟩ := H
  have ms := h2.2.2.2.2.2.2
  have tail : fdI (aVn A m) (lN w) (aVm A m) 0 = none → wX5_slotOf_j35 S h c (lN w) Q := by
    intro hn
    unfold slA at q
    rw [hn] at q
    simp only at q
    unfold wX5_slotOf_j35
    rw [h5, h3, h7]
    refine ⟨by rw [hc], ?_⟩
    by_cases hk : k = 0
    · rw [decide_eq_true hk]
      refine br_f (by decide) ⟨by rw [h2.1], ?_⟩
      by_cases hm : 0 < m
      · rw [if_pos ⟨hk, hm⟩] at q
        refine br_f (nI_ge (a := 1) (by omega) (by omega)) ?_
        have e2 : nI (m + 1) - 2 = nI (m - 1) := by
          rw [n_2, n_sub (by omega)]
          congr 1
        rw [e2, h8, ix_nI (by omega), (h10 (m - 1) (by omega)).1]
        refine ⟨inA_of h2.2.1 (by omega) (by decide), nm_e ?_⟩
        have hv := h11 (m - 1) (by omega)
        have M := ms (m - 1) (by omega)
        have lp : ∀ (j i : Nat), i + j = aVm A (m - 1) → fdI (aVn A (m - 1)) (lN w) j i = fdI (aVn A (m - 1)) (lN w) (aVm A (m - 1)) 0 → wX5_slotOf_74 S (lN w) (D + 6 + 145 * (m - 1)) Q (j + 1) h (nI i) := by
          intro j
          induction j with
          | zero =>
            intro i hi hf
            refine ⟨by rw [M.1], br_t ?_ ?_⟩
            · rw [hv.2.1]; exact nI_le (by omega) (by omega)
            · rw [← hf] at q
              exact q
          | succ j ih =>
            intro i hi hf
            show wX5_slotOf_74b S (lN w) (D + 6 + 145 * (m - 1)) Q (wX5_slotOf_74 S (lN w) (D + 6 + 145 * (m - 1)) Q (j + 1)) h (nI i)
            unfold wX5_slotOf_74b
            rw [hv.2.1, (h10 (m - 1) (by omega)).2, ix_nI (by omega), hv.2.2 i (by omega), lg_cmp_eq, nI_1]
            refine ⟨by rw [M.1], br_f (nI_ge (by omega) (by omega)) ⟨inA_of M.2.1 (by omega) (by decide), ?_⟩⟩
            by_cases e : aVn A (m - 1) i = lN w
            · rw [fdI_y e] at hf
              rw [← hf] at q
              refine ⟨fun n => absurd e n, fun _ => ?_⟩
              rw [n_3, nI_add]
              exact q
            · rw [fdI_n e] at hf
              exact ⟨fun _ => ih (i + 1) (by omega) hf, fun n => absurd n e⟩
        exact ⟨_, lp (aVm A (m - 1)) 0 (by omega) rfl⟩
      · rw [if_neg (fun x => hm x.2)] at q
        refine br_t (nI_le (b := 1) (by omega) (by decide)) q
    · rw [if_neg (fun x => hk x.1)] at q
      rw [decide_eq_false hk]
      exact br_t rfl q
  have hv := h11 m (Nat.le_refl _)
  have M := ms m h1
  have lp : ∀ (j i : Nat), i + j = aVm A m → fdI (aVn A m) (lN w) j i = fdI (aVn A m) (lN w) (aVm A m) 0 → wX5_slotOf_2 S c (lN w) Q (j + 1) h (nI i) := by
    intro j
    induction j with
    | zero =>
      intro i hi hf
      show wX5_slotOf_2b S c (lN w) Q _ h (nI i)
      unfold wX5_slotOf_2b
      rw [h4, hv.2.1]
      exact ⟨by rw [hc], by rw [M.1], br_t (nI_le (by omega) (by omega)) (tail hf.symm)⟩
    | succ j ih =>
      intro i hi hf
      show wX5_slotOf_2b S c (lN w) Q (wX5_slotOf_2 S c (lN w) Q (j + 1)) h (nI i)
      unfold wX5_slotOf_2b
      rw [h4, hv.2.1, (h10 m h1).2, ix_nI (by omega), hv.2.2 i (by omega), lg_cmp_eq, nI_1]
      refine ⟨by rw [hc], by rw [M.1], br_f (nI_ge (by omega) (by omega)) ⟨inA_of M.2.1 (by omega) (by decide), ?_⟩⟩
      by_cases e : aVn A m i = lN w
      · rw [fdI_y e] at hf
        unfold slA at q
        rw [← hf] at q
        exact ⟨fun n => absurd e n, fun _ => q⟩
      · rw [fdI_n e] at hf
        exact ⟨fun _ => ih (i + 1) (by omega) hf, fun n => absurd n e⟩
  exact ⟨_, lp (aVm A m) 0 (by omega) rfl⟩
