section
variable {B : Bx} {S : Sh} {h : Hp} {c N t k : Nat} {Q : Int32 → Hp → Prop} {R : Hp → Prop}
theorem sAdv {Q : Hp → Prop} (st : ∀ h v, R h → R (pI h c 8 v)) (P : Cp B S h c N t) (Rh : R h) (hk : tkK B t ≠ 300) (q : ∀ h', Cp B S h' c N (t + 1) → R h' → Q h') : wX5_advance S h c Q := cAdv P hk fun P1 => q _ P1 (st _ _ Rh)
theorem sPass (st : ∀ h v, R h → R (pI h c 8 v)) (P : Cp B S h c N t) (Rh : R h) (hk : k < 1000) (h3 : k ≠ 300) (q1 : tkK B t = k → ∀ h', Cp B S h' c N (t + 1) → R h' → Q 1 h') (q0 : tkK B t ≠ k → Q 0 (cfl h c 1 (tkP B t))) : wX5_pass S h c (nI k) Q := by
  refine ⟨by rw [P.1.1], cKind P ?_⟩
  rw [kEq P hk]
  exact ⟨fun e => sAdv st P Rh (by omega) (q1 e), fun n => cFail P ⟨by decide, q0 n⟩⟩
theorem sWhole {lo hi : Nat} (P : Cp B S h c N t) (hl : lo < 2 ^ 31) (hh : hi < 2 ^ 31) (q1 : tkK B t = 303 → lo ≤ tkC B t → tkC B t ≤ hi → Q 1 h) (qf : tkK B t ≠ 303 → Q 0 (cfl h c 1 (tkP B t))) (qb : tkK B t = 303 → ¬ (lo ≤ tkC B t ∧ tkC B t ≤ hi) → Q 0 (cfl h c 2 (tkP B t))) : wX5_isWhole S h c (nI lo) (nI hi) Q := by
  have hc6 : (S c).1 = 6 := by rw [P.1.1]
  have j32 : tkK B t = 303 → ¬ (lo ≤ tkC B t ∧ tkC B t ≤ hi) → wX5_isWhole_j32 S h c Q := fun e n => ⟨hc6, cFail P ⟨fun _ => qb e n, fun n => absurd rfl n⟩⟩
  refine ⟨hc6, cKind P ?_⟩
  rw [show (303 : Int32) = nI 303 from rfl, kEq P (by decide)]
  refine ⟨fun e => cNumb P e ?_, fun n => cFail P ⟨by decide, qf n⟩⟩
  have h9 := tkC_999 e
  by_cases c1 : tkC B t < lo
  · exact br_t (nI_lt c1 hl) (j32 e (by omega))
  · refine br_f (nI_nlt (by omega) (by omega)) (cNumb P e ?_)
    by_cases c2 : tkC B t ≤ hi
    · exact br_t (nI_le c2 hh) (q1 e (by omega) c2)
    · exact br_f (nI_ge (by omega) (by omega)) (j32 e (by omega))
end
/-- told, with one name pending -/
def TolP (A : Ab) (h : Hp) (c n w : Nat) : Prop := gI h c 7 = nI (n + 1) ∧ n = tcN A ∧ ∀ u, (∃ i, i < n + 1 ∧ gJ h (c + 6) i = u) ↔ (told_ A u ∨ u = lN w)
theorem Tol.pend {A : Ab} {h : Hp} {c n w : Nat} (T : Tol A h c n) : TolP A (pI (pJ h (c + 6) n (lN w)) c 7 (nI (n + 1))) c n w := by
  refine ⟨by rw [gI_pI, if_pos ⟨rfl, rfl⟩], T.2.1, fun u => ?_⟩
  rw [← T.2.2 u]
  simp only [gJ_pI, gJ_pJ]
  constructor
  · rintro ⟨i, i1, i2⟩
    by_cases q : i = n
    · rw [if_pos ⟨trivial, q⟩] at i2; exact Or.inr i2.symm
    · rw [if_neg (by omega)] at i2; exact Or.inl ⟨i, by omega, i2⟩
  · rintro (⟨i, i1, i2⟩ | q)
    · exact ⟨i, by omega, by rw [if_neg (by omega)]; exact i2⟩
    · exact ⟨n, by omega, by rw [if_pos ⟨trivial, rfl⟩, q]⟩
theorem TolP.done {A A' : Ab} {h h' : Hp} {c n w : Nat} (T : TolP A h c n w) (e7 : gI h' c 7 = gI h c 7) (ej : ∀ i, gJ h' (c + 6) i = gJ h (c + 6) i) (et : tcN A' = tcN A + 1) (ew : ∀ u, told_ A' u ↔ (told_ A u ∨ u = lN w)) : Tol A' h' c (n + 1) :=
  ⟨e7.trans T.1, by rw [et, ← T.2.1], fun u => by simp only [ej]; rw [ew]; exact T.2.2 u⟩
/-- within a line of the machine m: what a step of the reader leaves -/
def RLn (A : Ab) (S : Sh) (h0 h : Hp) (c D cz m : Nat) : Prop := Bf c D h0 h ∧ CK S h c D ∧ gR h c 5 = D + 6 + 145 * m ∧ (gI h D 5 = nI (aMM A) ∧ gI h D 6 = nI cz) ∧ ∀ i, i < aMM A → DrM A h D i
theorem RLn.cI {A : Ab} {S : Sh} {h0 h : Hp} {c D cz m k : Nat} {v : Int32} (W : wdA A) (H : RLn A S h0 h c D cz m) : RLn A S h0 (pI h c k v) c D cz m := by
  obtain ⟨b, K, r5, ⟨d5, d6⟩, Dm⟩ := H
  have out := K.2.2.1
  have h3 := W.1
  refine ⟨b.pI (by omega), K.bf (Bf.rf.pI (by omega)) K.2.2.2.1, r5, ⟨by rw [gI_pI, if_neg (by omega)]; exact d5, by rw [gI_pI, if_neg (by omega)]; exact d6⟩, fun i hi => ?_⟩
  exact (Dm i hi).of (W.2.1 i hi).2.2.1 AgM.rf (fun q q1 q2 k => ⟨by rw [gI_pI, if_neg (by omega)], rfl⟩) (Cgr.rf (by rw [gI_pI, if_neg (by omega)]) (fun j => by rw [gI_pI, if_neg (by omega)]))
theorem RLn.nJ {A : Ab} {S : Sh} {h0 h : Hp} {c D cz m k : Nat} {v : Int64} (W : wdA A) (H : RLn A S h0 h c D cz m) : RLn A S h0 (pJ h (c + 6) k v) c D cz m := by
  obtain ⟨b, K, r5, ⟨d5, d6⟩, Dm⟩ := H
  have out := K.2.2.1
  have h3 := W.1
  refine ⟨b.pJ (by omega), K.bf (Bf.rf.pJ (by omega)) K.2.2.2.1, r5, ⟨d5, d6⟩, fun i hi => ?_⟩
  exact (Dm i hi).of (W.2.1 i hi).2.2.1 AgM.rf (fun q q1 q2 k => ⟨rfl, by rw [gJ_pJ, if_neg (by omega)]⟩) (Cgr.rf rfl (fun j => rfl))
/-- a name beyond those that are told -/
theorem RLn.vJ {A : Ab} {S : Sh} {h0 h : Hp} {c D cz m k : Nat} {v : Int64} (W : wdA A) (hm : m < aMM A) (hk : aVm A m ≤ k) (H : RLn A S h0 h c D cz m) : RLn A S h0 (pJ h (D + 6 + 145 * m + 1) k v) c D cz m := by
  obtain ⟨b, K, r5, ⟨d5, d6⟩, Dm⟩ := H
  have out := K.2.2.1
  have h3 := W.1
  refine ⟨b.pJ (by omega), K.bf (Bf.rf.pJ (by omega)) K.2.2.2.1, r5, ⟨d5, d6⟩, fun i hi => ?_⟩
  have he := (W.2.1 i hi).2.2.1
  by_cases ci : i = m
  · subst ci
    obtain ⟨g1, g2, g3, g4, g5, g6, g7, g8, g9, g10⟩ := Dm i hi
    refine ⟨by rw [gJ_pJ, if_neg (by omega)]; exact g1, g2, g3, g4, g5, g6, g7, fun u hu => ?_, g9, fun e hee => ?_⟩
    · rw [gJ_pJ, if_neg (by omega)]; exact g8 u hu
    · rw [gJ_pJ, if_neg (by omega)]; exact g10 e hee
  · exact (Dm i hi).of he AgM.rf (fun q q1 q2 k => ⟨rfl, by rw [gJ_pJ, if_neg (by omega)]⟩) (Cgr.rf rfl (fun j => rfl))
theorem CL.rl {A : Ab} {B : Bx} {S : Sh} {h : Hp} {c D N t cz : Nat} (L : CL A B S h c D N t cz) : RLn A S h h c D cz (cM A) := ⟨Bf.rf, L.2.1, L.2.2.1, ⟨L.2.2.2.1.1, L.2.2.2.1.2.1⟩, L.2.2.2.2.2.1⟩
theorem told_V {A : Ab} {m w lo hi at_ : Nat} (hm : m < aMM A) (h3 : aMM A ≤ 3) (u : Int64) : told_ (addV A m w lo hi at_) u ↔ (told_ A u ∨ u = lN w) := by
  obtain ⟨e1, e2, e3, e4, e5, e6, e7, e8, e9, e10, e11⟩ := addV_m (A := A) (m := m) (w := w) (lo := lo) (hi := hi) (at_ := at_)
  have xn : ∀ e, aXn (addV A m w lo hi at_) m e = aXn A m e := fun e => by
    simp only [aXn, addV]
    rw [if_neg (by omega)]
  unfold told_
  rw [addV_mm (by omega)]
  constructor
  · rintro ⟨i, hi', ht⟩
    by_cases c : i = m
    · subst c
      unfold toldM at ht
      rw [e11, e1, e9] at ht
      rcases ht with q | ⟨v, q, q2⟩ | ⟨v, q, q2⟩
      · exact Or.inl ⟨i, hm, Or.inl q⟩
      · by_cases cv : v = aVm A i
        · rw [cv, e7] at q2; exact Or.inr q2.symm
        · rw [(e6 v cv).2.2.2] at q2; exact Or.inl ⟨i, hm, Or.inr (Or.inl ⟨v, by omega, q2⟩)⟩
      · rw [xn] at q2; exact Or.inl ⟨i, hm, Or.inr (Or.inr ⟨v, q, q2⟩)⟩
    · exact Or.inl ⟨i, hi', (toldM_ag (addV_ag c (by omega))).mp ht⟩
  · rintro (⟨i, hi', ht⟩ | q)
    · refine ⟨i, hi', ?_⟩
      by_cases c : i = m
      · subst c
        unfold toldM at ht ⊢
        rw [e11, e1, e9]
        rcases ht with q | ⟨v, q, q2⟩ | ⟨v, q, q2⟩
        · exact Or.inl q
        · exact Or.inr (Or.inl ⟨v, by omega, by rw [(e6 v (by omega)).2.2.2]; exact q2⟩)
        · exact Or.inr (Or.inr ⟨v, q, by rw [xn]; exact q2⟩)
      · exact (toldM_ag (addV_ag c (by omega))).mpr ht
    · exact ⟨m, hm, Or.inr (Or.inl ⟨aVm A m, by omega, by rw [e7, q]⟩)⟩
theorem sumF_1 {f g : Nat → Nat} {m : Nat} : ∀ n, m < n → (∀ i, i ≠ m → f i = g i) → f m = g m + 1 → sumF f n = sumF g n + 1
  | 0, h, _, _ => absurd h (by omega)
  | n + 1, h, e, e1 => by
    show sumF f n + f n = sumF g n + g n + 1
    by_cases c : m = n
    · subst c
      rw [sumF_ext (g := g) m (fun i hi => e i (by omega)), e1]
      omega
    · rw [sumF_1 n (by omega) e e1, e n (by omega)]
      omega
theorem tcN_V {A : Ab} {m w lo hi at_ : Nat} (hm : m < aMM A) (h3 : aMM A ≤ 3) : tcN (addV A m w lo hi at_) = tcN A + 1 := by
  obtain ⟨e1, e2, e3, e4, e5, e6, e7, e8, e9, e10, e11⟩ := addV_m (A := A) (m := m) (w := w) (lo := lo) (hi := hi) (at_ := at_)
  unfold tcN
  rw [addV_mm (by omega)]
  refine sumF_1 _ hm (fun i hi => ?_) ?_
  · rw [(addV_ag hi (by omega)).vm, (addV_ag hi (by omega)).em]
  · rw [e1, e9]; omega
/-- the last step of a variable's bounds -/
noncomputable def bndT (S : Sh) (h : Hp) (c : Nat) (x1 r23 r54 sz : Int32) (Q : Int32 → Hp → Prop) : Prop :=
  (S (gR h c 5)).1 = 3 ∧ inA S (gR h (gR h c 5) 1) 20 x1 ∧ ∀ h120 : Hp, h120 = pI h (gR h (gR h c 5) 1) (ix x1) r23 →
  (S (gR h120 c 5)).1 = 3 ∧ inA S (gR h120 (gR h120 c 5) 2) 20 x1 ∧ ∀ h130 : Hp, h130 = pI h120 (gR h120 (gR h120 c 5) 2) (ix x1) r54 →
  (S (gR h130 c 5)).1 = 3 ∧ wX5_number S h130 c (fun r140 h140 => inA S (gR h130 (gR h130 c 5) 3) 20 x1 ∧ ∀ h143 : Hp, h143 = pI h140 (gR h130 (gR h130 c 5) 3) (ix x1) r140 →
   (S (gR h143 c 5)).1 = 3 ∧ ∀ h150 : Hp, h150 = pI h143 (gR h143 c 5) 12 sz → (S (gR h150 c 5)).1 = 3 ∧ wX5_advance S (pI h150 (gR h150 c 5) 11 (gI h150 (gR h150 c 5) 11 + 1)) c (fun h167 => Q 1 h167))
theorem cBnd {A : Ab} {B : Bx} {S : Sh} {h : Hp} {c N t a m w : Nat} {x1 : Int32} {Q : Int32 → Hp → Prop} {R : Hp → Prop} (st : ∀ h v, R h → R (pI h c 8 v)) (P : Cp B S h c N t) (Rh : R h) (hr : ∀ h, R h → gR h c 5 = a ∧ gI h a 12 = nI (aSz A m)) (hM3 : (S a).1 = 3) (hs : aSz A m ≤ 100)
    (q0 : ∀ e h', pBnd A B m w t = .error e → R h' → Q 0 (cfl h' c e.1 (tkP B e.2)))
    (q1 : ∀ h', pBnd A B m w t = .ok (addV A m w (tkC B (t + 1)) (tkC B (t + 3)) (tkC B (t + 5)), t + 6) → Cp B S h' c N (t + 5) → R h' → tkK B (t + 5) = 303 → tkC B (t + 1) ≤ tkC B (t + 5) → tkC B (t + 5) ≤ tkC B (t + 3) → tkC B (t + 3) ≤ 9 → aSz A m * (tkC B (t + 3) - tkC B (t + 1) + 1) ≤ 100 → bndT S h' c x1 (nI (tkC B (t + 1))) (nI (tkC B (t + 3))) (nI (aSz A m * (tkC B (t + 3) - tkC B (t + 1) + 1))) Q) : wX5_readBounds S h c x1 Q := by
  have hc6 : (S c).1 = 6 := by rw [P.1.1]
  have z1 : (0 : Int32) &&& 1 = 0 := by decide
  unfold pBnd at q1 q0
  refine ⟨hc6, sPass st P Rh (k := 402) (by decide) (by decide) (fun k2 h5 P5 R5 => ⟨fun n => absurd n (by decide), fun _ => ?_⟩) (fun k2 => ⟨fun _ => q0 (1, t) _ (by rw [if_pos k2]) Rh, fun n => absurd rfl n⟩)⟩
  rw [if_neg (fun n => n k2)] at q1 q0
  refine sWhole (lo := 0) (hi := 9) P5 (by decide) (by decide) (fun k3 _ b3 => ⟨fun _ => ?_, fun n => absurd n (by decide)⟩) (fun k3 => ⟨fun n => absurd rfl n, fun _ => q0 (1, t + 1) _ (by rw [if_pos k3]) R5⟩) (fun k3 b3 => ⟨fun n => absurd rfl n, fun _ => q0 (2, t + 1) _ (by rw [if_neg (fun n => n k3), if_pos (by omega)]) R5⟩)
  rw [if_neg (fun n => n k3), if_neg (fun n => n b3)] at q1 q0
  refine cNumb P5 k3 (sAdv st P5 R5 (by omega) fun h6 (P6 : Cp B S h6 c N (t + 2)) R6 => ?_)
  refine sPass st P6 R6 (k := 403) (by decide) (by decide) (fun k4 h7 (P7 : Cp B S h7 c N (t + 3)) R7 => ⟨fun n => absurd n (by decide), fun _ => ?_⟩) (fun k4 => ⟨fun _ => q0 (1, t + 2) _ (by rw [if_pos k4]) R6, fun n => absurd rfl n⟩)
  rw [if_neg (fun n => n k4)] at q1 q0
  refine sWhole (lo := tkC B (t + 1)) (hi := 9) P7 (by omega) (by decide) (fun k5 b5 b5' => ⟨fun _ => ?_, fun n => absurd n (by decide)⟩) (fun k5 => ⟨fun n => absurd rfl n, fun _ => q0 (1, t + 3) _ (by rw [if_pos k5]) R7⟩) (fun k5 b5 => ⟨fun n => absurd rfl n, fun _ => q0 (2, t + 3) _ (by rw [if_neg (fun n => n k5), if_pos b5]) R7⟩)
  rw [if_neg (fun n => n k5), if_neg (fun n => n ⟨b5, b5'⟩)] at q1 q0
  refine cNumb P7 k5 ?_
  rw [(hr _ R7).1]
  refine ⟨hM3, ?_⟩
  have c5 : tkC B (t + 3) - tkC B (t + 1) + 1 ≤ 10 := by omega
  have lmul : aSz A m * (tkC B (t + 3) - tkC B (t + 1) + 1) ≤ 100 * 10 := Nat.mul_le_mul hs c5
  rw [(hr _ R7).2, n_sub b5, nI_1, nI_mul]
  refine nm_e ?_
  by_cases c100 : 100 < aSz A m * (tkC B (t + 3) - tkC B (t + 1) + 1)
  · exact br_f (nI_ge (a := 100) c100 (by omega)) (cFail P7 ⟨z1, q0 (4, t + 3) _ (by rw [if_pos c100]) R7⟩)
  rw [if_neg c100] at q1 q0
  refine br_t (nI_le (b := 100) (by omega) (by decide)) (sAdv st P7 R7 (by omega) fun h8 (P8 : Cp B S h8 c N (t + 4)) R8 => ?_)
  refine sPass st P8 R8 (k := 404) (by decide) (by decide) (fun k6 h9 (P9 : Cp B S h9 c N (t + 5)) R9 => ⟨fun n => absurd n (by decide), fun _ => ?_⟩) (fun k6 => ⟨fun _ => q0 (1, t + 4) _ (by rw [if_pos k6]) R8, fun n => absurd rfl n⟩)
  rw [if_neg (fun n => n k6)] at q1 q0
  refine sWhole (lo := tkC B (t + 1)) (hi := tkC B (t + 3)) P9 (by omega) (by omega) (fun k7 b7 b7' => ⟨fun _ => ?_, fun n => absurd n (by decide)⟩) (fun k7 => ⟨fun n => absurd rfl n, fun _ => q0 (1, t + 5) _ (by rw [if_pos k7]) R9⟩) (fun k7 b7 => ⟨fun n => absurd rfl n, fun _ => q0 (2, t + 5) _ (by rw [if_neg (fun n => n k7), if_pos b7]) R9⟩)
  rw [if_neg (fun n => n k7), if_neg (fun n => n ⟨b7, b7'⟩)] at q1
  exact q1 h9 rfl P9 R9 k7 b7 b7' b5' (by omega)
