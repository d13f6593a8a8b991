/-! THE CLASS READS LINES -/
/-- all but the reader, its tokens and names, and the draft is as it was -/
def Bf (c D : Nat) (h h' : Hp) : Prop := (∀ b, ¬ (c ≤ b ∧ b ≤ c + 6) → ¬ (D ≤ b ∧ b < D + 441) → ∀ k, gI h' b k = gI h b k ∧ gJ h' b k = gJ h b k) ∧ ∀ b k, ¬ (b = c ∧ (k = 4 ∨ k = 5 ∨ k = 6)) → gR h' b k = gR h b k
theorem Bf.rf {c D : Nat} {h : Hp} : Bf c D h h := ⟨fun _ _ _ _ => ⟨rfl, rfl⟩, fun _ _ _ => rfl⟩
theorem Bf.tr {c D : Nat} {h1 h2 h3 : Hp} (a : Bf c D h1 h2) (b : Bf c D h2 h3) : Bf c D h1 h3 := ⟨fun q p1 p2 k => ⟨(b.1 q p1 p2 k).1.trans (a.1 q p1 p2 k).1, (b.1 q p1 p2 k).2.trans (a.1 q p1 p2 k).2⟩, fun q k p => (b.2 q k p).trans (a.2 q k p)⟩
theorem Bf.pI {c D b k : Nat} {h h' : Hp} {v : Int32} (a : Bf c D h h') (hb : (c ≤ b ∧ b ≤ c + 6) ∨ (D ≤ b ∧ b < D + 441)) : Bf c D h (pI h' b k v) := ⟨fun q p1 p2 j => ⟨by rw [gI_pI, if_neg (by omega)]; exact (a.1 q p1 p2 j).1, (a.1 q p1 p2 j).2⟩, a.2⟩
theorem Bf.pJ {c D b k : Nat} {h h' : Hp} {v : Int64} (a : Bf c D h h') (hb : (c ≤ b ∧ b ≤ c + 6) ∨ (D ≤ b ∧ b < D + 441)) : Bf c D h (pJ h' b k v) := ⟨fun q p1 p2 j => ⟨(a.1 q p1 p2 j).1, by rw [gJ_pJ, if_neg (by omega)]; exact (a.1 q p1 p2 j).2⟩, a.2⟩
theorem Bf.pR {c D k v : Nat} {h h' : Hp} (a : Bf c D h h') (hk : k = 4 ∨ k = 5 ∨ k = 6) : Bf c D h (pR h' c k v) := ⟨a.1, fun q j p => by rw [gR_pR, if_neg (fun e => p ⟨e.1, by omega⟩)]; exact a.2 q j p⟩
theorem Bf.fx {c D cz : Nat} {h h' : Hp} (f : Fx c D cz h h') : Bf c D h h' := ⟨fun b p1 p2 k => ⟨f.1 b (by omega) (by omega) (by omega) k, f.2.2.1 b k⟩, fun b k _ => f.2.1 b k⟩
theorem Bf.fl {c D f p : Nat} {h h' : Hp} (a : Bf c D h h') : Bf c D h (cfl h' c f p) := (a.pI (by omega)).pI (by omega)
def tcN (A : Ab) : Nat := sumF (fun m => 1 + aVm A m + aEm A m) (aMM A)
/-- the names told -/
def Tol (A : Ab) (h : Hp) (c n : Nat) : Prop := gI h c 7 = nI n ∧ n = tcN A ∧ ∀ w, (∃ i, i < n ∧ gJ h (c + 6) i = w) ↔ told_ A w
def CK (S : Sh) (h : Hp) (c D : Nat) : Prop := DS S D ∧ DR h D ∧ (c + 6 < D ∨ D + 441 ≤ c) ∧ gR h c 4 = D ∧ S (c + 6) = (23, 24) ∧ gR h c 1 = c + 6
def CL (A : Ab) (B : Bx) (S : Sh) (h : Hp) (c D N t cz : Nat) : Prop := Cp B S h c N t ∧ CK S h c D ∧ gR h c 5 = D + 6 + 145 * cM A ∧ (gI h D 5 = nI (aMM A) ∧ gI h D 6 = nI cz ∧ cz ≤ t) ∧ wdA A ∧ (∀ m, m < aMM A → DrM A h D m) ∧ (∃ n, Tol A h c n) ∧ (aMM A = 0 → gI h (D + 6) 11 = 0)
theorem CK.bf {S : Sh} {h h' : Hp} {c D : Nat} (H : CK S h c D) (b : Bf c D h h') (e : gR h' c 4 = D) : CK S h' c D := by
  obtain ⟨h1, h2, h3, h4, h5, h6⟩ := H
  exact ⟨h1, h2.of (fun q q1 q2 k => b.2 q k (by omega)), h3, e, h5, by rw [b.2 c 1 (by omega)]; exact h6⟩
theorem sumF_le {f : Nat → Nat} {b : Nat} : ∀ n, (∀ i, i < n → f i ≤ b) → sumF f n ≤ b * n
  | 0, _ => Nat.zero_le _
  | n + 1, h => by
    have := sumF_le n (fun i hi => h i (by omega))
    have := h n (by omega)
    show sumF f n + f n ≤ b * (n + 1)
    rw [Nat.mul_add]
    omega
theorem tcN_le {A : Ab} (H : wdA A) : tcN A ≤ 8 * aMM A ∧ (aMM A ≠ 0 → tcN A ≤ 8 * (aMM A - 1) + 1 + aVm A (cM A) + aEm A (cM A)) := by
  have h1 : ∀ i, i < aMM A → 1 + aVm A i + aEm A i ≤ 8 := fun i hi => by
    obtain ⟨w1, w2, w3, -⟩ := H.2.1 i hi
    omega
  refine ⟨sumF_le _ h1, fun h0 => ?_⟩
  obtain ⟨j, hj⟩ : ∃ j, aMM A = j + 1 := ⟨aMM A - 1, by omega⟩
  have := sumF_le (f := fun m => 1 + aVm A m + aEm A m) j (fun i hi => h1 i (by omega))
  unfold tcN cM
  rw [hj]
  show sumF _ j + (1 + aVm A j + aEm A j) ≤ _
  rw [Nat.add_sub_cancel]
  omega
theorem cNew {A : Ab} {B : Bx} {S : Sh} {h : Hp} {c N t n : Nat} {Q : Int32 → Hp → Prop} (P : Cp B S h c N t) (h6 : S (c + 6) = (23, 24)) (r1 : gR h c 1 = c + 6) (T : Tol A h c n) (hn : n < 24)
    (q1 : tkK B t ≠ 302 → Q 0 (cfl h c 1 (tkP B t))) (q3 : tkK B t = 302 → told_ A (lN (tkC B t)) → Q 0 (cfl h c 3 (tkP B t)))
    (q0 : tkK B t = 302 → ¬ told_ A (lN (tkC B t)) → Q 1 (pI (pJ h (c + 6) n (lN (tkC B t))) c 7 (nI (n + 1)))) : wX5_isNewName S h c Q := by
  have hc6 : (S c).1 = 6 := by rw [P.1.1]
  have z1 : (0 : Int32) &&& 1 = 0 := by decide
  refine ⟨hc6, cKind P ?_⟩
  rw [show (302 : Int32) = nI 302 from rfl, kEq P (by decide)]
  refine ⟨fun k0 => ?_, fun k0 => cFail P ⟨z1, q1 k0⟩⟩
  have lp : ∀ (j i : Nat), i + j = n → (∀ u, u < i → gJ h (c + 6) u ≠ lN (tkC B t)) → wX5_isNewName_18 S c Q (j + 1) h (nI i) := by
    intro j
    induction j with
    | zero =>
      intro i hi hu
      show wX5_isNewName_18b S c Q _ h (nI i)
      unfold wX5_isNewName_18b wX5_isNewName_j52
      rw [T.1, r1, ix_nI (by omega)]
      refine ⟨hc6, br_t (nI_le (by omega) (by omega)) ⟨hc6, br_f (nI_ge (b := 24) (by omega) (by decide)) (cCode P k0 ⟨inA_of h6 (by omega) (by decide), nm_e ?_⟩)⟩⟩
      rw [gI_pJ, T.1, nI_1]
      refine q0 k0 fun ht => ?_
      obtain ⟨u, u1, u2⟩ := (T.2.2 _).mpr ht
      exact hu u (by omega) u2
    | succ j ih =>
      intro i hi hu
      show wX5_isNewName_18b S c Q (wX5_isNewName_18 S c Q (j + 1)) h (nI i)
      unfold wX5_isNewName_18b
      rw [T.1, r1, ix_nI (by omega), nI_1]
      refine ⟨hc6, br_f (nI_ge (by omega) (by omega)) ⟨inA_of h6 (by omega) (by decide), cCode P k0 ?_⟩⟩
      rw [lg_cmp_eq]
      refine ⟨fun ne => ih (i + 1) (by omega) (fun u hu' => ?_), fun e => cFail P ⟨z1, q3 k0 ((T.2.2 _).mp ⟨i, by omega, e⟩)⟩⟩
      by_cases c' : u = i
      · rw [c']; exact ne
      · exact hu u (by omega)
  exact ⟨_, lp n 0 (by omega) (fun u hu => absurd hu (by omega))⟩
theorem toldB_t {A : Ab} {w : Int64} : toldB A w = true ↔ told_ A w := by unfold toldB; exact @decide_eq_true_iff _ (Classical.propDecidable _)
/-- one more name -/
theorem Tol.add {A A' : Ab} {h h' : Hp} {c n w : Nat} (T : Tol A h c n) (e7 : gI h' c 7 = nI (n + 1)) (ej : ∀ i, gJ h' (c + 6) i = if i = n then lN w else gJ h (c + 6) i) (et : tcN A' = tcN A + 1) (ew : ∀ u, told_ A' u ↔ (told_ A u ∨ u = lN w)) : Tol A' h' c (n + 1) := by
  refine ⟨e7, by rw [et, ← T.2.1], fun u => ?_⟩
  rw [ew, ← T.2.2 u]
  constructor
  · rintro ⟨i, i1, i2⟩
    rw [ej] at i2
    by_cases q : i = n
    · rw [if_pos q] at i2; exact Or.inr i2.symm
    · rw [if_neg q] at i2; exact Or.inl ⟨i, by omega, i2⟩
  · rintro (⟨i, i1, i2⟩ | q)
    · exact ⟨i, by omega, by rw [ej, if_neg (by omega)]; exact i2⟩
    · exact ⟨n, by omega, by rw [ej, if_pos rfl, q]⟩
theorem Tol.same {A A' : Ab} {h h' : Hp} {c n : Nat} (T : Tol A h c n) (e7 : gI h' c 7 = gI h c 7) (ej : ∀ i, gJ h' (c + 6) i = gJ h (c + 6) i) (et : tcN A' = tcN A) (ew : ∀ u, told_ A' u ↔ told_ A u) : Tol A' h' c n :=
  ⟨e7.trans T.1, T.2.1.trans et.symm, fun u => by simp only [ej]; rw [ew]; exact T.2.2 u⟩
theorem Cgr.of {D cz cz' : Nat} {h h' : Hp} (e : gI h D 6 = nI cz) (e' : gI h' D 6 = nI cz') (hz : cz ≤ cz') (hz' : cz' ≤ 601) (s : ∀ j, j < cz → gI h' (D + 2) j = gI h (D + 2) j) : Cgr D h h' := by
  intro f L H
  obtain ⟨h1, h2, z, h3, h4, h5⟩ := H
  have ez : z = cz := (nI_eq (by omega) (by omega)).mp (h3.symm.trans e)
  subst ez
  refine ⟨fun i c hc => ?_, ?_, cz', e', by omega, hz'⟩
  · have := (List.getElem?_eq_some_iff.mp hc).1
    rw [s _ (by omega)]; exact h1 i c hc
  · rw [s _ (by omega)]; exact h2
theorem toldM_ag {A A' : Ab} {m : Nat} {w : Int64} (ag : AgM A A' m) : toldM A' w m ↔ toldM A w m := by
  unfold toldM
  rw [ag.mn, ag.vm, ag.em]
  simp only [ag.vn, ag.xn]
theorem sumF_ext {f g : Nat → Nat} : ∀ n, (∀ i, i < n → f i = g i) → sumF f n = sumF g n
  | 0, _ => rfl
  | n + 1, h => by
    show sumF f n + f n = sumF g n + g n
    rw [sumF_ext n (fun i hi => h i (by omega)), h n (by omega)]
theorem told_M {A : Ab} {w : Nat} (u : Int64) : told_ (addM A w) u ↔ (told_ A u ∨ u = lN w) := by
  obtain ⟨e0, e1, e2, e3, e4, e5, e6⟩ := addM_m (A := A) (w := w)
  unfold told_
  rw [e0]
  constructor
  · rintro ⟨m, hm, ht⟩
    by_cases c : m = aMM A
    · subst c
      right
      unfold toldM at ht
      rw [e6, e1, e4] at ht
      rcases ht with q | ⟨v, q, -⟩ | ⟨v, q, -⟩
      · exact q.symm
      · omega
      · omega
    · exact Or.inl ⟨m, by omega, (toldM_ag (addM_ag c)).mp ht⟩
  · rintro (⟨m, hm, ht⟩ | q)
    · exact ⟨m, by omega, (toldM_ag (addM_ag (by omega))).mpr ht⟩
    · exact ⟨aMM A, by omega, Or.inl (by rw [e6, q])⟩
theorem tcN_M {A : Ab} {w : Nat} : tcN (addM A w) = tcN A + 1 := by
  obtain ⟨e0, e1, e2, e3, e4, e5, e6⟩ := addM_m (A := A) (w := w)
  unfold tcN
  rw [e0]
  show sumF _ (aMM A) + (1 + aVm (addM A w) (aMM A) + aEm (addM A w) (aMM A)) = _
  rw [e1, e4, sumF_ext (g := fun m => 1 + aVm A m + aEm A m)]
  intro i hi
  rw [(addM_ag (by omega)).vm, (addM_ag (by omega)).em]
/-- between two lines: all but the machine m -/
def CLx (A : Ab) (B : Bx) (S : Sh) (h : Hp) (c D N t cz m : Nat) : Prop := Cp B S h c N t ∧ CK S h c D ∧ (gI h D 6 = nI cz ∧ cz ≤ t ∧ aMM A ≤ 3 ∧ ∀ i, i < aMM A → aEm A i ≤ 4) ∧ ∀ i, i < aMM A → i ≠ m → DrM A h D i
theorem Cgr.rf {D : Nat} {h h' : Hp} (e : gI h' D 6 = gI h D 6) (s : ∀ j, gI h' (D + 2) j = gI h (D + 2) j) : Cgr D h h' := fun f L H => by
  obtain ⟨h1, h2, z, h3, h4, h5⟩ := H
  exact ⟨fun i c hc => by rw [s]; exact h1 i c hc, by rw [s]; exact h2, z, e.trans h3, h4, h5⟩
theorem CL.x {A : Ab} {B : Bx} {S : Sh} {h : Hp} {c D N t cz : Nat} (L : CL A B S h c D N t cz) (m : Nat) : CLx A B S h c D N t cz m := by
  obtain ⟨P, K, r5, ⟨d5, d6, hz⟩, W, Dm, T, z0⟩ := L
  exact ⟨P, K, ⟨d6, hz, W.1, fun i hi => (W.2.1 i hi).2.2.1⟩, fun i hi _ => Dm i hi⟩
section
variable {A : Ab} {B : Bx} {S : Sh} {h : Hp} {c D N t cz m b k : Nat}
theorem CLx.mI (X : CLx A B S h c D N t cz m) (hb : D + 6 + 145 * m ≤ b ∧ b < D + 6 + 145 * m + 31) (hm : m < 3) (v : Int32) : CLx A B S (pI h b k v) c D N t cz m := by
  obtain ⟨P, K, ⟨d6, hz, h3, h4⟩, Dm⟩ := X
  have out := K.2.2.1
  refine ⟨⟨P.1.of (Sm.rf.pI (by omega) _ _) rfl, by rw [gI_pI, if_neg (by omega)]; exact P.2.1, P.2.2⟩, K.bf (Bf.rf.pI (by omega)) K.2.2.2.1, ⟨by rw [gI_pI, if_neg (by omega)]; exact d6, hz, h3, h4⟩, fun i hi hm' => ?_⟩
  exact (Dm i hi hm').of (h4 i hi) AgM.rf (fun q q1 q2 k => ⟨by rw [gI_pI, if_neg (by omega)], rfl⟩) (Cgr.rf (by rw [gI_pI, if_neg (by omega)]) (fun j => by rw [gI_pI, if_neg (by omega)]))
theorem CLx.mJ (X : CLx A B S h c D N t cz m) (hb : (D + 6 + 145 * m ≤ b ∧ b < D + 6 + 145 * m + 31) ∨ b = c + 6) (hm : m < 3) (v : Int64) : CLx A B S (pJ h b k v) c D N t cz m := by
  obtain ⟨P, K, ⟨d6, hz, h3, h4⟩, Dm⟩ := X
  have out := K.2.2.1
  refine ⟨⟨P.1.of (Sm.rf.pJ (by omega) _ _) rfl, P.2.1, P.2.2⟩, K.bf (Bf.rf.pJ (by omega)) K.2.2.2.1, ⟨d6, hz, h3, h4⟩, fun i hi hm' => ?_⟩
  exact (Dm i hi hm').of (h4 i hi) AgM.rf (fun q q1 q2 k => ⟨rfl, by rw [gJ_pJ, if_neg (by omega)]⟩) (Cgr.rf rfl (fun j => rfl))
theorem CLx.cI (X : CLx A B S h c D N t cz m) (hk : k ≠ 8) (v : Int32) : CLx A B S (pI h c k v) c D N t cz m := by
  obtain ⟨P, K, ⟨d6, hz, h3, h4⟩, Dm⟩ := X
  have out := K.2.2.1
  refine ⟨⟨P.1.of (Sm.rf.pI (by omega) _ _) rfl, by rw [gI_pI, if_neg (by omega)]; exact P.2.1, P.2.2⟩, K.bf (Bf.rf.pI (by omega)) K.2.2.2.1, ⟨by rw [gI_pI, if_neg (by omega)]; exact d6, hz, h3, h4⟩, fun i hi hm' => ?_⟩
  exact (Dm i hi hm').of (h4 i hi) AgM.rf (fun q q1 q2 k => ⟨by rw [gI_pI, if_neg (by omega)], rfl⟩) (Cgr.rf (by rw [gI_pI, if_neg (by omega)]) (fun j => by rw [gI_pI, if_neg (by omega)]))
theorem CLx.d5 (X : CLx A B S h c D N t cz m) (v : Int32) : CLx A B S (pI h D 5 v) c D N t cz m := by
  obtain ⟨P, K, ⟨d6, hz, h3, h4⟩, Dm⟩ := X
  have out := K.2.2.1
  refine ⟨⟨P.1.of (Sm.rf.pI (by omega) _ _) rfl, by rw [gI_pI, if_neg (by omega)]; exact P.2.1, P.2.2⟩, K.bf (Bf.rf.pI (by omega)) K.2.2.2.1, ⟨by rw [gI_pI, if_neg (by omega)]; exact d6, hz, h3, h4⟩, fun i hi hm' => ?_⟩
  exact (Dm i hi hm').of (h4 i hi) AgM.rf (fun q q1 q2 k => ⟨by rw [gI_pI, if_neg (by omega)], rfl⟩) (Cgr.rf (by rw [gI_pI, if_neg (by omega)]) (fun j => by rw [gI_pI, if_neg (by omega)]))
theorem CLx.cR {v : Nat} (X : CLx A B S h c D N t cz m) (hk : k = 5 ∨ k = 6) : CLx A B S (pR h c k v) c D N t cz m := by
  obtain ⟨P, K, ⟨d6, hz, h3, h4⟩, Dm⟩ := X
  have out := K.2.2.1
  refine ⟨⟨P.1.of (Sm.rf.pR (by omega) _ _) (by rw [gR_pR, if_neg (by omega)]), P.2.1, P.2.2⟩, K.bf (Bf.rf.pR (by omega)) (by rw [gR_pR, if_neg (by omega)]; exact K.2.2.2.1), ⟨d6, hz, h3, h4⟩, fun i hi hm' => ?_⟩
  exact (Dm i hi hm').of (h4 i hi) AgM.rf (fun q q1 q2 k => ⟨rfl, rfl⟩) (Cgr.rf rfl (fun j => rfl))
theorem CLx.adv {Q : Hp → Prop} (X : CLx A B S h c D N t cz m) (hk : tkK B t ≠ 300) (q : CLx A B S (pI h c 8 (nI (t + 1))) c D N (t + 1) cz m → Q (pI h c 8 (nI (t + 1)))) : wX5_advance S h c Q := by
  obtain ⟨P, K, ⟨d6, hz, h3, h4⟩, Dm⟩ := X
  have out := K.2.2.1
  refine cAdv P hk fun P1 => q ⟨P1, K.bf (Bf.rf.pI (by omega)) K.2.2.2.1, ⟨by rw [gI_pI, if_neg (by omega)]; exact d6, by omega, h3, h4⟩, fun i hi hm' => ?_⟩
  exact (Dm i hi hm').of (h4 i hi) AgM.rf (fun q q1 q2 k => ⟨by rw [gI_pI, if_neg (by omega)], rfl⟩) (Cgr.rf (by rw [gI_pI, if_neg (by omega)]) (fun j => by rw [gI_pI, if_neg (by omega)]))
end
theorem cMch {A : Ab} {B : Bx} {S : Sh} {h : Hp} {c D N t cz : Nat} {Q : Int32 → Hp → Prop} (L : CL A B S h c D N t cz) (hk : tkK B t = 400)
    (q1 : ∀ x h' cz', pMch A B t = .ok x → Bf c D h h' → CL x.1 B S h' c D N x.2 cz' → Q 1 h') (q0 : ∀ e h', pMch A B t = .error e → Bf c D h h' → gI h' c 2 = nI e.1 → gI h' c 3 = nI (tkP B e.2) → Q 0 h') : wX5_readMachine S h c Q := by
  have X := L.x (aMM A)
  have Pw := fun x (e : pMch A B t = .ok x) => pMch_w L.2.2.2.2.1 e
  obtain ⟨P, K, r5, ⟨d5, d6, hz⟩, W, Dm, ⟨n, T⟩, z0⟩ := L
  obtain ⟨hDS, hDR, out, r4, s6, r1⟩ := K
  have hc6 : (S c).1 = 6 := by rw [P.1.1]
  have hD4 : (S D).1 = 4 := by rw [hDS.1]
  have nn := P.n
  have z1 : (0 : Int32) &&& 1 = 0 := by decide
  have h3 := W.1
  have tl := tcN_le W
  have hn := T.2.1
  unfold pMch at q1 q0 Pw
  unfold wX5_readMachine
  rw [r4, d5, r5]
  refine ⟨hc6, hD4, ?_⟩
  by_cases c1 : 3 ≤ aMM A
  · rw [if_pos c1] at q0
    exact br_f (nI_nlt (b := 3) c1 (by omega)) (cFail P ⟨z1, q0 _ _ rfl (Bf.rf.fl) cfl_f.1 cfl_f.2⟩)
  rw [if_neg c1] at q1 q0 Pw
  refine br_t (nI_lt (b := 3) (by omega) (by decide)) ?_
  have j43 : ¬ (0 < aMM A ∧ aVm A (cM A) = 0) → wX5_readMachine_j43 S h c Q := by
    intro c2
    rw [if_neg c2] at q1 q0 Pw
    refine ⟨hc6, X.adv (by omega) fun X1 => ?_⟩
    have b1 : Bf c D h (pI h c 8 (nI (t + 1))) := Bf.rf.pI (by omega)
    have T1 : Tol A (pI h c 8 (nI (t + 1))) c n := T.same (by rw [gI_pI, if_neg (by omega)]) (fun _ => rfl) rfl (fun _ => Iff.rfl)
    have f1 : gI (pI h c 8 (nI (t + 1))) D 5 = nI (aMM A) := by rw [gI_pI, if_neg (by omega)]; exact d5
    generalize pI h c 8 (nI (t + 1)) = h1 at X1 b1 T1 f1
    refine cNew X1.1 X1.2.1.2.2.2.2.1 X1.2.1.2.2.2.2.2 T1 (by omega) (fun k1 => ?_) (fun k1 ht => ?_) (fun k1 ht => ?_)
    · rw [if_pos k1] at q0
      exact ⟨fun n => absurd rfl n, fun _ => q0 _ _ rfl b1.fl cfl_f.1 cfl_f.2⟩
    · rw [if_neg (fun n => n k1), if_pos (toldB_t.mpr ht)] at q0
      exact ⟨fun n => absurd rfl n, fun _ => q0 _ _ rfl b1.fl cfl_f.1 cfl_f.2⟩
    · rw [if_neg (fun n => n k1), if_neg (fun q => ht (toldB_t.mp q))] at q1 Pw
      refine ⟨fun _ => ?_, fun n => absurd n (by decide)⟩
      have X2 := (X1.mJ (k := n) (Or.inr rfl) (by omega) (lN (tkC B (t + 1)))).cI (k := 7) (by omega) (nI (n + 1))
      have b2 : Bf c D h (pI (pJ h1 (c + 6) n (lN (tkC B (t + 1)))) c 7 (nI (n + 1))) := (b1.pJ (by omega)).pI (by omega)
      have T2 : Tol (addM A (tkC B (t + 1))) (pI (pJ h1 (c + 6) n (lN (tkC B (t + 1)))) c 7 (nI (n + 1))) c (n + 1) := T1.add (by rw [gI_pI, if_pos ⟨rfl, rfl⟩]) (fun i => by rw [gJ_pI, gJ_pJ]; simp) tcN_M told_M
      have f2 : gI (pI (pJ h1 (c + 6) n (lN (tkC B (t + 1)))) c 7 (nI (n + 1))) D 5 = nI (aMM A) := by rw [gI_pI, if_neg (by omega), gI_pJ]; exact f1
      generalize pI (pJ h1 (c + 6) n (lN (tkC B (t + 1)))) c 7 (nI (n + 1)) = h2 at X2 b2 T2 f2
      obtain ⟨-, hDR2, -, r42, -⟩ := X2.2.1
      have hDm := hDR2.2 (aMM A) (by omega)
      have M := hDS.2.2.2.2.2.2 (aMM A) (by omega)
      rw [r42, f2, hDR2.1 0 (by omega), ix_nI (by omega), Nat.add_zero, hDm.1]
      refine ⟨hD4, inA_of hDS.2.1 (by omega) (by decide), nm_e ?_⟩
      have X3 := X2.cR (k := 5) (v := D + 6 + 145 * aMM A) (by omega)
      have b3 : Bf c D h (pR h2 c 5 (D + 6 + 145 * aMM A)) := b2.pR (by omega)
      have r53 : gR (pR h2 c 5 (D + 6 + 145 * aMM A)) c 5 = D + 6 + 145 * aMM A := by rw [gR_pR, if_pos ⟨rfl, rfl⟩]
      have f3 : gI (pR h2 c 5 (D + 6 + 145 * aMM A)) D 5 = nI (aMM A) := f2
      have T3 : Tol (addM A (tkC B (t + 1))) (pR h2 c 5 (D + 6 + 145 * aMM A)) c (n + 1) := T2
      generalize pR h2 c 5 (D + 6 + 145 * aMM A) = h3' at X3 b3 r53 f3 T3
      refine cCode X3.1 k1 ?_
      rw [r53]
      refine ⟨by rw [M.1], ⟨by rw [M.1], nm_e (nm_e (nm_e (nm_e (nm_e ?_))))⟩⟩
      have X4 := (((((X3.mJ (b := D + 6 + 145 * aMM A) (k := 10) (Or.inl ⟨by omega, by omega⟩) (by omega) (lN (tkC B (t + 1)))).mI (b := D + 6 + 145 * aMM A) (k := 11) ⟨by omega, by omega⟩ (by omega) 0).mI (b := D + 6 + 145 * aMM A) (k := 12) ⟨by omega, by omega⟩ (by omega) 1).mI (b := D + 6 + 145 * aMM A) (k := 13) ⟨by omega, by omega⟩ (by omega) 0).mI (b := D + 6 + 145 * aMM A) (k := 14) ⟨by omega, by omega⟩ (by omega) 0).mI (b := D + 6 + 145 * aMM A) (k := 15) ⟨by omega, by omega⟩ (by omega) (-1)
      have b4 : Bf c D h (pI (pI (pI (pI (pI (pJ h3' (D + 6 + 145 * aMM A) 10 (lN (tkC B (t + 1)))) (D + 6 + 145 * aMM A) 11 0) (D + 6 + 145 * aMM A) 12 1) (D + 6 + 145 * aMM A) 13 0) (D + 6 + 145 * aMM A) 14 0) (D + 6 + 145 * aMM A) 15 (-1)) :=
        (((((b3.pJ (by omega)).pI (by omega)).pI (by omega)).pI (by omega)).pI (by omega)).pI (by omega)
      have g4 : gJ (pI (pI (pI (pI (pI (pJ h3' (D + 6 + 145 * aMM A) 10 (lN (tkC B (t + 1)))) (D + 6 + 145 * aMM A) 11 0) (D + 6 + 145 * aMM A) 12 1) (D + 6 + 145 * aMM A) 13 0) (D + 6 + 145 * aMM A) 14 0) (D + 6 + 145 * aMM A) 15 (-1)) (D + 6 + 145 * aMM A) 10 = lN (tkC B (t + 1)) ∧
          gI (pI (pI (pI (pI (pI (pJ h3' (D + 6 + 145 * aMM A) 10 (lN (tkC B (t + 1)))) (D + 6 + 145 * aMM A) 11 0) (D + 6 + 145 * aMM A) 12 1) (D + 6 + 145 * aMM A) 13 0) (D + 6 + 145 * aMM A) 14 0) (D + 6 + 145 * aMM A) 15 (-1)) (D + 6 + 145 * aMM A) 11 = 0 ∧
          gI (pI (pI (pI (pI (pI (pJ h3' (D + 6 + 145 * aMM A) 10 (lN (tkC B (t + 1)))) (D + 6 + 145 * aMM A) 11 0) (D + 6 + 145 * aMM A) 12 1) (D + 6 + 145 * aMM A) 13 0) (D + 6 + 145 * aMM A) 14 0) (D + 6 + 145 * aMM A) 15 (-1)) (D + 6 + 145 * aMM A) 12 = 1 ∧
          gI (pI (pI (pI (pI (pI (pJ h3' (D + 6 + 145 * aMM A) 10 (lN (tkC B (t + 1)))) (D + 6 + 145 * aMM A) 11 0) (D + 6 + 145 * aMM A) 12 1) (D + 6 + 145 * aMM A) 13 0) (D + 6 + 145 * aMM A) 14 0) (D + 6 + 145 * aMM A) 15 (-1)) (D + 6 + 145 * aMM A) 13 = 0 ∧
          gI (pI (pI (pI (pI (pI (pJ h3' (D + 6 + 145 * aMM A) 10 (lN (tkC B (t + 1)))) (D + 6 + 145 * aMM A) 11 0) (D + 6 + 145 * aMM A) 12 1) (D + 6 + 145 * aMM A) 13 0) (D + 6 + 145 * aMM A) 14 0) (D + 6 + 145 * aMM A) 15 (-1)) (D + 6 + 145 * aMM A) 14 = 0 ∧
          gI (pI (pI (pI (pI (pI (pJ h3' (D + 6 + 145 * aMM A) 10 (lN (tkC B (t + 1)))) (D + 6 + 145 * aMM A) 11 0) (D + 6 + 145 * aMM A) 12 1) (D + 6 + 145 * aMM A) 13 0) (D + 6 + 145 * aMM A) 14 0) (D + 6 + 145 * aMM A) 15 (-1)) (D + 6 + 145 * aMM A) 15 = -1 := by
        simp [gI_pI, gJ_pI, gJ_pJ]
      have f4 : gI (pI (pI (pI (pI (pI (pJ h3' (D + 6 + 145 * aMM A) 10 (lN (tkC B (t + 1)))) (D + 6 + 145 * aMM A) 11 0) (D + 6 + 145 * aMM A) 12 1) (D + 6 + 145 * aMM A) 13 0) (D + 6 + 145 * aMM A) 14 0) (D + 6 + 145 * aMM A) 15 (-1)) D 5 = nI (aMM A) := by
        simp only [gI_pI, gI_pJ]
        repeat rw [if_neg (by omega)]
        exact f3
      have T4 : Tol (addM A (tkC B (t + 1))) (pI (pI (pI (pI (pI (pJ h3' (D + 6 + 145 * aMM A) 10 (lN (tkC B (t + 1)))) (D + 6 + 145 * aMM A) 11 0) (D + 6 + 145 * aMM A) 12 1) (D + 6 + 145 * aMM A) 13 0) (D + 6 + 145 * aMM A) 14 0) (D + 6 + 145 * aMM A) 15 (-1)) c (n + 1) := by
        refine T3.same ?_ (fun i => ?_) rfl (fun _ => Iff.rfl)
        · simp only [gI_pI, gI_pJ]
          repeat rw [if_neg (by omega)]
        · simp only [gJ_pI, gJ_pJ]
          rw [if_neg (by omega)]
      have r54 : gR (pI (pI (pI (pI (pI (pJ h3' (D + 6 + 145 * aMM A) 10 (lN (tkC B (t + 1)))) (D + 6 + 145 * aMM A) 11 0) (D + 6 + 145 * aMM A) 12 1) (D + 6 + 145 * aMM A) 13 0) (D + 6 + 145 * aMM A) 14 0) (D + 6 + 145 * aMM A) 15 (-1)) c 5 = D + 6 + 145 * aMM A := r53
      generalize pI (pI (pI (pI (pI (pJ h3' (D + 6 + 145 * aMM A) 10 (lN (tkC B (t + 1)))) (D + 6 + 145 * aMM A) 11 0) (D + 6 + 145 * aMM A) 12 1) (D + 6 + 145 * aMM A) 13 0) (D + 6 + 145 * aMM A) 14 0) (D + 6 + 145 * aMM A) 15 (-1) = h4 at X4 b4 g4 f4 T4 r54
      show (S (gR h4 c 4)).1 = 4 ∧ wX5_advance S (pI h4 (gR h4 c 4) 5 (gI h4 (gR h4 c 4) 5 + 1)) c (fun h100 => Q 1 h100)
      rw [X4.2.1.2.2.2.1]
      refine ⟨hD4, ?_⟩
      rw [f4, nI_1]
      refine (X4.d5 (nI (aMM A + 1))).adv (by omega) fun X5 => q1 _ _ cz rfl ((b4.pI (by omega)).pI (by omega)) ?_
      obtain ⟨e0, e1, e2, e3, e4, e5, e6⟩ := addM_m (A := A) (w := tkC B (t + 1))
      have cm : cM (addM A (tkC B (t + 1))) = aMM A := by unfold cM; rw [e0]; rfl
      obtain ⟨g41, g42, g43, g44, g45, g46⟩ := g4
      refine ⟨X5.1, X5.2.1, by rw [cm]; exact r54, ⟨?_, X5.2.2.1.1, X5.2.2.1.2.1⟩, Pw _ rfl, fun i hi => ?_, ⟨n + 1, ?_⟩, fun q => ?_⟩
      · show gI _ D 5 = nI (aMM A + 1)
        rw [gI_pI, if_neg (by omega), gI_pI, if_pos ⟨rfl, rfl⟩]
      · have hi : i < aMM A + 1 := hi
        by_cases ci : i = aMM A
        · subst ci
          refine ⟨?_, ?_, ?_, ?_, ?_, fun _ => ?_, fun q => absurd e5 q, fun v hv => ?_, fun l hl => ?_, fun e he => ?_⟩
          · rw [gJ_pI, gJ_pI, g41]; exact e6.symm
          · rw [gI_pI, if_neg (by omega), gI_pI, if_neg (by omega), g42]; rw [e1]; rfl
          · rw [gI_pI, if_neg (by omega), gI_pI, if_neg (by omega), g43]; rw [e2]; rfl
          · rw [gI_pI, if_neg (by omega), gI_pI, if_neg (by omega), g44]; rw [e3]; rfl
          · rw [gI_pI, if_neg (by omega), gI_pI, if_neg (by omega), g45]; rw [e4]; rfl
          · rw [gI_pI, if_neg (by omega), gI_pI, if_neg (by omega), g46]
          · have := hv; rw [e1] at this; omega
          · have := hl; rw [e3] at this; omega
          · have := he; rw [e4] at this; omega
        · exact (X5.2.2.2 i (by omega) ci).of (X5.2.2.1.2.2.2 i (by omega)) (addM_ag ci) (fun q q1 q2 k => ⟨rfl, rfl⟩) (fun f L H => H)
      · refine T4.same ?_ (fun i => rfl) rfl (fun _ => Iff.rfl)
        rw [gI_pI, if_neg (by omega), gI_pI, if_neg (by omega)]
      · have : aMM A + 1 = 0 := q
        omega
  by_cases c0 : 0 < aMM A
  · refine br_f (nI_ge (a := 0) c0 (by omega)) ⟨by rw [(hDS.2.2.2.2.2.2 (cM A) (by unfold cM; omega)).1], ?_⟩
    rw [(Dm (cM A) (cM_lt (by omega))).2.1]
    have v3 := (W.2.1 (cM A) (cM_lt (by omega))).1
    by_cases cv : aVm A (cM A) = 0
    · rw [if_pos ⟨c0, cv⟩] at q0
      refine ⟨fun n => absurd (by rw [cv]; rfl) n, fun _ => cFail P ⟨z1, q0 _ _ rfl (Bf.rf.fl) cfl_f.1 cfl_f.2⟩⟩
    · exact ⟨fun _ => j43 (fun q => cv q.2), fun e => absurd e (nI_ne0 (by omega) (by omega))⟩
  · exact br_t (nI_le (b := 0) (by omega) (by decide)) (j43 (fun q => c0 q.1))
