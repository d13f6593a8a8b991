theorem cM_eq {A A' : Ab} (h : aMM A' = aMM A) : cM A' = cM A := by unfold cM; rw [h]
theorem cBndT {A : Ab} {B : Bx} {S : Sh} {h0 h9 : Hp} {c D N t cz m lo hi sz : Nat} {Q : Int32 → Hp → Prop} (P9 : Cp B S h9 c N t) (k7 : tkK B t = 303) (W : wdA A) (R9 : RLn A S h0 h9 c D cz m) (hm : m < aMM A) (hv : aVm A m < 3) (hz : cz ≤ t)
    (q : ∀ ha, CLx A B S ha c D N (t + 1) cz m → Bf c D h0 ha → (∀ b k, b ≠ c → gI ha b k = if b = D + 6 + 145 * m ∧ k = 11 then nI (aVm A m + 1) else if b = D + 6 + 145 * m ∧ k = 12 then nI sz else if b = D + 6 + 145 * m + 4 ∧ k = aVm A m then nI (tkC B t) else if b = D + 6 + 145 * m + 3 ∧ k = aVm A m then nI hi else if b = D + 6 + 145 * m + 2 ∧ k = aVm A m then nI lo else gI h9 b k) →
      (∀ b k, gJ ha b k = gJ h9 b k) → gR ha c 5 = D + 6 + 145 * m → gI ha c 7 = gI h9 c 7 → Q 1 ha) : bndT S h9 c (nI (aVm A m)) (nI lo) (nI hi) (nI sz) Q := by
  have h3 := W.1
  have out := R9.2.1.2.2.1
  have M := R9.2.1.1.2.2.2.2.2.2 m (by omega)
  have hM3 : (S (D + 6 + 145 * m)).1 = 3 := by rw [M.1]
  have mr9 := (R9.2.1.2.1.2 m (by omega)).2.1
  have r5 := R9.2.2.1
  have m1 : gR h9 (D + 6 + 145 * m) 1 = D + 6 + 145 * m + 2 := by rw [mr9 1 (by omega)]
  have m2 : gR h9 (D + 6 + 145 * m) 2 = D + 6 + 145 * m + 3 := by rw [mr9 2 (by omega)]
  have m3 : gR h9 (D + 6 + 145 * m) 3 = D + 6 + 145 * m + 4 := by rw [mr9 3 (by omega)]
  have v11 := (R9.2.2.2.2 m hm).2.1
  have X9 : CLx A B S h9 c D N t cz m := ⟨P9, R9.2.1, ⟨R9.2.2.2.1.2, by omega, W.1, fun i hi => (W.2.1 i hi).2.2.1⟩, fun i hi _ => R9.2.2.2.2 i hi⟩
  unfold bndT
  rw [r5, m1, ix_nI (by omega)]
  refine ⟨hM3, inA_of M.2.2.1 (by omega) (by decide), nm_e ?_⟩
  have X1 := X9.mI (b := D + 6 + 145 * m + 2) (k := aVm A m) ⟨by omega, by omega⟩ (by omega) (nI lo)
  have b1 : Bf c D h0 (pI h9 (D + 6 + 145 * m + 2) (aVm A m) (nI lo)) := R9.1.pI (by omega)
  have r51 : gR (pI h9 (D + 6 + 145 * m + 2) (aVm A m) (nI lo)) c 5 = D + 6 + 145 * m := r5
  have m21 : gR (pI h9 (D + 6 + 145 * m + 2) (aVm A m) (nI lo)) (D + 6 + 145 * m) 2 = D + 6 + 145 * m + 3 := m2
  have m31 : gR (pI h9 (D + 6 + 145 * m + 2) (aVm A m) (nI lo)) (D + 6 + 145 * m) 3 = D + 6 + 145 * m + 4 := m3
  have g1 := fun b k => gI_pI h9 (D + 6 + 145 * m + 2) (aVm A m) (nI lo) b k
  have j1 : ∀ b k, gJ (pI h9 (D + 6 + 145 * m + 2) (aVm A m) (nI lo)) b k = gJ h9 b k := fun _ _ => rfl
  generalize pI h9 (D + 6 + 145 * m + 2) (aVm A m) (nI lo) = h1 at X1 b1 r51 m21 m31 g1 j1
  rw [r51, m21]
  refine ⟨hM3, inA_of M.2.2.2.1 (by omega) (by decide), nm_e ?_⟩
  have X2 := X1.mI (b := D + 6 + 145 * m + 3) (k := aVm A m) ⟨by omega, by omega⟩ (by omega) (nI hi)
  have b2 : Bf c D h0 (pI h1 (D + 6 + 145 * m + 3) (aVm A m) (nI hi)) := b1.pI (by omega)
  have r52 : gR (pI h1 (D + 6 + 145 * m + 3) (aVm A m) (nI hi)) c 5 = D + 6 + 145 * m := r51
  have m32 : gR (pI h1 (D + 6 + 145 * m + 3) (aVm A m) (nI hi)) (D + 6 + 145 * m) 3 = D + 6 + 145 * m + 4 := m31
  have g2 := fun b k => gI_pI h1 (D + 6 + 145 * m + 3) (aVm A m) (nI hi) b k
  have j2 : ∀ b k, gJ (pI h1 (D + 6 + 145 * m + 3) (aVm A m) (nI hi)) b k = gJ h1 b k := fun _ _ => rfl
  generalize pI h1 (D + 6 + 145 * m + 3) (aVm A m) (nI hi) = h2 at X2 b2 r52 m32 g2 j2
  rw [r52]
  refine ⟨hM3, cNumb X2.1 k7 ?_⟩
  rw [m32]
  refine ⟨inA_of M.2.2.2.2.1 (by omega) (by decide), nm_e ?_⟩
  have X3 := X2.mI (b := D + 6 + 145 * m + 4) (k := aVm A m) ⟨by omega, by omega⟩ (by omega) (nI (tkC B t))
  have b3 : Bf c D h0 (pI h2 (D + 6 + 145 * m + 4) (aVm A m) (nI (tkC B t))) := b2.pI (by omega)
  have r53 : gR (pI h2 (D + 6 + 145 * m + 4) (aVm A m) (nI (tkC B t))) c 5 = D + 6 + 145 * m := r52
  have g3 := fun b k => gI_pI h2 (D + 6 + 145 * m + 4) (aVm A m) (nI (tkC B t)) b k
  have j3 : ∀ b k, gJ (pI h2 (D + 6 + 145 * m + 4) (aVm A m) (nI (tkC B t))) b k = gJ h2 b k := fun _ _ => rfl
  generalize pI h2 (D + 6 + 145 * m + 4) (aVm A m) (nI (tkC B t)) = h3' at X3 b3 r53 g3 j3
  rw [r53]
  refine ⟨hM3, nm_e ?_⟩
  have X4 := X3.mI (b := D + 6 + 145 * m) (k := 12) ⟨by omega, by omega⟩ (by omega) (nI sz)
  have b4 : Bf c D h0 (pI h3' (D + 6 + 145 * m) 12 (nI sz)) := b3.pI (by omega)
  have r54 : gR (pI h3' (D + 6 + 145 * m) 12 (nI sz)) c 5 = D + 6 + 145 * m := r53
  have g4 := fun b k => gI_pI h3' (D + 6 + 145 * m) 12 (nI sz) b k
  have j4 : ∀ b k, gJ (pI h3' (D + 6 + 145 * m) 12 (nI sz)) b k = gJ h3' b k := fun _ _ => rfl
  generalize pI h3' (D + 6 + 145 * m) 12 (nI sz) = h4 at X4 b4 r54 g4 j4
  rw [r54]
  have v4 : gI h4 (D + 6 + 145 * m) 11 = nI (aVm A m) := by
    rw [g4, if_neg (by omega), g3, if_neg (by omega), g2, if_neg (by omega), g1, if_neg (by omega)]; exact v11
  rw [v4, nI_1]
  refine ⟨hM3, ?_⟩
  have X5 := X4.mI (b := D + 6 + 145 * m) (k := 11) ⟨by omega, by omega⟩ (by omega) (nI (aVm A m + 1))
  have b5 : Bf c D h0 (pI h4 (D + 6 + 145 * m) 11 (nI (aVm A m + 1))) := b4.pI (by omega)
  have g5 := fun b k => gI_pI h4 (D + 6 + 145 * m) 11 (nI (aVm A m + 1)) b k
  have j5 : ∀ b k, gJ (pI h4 (D + 6 + 145 * m) 11 (nI (aVm A m + 1))) b k = gJ h4 b k := fun _ _ => rfl
  have r55 : gR (pI h4 (D + 6 + 145 * m) 11 (nI (aVm A m + 1))) c 5 = D + 6 + 145 * m := r54
  generalize pI h4 (D + 6 + 145 * m) 11 (nI (aVm A m + 1)) = h5 at X5 b5 r55 g5 j5
  refine X5.adv (by omega) fun X6 => q _ X6 (b5.pI (by omega)) (fun b k hb => ?_) (fun b k => ?_) r55 ?_
  · rw [gI_pI, if_neg (fun e => hb e.1), g5, g4, g3, g2, g1]
  · rw [gJ_pI, j5, j4, j3, j2, j1]
  · rw [gI_pI, if_neg (by omega), g5, if_neg (by omega), g4, if_neg (by omega), g3, if_neg (by omega), g2, if_neg (by omega), g1, if_neg (by omega)]
/-- a variable more -/
theorem DrM_V {A : Ab} {h9 ha : Hp} {c D m w lo hi at_ : Nat} (out : c + 6 < D ∨ D + 441 ≤ c) (hm3 : m < 3) (H : DrM A h9 D m) (hz : aLm A m = 0 ∧ aEm A m = 0 ∧ aVt A m = 0) (hv3 : aVm A m < 3) (n9 : gJ h9 (D + 6 + 145 * m + 1) (aVm A m) = lN w)
    (gg : ∀ b k, b ≠ c → gI ha b k = if b = D + 6 + 145 * m ∧ k = 11 then nI (aVm A m + 1) else if b = D + 6 + 145 * m ∧ k = 12 then nI (aSz A m * (hi - lo + 1)) else if b = D + 6 + 145 * m + 4 ∧ k = aVm A m then nI at_ else if b = D + 6 + 145 * m + 3 ∧ k = aVm A m then nI hi else if b = D + 6 + 145 * m + 2 ∧ k = aVm A m then nI lo else gI h9 b k)
    (gj : ∀ b k, gJ ha b k = gJ h9 b k) : DrM (addV A m w lo hi at_) ha D m := by
  obtain ⟨e1, e2, e3, e4, e5, e6, e7, e8, e9, e10, e11⟩ := addV_m (A := A) (m := m) (w := w) (lo := lo) (hi := hi) (at_ := at_)
  obtain ⟨y1, y2, y3, y4, y5, y6, y7, y8, y9, y10⟩ := H
  refine ⟨?_, ?_, ?_, ?_, ?_, fun q => ?_, fun q => absurd (e10.trans hz.2.2) q, fun v hv => ?_, fun l hl => ?_, fun e he => ?_⟩
  · rw [gj, y1]; exact e11.symm
  · rw [gg _ _ (by omega), if_pos ⟨rfl, rfl⟩, e1]
  · rw [gg _ _ (by omega), if_neg (by omega), if_pos ⟨rfl, rfl⟩, e2]
  · rw [gg _ _ (by omega), if_neg (by omega), if_neg (by omega), if_neg (by omega), if_neg (by omega), if_neg (by omega), y4, e8]
  · rw [gg _ _ (by omega), if_neg (by omega), if_neg (by omega), if_neg (by omega), if_neg (by omega), if_neg (by omega), y5, e9]
  · rw [gg _ _ (by omega), if_neg (by omega), if_neg (by omega), if_neg (by omega), if_neg (by omega), if_neg (by omega)]; exact y6 hz.2.2
  · have hv : v < aVm A m + 1 := by rw [e1] at hv; exact hv
    rw [gg _ _ (by omega), gg _ _ (by omega), gg _ _ (by omega), gj]
    by_cases cv' : v = aVm A m
    · subst cv'
      rw [if_neg (by omega), if_neg (by omega), if_neg (by omega), if_neg (by omega), if_pos ⟨rfl, rfl⟩, if_neg (by omega), if_neg (by omega), if_neg (by omega), if_pos ⟨rfl, rfl⟩, if_neg (by omega), if_neg (by omega), if_pos ⟨rfl, rfl⟩, n9]
      exact ⟨by rw [e3], by rw [e4], by rw [e5], e7.symm⟩
    · obtain ⟨o1, o2, o3, o4⟩ := e6 v cv'
      rw [if_neg (by omega), if_neg (by omega), if_neg (by omega), if_neg (by omega), if_neg (by omega), if_neg (by omega), if_neg (by omega), if_neg (by omega), if_neg (by omega), if_neg (by omega), if_neg (by omega), if_neg (by omega), if_neg (by omega), if_neg (by omega), if_neg (by omega), o1, o2, o3, o4]
      exact y8 v (by omega)
  · rw [e8, hz.1] at hl; omega
  · rw [e9, hz.2.1] at he; omega
theorem cVar {A : Ab} {B : Bx} {S : Sh} {h : Hp} {c D N t cz : Nat} {Q : Int32 → Hp → Prop} (L : CL A B S h c D N t cz) (hk : tkK B t = 401)
    (q1 : ∀ x h' cz', pVar A B t = .ok x → Bf c D h h' → CL x.1 B S h' c D N x.2 cz' → Q 1 h') (q0 : ∀ e h', pVar A B t = .error e → Bf c D h h' → gI h' c 2 = nI e.1 → gI h' c 3 = nI (tkP B e.2) → Q 0 h') : wX5_readVariable S h c Q := by
  have R0 := L.rl
  have Pw := fun x (e : pVar A B t = .ok x) => pVar_w L.2.2.2.2.1 e
  obtain ⟨P, K, r5, ⟨d5, d6, hz⟩, W, Dm, ⟨n, T⟩, z0⟩ := L
  obtain ⟨hDS, hDR, out, r4, s6, r1⟩ := K
  have hc6 : (S c).1 = 6 := by rw [P.1.1]
  have hD4 : (S D).1 = 4 := by rw [hDS.1]
  have z1 : (0 : Int32) &&& 1 = 0 := by decide
  have h3 := W.1
  have tl := tcN_le W
  have hn := T.2.1
  unfold pVar at q1 q0 Pw
  unfold wX5_readVariable
  rw [r4, d5, r5]
  refine ⟨hc6, hD4, ?_⟩
  by_cases c0 : aMM A = 0
  · rw [if_pos c0] at q0
    exact ⟨fun n => absurd (by rw [c0]; rfl) n, fun _ => cFail P ⟨z1, q0 _ _ rfl (Bf.rf.fl) cfl_f.1 cfl_f.2⟩⟩
  rw [if_neg c0] at q1 q0 Pw
  have hm := cM_lt c0
  have M := hDS.2.2.2.2.2.2 (cM A) (by omega)
  obtain ⟨w1, w2, w3, w4, w5, w6, w7, w8, w9, w10, w11⟩ := W.2.1 (cM A) hm
  obtain ⟨g1, g2, g3, g4, g5, g6, g7, -⟩ := Dm (cM A) hm
  have hM3 : (S (D + 6 + 145 * cM A)).1 = 3 := by rw [M.1]
  refine ⟨fun _ => ⟨hM3, ?_⟩, fun e => absurd e (nI_ne0 (by omega) (by omega))⟩
  rw [g2]
  by_cases c3 : 3 ≤ aVm A (cM A)
  · rw [if_pos (Or.inl c3)] at q0
    exact br_t (nI_le (a := 3) c3 (by omega)) (cFail P ⟨z1, q0 _ _ rfl (Bf.rf.fl) cfl_f.1 cfl_f.2⟩)
  refine br_f (nI_ge (b := 3) (by omega) (by decide)) ⟨hM3, ?_⟩
  have bad : ∀ {Z : Prop}, (0 < aLm A (cM A) ∨ 0 < aEm A (cM A) ∨ aVt A (cM A) ≠ 0) → ((1 : Int32) = 0 → Z) ∧ (¬ (1 : Int32) = 0 → wX5_fail S h c (4 : Int32) (fun r41 h41 => r41 &&& 1 = r41 ∧ Q r41 h41)) := fun hb => by
    rw [if_pos (Or.inr hb)] at q0
    exact ⟨fun n => absurd n (by decide), fun _ => cFail (f := 4) P ⟨z1, q0 _ _ rfl (Bf.rf.fl) cfl_f.1 cfl_f.2⟩⟩
  unfold wX2_hasOtherLines_j22
  rw [g4, g5]
  by_cases cl : 0 < aLm A (cM A)
  · exact br_t (nI_lt (a := 0) cl (by omega)) (bad (Or.inl cl))
  refine br_f (nI_nlt (b := aLm A (cM A)) (a := 0) (by omega) (by decide)) ?_
  by_cases ce : 0 < aEm A (cM A)
  · exact br_t (nI_lt (a := 0) ce (by omega)) (bad (Or.inr (Or.inl ce)))
  refine br_f (nI_nlt (b := aEm A (cM A)) (a := 0) (by omega) (by decide)) ?_
  by_cases cv : aVt A (cM A) ≠ 0
  · obtain ⟨f, f1, f2⟩ := g7 cv
    obtain ⟨-, -, z, f3, f4, f5⟩ := f2
    exact br_f (by rw [f1]; exact fun e => nI_neg (by omega) e.symm) (bad (Or.inr (Or.inr cv)))
  have cv0 : aVt A (cM A) = 0 := Classical.not_not.mp cv
  rw [if_neg (show ¬ (3 ≤ aVm A (cM A) ∨ 0 < aLm A (cM A) ∨ 0 < aEm A (cM A) ∨ aVt A (cM A) ≠ 0) by omega)] at q1 q0 Pw
  refine br_t (g6 cv0) ⟨fun _ => ?_, fun n => absurd rfl n⟩
  have T1 : ∀ v, Tol A (pI h c 8 v) c n := fun v => T.same (by rw [gI_pI, if_neg (by omega)]) (fun _ => rfl) rfl (fun _ => Iff.rfl)
  refine cAdv P (by omega) fun P1 => ?_
  have R1 := R0.cI (k := 8) (v := nI (t + 1)) W
  have T1 := T1 (nI (t + 1))
  generalize pI h c 8 (nI (t + 1)) = h1 at P1 R1 T1
  refine cNew P1 s6 R1.2.1.2.2.2.2.2 T1 (by omega) (fun k1 => ?_) (fun k1 ht => ?_) (fun k1 ht => ?_)
  · rw [if_pos k1] at q0
    exact ⟨fun n => absurd rfl n, fun _ => q0 _ _ rfl R1.1.fl cfl_f.1 cfl_f.2⟩
  · rw [if_neg (fun n => n k1), if_pos (toldB_t.mpr ht)] at q0
    exact ⟨fun n => absurd rfl n, fun _ => q0 _ _ rfl R1.1.fl cfl_f.1 cfl_f.2⟩
  rw [if_neg (fun n => n k1), if_neg (fun q => ht (toldB_t.mp q))] at q1 q0 Pw
  refine ⟨fun _ => ?_, fun n => absurd n (by decide)⟩
  have R2 := (R1.nJ (k := n) (v := lN (tkC B (t + 1))) W).cI (k := 7) (v := nI (n + 1)) W
  have T2 := T1.pend (w := tkC B (t + 1))
  have P2 : Cp B S (pI (pJ h1 (c + 6) n (lN (tkC B (t + 1)))) c 7 (nI (n + 1))) c N (t + 1) := ⟨P1.1.of ((Sm.rf.pJ (by omega) _ _).pI (by omega) _ _) rfl, by rw [gI_pI, if_neg (by omega), gI_pJ]; exact P1.2.1, P1.2.2⟩
  generalize pI (pJ h1 (c + 6) n (lN (tkC B (t + 1)))) c 7 (nI (n + 1)) = h2 at R2 T2 P2
  rw [R2.2.2.1]
  refine ⟨hM3, cCode P2 k1 ?_⟩
  have mr := R2.2.1.2.1.2 (cM A) (by omega)
  rw [mr.2.1 0 (by omega), ix_nI (by omega), Nat.add_zero]
  refine ⟨inA_of M.2.1 (by omega) (by decide), ?_⟩
  have R3 := R2.vJ (k := aVm A (cM A)) (v := lN (tkC B (t + 1))) W hm (Nat.le_refl _)
  have T3 : TolP A (pJ h2 (D + 6 + 145 * cM A + 1) (aVm A (cM A)) (lN (tkC B (t + 1)))) c n (tkC B (t + 1)) := by
    refine ⟨T2.1, T2.2.1, fun u => ?_⟩
    rw [← T2.2.2 u]
    have : ∀ i, gJ (pJ h2 (D + 6 + 145 * cM A + 1) (aVm A (cM A)) (lN (tkC B (t + 1)))) (c + 6) i = gJ h2 (c + 6) i := fun i => by rw [gJ_pJ, if_neg (by omega)]
    simp only [this]
  have P3 : Cp B S (pJ h2 (D + 6 + 145 * cM A + 1) (aVm A (cM A)) (lN (tkC B (t + 1)))) c N (t + 1) := ⟨P2.1.of (Sm.rf.pJ (by omega) _ _) rfl, P2.2.1, P2.2.2⟩
  have n3 : gJ (pJ h2 (D + 6 + 145 * cM A + 1) (aVm A (cM A)) (lN (tkC B (t + 1)))) (D + 6 + 145 * cM A + 1) (aVm A (cM A)) = lN (tkC B (t + 1)) := by rw [gJ_pJ, if_pos ⟨rfl, rfl⟩]
  generalize pJ h2 (D + 6 + 145 * cM A + 1) (aVm A (cM A)) (lN (tkC B (t + 1))) = h3' at R3 T3 P3 n3
  have st : ∀ (h' : Hp) (v : Int32), (RLn A S h h' c D cz (cM A) ∧ TolP A h' c n (tkC B (t + 1)) ∧ gJ h' (D + 6 + 145 * cM A + 1) (aVm A (cM A)) = lN (tkC B (t + 1))) → (RLn A S h (pI h' c 8 v) c D cz (cM A) ∧ TolP A (pI h' c 8 v) c n (tkC B (t + 1)) ∧ gJ (pI h' c 8 v) (D + 6 + 145 * cM A + 1) (aVm A (cM A)) = lN (tkC B (t + 1))) :=
    fun h' v H => ⟨H.1.cI W, ⟨by rw [gI_pI, if_neg (by omega)]; exact H.2.1.1, H.2.1.2.1, H.2.1.2.2⟩, H.2.2⟩
  refine sAdv st P3 ⟨R3, T3, n3⟩ (by omega) fun h4 (P4 : Cp B S h4 c N (t + 2)) R4 => ?_
  refine cBnd (A := A) (m := cM A) (w := tkC B (t + 1)) (a := D + 6 + 145 * cM A) st P4 R4 (fun h' H => ⟨H.1.2.2.1, (H.1.2.2.2.2 (cM A) hm).2.2.1⟩) hM3 w5 (fun e h' he H => ⟨z1, q0 e _ he H.1.1.fl cfl_f.1 cfl_f.2⟩) (fun h9 ok P9 R9 k7 b1 b2 b3 b4 => ?_)
  refine cBndT P9 k7 W R9.1 hm (by omega) (by omega) fun ha Xa Ba gg gj r5a g7 => ⟨by decide, q1 _ ha cz ok Ba ?_⟩
  have emm : aMM (addV A (cM A) (tkC B (t + 1)) (tkC B (t + 2 + 1)) (tkC B (t + 2 + 3)) (tkC B (t + 2 + 5))) = aMM A := addV_mm (by omega)
  have cm : cM (addV A (cM A) (tkC B (t + 1)) (tkC B (t + 2 + 1)) (tkC B (t + 2 + 3)) (tkC B (t + 2 + 5))) = cM A := cM_eq emm
  refine ⟨Xa.1, Xa.2.1, by rw [cm]; exact r5a, ⟨?_, Xa.2.2.1.1, Xa.2.2.1.2.1⟩, Pw _ ok, fun i hi => ?_, ⟨n + 1, ?_⟩, fun q => absurd (emm.symm.trans q) c0⟩
  · show gI _ D 5 = nI (aMM _)
    rw [emm, gg _ _ (by omega), if_neg (by omega), if_neg (by omega), if_neg (by omega), if_neg (by omega), if_neg (by omega)]
    exact R9.1.2.2.2.1.1
  · have hi : i < aMM A := by have := hi; rw [emm] at this; exact this
    by_cases ci : i = cM A
    · subst ci
      exact DrM_V out (by omega) (R9.1.2.2.2.2 (cM A) hm) ⟨by omega, by omega, cv0⟩ (by omega) R9.2.2 gg gj
    · exact (Xa.2.2.2 i hi ci).of (W.2.1 i hi).2.2.1 (addV_ag ci (by omega)) (fun q q1 q2 k => ⟨rfl, rfl⟩) (fun f L H => H)
  · exact R9.2.1.done g7 (fun i => gj _ _) (tcN_V hm h3) (told_V hm h3)
