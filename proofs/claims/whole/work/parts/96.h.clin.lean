theorem cCodeX {A : Ab} {B : Bx} {S : Sh} {h : Hp} {c D N m k t cz : Nat} {P : Int32 → Prop} {X : Nat → Nat → PR} {W : Hp → (Int32 → Hp → Prop) → Prop} {Qe Qo : Hp → Prop} (pg : PG A B m k P X) (hX : CX A B S c D N m k X W) (E : CE A B S h c D N m k t 0 cz) (hz : cz + 1 ≤ t)
    (q1 : ∀ x h', X t 0 = .ok x → Fx c D cz h h' → Cp B S h' c N x.1 → gI h' D 6 = nI (cz + x.2.2.length + 1) → cz + x.2.2.length + 1 ≤ x.1 → t < x.1 → CCd h' D cz x.2.2 → Cgr D h h' → Qo h')
    (q0 : ∀ e h', X t 0 = .error e → Fx c D cz h h' → gI h' c 2 = nI e.1 → gI h' c 3 = nI (tkP B e.2) → Qe h') :
    W h (fun r h1 => (r = 0 → Qe h1) ∧ (¬ r = 0 → wX5_stopCode S h1 c (fun r2 h2 => (r2 = 0 → Qe h2) ∧ (¬ r2 = 0 → Qo h2)))) := by
  have hN := E.1.1.2.2.2.2.2.2.2.2.2.2.1
  have nn := E.1.n
  refine hX h t 0 cz _ E (by omega) (by omega) (fun x h' ex f E' ap => ⟨fun n => absurd n (by decide), fun _ => ?_⟩) (fun e h' ex f e2 e3 => ⟨fun _ => q0 e h' ex f e2 e3, fun n => absurd rfl n⟩)
  obtain ⟨y1, y2, y3, y4, y5, -⟩ := (pg N t 0 hN nn.2 (by omega)).1 x ex
  unfold wX5_stopCode
  rw [E'.2.1.2.2.1]
  refine ⟨by rw [E'.1.1.1], by rw [E'.2.1.2.1.1], E'.emit (v := 3000) (by omega) fun h2 f2 E2 w2 => ⟨fun n => absurd n (by decide), fun _ => ?_⟩⟩
  have f3 := f.tr f2 (by omega)
  refine q1 x h2 ex f3 E2.1 E2.2.2.2 (by omega) y1 ⟨fun i y hy => ?_, w2, _, E2.2.2.2, by omega, by omega⟩ (Cgr.of E.2.2.2 E2.2.2.2 (by omega) (by omega) (fun j hj => f3.2.2.2.2.2 j hj))
  exact (ap.fx f2 (by omega)) i y hy
theorem RLn.cn {A : Ab} {S : Sh} {h0 h : Hp} {c D cz k : Nat} (W : wdA A) (c0 : aMM A ≠ 0) (R : RLn A S h0 h c D cz (cM A)) (f10 : gI h c 10 = bI (decide (k = 0))) (f11 : gI h c 11 = bI (decide (k = 1))) : CN A S h c D (cM A) k := by
  have h3 := W.1
  have hm := cM_lt c0
  obtain ⟨b, K, r5, ⟨d5, d6⟩, Dm⟩ := R
  refine ⟨by omega, K.1, K.2.2.2.1, r5, f10, f11, ?_, K.2.1.1 0 (by omega), K.2.1.1 1 (by omega), fun i hi => ⟨(K.2.1.2 i hi).1, ?_⟩, fun i hi => ⟨(W.2.1 i (by omega)).1, (Dm i (by omega)).2.1, fun v hv => ((Dm i (by omega)).2.2.2.2.2.2.2.1 v hv).2.2.2⟩, K.2.2.1⟩
  · rw [d5]
    congr 1
    unfold cM
    omega
  · rw [(K.2.1.2 i hi).2.1 0 (by omega)]
/-- a write into the machine that is told, and the code -/
theorem CL.mk {A A' : Ab} {B : Bx} {S : Sh} {h0 h h' : Hp} {c D N t cz cz' n : Nat} (W : wdA A) (W' : wdA A') (c0 : aMM A ≠ 0) (R : RLn A S h0 h c D cz (cM A)) (emm : aMM A' = aMM A) (P : Cp B S h' c N t) (hr : ∀ b k, gR h' b k = gR h b k) (d5 : gI h' D 5 = gI h D 5) (d6 : gI h' D 6 = nI cz') (hz : cz' ≤ t) (cg : Cgr D h h')
    (s : ∀ i, i < aMM A → i ≠ cM A → ∀ b, D + 6 + 145 * i ≤ b → b < D + 6 + 145 * i + 31 → ∀ k, gI h' b k = gI h b k ∧ gJ h' b k = gJ h b k) (ag : ∀ i, i < aMM A → i ≠ cM A → AgM A A' i) (dm : DrM A' h' D (cM A)) (tol : Tol A' h' c n) : CL A' B S h' c D N t cz' := by
  obtain ⟨b, K, r5, ⟨e5, e6⟩, Dm⟩ := R
  have cm := cM_eq emm
  refine ⟨P, ⟨K.1, K.2.1.of (fun q _ _ k => hr q k), K.2.2.1, by rw [hr]; exact K.2.2.2.1, K.2.2.2.2.1, by rw [hr]; exact K.2.2.2.2.2⟩, by rw [cm, hr]; exact r5, ⟨by rw [emm, d5]; exact e5, d6, hz⟩, W', fun i hi => ?_, ⟨n, tol⟩, fun q => absurd (emm.symm.trans q) c0⟩
  rw [emm] at hi
  by_cases ci : i = cM A
  · rw [ci]; exact dm
  · exact (Dm i hi).of (W.2.1 i hi).2.2.1 (ag i hi ci) (s i hi ci) cg
theorem told_L {A : Ab} {m : Nat} {c : Cd} (u : Int64) : told_ (addL A m c) u ↔ told_ A u := by
  obtain ⟨e0, e1, e2, e3, e4, e5, e6, e7, e8, e9, e10⟩ := addL_m (A := A) (m := m) (c := c)
  have vm : ∀ i, aVm (addL A m c) i = aVm A i := fun i => by simp [aVm, addL]
  have em : ∀ i, aEm (addL A m c) i = aEm A i := fun i => by simp [aEm, addL]
  unfold told_ toldM
  rw [e0]
  simp only [vm, em]
  exact Iff.rfl
theorem tcN_L {A : Ab} {m : Nat} {c : Cd} : tcN (addL A m c) = tcN A := by
  have vm : ∀ i, aVm (addL A m c) i = aVm A i := fun i => by simp [aVm, addL]
  have em : ∀ i, aEm (addL A m c) i = aEm A i := fun i => by simp [aEm, addL]
  unfold tcN
  rw [addL_m.1]
  simp only [vm, em]
theorem told_T {A : Ab} {m : Nat} {c : Cd} (u : Int64) : told_ (addT A m c) u ↔ told_ A u := by
  have vm : ∀ i, aVm (addT A m c) i = aVm A i := fun i => by simp [aVm, addT]
  have em : ∀ i, aEm (addT A m c) i = aEm A i := fun i => by simp [aEm, addT]
  unfold told_ toldM
  rw [addT_m.1]
  simp only [vm, em]
  exact Iff.rfl
theorem tcN_T {A : Ab} {m : Nat} {c : Cd} : tcN (addT A m c) = tcN A := by
  have vm : ∀ i, aVm (addT A m c) i = aVm A i := fun i => by simp [aVm, addT]
  have em : ∀ i, aEm (addT A m c) i = aEm A i := fun i => by simp [aEm, addT]
  unfold tcN
  rw [addT_m.1]
  simp only [vm, em]
/-- the machine's own lines, but for laws and variant -/
theorem DrM_L {A : Ab} {h h' : Hp} {D m cz : Nat} {L : Cd} (H : DrM A h D m) (cg : Cgr D h h') (gj : ∀ b k, gJ h' b k = gJ h b k) (gg : ∀ b, D + 6 + 145 * m ≤ b → b < D + 6 + 145 * m + 31 → ∀ k, gI h' b k = if b = D + 6 + 145 * m ∧ k = 13 then nI (aLm A m + 1) else if b = D + 6 + 145 * m + 5 ∧ k = aLm A m then nI cz else gI h b k)
    (he : aEm A m ≤ 4) (cc : CCd h' D cz L) : DrM (addL A m L) h' D m := by
  obtain ⟨e0, e1, e2, e3, e4, e5, e6, e7, e8, e9, e10⟩ := addL_m (A := A) (m := m) (c := L)
  obtain ⟨y1, y2, y3, y4, y5, y6, y7, y8, y9, y10⟩ := H
  have g0 : ∀ k, k ≠ 13 → gI h' (D + 6 + 145 * m) k = gI h (D + 6 + 145 * m) k := fun k hk => by rw [gg _ (by omega) (by omega), if_neg (by omega), if_neg (by omega)]
  have gx : ∀ j, 1 ≤ j → j < 31 → j ≠ 5 → ∀ k, gI h' (D + 6 + 145 * m + j) k = gI h (D + 6 + 145 * m + j) k := fun j h1 h2 h3 k => by rw [gg _ (by omega) (by omega), if_neg (by omega), if_neg (by omega)]
  refine ⟨?_, ?_, ?_, ?_, ?_, fun q => ?_, fun q => ?_, fun v hv => ?_, fun l hl => ?_, fun e he' => ?_⟩
  · rw [gj, y1]; rfl
  · rw [g0 11 (by omega), y2, e1]
  · rw [g0 12 (by omega), y3, e2]
  · rw [gg _ (by omega) (by omega), if_pos ⟨rfl, rfl⟩, e3]
  · rw [g0 14 (by omega), y5, e4]
  · rw [e5] at q; rw [g0 15 (by omega)]; exact y6 q
  · rw [e5] at q
    obtain ⟨f, f1, f2⟩ := y7 q
    exact ⟨f, by rw [g0 15 (by omega)]; exact f1, by rw [show aVc (addL A m L) m = aVc A m from congrFun (congrFun (e9 3 (by decide)) _) 0]; exact cg _ _ f2⟩
  · rw [e1] at hv
    rw [gx 2 (by omega) (by omega) (by omega), gx 3 (by omega) (by omega) (by omega), gx 4 (by omega) (by omega) (by omega), gj]
    have := y8 v hv
    rw [← show aLo (addL A m L) m v = aLo A m v from congrFun (e8 2 (by decide)) v, ← show aHi (addL A m L) m v = aHi A m v from congrFun (e8 3 (by decide)) v, ← show aAt (addL A m L) m v = aAt A m v from congrFun (e8 4 (by decide)) v] at this
    exact this
  · rw [e3] at hl
    by_cases cl : l = aLm A m
    · subst cl
      exact ⟨cz, by rw [gg _ (by omega) (by omega), if_neg (by omega), if_pos ⟨rfl, rfl⟩], by rw [e6]; exact cc⟩
    · obtain ⟨f, f1, f2⟩ := y9 l (by omega)
      exact ⟨f, by rw [gg _ (by omega) (by omega), if_neg (by omega), if_neg (by omega)]; exact f1, by rw [e7 l cl]; exact cg _ _ f2⟩
  · rw [e4] at he'
    obtain ⟨z1, z2, z3, z4, z5, z6, ⟨f, z7, z8⟩, z9⟩ := y10 e he'
    have ee : ∀ k, gI h' (D + 6 + 145 * m + 11 + 5 * e) k = gI h (D + 6 + 145 * m + 11 + 5 * e) k := fun k => by rw [gg _ (by omega) (by omega), if_neg (by omega), if_neg (by omega)]
    have ee1 : ∀ k, gI h' (D + 6 + 145 * m + 11 + 5 * e + 1) k = gI h (D + 6 + 145 * m + 11 + 5 * e + 1) k := fun k => by rw [gg _ (by omega) (by omega), if_neg (by omega), if_neg (by omega)]
    have oi : aOI (addL A m L) m e = aOI A m e := by
      unfold aOI
      rw [show aOe (addL A m L) m e = aOe A m e from congrFun (e8 9 (by decide)) e]
    rw [gj, ee, ee, ee, ee, ee, oi, show aFp (addL A m L) m e = aFp A m e from congrFun (e8 10 (by decide)) e, show aLp (addL A m L) m e = aLp A m e from congrFun (e8 11 (by decide)) e, show aGb (addL A m L) m e = aGb A m e from congrFun (e8 12 (by decide)) e, show aAs (addL A m L) m e = aAs A m e from congrFun (e8 13 (by decide)) e, show aGc (addL A m L) m e = aGc A m e from congrFun (congrFun (e9 1 (by decide)) _) e]
    refine ⟨z1, z2, z3, z4, z5, z6, ⟨f, by rw [ee]; exact z7, cg _ _ z8⟩, fun v hv hb => ?_⟩
    rw [e1] at hv
    obtain ⟨f, f1, f2⟩ := z9 v hv hb
    exact ⟨f, by rw [ee1]; exact f1, by rw [show aSc (addL A m L) m e v = aSc A m e v from congrFun (congrFun (e9 2 (by decide)) _) v]; exact cg _ _ f2⟩
theorem DrM_T {A : Ab} {h h' : Hp} {D m cz : Nat} {L : Cd} (H : DrM A h D m) (cg : Cgr D h h') (gj : ∀ b k, gJ h' b k = gJ h b k) (gg : ∀ b, D + 6 + 145 * m ≤ b → b < D + 6 + 145 * m + 31 → ∀ k, gI h' b k = if b = D + 6 + 145 * m ∧ k = 15 then nI cz else gI h b k)
    (he : aEm A m ≤ 4) (cc : CCd h' D cz L) : DrM (addT A m L) h' D m := by
  obtain ⟨e0, e1, e2, e3, e4, e5, e6, e8, e9, e10⟩ := addT_m (A := A) (m := m) (c := L)
  obtain ⟨y1, y2, y3, y4, y5, y6, y7, y8, y9, y10⟩ := H
  have g0 : ∀ k, k ≠ 15 → gI h' (D + 6 + 145 * m) k = gI h (D + 6 + 145 * m) k := fun k hk => by rw [gg _ (by omega) (by omega), if_neg (by omega)]
  have gx : ∀ j, 1 ≤ j → j < 31 → ∀ k, gI h' (D + 6 + 145 * m + j) k = gI h (D + 6 + 145 * m + j) k := fun j h1 h2 k => by rw [gg _ (by omega) (by omega), if_neg (by omega)]
  refine ⟨?_, ?_, ?_, ?_, ?_, fun q => ?_, fun q => ?_, fun v hv => ?_, fun l hl => ?_, fun e he' => ?_⟩
  · rw [gj, y1]; rfl
  · rw [g0 11 (by omega), y2, e1]
  · rw [g0 12 (by omega), y3, e2]
  · rw [g0 13 (by omega), y4, e3]
  · rw [g0 14 (by omega), y5, e4]
  · rw [e5] at q; cases q
  · exact ⟨cz, by rw [gg _ (by omega) (by omega), if_pos ⟨rfl, rfl⟩], by rw [e6]; exact cc⟩
  · rw [e1] at hv
    rw [gx 2 (by omega) (by omega), gx 3 (by omega) (by omega), gx 4 (by omega) (by omega), gj]
    have := y8 v hv
    rw [← show aLo (addT A m L) m v = aLo A m v from congrFun (e8 2 (by decide)) v, ← show aHi (addT A m L) m v = aHi A m v from congrFun (e8 3 (by decide)) v, ← show aAt (addT A m L) m v = aAt A m v from congrFun (e8 4 (by decide)) v] at this
    exact this
  · rw [e3] at hl
    obtain ⟨f, f1, f2⟩ := y9 l hl
    exact ⟨f, by rw [gx 5 (by omega) (by omega)]; exact f1, by rw [show aLc (addT A m L) m l = aLc A m l from congrFun (congrFun (e9 0 (by decide)) _) l]; exact cg _ _ f2⟩
  · rw [e4] at he'
    obtain ⟨z1, z2, z3, z4, z5, z6, ⟨f, z7, z8⟩, z9⟩ := y10 e he'
    have ee : ∀ k, gI h' (D + 6 + 145 * m + 11 + 5 * e) k = gI h (D + 6 + 145 * m + 11 + 5 * e) k := fun k => by rw [gg _ (by omega) (by omega), if_neg (by omega)]
    have ee1 : ∀ k, gI h' (D + 6 + 145 * m + 11 + 5 * e + 1) k = gI h (D + 6 + 145 * m + 11 + 5 * e + 1) k := fun k => by rw [gg _ (by omega) (by omega), if_neg (by omega)]
    have oi : aOI (addT A m L) m e = aOI A m e := by
      unfold aOI
      rw [show aOe (addT A m L) m e = aOe A m e from congrFun (e8 9 (by decide)) e]
    rw [gj, ee, ee, ee, ee, ee, oi, show aFp (addT A m L) m e = aFp A m e from congrFun (e8 10 (by decide)) e, show aLp (addT A m L) m e = aLp A m e from congrFun (e8 11 (by decide)) e, show aGb (addT A m L) m e = aGb A m e from congrFun (e8 12 (by decide)) e, show aAs (addT A m L) m e = aAs A m e from congrFun (e8 13 (by decide)) e, show aGc (addT A m L) m e = aGc A m e from congrFun (congrFun (e9 1 (by decide)) _) e]
    refine ⟨z1, z2, z3, z4, z5, z6, ⟨f, by rw [ee]; exact z7, cg _ _ z8⟩, fun v hv hb => ?_⟩
    rw [e1] at hv
    obtain ⟨f, f1, f2⟩ := z9 v hv hb
    exact ⟨f, by rw [ee1]; exact f1, by rw [show aSc (addT A m L) m e v = aSc A m e v from congrFun (congrFun (e9 2 (by decide)) _) v]; exact cg _ _ f2⟩
theorem cLaw {A : Ab} {B : Bx} {S : Sh} {h : Hp} {c D N t cz : Nat} {Q : Int32 → Hp → Prop} (L : CL A B S h c D N t cz) (hk : tkK B t = 405) (f10 : gI h c 10 = 1) (f11 : gI h c 11 = 0)
    (q1 : ∀ x h' cz', pLaw A B t = .ok x → Bf c D h h' → CL x.1 B S h' c D N x.2 cz' → Q 1 h') (q0 : ∀ e h', pLaw A B t = .error e → Bf c D h h' → gI h' c 2 = nI e.1 → gI h' c 3 = nI (tkP B e.2) → Q 0 h') : wX5_readLaw S h c Q := by
  have R0 := L.rl
  have hN := L.1.1.2.2.2.2.2.2.2.2.2.2.1
  have nn := L.1.n
  have Pw := fun x (e : pLaw A B t = .ok x) => pLaw_w hN nn.1 nn.2 (by omega) L.2.2.2.2.1 e
  obtain ⟨P, K, r5, ⟨d5, d6, hz⟩, W, Dm, ⟨n, T⟩, z0⟩ := L
  obtain ⟨hDS, hDR, out, r4, s6, r1⟩ := K
  have hc6 : (S c).1 = 6 := by rw [P.1.1]
  have z1 : (0 : Int32) &&& 1 = 0 := by decide
  have h3 := W.1
  have M := hDS.2.2.2.2.2.2 (cM A) (by unfold cM; omega)
  have hM3 : (S (D + 6 + 145 * cM A)).1 = 3 := by rw [M.1]
  unfold pLaw at q1 q0 Pw
  unfold wX5_readLaw
  rw [r5]
  refine ⟨hc6, hM3, ?_⟩
  by_cases c1 : aMM A = 0 ∨ aVm A (cM A) = 0
  · rw [if_pos c1] at q0
    have e11 : gI h (D + 6 + 145 * cM A) 11 = 0 := by
      by_cases c0 : aMM A = 0
      · have : cM A = 0 := by unfold cM; omega
        rw [this]; exact z0 c0
      · rw [(Dm (cM A) (cM_lt c0)).2.1, c1.resolve_left c0]; rfl
    exact ⟨fun n => absurd e11 n, fun _ => cFail P ⟨z1, q0 _ _ rfl (Bf.rf.fl) cfl_f.1 cfl_f.2⟩⟩
  rw [if_neg c1] at q1 q0 Pw
  have c0 : aMM A ≠ 0 := fun e => c1 (Or.inl e)
  have hm := cM_lt c0
  obtain ⟨w1, w2, w3, -⟩ := W.2.1 (cM A) hm
  rw [(Dm (cM A) hm).2.1, (Dm (cM A) hm).2.2.2.1]
  refine ⟨fun _ => ?_, fun e => absurd e (nI_ne0 (by omega) (by omega))⟩
  by_cases c4 : 4 ≤ aLm A (cM A)
  · rw [if_pos c4] at q0
    exact br_f (nI_nlt (b := 4) c4 (by omega)) (cFail P ⟨z1, q0 _ _ rfl (Bf.rf.fl) cfl_f.1 cfl_f.2⟩)
  rw [if_neg c4] at q1 q0 Pw
  refine br_t (nI_lt (b := 4) (by omega) (by decide)) (cAdv P (by omega) fun P1 => ?_)
  have R1 := R0.cI (k := 8) (v := nI (t + 1)) W
  have F1 : gI (pI h c 8 (nI (t + 1))) c 10 = 1 ∧ gI (pI h c 8 (nI (t + 1))) c 11 = 0 := ⟨by rw [gI_pI, if_neg (by omega)]; exact f10, by rw [gI_pI, if_neg (by omega)]; exact f11⟩
  have T1 : Tol A (pI h c 8 (nI (t + 1))) c n := T.same (by rw [gI_pI, if_neg (by omega)]) (fun _ => rfl) rfl (fun _ => Iff.rfl)
  generalize pI h c 8 (nI (t + 1)) = h1 at P1 R1 F1 T1
  rw [R1.2.2.1]
  have mr1 := (R1.2.1.2.1.2 (cM A) (by omega)).2.1
  rw [mr1 4 (by omega), (R1.2.2.2.2 (cM A) hm).2.2.2.1]
  refine ⟨hM3, hc6, nm_e ?_⟩
  have R2 := R1.cI (k := 9) (v := 0) W
  have P2 : Cp B S (pI h1 c 9 0) c N (t + 1) := ⟨P1.1.of (Sm.rf.pI (by omega) _ _) rfl, by rw [gI_pI, if_neg (by omega)]; exact P1.2.1, P1.2.2⟩
  have F2 : gI (pI h1 c 9 0) c 10 = 1 ∧ gI (pI h1 c 9 0) c 11 = 0 ∧ gI (pI h1 c 9 0) c 9 = 0 := ⟨by rw [gI_pI, if_neg (by omega)]; exact F1.1, by rw [gI_pI, if_neg (by omega)]; exact F1.2, by rw [gI_pI, if_pos ⟨rfl, rfl⟩]⟩
  have T2 : Tol A (pI h1 c 9 0) c n := T1.same (by rw [gI_pI, if_neg (by omega)]) (fun _ => rfl) rfl (fun _ => Iff.rfl)
  generalize pI h1 c 9 0 = h2 at P2 R2 F2 T2
  rw [R2.2.1.2.2.2.1]
  refine ⟨by rw [hDS.1], ?_⟩
  rw [R2.2.2.2.1.2, ix_nI (by omega), show D + 6 + 145 * cM A + 1 + 4 = D + 6 + 145 * cM A + 5 by omega]
  refine ⟨inA_of M.2.2.2.2.2.1 (by omega) (by decide), nm_e ?_⟩
  have r53 : gR (pI h2 (D + 6 + 145 * cM A + 5) (aLm A (cM A)) (nI cz)) c 5 = D + 6 + 145 * cM A := R2.2.2.1
  rw [r53]
  have v13 : gI (pI h2 (D + 6 + 145 * cM A + 5) (aLm A (cM A)) (nI cz)) (D + 6 + 145 * cM A) 13 = nI (aLm A (cM A)) := by
    rw [gI_pI, if_neg (by omega)]; exact (R2.2.2.2.2 (cM A) hm).2.2.2.1
  rw [v13, nI_1]
  refine ⟨hM3, ?_⟩
  have gg : ∀ b k, gI (pI (pI h2 (D + 6 + 145 * cM A + 5) (aLm A (cM A)) (nI cz)) (D + 6 + 145 * cM A) 13 (nI (aLm A (cM A) + 1))) b k = if b = D + 6 + 145 * cM A ∧ k = 13 then nI (aLm A (cM A) + 1) else if b = D + 6 + 145 * cM A + 5 ∧ k = aLm A (cM A) then nI cz else gI h2 b k := fun b k => by rw [gI_pI, gI_pI]
  have X2 : CLx A B S h2 c D N (t + 1) cz (cM A) := ⟨P2, R2.2.1, ⟨R2.2.2.2.1.2, by omega, W.1, fun i hi => (W.2.1 i hi).2.2.1⟩, fun i hi _ => R2.2.2.2.2 i hi⟩
  have X3 := (X2.mI (b := D + 6 + 145 * cM A + 5) (k := aLm A (cM A)) ⟨by omega, by omega⟩ (by omega) (nI cz)).mI (b := D + 6 + 145 * cM A) (k := 13) ⟨by omega, by omega⟩ (by omega) (nI (aLm A (cM A) + 1))
  have b3 : Bf c D h (pI (pI h2 (D + 6 + 145 * cM A + 5) (aLm A (cM A)) (nI cz)) (D + 6 + 145 * cM A) 13 (nI (aLm A (cM A) + 1))) := (R2.1.pI (by omega)).pI (by omega)
  have gj : ∀ b k, gJ (pI (pI h2 (D + 6 + 145 * cM A + 5) (aLm A (cM A)) (nI cz)) (D + 6 + 145 * cM A) 13 (nI (aLm A (cM A) + 1))) b k = gJ h2 b k := fun _ _ => rfl
  have gr : ∀ b k, gR (pI (pI h2 (D + 6 + 145 * cM A + 5) (aLm A (cM A)) (nI cz)) (D + 6 + 145 * cM A) 13 (nI (aLm A (cM A) + 1))) b k = gR h2 b k := fun _ _ => rfl
  generalize pI (pI h2 (D + 6 + 145 * cM A + 5) (aLm A (cM A)) (nI cz)) (D + 6 + 145 * cM A) 13 (nI (aLm A (cM A) + 1)) = h3' at gg X3 b3 gj gr
  have CN2 : CN A S h2 c D (cM A) 0 := R2.cn W c0 F2.1 F2.2.1
  have CN3 : CN A S h3' c D (cM A) 0 := by
    obtain ⟨n1, n2, n3, n4, n5, n6, n7, n8, n9, n10, n11, n12⟩ := CN2
    refine ⟨n1, n2, by rw [gr]; exact n3, by rw [gr]; exact n4, ?_, ?_, ?_, by rw [gr]; exact n8, by rw [gr]; exact n9, fun i hi => by rw [gr, gr]; exact n10 i hi, fun i hi => ⟨(n11 i hi).1, ?_, fun v hv => by rw [gj]; exact (n11 i hi).2.2 v hv⟩, n12⟩
    · rw [gg, if_neg (by omega), if_neg (by omega)]; exact n5
    · rw [gg, if_neg (by omega), if_neg (by omega)]; exact n6
    · rw [gg, if_neg (by omega), if_neg (by omega)]; exact n7
    · rw [gg, if_neg (by omega), if_neg (by omega)]; exact (n11 i hi).2.1
  have E3 : CE A B S h3' c D N (cM A) 0 (t + 1) 0 cz := ⟨X3.1, CN3, by rw [gg, if_neg (by omega), if_neg (by omega)]; exact F2.2.2, X3.2.2.1.1⟩
  refine cCodeX (pTs_pg 8) cRT E3 (by omega) (fun x h' ex f P' d6' hz' _ cc cg => ?_) (fun e h' ex f e2 e3 => q0 e h' (by rw [ex]) (b3.tr (Bf.fx f)) e2 e3)
  refine q1 (addL A (cM A) x.2.2, x.1) h' (cz + x.2.2.length + 1) (by rw [ex]) (b3.tr (Bf.fx f)) ?_
  have Pw' := Pw (addL A (cM A) x.2.2, x.1) (by rw [ex])
  have g1 : ∀ b, D + 6 ≤ b → b < D + 441 → ∀ k, gI h' b k = gI h3' b k := fun b b1 b2 k => f.1 b (by omega) (by omega) (by omega) k
  have cg2 : Cgr D h2 h' := fun ff LL HH => cg _ _ (Cgr.rf (by rw [gg, if_neg (by omega), if_neg (by omega)]) (fun j => by rw [gg, if_neg (by omega), if_neg (by omega)]) _ _ HH)
  refine CL.mk (n := n) W Pw' c0 R2 addL_m.1 P' (fun b k => by rw [f.2.1, gr]) (by rw [f.2.2.2.2.1 5 (by omega), gg, if_neg (by omega), if_neg (by omega)]) d6' hz' cg2 (fun i hi ci b b1 b2 k => ⟨?_, by rw [f.2.2.1, gj]⟩) (fun i hi ci => addL_ag ci) ?_ ?_
  · rw [g1 b (by omega) (by omega), gg, if_neg (by omega), if_neg (by omega)]
  · exact DrM_L (R2.2.2.2.2 (cM A) hm) cg2 (fun b k => by rw [f.2.2.1, gj]) (fun b b1 b2 k => by rw [g1 b (by omega) (by omega), gg]) w3 cc
  · refine T2.same ?_ (fun i => by rw [f.2.2.1, gj]) tcN_L told_L
    rw [f.2.2.2.1 7 (by omega) (by omega) (by omega) (by omega), gg, if_neg (by omega), if_neg (by omega)]
theorem cVnt {A : Ab} {B : Bx} {S : Sh} {h : Hp} {c D N t cz : Nat} {Q : Int32 → Hp → Prop} (L : CL A B S h c D N t cz) (hk : tkK B t = 411) (f10 : gI h c 10 = 0) (f11 : gI h c 11 = 0)
    (q1 : ∀ x h' cz', pVnt A B t = .ok x → Bf c D h h' → CL x.1 B S h' c D N x.2 cz' → Q 1 h') (q0 : ∀ e h', pVnt A B t = .error e → Bf c D h h' → gI h' c 2 = nI e.1 → gI h' c 3 = nI (tkP B e.2) → Q 0 h') : wX5_readVariant S h c Q := by
  have R0 := L.rl
  have hN := L.1.1.2.2.2.2.2.2.2.2.2.2.1
  have nn := L.1.n
  have Pw := fun x (e : pVnt A B t = .ok x) => pVnt_w hN nn.1 nn.2 (by omega) L.2.2.2.2.1 e
  obtain ⟨P, K, r5, ⟨d5, d6, hz⟩, W, Dm, ⟨n, T⟩, z0⟩ := L
  obtain ⟨hDS, hDR, out, r4, s6, r1⟩ := K
  have hc6 : (S c).1 = 6 := by rw [P.1.1]
  have z1 : (0 : Int32) &&& 1 = 0 := by decide
  have h3 := W.1
  have M := hDS.2.2.2.2.2.2 (cM A) (by unfold cM; omega)
  have hM3 : (S (D + 6 + 145 * cM A)).1 = 3 := by rw [M.1]
  unfold pVnt at q1 q0 Pw
  unfold wX5_readVariant
  rw [r5]
  refine ⟨hc6, hM3, ?_⟩
  by_cases c1 : aMM A = 0 ∨ aVm A (cM A) = 0
  · rw [if_pos c1] at q0
    have e11 : gI h (D + 6 + 145 * cM A) 11 = 0 := by
      by_cases c0 : aMM A = 0
      · have : cM A = 0 := by unfold cM; omega
        rw [this]; exact z0 c0
      · rw [(Dm (cM A) (cM_lt c0)).2.1, c1.resolve_left c0]; rfl
    exact ⟨fun n => absurd e11 n, fun _ => cFail P ⟨z1, q0 _ _ rfl (Bf.rf.fl) cfl_f.1 cfl_f.2⟩⟩
  rw [if_neg c1] at q1 q0 Pw
  have c0 : aMM A ≠ 0 := fun e => c1 (Or.inl e)
  have hm := cM_lt c0
  obtain ⟨w1, w2, w3, -⟩ := W.2.1 (cM A) hm
  obtain ⟨g1, g2, g3, g4, g5, g6, g7, -⟩ := Dm (cM A) hm
  rw [g2]
  refine ⟨fun _ => ?_, fun e => absurd e (nI_ne0 (by omega) (by omega))⟩
  by_cases cv : aVt A (cM A) ≠ 0
  · rw [if_pos cv] at q0
    obtain ⟨f, f1, f2⟩ := g7 cv
    obtain ⟨-, -, z, f3, f4, f5⟩ := f2
    exact ⟨fun e => absurd (f1.symm.trans e) (fun e => nI_neg (by omega) e.symm), fun _ => cFail P ⟨z1, q0 _ _ rfl (Bf.rf.fl) cfl_f.1 cfl_f.2⟩⟩
  rw [if_neg cv] at q1 q0 Pw
  refine ⟨fun _ => cAdv P (by omega) fun P1 => ?_, fun n => absurd (g6 (Classical.not_not.mp cv)) n⟩
  have R1 := R0.cI (k := 8) (v := nI (t + 1)) W
  have F1 : gI (pI h c 8 (nI (t + 1))) c 10 = 0 ∧ gI (pI h c 8 (nI (t + 1))) c 11 = 0 := ⟨by rw [gI_pI, if_neg (by omega)]; exact f10, by rw [gI_pI, if_neg (by omega)]; exact f11⟩
  have T1 : Tol A (pI h c 8 (nI (t + 1))) c n := T.same (by rw [gI_pI, if_neg (by omega)]) (fun _ => rfl) rfl (fun _ => Iff.rfl)
  generalize pI h c 8 (nI (t + 1)) = h1 at P1 R1 F1 T1
  rw [R1.2.2.1]
  refine ⟨hc6, nm_e ?_⟩
  have R2 := R1.cI (k := 9) (v := 0) W
  have P2 : Cp B S (pI h1 c 9 0) c N (t + 1) := ⟨P1.1.of (Sm.rf.pI (by omega) _ _) rfl, by rw [gI_pI, if_neg (by omega)]; exact P1.2.1, P1.2.2⟩
  have F2 : gI (pI h1 c 9 0) c 10 = 0 ∧ gI (pI h1 c 9 0) c 11 = 0 ∧ gI (pI h1 c 9 0) c 9 = 0 := ⟨by rw [gI_pI, if_neg (by omega)]; exact F1.1, by rw [gI_pI, if_neg (by omega)]; exact F1.2, by rw [gI_pI, if_pos ⟨rfl, rfl⟩]⟩
  have T2 : Tol A (pI h1 c 9 0) c n := T1.same (by rw [gI_pI, if_neg (by omega)]) (fun _ => rfl) rfl (fun _ => Iff.rfl)
  generalize pI h1 c 9 0 = h2 at P2 R2 F2 T2
  rw [R2.2.1.2.2.2.1, R2.2.2.2.1.2]
  refine ⟨by rw [hDS.1], hM3, ?_⟩
  have gg : ∀ b k, gI (pI h2 (D + 6 + 145 * cM A) 15 (nI cz)) b k = if b = D + 6 + 145 * cM A ∧ k = 15 then nI cz else gI h2 b k := fun b k => by rw [gI_pI]
  have X2 : CLx A B S h2 c D N (t + 1) cz (cM A) := ⟨P2, R2.2.1, ⟨R2.2.2.2.1.2, by omega, W.1, fun i hi => (W.2.1 i hi).2.2.1⟩, fun i hi _ => R2.2.2.2.2 i hi⟩
  have X3 := X2.mI (b := D + 6 + 145 * cM A) (k := 15) ⟨by omega, by omega⟩ (by omega) (nI cz)
  have b3 : Bf c D h (pI h2 (D + 6 + 145 * cM A) 15 (nI cz)) := R2.1.pI (by omega)
  have gj : ∀ b k, gJ (pI h2 (D + 6 + 145 * cM A) 15 (nI cz)) b k = gJ h2 b k := fun _ _ => rfl
  have gr : ∀ b k, gR (pI h2 (D + 6 + 145 * cM A) 15 (nI cz)) b k = gR h2 b k := fun _ _ => rfl
  generalize pI h2 (D + 6 + 145 * cM A) 15 (nI cz) = h3' at gg X3 b3 gj gr
  have CN2 : CN A S h2 c D (cM A) 2 := R2.cn W c0 F2.1 F2.2.1
  have CN3 : CN A S h3' c D (cM A) 2 := by
    obtain ⟨n1, n2, n3, n4, n5, n6, n7, n8, n9, n10, n11, n12⟩ := CN2
    refine ⟨n1, n2, by rw [gr]; exact n3, by rw [gr]; exact n4, ?_, ?_, ?_, by rw [gr]; exact n8, by rw [gr]; exact n9, fun i hi => by rw [gr, gr]; exact n10 i hi, fun i hi => ⟨(n11 i hi).1, ?_, fun v hv => by rw [gj]; exact (n11 i hi).2.2 v hv⟩, n12⟩
    · rw [gg, if_neg (by omega)]; exact n5
    · rw [gg, if_neg (by omega)]; exact n6
    · rw [gg, if_neg (by omega)]; exact n7
    · rw [gg, if_neg (by omega)]; exact (n11 i hi).2.1
  have E3 : CE A B S h3' c D N (cM A) 2 (t + 1) 0 cz := ⟨X3.1, CN3, by rw [gg, if_neg (by omega)]; exact F2.2.2, X3.2.2.1.1⟩
  refine cCodeX (pSm_pg 8) cRS E3 (by omega) (fun x h' ex f P' d6' hz' _ cc cg => ?_) (fun e h' ex f e2 e3 => q0 e h' (by rw [ex]) (b3.tr (Bf.fx f)) e2 e3)
  refine q1 (addT A (cM A) x.2.2, x.1) h' (cz + x.2.2.length + 1) (by rw [ex]) (b3.tr (Bf.fx f)) ?_
  have Pw' := Pw (addT A (cM A) x.2.2, x.1) (by rw [ex])
  have g1 : ∀ b, D + 6 ≤ b → b < D + 441 → ∀ k, gI h' b k = gI h3' b k := fun b b1 b2 k => f.1 b (by omega) (by omega) (by omega) k
  have cg2 : Cgr D h2 h' := fun ff LL HH => cg _ _ (Cgr.rf (by rw [gg, if_neg (by omega)]) (fun j => by rw [gg, if_neg (by omega)]) _ _ HH)
  refine CL.mk (n := n) W Pw' c0 R2 addT_m.1 P' (fun b k => by rw [f.2.1, gr]) (by rw [f.2.2.2.2.1 5 (by omega), gg, if_neg (by omega)]) d6' hz' cg2 (fun i hi ci b b1 b2 k => ⟨?_, by rw [f.2.2.1, gj]⟩) (fun i hi ci => addT_ag ci) ?_ ?_
  · rw [g1 b (by omega) (by omega), gg, if_neg (by omega)]
  · exact DrM_T (R2.2.2.2.2 (cM A) hm) cg2 (fun b k => by rw [f.2.2.1, gj]) (fun b b1 b2 k => by rw [g1 b (by omega) (by omega), gg]) w3 cc
  · refine T2.same ?_ (fun i => by rw [f.2.2.1, gj]) tcN_T told_T
    rw [f.2.2.2.1 7 (by omega) (by omega) (by omega) (by omega), gg, if_neg (by omega)]
