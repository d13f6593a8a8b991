def pDo (A : Ab) (B : Bx) (m t : Nat) : Except (Nat × Nat) (Nat × (Nat → Cd) × Nat) := if tkK B t ≠ 410 then .error (1, t) else pGs A B m 4 0 (fun _ => []) (t + 1)
theorem cGs {A : Ab} {B : Bx} {S : Sh} {h0 h : Hp} {c D N t cz n w : Nat} {Q : Int32 → Hp → Prop} (W : wdA A) (c0 : aMM A ≠ 0) (he : aEm A (cM A) < 4) (P : Cp B S h c N t) (H : EvL A S h0 h c D cz (cM A) n w) (hz : cz ≤ t) (I0 : gI h (D + 6 + 145 * cM A + 11 + 5 * aEm A (cM A)) 8 = 0)
    (q0 : ∀ e h', pDo A B (cM A) t = .error e → Bf c D h0 h' → gI h' c 2 = nI e.1 → gI h' c 3 = nI (tkP B e.2) → Q 0 h')
    (q1 : ∀ x h' cz', pDo A B (cM A) t = .ok x → Cp B S h' c N x.2.2 → EvL A S h0 h' c D cz' (cM A) n w → cz' ≤ x.2.2 → SmI h' D (D + 6 + 145 * cM A + 11 + 5 * aEm A (cM A)) x.1 x.2.1 → Cgr D h h' → (∀ k, k ≠ 8 → gI h' (D + 6 + 145 * cM A + 11 + 5 * aEm A (cM A)) k = gI h (D + 6 + 145 * cM A + 11 + 5 * aEm A (cM A)) k) → Q 1 h') : wX5_readGivings S h c Q := by
  have h3 := W.1
  have hm := cM_lt c0
  have hc6 : (S c).1 = 6 := by rw [P.1.1]
  have hN := P.1.2.2.2.2.2.2.2.2.2.2.1
  have hN6 := P.n.1
  have v3 := (W.2.1 _ hm).1
  have out := H.2.1.2.2.1
  generalize hv : D + 6 + 145 * cM A + 11 + 5 * aEm A (cM A) = v at *
  unfold pDo at q0 q1
  refine ⟨hc6, hc6, cKind P ?_⟩
  rw [show (410 : Int32) = nI 410 from rfl, kEq P (by decide)]
  refine ⟨fun k0 => cAdv P (by omega) fun P1 => ⟨fun n => absurd n (by decide), fun _ => ?_⟩, fun k0 => cFail P ⟨by decide, ⟨fun _ => q0 (1, t) _ (by rw [if_pos k0]) H.1.fl cfl_f.1 cfl_f.2, fun n => absurd rfl n⟩⟩⟩
  rw [if_neg (fun n => n k0)] at q0 q1
  have H1 := H.cI (k := 8) (x := nI (t + 1)) W hm he (by omega)
  have g1 : ∀ k, gI (pI h c 8 (nI (t + 1))) v k = gI h v k := fun k => by rw [gI_pI, if_neg (by omega)]
  have cg1 : Cgr D h (pI h c 8 (nI (t + 1))) := Cgr.rf (by rw [gI_pI, if_neg (by omega)]) (fun j => by rw [gI_pI, if_neg (by omega)])
  generalize pI h c 8 (nI (t + 1)) = h1 at P1 H1 g1 cg1
  -- behind a giving
  have lp : ∀ (k gb : Nat) (sc : Nat → Cd) (t' cz' more : Nat) (h' : Hp), more + 1 = pcb gb → 4 ≤ k + pcb gb → Cp B S h' c N t' → EvL A S h0 h' c D cz' (cM A) n w → cz' ≤ t' → GvI A (cM A) gb sc → SmI h' D v gb sc → Cgr D h h' → (∀ k, k ≠ 8 → gI h' v k = gI h v k) →
      (∀ e h'', (if tkK B t' = 44 then pGs A B (cM A) k gb sc (t' + 1) else .ok (gb, sc, t')) = .error e → Bf c D h0 h'' → gI h'' c 2 = nI e.1 → gI h'' c 3 = nI (tkP B e.2) → Q 0 h'') →
      (∀ x h'' cz'', (if tkK B t' = 44 then pGs A B (cM A) k gb sc (t' + 1) else .ok (gb, sc, t')) = .ok x → Cp B S h'' c N x.2.2 → EvL A S h0 h'' c D cz'' (cM A) n w → cz'' ≤ x.2.2 → SmI h'' D v x.1 x.2.1 → Cgr D h h'' → (∀ k, k ≠ 8 → gI h'' v k = gI h v k) → Q 1 h'') → wX5_readGivings_21 S c Q (k + 1) h' (nI more) := by
    intro k
    induction k with
    | zero =>
      intro gb sc t' cz' more h' _ hk _ _ _ G
      have := pcb_le gb G.1
      omega
    | succ k ih =>
      intro gb sc t' cz' more h' hmr hk P' H' hz' G I cg gk r0 r1
      have p3 := pcb_le gb G.1
      show wX5_readGivings_21b S c Q (wX5_readGivings_21 S c Q (k + 1)) h' (nI more)
      refine br_f (nI_ge (b := 3) (by omega) (by decide)) ⟨hc6, cKind P' ?_⟩
      rw [show (44 : Int32) = nI 44 from rfl, kEq P' (by decide)]
      by_cases c44 : tkK B t' = 44
      · rw [if_pos c44] at r0 r1
        unfold pGs at r0 r1
        refine ⟨fun n => absurd c44 n, fun _ => cAdv P' (by omega) fun P2 => ?_⟩
        have H2 := H'.cI (k := 8) (x := nI (t' + 1)) W hm he (by omega)
        have g2 : ∀ k, gI (pI h' c 8 (nI (t' + 1))) v k = gI h' v k := fun k => by rw [gI_pI, if_neg (by omega)]
        have cg2 : Cgr D h' (pI h' c 8 (nI (t' + 1))) := Cgr.rf (by rw [gI_pI, if_neg (by omega)]) (fun j => by rw [gI_pI, if_neg (by omega)])
        have I2 : SmI (pI h' c 8 (nI (t' + 1))) D v gb sc := ⟨by rw [g2]; exact I.1, fun u hu hb => by
          obtain ⟨f, f1, f2⟩ := I.2 u hu hb
          exact ⟨f, by rw [gI_pI, if_neg (by omega)]; exact f1, cg2 _ _ f2⟩⟩
        generalize pI h' c 8 (nI (t' + 1)) = h2 at P2 H2 g2 cg2 I2
        refine cG1 W c0 he P2 H2 (by omega) G (by rw [hv]; exact I2) (fun e h'' ex b e2 e3 => ⟨fun n => absurd rfl n, fun _ => r0 e h'' (by rw [ex]) b e2 e3⟩) (fun x h'' cz'' ex P3 H3 hz3 I3 cg3 gk3 => ⟨fun _ => ?_, fun n => absurd n (by decide)⟩)
        rw [hv] at I3 gk3
        obtain ⟨x1, x2, x3, x4⟩ := (pG1_ok hN hN6 v3 P2.2.2 G).1 x ex
        simp only [ex] at r0 r1
        rw [nI_1]
        exact ih x.1 x.2.1 x.2.2 cz'' (more + 1) h'' (by omega) (by omega) P3 H3 hz3 x4 I3 (fun f L HH => cg3 _ _ (cg2 _ _ (cg _ _ HH))) (fun k hk => by rw [gk3 k hk, g2]; exact gk k hk) r0 r1
      · rw [if_neg c44] at r1
        exact ⟨fun _ => r1 _ h' cz' rfl P' H' hz' I cg gk, fun e => absurd e c44⟩
  unfold pGs at q0 q1
  have I1 : SmI h1 D v 0 (fun _ => []) := ⟨by rw [g1]; exact I0, fun u hu hb => by
    have : 0 / 2 ^ u % 2 = 0 := by simp
    omega⟩
  refine cG1 W c0 he P1 H1 (by omega) GvI0 (by rw [hv]; exact I1) (fun e h'' ex b e2 e3 => ⟨fun n => absurd rfl n, fun _ => q0 e h'' (by rw [ex]) b e2 e3⟩) (fun x h'' cz'' ex P3 H3 hz3 I3 cg3 gk3 => ⟨fun _ => ⟨4, ?_⟩, fun n => absurd n (by decide)⟩)
  rw [hv] at I3 gk3
  obtain ⟨x1, x2, x3, x4⟩ := (pG1_ok hN hN6 v3 P1.2.2 GvI0).1 x ex
  simp only [ex] at q0 q1
  have p0 : pcb 0 = 0 := rfl
  exact lp 3 x.1 x.2.1 x.2.2 cz'' 0 h'' (by omega) (by omega) P3 H3 hz3 x4 I3 (fun f L HH => cg3 _ _ (cg1 _ _ HH)) (fun k hk => by rw [gk3 k hk, g1]) q0 q1
theorem told_E {A : Ab} {m w o fp lp gb : Nat} {gc : Cd} {sc : Nat → Cd} (hm : m < aMM A) (h3 : aMM A ≤ 3) (he : aEm A m < 4) (u : Int64) : told_ (addE A m w o fp lp gb gc sc) u ↔ (told_ A u ∨ u = lN w) := by
  obtain ⟨e0, e1, e2, e3, e4, e9, e10, e11, e12, e13, e14, e15, e16, e17⟩ := addE_m (A := A) (m := m) (w := w) (o := o) (fp := fp) (lp := lp) (gb := gb) (gc := gc) (sc := sc)
  have vm : aVm (addE A m w o fp lp gb gc sc) m = aVm A m := congrFun (e2 1 (by decide) (by decide)) 0
  unfold told_
  rw [e0]
  constructor
  · rintro ⟨i, hi', ht⟩
    by_cases c : i = m
    · subst c
      unfold toldM at ht
      rw [e14, e1, vm] at ht
      rcases ht with q | ⟨v, q, q2⟩ | ⟨v, q, q2⟩
      · exact Or.inl ⟨i, hm, Or.inl q⟩
      · rw [e15 (by omega)] at q2; exact Or.inl ⟨i, hm, Or.inr (Or.inl ⟨v, q, q2⟩)⟩
      · by_cases cv : v = aEm A i
        · rw [cv, e16] at q2; exact Or.inr q2.symm
        · rw [e17 v cv] at q2; exact Or.inl ⟨i, hm, Or.inr (Or.inr ⟨v, by omega, q2⟩)⟩
    · exact Or.inl ⟨i, hi', (toldM_ag (addE_ag c (by omega) he)).mp ht⟩
  · rintro (⟨i, hi', ht⟩ | q)
    · refine ⟨i, hi', ?_⟩
      by_cases c : i = m
      · subst c
        unfold toldM at ht ⊢
        rw [e14, e1, vm]
        rcases ht with q | ⟨v, q, q2⟩ | ⟨v, q, q2⟩
        · exact Or.inl q
        · exact Or.inr (Or.inl ⟨v, q, by rw [e15 (by omega)]; exact q2⟩)
        · exact Or.inr (Or.inr ⟨v, by omega, by rw [e17 v (by omega)]; exact q2⟩)
      · exact (toldM_ag (addE_ag c (by omega) he)).mpr ht
    · exact ⟨m, hm, Or.inr (Or.inr ⟨aEm A m, by omega, by rw [e16, q]⟩)⟩
theorem tcN_E {A : Ab} {m w o fp lp gb : Nat} {gc : Cd} {sc : Nat → Cd} (hm : m < aMM A) (h3 : aMM A ≤ 3) (he : aEm A m < 4) : tcN (addE A m w o fp lp gb gc sc) = tcN A + 1 := by
  obtain ⟨e0, e1, e2, -⟩ := addE_m (A := A) (m := m) (w := w) (o := o) (fp := fp) (lp := lp) (gb := gb) (gc := gc) (sc := sc)
  have vm : aVm (addE A m w o fp lp gb gc sc) m = aVm A m := congrFun (e2 1 (by decide) (by decide)) 0
  have ag : ∀ i, i < aMM A → i ≠ m → aVm (addE A m w o fp lp gb gc sc) i = aVm A i ∧ aEm (addE A m w o fp lp gb gc sc) i = aEm A i := fun i hi ci => by
    have := addE_ag (A := A) (m := m) (w := w) (o := o) (fp := fp) (lp := lp) (gb := gb) (gc := gc) (sc := sc) ci (by omega) he
    exact ⟨this.vm, this.em⟩
  unfold tcN
  rw [e0, sumF_ext (g := fun i => if i = m then 1 + aVm A i + aEm A i + 1 else 1 + aVm A i + aEm A i)]
  · exact sumF_1 _ hm (fun i hi => if_neg hi) (if_pos rfl)
  · intro i hi
    by_cases c : i = m
    · subst c
      rw [if_pos rfl, vm, e1]
      omega
    · rw [if_neg c, (ag i hi c).1, (ag i hi c).2]
theorem DrM_E {A : Ab} {h : Hp} {D m w o fp lp gb f9 : Nat} {gc : Cd} {sc : Nat → Cd} (hm3 : m < 3) (he : aEm A m < 4) (De : DrM A (pI h (D + 6 + 145 * m) 14 (nI (aEm A m))) D m) (e14 : gI h (D + 6 + 145 * m) 14 = nI (aEm A m + 1)) (ej : gJ h (D + 6 + 145 * m + 11 + 5 * aEm A m) 4 = lN w)
    (g5 : gI h (D + 6 + 145 * m + 11 + 5 * aEm A m) 5 = if o = 0 then -2 else nI (o - 1)) (g6 : gI h (D + 6 + 145 * m + 11 + 5 * aEm A m) 6 = nI fp) (g7 : gI h (D + 6 + 145 * m + 11 + 5 * aEm A m) 7 = nI lp) (g9 : gI h (D + 6 + 145 * m + 11 + 5 * aEm A m) 9 = nI f9) (c9 : CCd h D f9 gc) (g10 : gI h (D + 6 + 145 * m + 11 + 5 * aEm A m) 10 = 0)
    (I : SmI h D (D + 6 + 145 * m + 11 + 5 * aEm A m) gb sc) (v3 : aVm A m ≤ 3) : DrM (addE A m w o fp lp gb gc sc) h D m := by
  obtain ⟨e0, e1, e2, e3, ⟨e4, e5, e6, e7, e8⟩, e9, e10, e11, e12, e13, e14', e15, e16, e17⟩ := addE_m (A := A) (m := m) (w := w) (o := o) (fp := fp) (lp := lp) (gb := gb) (gc := gc) (sc := sc)
  obtain ⟨y1, y2, y3, y4, y5, y6, y7, y8, y9, y10⟩ := De
  have vm : aVm (addE A m w o fp lp gb gc sc) m = aVm A m := congrFun (e2 1 (by decide) (by decide)) 0
  have sz : aSz (addE A m w o fp lp gb gc sc) m = aSz A m := congrFun (e2 5 (by decide) (by decide)) 0
  have lm : aLm (addE A m w o fp lp gb gc sc) m = aLm A m := congrFun (e2 6 (by decide) (by decide)) 0
  have vt : aVt (addE A m w o fp lp gb gc sc) m = aVt A m := congrFun (e2 8 (by decide) (by decide)) 0
  have gi : ∀ b k, (b ≠ D + 6 + 145 * m ∨ k ≠ 14) → gI (pI h (D + 6 + 145 * m) 14 (nI (aEm A m))) b k = gI h b k := fun b k hb => by rw [gI_pI, if_neg (by omega)]
  have cg : Cgr D (pI h (D + 6 + 145 * m) 14 (nI (aEm A m))) h := Cgr.rf (by rw [gi _ _ (by omega)]) (fun j => by rw [gi _ _ (by omega)])
  refine ⟨?_, ?_, ?_, ?_, ?_, fun q => ?_, fun q => ?_, fun v hv => ?_, fun l hl => ?_, fun e he' => ?_⟩
  · rw [e14']; exact y1
  · rw [vm, ← y2, gi _ _ (by omega)]
  · rw [sz, ← y3, gi _ _ (by omega)]
  · rw [lm, ← y4, gi _ _ (by omega)]
  · rw [e1]; exact e14
  · rw [vt] at q; rw [← y6 q, gi _ _ (by omega)]
  · rw [vt] at q
    obtain ⟨f, f1, f2⟩ := y7 q
    exact ⟨f, by rw [← f1, gi _ _ (by omega)], by rw [e13]; exact cg _ _ f2⟩
  · rw [vm] at hv
    have := y8 v hv
    rw [gi _ _ (by omega), gi _ _ (by omega), gi _ _ (by omega)] at this
    rw [e15 hm3, show aLo (addE A m w o fp lp gb gc sc) m v = aLo A m v from congrFun (e2 2 (by decide) (by decide)) v, show aHi (addE A m w o fp lp gb gc sc) m v = aHi A m v from congrFun (e2 3 (by decide) (by decide)) v, show aAt (addE A m w o fp lp gb gc sc) m v = aAt A m v from congrFun (e2 4 (by decide) (by decide)) v]
    exact this
  · rw [lm] at hl
    obtain ⟨f, f1, f2⟩ := y9 l hl
    exact ⟨f, by rw [← f1, gi _ _ (by omega)], by rw [e12]; exact cg _ _ f2⟩
  · rw [e1] at he'
    by_cases ce : e = aEm A m
    · subst ce
      rw [e16, e5, e6, e7, e8, e9]
      refine ⟨ej, ?_, g6, g7, I.1, g10, ⟨f9, g9, c9⟩, fun v hv hb => ?_⟩
      · unfold aOI
        rw [e4]
        exact g5
      · rw [vm] at hv
        rw [e10]
        exact I.2 v (by omega) hb
    · obtain ⟨z1, z2, z3, z4, z5, z6, ⟨f, z7, z8⟩, z9⟩ := y10 e (by omega)
      have oi : aOI (addE A m w o fp lp gb gc sc) m e = aOI A m e := by
        unfold aOI
        rw [show aOe (addE A m w o fp lp gb gc sc) m e = aOe A m e from e3 9 e ce (by decide)]
      rw [e17 e ce, oi, show aFp (addE A m w o fp lp gb gc sc) m e = aFp A m e from e3 10 e ce (by decide), show aLp (addE A m w o fp lp gb gc sc) m e = aLp A m e from e3 11 e ce (by decide), show aGb (addE A m w o fp lp gb gc sc) m e = aGb A m e from e3 12 e ce (by decide), show aAs (addE A m w o fp lp gb gc sc) m e = aAs A m e from e3 13 e ce (by decide), (e11 e ce).1]
      rw [gi _ _ (by omega)] at z2 z3 z4 z5 z6 z7
      refine ⟨z1, z2, z3, z4, z5, z6, ⟨f, z7, cg _ _ z8⟩, fun v hv hb => ?_⟩
      rw [vm] at hv
      obtain ⟨f, f1, f2⟩ := z9 v hv hb
      rw [gi _ _ (by omega)] at f1
      exact ⟨f, f1, by rw [(e11 e ce).2]; exact cg _ _ f2⟩
