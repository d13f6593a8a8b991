theorem rSumX {A : Ab} {B : Bx} {S : Sh} {K : Nat → Nat} {r N m k o d : Nat} {X : Nat → Nat → PR} (hS : RS S r) (hN : tkK B N = 300) (hN6 : N ≤ 600) (pg : PG A B m k anyP X) (hA : RX A B S r N m k o 2 X (fun h Q => wX12R S K d 5 h r Q)) : RX A B S r N m k o 2 (gnP B X 42 6 lsS) (fun h Q => wX12R S K (d + 2) 3 h r Q) := by
  have h13 := hS.1
  have := rGen (At := fun h Q => wX12R S K d 5 h r Q) (Tm := fun h Q => wX12R S K (d + 1) 4 h r Q) (L := fun Qt n h => wX12_readTerm_4 S K (wX12R S K d) r Qt n h) (O := fun Q n h => wX12_readSum_4 S K (wX12R S K (d + 1)) r Q n h) (tg := 42) (ts := 6) (ls := lsS) pg hN hN6 (by decide) (by decide) rfl hA
    (fun Qt n h t a s E q1 q2 => ⟨h13, E.1.passesS (c := 42) (by decide) (fun c h' gf p => ⟨fun n => absurd n (by decide), fun _ => q1 c h' ⟨Ef.gf gf, RAp.nil⟩ (E.gf gf p)⟩) (fun n => ⟨fun _ => q2 n, fun n => absurd rfl n⟩)⟩)
    (fun Qt n h f p F q => ⟨h13, fPassS h13 F ⟨fun _ => q, fun n => absurd rfl n⟩⟩)
    (fun Q n h t a s E q1 q2 => by
      have j22 : (tkK B t = 43 ∨ tkK B t = 45) → wX12_readSum_j22 S K (wX12R S K (d + 1)) (wX12_readSum_4 S K (wX12R S K (d + 1)) r Q n) h r Q := by
        intro hk
        have e11 := (E.1.2.2.2.1.2.2.2.2.2.2 (by omega)).2
        unfold wX12_readSum_j22
        rw [e11, show (43 : Int32) = nI 43 from rfl, nI_eq (by omega) (by omega)]
        refine ⟨h13, fun n => ?_, fun e => ?_⟩
        · have e45 : tkK B t = 45 := by omega
          have q1 := q1 (by rw [e45]; decide)
          rw [e45] at q1
          exact ⟨h13, E.go q1⟩
        · have q1 := q1 (by rw [e]; decide)
          rw [e] at q1
          exact ⟨h13, E.go q1⟩
      refine ⟨h13, E.1.sign (c := 43) (by decide) ?_⟩
      by_cases c43 : tkK B t = 43
      · rw [decide_eq_true c43]
        exact ⟨fun _ => j22 (Or.inl c43), fun n => absurd n (by decide)⟩
      · rw [decide_eq_false c43]
        refine ⟨fun n => absurd rfl n, fun _ => E.1.sign (c := 45) (by decide) ?_⟩
        by_cases c45 : tkK B t = 45
        · rw [decide_eq_true c45]
          exact ⟨fun n => absurd n (by decide), fun _ => j22 (Or.inr c45)⟩
        · rw [decide_eq_false c45]
          refine ⟨fun _ => q2 ?_, fun n => absurd rfl n⟩
          unfold lsS
          rw [if_neg c43, if_neg c45])
    (fun Q n h f p F q => ⟨h13, fSign h13 F.n0 ⟨fun n => absurd rfl n, fun _ => fSign h13 F.n0 ⟨fun _ => q, fun n => absurd rfl n⟩⟩⟩)
    (fun h Q q => ⟨h13, q⟩)
  exact fun h t a s Q E hs ht ha q1 q0 => ⟨h13, this h t a s Q E hs ht ha q1 q0⟩
theorem rTestX {A : Ab} {B : Bx} {S : Sh} {K : Nat → Nat} {r N m k o d : Nat} {X : Nat → Nat → PR} (hS : RS S r) (hN : tkK B N = 300) (hN6 : N ≤ 600) (pg : PG A B m k bitP X) (hA : RX A B S r N m k o 3 X (fun h Q => wX12R S K d 2 h r Q)) : RX A B S r N m k o 3 (gnP B X 413 11 lsT) (fun h Q => wX12R S K (d + 2) 0 h r Q) := by
  have h13 := hS.1
  have := rGen (At := fun h Q => wX12R S K d 2 h r Q) (Tm := fun h Q => wX12R S K (d + 1) 1 h r Q) (L := fun Qt n h => wX12_readBoth_4 S K (wX12R S K d) r Qt n h) (O := fun Q n h => wX12_readTest_4 S K (wX12R S K (d + 1)) r Q n h) (tg := 413) (ts := 11) (ls := lsT) pg hN hN6 (by decide) (by decide) rfl hA
    (fun Qt n h t a s E q1 q2 => ⟨h13, E.1.passes (i := 13) (by decide) (fun c h' gf p => ⟨fun n => absurd n (by decide), fun _ => q1 c h' ⟨Ef.gf gf, RAp.nil⟩ (E.gf gf p)⟩) (fun n => ⟨fun _ => q2 n, fun n => absurd rfl n⟩)⟩)
    (fun Qt n h f p F q => ⟨h13, fPass h13 F ⟨fun _ => q, fun n => absurd rfl n⟩⟩)
    (fun Q n h t a s E q1 q2 => ⟨h13, E.1.passes (i := 12) (by decide) (fun c h' gf p => ⟨fun n => absurd n (by decide), fun _ => by
      have q1 := q1 (by rw [c]; decide) h' ⟨Ef.gf gf, RAp.nil⟩ (E.gf gf p)
      rw [c] at q1
      exact q1⟩) (fun n => ⟨fun _ => q2 (by unfold lsT; rw [if_neg n]), fun n => absurd rfl n⟩)⟩)
    (fun Q n h f p F q => ⟨h13, fPass h13 F ⟨fun _ => q, fun n => absurd rfl n⟩⟩)
    (fun h Q q => ⟨h13, q⟩)
  exact fun h t a s Q E hs ht ha q1 q0 => ⟨h13, this h t a s Q E hs ht ha q1 q0⟩
theorem rFact {A : Ab} {B : Bx} {S : Sh} {K : Nat → Nat} {r N m k o : Nat} {inn : Option ((Nat → Nat → PR) × (Nat → Nat → PR))} {sm : Nat → Nat → PR} {Gr : Nat → Hp → Nat → (Hp → Prop) → Prop} (hN : tkK B N = 300) (hN6 : N ≤ 600) (ho : o ≤ 8) (hn : inn = none → o = 8)
    (hP : ∀ P, inn = some P → o < 8 ∧ (PG A B m k bitP P.1 ∧ RX A B S r N m k (o + 1) 3 P.1 (fun h Q => Gr 2 h r Q)) ∧ (PG A B m k bitP P.2 ∧ RX A B S r N m k (o + 1) 3 P.2 (fun h Q => Gr 0 h r Q)))
    (pg : PG A B m k anyP sm) (hs : RX A B S r N m k o 2 sm (fun h Q => Gr 3 h r Q))
    (hF : ∀ (sel : Nat) (h : Hp) (f p : Nat) (Q : Hp → Prop), sel = 0 ∨ sel = 2 ∨ sel = 3 → Fm h r f p → Q h → Gr sel h r Q) : RX A B S r N m k o 3 (pFB B inn sm) (fun h Q => wX12_readFact_b S K Gr h r Q) := by
  intro h t a s Q E hst ht ha q1 q0
  have hS := E.1.1
  have hR := E.1.2.1
  have h13 := hS.1
  have nlt : ∀ t, t ≤ N → tkK B t ≠ 300 → t + 1 ≤ N := fun t ht h => by
    by_cases e : t = N
    · subst e; exact absurd hN h
    · omega
  unfold pFB at q1 q0
  unfold wX12_readFact_b
  rw [E.1.2.2.2.2]
  refine ⟨h13, br_t (by decide) (E.1.word (i := 14) (by decide) ?_)⟩
  by_cases c14 : tkK B t = 400 + 14
  · rw [decide_eq_true c14]
    refine ⟨fun n => absurd n (by decide), fun _ => ?_⟩
    rw [if_pos c14] at q1 q0
    unfold wX12_opens
    rw [E.2.2.2.1, nI_1, show (8 : Int32) = nI 8 from rfl, nI_eq (by omega) (by omega)]
    have ht1 := nlt t ht (by omega)
    cases inn with
    | none =>
      have o8 := hn rfl
      refine ⟨h13, fun n => absurd o8 n, fun _ => E.1.flaw (f := 4) ?_⟩
      have F2 := (E.fs (f := 4) (by decide) (by decide)).pI (k := 43) (by omega) (gI (flw h r 4) r 43 + 1)
      refine fGo h13 F2.2.1 (hF 2 _ _ _ _ (by omega) F2.2.1 (F2.put hS hR (by omega) fun h3 F3 => ?_))
      have F4 := F3.pI (k := 43) (by omega) (gI h3 r 43 - 1)
      exact q0 (4, t) _ rfl (F4.mono (by show s + 1 ≤ s + (t - t) + 3; omega))
    | some P =>
      obtain ⟨o8, ⟨p1, x1⟩, -⟩ := hP P rfl
      obtain ⟨g2, E2⟩ := E.opn (o' := o + 1)
      refine ⟨h13, fun _ => E2.go fun h3 g3 E3 => ?_, fun n => absurd n (by omega)⟩
      have g123 : Rg r s h h3 [] := g2.tr g3 rfl
      have pgx := p1 N (t + 1) a hN ht1 ha
      refine x1 h3 (t + 1) a s _ E3 (by omega) ht1 ha (fun x h4 ex g4 E4 => ?_) (fun e h4 ex F4 => ?_)
      · obtain ⟨y1, y2, y3, y4, y5, -⟩ := pgx.1 x ex
        simp only [ex] at q1
        refine E4.put (y := (10, 0)) (by omega) fun h5 g5 E5 => ?_
        obtain ⟨g6, E6⟩ := E5.opn (o' := o)
        have e43 : gI h5 r 43 - 1 = nI o := by rw [E5.2.2.2.1]; exact nI_pred o
        rw [e43]
        have g7 := ((g123.tr g4 rfl).tr g5 rfl).tr g6 (by rw [List.length_append]; rfl)
        rw [List.append_nil] at g7
        refine q1 _ _ rfl g7 ?_
        show RE A B S _ r m k x.1 x.2.1 o (s + (x.2.2 ++ [(10, 0)]).length)
        rw [List.length_append]
        exact E6
      · have := pgx.2 e ex
        simp only [ex] at q0
        refine (F4.pre g123.1 (Nat.le_refl _)).put hS hR (by omega) fun h5 F5 => ?_
        have F6 := F5.pI (k := 43) (by omega) (gI h5 r 43 - 1)
        exact q0 e _ rfl (F6.mono (by omega))
  · rw [decide_eq_false c14]
    refine ⟨fun _ => E.1.sign (c := 40) (by decide) ?_, fun n => absurd rfl n⟩
    rw [if_neg c14] at q1 q0
    by_cases c40 : tkK B t = 40
    · rw [decide_eq_true c40]
      refine ⟨fun n => absurd n (by decide), fun _ => ?_⟩
      rw [if_pos c40] at q1 q0
      unfold wX12_opens
      rw [E.2.2.2.1, nI_1, show (8 : Int32) = nI 8 from rfl, nI_eq (by omega) (by omega)]
      have ht1 := nlt t ht (by omega)
      cases inn with
      | none =>
        have o8 := hn rfl
        refine ⟨h13, fun n => absurd o8 n, fun _ => E.1.flaw (f := 4) ?_⟩
        have F2 := (E.fs (f := 4) (by decide) (by decide)).pI (k := 43) (by omega) (gI (flw h r 4) r 43 + 1)
        refine fGo h13 F2.2.1 (hF 0 _ _ _ _ (by omega) F2.2.1 (fNeedsS h13 F2.2.1 ?_))
        have F4 := F2.pI (k := 43) (by omega) (gI (pI (flw h r 4) r 43 (gI (flw h r 4) r 43 + 1)) r 43 - 1)
        exact q0 (4, t) _ rfl (F4.mono (by show s ≤ s + (t - t) + 3; omega))
      | some P =>
        obtain ⟨o8, -, ⟨p2, x2⟩⟩ := hP P rfl
        obtain ⟨g2, E2⟩ := E.opn (o' := o + 1)
        refine ⟨h13, fun _ => E2.go fun h3 g3 E3 => ?_, fun n => absurd n (by omega)⟩
        have g123 : Rg r s h h3 [] := g2.tr g3 rfl
        have pgx := p2 N (t + 1) a hN ht1 ha
        refine x2 h3 (t + 1) a s _ E3 (by omega) ht1 ha (fun x h4 ex g4 E4 => ?_) (fun e h4 ex F4 => ?_)
        · obtain ⟨y1, y2, y3, y4, y5, -⟩ := pgx.1 x ex
          simp only [ex] at q1 q0
          have g5 : Rg r s h h4 x.2.2 := g123.tr g4 rfl
          refine E4.1.needsS (c := 41) (by decide) (fun c41 h5 gf5 p5 => ?_) (fun n41 => ?_)
          · rw [if_pos c41] at q1
            have E5 := E4.gf gf5 p5
            obtain ⟨g6, E6⟩ := E5.opn (o' := o)
            have e43 : gI h5 r 43 - 1 = nI o := by rw [E5.2.2.2.1]; exact nI_pred o
            rw [e43]
            have g7 := (g5.tr (⟨Ef.gf gf5, RAp.nil⟩ : Rg r (s + x.2.2.length) h4 h5 []) rfl).tr g6 (by rw [List.append_nil])
            rw [List.append_nil, List.append_nil] at g7
            exact q1 _ _ rfl g7 E6
          · rw [if_neg n41] at q0
            have F5 := (E4.fs (f := 1) (by decide) (by decide)).pI (k := 43) (by omega) (gI (flw h4 r 1) r 43 - 1)
            refine q0 _ _ rfl ((F5.pre g5.1 (by omega)).mono ?_)
            show s + x.2.2.length ≤ s + (x.1 - t) + 3
            omega
        · have := pgx.2 e ex
          simp only [ex] at q0
          refine fNeedsS h13 F4.2.1 ?_
          have F5 := F4.pI (k := 43) (by omega) (gI h4 r 43 - 1)
          exact q0 e _ rfl ((F5.pre g123.1 (Nat.le_refl _)).mono (by omega))
    · rw [decide_eq_false c40]
      refine ⟨fun _ => ?_, fun n => absurd rfl n⟩
      rw [if_neg c40] at q1 q0
      have pgx := pg N t a hN ht ha
      refine hs h t a s _ E hst ht ha (fun y h1 ey g1 E1 => ?_) (fun e h1 ey F1 => ?_)
      · obtain ⟨y1, y2, y3, y4, y5, -⟩ := pgx.1 y ey
        simp only [ey] at q1 q0
        have go : cmC (tkK B y.1) ≠ 0 → wX12_goOn S h1 r (fun h141 => Gr 3 h141 r (fun h145 => wX12_emits S h145 r (nI (cmC (tkK B y.1))) 0 (fun h151 => Q h151))) := by
          intro hc
          rw [if_neg hc] at q1 q0
          have ht2 := nlt y.1 y2 (cmC_j hc).2.2
          have pgy := pg N (y.1 + 1) y.2.1 hN ht2 y4
          refine E1.go fun h2 g2 E2 => hs h2 (y.1 + 1) y.2.1 _ _ E2 (by omega) ht2 y4 (fun z h3 ez g3 E3 => ?_) (fun e h3 ez F3 => ?_)
          · obtain ⟨z1, z2, z3, z4, z5, -⟩ := pgy.1 z ez
            simp only [ez] at q1
            refine E3.put (y := (cmC (tkK B y.1), 0)) (by omega) fun h4 g4 E4 => ?_
            have g5 := ((g1.tr g2 rfl).tr g3 (by rw [List.append_nil])).tr g4 (by rw [List.length_append, List.append_nil]; omega)
            rw [List.append_nil] at g5
            refine q1 _ h4 rfl g5 ?_
            show RE A B S h4 r m k z.1 z.2.1 o (s + (y.2.2 ++ z.2.2 ++ [(cmC (tkK B y.1), 0)]).length)
            have : s + (y.2.2 ++ z.2.2 ++ [(cmC (tkK B y.1), 0)]).length = s + y.2.2.length + z.2.2.length + 1 := by
              simp only [List.length_append, List.length_cons, List.length_nil]; omega
            rw [this]
            exact E4
          · have := pgy.2 e ez
            simp only [ez] at q0
            refine (F3.pre (g1.1.tr g2.1 (by omega)) (by omega)).put hS hR (by omega) fun h4 F4 => q0 e h4 rfl (F4.mono (by omega))
        refine E1.1.sign (c := 60) (by decide) ?_
        by_cases c60 : tkK B y.1 = 60
        · rw [decide_eq_true c60]
          have go := go (by rw [c60]; decide)
          rw [c60] at go
          exact ⟨fun n => absurd n (by decide), fun _ => ⟨fun _ => ⟨h13, go⟩, fun n => absurd n (by decide)⟩⟩
        · rw [decide_eq_false c60]
          refine ⟨fun _ => E1.1.sign (c := 62) (by decide) ?_, fun n => absurd rfl n⟩
          by_cases c62 : tkK B y.1 = 62
          · rw [decide_eq_true c62]
            have go := go (by rw [c62]; decide)
            rw [c62] at go
            exact ⟨fun n => absurd n (by decide), fun _ => ⟨fun _ => ⟨h13, go⟩, fun n => absurd n (by decide)⟩⟩
          · rw [decide_eq_false c62]
            refine ⟨fun _ => ⟨fun n => absurd rfl n, fun _ => ⟨h13, E1.1.sign (c := 61) (by decide) ?_⟩⟩, fun n => absurd rfl n⟩
            by_cases c61 : tkK B y.1 = 61
            · rw [decide_eq_true c61]
              have go := go (by rw [c61]; decide)
              rw [c61] at go
              exact ⟨fun _ => go, fun n => absurd n (by decide)⟩
            · rw [decide_eq_false c61]
              have hc : cmC (tkK B y.1) = 0 := by
                unfold cmC
                rw [if_neg c60, if_neg c62, if_neg c61]
              rw [if_pos hc] at q0
              have F2 := E1.fs (f := 1) (by decide) (by decide)
              refine ⟨fun n => absurd rfl n, fun _ => E1.1.flaw (f := 1) (fGo h13 F2.2.1 (hF 3 _ _ _ _ (by omega) F2.2.1 ((F2.pre g1.1 (by omega)).put hS hR (by omega) fun h3 F3 => q0 _ h3 rfl (F3.mono ?_))))⟩
              show s + y.2.2.length + 1 ≤ s + (y.1 - t) + 3
              omega
      · have := pgx.2 e ey
        simp only [ey] at q0
        have f7 := F1.2.1
        exact fSign h13 f7.n0 ⟨fun _ => fSign h13 f7.n0 ⟨fun _ => ⟨fun n => absurd rfl n, fun _ => ⟨h13, fSign h13 f7.n0 ⟨fun n => absurd rfl n, fun _ => fFlaw h13 f7 (fGo h13 f7 (hF 3 _ _ _ _ (by omega) f7 (F1.put hS hR (by omega) fun h3 F3 => q0 e h3 rfl (F3.mono (by omega)))))⟩⟩⟩, fun n => absurd rfl n⟩, fun n => absurd rfl n⟩
theorem rS_all {A : Ab} {B : Bx} {S : Sh} {K : Nat → Nat} {r N m k : Nat} (hS : RS S r) (hN : tkK B N = 300) (hN6 : N ≤ 600) : ∀ (j d o : Nat), o + j = 8 → 3 * j + 6 ≤ d → RX A B S r N m k o 2 (pSm A B m k j) (fun h Q => wX12R S K d 3 h r Q)
  | 0, d + 6, o, ho, hd => rSumX (d := d + 4) hS hN hN6 (pAt_pg fun P h => (by cases h)) (rAtom (Gr := wX12R S K (d + 3)) hN hN6 (by omega) (fun _ => by omega) (fun P h => (by cases h)) (fun h f p Q F q => fR3 hS.1 F q))
  | j + 1, d + 6, o, ho, hd => rSumX (d := d + 4) hS hN hN6 (pAt_pg fun P h => by cases h; exact pSm_pg j) (rAtom (Gr := wX12R S K (d + 3)) hN hN6 (by omega) (fun h => (by cases h)) (fun P h => by
      cases h
      exact ⟨by omega, pSm_pg j, rS_all hS hN hN6 j (d + 3) (o + 1) (by omega) (by omega)⟩) (fun h f p Q F q => fR3 hS.1 F q))
theorem hF_all {S : Sh} {K : Nat → Nat} {r d : Nat} (hS : RS S r) : ∀ (sel : Nat) (h : Hp) (f p : Nat) (Q : Hp → Prop), sel = 0 ∨ sel = 2 ∨ sel = 3 → Fm h r f p → Q h → wX12R S K (d + 3) sel h r Q := by
  intro sel h f p Q hs F q
  rcases hs with e | e | e <;> subst e
  · exact fR0 hS.1 F q
  · exact fR2 hS.1 F q
  · exact fR3 hS.1 F q
theorem rF_all {A : Ab} {B : Bx} {S : Sh} {K : Nat → Nat} {r N m k : Nat} (hS : RS S r) (hN : tkK B N = 300) (hN6 : N ≤ 600) : ∀ (j d o : Nat), o + j = 8 → 3 * j + 7 ≤ d → RX A B S r N m k o 3 (pFc A B m k j) (fun h Q => wX12R S K d 2 h r Q)
  | 0, d + 4, o, ho, hd => rFact (Gr := wX12R S K (d + 3)) hN hN6 (by omega) (fun _ => by omega) (fun P h => (by cases h)) (pSm_pg 0) (rS_all hS hN hN6 0 (d + 3) o ho (by omega)) (hF_all hS)
  | j + 1, d + 4, o, ho, hd => rFact (Gr := wX12R S K (d + 3)) hN hN6 (by omega) (fun h => (by cases h)) (fun P h => by
      cases h
      exact ⟨by omega, ⟨pFc_pg j, rF_all hS hN hN6 j (d + 3) (o + 1) (by omega) (by omega)⟩, ⟨gnT_pg (pFc_pg j), rTestX (d := d + 1) hS hN hN6 (pFc_pg j) (rF_all hS hN hN6 j (d + 1) (o + 1) (by omega) (by omega))⟩⟩) (pSm_pg (j + 1)) (rS_all hS hN hN6 (j + 1) (d + 3) o ho (by omega)) (hF_all hS)
/-- readSum, readTest -/
theorem rRS {A : Ab} {B : Bx} {S : Sh} {K : Nat → Nat} {r N m k : Nat} (hS : RS S r) (hN : tkK B N = 300) (hN6 : N ≤ 600) : RX A B S r N m k 0 2 (pSm A B m k 8) (fun h Q => wX12_readSum S K h r Q) := rS_all hS hN hN6 8 60 0 rfl (by omega)
theorem rRT {A : Ab} {B : Bx} {S : Sh} {K : Nat → Nat} {r N m k : Nat} (hS : RS S r) (hN : tkK B N = 300) (hN6 : N ≤ 600) : RX A B S r N m k 0 3 (pTs A B m k 8) (fun h Q => wX12_readTest S K h r Q) := rTestX (d := 58) hS hN hN6 (pFc_pg 8) (rF_all hS hN hN6 8 58 0 rfl (by omega))
