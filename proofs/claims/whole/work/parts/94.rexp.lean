theorem X12_0 {S : Sh} {K : Nat → Nat} {d : Nat} {h : Hp} {c : Nat} {Q : Hp → Prop} : wX12R S K (d + 1) 0 h c Q = wX12_readTest_b S K (wX12R S K d) h c Q := rfl
theorem X12_1 {S : Sh} {K : Nat → Nat} {d : Nat} {h : Hp} {c : Nat} {Q : Hp → Prop} : wX12R S K (d + 1) 1 h c Q = wX12_readBoth_b S K (wX12R S K d) h c Q := rfl
theorem X12_2 {S : Sh} {K : Nat → Nat} {d : Nat} {h : Hp} {c : Nat} {Q : Hp → Prop} : wX12R S K (d + 1) 2 h c Q = wX12_readFact_b S K (wX12R S K d) h c Q := rfl
theorem X12_3 {S : Sh} {K : Nat → Nat} {d : Nat} {h : Hp} {c : Nat} {Q : Hp → Prop} : wX12R S K (d + 1) 3 h c Q = wX12_readSum_b S K (wX12R S K d) h c Q := rfl
theorem X12_4 {S : Sh} {K : Nat → Nat} {d : Nat} {h : Hp} {c : Nat} {Q : Hp → Prop} : wX12R S K (d + 1) 4 h c Q = wX12_readTerm_b S K (wX12R S K d) h c Q := rfl
theorem X12_5 {S : Sh} {K : Nat → Nat} {d : Nat} {h : Hp} {c : Nat} {Q : Hp → Prop} : wX12R S K (d + 1) 5 h c Q = wX12_readAtom_b S K (wX12R S K d) h c Q := rfl
theorem fR5 {S : Sh} {K : Nat → Nat} {d : Nat} {h : Hp} {r f p : Nat} {Q : Hp → Prop} (h1 : (S r).1 = 13) (F : Fm h r f p) (q : Q h) : wX12R S K (d + 1) 5 h r Q := by
  rw [X12_5]
  exact ⟨h1, br_f F.gt q⟩
theorem fR2 {S : Sh} {K : Nat → Nat} {d : Nat} {h : Hp} {r f p : Nat} {Q : Hp → Prop} (h1 : (S r).1 = 13) (F : Fm h r f p) (q : Q h) : wX12R S K (d + 1) 2 h r Q := by
  rw [X12_2]
  exact ⟨h1, br_f F.gt q⟩
theorem fR4 {S : Sh} {K : Nat → Nat} {d : Nat} {h : Hp} {r f p : Nat} {Q : Hp → Prop} (h1 : (S r).1 = 13) (F : Fm h r f p) (q : Q h) : wX12R S K (d + 2) 4 h r Q := by
  rw [X12_4]
  exact ⟨h1, fR5 h1 F ⟨1, h1, fPassS h1 F ⟨fun _ => q, fun n => absurd rfl n⟩⟩⟩
theorem fR3 {S : Sh} {K : Nat → Nat} {d : Nat} {h : Hp} {r f p : Nat} {Q : Hp → Prop} (h1 : (S r).1 = 13) (F : Fm h r f p) (q : Q h) : wX12R S K (d + 3) 3 h r Q := by
  rw [X12_3]
  exact ⟨h1, fR4 h1 F ⟨1, h1, fSign h1 F.n0 ⟨fun n => absurd rfl n, fun _ => fSign h1 F.n0 ⟨fun _ => q, fun n => absurd rfl n⟩⟩⟩⟩
theorem fR1 {S : Sh} {K : Nat → Nat} {d : Nat} {h : Hp} {r f p : Nat} {Q : Hp → Prop} (h1 : (S r).1 = 13) (F : Fm h r f p) (q : Q h) : wX12R S K (d + 2) 1 h r Q := by
  rw [X12_1]
  exact ⟨h1, fR2 h1 F ⟨1, h1, fPass h1 F ⟨fun _ => q, fun n => absurd rfl n⟩⟩⟩
theorem fR0 {S : Sh} {K : Nat → Nat} {d : Nat} {h : Hp} {r f p : Nat} {Q : Hp → Prop} (h1 : (S r).1 = 13) (F : Fm h r f p) (q : Q h) : wX12R S K (d + 3) 0 h r Q := by
  rw [X12_0]
  exact ⟨h1, fR1 h1 F ⟨1, h1, fPass h1 F ⟨fun _ => q, fun n => absurd rfl n⟩⟩⟩
section
variable {S : Sh} {K : Nat → Nat} {Gr : Nat → Hp → Nat → (Hp → Prop) → Prop} {r s0 : Nat} {h0 h : Hp} {f p lim : Nat} {Q : Hp → Prop}
theorem f169 {x3 x4 : Int32} (hS : RS S r) (hR : RR h0 r) (F : FS r s0 h0 h f p lim) (hl : lim < 700) (q : ∀ h', FS r s0 h0 h' f p (lim + 1) → Q h') : wX12_readAtom_j169 S K Gr h r x3 x4 Q := by
  unfold wX12_readAtom_j169
  have F1 := F.pI (k := 42) (by omega) (gI h r 42 + 1)
  refine ⟨hS.1, fSign hS.1 F1.2.1.n0 ⟨fun _ => ⟨fun _ => fWord hS.1 F1.2.1.n0 ⟨fun _ => ⟨fun _ => fGo hS.1 F1.2.1 (q _ (F1.mono (by omega))), fun n => absurd n F1.2.1.n0⟩, fun n => absurd rfl n⟩, fun _ => F1.put hS hR hl fun h2 F2 => fGo hS.1 F2.2.1 (q _ F2)⟩, fun n => absurd rfl n⟩⟩
theorem f155 {x3 x4 : Int32} (hS : RS S r) (hR : RR h0 r) (F : FS r s0 h0 h f p lim) (hl : lim < 700) (q : ∀ h', FS r s0 h0 h' f p (lim + 1) → Q h') : wX12_readAtom_j155 S K Gr h r x3 x4 Q :=
  ⟨hS.1, fun _ => f169 hS hR F hl q, fun _ => fFlaw hS.1 F.2.1 (f169 hS hR F hl q)⟩
theorem f63 (hS : RS S r) (hR : RR h0 r) (F : FS r s0 h0 h f p lim) (hl : lim < 700) (q : ∀ h', FS r s0 h0 h' f p (lim + 1) → Q h') : wX12_readAtom_j63 S K Gr h r Q :=
  ⟨hS.1, fun _ _ => fName hS.1 F.2.1.n0 ⟨fun _ => ⟨hS.1, fName hS.1 F.2.1.n0 ⟨fun _ => ⟨hS.1, fName hS.1 F.2.1.n0 ⟨fun _ => f155 hS hR F hl q, fun n => absurd rfl n⟩⟩, fun n => absurd rfl n⟩⟩, fun n => absurd rfl n⟩⟩
end
def ovI : Option Nat → Int32
  | some v => nI v
  | none => -1
theorem RE.atm {A : Ab} {B : Bx} {S : Sh} {h : Hp} {r m k t a o s : Nat} (E : RE A B S h r m k t a o s) : Rg r s h (pI h r 42 (nI (a + 1))) [] ∧ RE A B S (pI h r 42 (nI (a + 1))) r m k t (a + 1) o s := by
  have f : Ef r s h (pI h r 42 (nI (a + 1))) := Ef.rf.pI (by omega) _
  exact ⟨⟨f, RAp.nil⟩, E.1.fld (by omega) _, E.2.1.ef f, by rw [gI_pI, if_pos ⟨rfl, rfl⟩], by rw [gI_pI, if_neg (by omega)]; exact E.2.2.2.1, by rw [gI_pI, if_neg (by omega)]; exact E.2.2.2.2⟩
theorem RE.opn {A : Ab} {B : Bx} {S : Sh} {h : Hp} {r m k t a o s o' : Nat} (E : RE A B S h r m k t a o s) : Rg r s h (pI h r 43 (nI o')) [] ∧ RE A B S (pI h r 43 (nI o')) r m k t a o' s := by
  have f : Ef r s h (pI h r 43 (nI o')) := Ef.rf.pI (by omega) _
  exact ⟨⟨f, RAp.nil⟩, E.1.fld (by omega) _, E.2.1.ef f, by rw [gI_pI, if_neg (by omega)]; exact E.2.2.1, by rw [gI_pI, if_pos ⟨rfl, rfl⟩], by rw [gI_pI, if_neg (by omega)]; exact E.2.2.2.2⟩
/-- what a name was found to be -/
def NmX (A : Ab) (B : Bx) (m k t : Nat) (x3 x4 : Int32) : Prop := ∃ y, slA A m k (tkC B t) = some y ∧ ((y.1 = 1 ∧ x3 = nI y.2 ∧ x3 ≠ -1) ∨ (y.1 = 2 ∧ x3 = -1 ∧ x4 = nI y.2))
theorem rAtom {A : Ab} {B : Bx} {S : Sh} {K : Nat → Nat} {r N m k o : Nat} {inn : Option (Nat → Nat → PR)} {Gr : Nat → Hp → Nat → (Hp → Prop) → Prop} (hN : tkK B N = 300) (hN6 : N ≤ 600) (ho : o ≤ 8) (hn : inn = none → o = 8)
    (hP : ∀ P, inn = some P → o < 8 ∧ PG A B m k anyP P ∧ RX A B S r N m k (o + 1) 2 P (fun h Q => Gr 3 h r Q))
    (hF : ∀ (h : Hp) (f p : Nat) (Q : Hp → Prop), Fm h r f p → Q h → Gr 3 h r Q) : RX A B S r N m k o 2 (pAt A B m k inn) (fun h Q => wX12_readAtom_b S K Gr h r Q) := by
  intro h t a s Q E hs ht ha q1 q0
  have hS := E.1.1
  have hR := E.1.2.1
  have h13 := hS.1
  have hm := E.2.1.1
  have kd := E.1.bd
  have nlt : tkK B t ≠ 300 → t + 1 ≤ N := fun h => by
    by_cases e : t = N
    · subst e; exact absurd hN h
    · omega
  -- fault at this token
  have er : ∀ f, pAt A B m k inn t a = .error (f, t) → ∀ h', FS r s h h' f (tkP B t) (s + 1) → Q h' := fun f e h' F => q0 _ h' e (F.mono (by show s + 1 ≤ s + (t - t) + 2; omega))
  -- counted
  obtain ⟨g1, E1⟩ := E.atm
  have j169 : ∀ x3 x4 : Int32, (tkK B t = 303 ∨ tkK B t = 302 ∨ tkK B t = 91 ∨ (tkK B t = 415 ∧ k = 1)) → a < 30 → (tkK B t = 302 → NmX A B m k t x3 x4) → wX12_readAtom_j169 S K Gr h r x3 x4 Q := by
    intro x3 x4 hk ha' hy
    have e0 : ¬ (tkK B t = 302 ∧ slA A m k (tkC B t) = none) := fun x => by
      obtain ⟨y, e, -⟩ := hy x.1
      rw [e] at x
      cases x.2
    have hlt := nlt (by omega)
    unfold wX12_readAtom_j169
    rw [E.2.2.1, nI_1]
    refine ⟨h13, E1.1.sign (c := 91) (by decide) ?_⟩
    by_cases c91 : tkK B t = 91
    · rw [decide_eq_true c91]
      refine ⟨fun n => absurd n (by decide), fun _ => ?_⟩
      unfold wX12_opens
      rw [E1.2.2.2.1, nI_1, show (8 : Int32) = nI 8 from rfl, nI_eq (by omega) (by omega)]
      cases inn with
      | none =>
        have o8 := hn rfl
        have e1 : pAt A B m k none t a = .error (4, t) := by
          unfold pAt
          rw [if_pos hk, if_neg e0, if_neg (by omega), if_pos c91]
        refine ⟨h13, fun n => absurd o8 n, fun _ => E1.1.flaw (f := 4) ?_⟩
        have F1 := E1.fs (f := 4) (by decide) (by decide)
        have F2 := F1.pI (k := 43) (by omega) (gI (flw (pI h r 42 (nI (a + 1))) r 4) r 43 + 1)
        refine fGo h13 F2.2.1 (hF _ _ _ _ F2.2.1 (fNeedsS h13 F2.2.1 ?_))
        have F3 := F2.pI (k := 43) (by omega) (gI (pI (flw (pI h r 42 (nI (a + 1))) r 4) r 43 (gI (flw (pI h r 42 (nI (a + 1))) r 4) r 43 + 1)) r 43 - 1)
        exact er 4 e1 _ ((F3.pre g1.1 (Nat.le_refl _)).mono (by omega))
      | some P =>
        obtain ⟨o8, pg, rx⟩ := hP P rfl
        have e1 : pAt A B m k (some P) t a = (match P (t + 1) (a + 1) with | .error e => .error e | .ok x => if tkK B x.1 = 93 then .ok (x.1 + 1, x.2.1, x.2.2) else .error (1, x.1)) := by
          unfold pAt
          rw [if_pos hk, if_neg e0, if_neg (by omega), if_pos c91]
          rfl
        obtain ⟨g2, E2⟩ := E1.opn (o' := o + 1)
        refine ⟨h13, fun _ => E2.go fun h3 g3 E3 => ?_, fun n => absurd n (by omega)⟩
        have g123 : Rg r s h h3 [] := (g1.tr g2 rfl).tr g3 rfl
        have pgx := pg N (t + 1) (a + 1) hN hlt (by omega)
        refine rx h3 (t + 1) (a + 1) s _ E3 (by omega) hlt (by omega) (fun x h4 ex g4 E4 => ?_) (fun e h4 ex F4 => ?_)
        · obtain ⟨y1, y2, y3, y4, y5, -⟩ := pgx.1 x ex
          rw [ex] at e1
          simp only at e1
          have g5 : Rg r s h h4 x.2.2 := g123.tr g4 rfl
          refine E4.1.needsS (c := 93) (by decide) (fun c93 h5 gf5 p5 => ?_) (fun n93 => ?_)
          · rw [if_pos c93] at e1
            have E5 := E4.gf gf5 p5
            obtain ⟨g6, E6⟩ := E5.opn (o' := o)
            have e43 : gI h5 r 43 - 1 = nI o := by rw [E5.2.2.2.1]; exact nI_pred o
            rw [e43]
            have g7 : Rg r s h (pI h5 r 43 (nI o)) x.2.2 := by
              have := (g5.tr (⟨Ef.gf gf5, RAp.nil⟩ : Rg r (s + x.2.2.length) h4 h5 []) rfl).tr g6 (by rw [List.append_nil])
              rw [List.append_nil, List.append_nil] at this
              exact this
            exact q1 _ _ e1 g7 E6
          · rw [if_neg n93] at e1
            have F5 := (E4.fs (f := 1) (by decide) (by decide)).pI (k := 43) (by omega) (gI (flw h4 r 1) r 43 - 1)
            refine q0 _ _ e1 ((F5.pre g5.1 (by omega)).mono ?_)
            show s + x.2.2.length ≤ s + (x.1 - t) + 2
            omega
        · have := pgx.2 e ex
          rw [ex] at e1
          refine fNeedsS h13 F4.2.1 ?_
          have F5 := F4.pI (k := 43) (by omega) (gI h4 r 43 - 1)
          refine q0 _ _ e1 ((F5.pre g123.1 (Nat.le_refl _)).mono (by omega))
    · rw [decide_eq_false c91]
      refine ⟨fun _ => ?_, fun n => absurd rfl n⟩
      have e1 : pAt A B m k inn t a = .ok (t + 1, a + 1, [atC A B m k t]) := by
        unfold pAt
        rw [if_pos hk, if_neg e0, if_neg (by omega), if_neg c91]
      have fin : ∀ h2, Rg r s (pI h r 42 (nI (a + 1))) h2 [atC A B m k t] → RE A B S h2 r m k t (a + 1) o (s + 1) → wX12_goOn S h2 r Q := by
        intro h2 g2 E2
        refine E2.go fun h3 g3 E3 => q1 _ h3 e1 ?_ E3
        have := (g1.tr g2 rfl).tr g3 rfl
        rw [List.append_nil] at this
        exact this
      rw [E1.1.is3]
      refine ⟨fun n3 => E1.1.word (i := 15) (by decide) ?_, fun c3 => ?_⟩
      · by_cases c15 : tkK B t = 400 + 15
        · rw [decide_eq_true c15]
          refine ⟨fun n => absurd n (by decide), fun _ => ?_⟩
          have ea : atC A B m k t = (3, 0) := by
            unfold atC
            rw [if_neg n3, if_neg (by omega)]
          exact E1.put (y := (3, 0)) (by omega) fun h2 g2 E2 => fin h2 (by rw [ea]; exact g2) E2
        · rw [decide_eq_false c15]
          have c2 : tkK B t = 302 := by omega
          refine ⟨fun _ => ?_, fun n => absurd rfl n⟩
          rw [E1.1.2.2.2.2]
          refine ⟨fun n => absurd rfl n, fun _ => ?_⟩
          obtain ⟨y, ey, hy⟩ := hy c2
          have ea : atC A B m k t = y := by
            unfold atC
            rw [if_neg n3, if_pos c2, ey]
            rfl
          rcases hy with ⟨y1, x3e, x3n⟩ | ⟨y1, x3e, x4e⟩
          · have e2 : (1 : Int32) = nI y.1 := by rw [y1]; rfl
            refine ⟨fun n => absurd n x3n, fun _ => ⟨fun n => absurd n x3n, fun _ => ⟨h13, ?_⟩⟩⟩
            rw [x3e, e2]
            exact E1.put (y := y) (by omega) fun h2 g2 E2 => ⟨h13, fin h2 (by rw [ea]; exact g2) E2⟩
          · have e2 : (2 : Int32) = nI y.1 := by rw [y1]; rfl
            refine ⟨fun _ => ⟨fun _ => ⟨h13, ?_⟩, fun n => absurd x3e n⟩, fun n => absurd x3e n⟩
            rw [x4e, e2]
            exact E1.put (y := y) (by omega) fun h2 g2 E2 => ⟨h13, fin h2 (by rw [ea]; exact g2) E2⟩
      · have ea : atC A B m k t = (0, tkC B t) := by
          unfold atC
          rw [if_pos c3]
        rw [(E1.1.2.2.2.1.2.2.2.2.2.1 c3).2]
        exact E1.put (y := (0, tkC B t)) (by omega) fun h2 g2 E2 => fin h2 (by rw [ea]; exact g2) E2
  have j155 : ∀ x3 x4 : Int32, (tkK B t = 303 ∨ tkK B t = 302 ∨ tkK B t = 91 ∨ (tkK B t = 415 ∧ k = 1)) → (tkK B t = 302 → NmX A B m k t x3 x4) → wX12_readAtom_j155 S K Gr h r x3 x4 Q := by
    intro x3 x4 hk hy
    unfold wX12_readAtom_j155
    rw [E.2.2.1, show (30 : Int32) = nI 30 from rfl, nI_eq (by omega) (by omega)]
    refine ⟨h13, fun n => j169 x3 x4 hk (by omega) hy, fun e => E.1.flaw (f := 4) ?_⟩
    refine f169 hS hR (E.fs (f := 4) (by decide) (by decide)) (by omega) (er 4 ?_)
    unfold pAt
    rw [if_pos hk, if_neg (fun x => ?_), if_pos (by omega)]
    obtain ⟨y, e, -⟩ := hy x.1
    rw [e] at x
    cases x.2
  have j63 : (tkK B t = 303 ∨ tkK B t = 302 ∨ tkK B t = 91 ∨ (tkK B t = 415 ∧ k = 1)) → wX12_readAtom_j63 S K Gr h r Q := by
    intro hk
    refine ⟨h13, nm_r (e' := nI (3 + m)) ?_ (E.1.name ?_)⟩
    · rw [E.2.1.2.1, n_3, nI_add, show 3 + (m + 1) = 3 + m + 1 by omega]
      exact nI_pred _
    by_cases c2 : tkK B t = 302
    · rw [decide_eq_true c2]
      have wd := (E.1.2.2.2.1.2.2.2.2.1 (Or.inl c2)).2
      refine ⟨fun n => absurd n (by decide), fun _ => ?_⟩
      rw [wd]
      refine rVar hS hR E.2.1 (Nat.le_refl _) ⟨h13, E.1.name ?_⟩
      rw [decide_eq_true c2]
      refine ⟨fun n => absurd n (by decide), fun _ => ?_⟩
      have w3 := (E.2.1.2.2.2.2 m (Nat.le_refl _)).1
      rw [E.2.1.2.2.1, E.2.1.2.1]
      cases ho : fdI (aVn A m) (lN (tkC B t)) (aVm A m) 0 with
      | some v =>
        have hv := fdI_s ho
        have es : slA A m k (tkC B t) = some (1, v) := by
          unfold slA
          rw [ho]
        have nv : nI v ≠ -1 := fun e => nI_neg (k := v) (by omega) e.symm
        have j130 : ∀ x : Int32, wX12_readAtom_j130 S K Gr h r (nI v) x Q := fun x => by
          refine ⟨h13, E.1.name ?_⟩
          rw [decide_eq_true c2]
          exact ⟨fun n => absurd n (by decide), fun _ => ⟨fun _ => j155 (nI v) x hk (fun _ => ⟨(1, v), es, Or.inl ⟨rfl, rfl, nv⟩⟩), fun e => absurd e nv⟩⟩
        refine ⟨fun _ => j130 _, fun n0 => ⟨fun _ => j130 _, fun n1 => ?_⟩⟩
        have m0 : 0 < m := by
          rcases Nat.eq_zero_or_pos m with e | e
          · subst e; exact absurd (by decide) n1
          · exact e
        have em : nI (3 + m) - 1 = nI (3 + (m - 1)) := by
          rw [n_1, n_sub (by omega)]
          congr 1
          omega
        rw [em]
        show wX12_varOf S h r (nI (3 + (m - 1))) (gJ h r 13) _
        rw [wd]
        exact rVar hS hR E.2.1 (by omega) (j130 _)
      | none =>
        have none' : slA A m k (tkC B t) = none → wX12_readAtom_j130 S K Gr h r (-1) (-1) Q := fun es => by
          refine ⟨h13, E.1.name ?_⟩
          rw [decide_eq_true c2]
          refine ⟨fun n => absurd n (by decide), fun _ => ⟨fun n => absurd rfl n, fun _ => ⟨fun n => absurd rfl n, fun _ => E.1.flaw (f := 3) ?_⟩⟩⟩
          refine f155 hS hR (E.fs (f := 3) (by decide) (by decide)) (by omega) (er 3 ?_)
          unfold pAt
          rw [if_pos hk, if_pos ⟨c2, es⟩]
        by_cases ck : k = 0
        · rw [decide_eq_true ck]
          refine ⟨fun n => absurd n (by decide), fun _ => ?_⟩
          by_cases cm : 0 < m
          · refine br_f (nI_ge (a := 1) (by omega) (by omega)) ?_
            rw [show nI (3 + m) - 1 = nI (3 + (m - 1)) from by rw [n_1, n_sub (by omega)]; congr 1; omega, wd]
            refine rVar hS hR E.2.1 (by omega) ?_
            have w4 := (E.2.1.2.2.2.2 (m - 1) (by omega)).1
            cases ho2 : fdI (aVn A (m - 1)) (lN (tkC B t)) (aVm A (m - 1)) 0 with
            | some v =>
              have hv := fdI_s ho2
              have es : slA A m k (tkC B t) = some (2, v) := by
                unfold slA
                rw [ho]
                simp only
                rw [if_pos ⟨ck, cm⟩, ho2]
              have nv : nI v ≠ -1 := fun e => nI_neg (k := v) (by omega) e.symm
              refine ⟨h13, E.1.name ?_⟩
              rw [decide_eq_true c2]
              exact ⟨fun n => absurd n (by decide), fun _ => ⟨fun n => absurd rfl n, fun _ => ⟨fun _ => j155 (-1) (nI v) hk (fun _ => ⟨(2, v), es, Or.inr ⟨rfl, rfl, rfl⟩⟩), fun e => absurd e nv⟩⟩⟩
            | none =>
              refine none' ?_
              unfold slA
              rw [ho]
              simp only
              rw [if_pos ⟨ck, cm⟩, ho2]
          · refine br_t (nI_le (b := 1) (by omega) (by decide)) (none' ?_)
            unfold slA
            rw [ho]
            simp only
            rw [if_neg (fun x => cm x.2)]
        · rw [decide_eq_false ck]
          refine br_t rfl (none' ?_)
          unfold slA
          rw [ho]
          simp only
          rw [if_neg (fun x => ck x.1)]
    · rw [decide_eq_false c2]
      refine ⟨fun _ => ⟨h13, E.1.name ?_⟩, fun n => absurd rfl n⟩
      rw [decide_eq_false c2]
      refine ⟨fun _ => ⟨h13, E.1.name ?_⟩, fun n => absurd rfl n⟩
      rw [decide_eq_false c2]
      exact ⟨fun _ => j155 _ _ hk (fun e => absurd e c2), fun n => absurd rfl n⟩
  have no : ¬ (tkK B t = 303 ∨ tkK B t = 302 ∨ tkK B t = 91 ∨ (tkK B t = 415 ∧ k = 1)) → wX12_readAtom_j53 S K Gr h r 0 Q := by
    intro hk
    refine ⟨fun n => absurd rfl n, fun _ => ⟨h13, E.1.flaw (f := 1) ?_⟩⟩
    refine f63 hS hR (E.fs (f := 1) (by decide) (by decide)) (by omega) (er 1 ?_)
    unfold pAt
    rw [if_neg hk]
  have j48 : (tkK B t = 303 ∨ tkK B t = 302 ∨ tkK B t = 91 ∨ (tkK B t = 415 ∧ k = 1)) → wX12_readAtom_j48 S K Gr h r Q := fun hk => ⟨fun _ => j63 hk, fun n => absurd n (by decide)⟩
  have j39 : tkK B t ≠ 303 → tkK B t ≠ 302 → ¬ (tkK B t = 415 ∧ k = 1) → wX12_readAtom_j39 S K Gr h r Q := by
    intro n3 n2 n15
    refine ⟨h13, E.1.sign (c := 91) (by decide) ?_⟩
    by_cases c91 : tkK B t = 91
    · rw [decide_eq_true c91]
      exact ⟨fun n => absurd n (by decide), fun _ => j48 (by omega)⟩
    · rw [decide_eq_false c91]
      exact ⟨fun _ => no (by omega), fun n => absurd rfl n⟩
  unfold wX12_readAtom_b
  rw [E.1.2.2.2.2, E.1.is3]
  refine ⟨h13, br_t (by decide) ⟨fun e => j48 (Or.inl e), fun n3 => E.1.name ?_⟩⟩
  by_cases c2 : tkK B t = 302
  · rw [decide_eq_true c2]
    exact ⟨fun _ => j48 (by omega), fun n => absurd n (by decide)⟩
  · rw [decide_eq_false c2]
    refine ⟨fun n => absurd rfl n, fun _ => E.1.word (i := 15) (by decide) ?_⟩
    by_cases c15 : tkK B t = 400 + 15
    · rw [decide_eq_true c15, E.2.1.2.2.2.1]
      refine ⟨fun n => absurd n (by decide), fun _ => ?_⟩
      by_cases ck : k = 1
      · rw [decide_eq_true ck]
        exact ⟨fun _ => j48 (by omega), fun n => absurd n (by decide)⟩
      · rw [decide_eq_false ck]
        exact ⟨fun n => absurd rfl n, fun _ => j39 n3 c2 (by omega)⟩
    · rw [decide_eq_false c15]
      exact ⟨fun _ => j39 n3 c2 (by omega), fun n => absurd rfl n⟩
