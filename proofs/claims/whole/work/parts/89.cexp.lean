/-! THE CLASS READS SUMS AND TESTS -/
def CE (A : Ab) (B : Bx) (S : Sh) (h : Hp) (c D N m k t a cz : Nat) : Prop := Cp B S h c N t ∧ CN A S h c D m k ∧ gI h c 9 = nI a ∧ gI h D 6 = nI cz
def CAp (h : Hp) (D f : Nat) (L : Cd) : Prop := ∀ (i : Nat) (y : Nat × Nat), L[i]? = some y → gI h (D + 2) (f + i) = nI (enC y)
theorem CAp.fx {h h' : Hp} {c D f cz : Nat} {L : Cd} (H : CAp h D f L) (x : Fx c D cz h h') (hz : f + L.length ≤ cz) : CAp h' D f L := fun i y hy => by
  have := (List.getElem?_eq_some_iff.mp hy).1
  rw [x.2.2.2.2.2 _ (by omega)]
  exact H i y hy
theorem CAp.app {h : Hp} {D f : Nat} {L1 L2 : Cd} (H1 : CAp h D f L1) (H2 : CAp h D (f + L1.length) L2) : CAp h D f (L1 ++ L2) := fun i y hy => by
  by_cases c : i < L1.length
  · rw [List.getElem?_append_left c] at hy
    exact H1 i y hy
  · rw [List.getElem?_append_right (by omega)] at hy
    have := H2 _ y hy
    rw [show f + L1.length + (i - L1.length) = f + i by omega] at this
    exact this
theorem CAp.one {h : Hp} {D f : Nat} {y : Nat × Nat} (e : gI h (D + 2) f = nI (enC y)) : CAp h D f [y] := fun i z hz => by
  cases i with
  | zero =>
    cases hz
    exact e
  | succ i => cases hz
theorem CAp.nil {h : Hp} {D f : Nat} : CAp h D f [] := fun i z hz => by cases hz
theorem CN.out {A : Ab} {S : Sh} {h : Hp} {c D m k : Nat} (H : CN A S h c D m k) : c + 6 < D ∨ D + 441 ≤ c := H.2.2.2.2.2.2.2.2.2.2.2
theorem CN.ne {A : Ab} {S : Sh} {h : Hp} {c D m k : Nat} (H : CN A S h c D m k) : c ≠ D ∧ c ≠ D + 2 := by have := H.out; omega
theorem Cp.fx {A : Ab} {B : Bx} {S : Sh} {h h' : Hp} {c D N m k t t' cz : Nat} (H : Cp B S h c N t) (n : CN A S h c D m k) (f : Fx c D cz h h') (e : gI h' c 8 = nI t') (ht : t' ≤ N) : Cp B S h' c N t' := by
  have := n.out
  obtain ⟨h1, h2, h3, h4, h5, h6, h7, h8, h9, h10, h11, h12, h13⟩ := H.1
  refine ⟨⟨h1, h2, h3, h4, h5, by rw [f.2.1]; exact h6, by rw [f.2.1]; exact h7, by rw [f.2.1]; exact h8, by rw [f.2.1]; exact h9, h10, h11, fun i hi => ?_, h13⟩, e, ht⟩
  rw [f.1 _ (by omega) (by omega) (by omega), f.1 _ (by omega) (by omega) (by omega), f.2.2.1]
  exact h12 i hi
theorem CE.adv {A : Ab} {B : Bx} {S : Sh} {h : Hp} {c D N m k t a cz : Nat} {Q : Hp → Prop} (E : CE A B S h c D N m k t a cz) (hk : tkK B t ≠ 300) (q : ∀ h', Fx c D cz h h' → CE A B S h' c D N m k (t + 1) a cz → gI h' (D + 2) = gI h (D + 2) → Q h') : wX5_advance S h c Q := by
  have ne := E.2.1.ne
  have f : Fx c D cz h (pI h c 8 (nI (t + 1))) := Fx.rf.c ne (by omega) _
  refine cAdv E.1 hk fun p => q _ f ⟨p, E.2.1.fx f, ?_, ?_⟩ (funext fun j => ?_)
  · rw [gI_pI, if_neg (by omega)]; exact E.2.2.1
  · rw [gI_pI, if_neg (by omega)]; exact E.2.2.2
  · rw [gI_pI, if_neg (by omega)]
theorem CE.emit {A : Ab} {B : Bx} {S : Sh} {h : Hp} {c D N m k t a cz : Nat} {v : Int32} {Q : Hp → Prop} (E : CE A B S h c D N m k t a cz) (hz : cz < 601) (q : ∀ h', Fx c D cz h h' → CE A B S h' c D N m k t a (cz + 1) → gI h' (D + 2) cz = v → Q h') : wX3_emit S h D v Q := by
  have ne := E.2.1.ne
  have out := E.2.1.out
  obtain ⟨h1, h2, h3, h4, h5, h6, h7, h8, h9, h10, h11, h12⟩ := E.2.1
  unfold wX3_emit
  rw [h9, h2.2.2.1, E.2.2.2, ix_nI (by omega)]
  refine ⟨by rw [h2.1], rfl, br_f (nI_ge (b := 601) (by omega) (by decide)) ⟨inA_of h2.2.2.1 (by omega) (by decide), nm_e ?_⟩⟩
  rw [gI_pI, if_neg (by omega), E.2.2.2, nI_1]
  have f : Fx c D cz h (pI (pI h (D + 2) cz v) D 6 (nI (cz + 1))) := by
    refine ⟨fun b p1 p2 p3 j => ?_, fun _ _ => rfl, fun _ _ => rfl, fun j p1 p2 p3 p4 => ?_, fun j p => ?_, fun j p => ?_⟩
    · rw [gI_pI, if_neg (by omega), gI_pI, if_neg (by omega)]
    · rw [gI_pI, if_neg (by omega), gI_pI, if_neg (by omega)]
    · rw [gI_pI, if_neg (by omega), gI_pI, if_neg (by omega)]
    · rw [gI_pI, if_neg (by omega), gI_pI, if_neg (by omega)]
  refine q _ f ⟨E.1.fx E.2.1 f ?_ E.1.2.2, E.2.1.fx f, ?_, ?_⟩ ?_
  · rw [gI_pI, if_neg (by omega), gI_pI, if_neg (by omega)]; exact E.1.2.1
  · rw [gI_pI, if_neg (by omega), gI_pI, if_neg (by omega)]; exact E.2.2.1
  · rw [gI_pI, if_pos ⟨rfl, rfl⟩]
  · rw [gI_pI, if_neg (by omega), gI_pI, if_pos ⟨rfl, rfl⟩]
def CX (A : Ab) (B : Bx) (S : Sh) (c D N m k : Nat) (X : Nat → Nat → PR) (W : Hp → (Int32 → Hp → Prop) → Prop) : Prop := ∀ (h : Hp) (t a cz : Nat) (Q : Int32 → Hp → Prop), CE A B S h c D N m k t a cz → cz ≤ t → a ≤ 30 →
  (∀ x h', X t a = .ok x → Fx c D cz h h' → CE A B S h' c D N m k x.1 x.2.1 (cz + x.2.2.length) → CAp h' D cz x.2.2 → Q 1 h') →
  (∀ e h', X t a = .error e → Fx c D cz h h' → gI h' c 2 = nI e.1 → gI h' c 3 = nI (tkP B e.2) → Q 0 h') → W h Q
theorem kEq {B : Bx} {S : Sh} {h : Hp} {c N t v : Nat} (H : Cp B S h c N t) (hv : v < 1000) : nI (tkK B t) = nI v ↔ tkK B t = v := by
  have := tk_kind (t := t) H.1.2.2.2.2.2.2.2.2.2.2.2.2.1
  exact nI_eq (by omega) (by omega)
theorem cAt {A : Ab} {B : Bx} {S : Sh} {c D N m k dep : Nat} {inn : Option (Nat → Nat → PR)} {Gr : Nat → Hp → Nat → Int32 → (Int32 → Hp → Prop) → Prop} (hd : dep ≤ 8) (hn : inn = none → dep = 8)
    (hP : ∀ P, inn = some P → dep < 8 ∧ PG A B m k anyP P ∧ CX A B S c D N m k P (fun h Q => Gr 2 h c (nI (dep + 1)) Q)) : CX A B S c D N m k (pAt A B m k inn) (fun h Q => wX5_readAtom_b S Gr h c (nI dep) Q) := by
  intro h t a cz Q E hz ha q1 q0
  have ne := E.2.1.ne
  have nn := E.1.n
  have hc6 : (S c).1 = 6 := by rw [E.1.1.1]
  have kE : ∀ v, v < 1000 → (nI (tkK B t) = nI v ↔ tkK B t = v) := fun v hv => kEq E.1 hv
  have k300 : tkK B t = 303 ∨ tkK B t = 302 ∨ tkK B t = 91 ∨ tkK B t = 415 → tkK B t ≠ 300 := by omega
  have z1 : (0 : Int32) &&& 1 = 0 := by decide
  -- the atom is counted
  have f1 : Fx c D cz h (pI h c 9 (nI (a + 1))) := Fx.rf.c ne (by omega) _
  have E1 : CE A B S (pI h c 9 (nI (a + 1))) c D N m k t (a + 1) cz := ⟨E.1.fx E.2.1 f1 (by rw [gI_pI, if_neg (by omega)]; exact E.1.2.1) E.1.2.2, E.2.1.fx f1, by rw [gI_pI, if_pos ⟨rfl, rfl⟩], by rw [gI_pI, if_neg (by omega)]; exact E.2.2.2⟩
  generalize hh1 : pI h c 9 (nI (a + 1)) = h1 at f1 E1
  have fail : ∀ (h' : Hp) (f : Nat), Cp B S h' c N t → Fx c D cz h h' → pAt A B m k inn t a = .error (f, t) → wX5_fail S h' c (nI f) (fun r h => r &&& 1 = r ∧ Q r h) := by
    intro h' f p fx e
    exact cFail p ⟨z1, q0 _ _ e (fx.fl ne) cfl_f.1 cfl_f.2⟩
  -- a step is written
  have put : ∀ (v : Int32), v = nI (enC (atC A B m k t)) → tkK B t ≠ 300 → pAt A B m k inn t a = .ok (t + 1, a + 1, [atC A B m k t]) → wX5_readAtom_j156 S Gr h1 c D v Q := by
    intro v hv k3 e
    refine ⟨by rw [E1.2.1.2.1.1], E1.emit (by have := E.1.lt k3; omega) fun h2 f2 E2 w2 => ⟨hc6, E2.adv k3 fun h3 f3 E3 w3 => ?_⟩⟩
    refine q1 _ h3 e ((f1.tr f2 (Nat.le_refl _)).tr f3 (by omega)) E3 (CAp.one ?_)
    rw [congrFun w3 cz, w2, hv]
  have j126 : ∀ x4 : Int32, (tkK B t = 303 ∨ tkK B t = 302 ∨ tkK B t = 91 ∨ (tkK B t = 415 ∧ k = 1)) → (tkK B t = 302 → slA A m k (tkC B t) ≠ none) → (tkK B t ≠ 303 → tkK B t ≠ 91 → (1000 : Int32) + x4 = nI (enC (atC A B m k t))) → a < 30 → (tkK B t = 91 → dep < 8) → wX5_readAtom_j126 S Gr h1 c (nI dep) (nI (tkK B t)) x4 Q := by
    intro x4 hk hs h4 ha' h91
    have k3 := k300 (by omega)
    have e0 : ¬ (tkK B t = 302 ∧ slA A m k (tkC B t) = none) := fun x => hs x.1 x.2
    unfold wX5_readAtom_j126
    rw [show (91 : Int32) = nI 91 from rfl, kE 91 (by decide), show (303 : Int32) = nI 303 from rfl, kE 303 (by decide), E1.2.1.2.2.1]
    refine ⟨fun c91 => ⟨hc6, E1.adv k3 fun h2 f2 E2 _ => ?_⟩, fun c91 => ⟨hc6, fun c3 => put _ (h4 c3 c91) k3 ?_, fun c3 => cNumb E1.1 c3 (put _ ?_ k3 ?_)⟩⟩
    · cases inn with
      | none => have := hn rfl; have := h91 c91; omega
      | some P =>
        obtain ⟨-, pg, cx⟩ := hP P rfl
        have hp := (pg N (t + 1) (a + 1) E.1.1.2.2.2.2.2.2.2.2.2.2.1 E2.1.2.2 (by omega))
        have e1 : pAt A B m k (some P) t a = (match P (t + 1) (a + 1) with | .error e => .error e | .ok x => if tkK B x.1 = 93 then .ok (x.1 + 1, x.2.1, x.2.2) else .error (1, x.1)) := by
          unfold pAt
          rw [if_pos hk, if_neg e0, if_neg (by omega), if_pos c91]
          rfl
        rw [nI_1]
        refine cx h2 (t + 1) (a + 1) cz _ E2 (by omega) (by omega) (fun x h3 ex f3 E3 ap => ⟨fun _ => ?_, fun n => absurd n (by decide)⟩) (fun e h3 ex f3 e2 e3 => ⟨fun n => absurd rfl n, fun _ => ?_⟩)
        · obtain ⟨y1, y2, y3, y4, y5, -⟩ := hp.1 x ex
          rw [ex] at e1
          simp only at e1
          refine cKind E3.1 ?_
          rw [show (93 : Int32) = nI 93 from rfl, kEq E3.1 (by decide)]
          refine ⟨fun c93 => E3.adv (by omega) fun h4 f4 E4 w4 => ?_, fun c93 => cFail E3.1 ⟨z1, ?_⟩⟩
          · rw [if_pos c93] at e1
            refine q1 _ h4 e1 (((f1.tr f2 (Nat.le_refl _)).tr f3 (Nat.le_refl _)).tr f4 (by omega)) E4 (fun i y hy => ?_)
            rw [congrFun w4]
            exact ap i y hy
          · rw [if_neg c93] at e1
            exact q0 _ _ e1 ((((f1.tr f2 (Nat.le_refl _)).tr f3 (Nat.le_refl _))).fl ne) cfl_f.1 cfl_f.2
        · rw [ex] at e1
          exact q0 _ h3 e1 ((f1.tr f2 (Nat.le_refl _)).tr f3 (Nat.le_refl _)) e2 e3
    · unfold pAt
      rw [if_pos hk, if_neg e0, if_neg (by omega), if_neg c91]
    · unfold atC
      rw [if_pos c3]
      rfl
    · unfold pAt
      rw [if_pos hk, if_neg e0, if_neg (by omega), if_neg c91]
  have j75 : ∀ s0 : Int32, (tkK B t = 303 ∨ tkK B t = 302 ∨ tkK B t = 91 ∨ (tkK B t = 415 ∧ k = 1)) → (tkK B t = 302 → s0 = slI (slA A m k (tkC B t))) → (tkK B t ≠ 302 → s0 = 6) → wX5_readAtom_j75 S Gr h c (nI dep) (nI (tkK B t)) s0 Q := by
    intro s0 hk hs h6
    unfold wX5_readAtom_j75
    have sn : s0 = -1 ↔ (tkK B t = 302 ∧ slA A m k (tkC B t) = none) := by
      by_cases c2 : tkK B t = 302
      · rw [hs c2]
        cases hsl : slA A m k (tkC B t) with
        | none => exact ⟨fun _ => ⟨c2, rfl⟩, fun _ => rfl⟩
        | some x =>
          refine ⟨fun e => ?_, fun e => (by cases e.2)⟩
          have := slA_ok hsl
          have w3 := (E.2.1.2.2.2.2.2.2.2.2.2.2.1 m (Nat.le_refl _)).1
          have w4 := (E.2.1.2.2.2.2.2.2.2.2.2.2.1 (m - 1) (by omega)).1
          obtain ⟨⟨o1, o2, o3, o4, o5⟩, -, o6⟩ := this
          unfold slI at e
          rcases o6 with o6 | o6
          · simp only [if_pos o6] at e
            have := o3 o6
            exact absurd e.symm (nI_neg (by omega))
          · simp only [if_neg (show ¬ x.1 = 1 by omega)] at e
            have := (o4 o6).2.2
            exact absurd e.symm (nI_neg (by omega))
      · rw [h6 c2]
        exact ⟨fun e => absurd e (by decide), fun e => absurd e.1 c2⟩
    rw [E.2.2.1, nI_1, hh1, show (91 : Int32) = nI 91 from rfl, kE 91 (by decide), show (30 : Int32) = nI 30 from rfl, show (8 : Int32) = nI 8 from rfl]
    refine ⟨fun n1 => ⟨hc6, nm_e ?_⟩, fun e1 => ⟨hc6, fail h 3 E.1 Fx.rf ?_⟩⟩
    · rw [E1.2.2.1]
      have e0 : ¬ (tkK B t = 302 ∧ slA A m k (tkC B t) = none) := fun x => n1 (sn.mpr x)
      by_cases c30 : 30 ≤ a
      · refine br_t (nI_lt (by omega) (by omega)) (fail h1 4 E1.1 f1 ?_)
        unfold pAt
        rw [if_pos hk, if_neg e0, if_pos c30]
      · refine br_f (nI_nlt (by omega) (by decide)) ?_
        have j := j126 s0 hk (fun c2 e => e0 ⟨c2, e⟩) (fun n3 n91 => ?_) (by omega)
        · refine ⟨fun n91 => j (fun e => absurd e n91), fun c91 => ?_⟩
          by_cases c8 : dep < 8
          · exact br_t (nI_lt c8 (by decide)) (j (fun _ => c8))
          · refine br_f (nI_nlt (by omega) (by omega)) (fail h1 4 E1.1 f1 ?_)
            cases inn with
            | none =>
              unfold pAt
              rw [if_pos hk, if_neg e0, if_neg c30, if_pos c91]
            | some P => exact absurd (hP P rfl).1 c8
        · unfold atC
          rw [if_neg n3]
          by_cases c2 : tkK B t = 302
          · rw [if_pos c2, hs c2]
            cases hsl : slA A m k (tkC B t) with
            | none => exact absurd ⟨c2, hsl⟩ e0
            | some x =>
              obtain ⟨-, -, o6⟩ := slA_ok hsl
              show (1000 : Int32) + (if x.1 = 1 then nI x.2 else nI (3 + x.2)) = nI (enC x)
              rw [show (1000 : Int32) = nI 1000 from rfl]
              unfold enC
              rcases o6 with o6 | o6
              · rw [if_pos o6, nI_add, if_neg (by omega), if_pos o6]
              · rw [if_neg (by omega), nI_add, if_neg (by omega), if_neg (by omega), if_pos o6]
                congr 1
                omega
          · rw [if_neg c2, h6 c2]
            rfl
    · unfold pAt
      rw [if_pos hk, if_pos (sn.mp e1)]
  have j55 : (tkK B t = 303 ∨ tkK B t = 302 ∨ tkK B t = 91 ∨ (tkK B t = 415 ∧ k = 1)) → wX5_readAtom_j55 S Gr h c (nI dep) (nI (tkK B t)) Q := by
    intro hk
    unfold wX5_readAtom_j55
    rw [show (302 : Int32) = nI 302 from rfl, kE 302 (by decide)]
    refine ⟨fun n2 => j75 6 hk (fun e => absurd e n2) (fun _ => rfl), fun c2 => ⟨hc6, cCode E.1 c2 (cSlot E.1.1.1 E.2.1 (j75 _ hk (fun _ => rfl) (fun n => absurd c2 n)))⟩⟩
  have j24 : ∀ s0 : Int32, (s0 = 0 ↔ ¬ (tkK B t = 415 ∧ k = 1)) → wX5_readAtom_j24 S Gr h c (nI dep) (nI (tkK B t)) s0 Q := by
    intro s0 hs
    unfold wX5_readAtom_j24
    rw [show (303 : Int32) = nI 303 from rfl, kE 303 (by decide), show (302 : Int32) = nI 302 from rfl, kE 302 (by decide), show (91 : Int32) = nI 91 from rfl, kE 91 (by decide), hs]
    refine ⟨fun e => j55 (by omega), fun n3 => ⟨fun e => j55 (by omega), fun n2 => ⟨fun e => j55 (by omega), fun n91 => ⟨fun e => j55 (by omega), fun e => ⟨hc6, fail h 1 E.1 Fx.rf ?_⟩⟩⟩⟩⟩
    unfold pAt
    rw [if_neg (by omega)]
  refine ⟨hc6, cKind E.1 ?_⟩
  rw [show (415 : Int32) = nI 415 from rfl, kE 415 (by decide), E.2.1.2.2.2.2.2.1]
  refine ⟨fun n => j24 0 ⟨fun _ e => n e.1, fun _ => rfl⟩, fun e => ?_⟩
  by_cases ck : k = 1
  · rw [decide_eq_true ck]
    exact br_f (by decide) (j24 1 ⟨fun x => absurd x (by decide), fun x => absurd ⟨e, ck⟩ x⟩)
  · rw [decide_eq_false ck]
    exact br_t rfl (j24 0 ⟨fun _ e => ck e.2, fun _ => rfl⟩)
