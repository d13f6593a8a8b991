def wT (w : Nat) : Int32 := if w = 0 then 0 else 1
theorem lsT_c {k : Nat} (h : lsT k ≠ 0) : k = 412 ∧ lsT k = 12 := by
  unfold lsT at h ⊢
  by_cases c1 : k = 412
  · simp [c1]
  · rw [if_neg c1] at h
    exact absurd rfl h
theorem wT_e {w : Nat} (h0 : w ≠ 0) (hw : w = 0 ∨ ∃ k, lsT k = w) : w = 12 := by
  rcases hw with hw | ⟨k, hw⟩
  · exact absurd hw h0
  · subst hw
    exact (lsT_c h0).2
theorem cTest {A : Ab} {B : Bx} {S : Sh} {c D N m k dep : Nat} {X : Nat → Nat → PR} {Gr : Nat → Hp → Nat → Int32 → (Int32 → Hp → Prop) → Prop} (pg : PG A B m k bitP X) (hX : CX A B S c D N m k X (fun h Q => Gr 1 h c (nI dep) Q)) :
    CX A B S c D N m k (gnP B X 413 11 lsT) (fun h Q => wX5_readTest_b S Gr h c (nI dep) Q) := by
  intro h0 t0 a0 cz0 Q E0 hz0 ha0 q1 q0
  have hc6 : (S c).1 = 6 := by rw [E0.1.1.1]
  have hD4 : (S D).1 = 4 := by rw [E0.2.1.2.1.1]
  have hN := E0.1.1.2.2.2.2.2.2.2.2.2.2.1
  have nn := E0.1.n
  have lp : ∀ (n w t a cz : Nat) (h : Hp) (more : Nat) (Q : Int32 → Hp → Prop), (w = 0 ∨ ∃ k, lsT k = w) → CE A B S h c D N m k t a cz → cz + (if w = 0 then 0 else 1) ≤ t → a ≤ 30 → 31 ≤ n + a → more + 1 ≤ a →
      (∀ x h', gnL B X 413 11 lsT n w t a = .ok x → Sg c D cz h h' x.2.2 → CE A B S h' c D N m k x.1 x.2.1 (cz + x.2.2.length) → Q 1 h') →
      (∀ e h', gnL B X 413 11 lsT n w t a = .error e → Fx c D cz h h' → gI h' c 2 = nI e.1 → gI h' c 3 = nI (tkP B e.2) → Q 0 h') → wX5_readTest_14 S Gr c (nI dep) Q n h (wT w) (nI more) := by
    intro n
    induction n with
    | zero => intro w t a cz h more Q _ _ _ h1 h2; exact absurd h2 (by omega)
    | succ n ih =>
      intro w t a cz h more Q hw E hz ha hn hm q1 q0
      have htN := E.1.2.2
      have kE : ∀ v, v < 1000 → (nI (tkK B t) = nI v ↔ tkK B t = v) := fun v hv => kEq E.1 hv
      have eD := E.2.1.2.2.1
      have hz' : cz ≤ t := by omega
      unfold gnL at q1 q0
      show wX5_readTest_14b S Gr c (nI dep) Q (wX5_readTest_14 S Gr c (nI dep) Q n) h (wT w) (nI more)
      have w1 : ∀ e : w ≠ 0, wT w = 1 ∧ wpC w = [(12, 0)] := fun e => by rw [wT_e e hw]; decide
      have fin : tkK B t ≠ 413 → lsT (tkK B t) = 0 → wX5_readTest_j116 S Gr h c (wT w) Q := by
        intro c1 c2
        rw [if_neg c1, if_pos c2] at q1
        unfold wX5_readTest_j116
        rw [eD]
        by_cases e : w = 0
        · refine br_t (by rw [e]; rfl) (q1 _ h rfl ⟨Fx.rf, ?_⟩ ?_)
          · unfold wpC; rw [if_pos e]; exact CAp.nil
          · show CE A B S h c D N m k t a (cz + (wpC w).length)
            rw [wpC_l, if_pos e]; exact E
        · rw [if_neg e] at hz
          rw [(w1 e).1]
          refine br_f (by decide) ⟨hc6, hD4, E.put (y := (12, 0)) (by omega) (by decide) fun h' sg E' => q1 _ h' rfl ?_ ?_⟩
          · show Sg c D cz h h' (wpC w)
            rw [(w1 e).2]; exact sg
          · show CE A B S h' c D N m k t a (cz + (wpC w).length)
            rw [wpC_l, if_neg e]; exact E'
      have j76 : ∀ (h1 : Hp) (w' : Nat) (x2 x4 : Int32) (L : Cd), (w' = 0 ∨ ∃ k, lsT k = w') → Sg c D cz h h1 L → CE A B S h1 c D N m k t a (cz + L.length) → cz + L.length ≤ t → tkK B t ≠ 300 → (x4 = 0 ↔ tkK B t = 413) → x2 ||| x4 = wT w' →
          (tkK B t = 413 → cz + L.length + (if w' = 0 then 0 else 1) ≤ t) →
          (∀ y, X (t + 1) a = .ok y → ∀ x, gnL B X 413 11 lsT n w' y.1 y.2.1 = .ok x → ∀ h', Sg c D cz h h' (L ++ (y.2.2 ++ (if tkK B t = 413 then [(11, 0)] else []) ++ x.2.2)) → CE A B S h' c D N m k x.1 x.2.1 (cz + (L ++ (y.2.2 ++ (if tkK B t = 413 then [(11, 0)] else []) ++ x.2.2)).length) → Q 1 h') →
          (∀ e h', (X (t + 1) a = .error e ∨ ∃ y, X (t + 1) a = .ok y ∧ gnL B X 413 11 lsT n w' y.1 y.2.1 = .error e) → Fx c D cz h h' → gI h' c 2 = nI e.1 → gI h' c 3 = nI (tkP B e.2) → Q 0 h') →
          wX5_readTest_j76 S Gr (wX5_readTest_14 S Gr c (nI dep) Q n) h1 c (nI dep) x2 (nI more) x4 Q := by
        intro h1 w' x2 x4 L hw' s1 E1 hz1 k3 h4 hx hz2 r1 r0
        refine ⟨hc6, E1.go k3 fun h2 s2 E2 => hX h2 (t + 1) a (cz + L.length) _ E2 (by omega) ha (fun y h3 ey f3 E3 ap3 => ⟨fun _ => ?_, fun n => absurd n (by decide)⟩) (fun e h3 ey f3 e2 e3 => ⟨fun n => absurd rfl n, fun _ => ?_⟩)⟩
        · obtain ⟨y1, y2, y3, y4, y5, -⟩ := (pg N (t + 1) a hN E2.1.2.2 ha).1 y ey
          have s3 : Sg c D cz h h3 (L ++ y.2.2) := s1.tr ⟨s2.1.tr f3 (Nat.le_refl _), ap3⟩ rfl
          rw [h4, nI_1, hx]
          by_cases c42 : tkK B t = 413
          · rw [if_pos c42] at r1
            have hz2 := hz2 c42
            refine ⟨fun n => absurd c42 n, fun _ => ⟨by rw [E3.2.1.2.2.1]; exact hD4, ?_⟩⟩
            rw [E3.2.1.2.2.1]
            refine E3.put (y := (11, 0)) (by omega) (by decide) fun h4 s4 E4 => ?_
            have s4' := s3.tr s4 (by rw [List.length_append]; omega)
            refine ih w' y.1 y.2.1 _ h4 (more + 1) Q hw' E4 (by omega) y4 (by omega) (by omega) (fun x h' ex sx Ex => ?_) (fun e h' ex fx e2 e3 => r0 e h' (Or.inr ⟨y, ey, ex⟩) (s4'.1.tr fx (by omega)) e2 e3)
            have s5 := s4'.tr sx (by simp only [List.length_append, List.length_cons, List.length_nil]; omega)
            rw [List.append_assoc, List.append_assoc] at s5
            refine r1 y ey x ex h' (by rw [List.append_assoc]; exact s5) ?_
            have : cz + (L ++ (y.2.2 ++ [(11, 0)] ++ x.2.2)).length = cz + L.length + y.2.2.length + 1 + x.2.2.length := by
              simp only [List.length_append, List.length_cons, List.length_nil]; omega
            rw [this]
            exact Ex
          · rw [if_neg c42] at r1
            refine ⟨fun _ => ?_, fun n => absurd n c42⟩
            refine ih w' y.1 y.2.1 _ h3 (more + 1) Q hw' E3 (by split <;> omega) y4 (by omega) (by omega) (fun x h' ex sx Ex => ?_) (fun e h' ex fx e2 e3 => r0 e h' (Or.inr ⟨y, ey, ex⟩) (s3.1.tr fx (by omega)) e2 e3)
            have s5 := s3.tr sx (by rw [List.length_append]; omega)
            rw [List.append_assoc] at s5
            simp only [List.append_nil] at r1
            refine r1 y ey x ex h' s5 ?_
            have : cz + (L ++ (y.2.2 ++ x.2.2)).length = cz + L.length + y.2.2.length + x.2.2.length := by
              simp only [List.length_append]; omega
            rw [this]
            exact Ex
        · exact r0 e h3 (Or.inl ey) ((s1.1.tr s2.1 (by omega)).tr f3 (by omega)) e2 e3
      have j40 : (tkK B t = 413 ∨ tkK B t = 412) → wX5_readTest_j40 S Gr (wX5_readTest_14 S Gr c (nI dep) Q n) h c (nI dep) (wT w) (nI more) Q := by
        intro hk
        have k3 : tkK B t ≠ 300 := by omega
        refine ⟨hc6, cKind E.1 ?_⟩
        rw [show (412 : Int32) = nI 412 from rfl, kE 412 (by decide)]
        refine ⟨fun n12 => ?_, fun c12 => ?_⟩
        · have c13 : tkK B t = 413 := by omega
          rw [if_pos c13] at q1 q0
          refine br_t rfl (j76 h w (wT w) 0 [] hw ⟨Fx.rf, CAp.nil⟩ E (by simpa using hz') k3 ⟨fun _ => c13, fun _ => rfl⟩ (by unfold wT; split <;> decide) (fun _ => by simpa using hz) (fun y ey x ex h' sg Ex => ?_) (fun e h' ex fx e2 e3 => ?_))
          · rw [if_pos c13, List.nil_append] at sg Ex
            rw [ey] at q1
            simp only [ex, preC] at q1
            exact q1 _ h' rfl sg Ex
          · rcases ex with ex | ⟨y, ey, ex⟩
            · rw [ex] at q0
              exact q0 e h' rfl fx e2 e3
            · rw [ey] at q0
              simp only [ex, preC] at q0
              exact q0 e h' rfl fx e2 e3
        · have n13 : tkK B t ≠ 413 := by omega
          have c2 : lsT (tkK B t) = 12 := by rw [c12]; rfl
          rw [if_neg n13, if_neg (by rw [c2]; decide), c2] at q1 q0
          have main : ∀ h1 x2, (x2 = 0 ∨ x2 = 1) → Sg c D cz h h1 (wpC w) → CE A B S h1 c D N m k t a (cz + (wpC w).length) → wX5_readTest_j76 S Gr (wX5_readTest_14 S Gr c (nI dep) Q n) h1 c (nI dep) x2 (nI more) 1 Q := by
            intro h1 x2 hx s1 E1
            refine j76 h1 12 x2 1 (wpC w) (Or.inr ⟨412, rfl⟩) s1 E1 (by rw [wpC_l]; exact hz) k3 ⟨fun e => absurd e (by decide), fun e => absurd e n13⟩ (by rcases hx with e | e <;> rw [e] <;> decide) (fun e => absurd e n13) (fun y ey x ex h' sg Ex => ?_) (fun e h' ex fx e2 e3 => ?_)
            · rw [if_neg n13, List.append_nil] at sg Ex
              rw [ey] at q1
              simp only [ex, preC] at q1
              rw [← List.append_assoc] at sg Ex
              exact q1 _ h' rfl sg Ex
            · rcases ex with ex | ⟨y, ey, ex⟩
              · rw [ex] at q0
                exact q0 e h' rfl fx e2 e3
              · rw [ey] at q0
                simp only [ex, preC] at q0
                exact q0 e h' rfl fx e2 e3
          refine br_f (by decide) ?_
          rw [eD]
          by_cases e : w = 0
          · refine br_t (by rw [e]; rfl) (main h _ (by rw [e]; exact Or.inl rfl) ⟨Fx.rf, ?_⟩ ?_)
            · unfold wpC; rw [if_pos e]; exact CAp.nil
            · rw [wpC_l, if_pos e]; exact E
          · rw [if_neg e] at hz
            refine br_f (by rw [(w1 e).1]; decide) ⟨hc6, hD4, E.put (y := (12, 0)) (by omega) (by decide) fun h' sg E' => main h' _ (Or.inr (w1 e).1) ?_ ?_⟩
            · rw [(w1 e).2]; exact sg
            · rw [wpC_l, if_neg e]; exact E'
      refine br_f (nI_nlt (a := 30) (by omega) (by decide)) ⟨hc6, cKind E.1 ?_⟩
      rw [show (413 : Int32) = nI 413 from rfl, kE 413 (by decide)]
      refine ⟨fun e => j40 (Or.inl e), fun n13 => cKind E.1 ?_⟩
      rw [show (412 : Int32) = nI 412 from rfl, kE 412 (by decide)]
      refine ⟨fun n12 => fin n13 ?_, fun e => j40 (Or.inr e)⟩
      unfold lsT
      rw [if_neg n12]
  refine ⟨hc6, hX h0 t0 a0 cz0 _ E0 hz0 ha0 (fun y h1 ey f1 E1 ap => ⟨fun _ => ⟨31, ?_⟩, fun n => absurd n (by decide)⟩) (fun e h1 ey f1 e2 e3 => ⟨fun n => absurd rfl n, fun _ => ?_⟩)⟩
  · obtain ⟨y1, y2, y3, y4, y5, -⟩ := (pg N t0 a0 hN nn.2 ha0).1 y ey
    refine lp 31 0 y.1 y.2.1 _ h1 0 Q (Or.inl rfl) E1 (by rw [if_pos rfl]; omega) y4 (by omega) (by omega) (fun x h' ex sx Ex => ?_) (fun e h' ex fx e2 e3 => ?_)
    · have s5 := Sg.tr ⟨f1, ap⟩ sx rfl
      refine q1 (x.1, x.2.1, y.2.2 ++ x.2.2) h' ?_ s5.1 ?_ s5.2
      · unfold gnP
        rw [ey]
        simp only [ex, preC]
      · show CE A B S h' c D N m k x.1 x.2.1 (cz0 + (y.2.2 ++ x.2.2).length)
        rw [List.length_append, ← Nat.add_assoc]
        exact Ex
    · refine q0 e h' ?_ (f1.tr fx (by omega)) e2 e3
      unfold gnP
      rw [ey]
      simp only [ex, preC]
  · refine q0 e h1 ?_ f1 e2 e3
    unfold gnP
    rw [ey]
theorem cmC_i {κ : Nat} (h : cmC κ ≠ 0) : (2000 : Int32) + nI κ = nI (enC (cmC κ, 0)) := by
  unfold cmC at h ⊢
  by_cases c1 : κ = 60
  · subst c1; decide
  · by_cases c2 : κ = 62
    · subst c2; decide
    · by_cases c3 : κ = 61
      · subst c3; decide
      · rw [if_neg c1, if_neg c2, if_neg c3] at h
        exact absurd rfl h
theorem cFact {A : Ab} {B : Bx} {S : Sh} {c D N m k dep : Nat} {inn : Option ((Nat → Nat → PR) × (Nat → Nat → PR))} {sm : Nat → Nat → PR} {Gr : Nat → Hp → Nat → Int32 → (Int32 → Hp → Prop) → Prop} (hd : dep ≤ 8) (hn : inn = none → dep = 8)
    (hP : ∀ P, inn = some P → dep < 8 ∧ (PG A B m k bitP P.1 ∧ CX A B S c D N m k P.1 (fun h Q => Gr 1 h c (nI (dep + 1)) Q)) ∧ (PG A B m k bitP P.2 ∧ CX A B S c D N m k P.2 (fun h Q => Gr 0 h c (nI (dep + 1)) Q)))
    (pg : PG A B m k anyP sm) (hs : CX A B S c D N m k sm (fun h Q => Gr 2 h c (nI dep) Q)) : CX A B S c D N m k (pFB B inn sm) (fun h Q => wX5_readFact_b S Gr h c (nI dep) Q) := by
  intro h t a cz Q E hz ha q1 q0
  have ne := E.2.1.ne
  have nn := E.1.n
  have hN := E.1.1.2.2.2.2.2.2.2.2.2.2.1
  have hc6 : (S c).1 = 6 := by rw [E.1.1.1]
  have hD4 : (S D).1 = 4 := by rw [E.2.1.2.1.1]
  have kE : ∀ v, v < 1000 → (nI (tkK B t) = nI v ↔ tkK B t = v) := fun v hv => kEq E.1 hv
  have z1 : (0 : Int32) &&& 1 = 0 := by decide
  unfold pFB at q1 q0
  have j18 : (tkK B t = 414 ∨ tkK B t = 40) → wX5_readFact_j18 S Gr h c (nI dep) (nI (tkK B t)) Q := by
    intro hk
    have k3 : tkK B t ≠ 300 := by omega
    unfold wX5_readFact_j18
    rw [show (8 : Int32) = nI 8 from rfl, show (40 : Int32) = nI 40 from rfl, kE 40 (by decide), nI_1]
    cases inn with
    | none =>
      rw [hn rfl]
      refine br_f (nI_nlt (Nat.le_refl _) (by decide)) ⟨hc6, cFail E.1 ⟨z1, q0 (4, t) _ ?_ (Fx.rf.fl ne) cfl_f.1 cfl_f.2⟩⟩
      by_cases c1 : tkK B t = 414
      · rw [if_pos c1]
      · rw [if_neg c1, if_pos (by omega)]
    | some P =>
      obtain ⟨h8, ⟨p1, x1⟩, ⟨p2, x2⟩⟩ := hP P rfl
      refine br_t (nI_lt h8 (by decide)) ⟨hc6, E.go k3 fun h1 s1 E1 => ⟨fun n40 => ?_, fun c40 => ?_⟩⟩
      · have c14 : tkK B t = 414 := by omega
        rw [if_pos c14] at q1 q0
        refine x1 h1 (t + 1) a cz _ E1 (by omega) ha (fun y h2 ey f2 E2 ap => ⟨fun _ => ⟨by rw [E2.2.1.2.2.1]; exact hD4, ?_⟩, fun n => absurd n (by decide)⟩) (fun e h2 ey f2 e2 e3 => ⟨fun n => absurd rfl n, fun _ => ?_⟩)
        · obtain ⟨y1, y2, y3, y4, y5, -⟩ := (p1 N (t + 1) a hN E1.1.2.2 ha).1 y ey
          rw [E2.2.1.2.2.1]
          refine E2.put (y := (10, 0)) (by omega) (by decide) fun h3 s3 E3 => ?_
          have s4 : Sg c D cz h h3 (y.2.2 ++ [(10, 0)]) := Sg.tr ⟨s1.1.tr f2 (Nat.le_refl _), ap⟩ s3 rfl
          simp only [ey] at q1
          refine q1 _ h3 rfl s4.1 ?_ s4.2
          show CE A B S h3 c D N m k y.1 y.2.1 (cz + (y.2.2 ++ [(10, 0)]).length)
          rw [List.length_append]
          exact E3
        · simp only [ey] at q0
          exact q0 e h2 rfl (s1.1.tr f2 (Nat.le_refl _)) e2 e3
      · rw [if_neg (show ¬ tkK B t = 414 by omega), if_pos c40] at q1 q0
        refine x2 h1 (t + 1) a cz _ E1 (by omega) ha (fun y h2 ey f2 E2 ap => ⟨fun n => absurd n (by decide), fun _ => ?_⟩) (fun e h2 ey f2 e2 e3 => ⟨fun _ => ?_, fun n => absurd rfl n⟩)
        · obtain ⟨y1, y2, y3, y4, y5, -⟩ := (p2 N (t + 1) a hN E1.1.2.2 ha).1 y ey
          simp only [ey] at q1 q0
          refine ⟨hc6, cKind E2.1 ?_⟩
          rw [show (41 : Int32) = nI 41 from rfl, kEq E2.1 (by decide)]
          refine ⟨fun c41 => ?_, fun n41 => cFail E2.1 ⟨z1, ⟨fun _ => ?_, fun n => absurd rfl n⟩⟩⟩
          · rw [if_pos c41] at q1
            refine E2.adv (by omega) fun h3 f3 E3 w3 => ⟨fun n => absurd n (by decide), fun _ => q1 _ h3 rfl ((s1.1.tr f2 (Nat.le_refl _)).tr f3 (by omega)) E3 (fun i z hz => ?_)⟩
            rw [congrFun w3]
            exact ap i z hz
          · rw [if_neg n41] at q0
            exact q0 _ _ rfl ((s1.1.tr f2 (Nat.le_refl _)).fl ne) cfl_f.1 cfl_f.2
        · simp only [ey] at q0
          exact q0 e h2 rfl (s1.1.tr f2 (Nat.le_refl _)) e2 e3
  refine ⟨hc6, cKind E.1 ?_⟩
  rw [show (414 : Int32) = nI 414 from rfl, kE 414 (by decide), show (40 : Int32) = nI 40 from rfl, kE 40 (by decide)]
  refine ⟨fun e => j18 (Or.inl e), fun n14 => ⟨fun n40 => ?_, fun e => j18 (Or.inr e)⟩⟩
  rw [if_neg n14, if_neg n40] at q1 q0
  refine hs h t a cz _ E hz ha (fun y h1 ey f1 E1 ap => ⟨fun _ => cKind E1.1 ?_, fun n => absurd n (by decide)⟩) (fun e h1 ey f1 e2 e3 => ⟨fun n => absurd rfl n, fun _ => ?_⟩)
  · obtain ⟨y1, y2, y3, y4, y5, -⟩ := (pg N t a hN nn.2 ha).1 y ey
    simp only [ey] at q1 q0
    have kE1 : ∀ v, v < 1000 → (nI (tkK B y.1) = nI v ↔ tkK B y.1 = v) := fun v hv => kEq E1.1 hv
    have j128 : cmC (tkK B y.1) ≠ 0 → wX5_readFact_j128 S Gr h1 c (nI dep) (nI (tkK B y.1)) Q := by
      intro hc
      rw [if_neg hc] at q1 q0
      refine ⟨hc6, E1.go (cmC_j hc).2.2 fun h2 s2 E2 => hs h2 (y.1 + 1) y.2.1 _ _ E2 (by omega) y4 (fun z h3 ez f3 E3 ap3 => ⟨fun _ => ⟨by rw [E3.2.1.2.2.1]; exact hD4, ?_⟩, fun n => absurd n (by decide)⟩) (fun e h3 ez f3 e2 e3 => ⟨fun n => absurd rfl n, fun _ => ?_⟩)⟩
      · obtain ⟨z1, z2, z3, z4, z5, -⟩ := (pg N (y.1 + 1) y.2.1 hN E2.1.2.2 y4).1 z ez
        rw [E3.2.1.2.2.1]
        refine E3.put (y := (cmC (tkK B y.1), 0)) (by omega) (cmC_i hc) fun h4 s4 E4 => ?_
        have s5 : Sg c D cz h h4 (y.2.2 ++ z.2.2 ++ [(cmC (tkK B y.1), 0)]) := Sg.tr (Sg.tr ⟨f1, ap⟩ (⟨s2.1.tr f3 (Nat.le_refl _), ap3⟩ : Sg c D (cz + y.2.2.length) h1 h3 z.2.2) rfl) s4 (by rw [List.length_append]; omega)
        simp only [ez] at q1
        refine q1 _ h4 rfl s5.1 ?_ s5.2
        show CE A B S h4 c D N m k z.1 z.2.1 (cz + (y.2.2 ++ z.2.2 ++ [(cmC (tkK B y.1), 0)]).length)
        have : cz + (y.2.2 ++ z.2.2 ++ [(cmC (tkK B y.1), 0)]).length = cz + y.2.2.length + z.2.2.length + 1 := by
          simp only [List.length_append, List.length_cons, List.length_nil]; omega
        rw [this]
        exact E4
      · simp only [ez] at q0
        exact q0 e h3 rfl ((f1.tr s2.1 (by omega)).tr f3 (by omega)) e2 e3
    rw [show (60 : Int32) = nI 60 from rfl, show (62 : Int32) = nI 62 from rfl, show (61 : Int32) = nI 61 from rfl, kE1 60 (by decide), kE1 62 (by decide), kE1 61 (by decide)]
    refine ⟨fun e => j128 (by rw [e]; decide), fun n60 => ⟨fun e => j128 (by rw [e]; decide), fun n62 => ⟨fun e => j128 (by rw [e]; decide), fun n61 => ?_⟩⟩⟩
    have hc : cmC (tkK B y.1) = 0 := by
      unfold cmC
      rw [if_neg n60, if_neg n62, if_neg n61]
    rw [if_pos hc] at q0
    exact cFail E1.1 ⟨z1, q0 _ _ rfl (f1.fl ne) cfl_f.1 cfl_f.2⟩
  · simp only [ey] at q0
    exact q0 e h1 rfl f1 e2 e3
theorem X5_0 {S : Sh} {d : Nat} {h : Hp} {c : Nat} {x : Int32} {Q : Int32 → Hp → Prop} : wX5R S (d + 1) 0 h c x Q = wX5_readTest_b S (wX5R S d) h c x Q := rfl
theorem X5_1 {S : Sh} {d : Nat} {h : Hp} {c : Nat} {x : Int32} {Q : Int32 → Hp → Prop} : wX5R S (d + 1) 1 h c x Q = wX5_readFact_b S (wX5R S d) h c x Q := rfl
theorem X5_2 {S : Sh} {d : Nat} {h : Hp} {c : Nat} {x : Int32} {Q : Int32 → Hp → Prop} : wX5R S (d + 1) 2 h c x Q = wX5_readSum_b S (wX5R S d) h c x Q := rfl
theorem X5_3 {S : Sh} {d : Nat} {h : Hp} {c : Nat} {x : Int32} {Q : Int32 → Hp → Prop} : wX5R S (d + 1) 3 h c x Q = wX5_readAtom_b S (wX5R S d) h c x Q := rfl
theorem cS_all {A : Ab} {B : Bx} {S : Sh} {c D N m k : Nat} : ∀ (j d dep : Nat), dep + j = 8 → 2 * j + 2 ≤ d → CX A B S c D N m k (pSm A B m k j) (fun h Q => wX5R S d 2 h c (nI dep) Q)
  | 0, d + 2, dep, hd, h2 => cSum (Gr := wX5R S (d + 1)) (pAt_pg fun P h => (by cases h)) (cAt (Gr := wX5R S d) (by omega) (fun _ => by omega) (fun P h => (by cases h)))
  | j + 1, d + 2, dep, hd, h2 => cSum (Gr := wX5R S (d + 1)) (pAt_pg fun P h => by cases h; exact pSm_pg j) (cAt (Gr := wX5R S d) (by omega) (fun h => (by cases h)) (fun P h => by
      cases h
      exact ⟨by omega, pSm_pg j, cS_all j d (dep + 1) (by omega) (by omega)⟩))
theorem cF_all {A : Ab} {B : Bx} {S : Sh} {c D N m k : Nat} : ∀ (j d dep : Nat), dep + j = 8 → 2 * j + 3 ≤ d → CX A B S c D N m k (pFc A B m k j) (fun h Q => wX5R S d 1 h c (nI dep) Q)
  | 0, d + 1, dep, hd, h2 => cFact (Gr := wX5R S d) (by omega) (fun _ => by omega) (fun P h => (by cases h)) (pSm_pg 0) (cS_all 0 d dep hd (by omega))
  | j + 1, d + 2, dep, hd, h2 => cFact (Gr := wX5R S (d + 1)) (by omega) (fun h => (by cases h)) (fun P h => by
      cases h
      exact ⟨by omega, ⟨pFc_pg j, cF_all j (d + 1) (dep + 1) (by omega) (by omega)⟩, ⟨gnT_pg (pFc_pg j), cTest (Gr := wX5R S d) (pFc_pg j) (cF_all j d (dep + 1) (by omega) (by omega))⟩⟩) (pSm_pg (j + 1)) (cS_all (j + 1) (d + 1) dep hd (by omega))
/-- readSum, readTest -/
theorem cRS {A : Ab} {B : Bx} {S : Sh} {c D N m k : Nat} : CX A B S c D N m k (pSm A B m k 8) (fun h Q => wX5_readSum S h c 0 Q) := cS_all 8 40 0 rfl (by omega)
theorem cRT {A : Ab} {B : Bx} {S : Sh} {c D N m k : Nat} : CX A B S c D N m k (pTs A B m k 8) (fun h Q => wX5_readTest S h c 0 Q) := cTest (Gr := wX5R S 39) (pFc_pg 8) (cF_all 8 39 0 rfl (by omega))
