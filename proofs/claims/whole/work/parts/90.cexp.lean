def Sg (c D cz : Nat) (h h' : Hp) (L : Cd) : Prop := Fx c D cz h h' ∧ CAp h' D cz L
theorem Sg.tr {c D cz cz1 : Nat} {h h1 h2 : Hp} {L1 L2 : Cd} (a : Sg c D cz h h1 L1) (b : Sg c D cz1 h1 h2 L2) (e : cz1 = cz + L1.length) : Sg c D cz h h2 (L1 ++ L2) := by
  subst e
  exact ⟨a.1.tr b.1 (by omega), (a.2.fx b.1 (Nat.le_refl _)).app b.2⟩
theorem CE.put {A : Ab} {B : Bx} {S : Sh} {h : Hp} {c D N m k t a cz : Nat} {v : Int32} {y : Nat × Nat} {Q : Hp → Prop} (E : CE A B S h c D N m k t a cz) (hz : cz < 601) (hv : v = nI (enC y)) (q : ∀ h', Sg c D cz h h' [y] → CE A B S h' c D N m k t a (cz + 1) → Q h') : wX3_emit S h D v Q :=
  E.emit hz fun h' f E' w => q h' ⟨f, CAp.one (w.trans hv)⟩ E'
theorem CE.go {A : Ab} {B : Bx} {S : Sh} {h : Hp} {c D N m k t a cz : Nat} {Q : Hp → Prop} (E : CE A B S h c D N m k t a cz) (hk : tkK B t ≠ 300) (q : ∀ h', Sg c D cz h h' [] → CE A B S h' c D N m k (t + 1) a cz → Q h') : wX5_advance S h c Q :=
  E.adv hk fun h' f E' _ => q h' ⟨f, CAp.nil⟩ E'
def wI (w : Nat) : Int32 := if w = 0 then -1 else if w = 4 then 43 else 45
theorem lsS_c {k : Nat} (h : lsS k ≠ 0) : (k = 43 ∧ lsS k = 4) ∨ (k = 45 ∧ lsS k = 5) := by
  unfold lsS at h ⊢
  by_cases c1 : k = 43
  · left; simp [c1]
  · by_cases c2 : k = 45
    · right; simp [c2]
    · rw [if_neg c1, if_neg c2] at h
      exact absurd rfl h
theorem wI_k {k : Nat} (h : lsS k ≠ 0) : nI k = wI (lsS k) := by
  rcases lsS_c h with ⟨e1, e2⟩ | ⟨e1, e2⟩ <;> rw [e1] <;> decide
theorem wI_e {w : Nat} (h0 : w ≠ 0) (hw : w = 0 ∨ ∃ k, lsS k = w) : (2000 : Int32) + wI w = nI (enC (w, 0)) ∧ wI w ≠ -1 := by
  rcases hw with hw | ⟨k, hw⟩
  · exact absurd hw h0
  · subst hw
    rcases lsS_c h0 with ⟨e1, e2⟩ | ⟨e1, e2⟩ <;> rw [e2] <;> decide
theorem wpC_l (w : Nat) : (wpC w).length = if w = 0 then 0 else 1 := by unfold wpC; split <;> rfl
theorem cSum {A : Ab} {B : Bx} {S : Sh} {c D N m k dep : Nat} {X : Nat → Nat → PR} {Gr : Nat → Hp → Nat → Int32 → (Int32 → Hp → Prop) → Prop} (pg : PG A B m k anyP X) (hX : CX A B S c D N m k X (fun h Q => Gr 3 h c (nI dep) Q)) :
    CX A B S c D N m k (gnP B X 42 6 lsS) (fun h Q => wX5_readSum_b S Gr h c (nI dep) Q) := by
  intro h0 t0 a0 cz0 Q E0 hz0 ha0 q1 q0
  have hc6 : (S c).1 = 6 := by rw [E0.1.1.1]
  have hD4 : (S D).1 = 4 := by rw [E0.2.1.2.1.1]
  have hN := E0.1.1.2.2.2.2.2.2.2.2.2.2.1
  have nn := E0.1.n
  have lp : ∀ (n w t a cz : Nat) (h : Hp) (more : Nat) (Q : Int32 → Hp → Prop), (w = 0 ∨ ∃ k, lsS k = w) → CE A B S h c D N m k t a cz → cz + (if w = 0 then 0 else 1) ≤ t → a ≤ 30 → 31 ≤ n + a → more + 1 ≤ a →
      (∀ x h', gnL B X 42 6 lsS n w t a = .ok x → Sg c D cz h h' x.2.2 → CE A B S h' c D N m k x.1 x.2.1 (cz + x.2.2.length) → Q 1 h') →
      (∀ e h', gnL B X 42 6 lsS n w t a = .error e → Fx c D cz h h' → gI h' c 2 = nI e.1 → gI h' c 3 = nI (tkP B e.2) → Q 0 h') → wX5_readSum_14 S Gr c (nI dep) Q n h (wI w) (nI more) := by
    intro n
    induction n with
    | zero => intro w t a cz h more Q _ _ _ h1 h2; exact absurd h2 (by omega)
    | succ n ih =>
      intro w t a cz h more Q hw E hz ha hn hm q1 q0
      have htN := E.1.2.2
      have kE : ∀ v, v < 1000 → (nI (tkK B t) = nI v ↔ tkK B t = v) := fun v hv => kEq E.1 hv
      have eD := E.2.1.2.2.1
      have hz' : cz ≤ t := by omega
      unfold gnL at q1 q0
      show wX5_readSum_14b S Gr c (nI dep) Q (wX5_readSum_14 S Gr c (nI dep) Q n) h (wI w) (nI more)
      -- the end
      have fin : tkK B t ≠ 42 → lsS (tkK B t) = 0 → wX5_readSum_j103 S Gr h c (wI w) Q := by
        intro c1 c2
        rw [if_neg c1, if_pos c2] at q1
        unfold wX5_readSum_j103
        rw [eD]
        by_cases e : w = 0
        · refine br_t (by rw [e]; rfl) (q1 _ h rfl ⟨Fx.rf, ?_⟩ ?_)
          · unfold wpC; rw [if_pos e]; exact CAp.nil
          · show CE A B S h c D N m k t a (cz + (wpC w).length)
            rw [wpC_l, if_pos e]; exact E
        · obtain ⟨e1, e2⟩ := wI_e e hw
          rw [if_neg e] at hz
          refine br_f e2 ⟨hc6, hD4, E.put (by omega) e1 fun h' sg E' => q1 _ h' rfl ?_ ?_⟩
          · show Sg c D cz h h' (wpC w)
            unfold wpC; rw [if_neg e]; exact sg
          · show CE A B S h' c D N m k t a (cz + (wpC w).length)
            rw [wpC_l, if_neg e]; exact E'
      -- an atom behind a sign
      have j63 : ∀ (h1 : Hp) (w' : Nat) (L : Cd), (w' = 0 ∨ ∃ k, lsS k = w') → Sg c D cz h h1 L → CE A B S h1 c D N m k t a (cz + L.length) → cz + L.length ≤ t → tkK B t ≠ 300 →
          (tkK B t = 42 → cz + L.length + (if w' = 0 then 0 else 1) ≤ t) →
          (∀ y, X (t + 1) a = .ok y → ∀ x, gnL B X 42 6 lsS n w' y.1 y.2.1 = .ok x → ∀ h', Sg c D cz h h' (L ++ (y.2.2 ++ (if tkK B t = 42 then [(6, 0)] else []) ++ x.2.2)) → CE A B S h' c D N m k x.1 x.2.1 (cz + (L ++ (y.2.2 ++ (if tkK B t = 42 then [(6, 0)] else []) ++ x.2.2)).length) → Q 1 h') →
          (∀ e h', (X (t + 1) a = .error e ∨ ∃ y, X (t + 1) a = .ok y ∧ gnL B X 42 6 lsS n w' y.1 y.2.1 = .error e) → Fx c D cz h h' → gI h' c 2 = nI e.1 → gI h' c 3 = nI (tkP B e.2) → Q 0 h') →
          wX5_readSum_j63 S Gr (wX5_readSum_14 S Gr c (nI dep) Q n) h1 c (nI dep) (wI w') (nI more) (nI (tkK B t)) Q := by
        intro h1 w' L hw' s1 E1 hz1 k3 hz2 r1 r0
        refine ⟨hc6, E1.go k3 fun h2 s2 E2 => hX h2 (t + 1) a (cz + L.length) _ E2 (by omega) ha (fun y h3 ey f3 E3 ap3 => ⟨fun _ => ?_, fun n => absurd n (by decide)⟩) (fun e h3 ey f3 e2 e3 => ⟨fun n => absurd rfl n, fun _ => ?_⟩)⟩
        · obtain ⟨y1, y2, y3, y4, y5, -⟩ := (pg N (t + 1) a hN E2.1.2.2 ha).1 y ey
          have s3 : Sg c D cz h h3 (L ++ y.2.2) := s1.tr ⟨s2.1.tr f3 (Nat.le_refl _), ap3⟩ rfl
          rw [show (42 : Int32) = nI 42 from rfl, kE 42 (by decide), nI_1]
          by_cases c42 : tkK B t = 42
          · rw [if_pos c42] at r1
            have hz2 := hz2 c42
            refine ⟨fun n => absurd c42 n, fun _ => ⟨by rw [E3.2.1.2.2.1]; exact hD4, ?_⟩⟩
            rw [E3.2.1.2.2.1, c42]
            refine E3.put (y := (6, 0)) (by omega) (by decide) fun h4 s4 E4 => ?_
            have s4' := s3.tr s4 (by rw [List.length_append]; omega)
            refine ih w' y.1 y.2.1 _ h4 (more + 1) Q hw' E4 (by omega) y4 (by omega) (by omega) (fun x h' ex sx Ex => ?_) (fun e h' ex fx e2 e3 => r0 e h' (Or.inr ⟨y, ey, ex⟩) (s4'.1.tr fx (by omega)) e2 e3)
            have s5 := s4'.tr sx (by simp only [List.length_append, List.length_cons, List.length_nil]; omega)
            rw [List.append_assoc, List.append_assoc] at s5
            refine r1 y ey x ex h' (by rw [List.append_assoc]; exact s5) ?_
            have : cz + (L ++ (y.2.2 ++ [(6, 0)] ++ x.2.2)).length = cz + L.length + y.2.2.length + 1 + x.2.2.length := by
              simp only [List.length_append, List.length_cons, List.length_nil]; omega
            rw [this]
            exact Ex
          · rw [if_neg c42] at r1
            refine ⟨fun _ => ?_, fun n => absurd n c42⟩
            refine ih w' y.1 y.2.1 _ h3 (more + 1) Q hw' E3 (by split <;> omega) y4 (by omega) (by omega) (fun x h' ex sx Ex => ?_) (fun e h' ex fx e2 e3 => r0 e h' (Or.inr ⟨y, ey, ex⟩) (s3.1.tr fx (by omega)) e2 e3)
            have s5 := s3.tr sx (by rw [List.length_append]; omega)
            rw [List.append_assoc] at s5
            simp only [List.append_nil] at r1
            refine r1 y ey x ex h' s5 ?_
            have : cz + (L ++ (y.2.2 ++ x.2.2)).length = cz + L.length + y.2.2.length + x.2.2.length := by
              simp only [List.length_append]; omega
            rw [this]
            exact Ex
        · exact r0 e h3 (Or.inl ey) ((s1.1.tr s2.1 (by omega)).tr f3 (by omega)) e2 e3
      refine br_f (nI_nlt (a := 30) (by omega) (by decide)) ⟨hc6, cKind E.1 ?_⟩
      unfold wX5_joinsAtoms wX5_joinsAtoms_j18
      rw [show (43 : Int32) = nI 43 from rfl, show (45 : Int32) = nI 45 from rfl, show (42 : Int32) = nI 42 from rfl, kE 43 (by decide), kE 45 (by decide), kE 42 (by decide)]
      have hit : (tkK B t = 42 ∨ lsS (tkK B t) ≠ 0) → (((1 : Int32) = 0 → wX5_readSum_j103 S Gr h c (wI w) Q) ∧ (¬ (1 : Int32) = 0 → wX5_kind S h c (fun r31 h31 => (r31 = nI 42 → wX5_readSum_j63 S Gr (wX5_readSum_14 S Gr c (nI dep) Q n) h31 c (nI dep) (wI w) (nI more) r31 Q) ∧
          (¬ r31 = nI 42 → (wI w = -1 → wX5_readSum_j60 S Gr (wX5_readSum_14 S Gr c (nI dep) Q n) h31 c (nI dep) (nI more) r31 Q) ∧ (¬ wI w = -1 → (S (gR h31 c 4)).1 = 4 ∧ wX3_emit S h31 (gR h31 c 4) (2000 + wI w) (fun h57 => wX5_readSum_j60 S Gr (wX5_readSum_14 S Gr c (nI dep) Q n) h57 c (nI dep) (nI more) r31 Q)))))) := by
        intro hk
        refine br_f (by decide) (cKind E.1 ?_)
        have k3 : tkK B t ≠ 300 := by
          rcases hk with hk | hk
          · omega
          · rcases lsS_c hk with ⟨e, -⟩ | ⟨e, -⟩ <;> omega
        rw [kE 42 (by decide), eD]
        refine ⟨fun c42 => ?_, fun n42 => ?_⟩
        · rw [if_pos c42] at q1 q0
          refine j63 h w [] hw ⟨Fx.rf, CAp.nil⟩ E (by simpa using hz') k3 (fun _ => by simpa using hz) (fun y ey x ex h' sg Ex => ?_) (fun e h' ex fx e2 e3 => ?_)
          · rw [if_pos c42, List.nil_append] at sg Ex
            rw [ey] at q1
            simp only [ex, preC] at q1
            exact q1 _ h' rfl sg Ex
          · rcases ex with ex | ⟨y, ey, ex⟩
            · rw [ex] at q0
              exact q0 e h' rfl fx e2 e3
            · rw [ey] at q0
              simp only [ex, preC] at q0
              exact q0 e h' rfl fx e2 e3
        · have c2 : lsS (tkK B t) ≠ 0 := by omega
          rw [if_neg n42, if_neg c2] at q1 q0
          have w1 := wI_k c2
          have main : ∀ h1, Sg c D cz h h1 (wpC w) → CE A B S h1 c D N m k t a (cz + (wpC w).length) → wX5_readSum_j60 S Gr (wX5_readSum_14 S Gr c (nI dep) Q n) h1 c (nI dep) (nI more) (nI (tkK B t)) Q := by
            intro h1 s1 E1
            show wX5_readSum_j63 S Gr _ h1 c (nI dep) (nI (tkK B t)) (nI more) (nI (tkK B t)) Q
            have := j63 h1 (lsS (tkK B t)) (wpC w) (Or.inr ⟨_, rfl⟩) s1 E1 (by rw [wpC_l]; exact hz) k3 (fun e => absurd e n42) (fun y ey x ex h' sg Ex => ?_) (fun e h' ex fx e2 e3 => ?_)
            · rw [← w1] at this
              exact this
            · rw [if_neg n42, List.append_nil] at sg Ex
              rw [ey] at q1
              simp only [ex, preC] at q1
              rw [← List.append_assoc] at sg Ex
              exact q1 _ h' rfl sg Ex
            · rcases ex with ex | ⟨y, ey, ex⟩
              · rw [ex] at q0
                exact q0 e h' rfl fx e2 e3
              · rw [ey] at q0
                simp only [ex, preC] at q0
                exact q0 e h' rfl fx e2 e3
          by_cases e : w = 0
          · refine br_t (by rw [e]; rfl) (main h ⟨Fx.rf, ?_⟩ ?_)
            · unfold wpC; rw [if_pos e]; exact CAp.nil
            · rw [wpC_l, if_pos e]; exact E
          · obtain ⟨e1, e2⟩ := wI_e e hw
            rw [if_neg e] at hz
            refine br_f e2 ⟨hD4, E.put (by omega) e1 fun h' sg E' => main h' ?_ ?_⟩
            · unfold wpC; rw [if_neg e]; exact sg
            · rw [wpC_l, if_neg e]; exact E'
      by_cases c43 : tkK B t = 43
      · exact br_t c43 (hit (Or.inr (by rw [c43]; decide)))
      refine br_f c43 ?_
      by_cases c45 : tkK B t = 45
      · exact br_t c45 (hit (Or.inr (by rw [c45]; decide)))
      refine br_f c45 ?_
      by_cases c42 : tkK B t = 42
      · exact ⟨fun n => absurd c42 n, fun _ => hit (Or.inl c42)⟩
      · refine ⟨fun _ => br_t rfl (fin c42 ?_), fun n => absurd n c42⟩
        unfold lsS
        rw [if_neg c43, if_neg c45]
  refine ⟨hc6, hX h0 t0 a0 cz0 _ E0 hz0 ha0 (fun y h1 ey f1 E1 ap => ⟨fun _ => ⟨31, ?_⟩, fun n => absurd n (by decide)⟩) (fun e h1 ey f1 e2 e3 => ⟨fun n => absurd rfl n, fun _ => ?_⟩)⟩
  · obtain ⟨y1, y2, y3, y4, y5, -⟩ := (pg N t0 a0 hN nn.2 ha0).1 y ey
    refine lp 31 0 y.1 y.2.1 _ h1 0 Q (Or.inl rfl) E1 (by rw [if_pos rfl]; omega) y4 (by omega) (by omega) (fun x h' ex sx Ex => ?_) (fun e h' ex fx e2 e3 => ?_)
    · have s5 := Sg.tr ⟨f1, ap⟩ sx rfl
      refine q1 (x.1, x.2.1, y.2.2 ++ x.2.2) h' ?_ s5.1 ?_ s5.2
      · unfold gnP
        rw [ey]
        simp only [ex, preC]
      · show CE A B S h' c D N m k x.1 x.2.1 (cz0 + (y.2.2 ++ x.2.2).length)
        rw [List.length_append, ← Nat.add_assoc]
        exact Ex
    · refine q0 e h' ?_ (f1.tr fx (by omega)) e2 e3
      unfold gnP
      rw [ey]
      simp only [ex, preC]
  · refine q0 e h1 ?_ f1 e2 e3
    unfold gnP
    rw [ey]
