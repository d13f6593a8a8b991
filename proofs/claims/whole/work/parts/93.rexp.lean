theorem preC_pre {a b : Cd} {p : PR} : preC a (preC b p) = preC (a ++ b) p := by
  cases p with
  | error e => rfl
  | ok x =>
    show (Except.ok _ : PR) = .ok _
    rw [List.append_assoc]
theorem preC_nil {p : PR} : preC [] p = p := by
  cases p with
  | error e => rfl
  | ok x => rfl
theorem rGen {A : Ab} {B : Bx} {S : Sh} {r N m k o b : Nat} {P : Int32 → Prop} {X : Nat → Nat → PR} {tg ts : Nat} {ls : Nat → Nat} {At Tm : Hp → (Hp → Prop) → Prop} {L O : (Hp → Prop) → Nat → Hp → Prop} (pg : PG A B m k P X) (hN : tkK B N = 300) (hN6 : N ≤ 600) (hb : b ≤ 10) (h300 : tg ≠ 300) (l300 : ls 300 = 0)
    (hA : RX A B S r N m k o b X At)
    (hL : ∀ (Qt : Hp → Prop) (n : Nat) (h : Hp) (t a s : Nat), RE A B S h r m k t a o s → (tkK B t = tg → ∀ h', Rg r s h h' [] → RE A B S h' r m k (t + 1) a o s → At h' (fun h1 => wX12_emits S h1 r (nI ts) (nI 0) (fun h2 => L Qt n h2))) → (tkK B t ≠ tg → Qt h) → L Qt (n + 1) h)
    (hLf : ∀ (Qt : Hp → Prop) (n : Nat) (h : Hp) (f p : Nat), Fm h r f p → Qt h → L Qt (n + 1) h)
    (hO : ∀ (Q : Hp → Prop) (n : Nat) (h : Hp) (t a s : Nat), RE A B S h r m k t a o s → (ls (tkK B t) ≠ 0 → ∀ h', Rg r s h h' [] → RE A B S h' r m k (t + 1) a o s → Tm h' (fun h1 => wX12_emits S h1 r (nI (ls (tkK B t))) (nI 0) (fun h2 => O Q n h2))) → (ls (tkK B t) = 0 → Q h) → O Q (n + 1) h)
    (hOf : ∀ (Q : Hp → Prop) (n : Nat) (h : Hp) (f p : Nat), Fm h r f p → Q h → O Q (n + 1) h)
    (hT : ∀ (h : Hp) (Q : Hp → Prop), At h (fun h1 => ∃ n, L Q n h1) → Tm h Q) : RX A B S r N m k o b (gnP B X tg ts ls) (fun h Q => Tm h (fun h1 => ∃ n, O Q n h1)) := by
  have nlt : ∀ t, t ≤ N → tkK B t ≠ 300 → t + 1 ≤ N := fun t ht h => by
    by_cases e : t = N
    · subst e; exact absurd hN h
    · omega
  have TL : ∀ (n w t a s : Nat) (h : Hp) (Qt : Hp → Prop), RE A B S h r m k t a o s → s ≤ t → t ≤ N → a ≤ 30 → 31 ≤ n + a →
      (∀ n' t' a' c h', n' ≤ n → gnL B X tg ts ls n w t a = preC c (gnL B X tg ts ls n' w t' a') → tkK B t' ≠ tg → t ≤ t' → t' ≤ N → a' ≤ 30 → 31 ≤ n' + a' → c.length + t ≤ t' → Rg r s h h' c → RE A B S h' r m k t' a' o (s + c.length) → Qt h') →
      (∀ e h', gnL B X tg ts ls n w t a = .error e → t ≤ e.2 → e.2 ≤ N → FS r s h h' e.1 (tkP B e.2) (s + (e.2 - t) + b) → Qt h') → L Qt (n + 1) h := by
    intro n
    induction n with
    | zero => intro w t a s h Qt _ _ _ h1 h2; exact absurd h2 (by omega)
    | succ n ih =>
      intro w t a s h Qt E hs ht ha hn qo qf
      refine hL Qt (n + 1) h t a s E (fun ct h1 g1 E1 => ?_) (fun ct => qo (n + 1) t a [] h (Nat.le_refl _) preC_nil.symm ct (Nat.le_refl _) ht ha hn (by show 0 + t ≤ t; omega) Rg.rf E)
      have ht1 := nlt t ht (by rw [ct]; exact h300)
      have pgx := pg N (t + 1) a hN ht1 ha
      have eq : gnL B X tg ts ls (n + 1) w t a = (match X (t + 1) a with | .error e => .error e | .ok x => preC (x.2.2 ++ [(ts, 0)]) (gnL B X tg ts ls n w x.1 x.2.1)) := by
        show (if tkK B t = tg then _ else _) = _
        rw [if_pos ct]
        rfl
      refine hA h1 (t + 1) a s _ E1 (by omega) ht1 ha (fun y h2 ey g2 E2 => ?_) (fun e h2 ey f2 => ?_)
      · obtain ⟨y1, y2, y3, y4, y5, -⟩ := pgx.1 y ey
        simp only [ey] at eq
        refine E2.put (y := (ts, 0)) (by omega) fun h3 g3 E3 => ?_
        have g4 : Rg r s h h3 (y.2.2 ++ [(ts, 0)]) := Rg.tr (Rg.tr g1 g2 rfl) g3 rfl
        refine ih w y.1 y.2.1 _ h3 Qt E3 (by omega) y2 y4 (by omega) (fun n' t' a' c h' hn' e' k' t1 t2 a1 a2 lc gc Ec => ?_) (fun e h' e' t1 t2 fc => ?_)
        · refine qo n' t' a' (y.2.2 ++ [(ts, 0)] ++ c) h' (by omega) (by rw [eq, e', preC_pre]) k' (by omega) t2 a1 a2 ?_ (g4.tr gc (by rw [List.length_append]; rfl)) ?_
          · simp only [List.length_append, List.length_cons, List.length_nil]; omega
          · have : s + (y.2.2 ++ [(ts, 0)] ++ c).length = s + y.2.2.length + 1 + c.length := by
              simp only [List.length_append, List.length_cons, List.length_nil]; omega
            rw [this]
            exact Ec
        · refine qf e h' (by rw [eq, e']; rfl) (by omega) t2 ((fc.pre g4.1 (by omega)).mono (by omega))
      · have := pgx.2 e ey
        simp only [ey] at eq
        refine (f2.pre g1.1 (Nat.le_refl _)).put E.1.1 E.1.2.1 (by omega) fun h3 f3 => hLf Qt n h3 _ _ f3.2.1 (qf e h3 eq (by omega) this.2.2.2 (f3.mono (by omega)))
  have SL : ∀ (n : Nat) (t a s : Nat) (h : Hp) (Q : Hp → Prop), RE A B S h r m k t a o s → tkK B t ≠ tg → s ≤ t → t ≤ N → a ≤ 30 → 31 ≤ n + a →
      (∀ x h', gnL B X tg ts ls n 0 t a = .ok x → Rg r s h h' x.2.2 → RE A B S h' r m k x.1 x.2.1 o (s + x.2.2.length) → Q h') →
      (∀ e h', gnL B X tg ts ls n 0 t a = .error e → t ≤ e.2 → FS r s h h' e.1 (tkP B e.2) (s + (e.2 - t) + b) → Q h') → ∀ f, n ≤ f → O Q (f + 1) h := by
    intro n
    induction n using Nat.strongRecOn with
    | _ n ih =>
      intro t a s h Q E kt hs ht ha hn qo qf f hf
      obtain ⟨n0, rfl⟩ : ∃ n0, n = n0 + 1 := ⟨n - 1, by omega⟩
      have eq : ls (tkK B t) ≠ 0 → gnL B X tg ts ls (n0 + 1) 0 t a = (match X (t + 1) a with | .error e => .error e | .ok x => preC x.2.2 (gnL B X tg ts ls n0 (ls (tkK B t)) x.1 x.2.1)) := by
        intro c
        show (if tkK B t = tg then _ else _) = _
        rw [if_neg kt, if_neg c]
        rfl
      refine hO Q f h t a s E (fun cl h1 g1 E1 => hT _ _ ?_) (fun cl => qo (t, a, []) h ?_ Rg.rf E)
      · have ht1 := nlt t ht (fun e => by rw [e] at cl; exact cl l300)
        have pgx := pg N (t + 1) a hN ht1 ha
        have eq := eq cl
        refine hA h1 (t + 1) a s _ E1 (by omega) ht1 ha (fun y h2 ey g2 E2 => ⟨n0 + 1, ?_⟩) (fun e h2 ey f2 => ⟨1, ?_⟩)
        · obtain ⟨y1, y2, y3, y4, y5, -⟩ := pgx.1 y ey
          simp only [ey] at eq
          have g3 : Rg r s h h2 y.2.2 := g1.tr g2 rfl
          refine TL n0 (ls (tkK B t)) y.1 y.2.1 _ h2 _ E2 (by omega) y2 y4 (by omega) (fun n' t' a' c h' hn' e' k' t1 t2 a1 a2 lc gc Ec => ?_) (fun e h' e' t1 t2 fc => ?_)
          · refine Ec.put (y := (ls (tkK B t), 0)) (by omega) fun h4 g4 E4 => ?_
            have g5 : Rg r s h h4 (y.2.2 ++ c ++ [(ls (tkK B t), 0)]) := (g3.tr gc rfl).tr g4 (by rw [List.length_append]; omega)
            have lw : s + (y.2.2 ++ c ++ [(ls (tkK B t), 0)]).length = s + y.2.2.length + c.length + 1 := by
              simp only [List.length_append, List.length_cons, List.length_nil]; omega
            obtain ⟨n1, rfl⟩ : ∃ n1, n' = n1 + 1 := ⟨n' - 1, by omega⟩
            have eq2 : gnL B X tg ts ls (n0 + 1) 0 t a = preC (y.2.2 ++ c ++ [(ls (tkK B t), 0)]) (gnL B X tg ts ls (n1 + 1) 0 t' a') := by
              rw [eq, e', gnL_w k', preC_pre, preC_pre]
              have : wpC (ls (tkK B t)) = [(ls (tkK B t), 0)] := if_neg cl
              rw [this, List.append_assoc]
            obtain ⟨f1, rfl⟩ : ∃ f1, f = f1 + 1 := ⟨f - 1, by omega⟩
            refine ih (n1 + 1) (by omega) t' a' _ h4 Q E4 k' (by omega) t2 a1 a2 (fun x h5 ex gx Ex => ?_) (fun e h5 ex te fx => ?_) f1 (by omega)
            · refine qo (x.1, x.2.1, y.2.2 ++ c ++ [(ls (tkK B t), 0)] ++ x.2.2) h5 (by rw [eq2, ex]; rfl) (g5.tr gx lw.symm) ?_
              show RE A B S h5 r m k x.1 x.2.1 o (s + (y.2.2 ++ c ++ [(ls (tkK B t), 0)] ++ x.2.2).length)
              rw [List.length_append, ← Nat.add_assoc, lw]
              exact Ex
            · refine qf e h5 (by rw [eq2, ex]; rfl) (by omega) ((fx.pre g5.1 (by omega)).mono ?_)
              omega
          · refine (fc.pre g3.1 (by omega)).put E.1.1 E.1.2.1 (by omega) fun h4 f4 => ?_
            obtain ⟨f1, rfl⟩ : ∃ f1, f = f1 + 1 := ⟨f - 1, by omega⟩
            exact hOf Q f1 h4 _ _ f4.2.1 (qf e h4 (by rw [eq, e']; rfl) (by omega) (f4.mono (by omega)))
        · have := pgx.2 e ey
          simp only [ey] at eq
          refine hLf _ 0 h2 _ _ f2.2.1 ((f2.pre g1.1 (Nat.le_refl _)).put E.1.1 E.1.2.1 (by omega) fun h4 f4 => ?_)
          obtain ⟨f1, rfl⟩ : ∃ f1, f = f1 + 1 := ⟨f - 1, by omega⟩
          exact hOf Q f1 h4 _ _ f4.2.1 (qf e h4 eq (by omega) (f4.mono (by omega)))
      · show (if tkK B t = tg then _ else _) = _
        rw [if_neg kt, if_pos cl]
        rfl
  intro h t a s Q E hs ht ha qo qf
  have pgx := pg N t a hN ht ha
  refine hT _ _ (hA h t a s _ E hs ht ha (fun y h2 ey g2 E2 => ⟨32, ?_⟩) (fun e h2 ey f2 => ⟨1, hLf _ 0 h2 _ _ f2.2.1 ⟨1, hOf Q 0 h2 _ _ f2.2.1 (qf e h2 ?_ f2)⟩⟩))
  · obtain ⟨y1, y2, y3, y4, y5, -⟩ := pgx.1 y ey
    have eq : gnP B X tg ts ls t a = preC y.2.2 (gnL B X tg ts ls 31 0 y.1 y.2.1) := by
      unfold gnP
      rw [ey]
    refine TL 31 0 y.1 y.2.1 _ h2 _ E2 (by omega) y2 y4 (by omega) (fun n' t' a' c h' hn' e' k' t1 t2 a1 a2 lc gc Ec => ⟨n' + 1, ?_⟩) (fun e h' e' t1 t2 fc => ⟨1, hOf Q 0 h' _ _ fc.2.1 (qf e h' (by rw [eq, e']; rfl) ((fc.pre g2.1 (by omega)).mono (by omega)))⟩)
    have g5 : Rg r s h h' (y.2.2 ++ c) := g2.tr gc rfl
    refine SL n' t' a' _ h' Q Ec k' (by omega) t2 a1 a2 (fun x h5 ex gx Ex => ?_) (fun e h5 ex te fx => ?_) n' (Nat.le_refl _)
    · refine qo (x.1, x.2.1, y.2.2 ++ c ++ x.2.2) h5 (by rw [eq, e', ex, preC_pre]; rfl) (g5.tr gx (by rw [List.length_append]; omega)) ?_
      show RE A B S h5 r m k x.1 x.2.1 o (s + (y.2.2 ++ c ++ x.2.2).length)
      have : s + (y.2.2 ++ c ++ x.2.2).length = s + y.2.2.length + c.length + x.2.2.length := by
        simp only [List.length_append]; omega
      rw [this]
      exact Ex
    · exact qf e h5 (by rw [eq, e', ex]; rfl) ((fx.pre g5.1 (by omega)).mono (by omega))
  · unfold gnP
    rw [ey]
