theorem fdI_s {f : Nat → Int64} {w : Int64} : ∀ {j i v : Nat}, fdI f w j i = some v → i ≤ v ∧ v < i + j ∧ f v = w
  | 0, i, v, h => by cases h
  | j + 1, i, v, h => by
    unfold fdI at h
    split at h
    · rename_i e
      cases h
      exact ⟨Nat.le_refl _, by omega, e⟩
    · have := fdI_s h
      exact ⟨by omega, by omega, this.2.2⟩
theorem slA_ok {A : Ab} {m k w : Nat} {c : Nat × Nat} (h : slA A m k w = some c) : okC A m k c ∧ c.1 ≤ 3 ∧ (c.1 = 1 ∨ c.1 = 2) := by
  unfold slA at h
  split at h
  · rename_i v e
    cases h
    have := fdI_s e
    exact ⟨⟨by show 1 ≤ 12; omega, fun q => (by cases q), fun _ => by simpa using this.2.1, fun q => (by cases q), fun q => (by cases q)⟩, by show 1 ≤ 3; omega, Or.inl rfl⟩
  · split at h
    · rename_i e0
      split at h
      · rename_i v e
        cases h
        have := fdI_s e
        exact ⟨⟨by show 2 ≤ 12; omega, fun q => (by cases q), fun q => (by cases q), fun _ => ⟨e0.1, e0.2, by simpa using this.2.1⟩, fun q => (by cases q)⟩, by show 2 ≤ 3; omega, Or.inr rfl⟩
      · cases h
    · cases h
theorem evs_p {en : Nat → Int32} {c : Nat × Nat} {st : List Int32} (h : c.1 ≤ 3) : ∃ y, evs en [c] st = y :: st := by
  show ∃ y, ev1 en c st = y :: st
  unfold ev1
  have : c.1 = 0 ∨ c.1 = 1 ∨ c.1 = 2 ∨ c.1 = 3 := by omega
  rcases this with e | e | e | e <;> simp [e]
theorem rnC_p {c : Nat × Nat} {n : Nat} (h : c.1 ≤ 3) : rnC [c] n = some (n + 1) := by
  unfold rnC
  rw [if_pos h]
  rfl
theorem atC_ok {A : Ab} {B : Bx} {m k t : Nat} (h : tkK B t = 303 ∨ tkK B t = 302 ∨ (tkK B t = 415 ∧ k = 1)) (hn : tkK B t = 302 → slA A m k (tkC B t) ≠ none) : okC A m k (atC A B m k t) ∧ (atC A B m k t).1 ≤ 3 := by
  unfold atC
  by_cases h3 : tkK B t = 303
  · rw [if_pos h3]
    have := tkC_999 h3
    exact ⟨⟨by show 0 ≤ 12; omega, fun _ => this, fun q => (by cases q), fun q => (by cases q), fun q => (by cases q)⟩, by show 0 ≤ 3; omega⟩
  · rw [if_neg h3]
    by_cases h2 : tkK B t = 302
    · rw [if_pos h2]
      cases hs : slA A m k (tkC B t) with
      | none => exact absurd hs (hn h2)
      | some c => exact ⟨(slA_ok hs).1, (slA_ok hs).2.1⟩
    · rw [if_neg h2]
      have : k = 1 := by omega
      exact ⟨⟨by decide, fun q => (by cases q), fun q => (by cases q), fun q => (by cases q), fun _ => this⟩, by show 3 ≤ 3; omega⟩
def anyP (_ : Int32) : Prop := True
def bitP (x : Int32) : Prop := x = 0 ∨ x = 1
theorem pAt_pg {A : Ab} {B : Bx} {m k : Nat} {inn : Option (Nat → Nat → PR)} (H : ∀ P, inn = some P → PG A B m k anyP P) : PG A B m k anyP (pAt A B m k inn) := by
  intro N t a hN htN ha
  have hlt : tkK B t ≠ 300 → t + 1 ≤ N := fun h => by
    by_cases e : t = N
    · subst e; exact absurd hN h
    · omega
  have er : ∀ f, 0 < f → f < 10 → ((∀ x : Nat × Nat × Cd, (Except.error (f, t) : PR) = .ok x → t < x.1 ∧ x.1 ≤ N ∧ a < x.2.1 ∧ x.2.1 ≤ 30 ∧ x.2.2.length + t ≤ x.1 ∧ (∀ n, rnC x.2.2 n = some (n + 1)) ∧ psC x.2.2 + a ≤ x.2.1 ∧ (∀ c ∈ x.2.2, okC A m k c) ∧ ∀ en st, ∃ y, anyP y ∧ evs en x.2.2 st = y :: st) ∧
      ∀ e, (Except.error (f, t) : PR) = .error e → 0 < e.1 ∧ e.1 < 10 ∧ t ≤ e.2 ∧ e.2 ≤ N) := by
    intro f h1 h2
    refine ⟨fun x h => (by cases h), fun e h => ?_⟩
    cases h
    exact ⟨h1, h2, Nat.le_refl _, htN⟩
  unfold pAt
  split
  · rename_i hk
    split
    · exact er 3 (by decide) (by decide)
    · rename_i hn
      split
      · exact er 4 (by decide) (by decide)
      · rename_i ha'
        split
        · rename_i h91
          cases inn with
          | none => exact er 4 (by decide) (by decide)
          | some P =>
            have hlt := hlt (by omega)
            obtain ⟨g1, g2⟩ := H P rfl N (t + 1) (a + 1) hN hlt (by omega)
            show _ ∧ _
            cases hX : P (t + 1) (a + 1) with
            | error e =>
              refine ⟨fun x h => ?_, fun e' h => ?_⟩
              · simp only [hX] at h
                cases h
              · simp only [hX] at h
                cases h
                have := g2 e hX
                omega
            | ok y =>
              obtain ⟨y1, y2, y3, y4, y5, y6, y7, y8, y9⟩ := g1 y hX
              have hy : tkK B y.1 = 93 → y.1 + 1 ≤ N := fun h => by
                by_cases e : y.1 = N
                · rw [e, hN] at h; cases h
                · omega
              refine ⟨fun x h => ?_, fun e' h => ?_⟩
              · simp only [hX] at h
                split at h
                · rename_i h93
                  cases h
                  have := hy h93
                  exact ⟨by show t < y.1 + 1; omega, this, by show a < y.2.1; omega, y4, by show y.2.2.length + t ≤ y.1 + 1; omega, y6, by show psC y.2.2 + a ≤ y.2.1; omega, y8, y9⟩
                · cases h
              · simp only [hX] at h
                split at h
                · cases h
                · cases h
                  exact ⟨by show 0 < 1; omega, by show 1 < 10; omega, by show t ≤ y.1; omega, y2⟩
        · rename_i h91
          have hlt := hlt (by omega)
          have ok := atC_ok (A := A) (B := B) (m := m) (k := k) (t := t) (by omega) (fun e q => hn ⟨e, q⟩)
          refine ⟨fun x h => ?_, fun e h => (by cases h)⟩
          cases h
          refine ⟨Nat.lt_succ_self t, hlt, Nat.lt_succ_self a, by show a + 1 ≤ 30; omega, by show 1 + t ≤ t + 1; omega, fun n => rnC_p ok.2, ?_, fun c hc => ?_, fun en st => ?_⟩
          · show psC [_] + a ≤ a + 1
            unfold psC psC
            split <;> omega
          · rw [List.mem_singleton.mp hc]; exact ok.1
          · obtain ⟨y, hy⟩ := evs_p (en := en) (st := st) ok.2
            exact ⟨y, trivial, hy⟩
  · exact er 1 (by decide) (by decide)
theorem lsS_j (k : Nat) (h : lsS k ≠ 0) : jnK (lsS k) := by
  unfold lsS at h ⊢
  split
  · exact Or.inl rfl
  · split
    · exact Or.inr (Or.inl rfl)
    · rename_i h1 h2
      rw [if_neg h1, if_neg h2] at h
      exact absurd rfl h
theorem lsT_j (k : Nat) (h : lsT k ≠ 0) : jnK (lsT k) := by
  unfold lsT at h ⊢
  split
  · exact Or.inr (Or.inr (Or.inr (Or.inr (Or.inr (Or.inr (Or.inr rfl))))))
  · rename_i h1
    rw [if_neg h1] at h
    exact absurd rfl h
theorem gnS_pg {A : Ab} {B : Bx} {m k : Nat} {X : Nat → Nat → PR} (H : PG A B m k anyP X) : PG A B m k anyP (gnP B X 42 6 lsS) :=
  gnP_pg H (by decide) rfl (Or.inr (Or.inr (Or.inl rfl))) lsS_j (fun _ _ _ _ => trivial) (fun _ _ _ _ _ _ => trivial)
theorem pSm_pg {A : Ab} {B : Bx} {m k : Nat} : ∀ j, PG A B m k anyP (pSm A B m k j)
  | 0 => gnS_pg (pAt_pg fun P h => (by cases h))
  | j + 1 => gnS_pg (pAt_pg fun P h => by cases h; exact pSm_pg j)
theorem pAj_pg {A : Ab} {B : Bx} {m k : Nat} : ∀ j, PG A B m k anyP (pAj A B m k j)
  | 0 => pAt_pg (inn := none) fun P h => (by cases h)
  | j + 1 => pAt_pg (inn := some (pSm A B m k j)) fun P h => by cases h; exact pSm_pg j
theorem bit_and {x y : Int32} (hx : bitP x) (hy : bitP y) : bitP (jnN 11 x y) := by
  rcases hx with e | e <;> rcases hy with e' | e' <;> subst e <;> subst e' <;> first | exact Or.inl (by decide) | exact Or.inr (by decide)
theorem bit_or {x y : Int32} (hx : bitP x) (hy : bitP y) : bitP (jnN 12 x y) := by
  rcases hx with e | e <;> rcases hy with e' | e' <;> subst e <;> subst e' <;> first | exact Or.inl (by decide) | exact Or.inr (by decide)
theorem gnT_pg {A : Ab} {B : Bx} {m k : Nat} {X : Nat → Nat → PR} (H : PG A B m k bitP X) : PG A B m k bitP (gnP B X 413 11 lsT) := by
  refine gnP_pg H (by decide) rfl (Or.inr (Or.inr (Or.inr (Or.inr (Or.inr (Or.inr (Or.inl rfl))))))) lsT_j (fun _ _ h1 h2 => bit_and h1 h2) (fun k x y h h1 h2 => ?_)
  have : lsT k = 12 := by
    unfold lsT at h ⊢
    split
    · rfl
    · rename_i q
      rw [if_neg q] at h
      exact absurd rfl h
  rw [this]
  exact bit_or h1 h2
theorem cmC_j {k : Nat} (h : cmC k ≠ 0) : jnK (cmC k) ∧ (∀ x y, bitP (jnN (cmC k) x y)) ∧ k ≠ 300 := by
  unfold cmC at h ⊢
  split
  · rename_i e
    refine ⟨Or.inr (Or.inr (Or.inr (Or.inl rfl))), fun x y => ?_, by omega⟩
    show bitP (if x < y then 1 else 0)
    split
    · exact Or.inr rfl
    · exact Or.inl rfl
  · split
    · refine ⟨Or.inr (Or.inr (Or.inr (Or.inr (Or.inl rfl)))), fun x y => ?_, by omega⟩
      show bitP (if y < x then 1 else 0)
      split
      · exact Or.inr rfl
      · exact Or.inl rfl
    · split
      · refine ⟨Or.inr (Or.inr (Or.inr (Or.inr (Or.inr (Or.inl rfl))))), fun x y => ?_, by omega⟩
        show bitP (if x = y then 1 else 0)
        split
        · exact Or.inr rfl
        · exact Or.inl rfl
      · rename_i h1 h2 h3
        rw [if_neg h1, if_neg h2, if_neg h3] at h
        exact absurd rfl h
theorem pFB_pg {A : Ab} {B : Bx} {m k : Nat} {inn : Option ((Nat → Nat → PR) × (Nat → Nat → PR))} {sm : Nat → Nat → PR} (H : ∀ P, inn = some P → PG A B m k bitP P.1 ∧ PG A B m k bitP P.2) (Hs : PG A B m k anyP sm) : PG A B m k bitP (pFB B inn sm) := by
  intro N t a hN htN ha
  have hlt : ∀ t, t ≤ N → tkK B t ≠ 300 → t + 1 ≤ N := fun t ht h => by
    by_cases e : t = N
    · subst e; exact absurd hN h
    · omega
  unfold pFB
  split
  · rename_i h14
    cases inn with
    | none =>
      refine ⟨fun x h => (by cases h), fun e h => ?_⟩
      cases h
      exact ⟨by show 0 < 4; omega, by show 4 < 10; omega, Nat.le_refl _, htN⟩
    | some P =>
      obtain ⟨g1, g2⟩ := (H P rfl).1 N (t + 1) a hN (hlt t htN (by omega)) ha
      show _ ∧ _
      cases hX : P.1 (t + 1) a with
      | error e =>
        refine ⟨fun x h => ?_, fun e' h => ?_⟩
        · simp only [hX] at h
          cases h
        · simp only [hX] at h
          cases h
          have := g2 e hX
          omega
      | ok y =>
        obtain ⟨y1, y2, y3, y4, y5, y6, y7, y8, y9⟩ := g1 y hX
        refine ⟨fun x h => ?_, fun e' h => ?_⟩
        · simp only [hX] at h
          cases h
          refine ⟨by show t < y.1; omega, y2, y3, y4, ?_, fun n => ?_, ?_, fun c hc => ?_, fun en st => ?_⟩
          · show (y.2.2 ++ [(10, 0)]).length + t ≤ y.1
            rw [List.length_append]
            simp only [List.length_cons, List.length_nil]
            omega
          · show rnC (y.2.2 ++ [(10, 0)]) n = _
            rw [rnC_app, y6]
            show rnC [(10, 0)] (n + 1) = _
            unfold rnC
            rw [if_neg (by decide), if_pos rfl, if_pos (by omega)]
            rfl
          · show psC (y.2.2 ++ [(10, 0)]) + a ≤ y.2.1
            rw [psC_app]
            show psC y.2.2 + 0 + a ≤ y.2.1
            omega
          · rcases List.mem_append.mp hc with hc | hc
            · exact y8 c hc
            · rw [List.mem_singleton.mp hc]
              unfold okC
              simp
          · obtain ⟨b, b1, b2⟩ := y9 en st
            refine ⟨1 - b, ?_, ?_⟩
            · rcases b1 with e | e <;> subst e
              · exact Or.inr (by decide)
              · exact Or.inl (by decide)
            · show evs en (y.2.2 ++ [(10, 0)]) st = _
              rw [evs_app, b2]
              rfl
        · simp only [hX] at h
          cases h
  · split
    · rename_i h14 h40
      cases inn with
      | none =>
        refine ⟨fun x h => (by cases h), fun e h => ?_⟩
        cases h
        exact ⟨by show 0 < 4; omega, by show 4 < 10; omega, Nat.le_refl _, htN⟩
      | some P =>
        obtain ⟨g1, g2⟩ := (H P rfl).2 N (t + 1) a hN (hlt t htN (by omega)) ha
        show _ ∧ _
        cases hX : P.2 (t + 1) a with
        | error e =>
          refine ⟨fun x h => ?_, fun e' h => ?_⟩
          · simp only [hX] at h
            cases h
          · simp only [hX] at h
            cases h
            have := g2 e hX
            omega
        | ok y =>
          obtain ⟨y1, y2, y3, y4, y5, y6, y7, y8, y9⟩ := g1 y hX
          refine ⟨fun x h => ?_, fun e' h => ?_⟩
          · simp only [hX] at h
            split at h
            · rename_i h41
              cases h
              have := hlt y.1 y2 (by omega)
              exact ⟨by show t < y.1 + 1; omega, this, y3, y4, by show y.2.2.length + t ≤ y.1 + 1; omega, y6, y7, y8, y9⟩
            · cases h
          · simp only [hX] at h
            split at h
            · cases h
            · cases h
              exact ⟨by show 0 < 1; omega, by show 1 < 10; omega, by show t ≤ y.1; omega, y2⟩
    · obtain ⟨g1, g2⟩ := Hs N t a hN htN ha
      cases hX : sm t a with
      | error e =>
        refine ⟨fun x h => (by cases h), fun e' h => ?_⟩
        cases h
        exact g2 e hX
      | ok y =>
        obtain ⟨y1, y2, y3, y4, y5, y6, y7, y8, y9⟩ := g1 y hX
        show _ ∧ _
        by_cases hc : cmC (tkK B y.1) = 0
        · refine ⟨fun x h => ?_, fun e' h => ?_⟩
          · simp only [if_pos hc] at h
            cases h
          · simp only [if_pos hc] at h
            cases h
            exact ⟨by show 0 < 1; omega, by show 1 < 10; omega, by show t ≤ y.1; omega, y2⟩
        · obtain ⟨j1, j2, j3⟩ := cmC_j hc
          have htN2 := hlt y.1 y2 j3
          obtain ⟨k1, k2⟩ := Hs N (y.1 + 1) y.2.1 hN htN2 y4
          cases hY : sm (y.1 + 1) y.2.1 with
          | error e =>
            refine ⟨fun x h => ?_, fun e' h => ?_⟩
            · simp only [if_neg hc, hY] at h
              cases h
            · simp only [if_neg hc, hY] at h
              cases h
              have := k2 e hY
              omega
          | ok z =>
            obtain ⟨z1, z2, z3, z4, z5, z6, z7, z8, z9⟩ := k1 z hY
            refine ⟨fun x h => ?_, fun e' h => ?_⟩
            · simp only [if_neg hc, hY] at h
              cases h
              refine ⟨by show t < z.1; omega, z2, by show a < z.2.1; omega, z4, ?_, fun n => ?_, ?_, fun c hcc => ?_, fun en st => ?_⟩
              · show (y.2.2 ++ z.2.2 ++ [(cmC (tkK B y.1), 0)]).length + t ≤ z.1
                rw [List.length_append, List.length_append]
                simp only [List.length_cons, List.length_nil]
                omega
              · show rnC (y.2.2 ++ z.2.2 ++ [(cmC (tkK B y.1), 0)]) n = _
                rw [rnC_app, rnC_app, y6]
                show ((rnC z.2.2 (n + 1)).bind (rnC [(cmC (tkK B y.1), 0)])) = _
                rw [z6]
                exact rnC_j j1
              · show psC (y.2.2 ++ z.2.2 ++ [(cmC (tkK B y.1), 0)]) + a ≤ z.2.1
                rw [psC_app, psC_app, psC_j j1]
                omega
              · rcases List.mem_append.mp hcc with hcc | hcc
                · rcases List.mem_append.mp hcc with hcc | hcc
                  · exact y8 c hcc
                  · exact z8 c hcc
                · rw [List.mem_singleton.mp hcc]; exact okC_j j1
              · obtain ⟨b, b1, b2⟩ := y9 en st
                obtain ⟨d, d1, d2⟩ := z9 en (b :: st)
                refine ⟨_, j2 b d, ?_⟩
                show evs en (y.2.2 ++ z.2.2 ++ [(cmC (tkK B y.1), 0)]) st = _
                rw [evs_app, evs_app, b2, d2]
                exact evs_j j1
            · simp only [if_neg hc, hY] at h
              cases h
theorem pFc_pg {A : Ab} {B : Bx} {m k : Nat} : ∀ j, PG A B m k bitP (pFc A B m k j)
  | 0 => pFB_pg (fun P h => (by cases h)) (pSm_pg 0)
  | j + 1 => pFB_pg (fun P h => by cases h; exact ⟨pFc_pg j, gnT_pg (pFc_pg j)⟩) (pSm_pg (j + 1))
theorem pTs_pg {A : Ab} {B : Bx} {m k : Nat} (j : Nat) : PG A B m k bitP (pTs A B m k j) := gnT_pg (pFc_pg j)
theorem PG.wf {A : Ab} {B : Bx} {m k : Nat} {P : Int32 → Prop} {X : Nat → Nat → PR} (H : PG A B m k P X) {N t : Nat} (hN : tkK B N = 300) (hN6 : N ≤ 600) (ht : t ≤ N) {x : Nat × Nat × Cd} (h : X t 0 = .ok x) : wfC A m k x.2.2 ∧ ∀ en, P (evl en x.2.2) := by
  obtain ⟨y1, y2, y3, y4, y5, y6, y7, y8, y9⟩ := (H N t 0 hN ht (by omega)).1 x h
  refine ⟨⟨y6 0, by omega, by omega, y8⟩, fun en => ?_⟩
  obtain ⟨b, b1, b2⟩ := y9 en []
  unfold evl
  rw [b2]
  exact b1
