/-! SUMS AND TESTS, READ WITHOUT A HEAP: a fault and its token, or the next token, the atoms so far, and the steps -/
abbrev PR : Type := Except (Nat × Nat) (Nat × Nat × Cd)
def fdI (f : Nat → Int64) (w : Int64) : Nat → Nat → Option Nat
  | 0, _ => none
  | j + 1, i => if f i = w then some i else fdI f w j (i + 1)
/-- what a name stands for in the machine m: 1 its own, 2 of the one ahead -/
def slA (A : Ab) (m k : Nat) (w : Nat) : Option (Nat × Nat) :=
  match fdI (aVn A m) (lN w) (aVm A m) 0 with
  | some v => some (1, v)
  | none => if k = 0 ∧ 0 < m then (match fdI (aVn A (m - 1)) (lN w) (aVm A (m - 1)) 0 with | some v => some (2, v) | none => none) else none
def wpC (w : Nat) : Cd := if w = 0 then [] else [(w, 0)]
def preC (c : Cd) : PR → PR
  | .error e => .error e
  | .ok x => .ok (x.1, x.2.1, c ++ x.2.2)
def gnL (B : Bx) (X : Nat → Nat → PR) (tg ts : Nat) (ls : Nat → Nat) : Nat → Nat → Nat → Nat → PR
  | 0, _, t, _ => .error (4, t)
  | n + 1, w, t, a => if tkK B t = tg then (match X (t + 1) a with | .error e => .error e | .ok x => preC (x.2.2 ++ [(ts, 0)]) (gnL B X tg ts ls n w x.1 x.2.1))
    else if ls (tkK B t) = 0 then .ok (t, a, wpC w)
    else (match X (t + 1) a with | .error e => .error e | .ok x => preC (wpC w ++ x.2.2) (gnL B X tg ts ls n (ls (tkK B t)) x.1 x.2.1))
def gnP (B : Bx) (X : Nat → Nat → PR) (tg ts : Nat) (ls : Nat → Nat) (t a : Nat) : PR :=
  match X t a with | .error e => .error e | .ok x => preC x.2.2 (gnL B X tg ts ls 31 0 x.1 x.2.1)
def lsS (k : Nat) : Nat := if k = 43 then 4 else if k = 45 then 5 else 0
def lsT (k : Nat) : Nat := if k = 412 then 12 else 0
def atC (A : Ab) (B : Bx) (m k t : Nat) : Nat × Nat := if tkK B t = 303 then (0, tkC B t) else if tkK B t = 302 then (slA A m k (tkC B t)).getD (0, 0) else (3, 0)
def pAt (A : Ab) (B : Bx) (m k : Nat) (inn : Option (Nat → Nat → PR)) (t a : Nat) : PR :=
  if tkK B t = 303 ∨ tkK B t = 302 ∨ tkK B t = 91 ∨ (tkK B t = 415 ∧ k = 1) then
    if tkK B t = 302 ∧ slA A m k (tkC B t) = none then .error (3, t)
    else if 30 ≤ a then .error (4, t)
    else if tkK B t = 91 then (match inn with
      | none => .error (4, t)
      | some P => match P (t + 1) (a + 1) with | .error e => .error e | .ok x => if tkK B x.1 = 93 then .ok (x.1 + 1, x.2.1, x.2.2) else .error (1, x.1))
    else .ok (t + 1, a + 1, [atC A B m k t])
  else .error (1, t)
def pSm (A : Ab) (B : Bx) (m k : Nat) : Nat → Nat → Nat → PR
  | 0 => gnP B (pAt A B m k none) 42 6 lsS
  | j + 1 => gnP B (pAt A B m k (some (pSm A B m k j))) 42 6 lsS
def pAj (A : Ab) (B : Bx) (m k : Nat) : Nat → Nat → Nat → PR
  | 0 => pAt A B m k none
  | j + 1 => pAt A B m k (some (pSm A B m k j))
def cmC (k : Nat) : Nat := if k = 60 then 7 else if k = 62 then 8 else if k = 61 then 9 else 0
def pFB (B : Bx) (inn : Option ((Nat → Nat → PR) × (Nat → Nat → PR))) (sm : Nat → Nat → PR) (t a : Nat) : PR :=
  if tkK B t = 414 then (match inn with
    | none => .error (4, t)
    | some P => match P.1 (t + 1) a with | .error e => .error e | .ok x => .ok (x.1, x.2.1, x.2.2 ++ [(10, 0)]))
  else if tkK B t = 40 then (match inn with
    | none => .error (4, t)
    | some P => match P.2 (t + 1) a with | .error e => .error e | .ok x => if tkK B x.1 = 41 then .ok (x.1 + 1, x.2.1, x.2.2) else .error (1, x.1))
  else match sm t a with
    | .error e => .error e
    | .ok x => if cmC (tkK B x.1) = 0 then .error (1, x.1) else match sm (x.1 + 1) x.2.1 with | .error e => .error e | .ok y => .ok (y.1, y.2.1, x.2.2 ++ y.2.2 ++ [(cmC (tkK B x.1), 0)])
def pFc (A : Ab) (B : Bx) (m k : Nat) : Nat → Nat → Nat → PR
  | 0 => pFB B none (pSm A B m k 0)
  | j + 1 => pFB B (some (pFc A B m k j, gnP B (pFc A B m k j) 413 11 lsT)) (pSm A B m k (j + 1))
def pTs (A : Ab) (B : Bx) (m k j : Nat) : Nat → Nat → PR := gnP B (pFc A B m k j) 413 11 lsT
theorem pSm_eq (A : Ab) (B : Bx) (m k j : Nat) : pSm A B m k j = gnP B (pAj A B m k j) 42 6 lsS := by cases j <;> rfl
/-- what holds of such a reader: P of the number that its steps leave -/
def PG (A : Ab) (B : Bx) (m k : Nat) (P : Int32 → Prop) (X : Nat → Nat → PR) : Prop := ∀ N t a, tkK B N = 300 → t ≤ N → a ≤ 30 →
  (∀ x, X t a = .ok x → t < x.1 ∧ x.1 ≤ N ∧ a < x.2.1 ∧ x.2.1 ≤ 30 ∧ x.2.2.length + t ≤ x.1 ∧ (∀ n, rnC x.2.2 n = some (n + 1)) ∧ psC x.2.2 + a ≤ x.2.1 ∧ (∀ c ∈ x.2.2, okC A m k c) ∧ ∀ en st, ∃ y, P y ∧ evs en x.2.2 st = y :: st) ∧
  ∀ e, X t a = .error e → 0 < e.1 ∧ e.1 < 10 ∧ t ≤ e.2 ∧ e.2 ≤ N
/-- steps that join -/
def jnK (s : Nat) : Prop := s = 4 ∨ s = 5 ∨ s = 6 ∨ s = 7 ∨ s = 8 ∨ s = 9 ∨ s = 11 ∨ s = 12
theorem rnC_j {s n : Nat} (hs : jnK s) : rnC [(s, 0)] (n + 2) = some (n + 1) := by
  unfold rnC
  have h3 : ¬ s ≤ 3 := by rcases hs with e | e | e | e | e | e | e | e <;> omega
  have h10 : ¬ s = 10 := by rcases hs with e | e | e | e | e | e | e | e <;> omega
  simp only [if_neg h3, if_neg h10]
  rw [if_pos (by omega)]
  rfl
theorem evs_j {en : Nat → Int32} {s : Nat} {x y : Int32} {st : List Int32} (hs : jnK s) : evs en [(s, 0)] (y :: x :: st) = jnN s x y :: st := by
  show ev1 en (s, 0) (y :: x :: st) = _
  unfold ev1
  rcases hs with e | e | e | e | e | e | e | e <;> subst e <;> rfl
theorem psC_j {s : Nat} (hs : jnK s) : psC [(s, 0)] = 0 := by
  unfold psC psC
  rcases hs with e | e | e | e | e | e | e | e <;> subst e <;> rfl
theorem okC_j {A : Ab} {m k s : Nat} (hs : jnK s) : okC A m k (s, 0) := by
  unfold okC
  rcases hs with e | e | e | e | e | e | e | e <;> subst e <;> simp
/-- pending joiner: heights -/
def hgW (w n : Nat) : Nat := if w = 0 then n + 1 else n + 2
theorem preC_ok {c : Cd} {p : PR} {x : Nat × Nat × Cd} (h : preC c p = .ok x) : ∃ c', p = .ok (x.1, x.2.1, c') ∧ x.2.2 = c ++ c' := by
  cases p with
  | error e => cases h
  | ok y =>
    have : x = (y.1, y.2.1, c ++ y.2.2) := (Except.ok.inj h).symm
    subst this
    exact ⟨y.2.2, rfl, rfl⟩
theorem preC_er {c : Cd} {p : PR} {e : Nat × Nat} (h : preC c p = .error e) : p = .error e := by
  cases p with
  | error e' => exact h
  | ok y => cases h
def stW (w : Nat) (x y : Int32) (st : List Int32) : List Int32 := if w = 0 then x :: st else x :: y :: st
theorem gnL_pg {A : Ab} {B : Bx} {m k : Nat} {P : Int32 → Prop} {X : Nat → Nat → PR} {tg ts : Nat} {ls : Nat → Nat} (H : PG A B m k P X) (h300 : tg ≠ 300) (l300 : ls 300 = 0) (ht : jnK ts) (hl : ∀ k, ls k ≠ 0 → jnK (ls k))
    (pt : ∀ x y, P x → P y → P (jnN ts x y)) (pl : ∀ k x y, ls k ≠ 0 → P x → P y → P (jnN (ls k) x y)) (N : Nat) (hN : tkK B N = 300) :
    ∀ (n w t a : Nat), (w = 0 ∨ ∃ k, ls k = w) → t ≤ N → a ≤ 30 → 31 ≤ n + a → 0 < n →
      (∀ x, gnL B X tg ts ls n w t a = .ok x → t ≤ x.1 ∧ x.1 ≤ N ∧ a ≤ x.2.1 ∧ x.2.1 ≤ 30 ∧ x.2.2.length + t ≤ x.1 + (if w = 0 then 0 else 1) ∧ (∀ n, rnC x.2.2 (hgW w n) = some (n + 1)) ∧ psC x.2.2 + a ≤ x.2.1 ∧ (∀ c ∈ x.2.2, okC A m k c) ∧
        ∀ en u v st, P u → P v → ∃ y, P y ∧ evs en x.2.2 (stW w u v st) = y :: st) ∧
      ∀ e, gnL B X tg ts ls n w t a = .error e → 0 < e.1 ∧ e.1 < 10 ∧ t ≤ e.2 ∧ e.2 ≤ N := by
  intro n
  induction n with
  | zero => intro w t a _ _ _ _ h0; exact absurd h0 (by omega)
  | succ n ih =>
    intro w t a hw ht' ha hn _
    unfold gnL
    by_cases c1 : tkK B t = tg
    · rw [if_pos c1]
      have htN : t + 1 ≤ N := by
        by_cases e : t = N
        · subst e; exact absurd (c1.symm.trans hN) h300
        · omega
      obtain ⟨g1, g2⟩ := H N (t + 1) a hN htN ha
      cases hX : X (t + 1) a with
      | error e =>
        refine ⟨fun x h => (by cases h), fun e' h => ?_⟩
        cases h
        have := g2 e hX
        omega
      | ok y =>
        obtain ⟨y1, y2, y3, y4, y5, y6, y7, y8, y9⟩ := g1 y hX
        obtain ⟨i1, i2⟩ := ih w y.1 y.2.1 hw y2 y4 (by omega) (by omega)
        refine ⟨fun x h => ?_, fun e h => ?_⟩
        · obtain ⟨c', e1, e2⟩ := preC_ok h
          obtain ⟨z1, z2, z3, z4, z5, z6, z7, z8, z9⟩ := i1 _ e1
          simp only at z1 z2 z3 z4 z5 z6 z7 z8 z9
          refine ⟨by omega, z2, by omega, z4, ?_, fun q => ?_, ?_, fun c hc => ?_, fun en u v st pu pv => ?_⟩
          · rw [e2, List.length_append, List.length_append]
            simp only [List.length_cons, List.length_nil]
            omega
          · rw [e2, rnC_app, rnC_app, y6]
            show ((rnC [(ts, 0)] (hgW w q + 1)).bind (rnC c')) = _
            have : hgW w q + 1 = (hgW w q - 1) + 2 := by unfold hgW; split <;> omega
            rw [this, rnC_j ht]
            show rnC c' (hgW w q - 1 + 1) = _
            rw [show hgW w q - 1 + 1 = hgW w q by unfold hgW; split <;> omega]
            exact z6 q
          · rw [e2, psC_app, psC_app, psC_j ht]
            omega
          · rw [e2] at hc
            rcases List.mem_append.mp hc with hc | hc
            · rcases List.mem_append.mp hc with hc | hc
              · exact y8 c hc
              · rw [List.mem_singleton.mp hc]
                exact okC_j ht
            · exact z8 c hc
          · rw [e2, evs_app, evs_app]
            obtain ⟨b, b1, b2⟩ := y9 en (stW w u v st)
            rw [b2]
            have : evs en [(ts, 0)] (b :: stW w u v st) = stW w (jnN ts u b) v st := by
              unfold stW
              split
              · exact evs_j ht
              · exact evs_j ht
            rw [this]
            exact z9 en _ v st (pt u b pu b1) pv
        · have := i2 e (preC_er h)
          omega
    · rw [if_neg c1]
      by_cases c2 : ls (tkK B t) = 0
      · rw [if_pos c2]
        refine ⟨fun x h => ?_, fun e h => (by cases h)⟩
        cases h
        refine ⟨Nat.le_refl _, ht', Nat.le_refl _, ha, ?_, fun q => ?_, ?_, fun c hc => ?_, fun en u v st pu pv => ?_⟩
        · show (wpC w).length + t ≤ t + _
          unfold wpC
          by_cases e : w = 0
          · rw [if_pos e, if_pos e]; show 0 + t ≤ t + 0; omega
          · rw [if_neg e, if_neg e]; show 1 + t ≤ t + 1; omega
        · show rnC (wpC w) (hgW w q) = _
          unfold wpC hgW
          rcases Nat.eq_zero_or_pos w with e | e
          · rw [if_pos e, if_pos e]; rfl
          · rw [if_neg (by omega), if_neg (by omega)]
            rcases hw with hw | ⟨k', hw⟩
            · omega
            · exact rnC_j (hw ▸ hl k' (by omega))
        · unfold wpC
          rcases Nat.eq_zero_or_pos w with e | e
          · rw [if_pos e]; show 0 + a ≤ a; omega
          · rw [if_neg (by omega)]
            rcases hw with hw | ⟨k', hw⟩
            · omega
            · rw [psC_j (hw ▸ hl k' (by omega))]; show 0 + a ≤ a; omega
        · unfold wpC at hc
          rcases Nat.eq_zero_or_pos w with e | e
          · rw [if_pos e] at hc; cases hc
          · rw [if_neg (by omega)] at hc
            rcases hw with hw | ⟨k', hw⟩
            · omega
            · rw [List.mem_singleton.mp hc]
              exact okC_j (hw ▸ hl k' (by omega))
        · unfold wpC stW
          rcases Nat.eq_zero_or_pos w with e | e
          · rw [if_pos e, if_pos e]
            exact ⟨u, pu, rfl⟩
          · rw [if_neg (by omega), if_neg (by omega)]
            rcases hw with hw | ⟨k', hw⟩
            · omega
            · have hk : ls k' ≠ 0 := by omega
              subst hw
              exact ⟨_, pl k' v u hk pv pu, evs_j (hl k' hk)⟩
      · rw [if_neg c2]
        have htN : t + 1 ≤ N := by
          by_cases e : t = N
          · subst e; rw [hN] at c2; exact absurd l300 c2
          · omega
        obtain ⟨g1, g2⟩ := H N (t + 1) a hN htN ha
        cases hX : X (t + 1) a with
        | error e =>
          refine ⟨fun x h => (by cases h), fun e' h => ?_⟩
          cases h
          have := g2 e hX
          omega
        | ok y =>
          obtain ⟨y1, y2, y3, y4, y5, y6, y7, y8, y9⟩ := g1 y hX
          obtain ⟨i1, i2⟩ := ih (ls (tkK B t)) y.1 y.2.1 (Or.inr ⟨_, rfl⟩) y2 y4 (by omega) (by omega)
          refine ⟨fun x h => ?_, fun e h => ?_⟩
          · obtain ⟨c', e1, e2⟩ := preC_ok h
            obtain ⟨z1, z2, z3, z4, z5, z6, z7, z8, z9⟩ := i1 _ e1
            simp only at z1 z2 z3 z4 z5 z6 z7 z8 z9
            rw [if_neg c2] at z5
            have wl : (wpC w).length = (if w = 0 then 0 else 1) := by unfold wpC; split <;> rfl
            have wj : w ≠ 0 → jnK w := fun h0 => by
              rcases hw with hw | ⟨k', hw⟩
              · exact absurd hw h0
              · exact hw ▸ hl k' (by omega)
            have wr : ∀ q, rnC (wpC w) (hgW w q) = some (q + 1) := fun q => by
              unfold wpC hgW
              by_cases e : w = 0
              · rw [if_pos e, if_pos e]; rfl
              · rw [if_neg e, if_neg e]; exact rnC_j (wj e)
            have wp : psC (wpC w) = 0 := by
              unfold wpC
              by_cases e : w = 0
              · rw [if_pos e]; rfl
              · rw [if_neg e]; exact psC_j (wj e)
            refine ⟨by omega, z2, by omega, z4, ?_, fun q => ?_, ?_, fun c hc => ?_, fun en u v st pu pv => ?_⟩
            · rw [e2, List.length_append, List.length_append, wl]
              omega
            · rw [e2, rnC_app, rnC_app, wr]
              show (rnC y.2.2 (q + 1)).bind (rnC c') = _
              rw [y6]
              show rnC c' (q + 1 + 1) = _
              have := z6 q
              unfold hgW at this
              rw [if_neg c2] at this
              exact this
            · rw [e2, psC_app, psC_app, wp]
              omega
            · rw [e2] at hc
              rcases List.mem_append.mp hc with hc | hc
              · rcases List.mem_append.mp hc with hc | hc
                · unfold wpC at hc
                  by_cases e : w = 0
                  · rw [if_pos e] at hc; cases hc
                  · rw [if_neg e] at hc
                    rw [List.mem_singleton.mp hc]
                    exact okC_j (wj e)
                · exact y8 c hc
              · exact z8 c hc
            · rw [e2, evs_app, evs_app]
              have h1 : ∃ y, P y ∧ evs en (wpC w) (stW w u v st) = y :: st := by
                unfold wpC stW
                by_cases e : w = 0
                · rw [if_pos e, if_pos e]; exact ⟨u, pu, rfl⟩
                · rw [if_neg e, if_neg e]
                  rcases hw with hw | ⟨k', hw⟩
                  · exact absurd hw e
                  · have hk : ls k' ≠ 0 := by omega
                    subst hw
                    exact ⟨_, pl k' v u hk pv pu, evs_j (hl k' hk)⟩
              obtain ⟨b, b1, b2⟩ := h1
              rw [b2]
              obtain ⟨d, d1, d2⟩ := y9 en (b :: st)
              rw [d2]
              have := z9 en d b st d1 b1
              unfold stW at this
              rw [if_neg c2] at this
              exact this
          · have := i2 e (preC_er h)
            omega
theorem gnP_pg {A : Ab} {B : Bx} {m k : Nat} {P : Int32 → Prop} {X : Nat → Nat → PR} {tg ts : Nat} {ls : Nat → Nat} (H : PG A B m k P X) (h300 : tg ≠ 300) (l300 : ls 300 = 0) (ht : jnK ts) (hl : ∀ k, ls k ≠ 0 → jnK (ls k))
    (pt : ∀ x y, P x → P y → P (jnN ts x y)) (pl : ∀ k x y, ls k ≠ 0 → P x → P y → P (jnN (ls k) x y)) : PG A B m k P (gnP B X tg ts ls) := by
  intro N t a hN htN ha
  obtain ⟨g1, g2⟩ := H N t a hN htN ha
  unfold gnP
  cases hX : X t a with
  | error e =>
    refine ⟨fun x h => (by cases h), fun e' h => ?_⟩
    cases h
    exact g2 e hX
  | ok y =>
    obtain ⟨y1, y2, y3, y4, y5, y6, y7, y8, y9⟩ := g1 y hX
    obtain ⟨i1, i2⟩ := gnL_pg H h300 l300 ht hl pt pl N hN 31 0 y.1 y.2.1 (Or.inl rfl) y2 y4 (by omega) (by omega)
    refine ⟨fun x h => ?_, fun e h => ?_⟩
    · obtain ⟨c', e1, e2⟩ := preC_ok h
      obtain ⟨z1, z2, z3, z4, z5, z6, z7, z8, z9⟩ := i1 _ e1
      simp only at z1 z2 z3 z4 z5 z6 z7 z8 z9
      refine ⟨by omega, z2, by omega, z4, ?_, fun q => ?_, ?_, fun c hc => ?_, fun en st => ?_⟩
      · rw [e2, List.length_append]
        rw [if_pos trivial] at z5
        omega
      · rw [e2, rnC_app, y6]
        exact z6 q
      · rw [e2, psC_app]
        omega
      · rw [e2] at hc
        rcases List.mem_append.mp hc with hc | hc
        · exact y8 c hc
        · exact z8 c hc
      · rw [e2, evs_app]
        obtain ⟨b, b1, b2⟩ := y9 en st
        rw [b2]
        exact z9 en b b st b1 b1
    · have := i2 e (preC_er h)
      omega
