/-! THE CLASS'S CODE -/
def CCd (h : Hp) (D f : Nat) (L : Cd) : Prop := (∀ (i : Nat) (c : Nat × Nat), L[i]? = some c → gI h (D + 2) (f + i) = nI (enC c)) ∧ gI h (D + 2) (f + L.length) = nI 3000 ∧ ∃ cz, gI h D 6 = nI cz ∧ f + L.length < cz ∧ cz ≤ 601
theorem CCd.of {h h' : Hp} {D f : Nat} {L : Cd} (H : CCd h D f L) (s : Sm (fun a => a = D ∨ a = D + 2) h h') : CCd h' D f L := by
  obtain ⟨h1, h2, cz, h3⟩ := H
  refine ⟨fun i c hc => ?_, ?_, cz, ?_⟩
  · rw [s.I (Or.inr rfl)]; exact h1 i c hc
  · rw [s.I (Or.inr rfl)]; exact h2
  · rw [s.I (Or.inl rfl)]; exact h3
theorem CCd.tl {h : Hp} {D f : Nat} {c : Nat × Nat} {L : Cd} (H : CCd h D f (c :: L)) : CCd h D (f + 1) L := by
  obtain ⟨h1, h2, cz, h3⟩ := H
  rw [List.length_cons] at h2 h3
  refine ⟨fun i d hd => ?_, ?_, cz, h3.1, by omega, h3.2.2⟩
  · rw [show f + 1 + i = f + (i + 1) by omega]; exact h1 (i + 1) d (by simpa using hd)
  · rw [show f + 1 + L.length = f + (L.length + 1) by omega]; exact h2
/-- where the model at D has its parts -/
def DQ (h : Hp) (D : Nat) : Prop := gR h D 0 = D + 1 ∧ gR h D 1 = D + 2 ∧ gR h D 2 = D + 3 ∧ gR h D 3 = D + 4 ∧ gR h D 4 = D + 5
theorem DR.q {h : Hp} {D : Nat} (H : DR h D) : DQ h D := ⟨H.1 0 (by omega), H.1 1 (by omega), H.1 2 (by omega), H.1 3 (by omega), H.1 4 (by omega)⟩
theorem cJoin {S : Sh} {h : Hp} {c : Nat × Nat} {x y : Int32} {Q : Int32 → Hp → Prop} (hw : c.1 = 4 ∨ c.1 = 5 ∨ c.1 = 6 ∨ c.1 = 7 ∨ c.1 = 8 ∨ c.1 = 9 ∨ c.1 = 11 ∨ c.1 = 12) (q : Q (jnN c.1 x y) h) : wX3_joined S h (nI (enC c) - 2000) x y Q := by
  unfold wX3_joined
  rcases hw with e | e | e | e | e | e | e | e
  · rw [show nI (enC c) - 2000 = 43 by simp [enC, e]; decide]
    rw [e] at q
    exact br_f (by decide) (br_t rfl q)
  · rw [show nI (enC c) - 2000 = 45 by simp [enC, e]; decide]
    rw [e] at q
    exact br_f (by decide) (br_f (by decide) (br_t rfl q))
  · rw [show nI (enC c) - 2000 = 42 by simp [enC, e]; decide]
    rw [e] at q
    exact br_t rfl q
  · rw [show nI (enC c) - 2000 = 60 by simp [enC, e]; decide]
    rw [e] at q
    refine br_f (by decide) (br_f (by decide) (br_f (by decide) (br_t rfl ?_)))
    by_cases hc : x < y
    · exact br_f (by simpa using hc) (by simpa [jnN, hc] using q)
    · exact br_t (by simpa using hc) (by simpa [jnN, hc] using q)
  · rw [show nI (enC c) - 2000 = 62 by simp [enC, e]; decide]
    rw [e] at q
    refine br_f (by decide) (br_f (by decide) (br_f (by decide) (br_f (by decide) (br_f (by decide) (br_t rfl ?_)))))
    by_cases hc : y < x
    · exact br_f (by simpa using hc) (by simpa [jnN, hc] using q)
    · exact br_t (by simpa using hc) (by simpa [jnN, hc] using q)
  · rw [show nI (enC c) - 2000 = 61 by simp [enC, e]; decide]
    rw [e] at q
    refine br_f (by decide) (br_f (by decide) (br_f (by decide) (br_f (by decide) (br_t rfl ?_))))
    by_cases hc : x = y
    · exact ⟨fun n => absurd hc n, fun _ => by simpa [jnN, hc] using q⟩
    · exact ⟨fun _ => by simpa [jnN, hc] using q, fun n => absurd n hc⟩
  · rw [show nI (enC c) - 2000 = 413 by simp [enC, e]; decide]
    rw [e] at q
    exact br_f (by decide) (br_f (by decide) (br_f (by decide) (br_f (by decide) (br_f (by decide) (br_f (by decide) (br_t rfl q))))))
  · rw [show nI (enC c) - 2000 = 412 by simp [enC, e]; decide]
    rw [e] at q
    exact br_f (by decide) (br_f (by decide) (br_f (by decide) (br_f (by decide) (br_f (by decide) (br_f (by decide) (br_f (by decide) q))))))
theorem cWorth_j {S : Sh} {h : Hp} {D f : Nat} {c : Nat × Nat} {x y : Int32} {st : List Int32} {B : Hp → Int32 → Int32 → Prop} {Q : Int32 → Hp → Prop} (h4 : (S D).1 = 4) (hS : S (D + 4) = (20, 32)) (hR : DQ h D)
    (hw : c.1 = 4 ∨ c.1 = 5 ∨ c.1 = 6 ∨ c.1 = 7 ∨ c.1 = 8 ∨ c.1 = 9 ∨ c.1 = 11 ∨ c.1 = 12) (hk : stk h (D + 4) (y :: x :: st)) (hl : st.length + 2 ≤ 32)
    (nx : B (pI h (D + 4) st.length (jnN c.1 x y)) (nI (st.length + 1)) (nI (f + 1))) : wX3_worth_j125 S B h D (nI (st.length + 2)) (nI f) (nI (enC c)) Q := by
  unfold wX3_worth_j125
  have e1 : nI (st.length + 2) + (-1) = nI (st.length + 1) := pk_m1 (st.length + 1)
  have e2 : nI (st.length + 1) - 1 = nI st.length := nI_pred _
  have t1 : gI h (D + 4) (st.length + 1) = y := hk.top
  have t2 : gI h (D + 4) st.length = x := hk.tail.top
  rw [hR.2.2.2.1, e1, e2, ix_nI (by omega), ix_nI (by omega), t1, t2, nI_1]
  exact br_f (nI_nlt (b := 2) (by omega) (by omega)) ⟨h4, inA_of hS (by omega) (by decide), inA_of hS (by omega) (by decide), cJoin hw nx⟩
theorem enC_lt {c : Nat × Nat} (h3 : c.1 ≤ 3) (h0 : c.1 = 0 → c.2 ≤ 999) (h1 : c.1 = 1 → c.2 < 3) (h2 : c.1 = 2 → c.2 < 3) : enC c < 1010 ∧ (c.1 = 0 → enC c = c.2) ∧ (c.1 = 1 → enC c = 1000 + c.2) ∧ (c.1 = 2 → enC c = 1003 + c.2) ∧ (c.1 = 3 → enC c = 1006) := by
  have : c.1 = 0 ∨ c.1 = 1 ∨ c.1 = 2 ∨ c.1 = 3 := by omega
  rcases this with e | e | e | e <;> simp [enC, e] <;> omega
theorem enC_ge {c : Nat × Nat} (h : 4 ≤ c.1) : 2000 ≤ enC c ∧ enC c < 2500 ∧ (c.1 = 10 → enC c = 2414) ∧ (c.1 ≤ 12 → c.1 ≠ 10 → enC c ≠ 2414) := by
  unfold enC
  rw [if_neg (by omega), if_neg (by omega), if_neg (by omega), if_neg (by omega)]
  repeat' split
  all_goals omega
theorem cWorth_l {S : Sh} {D : Nat} {en : Nat → Int32} {Q : Int32 → Hp → Prop} (hD : S D = (4, 0)) (h2 : S (D + 2) = (20, 601)) (h3 : S (D + 3) = (20, 7)) (h4 : S (D + 4) = (20, 32)) :
    ∀ (L : Cd) (f : Nat) (st : List Int32) (h : Hp), DQ h D → CCd h D f L → (∀ k, k < 7 → gI h (D + 3) k = en k) → (∀ c ∈ L, c.1 ≤ 12 ∧ (c.1 = 0 → c.2 ≤ 999) ∧ (c.1 = 1 → c.2 < 3) ∧ (c.1 = 2 → c.2 < 3)) → rnC L st.length = some 1 → st.length + psC L ≤ 31 → stk h (D + 4) st →
      (∀ h', Sm (fun b => b ≠ D + 4) h h' → Q ((evs en L st).headD 0) h') → wX3_worth_4 S D Q (L.length + 1) h (nI st.length) (nI f) := by
  intro L
  induction L with
  | nil =>
    intro f st h hR hc he _ hn _ hk q
    have hl : st.length = 1 := by simpa [rnC] using hn
    match st, hl, hk, q with
    | [x], _, hk, q =>
      obtain ⟨-, c2, cz, c3, c4, c5⟩ := hc
      simp only [List.length_nil, Nat.add_zero] at c2 c4
      show wX3_worth_4b S D Q _ h _ (nI f)
      unfold wX3_worth_4b
      rw [hR.2.1, hR.2.2.2.1, c3, ix_nI (by omega), c2]
      refine br_f (nI_pos (by omega)) ⟨by rw [hD], br_f (nI_ge (by omega) (by omega)) ⟨inA_of h2 (by omega) (by decide), br_t rfl ⟨inA_of (i := 0) h4 (by omega) (by decide), ?_⟩⟩⟩
      have : gI h (D + 4) 0 = x := hk.top
      show Q (gI h (D + 4) 0) h
      rw [this]
      exact q h Sm.rf
  | cons c cs ih =>
    intro f st h hR hc he hok hn hp hk q
    have hc' := hc.tl
    obtain ⟨c1, c2, cz, c3, c4, c5⟩ := hc
    have c0 : gI h (D + 2) f = nI (enC c) := c1 0 c rfl
    rw [List.length_cons] at c4
    obtain ⟨o1, o2, o3, o4⟩ := hok c List.mem_cons_self
    have step : ∀ (h1 : Hp) (st1 : List Int32), ev1 en c st = st1 → Sm (fun b => b ≠ D + 4) h h1 → stk h1 (D + 4) st1 → wX3_worth_4 S D Q (cs.length + 1) h1 (nI st1.length) (nI (f + 1)) := by
      intro h1 st1 e1 s1 k1
      subst e1
      refine ih (f + 1) _ h1 ?_ (hc'.of (s1.mono fun b hb => by omega)) (fun k hk => by rw [s1.I (by omega)]; exact he k hk) (fun d hd => hok d (List.mem_cons_of_mem _ hd)) (ev1_len hn) ?_ k1 (fun h2 s2 => q h2 (s1.tr s2))
      · unfold DQ at hR ⊢
        simp only [s1.R (a := D) (by omega)]
        exact hR
      simp only [psC] at hp
      unfold ev1
      by_cases h3 : c.1 ≤ 3
      · rw [if_pos h3] at hp
        have : c.1 = 0 ∨ c.1 = 1 ∨ c.1 = 2 ∨ c.1 = 3 := by omega
        rcases this with e | e | e | e <;> simp [e] <;> omega
      · rw [if_neg h3] at hp
        rw [if_neg (by omega), if_neg (by omega), if_neg (by omega), if_neg (by omega)]
        split
        · cases st <;> simp at hp ⊢ <;> omega
        · match st with
          | [] => simp; omega
          | [_] => simp at hp ⊢; omega
          | _ :: _ :: _ => simp at hp ⊢; omega
    have hsl : st.length ≤ 31 := by omega
    show wX3_worth_4b S D Q (wX3_worth_4 S D Q (cs.length + 1)) h (nI st.length) (nI f)
    unfold wX3_worth_4b
    rw [hR.2.1, hR.2.2.1, hR.2.2.2.1, c3, ix_nI (by omega), c0]
    by_cases h3' : c.1 ≤ 3
    · have hlt : st.length + 1 ≤ 31 := by simp only [psC, if_pos h3'] at hp; omega
      have en1 := enC_lt h3' o2 o3 o4
      have n3000 : ¬ nI (enC c) = 3000 := by
        rw [show (3000 : Int32) = nI 3000 from rfl, nI_eq (by omega) (by omega)]; omega
      have push : ∀ (x : Int32), ev1 en c st = x :: st → wX3_worth_j84 S (wX3_worth_4 S D Q (cs.length + 1)) h D (nI st.length) (nI f) (D + 4) (nI st.length) x Q := by
        intro x hx
        unfold wX3_worth_j84
        rw [ix_nI (by omega), nI_1, nI_1]
        exact ⟨inA_of h4 (by omega) (by decide), step _ (x :: st) hx (Sm.rf.pI (by simp) _ _) (hk.push x)⟩
      refine br_f (nI_pos (by omega)) ⟨by rw [hD], br_f (nI_ge (by omega) (by omega)) ⟨inA_of h2 (by omega) (by decide), br_f n3000 (nm_e (br_f ?_ ⟨by rw [h4], br_t ?_ ?_⟩))⟩⟩
      · exact nI_ge (b := 2000) (by omega) (by omega)
      · rw [h4]; exact nI_lt (by omega) (by decide)
      · have : c.1 = 0 ∨ c.1 = 1 ∨ c.1 = 2 ∨ c.1 = 3 := by omega
        rcases this with e | e | e | e
        · have e2 := en1.2.1 e
          rw [e2]
          exact br_f (nI_ge (b := 1000) (by have := o2 e; omega) (by omega)) (push _ (by simp [ev1, e]))
        · have e2 := en1.2.2.1 e
          have e3 := o3 e
          rw [e2, show nI (1000 + c.2) - 1000 = nI c.2 from by rw [show (1000 : Int32) = nI 1000 from rfl, n_sub (by omega), Nat.add_sub_cancel_left], ix_nI (by omega), he _ (by omega)]
          exact br_t (nI_le (a := 1000) (by omega) (by omega)) ⟨inA_of h3 (by omega) (by decide), push _ (by simp [ev1, e])⟩
        · have e2 := en1.2.2.2.1 e
          have e3 := o4 e
          rw [e2, show nI (1003 + c.2) - 1000 = nI (3 + c.2) from by rw [show (1000 : Int32) = nI 1000 from rfl, show 1003 + c.2 = 3 + c.2 + 1000 by omega, n_sub (by omega), Nat.add_sub_cancel], ix_nI (by omega), he _ (by omega)]
          exact br_t (nI_le (a := 1000) (by omega) (by omega)) ⟨inA_of h3 (by omega) (by decide), push _ (by simp [ev1, e])⟩
        · have e2 := en1.2.2.2.2 e
          rw [e2, show nI 1006 - 1000 = nI 6 from rfl, ix_nI (by omega), he _ (by omega)]
          exact br_t (nI_le (a := 1000) (by omega) (by omega)) ⟨inA_of h3 (by omega) (by decide), push _ (by simp [ev1, e])⟩
    · have en1 := enC_ge (c := c) (by omega)
      have n3000 : ¬ nI (enC c) = 3000 := by
        rw [show (3000 : Int32) = nI 3000 from rfl, nI_eq (by omega) (by omega)]; omega
      refine br_f (nI_pos (by omega)) ⟨by rw [hD], br_f (nI_ge (by omega) (by omega)) ⟨inA_of h2 (by omega) (by decide), br_f n3000 (nm_e (br_t (nI_le (a := 2000) (by omega) (by omega)) ?_))⟩⟩
      by_cases h10 : c.1 = 10
      · have hn1 : 1 ≤ st.length := by
          simp only [rnC, h10] at hn
          by_cases hq : 1 ≤ st.length
          · exact hq
          · simp [hq] at hn
        match st, hn1, hk, step, hsl with
        | x :: st, _, hk, step, hsl =>
          rw [List.length_cons] at hsl ⊢
          have e2 : nI (st.length + 1) - 1 = nI st.length := nI_pred _
          have t1 : gI h (D + 4) st.length = x := hk.top
          rw [en1.2.2.1 h10, e2, ix_nI (by omega), t1, nI_1 f]
          refine ⟨fun n => absurd rfl n, fun _ => br_f (nI_nlt (b := 1) (by omega) (by omega)) ⟨inA_of h4 (by omega) (by decide), ?_⟩⟩
          exact step _ ((1 - x) :: st) (by simp [ev1, h10]) (Sm.rf.pI (by simp) _ _) (hk.tail.push _)
      · have hn2 : 2 ≤ st.length := by
          simp only [rnC] at hn
          rw [if_neg (by omega), if_neg (by omega)] at hn
          by_cases hq : 2 ≤ st.length
          · exact hq
          · simp [hq] at hn
        match st, hn2, hk, step, hsl with
        | y :: x :: st, _, hk, step, hsl =>
          have hev : ev1 en c (y :: x :: st) = jnN c.1 x y :: st := by
            unfold ev1
            rw [if_neg (by omega), if_neg (by omega), if_neg (by omega), if_neg (by omega), if_neg (by omega)]
          rw [List.length_cons, List.length_cons] at hsl ⊢
          refine ⟨fun _ => cWorth_j (B := wX3_worth_4 S D Q (cs.length + 1)) (by rw [hD]) h4 hR (by omega) hk (by omega) (step _ (jnN c.1 x y :: st) hev (Sm.rf.pI (by simp) _ _) (hk.tail.tail.push _)), fun n => absurd n ?_⟩
          rw [show (2414 : Int32) = nI 2414 from rfl, nI_eq (by omega) (by omega)]
          exact en1.2.2.2 o1 h10
/-- worth -/
theorem cWorth {S : Sh} {h : Hp} {A : Ab} {D f m k : Nat} {en : Nat → Int32} {L : Cd} {Q : Int32 → Hp → Prop} (hS : DS S D) (hR : DQ h D) (hc : CCd h D f L) (he : ∀ k, k < 7 → gI h (D + 3) k = en k) (w : wfM A m) (w' : 0 < m → wfM A (m - 1)) (hw : wfC A m k L)
    (q : ∀ h', Sm (fun b => b ≠ D + 4) h h' → Q (evl en L) h') : wX3_worth S h D (nI f) Q := by
  refine ⟨_, cWorth_l hS.1 hS.2.2.1 hS.2.2.2.1 hS.2.2.2.2.1 L f [] h hR hc he (fun c hcc => ?_) hw.1 (by have := hw.2.1; simp; omega) (fun j x hj => by simp at hj) q⟩
  obtain ⟨o1, o2, o3, o4, o5⟩ := hw.2.2.2 c hcc
  refine ⟨o1, o2, fun e => ?_, fun e => ?_⟩
  · have := w.v3
    have := o3 e
    omega
  · obtain ⟨-, h0, h1⟩ := o4 e
    have := (w' h0).v3
    omega
/-- a code looks only at the places that it may -/
theorem ev1_eq {e1 e2 : Nat → Int32} {c : Nat × Nat} {st : List Int32} (h1 : c.1 = 1 → e1 c.2 = e2 c.2) (h2 : c.1 = 2 → e1 (3 + c.2) = e2 (3 + c.2)) (h3 : c.1 = 3 → e1 6 = e2 6) : ev1 e1 c st = ev1 e2 c st := by
  unfold ev1
  by_cases a0 : c.1 = 0
  · simp [a0]
  · by_cases a1 : c.1 = 1
    · simp [a1, h1 a1]
    · by_cases a2 : c.1 = 2
      · simp [a2, h2 a2]
      · by_cases a3 : c.1 = 3
        · simp [a3, h3 a3]
        · simp [a0, a1, a2, a3]
theorem evs_eq {e1 e2 : Nat → Int32} : ∀ (L : Cd) (st : List Int32), (∀ c ∈ L, (c.1 = 1 → e1 c.2 = e2 c.2) ∧ (c.1 = 2 → e1 (3 + c.2) = e2 (3 + c.2)) ∧ (c.1 = 3 → e1 6 = e2 6)) → evs e1 L st = evs e2 L st
  | [], _, _ => rfl
  | c :: cs, st, h => by
    have h0 := h c List.mem_cons_self
    show evs e1 cs (ev1 e1 c st) = evs e2 cs (ev1 e2 c st)
    rw [ev1_eq h0.1 h0.2.1 h0.2.2]
    exact evs_eq cs _ (fun d hd => h d (List.mem_cons_of_mem _ hd))
theorem evl_eq {A : Ab} {m k : Nat} {e1 e2 : Nat → Int32} {L : Cd} (hw : wfC A m k L) (h1 : ∀ v, v < aVm A m → e1 v = e2 v) (h2 : k = 0 → 0 < m → ∀ v, v < aVm A (m - 1) → e1 (3 + v) = e2 (3 + v)) (h3 : k = 1 → e1 6 = e2 6) : evl e1 L = evl e2 L := by
  unfold evl
  rw [evs_eq L [] (fun c hc => ?_)]
  obtain ⟨o1, o2, o3, o4, o5⟩ := hw.2.2.2 c hc
  exact ⟨fun e => h1 _ (o3 e), fun e => h2 (o4 e).1 (o4 e).2.1 _ (o4 e).2.2, fun e => h3 (o5 e)⟩
