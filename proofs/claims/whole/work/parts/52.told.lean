theorem RCd.tl {h h' : Hp} {r f : Nat} {c : Nat × Nat} {L : Cd} (H : RCd h r f (c :: L)) (s : Sm (fun a => a ≠ r + 27) h h') : RCd h' r (f + 1) L := by
  refine ⟨by have := H.1; rw [List.length_cons] at this; omega, fun i d hd => ?_⟩
  rw [s.I (by omega), s.I (by omega), show f + 1 + i = f + (i + 1) by omega]
  exact H.2 (i + 1) d (by simpa using hd)
theorem RCd.hd {h : Hp} {r f : Nat} {c : Nat × Nat} {L : Cd} (H : RCd h r f (c :: L)) : gI h (r + 25) f = nI c.1 ∧ gI h (r + 26) f = nI c.2 ∧ f < 700 :=
  ⟨(H.2 0 c rfl).1, (H.2 0 c rfl).2, by have := H.1; rw [List.length_cons] at this; omega⟩
theorem rTold_j {S : Sh} {h : Hp} {r f w : Nat} {x y : Int32} {st : List Int32} {B : Hp → Int32 → Int32 → Prop} {x1 x3 x4 x5 x6 : Int32} {Q : Int32 → Hp → Prop} (hS : RS S r) (hR : RR h r)
    (hw : w = 4 ∨ w = 5 ∨ w = 6 ∨ w = 7 ∨ w = 8 ∨ w = 9 ∨ w = 11 ∨ w = 12) (he : gI h (r + 25) f = nI w) (hf : f < 700) (hk : stk h (r + 27) (y :: x :: st)) (hl : st.length + 2 ≤ 700)
    (nx : B (pI h (r + 27) st.length (jnN w x y)) (nI (st.length + 1)) (nI (f + 1))) : wX12_told_j187 S B h r x1 x3 x4 x5 x6 (nI (st.length + 2)) (nI f) Q := by
  unfold wX12_told_j187
  have e1 : nI (st.length + 2) + (-1) = nI (st.length + 1) := pk_m1 (st.length + 1)
  have e2 : nI (st.length + 1) - 1 = nI st.length := nI_pred _
  rw [hR.pile, hR.what, e1, e2, ix_nI (by omega), ix_nI (by omega), ix_nI (by omega), he, nI_1]
  have t1 : gI h (r + 27) (st.length + 1) = y := hk.top
  have t2 : gI h (r + 27) st.length = x := hk.tail.top
  rw [t1, t2]
  exact ⟨hS.1, hS.what (by omega), hS.pile (by omega), hS.pile (by omega), rJoin hw nx⟩
theorem rTold_l {S : Sh} {r m a s t k : Nat} {p : Int32} {A : Ab} {Q : Int32 → Hp → Prop} (hS : RS S r) (w : wfM A m) (w' : 0 < m → wfM A (m - 1)) (hm : m < 3) (hs : s < 100) (ha : a < 100) (ht : t ≤ 700) :
    ∀ (L : Cd) (f : Nat) (st : List Int32) (h : Hp), RR h r → RfM A h r m → (0 < m → RfM A h r (m - 1)) → RCd h r f L → f + L.length = t → (∀ c ∈ L, okC A m k c) → rnC L st.length = some 1 → st.length + psC L ≤ 700 → stk h (r + 27) st →
      (∀ h', Sm (fun b => b ≠ r + 27) h h' → Q ((evs (aEn A m a s p) L st).headD 0) h') → wX12_told_6 S r (nI m) (nI t) (nI a) (nI s) p Q (L.length + 1) h (nI st.length) (nI f) := by
  intro L
  induction L with
  | nil =>
    intro f st h hR hM hM' hc hf _ hn _ hk q
    have hl : st.length = 1 := by simpa [rnC] using hn
    match st, hl, hk, q with
    | [x], _, hk, q =>
      refine br_t (nI_le (by simp at hf; omega) (by omega)) ⟨hS.1, ?_⟩
      rw [hR.pile]
      refine ⟨hS.pile (i := 0) (by omega), ?_⟩
      have : gI h (r + 27) 0 = x := hk.top
      show Q (gI h (r + 27) 0) h
      rw [this]
      exact q h Sm.rf
  | cons c cs ih =>
    intro f st h hR hM hM' hc hf hok hn hp hk q
    obtain ⟨c1, c2, c3⟩ := hc.hd
    have hf' : f + 1 + cs.length = t := by rw [← hf, List.length_cons]; omega
    obtain ⟨o1, o2, o3, o4, o5⟩ := hok c List.mem_cons_self
    have step : ∀ (h1 : Hp) (st1 : List Int32), ev1 (aEn A m a s p) c st = st1 → Sm (fun b => b ≠ r + 27) h h1 → stk h1 (r + 27) st1 → wX12_told_6 S r (nI m) (nI t) (nI a) (nI s) p Q (cs.length + 1) h1 (nI st1.length) (nI (f + 1)) := by
      intro h1 st1 e1 s1 k1
      subst e1
      refine ih (f + 1) _ h1 (hR.of fun j => s1.R (by omega) j) (hM.of (s1.mono fun b hb => by omega)) (fun h0 => (hM' h0).of (s1.mono fun b hb => by omega)) (hc.tl s1) hf' (fun d hd => hok d (List.mem_cons_of_mem _ hd)) (ev1_len hn) ?_ k1 (fun h2 s2 => q h2 (s1.tr s2))
      simp only [psC] at hp
      unfold ev1
      by_cases h3 : c.1 ≤ 3
      · rw [if_pos h3] at hp
        have : c.1 = 0 ∨ c.1 = 1 ∨ c.1 = 2 ∨ c.1 = 3 := by omega
        rcases this with e | e | e | e <;> simp [e] <;> omega
      · rw [if_neg h3] at hp
        rw [if_neg (by omega), if_neg (by omega), if_neg (by omega), if_neg (by omega)]
        split
        · cases st <;> simp at hp ⊢ <;> omega
        · match st with
          | [] => simp; omega
          | [_] => simp at hp ⊢; omega
          | _ :: _ :: _ => simp at hp ⊢; omega
    have hlt : st.length + 1 ≤ 700 ∨ 3 < c.1 := by
      by_cases h3 : c.1 ≤ 3
      · simp only [psC, if_pos h3] at hp
        omega
      · omega
    have push : ∀ (x : Int32), ev1 (aEn A m a s p) c st = x :: st → wX12_told_6 S r (nI m) (nI t) (nI a) (nI s) p Q (cs.length + 1) (pI h (r + 27) st.length x) (nI st.length + 1) (nI f + 1) := by
      intro x hx
      rw [nI_1, nI_1]
      exact step _ (x :: st) hx (Sm.rf.pI (by simp) _ _) (hk.push x)
    have hsl : st.length ≤ 700 := by omega
    show wX12_told_6b S r (nI m) (nI t) (nI a) (nI s) p Q (wX12_told_6 S r (nI m) (nI t) (nI a) (nI s) p Q (cs.length + 1)) h (nI st.length) (nI f)
    unfold wX12_told_6b
    refine br_f (nI_ge (by rw [← hf, List.length_cons]; omega) (by omega)) ⟨hS.1, ?_⟩
    rw [hR.which, hR.what, hR.pile, ix_nI (by omega), ix_nI (by omega), c1, c2]
    refine ⟨hS.which (by omega), nm_e ⟨hS.what (by omega), ?_⟩⟩
    have hw : c.1 = 0 ∨ c.1 = 1 ∨ c.1 = 2 ∨ c.1 = 3 ∨ c.1 = 10 ∨ (c.1 = 4 ∨ c.1 = 5 ∨ c.1 = 6 ∨ c.1 = 7 ∨ c.1 = 8 ∨ c.1 = 9 ∨ c.1 = 11 ∨ c.1 = 12) := by omega
    rcases hw with e | e | e | e | e | e
    · rw [e]
      exact br_t rfl ⟨hS.pile (by omega), push _ (by simp [ev1, e])⟩
    · rw [e]
      refine br_f (by decide) (br_t rfl ?_)
      have := o3 e
      refine rVal hS hR hM w hm hs this ⟨hS.pile (by omega), push _ ?_⟩
      have w1 := w.2.1
      unfold ev1
      rw [if_neg (by omega), if_pos e]
      unfold aEn
      rw [if_pos (by omega)]
    · rw [e]
      refine br_f (by decide) (br_f (by decide) (br_t rfl ?_))
      obtain ⟨-, h0, h1⟩ := o4 e
      have w1 := (w' h0).2.1
      have e9 : nI m - 1 = nI (m - 1) := n_sub (b := 1) h0
      rw [e9]
      refine rVal hS hR (hM' h0) (w' h0) (by omega) ha h1 ⟨hS.pile (by omega), push _ ?_⟩
      unfold ev1
      rw [if_neg (by omega), if_neg (by omega), if_pos e]
      unfold aEn
      rw [if_neg (by omega), if_pos (by omega), Nat.add_sub_cancel_left]
    · rw [e]
      exact br_f (by decide) (br_f (by decide) (br_f (by decide) (br_t rfl ⟨hS.pile (by omega), push _ (by simp [ev1, e, aEn])⟩)))
    · have hn1 : 1 ≤ st.length := by
        simp only [rnC, e] at hn
        by_cases hq : 1 ≤ st.length
        · exact hq
        · simp [hq] at hn
      match st, hn1, hk, step, push, hsl with
      | x :: st, _, hk, step, push, hsl =>
        rw [List.length_cons] at hsl ⊢
        have e2 : nI (st.length + 1) - 1 = nI st.length := nI_pred _
        have t1 : gI h (r + 27) st.length = x := hk.top
        rw [e, e2, ix_nI (by omega), t1, nI_1 f]
        refine br_f (by decide) (br_f (by decide) (br_f (by decide) (br_f (by decide) (br_f (by decide) (br_f (by decide) (br_f (by decide) (br_f (by decide) (br_f (by decide) (br_f (by decide) (br_t rfl ⟨hS.pile (by omega), ?_⟩))))))))))
        exact step _ ((1 - x) :: st) (by simp [ev1, e]) (Sm.rf.pI (by simp) _ _) (hk.tail.push _)
    · have hn2 : 2 ≤ st.length := by
        simp only [rnC] at hn
        rw [if_neg (by omega), if_neg (by omega)] at hn
        by_cases hq : 2 ≤ st.length
        · exact hq
        · simp [hq] at hn
      match st, hn2, hk, step, push, hsl with
      | y :: x :: st, _, hk, step, push, hsl =>
        have hev : ev1 (aEn A m a s p) c (y :: x :: st) = jnN c.1 x y :: st := by
          unfold ev1
          rw [if_neg (by omega), if_neg (by omega), if_neg (by omega), if_neg (by omega), if_neg (by omega)]
        have hj := fun x1 x3 x4 x5 x6 => rTold_j (B := wX12_told_6 S r (nI m) (nI t) (nI a) (nI s) p Q (cs.length + 1)) (x1 := x1) (x3 := x3) (x4 := x4) (x5 := x5) (x6 := x6) (Q := Q) hS hR e c1 c3 hk (by simp at hsl; omega) (step _ (jnN c.1 x y :: st) hev (Sm.rf.pI (by simp) _ _) (hk.tail.tail.push _))
        rw [List.length_cons, List.length_cons]
        rcases e with e | e | e | e | e | e | e | e <;> rw [e]
        · exact br_f (by decide) (br_f (by decide) (br_f (by decide) (br_f (by decide) (br_t rfl (hj _ _ _ _ _)))))
        · exact br_f (by decide) (br_f (by decide) (br_f (by decide) (br_f (by decide) (br_f (by decide) (br_t rfl (hj _ _ _ _ _))))))
        · exact br_f (by decide) (br_f (by decide) (br_f (by decide) (br_f (by decide) (br_f (by decide) (br_f (by decide) (br_t rfl (hj _ _ _ _ _)))))))
        · exact br_f (by decide) (br_f (by decide) (br_f (by decide) (br_f (by decide) (br_f (by decide) (br_f (by decide) (br_f (by decide) (br_t rfl (hj _ _ _ _ _))))))))
        · exact br_f (by decide) (br_f (by decide) (br_f (by decide) (br_f (by decide) (br_f (by decide) (br_f (by decide) (br_f (by decide) (br_f (by decide) (br_t rfl (hj _ _ _ _ _)))))))))
        · exact br_f (by decide) (br_f (by decide) (br_f (by decide) (br_f (by decide) (br_f (by decide) (br_f (by decide) (br_f (by decide) (br_f (by decide) (br_f (by decide) (br_t rfl (hj _ _ _ _ _))))))))))
        · exact br_f (by decide) (br_f (by decide) (br_f (by decide) (br_f (by decide) (br_f (by decide) (br_f (by decide) (br_f (by decide) (br_f (by decide) (br_f (by decide) (br_f (by decide) (br_f (by decide) (hj _ _ _ _ _)))))))))))
        · exact br_f (by decide) (br_f (by decide) (br_f (by decide) (br_f (by decide) (br_f (by decide) (br_f (by decide) (br_f (by decide) (br_f (by decide) (br_f (by decide) (br_f (by decide) (br_f (by decide) (hj _ _ _ _ _)))))))))))
/-- told -/
theorem rTold {S : Sh} {h : Hp} {r m a s f k : Nat} {p : Int32} {A : Ab} {L : Cd} {Q : Int32 → Hp → Prop} (hS : RS S r) (hR : RR h r) (w : wfM A m) (w' : 0 < m → wfM A (m - 1)) (hM : RfM A h r m) (hM' : 0 < m → RfM A h r (m - 1)) (hm : m < 3) (hs : s < 100) (ha : a < 100)
    (hc : RCd h r f L) (hw : wfC A m k L) (q : ∀ h', Sm (fun b => b ≠ r + 27) h h' → Q (evl (aEn A m a s p) L) h') : wX12_told S h r (nI m) (nI f) (nI (f + L.length)) (nI a) (nI s) p Q :=
  ⟨_, rTold_l hS w w' hm hs ha hc.1 L f [] h hR hM hM' hc rfl hw.2.2.2 hw.1 (by have := hw.2.1; simp; omega) (fun j x hj => by simp at hj) q⟩
