theorem isCh_ex {A : Ab} {m s : Nat} : ∀ (n k : Nat), n ≤ aEm A m → k < chN A m s n → ∃ c, isCh A m s k c
  | 0, k, _, h => absurd h (by show ¬ k < 0; omega)
  | n + 1, k, hn, h => by
    by_cases h1 : k < chN A m s n
    · exact isCh_ex n k (by omega) h1
    · have : ∀ i, i ≤ 10 → k < chN A m s n + cntF (sF A m n s) i → ∃ c, isCh A m s k c := by
        intro i
        induction i with
        | zero => intro _ h2; exact absurd h2 (by show ¬ k < chN A m s n + 0; omega)
        | succ i ih =>
          intro hi h2
          cases hc : sF A m n s i
          · rw [cntF_n _ hc] at h2
            exact ih (by omega) h2
          · rw [cntF_s _ hc] at h2
            by_cases h3 : k < chN A m s n + cntF (sF A m n s) i
            · exact ih (by omega) h3
            · exact ⟨(n, i), by show n < aEm A m; omega, by show i < 10; omega, hc, by show chN A m s n + cntF (sF A m n s) i = k; omega⟩
      exact this 10 (Nat.le_refl _) h
/-- wander -/
theorem cWan {A : Ab} {S : Sh} {h0 : Hp} {w D m N : Nat} {Q : Int32 → Hp → Prop} (hN : N < 100) :
    ∀ (j i X s : Nat) (n : Int32) (B : Nat → Bool) (h : Hp), i + j = N → X < 2147483648 → WkS S h w D → Md A S h D m → s < aSz A m → RunC h w m s n B → Cf w h0 h → (∀ k, gR h w k = gR h0 w k) →
      (∀ h', Cf w h0 h' → (∀ k, gR h' w k = gR h0 w k) → (wkW A m j X s B).2.1 < aSz A m → RunC h' w m (wkW A m j X s B).2.1 (n + nI (wkW A m j X s B).1) (wkW A m j X s B).2.2 → Q (nI (i + (wkW A m j X s B).1)) h') →
      wX10_wander_7 S w D (nI N) Q (j + 1) h (lN X) (nI i)
  | 0, i, X, s, n, B, h, hj, hX, hW, M, hs, R, s0, r0, q => by
    refine br_t (nI_le (by omega) (by omega)) ?_
    have := q h s0 r0 hs (by rw [show n + nI (wkW A m 0 X s B).1 = n from Int32.add_zero n]; exact R)
    rw [show i + (wkW A m 0 X s B).1 = N from hj] at this
    exact this
  | j + 1, i, X, s, n, B, h, hj, hX, hW, M, hs, R, s0, r0, q => by
    have C := M.2.2.2.2.2.1
    have m3 := M.2.2.2.2.1
    have hT := chN_le A m s (aEm A m)
    have w4 := C.2.2.2.e4
    have hT' : chT A m s < 2 ^ 31 := by unfold chT; omega
    show wX10_wander_7b S w D (nI N) Q (wX10_wander_7 S w D (nI N) Q (j + 1)) h (lN X) (nI i)
    unfold wX10_wander_7b
    rw [R.1, M.2.2.1, ix_nI (by omega), M.2.2.2.1 m m3, nI_1]
    refine br_f (nI_ge (by omega) (by omega)) ⟨by rw [M.1], by rw [hW.1], inA_of M.2.1 (by omega) (by decide), cCh hW C R hs ?_⟩
    by_cases h0 : chT A m s = 0
    · refine br_f (by rw [h0]; decide) ?_
      rw [wkW_0 h0] at q
      exact q h s0 r0 hs (by rw [show n + nI 0 = n from Int32.add_zero n]; exact R)
    · refine br_t (nI_lt (a := 0) (by omega) hT') ⟨by decide, ?_⟩
      refine nm_r (lot_x hX) ⟨by decide, ?_, ?_⟩
      · rw [nI_l hT']
        exact fun e => h0 ((pk_lEQ (b := 0) (by omega) (by decide)).mp e)
      have hY : (1103515245 * X + 12345) % 2147483648 < 2147483648 := Nat.mod_lt _ (by decide)
      rw [lot_k hY (by omega) hT']
      refine cTake hW M R hs (Nat.mod_lt _ (by omega)) fun c t h1 g1 g2 g3 g4 g5 g6 => ?_
      have e1 := wkW_s (j := j) (B := B) h0 g1 g3
      have hC : (w + 2 < D ∨ D + 441 ≤ w) := hW.2.2.2.2.2
      refine cWan hN j (i + 1) _ t (n + 1) (wkB A m c.1 t B) h1 (by omega) hY ⟨hW.1, hW.2.1, hW.2.2.1, by rw [g5]; exact hW.2.2.2.1, by rw [g5]; exact hW.2.2.2.2.1, hC⟩ (M.of (g4.mono fun b hb => by omega)) g2 g6 (s0.tr g4) (fun k => (g5 k).trans (r0 k)) (fun h' s' r' k' R' => ?_)
      rw [e1] at q
      have := q h' s' r' k' (by rw [← nI_1, Int32.add_comm (nI _) 1, ← Int32.add_assoc]; exact R')
      rw [← Nat.add_assoc, Nat.add_right_comm i _ 1] at this
      exact this
/-- what draws changes of the reference -/
def Df (r : Nat) (h h' : Hp) : Prop := Sm (fun b => b ≠ r ∧ b ≠ r + 27 ∧ b ≠ r + 31 ∧ b ≠ r + 32) h h' ∧ (∀ k, gR h' r k = gR h r k) ∧ (∀ k, k ≠ 61 → gJ h' r k = gJ h r k) ∧ ∀ k, k ≠ 57 → k ≠ 58 → gI h' r k = gI h r k
theorem Df.tr {r : Nat} {h1 h2 h3 : Hp} (a : Df r h1 h2) (b : Df r h2 h3) : Df r h1 h3 := ⟨a.1.tr b.1, fun k => (b.2.1 k).trans (a.2.1 k), fun k p => (b.2.2.1 k p).trans (a.2.2.1 k p), fun k p q => (b.2.2.2 k p q).trans (a.2.2.2 k p q)⟩
theorem Mf.df {r : Nat} {h h' : Hp} (a : Mf r h h') : Df r h h' := ⟨a.1, a.2.1, fun k _ => a.2.2.1 k, a.2.2.2⟩
theorem Rf.df {A : Ab} {S : Sh} {h h' : Hp} {r : Nat} (H : Rf A S h r) (s : Df r h h') : Rf A S h' r := H.of (s.1.mono fun a ha => by omega) (s.2.2.2 37 (by omega) (by omega)) s.2.1
theorem nI_neg {k : Nat} (h : k < 2 ^ 31) : (-1 : Int32) ≠ nI k := fun e => by
  have := nI_pos h
  rw [← e] at this
  exact this (by decide)
theorem rDrw {A : Ab} {S : Sh} {h0 : Hp} {r m N : Nat} {Q : Int32 → Hp → Prop} (hN : N < 100) (hm : m < aMM A) :
    ∀ (j i X s : Nat) (n : Int32) (B : Nat → Bool) (h : Hp), i + j = N → X < 2147483648 → Rf A S h r → s < aSz A m → RunR h r m s n B → gJ h r 61 = lN X → Df r h0 h →
      (∀ h', Df r h0 h' → Rf A S h' r → (wkW A m j X s B).2.1 < aSz A m → RunR h' r m (wkW A m j X s B).2.1 (n + nI (wkW A m j X s B).1) (wkW A m j X s B).2.2 → wX12_good S h' r (nI (i + (wkW A m j X s B).1)) Q) →
      wX12_draws_54 S r (nI N) Q (j + 1) h (nI i) (nI (chT A m s))
  | 0, i, X, s, n, B, h, hj, hX, H, hs, R, hx, s0, q => by
    refine br_t (nI_le (by omega) (by omega)) ⟨H.1.1, ?_⟩
    exact q h s0 H hs (by rw [show n + nI (wkW A m 0 X s B).1 = n from Int32.add_zero n]; exact R)
  | j + 1, i, X, s, n, B, h, hj, hX, H, hs, R, hx, s0, q => by
    have w := H.w hm
    have hT := chN_le A m s (aEm A m)
    have w4 := w.e4
    have hT' : chT A m s < 2 ^ 31 := by unfold chT; omega
    show wX12_draws_54b S r (nI N) Q (wX12_draws_54 S r (nI N) Q (j + 1)) h (nI i) (nI (chT A m s))
    unfold wX12_draws_54b
    refine br_f (nI_ge (by omega) (by omega)) ?_
    by_cases hz : chT A m s = 0
    · refine br_t (by rw [hz]; decide) ⟨H.1.1, ?_⟩
      rw [wkW_0 hz] at q
      exact q h s0 H hs (by rw [show n + nI 0 = n from Int32.add_zero n]; exact R)
    · refine br_f (nI_nle (by omega) hT') ⟨H.1.1, H.1.1, by decide, ?_⟩
      have hY : (1103515245 * X + 12345) % 2147483648 < 2147483648 := Nat.mod_lt _ (by decide)
      refine nm_r (e' := pJ h r 61 (lN ((1103515245 * X + 12345) % 2147483648))) (by rw [hx, lot_x hX]) ⟨by decide, ?_, ?_⟩
      · rw [nI_l hT']
        exact fun e => hz ((pk_lEQ (b := 0) (by omega) (by decide)).mp e)
      rw [gJ_pJ, if_pos ⟨rfl, rfl⟩, lot_k hY (by omega) hT']
      generalize eh : pJ h r 61 (lN ((1103515245 * X + 12345) % 2147483648)) = h1
      have d1 : Df r h h1 := by
        rw [← eh]
        exact ⟨Sm.rf.pJ (by simp) _ _, fun _ => rfl, fun k hk => by rw [gJ_pJ, if_neg (by omega)], fun _ _ _ => rfl⟩
      have H1 := H.df d1
      have R1 : RunR h1 r m s n B := by
        rw [← eh]
        exact R
      have x1 : gJ h1 r 61 = lN ((1103515245 * X + 12345) % 2147483648) := by
        rw [← eh, gJ_pJ, if_pos ⟨rfl, rfl⟩]
      have hkT : (1103515245 * X + 12345) % 2147483648 / 65536 % chT A m s < chT A m s := Nat.mod_lt _ (by omega)
      refine rWays H1 hm hs R1 (fun hno => absurd rfl (hno _ hkT)) fun k c t h2 g1 g2 g3 g4 g5 g6 => ?_
      have g7 := g2.lt
      rw [nI_eq (by omega) (by omega)] at g1
      subst g1
      have H2 := H1.mf g5
      have x2 : gJ h2 r 61 = lN ((1103515245 * X + 12345) % 2147483648) := (g5.2.2.1 61).trans x1
      have e1 := wkW_s (j := j) (B := B) hz g2 g4
      refine rWays H2 hm g3 g6 (fun _ h3 s3 => ?_) fun k' c' t' h3 f1 f2 => ?_
      · rw [nI_1]
        refine rDrw hN hm j (i + 1) _ t (n + 1) (wkB A m c.1 t B) h3 (by omega) hY (H2.pl s3) g3 (g6.pl s3) (by rw [s3.J (by omega)]; exact x2) (((s0.tr d1).tr g5.df).tr (Mf.pl s3).df) (fun h' s' H' k' R' => ?_)
        rw [e1] at q
        have := q h' s' H' k' (by rw [← nI_1, Int32.add_comm (nI _) 1, ← Int32.add_assoc]; exact R')
        rw [← Nat.add_assoc, Nat.add_right_comm i _ 1] at this
        exact this
      · have := f2.lt
        have h9 := chN_le A m t (aEm A m)
        unfold chT at this
        exact absurd f1 (nI_neg (by omega))
