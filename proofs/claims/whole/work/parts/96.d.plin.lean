theorem pMch_w {A : Ab} {B : Bx} {t : Nat} {x : Ab × Nat} (H : wdA A) (h : pMch A B t = .ok x) : wdA x.1 := by
  unfold pMch at h
  by_cases c1 : 3 ≤ aMM A
  · rw [if_pos c1] at h; cases h
  rw [if_neg c1] at h
  by_cases c2 : 0 < aMM A ∧ aVm A (cM A) = 0
  · rw [if_pos c2] at h; cases h
  rw [if_neg c2] at h
  split at h
  · cases h
  · split at h
    · cases h
    · cases h
      exact wdA_M H (by omega) c2
theorem pVar_w {A : Ab} {B : Bx} {t : Nat} {x : Ab × Nat} (H : wdA A) (h : pVar A B t = .ok x) : wdA x.1 := by
  unfold pVar at h
  by_cases c1 : aMM A = 0
  · rw [if_pos c1] at h; cases h
  rw [if_neg c1] at h
  by_cases c2 : 3 ≤ aVm A (cM A) ∨ 0 < aLm A (cM A) ∨ 0 < aEm A (cM A) ∨ aVt A (cM A) ≠ 0
  · rw [if_pos c2] at h; cases h
  rw [if_neg c2] at h
  split at h
  · cases h
  split at h
  · cases h
  unfold pBnd at h
  split at h
  · cases h
  split at h
  · cases h
  split at h
  · cases h
  split at h
  · cases h
  split at h
  · cases h
  by_cases c3 : ¬ (tkC B (t + 2 + 1) ≤ tkC B (t + 2 + 3) ∧ tkC B (t + 2 + 3) ≤ 9)
  · rw [if_pos c3] at h; cases h
  rw [if_neg c3] at h
  by_cases c4 : 100 < aSz A (cM A) * (tkC B (t + 2 + 3) - tkC B (t + 2 + 1) + 1)
  · rw [if_pos c4] at h; cases h
  rw [if_neg c4] at h
  split at h
  · cases h
  split at h
  · cases h
  by_cases c5 : ¬ (tkC B (t + 2 + 1) ≤ tkC B (t + 2 + 5) ∧ tkC B (t + 2 + 5) ≤ tkC B (t + 2 + 3))
  · rw [if_pos c5] at h; cases h
  rw [if_neg c5] at h
  cases h
  exact wdA_V H c1 c2 (by omega) (by omega) (by omega) (by omega)
theorem pLaw_w {A : Ab} {B : Bx} {N t : Nat} {x : Ab × Nat} (hN : tkK B N = 300) (hN6 : N ≤ 600) (ht : t ≤ N) (hk : tkK B t ≠ 300) (H : wdA A) (h : pLaw A B t = .ok x) : wdA x.1 := by
  unfold pLaw at h
  by_cases c1 : aMM A = 0 ∨ aVm A (cM A) = 0
  · rw [if_pos c1] at h; cases h
  rw [if_neg c1] at h
  by_cases c2 : 4 ≤ aLm A (cM A)
  · rw [if_pos c2] at h; cases h
  rw [if_neg c2] at h
  split at h
  · cases h
  · rename_i y hy
    cases h
    exact wdA_L H (by omega) (by omega) (by omega) ((pTs_pg 8).wf hN hN6 (tk_nx hN ht hk) hy).1
theorem pVnt_w {A : Ab} {B : Bx} {N t : Nat} {x : Ab × Nat} (hN : tkK B N = 300) (hN6 : N ≤ 600) (ht : t ≤ N) (hk : tkK B t ≠ 300) (H : wdA A) (h : pVnt A B t = .ok x) : wdA x.1 := by
  unfold pVnt at h
  by_cases c1 : aMM A = 0 ∨ aVm A (cM A) = 0
  · rw [if_pos c1] at h; cases h
  rw [if_neg c1] at h
  split at h
  · cases h
  split at h
  · cases h
  · rename_i y hy
    cases h
    exact wdA_T H (by omega) (by omega) ((pSm_pg 8).wf hN hN6 (tk_nx hN ht hk) hy).1
theorem pOf_w {A : Ab} {B : Bx} {m N t : Nat} {o : Nat × Nat} (hN : tkK B N = 300) (ht : t ≤ N) (h : pOf A B m t = .ok o) : o.2 ≤ N ∧ t ≤ o.2 ∧ (o.1 ≠ 0 → 0 < m ∧ o.1 ≤ aEm A (m - 1)) := by
  unfold pOf at h
  split at h
  · cases h
    exact ⟨ht, Nat.le_refl _, fun q => absurd rfl q⟩
  · rename_i k0
    have k0 : tkK B t = 407 := Classical.not_not.mp k0
    split at h
    · cases h
    · rename_i k1
      have k1 : tkK B (t + 1) = 302 := Classical.not_not.mp k1
      have t1 := tk_nx hN ht (by omega)
      have t2 := tk_nx hN t1 (by omega)
      split at h
      · cases h
      · rename_i e he
        cases h
        refine ⟨t2, by show t ≤ t + 2; omega, fun _ => ?_⟩
        by_cases c : 0 < m
        · rw [if_pos c] at he
          have := fdI_s he
          exact ⟨c, by show e + 1 ≤ _; omega⟩
        · rw [if_neg c] at he
          cases he
theorem pPk_w {B : Bx} {N t : Nat} {p : Ct3} (hN : tkK B N = 300) (ht : t ≤ N) (h : pPk B t = .ok p) : p.2.2 ≤ N ∧ t ≤ p.2.2 ∧ p.1 ≤ p.2.1 ∧ p.2.1 ≤ 99 ∧ p.2.1 < p.1 + 10 := by
  unfold pPk at h
  by_cases k0 : tkK B t = 408
  · rw [if_neg (fun n => n k0)] at h
    have t1 := tk_nx hN ht (by omega)
    by_cases k1 : tkK B (t + 1) = 303
    · rw [if_neg (fun n => n k1)] at h
      have t2 := tk_nx hN t1 (by omega)
      split at h
      · cases h
      · by_cases k2 : tkK B (t + 2) = 403
        · rw [if_neg (fun n => n k2)] at h
          have t3 := tk_nx (t := t + 2) hN t2 (by omega)
          by_cases k3 : tkK B (t + 3) = 303
          · rw [if_neg (fun n => n k3)] at h
            have t4 := tk_nx (t := t + 3) hN t3 (by omega)
            by_cases c1 : ¬ (tkC B (t + 1) ≤ tkC B (t + 3) ∧ tkC B (t + 3) ≤ 99)
            · rw [if_pos c1] at h; cases h
            rw [if_neg c1] at h
            by_cases c2 : tkC B (t + 1) + 10 ≤ tkC B (t + 3)
            · rw [if_pos c2] at h; cases h
            rw [if_neg c2] at h
            cases h
            exact ⟨t4, by show t ≤ t + 4; omega, by show tkC B (t + 1) ≤ tkC B (t + 3); omega, by show tkC B (t + 3) ≤ 99; omega, by show tkC B (t + 3) < tkC B (t + 1) + 10; omega⟩
          · rw [if_pos k3] at h; cases h
        · rw [if_pos k2] at h; cases h
    · rw [if_pos k1] at h; cases h
  · rw [if_pos k0] at h
    cases h
    exact ⟨ht, Nat.le_refl _, Nat.le_refl _, by show 0 ≤ 99; omega, by show 0 < 0 + 10; omega⟩
theorem GvI0 {A : Ab} {m : Nat} : GvI A m 0 (fun _ => []) := ⟨by decide, fun v hv hb => by
  have : 0 / 2 ^ v % 2 = 0 := by simp
  omega⟩
theorem pEvt_w {A : Ab} {B : Bx} {N t : Nat} {x : Ab × Nat} (hN : tkK B N = 300) (hN6 : N ≤ 600) (ht : t ≤ N) (hk : tkK B t ≠ 300) (H : wdA A) (h : pEvt A B t = .ok x) : wdA x.1 := by
  unfold pEvt at h
  by_cases c1 : aMM A = 0 ∨ aVm A (cM A) = 0
  · rw [if_pos c1] at h; cases h
  rw [if_neg c1] at h
  by_cases c2 : 4 ≤ aEm A (cM A)
  · rw [if_pos c2] at h; cases h
  rw [if_neg c2] at h
  by_cases k1 : tkK B (t + 1) ≠ 302
  · rw [if_pos k1] at h; cases h
  rw [if_neg k1] at h
  have k1 : tkK B (t + 1) = 302 := Classical.not_not.mp k1
  have t1 := tk_nx hN ht hk
  have t2 := tk_nx hN t1 (by omega)
  split at h
  · cases h
  have v3 := (H.2.1 (cM A) (cM_lt (by omega))).1
  cases ho : pOf A B (cM A) (t + 2) with
  | error e => rw [ho] at h; cases h
  | ok o =>
    rw [ho] at h
    obtain ⟨o1, o2, o3⟩ := pOf_w hN t2 ho
    simp only at h
    cases hp : pPk B o.2 with
    | error e => rw [hp] at h; cases h
    | ok p =>
      rw [hp] at h
      obtain ⟨p1, p2, p3, p4, p5⟩ := pPk_w hN o1 hp
      simp only at h
      by_cases k2 : tkK B p.2.2 ≠ 409
      · rw [if_pos k2] at h; cases h
      rw [if_neg k2] at h
      have k2 : tkK B p.2.2 = 409 := Classical.not_not.mp k2
      have t3 := tk_nx hN p1 (by omega)
      cases hX : pTs A B (cM A) 1 8 (p.2.2 + 1) 0 with
      | error e => rw [hX] at h; cases h
      | ok y =>
        rw [hX] at h
        have wf := (pTs_pg (A := A) (B := B) (m := cM A) (k := 1) 8).wf hN hN6 t3 hX
        obtain ⟨y1, y2, -⟩ := ((pTs_pg (A := A) (B := B) (m := cM A) (k := 1) 8) N (p.2.2 + 1) 0 hN t3 (by omega)).1 y hX
        simp only at h
        by_cases k3 : tkK B y.1 ≠ 410
        · rw [if_pos k3] at h; cases h
        rw [if_neg k3] at h
        have k3 : tkK B y.1 = 410 := Classical.not_not.mp k3
        have t4 := tk_nx hN y2 (by omega)
        cases hG : pGs A B (cM A) 4 0 (fun _ => []) (y.1 + 1) with
        | error e => rw [hG] at h; cases h
        | ok z =>
          rw [hG] at h
          cases h
          obtain ⟨z1, z2, z3⟩ := (pGs_ok hN hN6 v3 4 0 (y.1 + 1) (fun _ => []) t4 GvI0 (by decide)).1 z hG
          exact wdA_E H (by omega) (by omega) (by omega) p3 p4 p5 o3 z3.1 wf.1 wf.2 (fun v hv hb => (z3.2 v (by omega) hb).2)
theorem pLn_w {A : Ab} {B : Bx} {N t : Nat} {x : Ab × Nat} (hN : tkK B N = 300) (hN6 : N ≤ 600) (ht : t ≤ N) (H : wdA A) (h : pLn A B t = .ok x) : wdA x.1 := by
  unfold pLn at h
  split at h
  · exact pMch_w H h
  split at h
  · exact pVar_w H h
  split at h
  · exact pLaw_w hN hN6 ht (by omega) H h
  split at h
  · exact pEvt_w hN hN6 ht (by omega) H h
  split at h
  · exact pVnt_w hN hN6 ht (by omega) H h
  · cases h
theorem wdA_0 : wdA A00 := ⟨by decide, fun m hm => absurd hm (by show ¬ m < 0; omega), fun m hm => absurd hm (by show ¬ m + 1 < 0; omega)⟩
/-! THE CLASS'S DRAFT -/
def DrM (A : Ab) (h : Hp) (D m : Nat) : Prop := gJ h (D + 6 + 145 * m) 10 = aMn A m ∧ gI h (D + 6 + 145 * m) 11 = nI (aVm A m) ∧ gI h (D + 6 + 145 * m) 12 = nI (aSz A m) ∧ gI h (D + 6 + 145 * m) 13 = nI (aLm A m) ∧ gI h (D + 6 + 145 * m) 14 = nI (aEm A m) ∧
  (aVt A m = 0 → gI h (D + 6 + 145 * m) 15 = -1) ∧ (aVt A m ≠ 0 → ∃ f, gI h (D + 6 + 145 * m) 15 = nI f ∧ CCd h D f (aVc A m)) ∧
  (∀ v, v < aVm A m → gI h (D + 6 + 145 * m + 2) v = nI (aLo A m v) ∧ gI h (D + 6 + 145 * m + 3) v = nI (aHi A m v) ∧ gI h (D + 6 + 145 * m + 4) v = nI (aAt A m v) ∧ gJ h (D + 6 + 145 * m + 1) v = aVn A m v) ∧
  (∀ l, l < aLm A m → ∃ f, gI h (D + 6 + 145 * m + 5) l = nI f ∧ CCd h D f (aLc A m l)) ∧
  ∀ e, e < aEm A m → gJ h (D + 6 + 145 * m + 11 + 5 * e) 4 = aXn A m e ∧ gI h (D + 6 + 145 * m + 11 + 5 * e) 5 = aOI A m e ∧ gI h (D + 6 + 145 * m + 11 + 5 * e) 6 = nI (aFp A m e) ∧ gI h (D + 6 + 145 * m + 11 + 5 * e) 7 = nI (aLp A m e) ∧ gI h (D + 6 + 145 * m + 11 + 5 * e) 8 = nI (aGb A m e) ∧ gI h (D + 6 + 145 * m + 11 + 5 * e) 10 = nI (aAs A m e) ∧
    (∃ f, gI h (D + 6 + 145 * m + 11 + 5 * e) 9 = nI f ∧ CCd h D f (aGc A m e)) ∧ ∀ v, v < aVm A m → aGb A m e / 2 ^ v % 2 = 1 → ∃ f, gI h (D + 6 + 145 * m + 11 + 5 * e + 1) v = nI f ∧ CCd h D f (aSc A m e v)
/-- codes stay as they were where the text grows -/
def Cgr (D : Nat) (h h' : Hp) : Prop := ∀ f L, CCd h D f L → CCd h' D f L
theorem DrM.of {A A' : Ab} {h h' : Hp} {D m : Nat} (H : DrM A h D m) (he : aEm A m ≤ 4) (ag : AgM A A' m) (s : ∀ b, D + 6 + 145 * m ≤ b → b < D + 6 + 145 * m + 31 → ∀ k, gI h' b k = gI h b k ∧ gJ h' b k = gJ h b k) (cg : Cgr D h h') : DrM A' h' D m := by
  obtain ⟨h1, h2, h3, h4, h5, h6, h7, h8, h9, h10⟩ := H
  have oi : ∀ e, aOI A' m e = aOI A m e := fun e => by unfold aOI; rw [ag.oe]
  refine ⟨?_, ?_, ?_, ?_, ?_, fun q => ?_, fun q => ?_, fun v hv => ?_, fun l hl => ?_, fun e he' => ?_⟩
  · rw [(s _ (by omega) (by omega) _).2, ag.mn]; exact h1
  · rw [(s _ (by omega) (by omega) _).1, ag.vm]; exact h2
  · rw [(s _ (by omega) (by omega) _).1, ag.sz]; exact h3
  · rw [(s _ (by omega) (by omega) _).1, ag.lm]; exact h4
  · rw [(s _ (by omega) (by omega) _).1, ag.em]; exact h5
  · rw [ag.vt] at q; rw [(s _ (by omega) (by omega) _).1]; exact h6 q
  · rw [ag.vt] at q
    obtain ⟨f, f1, f2⟩ := h7 q
    exact ⟨f, by rw [(s _ (by omega) (by omega) _).1]; exact f1, by rw [ag.vc]; exact cg _ _ f2⟩
  · rw [ag.vm] at hv
    rw [(s _ (by omega) (by omega) _).1, (s _ (by omega) (by omega) _).1, (s _ (by omega) (by omega) _).1, (s _ (by omega) (by omega) _).2, ag.lo, ag.hi, ag.at_, ag.vn]
    exact h8 v hv
  · rw [ag.lm] at hl
    obtain ⟨f, f1, f2⟩ := h9 l hl
    exact ⟨f, by rw [(s _ (by omega) (by omega) _).1]; exact f1, by rw [ag.lc]; exact cg _ _ f2⟩
  · rw [ag.em] at he'
    obtain ⟨g1, g2, g3, g4, g5, g6, ⟨f, f1, f2⟩, g8⟩ := h10 e he'
    rw [(s _ (by omega) (by omega) _).2, (s _ (by omega) (by omega) _).1, (s _ (by omega) (by omega) _).1, (s _ (by omega) (by omega) _).1, (s _ (by omega) (by omega) _).1, (s _ (by omega) (by omega) _).1, ag.xn, oi, ag.fp, ag.lp, ag.gb, ag.as, ag.gc]
    refine ⟨g1, g2, g3, g4, g5, g6, ⟨f, by rw [(s _ (by omega) (by omega) _).1]; exact f1, cg _ _ f2⟩, fun v hv hb => ?_⟩
    rw [ag.vm] at hv
    obtain ⟨f, f1, f2⟩ := g8 v hv hb
    exact ⟨f, by rw [(s _ (by omega) (by omega) _).1]; exact f1, by rw [ag.sc (by omega)]; exact cg _ _ f2⟩
