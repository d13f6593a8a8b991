/-! THE CLASS READS AN EVENT -/
/-- names of a machine's events differ -/
def unA (A : Ab) : Prop := ∀ m, m < aMM A → ∀ e1 e2, e1 < e2 → e2 < aEm A m → aXn A m e1 ≠ aXn A m e2
theorem fdI_none {f : Nat → Int64} {w : Int64} : ∀ {j i : Nat}, fdI f w j i = none → ∀ k, i ≤ k → k < i + j → f k ≠ w
  | 0, i, _, k, h1, h2 => by omega
  | j + 1, i, h, k, h1, h2 => by
    unfold fdI at h
    split at h
    · cases h
    · rename_i ne
      by_cases c : k = i
      · rw [c]; exact ne
      · exact fdI_none h k (by omega) (by omega)
section
variable {A : Ab} {B : Bx} {S : Sh} {h : Hp} {c D N t m v : Nat} {Q : Int32 → Hp → Prop} {R : Hp → Prop}
theorem cOf (st : ∀ h x, R h → R (pI h c 8 x)) (stE : ∀ h k x, k ≠ 10 → R h → R (pI h v k x)) (hvc : v ≠ c) (hve : (S v).1 = 1) (hm : m < 3) (hDS : DS S D) (U : 0 < m → ∀ e1 e2, e1 < e2 → e2 < aEm A (m - 1) → aXn A (m - 1) e1 ≠ aXn A (m - 1) e2) (he4 : 0 < m → aEm A (m - 1) ≤ 4)
    (hr : ∀ h, R h → gR h c 6 = v ∧ gR h c 4 = D ∧ gI h D 5 = nI (m + 1) ∧ gR h D 0 = D + 1 ∧ (∀ i, i < 3 → gR h (D + 1) i = D + 6 + 145 * i) ∧ (0 < m → gI h (D + 6 + 145 * (m - 1)) 14 = nI (aEm A (m - 1)) ∧ gR h (D + 6 + 145 * (m - 1)) 5 = D + 6 + 145 * (m - 1) + 6 ∧ ∀ e, e < aEm A (m - 1) → gR h (D + 6 + 145 * (m - 1) + 6) e = D + 6 + 145 * (m - 1) + 11 + 5 * e ∧ gJ h (D + 6 + 145 * (m - 1) + 11 + 5 * e) 4 = aXn A (m - 1) e))
    (cpE : ∀ h k x t, Cp B S h c N t → Cp B S (pI h v k x) c N t) (P : Cp B S h c N t) (Rh : R h) (f5 : gI h v 5 = -2) (k0 : tkK B t = 407)
    (q0 : ∀ e h', pOf A B m t = .error e → R h' → Q 0 (cfl h' c e.1 (tkP B e.2)))
    (q1 : ∀ e h', pOf A B m t = .ok (e + 1, t + 2) → e < 4 → Cp B S h' c N (t + 2) → R h' → gI h' v 5 = nI e → (∀ k, k ≠ 5 → gI h' v k = gI h v k) → Q 1 h') : wX5_readOf S h c Q := by
  have hc6 : (S c).1 = 6 := by rw [P.1.1]
  have z1 : (0 : Int32) &&& 1 = 0 := by decide
  unfold pOf at q1 q0
  rw [if_neg (fun n => n k0)] at q1 q0
  refine ⟨hc6, cAdv P (by omega) fun P1 => ?_⟩
  have R1 := st h (nI (t + 1)) Rh
  have g1 : ∀ k, gI (pI h c 8 (nI (t + 1))) v k = gI h v k := fun k => by rw [gI_pI, if_neg (fun q => hvc q.1)]
  generalize pI h c 8 (nI (t + 1)) = h1 at P1 R1 g1
  obtain ⟨r6, r4, d5, rd, rm, ra⟩ := hr h1 R1
  refine cKind P1 ?_
  rw [show (302 : Int32) = nI 302 from rfl, kEq P1 (by decide)]
  refine ⟨fun k1 => ?_, fun k1 => cFail P1 ⟨z1, q0 (1, t + 1) _ (by rw [if_pos k1]) R1⟩⟩
  rw [if_neg (fun n => n k1)] at q1 q0
  rw [r4, d5]
  refine ⟨by rw [hDS.1], ?_⟩
  have no : (if 0 < m then fdI (aXn A (m - 1)) (lN (tkC B (t + 1))) (aEm A (m - 1)) 0 else none) = none → ∀ h2, Cp B S h2 c N (t + 1) → R h2 → gI h2 v 5 = -2 → wX5_readOf_j90 S h2 c Q := by
    intro hn h2 P2 R2 g5
    rw [hn] at q0
    unfold wX5_readOf_j90
    rw [(hr h2 R2).1, g5]
    exact ⟨hc6, hve, fun n => absurd rfl n, fun _ => cFail P2 ⟨z1, q0 (3, t + 1) _ rfl R2⟩⟩
  by_cases c0 : 0 < m
  · refine br_f (nI_ge (a := 1) (by omega) (by omega)) ?_
    have e2 : nI (m + 1) - 2 = nI (m - 1) := by
      rw [n_2, n_sub (by omega)]
      congr 1
    rw [e2, rd, ix_nI (by omega), rm (m - 1) (by omega)]
    refine ⟨inA_of hDS.2.1 (by omega) (by decide), nm_e ?_⟩
    have M := hDS.2.2.2.2.2.2 (m - 1) (by omega)
    have he := he4 c0
    have U := U c0
    have lp : ∀ (j i : Nat) (h2 : Hp), i + j = aEm A (m - 1) → Cp B S h2 c N (t + 1) → R h2 → (∀ k, k ≠ 5 → gI h2 v k = gI h v k) → ((gI h2 v 5 = -2 ∧ ∀ k, k < i → aXn A (m - 1) k ≠ lN (tkC B (t + 1))) ∨ ∃ e, e < i ∧ gI h2 v 5 = nI e ∧ aXn A (m - 1) e = lN (tkC B (t + 1))) → wX5_readOf_51 S c (D + 6 + 145 * (m - 1)) Q (j + 1) h2 (nI i) := by
      intro j
      induction j with
      | zero =>
        intro i h2 hi P2 R2 gk g5
        obtain ⟨r6, r4, d5, rd, rm, ra⟩ := hr h2 R2
        obtain ⟨a1, a2, a3⟩ := ra c0
        show wX5_readOf_51b S c (D + 6 + 145 * (m - 1)) Q _ h2 (nI i)
        unfold wX5_readOf_51b
        rw [a1]
        refine ⟨by rw [M.1], br_t (nI_le (by omega) (by omega)) ?_⟩
        rcases g5 with ⟨g5, gn⟩ | ⟨e, e1, e2, e3⟩
        · refine no ?_ h2 P2 R2 g5
          rw [if_pos c0]
          cases hf : fdI (aXn A (m - 1)) (lN (tkC B (t + 1))) (aEm A (m - 1)) 0 with
          | none => rfl
          | some e =>
            have := fdI_s hf
            exact absurd this.2.2 (gn e (by omega))
        · have hf : fdI (aXn A (m - 1)) (lN (tkC B (t + 1))) (aEm A (m - 1)) 0 = some e := by
            cases hf : fdI (aXn A (m - 1)) (lN (tkC B (t + 1))) (aEm A (m - 1)) 0 with
            | none => exact absurd e3 (fdI_none hf e (by omega) (by omega))
            | some e' =>
              have := fdI_s hf
              by_cases c1 : e' = e
              · rw [c1]
              · rcases Nat.lt_or_gt_of_ne c1 with l | l
                · exact absurd (this.2.2.trans e3.symm) (U e' e l (by omega))
                · exact absurd (e3.trans this.2.2.symm) (U e e' l (by omega))
          rw [if_pos c0, hf] at q1
          unfold wX5_readOf_j90
          rw [r6, e2]
          refine ⟨hc6, hve, fun _ => cAdv P2 (by omega) fun P3 => q1 e _ rfl (by omega) P3 (st _ _ R2) (by rw [gI_pI, if_neg (fun q => hvc q.1)]; exact e2) (fun k hk => by rw [gI_pI, if_neg (fun q => hvc q.1)]; exact gk k hk), fun n => absurd n (nI_n2 (by omega))⟩
      | succ j ih =>
        intro i h2 hi P2 R2 gk g5
        obtain ⟨r6, r4, d5, rd, rm, ra⟩ := hr h2 R2
        obtain ⟨a1, a2, a3⟩ := ra c0
        obtain ⟨b1, b2⟩ := a3 i (by omega)
        have es := M.2.2.2.2.2.2.2.2.2.2.2.1 i (by omega)
        show wX5_readOf_51b S c (D + 6 + 145 * (m - 1)) Q (wX5_readOf_51 S c (D + 6 + 145 * (m - 1)) Q (j + 1)) h2 (nI i)
        unfold wX5_readOf_51b
        rw [a1, a2, ix_nI (by omega), b1, b2, nI_1]
        refine ⟨by rw [M.1], br_f (nI_ge (by omega) (by omega)) ⟨inA_of M.2.2.2.2.2.2.1 (by omega) (by decide), by rw [es.1], hc6, cCode P2 k1 ?_⟩⟩
        rw [lg_cmp_eq]
        refine ⟨fun ne => ih (i + 1) h2 (by omega) P2 R2 gk ?_, fun e => ⟨by rw [r6]; exact hve, ?_⟩⟩
        · rcases g5 with ⟨g5, gn⟩ | ⟨e, e1, e2, e3⟩
          · refine Or.inl ⟨g5, fun k hk => ?_⟩
            by_cases c1 : k = i
            · rw [c1]; exact ne
            · exact gn k (by omega)
          · exact Or.inr ⟨e, by omega, e2, e3⟩
        · rw [r6]
          exact ih (i + 1) _ (by omega) (cpE _ _ _ _ P2) (stE _ _ _ (by decide) R2) (fun k hk => by rw [gI_pI, if_neg (by omega)]; exact gk k hk) (Or.inr ⟨i, by omega, by rw [gI_pI, if_pos ⟨rfl, rfl⟩], e⟩)
    exact ⟨_, lp (aEm A (m - 1)) 0 h1 (by omega) P1 R1 (fun k _ => g1 k) (Or.inl ⟨by rw [g1]; exact f5, fun k hk => absurd hk (by omega)⟩)⟩
  · exact br_t (nI_le (b := 1) (by omega) (by decide)) (no (by rw [if_neg c0]) h1 P1 R1 (by rw [g1]; exact f5))
theorem cPk (st : ∀ h x, R h → R (pI h c 8 x)) (stE : ∀ h k x, k ≠ 10 → R h → R (pI h v k x)) (hvc : v ≠ c) (hve : (S v).1 = 1) (hr : ∀ h, R h → gR h c 6 = v) (cpE : ∀ h k x t, Cp B S h c N t → Cp B S (pI h v k x) c N t) (P : Cp B S h c N t) (Rh : R h) (k0 : tkK B t = 408)
    (q0 : ∀ e h', pPk B t = .error e → R h' → Q 0 (cfl h' c e.1 (tkP B e.2)))
    (q1 : ∀ h', pPk B t = .ok (tkC B (t + 1), tkC B (t + 3), t + 4) → Cp B S h' c N (t + 4) → R h' → gI h' v 6 = nI (tkC B (t + 1)) → gI h' v 7 = nI (tkC B (t + 3)) → (∀ k, k ≠ 6 → k ≠ 7 → gI h' v k = gI h v k) → Q 1 h') : wX5_readPicks S h c Q := by
  have hc6 : (S c).1 = 6 := by rw [P.1.1]
  have z1 : (0 : Int32) &&& 1 = 0 := by decide
  unfold pPk at q1 q0
  rw [if_neg (fun n => n k0)] at q1 q0
  have vc : ∀ (h : Hp) (x : Int32) k, gI (pI h c 8 x) v k = gI h v k := fun h x k => by rw [gI_pI, if_neg (fun q => hvc q.1)]
  refine ⟨hc6, cAdv P (by omega) fun P1 => ?_⟩
  have R1 := st h (nI (t + 1)) Rh
  have g1 : ∀ k, gI (pI h c 8 (nI (t + 1))) v k = gI h v k := vc _ _
  generalize pI h c 8 (nI (t + 1)) = h1 at P1 R1 g1
  refine sWhole (lo := 0) (hi := 99) P1 (by decide) (by decide) (fun k3 _ b3 => ⟨fun _ => ?_, fun n => absurd n (by decide)⟩) (fun k3 => ⟨fun n => absurd rfl n, fun _ => q0 (1, t + 1) _ (by rw [if_pos k3]) R1⟩) (fun k3 b3 => ⟨fun n => absurd rfl n, fun _ => q0 (2, t + 1) _ (by rw [if_neg (fun n => n k3), if_pos (by omega)]) R1⟩)
  rw [if_neg (fun n => n k3), if_neg (fun n => n b3)] at q1 q0
  refine cNumb P1 k3 ?_
  rw [hr h1 R1]
  refine ⟨hve, ?_⟩
  have R2 := stE h1 6 (nI (tkC B (t + 1))) (by decide) R1
  have P2 := cpE h1 6 (nI (tkC B (t + 1))) _ P1
  have g2 : gI (pI h1 v 6 (nI (tkC B (t + 1)))) v 6 = nI (tkC B (t + 1)) ∧ ∀ k, k ≠ 6 → gI (pI h1 v 6 (nI (tkC B (t + 1)))) v k = gI h v k := ⟨by rw [gI_pI, if_pos ⟨rfl, rfl⟩], fun k hk => by rw [gI_pI, if_neg (fun q => hk q.2)]; exact g1 k⟩
  generalize pI h1 v 6 (nI (tkC B (t + 1))) = h2 at P2 R2 g2
  refine cAdv P2 (by omega) fun (P3 : Cp B S _ c N (t + 2)) => ?_
  have R3 := st h2 (nI (t + 1 + 1)) R2
  have g3 : gI (pI h2 c 8 (nI (t + 1 + 1))) v 6 = nI (tkC B (t + 1)) ∧ ∀ k, k ≠ 6 → gI (pI h2 c 8 (nI (t + 1 + 1))) v k = gI h v k := ⟨by rw [vc]; exact g2.1, fun k hk => by rw [vc]; exact g2.2 k hk⟩
  generalize pI h2 c 8 (nI (t + 1 + 1)) = h3 at P3 R3 g3
  refine ⟨hc6, cKind P3 ?_⟩
  rw [show (403 : Int32) = nI 403 from rfl, kEq P3 (by decide)]
  refine ⟨fun k4 => cAdv P3 (by omega) fun (P4 : Cp B S _ c N (t + 3)) => ⟨fun n => absurd n (by decide), fun _ => ?_⟩, fun k4 => cFail P3 ⟨z1, ⟨fun _ => q0 (1, t + 2) _ (by rw [if_pos k4]) R3, fun n => absurd rfl n⟩⟩⟩
  rw [if_neg (fun n => n k4)] at q1 q0
  have R4 := st h3 (nI (t + 2 + 1)) R3
  have g4 : gI (pI h3 c 8 (nI (t + 2 + 1))) v 6 = nI (tkC B (t + 1)) ∧ ∀ k, k ≠ 6 → gI (pI h3 c 8 (nI (t + 2 + 1))) v k = gI h v k := ⟨by rw [vc]; exact g3.1, fun k hk => by rw [vc]; exact g3.2 k hk⟩
  generalize pI h3 c 8 (nI (t + 2 + 1)) = h4 at P4 R4 g4
  rw [hr h4 R4, g4.1]
  refine ⟨hve, sWhole (lo := tkC B (t + 1)) (hi := 99) P4 (by omega) (by decide) (fun k5 b5 b5' => ⟨fun _ => ?_, fun n => absurd n (by decide)⟩) (fun k5 => ⟨fun n => absurd rfl n, fun _ => q0 (1, t + 3) _ (by rw [if_pos k5]) R4⟩) (fun k5 b5 => ⟨fun n => absurd rfl n, fun _ => q0 (2, t + 3) _ (by rw [if_neg (fun n => n k5), if_pos b5]) R4⟩)⟩
  rw [if_neg (fun n => n k5), if_neg (fun n => n ⟨b5, b5'⟩)] at q1 q0
  refine cNumb P4 k5 ?_
  rw [hr h4 R4]
  refine ⟨hve, nm_e ?_⟩
  have R5 := stE h4 7 (nI (tkC B (t + 3))) (by decide) R4
  have P5 := cpE h4 7 (nI (tkC B (t + 3))) _ P4
  have g5 : gI (pI h4 v 7 (nI (tkC B (t + 3)))) v 6 = nI (tkC B (t + 1)) ∧ gI (pI h4 v 7 (nI (tkC B (t + 3)))) v 7 = nI (tkC B (t + 3)) ∧ ∀ k, k ≠ 6 → k ≠ 7 → gI (pI h4 v 7 (nI (tkC B (t + 3)))) v k = gI h v k := ⟨by rw [gI_pI, if_neg (by omega)]; exact g4.1, by rw [gI_pI, if_pos ⟨rfl, rfl⟩], fun k h6 h7 => by rw [gI_pI, if_neg (fun q => h7 q.2)]; exact g4.2 k h6⟩
  generalize pI h4 v 7 (nI (tkC B (t + 3))) = h5 at P5 R5 g5
  rw [hr h5 R5, g5.1, g5.2.1, n_sub b5]
  refine ⟨hve, ?_⟩
  by_cases c10 : tkC B (t + 1) + 10 ≤ tkC B (t + 3)
  · exact br_f (nI_nlt (b := 10) (by omega) (by omega)) (cFail P5 ⟨z1, q0 (4, t + 3) _ (by rw [if_pos c10]) R5⟩)
  rw [if_neg c10] at q1
  refine br_t (nI_lt (b := 10) (by omega) (by decide)) (cAdv P5 (by omega) fun P6 => q1 _ rfl P6 (st _ _ R5) (by rw [vc]; exact g5.1) (by rw [vc]; exact g5.2.1) (fun k h6 h7 => by rw [vc]; exact g5.2.2 k h6 h7))
end
