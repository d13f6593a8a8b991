theorem unA_M {A : Ab} {w : Nat} (U : unA A) : unA (addM A w) := by
  obtain ⟨e0, e1, e2, e3, e4, e5, e6⟩ := addM_m (A := A) (w := w)
  intro m hm x y l1 l2
  rw [e0] at hm
  by_cases c : m = aMM A
  · subst c
    rw [e4] at l2
    omega
  · have ag := addM_ag (A := A) (w := w) c
    rw [ag.em] at l2
    rw [ag.xn, ag.xn]
    exact U m (by omega) x y l1 l2
theorem unA_k {A A' : Ab} (U : unA A) (h0 : aMM A' = aMM A) (h1 : ∀ m, aEm A' m = aEm A m) (h2 : ∀ m e, aXn A' m e = aXn A m e) : unA A' := by
  intro m hm x y l1 l2
  rw [h0] at hm
  rw [h1] at l2
  rw [h2, h2]
  exact U m hm x y l1 l2
theorem unA_V {A : Ab} {m w lo hi at_ : Nat} (hm : m < 3) (U : unA A) : unA (addV A m w lo hi at_) := by
  refine unA_k U (addV_mm hm) (fun i => ?_) (fun i e => ?_)
  · by_cases c : i = m
    · subst c; exact addV_m.2.2.2.2.2.2.2.2.1
    · exact (addV_ag c hm).em
  · simp only [aXn, addV]
    rw [if_neg (by omega)]
theorem unA_E {A : Ab} {m w o fp lp gb : Nat} {gc : Cd} {sc : Nat → Cd} (hm : m < aMM A) (h3 : aMM A ≤ 3) (he : aEm A m < 4) (ht : ¬ told_ A (lN w)) (U : unA A) : unA (addE A m w o fp lp gb gc sc) := by
  obtain ⟨e0, e1, e2, e3, e4, e9, e10, e11, e12, e13, e14, e15, e16, e17⟩ := addE_m (A := A) (m := m) (w := w) (o := o) (fp := fp) (lp := lp) (gb := gb) (gc := gc) (sc := sc)
  intro i hi x y l1 l2
  rw [e0] at hi
  by_cases c : i = m
  · subst c
    rw [e1] at l2
    by_cases cy : y = aEm A i
    · rw [cy, e16, e17 x (by omega)]
      exact fun q => ht ⟨i, hm, Or.inr (Or.inr ⟨x, by omega, q⟩)⟩
    · rw [e17 x (by omega), e17 y cy]
      exact U i hm x y l1 (by omega)
  · have ag := addE_ag (A := A) (m := m) (w := w) (o := o) (fp := fp) (lp := lp) (gb := gb) (gc := gc) (sc := sc) c (by omega) he
    rw [ag.em] at l2
    rw [ag.xn, ag.xn]
    exact U i hi x y l1 l2
/-- a line goes on, and names of events still differ -/
theorem pLn_u {A : Ab} {B : Bx} {N t : Nat} {x : Ab × Nat} (hN : tkK B N = 300) (hN6 : N ≤ 600) (ht : t ≤ N) (W : wdA A) (U : unA A) (h : pLn A B t = .ok x) : unA x.1 ∧ t < x.2 := by
  have h3 := W.1
  unfold pLn at h
  split at h
  · unfold pMch at h
    split at h
    · cases h
    split at h
    · cases h
    split at h
    · cases h
    split at h
    · cases h
    cases h
    exact ⟨unA_M U, by show t < t + 2; omega⟩
  split at h
  · unfold pVar at h
    by_cases c1 : aMM A = 0
    · rw [if_pos c1] at h; cases h
    rw [if_neg c1] at h
    split at h
    · cases h
    split at h
    · cases h
    split at h
    · cases h
    unfold pBnd at h
    split at h
    · cases h
    split at h
    · cases h
    split at h
    · cases h
    split at h
    · cases h
    split at h
    · cases h
    split at h
    · cases h
    split at h
    · cases h
    split at h
    · cases h
    split at h
    · cases h
    split at h
    · cases h
    cases h
    exact ⟨unA_V (by have := cM_lt c1; omega) U, by show t < t + 2 + 6; omega⟩
  split at h
  · rename_i k5
    unfold pLaw at h
    split at h
    · cases h
    split at h
    · cases h
    split at h
    · cases h
    · rename_i y hy
      cases h
      have := ((pTs_pg (A := A) (B := B) (m := cM A) (k := 0) 8) N (t + 1) 0 hN (tk_nx hN ht (by omega)) (by omega)).1 y hy
      refine ⟨unA_k U addL_m.1 (fun i => by simp [aEm, addL]) (fun i e => rfl), ?_⟩
      show t < y.1
      omega
  split at h
  · rename_i k6
    unfold pEvt at h
    by_cases c1 : aMM A = 0 ∨ aVm A (cM A) = 0
    · rw [if_pos c1] at h; cases h
    rw [if_neg c1] at h
    by_cases c4 : 4 ≤ aEm A (cM A)
    · rw [if_pos c4] at h; cases h
    rw [if_neg c4] at h
    by_cases k1 : tkK B (t + 1) ≠ 302
    · rw [if_pos k1] at h; cases h
    rw [if_neg k1] at h
    have k1 : tkK B (t + 1) = 302 := Classical.not_not.mp k1
    have t1 := tk_nx hN ht (by omega)
    have t2 := tk_nx hN t1 (by omega)
    by_cases ct : toldB A (lN (tkC B (t + 1))) = true
    · rw [if_pos ct] at h; cases h
    rw [if_neg ct] at h
    have hm := cM_lt (fun e => c1 (Or.inl e))
    have v3 := (W.2.1 (cM A) hm).1
    cases ho : pOf A B (cM A) (t + 2) with
    | error e => rw [ho] at h; cases h
    | ok o =>
      rw [ho] at h
      obtain ⟨o1, o2, o3⟩ := pOf_w hN t2 ho
      simp only at h
      cases hp : pPk B o.2 with
      | error e => rw [hp] at h; cases h
      | ok p =>
        rw [hp] at h
        obtain ⟨p1, p2, p3, p4, p5⟩ := pPk_w hN o1 hp
        simp only at h
        by_cases k2 : tkK B p.2.2 ≠ 409
        · rw [if_pos k2] at h; cases h
        rw [if_neg k2] at h
        have k2 : tkK B p.2.2 = 409 := Classical.not_not.mp k2
        have t3 := tk_nx hN p1 (by omega)
        cases hX : pTs A B (cM A) 1 8 (p.2.2 + 1) 0 with
        | error e => rw [hX] at h; cases h
        | ok y =>
          rw [hX] at h
          obtain ⟨y1, y2, -⟩ := ((pTs_pg (A := A) (B := B) (m := cM A) (k := 1) 8) N (p.2.2 + 1) 0 hN t3 (by omega)).1 y hX
          simp only at h
          by_cases k3 : tkK B y.1 ≠ 410
          · rw [if_pos k3] at h; cases h
          rw [if_neg k3] at h
          have k3 : tkK B y.1 = 410 := Classical.not_not.mp k3
          have t4 := tk_nx hN y2 (by omega)
          cases hG : pGs A B (cM A) 4 0 (fun _ => []) (y.1 + 1) with
          | error e => rw [hG] at h; cases h
          | ok z =>
            rw [hG] at h
            cases h
            obtain ⟨z1, z2, z3⟩ := (pGs_ok hN hN6 v3 4 0 (y.1 + 1) (fun _ => []) t4 GvI0 (by decide)).1 z hG
            refine ⟨unA_E hm h3 (by omega) (fun q => ct (toldB_t.mpr q)) U, ?_⟩
            show t < z.2.2
            omega
  split at h
  · rename_i k5
    unfold pVnt at h
    split at h
    · cases h
    split at h
    · cases h
    split at h
    · cases h
    · rename_i y hy
      cases h
      have := ((pSm_pg (A := A) (B := B) (m := cM A) (k := 2) 8) N (t + 1) 0 hN (tk_nx hN ht (by omega)) (by omega)).1 y hy
      refine ⟨unA_k U addT_m.1 (fun i => by simp [aEm, addT]) (fun i e => rfl), ?_⟩
      show t < y.1
      omega
  · cases h
theorem pLn_m {A : Ab} {B : Bx} {t : Nat} {x : Ab × Nat} (h3 : aMM A ≤ 3) (h : pLn A B t = .ok x) : aMM x.1 ≠ 0 := by
  unfold pLn at h
  split at h
  · unfold pMch at h
    repeat' split at h
    all_goals first | (cases h; done) | (cases h; show aMM A + 1 ≠ 0; omega)
  split at h
  · unfold pVar at h
    by_cases c0 : aMM A = 0
    · rw [if_pos c0] at h; cases h
    rw [if_neg c0] at h
    have hm := cM_lt c0
    split at h
    · cases h
    split at h
    · cases h
    split at h
    · cases h
    unfold pBnd at h
    split at h
    · cases h
    split at h
    · cases h
    split at h
    · cases h
    split at h
    · cases h
    split at h
    · cases h
    split at h
    · cases h
    split at h
    · cases h
    split at h
    · cases h
    split at h
    · cases h
    split at h
    · cases h
    cases h
    rw [addV_mm (by omega)]
    exact c0
  split at h
  · unfold pLaw at h
    by_cases c0 : aMM A = 0
    · rw [if_pos (Or.inl c0)] at h; cases h
    repeat' split at h
    all_goals first | (cases h; done) | (cases h; rw [addL_m.1]; exact c0)
  split at h
  · unfold pEvt at h
    by_cases c0 : aMM A = 0
    · rw [if_pos (Or.inl c0)] at h; cases h
    repeat' split at h
    all_goals first | (cases h; done) | (cases h; rw [addE_m.1]; exact c0)
  split at h
  · unfold pVnt at h
    by_cases c0 : aMM A = 0
    · rw [if_pos (Or.inl c0)] at h; cases h
    repeat' split at h
    all_goals first | (cases h; done) | (cases h; rw [addT_m.1]; exact c0)
  · cases h
theorem CL.cI {A : Ab} {B : Bx} {S : Sh} {h : Hp} {c D N t cz k : Nat} {v : Int32} (L : CL A B S h c D N t cz) (hk : k ≠ 7 ∧ k ≠ 8) : CL A B S (pI h c k v) c D N t cz := by
  have R := L.rl.cI (k := k) (v := v) L.2.2.2.2.1
  obtain ⟨P, K, r5, ⟨d5, d6, hz⟩, W, Dm, ⟨n, T⟩, z0⟩ := L
  have out := K.2.2.1
  exact ⟨⟨P.1.of (Sm.rf.pI (by omega) _ _) rfl, by rw [gI_pI, if_neg (by omega)]; exact P.2.1, P.2.2⟩, R.2.1, r5, ⟨R.2.2.2.1.1, R.2.2.2.1.2, hz⟩, W, R.2.2.2.2, ⟨n, T.same (by rw [gI_pI, if_neg (by omega)]) (fun _ => rfl) rfl (fun _ => Iff.rfl)⟩, fun q => by rw [gI_pI, if_neg (by omega)]; exact z0 q⟩
theorem CL.go {A : Ab} {B : Bx} {S : Sh} {h : Hp} {c D N t cz : Nat} {Q : Hp → Prop} (L : CL A B S h c D N t cz) (hk : tkK B t ≠ 300) (q : ∀ h', Bf c D h h' → CL A B S h' c D N (t + 1) cz → Q h') : wX5_advance S h c Q := by
  have R := L.rl.cI (k := 8) (v := nI (t + 1)) L.2.2.2.2.1
  obtain ⟨P, K, r5, ⟨d5, d6, hz⟩, W, Dm, ⟨n, T⟩, z0⟩ := L
  have out := K.2.2.1
  exact cAdv P hk fun P1 => q _ (Bf.rf.pI (by omega)) ⟨P1, R.2.1, r5, ⟨R.2.2.2.1.1, R.2.2.2.1.2, by omega⟩, W, R.2.2.2.2, ⟨n, T.same (by rw [gI_pI, if_neg (by omega)]) (fun _ => rfl) rfl (fun _ => Iff.rfl)⟩, fun q => by rw [gI_pI, if_neg (by omega)]; exact z0 q⟩
theorem cLns {B : Bx} {S : Sh} {c D N : Nat} : ∀ (n : Nat) (A : Ab) (t cz lines : Nat) (h : Hp) (Q : Int32 → Hp → Prop), CL A B S h c D N t cz → unA A → lines ≤ t → 602 ≤ n + t →
    (∀ A' h' t' cz', pAll B n A t = .ok A' → Bf c D h h' → CL A' B S h' c D N t' cz' → unA A' → 0 < aVm A' (cM A') → aMM A' ≠ 0 → Q 1 h') → (∀ e h', pAll B n A t = .error e → Bf c D h h' → gI h' c 2 = nI e.1 → gI h' c 3 = nI (tkP B e.2) → Q 0 h') → wX5_readLines_2 S c Q n h (nI lines) := by
  intro n
  induction n with
  | zero =>
    intro A t cz lines h Q L U hl hn
    have := L.1.n
    omega
  | succ n ih =>
    intro A t cz lines h Q L U hl hn q1 q0
    have nn := L.1.n
    have hN := L.1.1.2.2.2.2.2.2.2.2.2.2.1
    have hc6 : (S c).1 = 6 := by rw [L.1.1.1]
    have z1 : (0 : Int32) &&& 1 = 0 := by decide
    unfold pAll at q1 q0
    show wX5_readLines_2b S c Q (wX5_readLines_2 S c Q n) h (nI lines)
    refine br_f (nI_nlt (a := 600) (by omega) (by decide)) ⟨hc6, cKind L.1 ?_⟩
    rw [show (405 : Int32) = nI 405 from rfl, kEq L.1 (by decide)]
    -- behind a line
    have nx : ∀ (x : Ab × Nat) (h' : Hp) (cz' : Nat), pLn A B t = .ok x → Bf c D h h' → CL x.1 B S h' c D N x.2 cz' → wX5_readLines_j158 S (wX5_readLines_2 S c Q n) h' c (nI lines) 1 Q := by
      intro x h' cz' ex b L'
      obtain ⟨U', tx⟩ := pLn_u hN nn.1 nn.2 L.2.2.2.2.1 U ex
      simp only [ex] at q1 q0
      refine ⟨fun _ => ⟨hc6, cKind L'.1 ?_⟩, fun n => absurd n (by decide)⟩
      rw [show (300 : Int32) = nI 300 from rfl, kEq L'.1 (by decide)]
      refine ⟨fun n3 => ⟨hc6, cKind L'.1 ?_⟩, fun k3 => ?_⟩
      · rw [if_neg n3] at q1 q0
        rw [show (59 : Int32) = nI 59 from rfl, kEq L'.1 (by decide), nI_1]
        refine ⟨fun k59 => L'.go (by omega) fun h2 b2 L2 => ⟨fun _ => ?_, fun n => absurd n (by decide)⟩, fun k59 => cFail L'.1 ⟨z1, ⟨fun n => absurd rfl n, fun _ => q0 (1, x.2) _ (by rw [if_neg k59]) b.fl cfl_f.1 cfl_f.2⟩⟩⟩
        rw [if_pos k59] at q1 q0
        exact ih x.1 (x.2 + 1) cz' (lines + 1) h2 Q L2 U' (by omega) (by omega) (fun A' h3 t' cz3 e b3 => q1 A' h3 t' cz3 e ((b.tr b2).tr b3)) (fun e h3 ee b3 => q0 e h3 ee ((b.tr b2).tr b3))
      · rw [if_pos k3] at q1 q0
        obtain ⟨P, K, r5, ⟨d5, d6, hz⟩, W, Dm, T, z0⟩ := L'
        unfold wX5_readLines_j174
        rw [r5]
        have h3 := W.1
        have M := K.1.2.2.2.2.2.2 (cM x.1) (by unfold cM; omega)
        refine ⟨hc6, by rw [M.1], ?_⟩
        by_cases c0 : aMM x.1 = 0
        · exact absurd c0 (pLn_m L.2.2.2.2.1.1 ex)
        · have hm := cM_lt c0
          rw [(Dm (cM x.1) hm).2.1]
          have v3 := (W.2.1 (cM x.1) hm).1
          by_cases cv : aVm x.1 (cM x.1) = 0
          · rw [if_pos cv] at q0
            refine br_f (by rw [cv]; decide) (cFail P ⟨fun _ => q0 (5, x.2) _ rfl b.fl cfl_f.1 cfl_f.2, fun n => absurd rfl n⟩)
          · rw [if_neg cv] at q1
            exact br_t (nI_lt (a := 0) (by omega) (by omega)) (q1 x.1 h' x.2 cz' rfl b ⟨P, K, r5, ⟨d5, d6, hz⟩, W, Dm, T, z0⟩ U' (by omega) c0)
    have er : ∀ (e : Nat × Nat) (h' : Hp), pLn A B t = .error e → Bf c D h h' → gI h' c 2 = nI e.1 → gI h' c 3 = nI (tkP B e.2) → wX5_readLines_j158 S (wX5_readLines_2 S c Q n) h' c (nI lines) 0 Q := by
      intro e h' ex b e2 e3
      simp only [ex] at q0
      exact ⟨fun n => absurd rfl n, fun _ => q0 e h' rfl b e2 e3⟩
    have bad : ∀ (h2 : Hp), Bf c D h h2 → CL A B S h2 c D N t cz → tkK B t ≠ 400 → tkK B t ≠ 401 → tkK B t ≠ 405 → tkK B t ≠ 406 → tkK B t ≠ 411 → wX5_readLines_j152 S (wX5_readLines_2 S c Q n) h2 c (nI lines) Q := by
      intro h2 b2 L2 n0 n1 n5 n6 n11
      refine ⟨hc6, cFail L2.1 (er (1, t) _ ?_ b2.fl cfl_f.1 cfl_f.2)⟩
      unfold pLn
      rw [if_neg n0, if_neg n1, if_neg n5, if_neg n6, if_neg n11]
    have j44 : ∀ (h1 : Hp) (s1 : Int32), Bf c D h h1 → CL A B S h1 c D N t cz → gI h1 c 10 = bI (decide (tkK B t = 405)) → s1 = bI (decide (tkK B t = 406)) → wX5_readLines_j44 S (wX5_readLines_2 S c Q n) h1 c (nI lines) c s1 Q := by
      intro h1 s1 b1 L1 f10 hs
      have L2 := L1.cI (k := 11) (v := s1) (by omega)
      have b2 : Bf c D h (pI h1 c 11 s1) := b1.pI (by omega)
      have g10 : gI (pI h1 c 11 s1) c 10 = bI (decide (tkK B t = 405)) := by rw [gI_pI, if_neg (by omega)]; exact f10
      have g11 : gI (pI h1 c 11 s1) c 11 = bI (decide (tkK B t = 406)) := by rw [gI_pI, if_pos ⟨rfl, rfl⟩]; exact hs
      refine ⟨hc6, by rw [hs]; exact bI_and _, hc6, ?_⟩
      generalize pI h1 c 11 s1 = h2 at L2 b2 g10 g11
      refine cKind L2.1 ?_
      have kE : ∀ v, v < 1000 → (nI (tkK B t) = nI v ↔ tkK B t = v) := fun v hv => kEq L2.1 hv
      rw [show (400 : Int32) = nI 400 from rfl, show (401 : Int32) = nI 401 from rfl, show (402 : Int32) = nI 402 from rfl, show (403 : Int32) = nI 403 from rfl, show (404 : Int32) = nI 404 from rfl, show (405 : Int32) = nI 405 from rfl, show (406 : Int32) = nI 406 from rfl, show (407 : Int32) = nI 407 from rfl, show (408 : Int32) = nI 408 from rfl, show (409 : Int32) = nI 409 from rfl, show (410 : Int32) = nI 410 from rfl, show (411 : Int32) = nI 411 from rfl,
        kE 400 (by decide), kE 401 (by decide), kE 402 (by decide), kE 403 (by decide), kE 404 (by decide), kE 405 (by decide), kE 406 (by decide), kE 407 (by decide), kE 408 (by decide), kE 409 (by decide), kE 410 (by decide), kE 411 (by decide)]
      have bd := bad h2 b2 L2
      refine ⟨fun k => ?_, fun n0 => ⟨fun k => ?_, fun n1 => ⟨fun k => bd n0 n1 (by omega) (by omega) (by omega), fun _ => ⟨fun k => bd n0 n1 (by omega) (by omega) (by omega), fun _ => ⟨fun k => bd n0 n1 (by omega) (by omega) (by omega), fun _ => ⟨fun k => ?_, fun n5 => ⟨fun k => ?_, fun n6 => ⟨fun k => bd n0 n1 n5 n6 (by omega), fun _ => ⟨fun k => bd n0 n1 n5 n6 (by omega), fun _ => ⟨fun k => bd n0 n1 n5 n6 (by omega), fun _ => ⟨fun k => bd n0 n1 n5 n6 (by omega), fun _ => ⟨fun k => ?_, fun n11 => bd n0 n1 n5 n6 n11⟩⟩⟩⟩⟩⟩⟩⟩⟩⟩⟩⟩
      · have e : pLn A B t = pMch A B t := by unfold pLn; rw [if_pos k]
        exact cMch L2 k (fun x h' cz' ex b => nx x h' cz' (e.trans ex) (b2.tr b)) (fun e' h' ex b => er e' h' (e.trans ex) (b2.tr b))
      · have e : pLn A B t = pVar A B t := by unfold pLn; rw [if_neg n0, if_pos k]
        exact cVar L2 k (fun x h' cz' ex b => nx x h' cz' (e.trans ex) (b2.tr b)) (fun e' h' ex b => er e' h' (e.trans ex) (b2.tr b))
      · have e : pLn A B t = pLaw A B t := by unfold pLn; rw [if_neg n0, if_neg n1, if_pos k]
        exact cLaw L2 k (by rw [g10, decide_eq_true k]; rfl) (by rw [g11, decide_eq_false (by omega)]; rfl) (fun x h' cz' ex b => nx x h' cz' (e.trans ex) (b2.tr b)) (fun e' h' ex b => er e' h' (e.trans ex) (b2.tr b))
      · have e : pLn A B t = pEvt A B t := by unfold pLn; rw [if_neg n0, if_neg n1, if_neg n5, if_pos k]
        exact cEvt L2 U k (by rw [g10, decide_eq_false (by omega)]; rfl) (by rw [g11, decide_eq_true k]; rfl) (fun x h' cz' ex b => nx x h' cz' (e.trans ex) (b2.tr b)) (fun e' h' ex b => er e' h' (e.trans ex) (b2.tr b))
      · have e : pLn A B t = pVnt A B t := by unfold pLn; rw [if_neg n0, if_neg n1, if_neg n5, if_neg n6, if_pos k]
        exact cVnt L2 k (by rw [g10, decide_eq_false (by omega)]; rfl) (by rw [g11, decide_eq_false (by omega)]; rfl) (fun x h' cz' ex b => nx x h' cz' (e.trans ex) (b2.tr b)) (fun e' h' ex b => er e' h' (e.trans ex) (b2.tr b))
    have j25 : ∀ (s1 : Int32), s1 = bI (decide (tkK B t = 405)) → wX5_readLines_j25 S (wX5_readLines_2 S c Q n) h c (nI lines) c s1 Q := by
      intro s1 hs
      have L1 := L.cI (k := 10) (v := s1) (by omega)
      have b1 : Bf c D h (pI h c 10 s1) := Bf.rf.pI (by omega)
      have g10 : gI (pI h c 10 s1) c 10 = bI (decide (tkK B t = 405)) := by rw [gI_pI, if_pos ⟨rfl, rfl⟩]; exact hs
      refine ⟨hc6, by rw [hs]; exact bI_and _, hc6, ?_⟩
      generalize pI h c 10 s1 = h1 at L1 b1 g10
      refine cKind L1.1 ?_
      rw [show (406 : Int32) = nI 406 from rfl, kEq L1.1 (by decide)]
      exact ⟨fun n6 => j44 h1 0 b1 L1 g10 (by rw [decide_eq_false n6]; rfl), fun k6 => j44 h1 1 b1 L1 g10 (by rw [decide_eq_true k6]; rfl)⟩
    exact ⟨fun n5 => j25 0 (by rw [decide_eq_false n5]; rfl), fun k5 => j25 1 (by rw [decide_eq_true k5]; rfl)⟩
