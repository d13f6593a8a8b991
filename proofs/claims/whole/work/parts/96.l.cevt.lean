theorem pDo_er {A : Ab} {B : Bx} {m t : Nat} {e : Nat × Nat} (h : pDo A B m t = .error e) : (tkK B t ≠ 410 ∧ e = (1, t)) ∨ (tkK B t = 410 ∧ pGs A B m 4 0 (fun _ => []) (t + 1) = .error e) := by
  unfold pDo at h
  by_cases c : tkK B t = 410
  · rw [if_neg (fun n => n c)] at h
    exact Or.inr ⟨c, h⟩
  · rw [if_pos c] at h
    cases h
    exact Or.inl ⟨c, rfl⟩
theorem pDo_ok {A : Ab} {B : Bx} {m t : Nat} {y : Nat × (Nat → Cd) × Nat} (h : pDo A B m t = .ok y) : tkK B t = 410 ∧ pGs A B m 4 0 (fun _ => []) (t + 1) = .ok y := by
  unfold pDo at h
  by_cases c : tkK B t = 410
  · rw [if_neg (fun n => n c)] at h
    exact ⟨c, h⟩
  · rw [if_pos c] at h
    cases h
theorem cEvt {A : Ab} {B : Bx} {S : Sh} {h : Hp} {c D N t cz : Nat} {Q : Int32 → Hp → Prop} (L : CL A B S h c D N t cz) (U : unA A) (hk : tkK B t = 406) (f10 : gI h c 10 = 0) (f11 : gI h c 11 = 1)
    (q1 : ∀ x h' cz', pEvt A B t = .ok x → Bf c D h h' → CL x.1 B S h' c D N x.2 cz' → Q 1 h') (q0 : ∀ e h', pEvt A B t = .error e → Bf c D h h' → gI h' c 2 = nI e.1 → gI h' c 3 = nI (tkP B e.2) → Q 0 h') : wX5_readEvent S h c Q := by
  have R0 := L.rl
  have hN := L.1.1.2.2.2.2.2.2.2.2.2.2.1
  have nn := L.1.n
  have Pw := fun x (e : pEvt A B t = .ok x) => pEvt_w hN nn.1 nn.2 (by omega) L.2.2.2.2.1 e
  obtain ⟨P, K, r5, ⟨d5, d6, hz⟩, W, Dm, ⟨n, T⟩, z0⟩ := L
  obtain ⟨hDS, hDR, out, r4, s6, r1⟩ := K
  have hc6 : (S c).1 = 6 := by rw [P.1.1]
  have z1 : (0 : Int32) &&& 1 = 0 := by decide
  have h3 := W.1
  have M := hDS.2.2.2.2.2.2 (cM A) (by unfold cM; omega)
  have hM3 : (S (D + 6 + 145 * cM A)).1 = 3 := by rw [M.1]
  have tl := tcN_le W
  have hn := T.2.1
  unfold pEvt at q1 q0 Pw
  unfold wX5_readEvent
  rw [r5]
  refine ⟨hc6, hM3, ?_⟩
  by_cases c1 : aMM A = 0 ∨ aVm A (cM A) = 0
  · rw [if_pos c1] at q0
    have e11 : gI h (D + 6 + 145 * cM A) 11 = 0 := by
      by_cases c0 : aMM A = 0
      · have : cM A = 0 := by unfold cM; omega
        rw [this]; exact z0 c0
      · rw [(Dm (cM A) (cM_lt c0)).2.1, c1.resolve_left c0]; rfl
    exact ⟨fun n => absurd e11 n, fun _ => cFail P ⟨z1, q0 _ _ rfl (Bf.rf.fl) cfl_f.1 cfl_f.2⟩⟩
  rw [if_neg c1] at q1 q0 Pw
  have c0 : aMM A ≠ 0 := fun e => c1 (Or.inl e)
  have tl := tl.2 c0
  have hm := cM_lt c0
  obtain ⟨w1, w2, w3, -⟩ := W.2.1 (cM A) hm
  rw [(Dm (cM A) hm).2.1, (Dm (cM A) hm).2.2.2.2.1]
  refine ⟨fun _ => ?_, fun e => absurd e (nI_ne0 (by omega) (by omega))⟩
  by_cases c4 : 4 ≤ aEm A (cM A)
  · rw [if_pos c4] at q0
    exact br_f (nI_nlt (b := 4) c4 (by omega)) (cFail P ⟨z1, q0 _ _ rfl (Bf.rf.fl) cfl_f.1 cfl_f.2⟩)
  rw [if_neg c4] at q1 q0 Pw
  have he : aEm A (cM A) < 4 := by omega
  refine br_t (nI_lt (b := 4) (by omega) (by decide)) (cAdv P (by omega) fun P1 => ?_)
  have R1 := R0.cI (k := 8) (v := nI (t + 1)) W
  have F1 : gI (pI h c 8 (nI (t + 1))) c 10 = 0 ∧ gI (pI h c 8 (nI (t + 1))) c 11 = 1 := ⟨by rw [gI_pI, if_neg (by omega)]; exact f10, by rw [gI_pI, if_neg (by omega)]; exact f11⟩
  have T1 : Tol A (pI h c 8 (nI (t + 1))) c n := T.same (by rw [gI_pI, if_neg (by omega)]) (fun _ => rfl) rfl (fun _ => Iff.rfl)
  generalize pI h c 8 (nI (t + 1)) = h1 at P1 R1 F1 T1
  refine cNew P1 s6 R1.2.1.2.2.2.2.2 T1 (by unfold cM at *; omega) (fun k1 => ?_) (fun k1 ht => ?_) (fun k1 ht => ?_)
  · rw [if_pos k1] at q0
    exact ⟨fun n => absurd rfl n, fun _ => q0 _ _ rfl R1.1.fl cfl_f.1 cfl_f.2⟩
  · rw [if_neg (fun n => n k1), if_pos (toldB_t.mpr ht)] at q0
    exact ⟨fun n => absurd rfl n, fun _ => q0 _ _ rfl R1.1.fl cfl_f.1 cfl_f.2⟩
  rw [if_neg (fun n => n k1), if_neg (fun q => ht (toldB_t.mp q))] at q1 q0 Pw
  refine ⟨fun _ => ?_, fun n => absurd n (by decide)⟩
  have R2 := (R1.nJ (k := n) (v := lN (tkC B (t + 1))) W).cI (k := 7) (v := nI (n + 1)) W
  have T2 := T1.pend (w := tkC B (t + 1))
  have P2 : Cp B S (pI (pJ h1 (c + 6) n (lN (tkC B (t + 1)))) c 7 (nI (n + 1))) c N (t + 1) := ⟨P1.1.of ((Sm.rf.pJ (by omega) _ _).pI (by omega) _ _) rfl, by rw [gI_pI, if_neg (by omega), gI_pJ]; exact P1.2.1, P1.2.2⟩
  have F2 : gI (pI (pJ h1 (c + 6) n (lN (tkC B (t + 1)))) c 7 (nI (n + 1))) c 10 = 0 ∧ gI (pI (pJ h1 (c + 6) n (lN (tkC B (t + 1)))) c 7 (nI (n + 1))) c 11 = 1 := ⟨by rw [gI_pI, if_neg (by omega), gI_pJ]; exact F1.1, by rw [gI_pI, if_neg (by omega), gI_pJ]; exact F1.2⟩
  generalize pI (pJ h1 (c + 6) n (lN (tkC B (t + 1)))) c 7 (nI (n + 1)) = h2 at R2 T2 P2 F2
  obtain ⟨b2, K2, r52, ⟨d52, d62⟩, Dm2⟩ := R2
  have mr := K2.2.1.2 (cM A) (by omega)
  rw [r52, (Dm2 (cM A) hm).2.2.2.2.1, mr.2.1 5 (by omega), ix_nI (by omega), show D + 6 + 145 * cM A + 1 + 5 = D + 6 + 145 * cM A + 6 by omega, (mr.2.2.1 (aEm A (cM A)) he).1]
  refine ⟨hM3, inA_of M.2.2.2.2.2.2.1 (by omega) (by decide), nm_e ?_⟩
  have es := M.2.2.2.2.2.2.2.2.2.2.2.1 (aEm A (cM A)) he
  have X2 : CLx A B S h2 c D N (t + 1) cz (cM A) := ⟨P2, K2, ⟨d62, by omega, W.1, fun i hi => (W.2.1 i hi).2.2.1⟩, fun i hi _ => Dm2 i hi⟩
  have D2 := Dm2 (cM A) hm
  generalize hv : D + 6 + 145 * cM A + 11 + 5 * aEm A (cM A) = v at *
  have hve : (S v).1 = 1 := by rw [es.1]
  have X3 := X2.cR (k := 6) (v := v) (by omega)
  have r63 : gR (pR h2 c 6 v) c 6 = v ∧ gR (pR h2 c 6 v) c 5 = D + 6 + 145 * cM A := ⟨by rw [gR_pR, if_pos ⟨rfl, rfl⟩], by rw [gR_pR, if_neg (by omega)]; exact r52⟩
  have b3 : Bf c D h (pR h2 c 6 v) := b2.pR (by omega)
  have g3i : ∀ b k, gI (pR h2 c 6 v) b k = gI h2 b k := fun _ _ => rfl
  have g3j : ∀ b k, gJ (pR h2 c 6 v) b k = gJ h2 b k := fun _ _ => rfl
  generalize pR h2 c 6 v = h3' at X3 r63 b3 g3i g3j
  refine cCode X3.1 k1 ?_
  rw [r63.1]
  refine ⟨hve, ⟨hve, nm_e (nm_e (nm_e (nm_e (nm_e (nm_e ?_)))))⟩⟩
  -- the event is cleared, and counted
  have vr : D + 6 + 145 * cM A ≤ v ∧ v < D + 6 + 145 * cM A + 31 := by omega
  have X4 := ((((((X3.mJ (b := v) (k := 4) (Or.inl vr) (by omega) (lN (tkC B (t + 1)))).mI (b := v) (k := 5) vr (by omega) (-2)).mI (b := v) (k := 6) vr (by omega) 0).mI (b := v) (k := 7) vr (by omega) 0).mI (b := v) (k := 8) vr (by omega) 0).mI (b := v) (k := 9) vr (by omega) (-1)).mI (b := v) (k := 10) vr (by omega) 0
  have b4 : Bf c D h (pI (pI (pI (pI (pI (pI (pJ h3' v 4 (lN (tkC B (t + 1)))) v 5 (-2)) v 6 0) v 7 0) v 8 0) v 9 (-1)) v 10 0) := ((((((b3.pJ (by omega)).pI (by omega)).pI (by omega)).pI (by omega)).pI (by omega)).pI (by omega)).pI (by omega)
  have g4 : ∀ b k, gI (pI (pI (pI (pI (pI (pI (pJ h3' v 4 (lN (tkC B (t + 1)))) v 5 (-2)) v 6 0) v 7 0) v 8 0) v 9 (-1)) v 10 0) b k = if b = v ∧ k = 10 then 0 else if b = v ∧ k = 9 then -1 else if b = v ∧ k = 8 then 0 else if b = v ∧ k = 7 then 0 else if b = v ∧ k = 6 then 0 else if b = v ∧ k = 5 then -2 else gI h3' b k := fun b k => by rw [gI_pI, gI_pI, gI_pI, gI_pI, gI_pI, gI_pI, gI_pJ]
  have j4 : ∀ b k, gJ (pI (pI (pI (pI (pI (pI (pJ h3' v 4 (lN (tkC B (t + 1)))) v 5 (-2)) v 6 0) v 7 0) v 8 0) v 9 (-1)) v 10 0) b k = if b = v ∧ k = 4 then lN (tkC B (t + 1)) else gJ h3' b k := fun b k => by rw [gJ_pI, gJ_pI, gJ_pI, gJ_pI, gJ_pI, gJ_pI, gJ_pJ]
  have r4' : ∀ b k, gR (pI (pI (pI (pI (pI (pI (pJ h3' v 4 (lN (tkC B (t + 1)))) v 5 (-2)) v 6 0) v 7 0) v 8 0) v 9 (-1)) v 10 0) b k = gR h3' b k := fun _ _ => rfl
  generalize pI (pI (pI (pI (pI (pI (pJ h3' v 4 (lN (tkC B (t + 1)))) v 5 (-2)) v 6 0) v 7 0) v 8 0) v 9 (-1)) v 10 0 = h4 at X4 b4 g4 j4 r4'
  show (S (gR h4 c 5)).1 = 3 ∧ wX5_advance S (pI h4 (gR h4 c 5) 14 (gI h4 (gR h4 c 5) 14 + 1)) c _
  have e14 : gI h4 (D + 6 + 145 * cM A) 14 = nI (aEm A (cM A)) := by
    rw [g4, if_neg (by omega), if_neg (by omega), if_neg (by omega), if_neg (by omega), if_neg (by omega), if_neg (by omega), g3i]; exact D2.2.2.2.2.1
  rw [r4', r63.2, e14, nI_1]
  refine ⟨hM3, ?_⟩
  have X5 := X4.mI (b := D + 6 + 145 * cM A) (k := 14) ⟨by omega, by omega⟩ (by omega) (nI (aEm A (cM A) + 1))
  have H5 : EvL A S h (pI h4 (D + 6 + 145 * cM A) 14 (nI (aEm A (cM A) + 1))) c D cz (cM A) n (tkC B (t + 1)) := by
    have gi : ∀ b k, b ≠ v → (b ≠ D + 6 + 145 * cM A ∨ k ≠ 14) → gI (pI h4 (D + 6 + 145 * cM A) 14 (nI (aEm A (cM A) + 1))) b k = gI h2 b k := fun b k hb hb2 => by
      rw [gI_pI, if_neg (by omega), g4, if_neg (fun q => hb q.1), if_neg (fun q => hb q.1), if_neg (fun q => hb q.1), if_neg (fun q => hb q.1), if_neg (fun q => hb q.1), if_neg (fun q => hb q.1), g3i]
    have gj : ∀ b k, (b ≠ v ∨ k ≠ 4) → gJ (pI h4 (D + 6 + 145 * cM A) 14 (nI (aEm A (cM A) + 1))) b k = gJ h2 b k := fun b k hb => by
      rw [gJ_pI, j4, if_neg (by omega), g3j]
    refine ⟨b4.pI (by omega), X5.2.1, ⟨?_, ?_⟩, ⟨?_, X5.2.2.1.1⟩, ⟨?_, ?_⟩, ⟨?_, T2.2.1, fun u => ?_⟩, ?_, X5.2.2.2, ?_, ?_, ?_⟩
    · rw [gR_pI, r4']; exact r63.2
    · rw [gR_pI, r4', hv]; exact r63.1
    · rw [gi _ _ (by omega) (by omega)]; exact d52
    · rw [gi _ _ (by omega) (by omega)]; exact F2.1
    · rw [gi _ _ (by omega) (by omega)]; exact F2.2
    · rw [gi _ _ (by omega) (by omega)]; exact T2.1
    · have : ∀ i, gJ (pI h4 (D + 6 + 145 * cM A) 14 (nI (aEm A (cM A) + 1))) (c + 6) i = gJ h2 (c + 6) i := fun i => gj _ _ (by omega)
      simp only [this]
      exact T2.2.2 u
    · rw [gI_pI, if_pos ⟨rfl, rfl⟩]
    · refine D2.ev he (fun q q1 q2 q3 q4 k => ?_) (fun q hq k => ?_) (Cgr.rf ?_ (fun j => ?_))
      · rw [hv] at q3
        rw [gI_pI]
        by_cases ce : q = D + 6 + 145 * cM A ∧ k = 14
        · rw [if_pos ce, ce.1, ce.2]; exact D2.2.2.2.2.1.symm
        · rw [if_neg ce, gi _ _ q3 (by omega)]
      · rw [gJ_pI, gj _ _ (by omega)]
      · rw [gI_pI, if_neg (by omega), gi _ _ (by omega) (by omega)]
      · rw [gI_pI, if_neg (by omega), gi _ _ (by omega) (by omega)]
    · rw [hv, gJ_pI, j4, if_pos ⟨rfl, rfl⟩]
    · rw [hv, gI_pI, if_neg (by omega), g4, if_pos ⟨rfl, rfl⟩]
  have P5 := X5.1
  have g5 : gI (pI h4 (D + 6 + 145 * cM A) 14 (nI (aEm A (cM A) + 1))) v 5 = -2 ∧ gI (pI h4 (D + 6 + 145 * cM A) 14 (nI (aEm A (cM A) + 1))) v 6 = 0 ∧ gI (pI h4 (D + 6 + 145 * cM A) 14 (nI (aEm A (cM A) + 1))) v 7 = 0 ∧ gI (pI h4 (D + 6 + 145 * cM A) 14 (nI (aEm A (cM A) + 1))) v 8 = 0 := by
    have gv : ∀ k, gI (pI h4 (D + 6 + 145 * cM A) 14 (nI (aEm A (cM A) + 1))) v k = gI h4 v k := fun k => by rw [gI_pI, if_neg (by omega)]
    refine ⟨?_, ?_, ?_, ?_⟩
    · rw [gv, g4]; simp
    · rw [gv, g4]; simp
    · rw [gv, g4]; simp
    · rw [gv, g4]; simp
  generalize pI h4 (D + 6 + 145 * cM A) 14 (nI (aEm A (cM A) + 1)) = h5 at X5 H5 P5 g5
  refine cAdv P5 (by omega) fun (P6 : Cp B S _ c N (t + 2)) => ?_
  have H6 := H5.cI (k := 8) (x := nI (t + 1 + 1)) W hm he (by omega)
  have g6 : ∀ k, gI (pI h5 c 8 (nI (t + 1 + 1))) v k = gI h5 v k := fun k => by rw [gI_pI, if_neg (by omega)]
  generalize pI h5 c 8 (nI (t + 1 + 1)) = h6 at P6 H6 g6
  have st : ∀ (h' : Hp) (x : Int32), EvL A S h h' c D cz (cM A) n (tkC B (t + 1)) → EvL A S h (pI h' c 8 x) c D cz (cM A) n (tkC B (t + 1)) := fun h' x H => H.cI W hm he (by omega)
  have stE : ∀ (h' : Hp) (k : Nat) (x : Int32), k ≠ 10 → EvL A S h h' c D cz (cM A) n (tkC B (t + 1)) → EvL A S h (pI h' v k x) c D cz (cM A) n (tkC B (t + 1)) := fun h' k x hk H => H.vI W hm he (Or.inl ⟨hv.symm, hk⟩)
  have cpE : ∀ (h' : Hp) (k : Nat) (x : Int32) (t' : Nat), Cp B S h' c N t' → Cp B S (pI h' v k x) c N t' := fun h' k x t' P' => ⟨P'.1.of (Sm.rf.pI (by omega) _ _) rfl, by rw [gI_pI, if_neg (by omega)]; exact P'.2.1, P'.2.2⟩
  have fin : ∀ (o : Nat × Nat) (p : Ct3) (h7 : Hp), pOf A B (cM A) (t + 2) = .ok o → pPk B o.2 = .ok p → Cp B S h7 c N p.2.2 → t + 2 ≤ p.2.2 → EvL A S h h7 c D cz (cM A) n (tkC B (t + 1)) → gI h7 v 5 = (if o.1 = 0 then -2 else nI (o.1 - 1)) → gI h7 v 6 = nI p.1 → gI h7 v 7 = nI p.2.1 → gI h7 v 8 = 0 → wX5_readEvent_j127 S h7 c Q := by
    intro o p h7 eo ep P7 hp H7 v5 v6 v7 v8
    simp only [eo, ep] at q1 q0 Pw
    refine ⟨hc6, hc6, cKind P7 ?_⟩
    rw [show (409 : Int32) = nI 409 from rfl, kEq P7 (by decide)]
    refine ⟨fun k2 => cAdv P7 (by omega) fun P8 => ⟨fun _ => ?_, fun n => absurd n (by decide)⟩, fun k2 => cFail P7 ⟨z1, ⟨fun n => absurd rfl n, fun _ => q0 (1, p.2.2) _ (by rw [if_pos k2]) H7.1.fl cfl_f.1 cfl_f.2⟩⟩⟩
    simp only [if_neg (fun n : tkK B p.2.2 ≠ 409 => n k2)] at q1 q0 Pw
    have H8 := H7.cI (k := 8) (x := nI (p.2.2 + 1)) W hm he (by omega)
    have g8 : ∀ k, gI (pI h7 c 8 (nI (p.2.2 + 1))) v k = gI h7 v k := fun k => by rw [gI_pI, if_neg (by omega)]
    generalize pI h7 c 8 (nI (p.2.2 + 1)) = h8 at P8 H8 g8
    rw [H8.2.2.1.2, hv]
    refine ⟨hc6, nm_e ?_⟩
    have H9 := H8.cI (k := 9) (x := 0) W hm he (by omega)
    have P9 : Cp B S (pI h8 c 9 0) c N (p.2.2 + 1) := ⟨P8.1.of (Sm.rf.pI (by omega) _ _) rfl, by rw [gI_pI, if_neg (by omega)]; exact P8.2.1, P8.2.2⟩
    have g9 : (∀ k, gI (pI h8 c 9 0) v k = gI h7 v k) ∧ gI (pI h8 c 9 0) c 9 = 0 := ⟨fun k => by rw [gI_pI, if_neg (by omega), g8], by rw [gI_pI, if_pos ⟨rfl, rfl⟩]⟩
    generalize pI h8 c 9 0 = h9 at P9 H9 g9
    rw [H9.2.1.2.2.2.1, H9.2.2.2.1.2]
    refine ⟨by rw [hDS.1], hve, ?_⟩
    have Ha := H9.vI (b := v) (k := 9) (x := nI cz) W hm he (Or.inl ⟨hv.symm, by omega⟩)
    have Pa := cpE h9 9 (nI cz) _ P9
    have ga : gI (pI h9 v 9 (nI cz)) v 9 = nI cz ∧ (∀ k, k ≠ 9 → gI (pI h9 v 9 (nI cz)) v k = gI h7 v k) ∧ gI (pI h9 v 9 (nI cz)) c 9 = 0 := ⟨by rw [gI_pI, if_pos ⟨rfl, rfl⟩], fun k hk => by rw [gI_pI, if_neg (fun q => hk q.2), g9.1], by rw [gI_pI, if_neg (by omega)]; exact g9.2⟩
    generalize pI h9 v 9 (nI cz) = ha at Pa Ha ga
    have Ea : CE A B S ha c D N (cM A) 1 (p.2.2 + 1) 0 cz := ⟨Pa, Ha.cn W c0, ga.2.2, Ha.2.2.2.1.2⟩
    refine cCodeX (pTs_pg 8) cRT Ea (by omega) (fun x hb ex f Pb d6b hzb _ cc cg => ?_) (fun e h' ex f e2 e3 => q0 e h' (by rw [ex]) (Ha.1.tr (Bf.fx f)) e2 e3)
    simp only [ex] at q1 q0 Pw
    have Hb := Ha.fx W hm he f d6b cg
    have gb : ∀ k, gI hb v k = gI ha v k := fun k => f.1 v (by omega) (by omega) (by omega) k
    refine cGs W c0 he Pb Hb hzb (by rw [hv, gb, ga.2.1 8 (by omega)]; exact v8) (fun e h' ey b e2 e3 => ⟨fun _ => ?_, fun n => absurd rfl n⟩) (fun y h' cz' ey Py Hy hzy Iy cgy gky => ⟨fun n => absurd n (by decide), fun _ => ?_⟩)
    · rcases pDo_er ey with ⟨kx, eq⟩ | ⟨kx, eq⟩
      · rw [eq] at e2 e3
        exact q0 (1, x.1) h' (by rw [if_pos kx]) b e2 e3
      · exact q0 e h' (by rw [if_neg (fun n => n kx), eq]) b e2 e3
    · obtain ⟨kx, eq⟩ := pDo_ok ey
      rw [hv] at Iy gky
      have okx : (if tkK B x.1 ≠ 410 then (.error (1, x.1) : LR2) else match pGs A B (cM A) 4 0 (fun _ => []) (x.1 + 1) with | .error e => .error e | .ok y => .ok (addE A (cM A) (tkC B (t + 1)) o.1 p.1 p.2.1 y.1 x.2.2 y.2.1, y.2.2)) = .ok (addE A (cM A) (tkC B (t + 1)) o.1 p.1 p.2.1 y.1 x.2.2 y.2.1, y.2.2) := by
        rw [if_neg (fun n => n kx), eq]
      have W' := Pw _ okx
      refine q1 (addE A (cM A) (tkC B (t + 1)) o.1 p.1 p.2.1 y.1 x.2.2 y.2.1, y.2.2) h' cz' okx Hy.1 ?_
      have emm : aMM (addE A (cM A) (tkC B (t + 1)) o.1 p.1 p.2.1 y.1 x.2.2 y.2.1) = aMM A := addE_m.1
      have cm := cM_eq emm
      obtain ⟨by1, Ky, ⟨ry5, ry6⟩, ⟨dy5, dy6⟩, -, Ty, ey14, Dmy, Dey, ejy, evy⟩ := Hy
      rw [hv] at ejy evy
      refine ⟨Py, Ky, by rw [cm]; exact ry5, ⟨by show gI h' D 5 = nI (aMM _); rw [emm]; exact dy5, dy6, hzy⟩, W', fun i hi => ?_, ⟨n + 1, Ty.done rfl (fun _ => rfl) (tcN_E hm h3 he) (told_E hm h3 he)⟩, fun q => absurd (emm.symm.trans q) c0⟩
      have hi : i < aMM A := by have := hi; rw [emm] at this; exact this
      by_cases ci : i = cM A
      · subst ci
        have vy : ∀ k, k ≠ 8 → k ≠ 9 → gI h' v k = gI h7 v k := fun k h8 h9 => by rw [gky k h8, gb, ga.2.1 k h9]
        refine DrM_E (f9 := cz) (by omega) he Dey ey14 (by rw [hv]; exact ejy) (by rw [hv, vy 5 (by omega) (by omega)]; exact v5) (by rw [hv, vy 6 (by omega) (by omega)]; exact v6) (by rw [hv, vy 7 (by omega) (by omega)]; exact v7) (by rw [hv, gky 9 (by omega), gb]; exact ga.1) (cgy _ _ cc) (by rw [hv]; exact evy) (by rw [hv]; exact Iy) w1
      · exact (Dmy i hi ci).of (W.2.1 i hi).2.2.1 (addE_ag ci (by omega) he) (fun q q1 q2 k => ⟨rfl, rfl⟩) (fun f L H => H)
  have pk : ∀ (o : Nat × Nat) (h7 : Hp), pOf A B (cM A) (t + 2) = .ok o → Cp B S h7 c N o.2 → t + 2 ≤ o.2 → EvL A S h h7 c D cz (cM A) n (tkC B (t + 1)) → gI h7 v 5 = (if o.1 = 0 then -2 else nI (o.1 - 1)) → gI h7 v 6 = 0 → gI h7 v 7 = 0 → gI h7 v 8 = 0 → wX5_readEvent_j110 S h7 c Q := by
    intro o h7 eo P7 ho H7 v5 v6 v7 v8
    refine ⟨hc6, cKind P7 ?_⟩
    rw [show (408 : Int32) = nI 408 from rfl, kEq P7 (by decide)]
    refine ⟨fun k2 => ?_, fun k2 => ?_⟩
    · exact fin o (0, 0, o.2) h7 eo (by unfold pPk; rw [if_pos k2]) P7 ho H7 v5 v6 v7 v8
    · refine cPk (R := fun h' => EvL A S h h' c D cz (cM A) n (tkC B (t + 1))) st stE (by omega) hve (fun h' H => by rw [H.2.2.1.2, hv]) cpE P7 H7 k2 (fun e h' ee H => ⟨fun _ => ?_, fun n => absurd rfl n⟩) (fun h' ee P8 H8 y6 y7 yk => ⟨fun n => absurd n (by decide), fun _ => ?_⟩)
      · simp only [eo, ee] at q0
        exact q0 e _ rfl H.1.fl cfl_f.1 cfl_f.2
      · exact fin o _ h' eo ee P8 (by show t + 2 ≤ o.2 + 4; omega) H8 (by rw [yk 5 (by omega) (by omega)]; exact v5) y6 y7 (by rw [yk 8 (by omega) (by omega)]; exact v8)
  refine cKind P6 ?_
  rw [show (407 : Int32) = nI 407 from rfl, kEq P6 (by decide)]
  refine ⟨fun k2 => ?_, fun k2 => ?_⟩
  · exact pk (0, t + 2) h6 (by unfold pOf; rw [if_pos k2]) P6 (Nat.le_refl _) H6 (by rw [g6]; exact g5.1) (by rw [g6]; exact g5.2.1) (by rw [g6]; exact g5.2.2.1) (by rw [g6]; exact g5.2.2.2)
  · refine cOf (A := A) (D := D) (m := cM A) (R := fun h' => EvL A S h h' c D cz (cM A) n (tkC B (t + 1))) st stE (by omega) hve (by omega) hDS (fun h0 e1 e2 l1 l2 => U (cM A - 1) (by omega) e1 e2 l1 l2) (fun h0 => (W.2.1 (cM A - 1) (by omega)).2.2.1) (fun h' H => ?_) cpE P6 H6 (by rw [g6]; exact g5.1) k2 (fun e h' ee H => ⟨fun _ => ?_, fun n => absurd rfl n⟩) (fun e h' ee e4 P8 H8 y5 yk => ⟨fun n => absurd n (by decide), fun _ => ?_⟩)
    · obtain ⟨hb, K', ⟨r5', r6'⟩, ⟨d5', d6'⟩, -, -, -, Dm', -, -, -⟩ := H
      refine ⟨by rw [r6', hv], K'.2.2.2.1, ?_, K'.2.1.1 0 (by omega), fun i hi => (K'.2.1.2 i hi).1, fun h0 => ?_⟩
      · rw [d5']
        congr 1
        unfold cM
        omega
      · have Da := Dm' (cM A - 1) (by omega) (by omega)
        have mr' := K'.2.1.2 (cM A - 1) (by omega)
        have e4 := (W.2.1 (cM A - 1) (by omega)).2.2.1
        exact ⟨Da.2.2.2.2.1, by rw [mr'.2.1 5 (by omega)], fun e hee => ⟨(mr'.2.2.1 e (by omega)).1, (Da.2.2.2.2.2.2.2.2.2 e hee).1⟩⟩
    · simp only [ee] at q0
      exact q0 e _ rfl H.1.fl cfl_f.1 cfl_f.2
    · exact pk _ h' ee P8 (by show t + 2 ≤ t + 2 + 2; omega) H8 (by rw [if_neg (show ¬ e + 1 = 0 by omega)]; exact y5) (by rw [yk 6 (by omega), g6]; exact g5.2.1) (by rw [yk 7 (by omega), g6]; exact g5.2.2.1) (by rw [yk 8 (by omega), g6]; exact g5.2.2.2)
