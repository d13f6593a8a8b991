theorem DrM.ev {A : Ab} {h h' : Hp} {D m : Nat} (H : DrM A h D m) (he : aEm A m < 4) (s : ∀ b, D + 6 + 145 * m ≤ b → b < D + 6 + 145 * m + 31 → b ≠ D + 6 + 145 * m + 11 + 5 * aEm A m → b ≠ D + 6 + 145 * m + 11 + 5 * aEm A m + 1 → ∀ k, gI h' b k = gI h b k) (sj : ∀ b, b ≠ D + 6 + 145 * m + 11 + 5 * aEm A m → ∀ k, gJ h' b k = gJ h b k) (cg : Cgr D h h') : DrM A h' D m := by
  obtain ⟨h1, h2, h3, h4, h5, h6, h7, h8, h9, h10⟩ := H
  refine ⟨?_, ?_, ?_, ?_, ?_, fun q => ?_, fun q => ?_, fun v hv => ?_, fun l hl => ?_, fun e he' => ?_⟩
  · rw [sj _ (by omega)]; exact h1
  · rw [s _ (by omega) (by omega) (by omega) (by omega)]; exact h2
  · rw [s _ (by omega) (by omega) (by omega) (by omega)]; exact h3
  · rw [s _ (by omega) (by omega) (by omega) (by omega)]; exact h4
  · rw [s _ (by omega) (by omega) (by omega) (by omega)]; exact h5
  · rw [s _ (by omega) (by omega) (by omega) (by omega)]; exact h6 q
  · obtain ⟨f, f1, f2⟩ := h7 q
    exact ⟨f, by rw [s _ (by omega) (by omega) (by omega) (by omega)]; exact f1, cg _ _ f2⟩
  · rw [s _ (by omega) (by omega) (by omega) (by omega), s _ (by omega) (by omega) (by omega) (by omega), s _ (by omega) (by omega) (by omega) (by omega), sj _ (by omega)]
    exact h8 v hv
  · obtain ⟨f, f1, f2⟩ := h9 l hl
    exact ⟨f, by rw [s _ (by omega) (by omega) (by omega) (by omega)]; exact f1, cg _ _ f2⟩
  · obtain ⟨g1, g2, g3, g4, g5, g6, ⟨f, f1, f2⟩, g8⟩ := h10 e he'
    rw [sj _ (by omega), s _ (by omega) (by omega) (by omega) (by omega), s _ (by omega) (by omega) (by omega) (by omega), s _ (by omega) (by omega) (by omega) (by omega), s _ (by omega) (by omega) (by omega) (by omega), s _ (by omega) (by omega) (by omega) (by omega)]
    refine ⟨g1, g2, g3, g4, g5, g6, ⟨f, by rw [s _ (by omega) (by omega) (by omega) (by omega)]; exact f1, cg _ _ f2⟩, fun v hv hb => ?_⟩
    obtain ⟨f, f1, f2⟩ := g8 v hv hb
    exact ⟨f, by rw [s _ (by omega) (by omega) (by omega) (by omega)]; exact f1, cg _ _ f2⟩
/-- within the line of the event aEm of the machine m -/
def EvL (A : Ab) (S : Sh) (h0 h : Hp) (c D cz m n w : Nat) : Prop := Bf c D h0 h ∧ CK S h c D ∧ (gR h c 5 = D + 6 + 145 * m ∧ gR h c 6 = D + 6 + 145 * m + 11 + 5 * aEm A m) ∧ (gI h D 5 = nI (aMM A) ∧ gI h D 6 = nI cz) ∧ (gI h c 10 = 0 ∧ gI h c 11 = 1) ∧ TolP A h c n w ∧
  gI h (D + 6 + 145 * m) 14 = nI (aEm A m + 1) ∧ (∀ i, i < aMM A → i ≠ m → DrM A h D i) ∧ DrM A (pI h (D + 6 + 145 * m) 14 (nI (aEm A m))) D m ∧ gJ h (D + 6 + 145 * m + 11 + 5 * aEm A m) 4 = lN w ∧ gI h (D + 6 + 145 * m + 11 + 5 * aEm A m) 10 = 0
theorem EvL.upd {A : Ab} {S : Sh} {h0 h h' : Hp} {c D cz cz' m n w : Nat} (W : wdA A) (hm : m < aMM A) (he : aEm A m < 4) (H : EvL A S h0 h c D cz m n w) (hb : ∀ b, b ≠ c → b ≠ D + 6 + 145 * m + 11 + 5 * aEm A m → b ≠ D + 6 + 145 * m + 11 + 5 * aEm A m + 1 → b ≠ D → b ≠ D + 2 → ∀ k, gI h' b k = gI h b k)
    (hj : ∀ b k, gJ h' b k = gJ h b k) (hr : ∀ b k, gR h' b k = gR h b k) (c7 : gI h' c 7 = gI h c 7) (c10 : gI h' c 10 = gI h c 10) (c11 : gI h' c 11 = gI h c 11) (d5 : gI h' D 5 = gI h D 5) (d6 : gI h' D 6 = nI cz') (cg : Cgr D h h') (v10 : gI h' (D + 6 + 145 * m + 11 + 5 * aEm A m) 10 = gI h (D + 6 + 145 * m + 11 + 5 * aEm A m) 10) :
    EvL A S h0 h' c D cz' m n w := by
  obtain ⟨b, K, ⟨r5, r6⟩, ⟨e5, e6⟩, ⟨e10, e11⟩, T, e14, Dm, De, ej, ev⟩ := H
  have out := K.2.2.1
  have h3 := W.1
  have bb : Bf c D h h' := ⟨fun q p1 p2 k => ⟨hb q (by omega) (by omega) (by omega) (by omega) (by omega) k, hj q k⟩, fun q k _ => hr q k⟩
  refine ⟨b.tr bb, K.bf bb (by rw [hr]; exact K.2.2.2.1), ⟨by rw [hr]; exact r5, by rw [hr]; exact r6⟩, ⟨by rw [d5]; exact e5, d6⟩, ⟨by rw [c10]; exact e10, by rw [c11]; exact e11⟩, ⟨c7.trans T.1, T.2.1, fun u => by simp only [hj]; exact T.2.2 u⟩, ?_, fun i hi ci => ?_, ?_, by rw [hj]; exact ej, by rw [v10]; exact ev⟩
  · rw [hb _ (by omega) (by omega) (by omega) (by omega) (by omega)]; exact e14
  · exact (Dm i hi ci).of (W.2.1 i hi).2.2.1 AgM.rf (fun q q1 q2 k => ⟨hb q (by omega) (by omega) (by omega) (by omega) (by omega) k, hj q k⟩) cg
  · refine De.ev he (fun q q1 q2 q3 q4 k => ?_) (fun q _ k => hj q k) (fun f L HH => ?_)
    · rw [gI_pI, gI_pI, hb q (by omega) q3 q4 (by omega) (by omega)]
    · have := cg f L (Cgr.rf (h := pI h (D + 6 + 145 * m) 14 (nI (aEm A m))) (h' := h) (by rw [gI_pI, if_neg (by omega)]) (fun j => by rw [gI_pI, if_neg (by omega)]) f L HH)
      exact Cgr.rf (by rw [gI_pI, if_neg (by omega)]) (fun j => by rw [gI_pI, if_neg (by omega)]) f L this
theorem EvL.fx {A : Ab} {S : Sh} {h0 h h' : Hp} {c D cz cz' m n w : Nat} (W : wdA A) (hm : m < aMM A) (he : aEm A m < 4) (H : EvL A S h0 h c D cz m n w) (f : Fx c D cz h h') (d6 : gI h' D 6 = nI cz') (cg : Cgr D h h') : EvL A S h0 h' c D cz' m n w := by
  have out := H.2.1.2.2.1
  have h3 := W.1
  exact H.upd W hm he (fun b b1 _ _ b4 b5 k => f.1 b b1 b4 b5 k) f.2.2.1 f.2.1 (f.2.2.2.1 7 (by omega) (by omega) (by omega) (by omega)) (f.2.2.2.1 10 (by omega) (by omega) (by omega) (by omega)) (f.2.2.2.1 11 (by omega) (by omega) (by omega) (by omega)) (f.2.2.2.2.1 5 (by omega)) d6 cg (f.1 _ (by omega) (by omega) (by omega) 10)
theorem EvL.cI {A : Ab} {S : Sh} {h0 h : Hp} {c D cz m n w k : Nat} {x : Int32} (W : wdA A) (hm : m < aMM A) (he : aEm A m < 4) (H : EvL A S h0 h c D cz m n w) (hk : k = 8 ∨ k = 9) : EvL A S h0 (pI h c k x) c D cz m n w := by
  have out := H.2.1.2.2.1
  have h3 := W.1
  exact H.upd W hm he (fun b b1 _ _ _ _ j => by rw [gI_pI, if_neg (by omega)]) (fun _ _ => rfl) (fun _ _ => rfl) (by rw [gI_pI, if_neg (by omega)]) (by rw [gI_pI, if_neg (by omega)]) (by rw [gI_pI, if_neg (by omega)]) (by rw [gI_pI, if_neg (by omega)]) (by rw [gI_pI, if_neg (by omega)]; exact H.2.2.2.1.2) (Cgr.rf (by rw [gI_pI, if_neg (by omega)]) (fun j => by rw [gI_pI, if_neg (by omega)])) (by rw [gI_pI, if_neg (by omega)])
theorem EvL.vI {A : Ab} {S : Sh} {h0 h : Hp} {c D cz m n w b k : Nat} {x : Int32} (W : wdA A) (hm : m < aMM A) (he : aEm A m < 4) (H : EvL A S h0 h c D cz m n w) (hb : (b = D + 6 + 145 * m + 11 + 5 * aEm A m ∧ k ≠ 10) ∨ b = D + 6 + 145 * m + 11 + 5 * aEm A m + 1) : EvL A S h0 (pI h b k x) c D cz m n w := by
  have out := H.2.1.2.2.1
  have h3 := W.1
  exact H.upd W hm he (fun q q1 q2 q3 _ _ j => by rw [gI_pI, if_neg (by omega)]) (fun _ _ => rfl) (fun _ _ => rfl) (by rw [gI_pI, if_neg (by omega)]) (by rw [gI_pI, if_neg (by omega)]) (by rw [gI_pI, if_neg (by omega)]) (by rw [gI_pI, if_neg (by omega)]) (by rw [gI_pI, if_neg (by omega)]; exact H.2.2.2.1.2) (Cgr.rf (by rw [gI_pI, if_neg (by omega)]) (fun j => by rw [gI_pI, if_neg (by omega)])) (by rw [gI_pI, if_neg (by omega)])
theorem EvL.cn {A : Ab} {S : Sh} {h0 h : Hp} {c D cz n w : Nat} (W : wdA A) (c0 : aMM A ≠ 0) (H : EvL A S h0 h c D cz (cM A) n w) : CN A S h c D (cM A) 1 := by
  have h3 := W.1
  have hm := cM_lt c0
  obtain ⟨b, K, ⟨r5, r6⟩, ⟨e5, e6⟩, ⟨e10, e11⟩, T, e14, Dm, De, ej, ev⟩ := H
  refine ⟨by omega, K.1, K.2.2.2.1, r5, e10, e11, ?_, K.2.1.1 0 (by omega), K.2.1.1 1 (by omega), fun i hi => ⟨(K.2.1.2 i hi).1, ?_⟩, fun i hi => ⟨(W.2.1 i (by omega)).1, ?_⟩, K.2.2.1⟩
  · rw [e5]
    congr 1
    unfold cM
    omega
  · rw [(K.2.1.2 i hi).2.1 0 (by omega)]
  · by_cases ci : i = cM A
    · subst ci
      refine ⟨?_, fun v hv => (De.2.2.2.2.2.2.2.1 v hv).2.2.2⟩
      have := De.2.1
      rw [gI_pI, if_neg (by omega)] at this
      exact this
    · exact ⟨(Dm i (by omega) ci).2.1, fun v hv => ((Dm i (by omega) ci).2.2.2.2.2.2.2.1 v hv).2.2.2⟩
/-- the sums that are given so far -/
def SmI (h : Hp) (D v gb : Nat) (sc : Nat → Cd) : Prop := gI h v 8 = nI gb ∧ ∀ u, u < 3 → gb / 2 ^ u % 2 = 1 → ∃ f, gI h (v + 1) u = nI f ∧ CCd h D f (sc u)
theorem or_b1 : ∀ g, g < 8 → ∀ v, v < 3 → (g / 2 ^ v % 2 = 1 ∨ nI g ||| shl32 1 (nI v) = nI (g + 2 ^ v)) := by decide +kernel
theorem slA_1 {A : Ab} {m w : Nat} : slI (slA A m 1 w) = ovI (fdI (aVn A m) (lN w) (aVm A m) 0) := by
  unfold slA
  cases fdI (aVn A m) (lN w) (aVm A m) 0 with
  | none => rfl
  | some v => rfl
theorem cG1 {A : Ab} {B : Bx} {S : Sh} {h0 h : Hp} {c D N t cz n w gb : Nat} {sc : Nat → Cd} {Q : Int32 → Hp → Prop} (W : wdA A) (c0 : aMM A ≠ 0) (he : aEm A (cM A) < 4) (P : Cp B S h c N t) (H : EvL A S h0 h c D cz (cM A) n w) (hz : cz ≤ t) (G : GvI A (cM A) gb sc) (I : SmI h D (D + 6 + 145 * cM A + 11 + 5 * aEm A (cM A)) gb sc)
    (q0 : ∀ e h', pG1 A B (cM A) gb sc t = .error e → Bf c D h0 h' → gI h' c 2 = nI e.1 → gI h' c 3 = nI (tkP B e.2) → Q 0 h')
    (q1 : ∀ x h' cz', pG1 A B (cM A) gb sc t = .ok x → Cp B S h' c N x.2.2 → EvL A S h0 h' c D cz' (cM A) n w → cz' ≤ x.2.2 → SmI h' D (D + 6 + 145 * cM A + 11 + 5 * aEm A (cM A)) x.1 x.2.1 → Cgr D h h' → (∀ k, k ≠ 8 → gI h' (D + 6 + 145 * cM A + 11 + 5 * aEm A (cM A)) k = gI h (D + 6 + 145 * cM A + 11 + 5 * aEm A (cM A)) k) → Q 1 h') : wX5_readGiving S h c Q := by
  have h3 := W.1
  have hm := cM_lt c0
  have hc6 : (S c).1 = 6 := by rw [P.1.1]
  have z1 : (0 : Int32) &&& 1 = 0 := by decide
  have out := H.2.1.2.2.1
  have v3 := (W.2.1 _ hm).1
  have M := H.2.1.1.2.2.2.2.2.2 (cM A) (by omega)
  have es := M.2.2.2.2.2.2.2.2.2.2.2.1 (aEm A (cM A)) he
  have cn := H.cn W c0
  generalize hv : D + 6 + 145 * cM A + 11 + 5 * aEm A (cM A) = v at *
  have hve : (S v).1 = 1 := by rw [es.1]
  have rd := H.2.1.2.1
  unfold pG1 at q0 q1
  refine ⟨hc6, cKind P ?_⟩
  rw [show (302 : Int32) = nI 302 from rfl, kEq P (by decide)]
  refine ⟨fun k0 => cCode P k0 (cSlot P.1.1 cn ?_), fun k0 => cFail P ⟨z1, q0 (1, t) _ (by rw [if_pos k0]) H.1.fl cfl_f.1 cfl_f.2⟩⟩
  rw [if_neg (fun n => n k0)] at q0 q1
  rw [slA_1]
  cases hf : fdI (aVn A (cM A)) (lN (tkC B t)) (aVm A (cM A)) 0 with
  | none =>
    rw [hf] at q0
    exact ⟨fun _ => cFail P ⟨z1, q0 (3, t) _ rfl H.1.fl cfl_f.1 cfl_f.2⟩, fun n => absurd rfl n⟩
  | some u =>
    have hu := fdI_s hf
    rw [hf] at q0 q1
    simp only at q0 q1
    rw [show ovI (some u) = nI u from rfl]
    refine ⟨fun e => absurd e.symm (nI_neg (by omega)), fun _ => ?_⟩
    have g8 := G.1
    rw [H.2.2.1.2, hv, I.1, bit_n (by omega) (by omega)]
    refine ⟨hve, ?_⟩
    by_cases cb : gb / 2 ^ u % 2 = 1
    · rw [if_pos cb] at q0
      rw [cb]
      exact ⟨fun n => absurd n (by decide), fun _ => cFail P ⟨z1, q0 (3, t) _ rfl H.1.fl cfl_f.1 cfl_f.2⟩⟩
    rw [if_neg cb] at q0 q1
    refine ⟨fun _ => cAdv P (by omega) fun P1 => ?_, fun n => absurd (show nI (gb / 2 ^ u % 2) = 0 by rw [show gb / 2 ^ u % 2 = 0 by omega]; rfl) n⟩
    have H1 := H.cI (k := 8) (x := nI (t + 1)) W hm he (by omega)
    have g1 : ∀ k, gI (pI h c 8 (nI (t + 1))) v k = gI h v k := fun k => by rw [gI_pI, if_neg (by omega)]
    have g1' : ∀ k, gI (pI h c 8 (nI (t + 1))) (v + 1) k = gI h (v + 1) k := fun k => by rw [gI_pI, if_neg (by omega)]
    have cg1 : Cgr D h (pI h c 8 (nI (t + 1))) := Cgr.rf (by rw [gI_pI, if_neg (by omega)]) (fun j => by rw [gI_pI, if_neg (by omega)])
    generalize pI h c 8 (nI (t + 1)) = h1 at P1 H1 g1 g1' cg1
    have e8 : gI h1 v 8 ||| shl32 1 (nI u) = nI (gb + 2 ^ u) := by
      rw [g1, I.1]
      exact (or_b1 gb g8 u (by omega)).resolve_left cb
    rw [H1.2.2.1.2, hv, e8]
    refine ⟨hve, nm_e ?_⟩
    have H2 := H1.vI (b := v) (k := 8) (x := nI (gb + 2 ^ u)) W hm he (Or.inl ⟨hv.symm, by omega⟩)
    have P2 : Cp B S (pI h1 v 8 (nI (gb + 2 ^ u))) c N (t + 1) := ⟨P1.1.of (Sm.rf.pI (by omega) _ _) rfl, by rw [gI_pI, if_neg (by omega)]; exact P1.2.1, P1.2.2⟩
    have g2 : gI (pI h1 v 8 (nI (gb + 2 ^ u))) v 8 = nI (gb + 2 ^ u) ∧ (∀ k, k ≠ 8 → gI (pI h1 v 8 (nI (gb + 2 ^ u))) v k = gI h v k) ∧ ∀ k, gI (pI h1 v 8 (nI (gb + 2 ^ u))) (v + 1) k = gI h (v + 1) k := ⟨by rw [gI_pI, if_pos ⟨rfl, rfl⟩], fun k hk => by rw [gI_pI, if_neg (fun q => hk q.2), g1], fun k => by rw [gI_pI, if_neg (by omega), g1']⟩
    have cg2 : Cgr D h (pI h1 v 8 (nI (gb + 2 ^ u))) := fun f L HH => Cgr.rf (by rw [gI_pI, if_neg (by omega)]) (fun j => by rw [gI_pI, if_neg (by omega)]) f L (cg1 f L HH)
    generalize pI h1 v 8 (nI (gb + 2 ^ u)) = h2 at P2 H2 g2 cg2
    rw [H2.2.2.1.2, hv]
    refine ⟨hve, ⟨hc6, nm_e ?_⟩⟩
    have H3 := H2.cI (k := 9) (x := 0) W hm he (by omega)
    have P3 : Cp B S (pI h2 c 9 0) c N (t + 1) := ⟨P2.1.of (Sm.rf.pI (by omega) _ _) rfl, by rw [gI_pI, if_neg (by omega)]; exact P2.2.1, P2.2.2⟩
    have g3 : gI (pI h2 c 9 0) v 8 = nI (gb + 2 ^ u) ∧ (∀ k, k ≠ 8 → gI (pI h2 c 9 0) v k = gI h v k) ∧ (∀ k, gI (pI h2 c 9 0) (v + 1) k = gI h (v + 1) k) ∧ gI (pI h2 c 9 0) c 9 = 0 := ⟨by rw [gI_pI, if_neg (by omega)]; exact g2.1, fun k hk => by rw [gI_pI, if_neg (by omega)]; exact g2.2.1 k hk, fun k => by rw [gI_pI, if_neg (by omega)]; exact g2.2.2 k, by rw [gI_pI, if_pos ⟨rfl, rfl⟩]⟩
    have cg3 : Cgr D h (pI h2 c 9 0) := fun f L HH => Cgr.rf (by rw [gI_pI, if_neg (by omega)]) (fun j => by rw [gI_pI, if_neg (by omega)]) f L (cg2 f L HH)
    have er : gR h2 v 0 = v + 1 := by
      have := (H2.2.1.2.1.2 (cM A) (by omega)).2.2.1 (aEm A (cM A)) he
      rw [hv] at this
      exact this.2.1
    rw [er]
    generalize pI h2 c 9 0 = h3' at P3 H3 g3 cg3
    rw [H3.2.1.2.2.2.1]
    refine ⟨by rw [H.2.1.1.1], ?_⟩
    rw [H3.2.2.2.1.2, ix_nI (by omega)]
    refine ⟨inA_of es.2.1 (by omega) (by decide), ?_⟩
    have H4 := H3.vI (b := v + 1) (k := u) (x := nI cz) W hm he (Or.inr (by rw [hv]))
    have P4 : Cp B S (pI h3' (v + 1) u (nI cz)) c N (t + 1) := ⟨P3.1.of (Sm.rf.pI (by omega) _ _) rfl, by rw [gI_pI, if_neg (by omega)]; exact P3.2.1, P3.2.2⟩
    have g4 : gI (pI h3' (v + 1) u (nI cz)) v 8 = nI (gb + 2 ^ u) ∧ (∀ k, k ≠ 8 → gI (pI h3' (v + 1) u (nI cz)) v k = gI h v k) ∧ (∀ k, gI (pI h3' (v + 1) u (nI cz)) (v + 1) k = if k = u then nI cz else gI h (v + 1) k) ∧ gI (pI h3' (v + 1) u (nI cz)) c 9 = 0 :=
      ⟨by rw [gI_pI, if_neg (by omega)]; exact g3.1, fun k hk => by rw [gI_pI, if_neg (by omega)]; exact g3.2.1 k hk, fun k => by rw [gI_pI, g3.2.2.1]; simp, by rw [gI_pI, if_neg (by omega)]; exact g3.2.2.2⟩
    have cg4 : Cgr D h (pI h3' (v + 1) u (nI cz)) := fun f L HH => Cgr.rf (by rw [gI_pI, if_neg (by omega)]) (fun j => by rw [gI_pI, if_neg (by omega)]) f L (cg3 f L HH)
    generalize pI h3' (v + 1) u (nI cz) = h4 at P4 H4 g4 cg4
    refine ⟨hc6, cKind P4 ?_⟩
    rw [show (61 : Int32) = nI 61 from rfl, kEq P4 (by decide)]
    refine ⟨fun k1 => cAdv P4 (by omega) fun (P5 : Cp B S _ c N (t + 2)) => ⟨fun n => absurd n (by decide), fun _ => ?_⟩, fun k1 => cFail P4 ⟨z1, ⟨fun _ => q0 (1, t + 1) _ (by rw [if_pos k1]) H4.1.fl cfl_f.1 cfl_f.2, fun n => absurd rfl n⟩⟩⟩
    rw [if_neg (fun n => n k1)] at q0 q1
    have H5 := H4.cI (k := 8) (x := nI (t + 1 + 1)) W hm he (by omega)
    have g5 : gI (pI h4 c 8 (nI (t + 1 + 1))) v 8 = nI (gb + 2 ^ u) ∧ (∀ k, k ≠ 8 → gI (pI h4 c 8 (nI (t + 1 + 1))) v k = gI h v k) ∧ (∀ k, gI (pI h4 c 8 (nI (t + 1 + 1))) (v + 1) k = if k = u then nI cz else gI h (v + 1) k) ∧ gI (pI h4 c 8 (nI (t + 1 + 1))) c 9 = 0 :=
      ⟨by rw [gI_pI, if_neg (by omega)]; exact g4.1, fun k hk => by rw [gI_pI, if_neg (by omega)]; exact g4.2.1 k hk, fun k => by rw [gI_pI, if_neg (by omega)]; exact g4.2.2.1 k, by rw [gI_pI, if_neg (by omega)]; exact g4.2.2.2⟩
    have cg5 : Cgr D h (pI h4 c 8 (nI (t + 1 + 1))) := fun f L HH => Cgr.rf (by rw [gI_pI, if_neg (by omega)]) (fun j => by rw [gI_pI, if_neg (by omega)]) f L (cg4 f L HH)
    generalize pI h4 c 8 (nI (t + 1 + 1)) = h5 at P5 H5 g5 cg5
    have E5 : CE A B S h5 c D N (cM A) 1 (t + 2) 0 cz := ⟨P5, H5.cn W c0, g5.2.2.2, H5.2.2.2.1.2⟩
    refine cCodeX (pSm_pg 8) cRS E5 (by omega) (fun x h' ex f P' d6' hz' _ cc cg => ?_) (fun e h' ex f e2 e3 => q0 e h' (by rw [ex]) (H5.1.tr (Bf.fx f)) e2 e3)
    have fv : ∀ k, gI h' v k = gI h5 v k := fun k => f.1 v (by omega) (by omega) (by omega) k
    have fv1 : ∀ k, gI h' (v + 1) k = gI h5 (v + 1) k := fun k => f.1 (v + 1) (by omega) (by omega) (by omega) k
    refine q1 (gb + 2 ^ u, fun i => if i = u then x.2.2 else sc i, x.1) h' (cz + x.2.2.length + 1) (by rw [ex]) P' (H5.fx W hm he f d6' cg) hz' ⟨by rw [fv]; exact g5.1, fun i hi hb => ?_⟩ (fun ff L HH => cg _ _ (cg5 _ _ HH)) (fun k hk => by rw [fv]; exact g5.2.1 k hk)
    obtain ⟨a1, a2, a3⟩ := gb_all g8 (v := u) (by omega) cb
    rw [fv1, g5.2.2.1]
    show ∃ f, (if i = u then nI cz else gI h (v + 1) i) = nI f ∧ CCd h' D f (if i = u then x.2.2 else sc i)
    by_cases ci : i = u
    · rw [if_pos ci, if_pos ci]; exact ⟨cz, rfl, cc⟩
    · rw [if_neg ci, if_neg ci]
      obtain ⟨f, f1, f2⟩ := I.2 i hi (((a3 i hi).mp hb).resolve_left ci)
      exact ⟨f, f1, cg _ _ (cg5 _ _ f2)⟩
