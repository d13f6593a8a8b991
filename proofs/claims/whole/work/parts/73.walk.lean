theorem b_and1 (b : Bool) : bI b &&& 1 = bI b := bI_and b
theorem rFol {A : Ab} {S : Sh} {h : Hp} {r m e t : Nat} {B : Nat → Bool} {Q : Hp → Prop} (H : Rf A S h r) (h56 : gI h r 56 = nI m) (hm : m < aMM A) (he : e < aEm A m) (ht : t < aSz A m) (hB : bsR h r B) (q : ∀ h', Wf r h h' → bsR h' r (wkB A m e t B) → Q h') : wX12_follows S h r (nI e) (nI t) Q := by
  have h3 := H.m3
  have w4 := (H.w hm).e4
  unfold wX12_follows
  rw [h56, H.2.1.eventOf, n_4, nI_mul, nI_add, ix_nI (by omega), ((H.M hm).ev he).1]
  refine ⟨H.1.1, ?_⟩
  by_cases hm0 : m = 0
  · refine ⟨fun n => absurd (by rw [hm0]; rfl) n, fun _ => q h Sm.rf (hB.ext fun x _ => ?_)⟩
    unfold wkB
    rw [if_pos hm0]
  · refine ⟨fun _ => ⟨H.1.eventOf (by omega), nm_e ?_⟩, fun n => absurd n (nI_ne0 (by omega) (by omega))⟩
    have lp : ∀ (j i : Nat) (h1 : Hp), i + j = 100 → Wf r h h1 → (∀ x, x < i → gI h1 (r + 32) x = bI (B x) ∧ gI h1 (r + 31) x = 0) → (∀ x, i ≤ x → x < 100 → gI h1 (r + 31) x = bI (B x)) → wX12_follows_25 S r (nI t) (nI m) (aOI A m e) Q (j + 1) h1 (nI i) := by
      intro j
      induction j with
      | zero =>
        intro i h1 hj s1 a1 a2
        have hi : i = 100 := by omega
        subst hi
        refine br_t (by decide) ⟨_, rFol_a (B := B) (H.wf s1) hm (by omega) he ht (fun x hx => (a1 x hx).1) (fun h' s' b' => q h' (s1.tr s') b') (aSz A (m - 1)) 0 h1 (by omega) Sm.rf (fun _ => rfl) (fun x hx => ?_)⟩
        rw [(a1 x hx).2]
        unfold wkA
        split <;> simp [anyF, bI]
      | succ j ih =>
        intro i h1 hj s1 a1 a2
        have H1 := H.wf s1
        show wX12_follows_25b S r (nI t) (nI m) (aOI A m e) Q (wX12_follows_25 S r (nI t) (nI m) (aOI A m e) Q (j + 1)) h1 (nI i)
        unfold wX12_follows_25b
        rw [H1.2.1.isBeside, H1.2.1.wasBeside, ix_nI (by omega), a2 i (by omega) (by omega), b_and1, nI_1]
        refine br_f (nI_ge (b := 100) (by omega) (by omega)) ⟨H1.1.1, H1.1.isBeside (by omega), H1.1.wasBeside (by omega), nm_e ?_⟩
        rw [show gR (pI h1 (r + 32) i (bI (B i))) r 59 = r + 31 from H1.2.1.isBeside, show (0 : Int32) &&& 1 = 0 by decide]
        refine ⟨H1.1.isBeside (by omega), ih (i + 1) _ (by omega) ((s1.pI (by simp) _ _).pI (by simp) _ _) (fun x hx => ?_) (fun x hx1 hx2 => ?_)⟩
        · rw [gI_pI, if_neg (by omega), gI_pI, gI_pI]
          by_cases hxi : x = i
          · subst hxi
            rw [if_pos ⟨rfl, rfl⟩, if_pos ⟨rfl, rfl⟩]
            exact ⟨rfl, rfl⟩
          · rw [if_neg (by omega), if_neg (by omega), gI_pI, if_neg (by omega)]
            exact a1 x (by omega)
        · rw [gI_pI, if_neg (by omega), gI_pI, if_neg (by omega)]
          exact a2 x (by omega) hx2
    exact ⟨_, lp 100 0 h (by omega) Sm.rf (fun x hx => absurd hx (by omega)) (fun x _ hx => hB x hx)⟩
/-- the run, in the reference -/
def RunR (h : Hp) (r m s : Nat) (n : Int32) (B : Nat → Bool) : Prop := gI h r 56 = nI m ∧ gI h r 57 = nI s ∧ gI h r 58 = n ∧ bsR h r B
def Mf (r : Nat) (h h' : Hp) : Prop := Sm (fun b => b ≠ r ∧ b ≠ r + 27 ∧ b ≠ r + 31 ∧ b ≠ r + 32) h h' ∧ (∀ k, gR h' r k = gR h r k) ∧ (∀ k, gJ h' r k = gJ h r k) ∧ ∀ k, k ≠ 57 → k ≠ 58 → gI h' r k = gI h r k
theorem Mf.rf {r : Nat} {h : Hp} : Mf r h h := ⟨Sm.rf, fun _ => rfl, fun _ => rfl, fun _ _ _ => rfl⟩
theorem Mf.tr {r : Nat} {h1 h2 h3 : Hp} (a : Mf r h1 h2) (b : Mf r h2 h3) : Mf r h1 h3 := ⟨a.1.tr b.1, fun k => (b.2.1 k).trans (a.2.1 k), fun k => (b.2.2.1 k).trans (a.2.2.1 k), fun k p q => (b.2.2.2 k p q).trans (a.2.2.2 k p q)⟩
theorem Mf.pl {r : Nat} {h h' : Hp} (s : Pl r h h') : Mf r h h' := ⟨s.mono fun b hb => hb.2.1, fun k => s.R (by omega) k, fun k => s.J (by omega) k, fun k _ _ => s.I (by omega) k⟩
theorem Rf.mf {A : Ab} {S : Sh} {h h' : Hp} {r : Nat} (H : Rf A S h r) (s : Mf r h h') : Rf A S h' r := H.of (s.1.mono fun a ha => by omega) (s.2.2.2 37 (by omega) (by omega)) s.2.1
theorem RunR.pl {h h' : Hp} {r m s : Nat} {n : Int32} {B : Nat → Bool} (H : RunR h r m s n B) (p : Pl r h h') : RunR h' r m s n B := by
  obtain ⟨a1, a2, a3, a4⟩ := H
  exact ⟨by rw [p.I (by omega)]; exact a1, by rw [p.I (by omega)]; exact a2, by rw [p.I (by omega)]; exact a3, a4.pl p⟩
theorem rMakes {A : Ab} {S : Sh} {h : Hp} {r m e p s t : Nat} {n : Int32} {B : Nat → Bool} {Q : Hp → Prop} (H : Rf A S h r) (hm : m < aMM A) (he : e < aEm A m) (hs : s < aSz A m) (R : RunR h r m s n B) (ht : t < aSz A m) (hg : aGv A m e s p = nI t)
    (q : ∀ h', Mf r h h' → RunR h' r m t (n + 1) (wkB A m e t B) → Q h') : wX12_makes S h r (nI e) (nI p) Q := by
  obtain ⟨a1, a2, a3, a4⟩ := R
  unfold wX12_makes
  rw [a1, a2]
  refine ⟨H.1.1, rGiv H hm he hs fun h1 s1 => ?_⟩
  rw [hg]
  refine rFol (H.pl s1) (by rw [s1.I (by omega)]; exact a1) hm he ht (a4.pl s1) fun h2 s2 b2 => nm_e (q _ ⟨?_, ?_, ?_, fun k k1 k2 => ?_⟩ ⟨?_, ?_, ?_, fun x hx => ?_⟩)
  · exact (((s1.mono fun b hb => hb.2.1).tr (s2.mono fun b hb => ⟨hb.2.1, hb.2.2.1, hb.2.2.2⟩)).pI (by simp) _ _).pI (by simp) _ _
  · intro k
    rw [gR_pI, gR_pI, s2.R ⟨by omega, by omega, by omega⟩, s1.R (by omega)]
  · intro k
    rw [gJ_pI, gJ_pI, s2.J ⟨by omega, by omega, by omega⟩, s1.J (by omega)]
  · rw [gI_pI, if_neg (by omega), gI_pI, if_neg (by omega), s2.I ⟨by omega, by omega, by omega⟩, s1.I (by omega)]
  · rw [gI_pI, if_neg (by omega), gI_pI, if_neg (by omega), s2.I ⟨by omega, by omega, by omega⟩, s1.I (by omega)]
    exact a1
  · rw [gI_pI, if_neg (by omega), gI_pI, if_pos ⟨rfl, rfl⟩]
  · rw [gI_pI, if_pos ⟨rfl, rfl⟩, gI_pI, if_neg (by omega), s2.I ⟨by omega, by omega, by omega⟩, s1.I (by omega), a3]
  · rw [gI_pI, if_neg (by omega), gI_pI, if_neg (by omega)]
    exact b2 x hx
/-! the run, in the class: the walk at w -/
def Md (A : Ab) (S : Sh) (h : Hp) (D m : Nat) : Prop := S D = (4, 0) ∧ S (D + 1) = (25, 3) ∧ gR h D 0 = D + 1 ∧ (∀ k, k < 3 → gR h (D + 1) k = D + 6 + 145 * k) ∧ m < 3 ∧ Cm A S h (D + 6 + 145 * m) m ∧ (0 < m → Cm A S h (D + 6 + 145 * (m - 1)) (m - 1))
theorem Md.of {A : Ab} {S : Sh} {h h' : Hp} {D m : Nat} (H : Md A S h D m) (s : Sm (fun b => D ≤ b ∧ b < D + 441) h h') : Md A S h' D m := by
  obtain ⟨b3, b4, b6, b7, b8, b9, b10⟩ := H
  refine ⟨b3, b4, ?_, fun k hk => ?_, b8, b9.of (s.mono fun b hb => by omega), fun h0 => (b10 h0).of (s.mono fun b hb => by omega)⟩
  · rw [s.R (by omega)]; exact b6
  · rw [s.R (by omega)]; exact b7 k hk
def WkS (S : Sh) (h : Hp) (w D : Nat) : Prop := S w = (11, 0) ∧ S (w + 1) = (8, 0) ∧ S (w + 2) = (8, 0) ∧ gR h w 0 = w + 1 ∧ gR h w 1 = w + 2 ∧ (w + 2 < D ∨ D + 441 ≤ w)
def RunC (h : Hp) (w m s : Nat) (n : Int32) (B : Nat → Bool) : Prop := gI h w 2 = nI m ∧ gI h w 3 = nI s ∧ gI h w 4 = n ∧ stB h (w + 1) B
abbrev Cf (w : Nat) (h h' : Hp) : Prop := Sm (fun b => b ≠ w ∧ b ≠ w + 1 ∧ b ≠ w + 2) h h'
theorem stB.sm {h h' : Hp} {b : Nat} {f : Nat → Bool} {p : Nat → Prop} (H : stB h b f) (s : Sm p h h') (hb : p b) : stB h' b f := H.of ⟨s.J hb _, s.J hb _⟩
theorem cMv_l {A : Ab} {S : Sh} {h0 : Hp} {w D m e : Nat} {t : Nat} {B : Nat → Bool} {Q : Hp → Prop} (hW : WkS S h0 w D) (M : Md A S h0 D m) (hm0 : 0 < m) (he : e < aEm A m) (ho : aOe A m e ≠ 0) (ht : t < aSz A m) (h3 : gI h0 w 3 = nI t) (hB : stB h0 (w + 1) B)
    (q : ∀ h', Sm (fun b => b ≠ w + 1 ∧ b ≠ w + 2) h0 h' → stB h' (w + 1) (wkB A m e t B) → Q h') :
    ∀ (j a : Nat) (h : Hp), a + j = aSz A (m - 1) → Sm (fun b => b ≠ w + 2) h0 h → stB h (w + 2) (fun x => anyF (fun a => B a && gvS A (m - 1) (aOe A m e - 1) a 10 x) a 0) →
      wX10_move_85 S w (D + 6 + 145 * m) (D + 6 + 145 * m + 11 + 5 * e) (D + 6 + 145 * (m - 1)) Q (j + 1) h (nI a)
  | 0, a, h, hj, s0, hi => by
    obtain ⟨w1, w2, w3, w4, w5, w6⟩ := hW
    have M1 := M.of (s0.mono fun b hb => by omega)
    have C := M1.2.2.2.2.2.1
    have P := M1.2.2.2.2.2.2 hm0
    have ws := P.2.2.2.s100
    have wt := C.2.2.2.s100
    show wX10_move_85b S w (D + 6 + 145 * m) (D + 6 + 145 * m + 11 + 5 * e) (D + 6 + 145 * (m - 1)) Q _ h (nI a)
    unfold wX10_move_85b wX10_move_j133
    rw [P.2.2.1.2.1]
    refine ⟨by rw [P.1.1], br_t (nI_le (by omega) (by omega)) ⟨by rw [w1], ?_⟩⟩
    rw [s0.R (a := w) (by omega), s0.R (a := w) (by omega), w4, w5]
    refine ⟨by rw [w2], cCpy w2 w3 (by omega) hi fun h1 s1 hi1 => ⟨by rw [C.1.1], ?_⟩⟩
    have sT : Sm (fun b => b ≠ w + 1 ∧ b ≠ w + 2) h0 h1 := (s0.mono fun b hb => hb.2).tr (s1.mono fun b hb => hb.1)
    have M2 := M.of (sT.mono fun b hb => by omega)
    have C2 := M2.2.2.2.2.2.1
    rw [C2.2.1.k (k := 7) (by omega), show D + 6 + 145 * m + 1 + 7 = D + 6 + 145 * m + 8 by omega, sT.I (a := w) (by omega), h3, ix_nI (by omega), C2.2.1.2.2.1 t (by omega), sT.R (a := w) (by omega), w4]
    have hg : S (D + 6 + 145 * m + 31 + t) = (8, 0) := C2.1.2.2.2.2.2.2.2.2.2.2.2.2.1 t (by omega)
    refine ⟨inA_of C2.1.2.2.2.2.2.2.2.2.1 (by omega) (by decide), by rw [w2], cKeep w2 hg (by have := M.2.2.2.2.1; omega) hi1 (C2.2.2.1.2.2.2.2.2.2.2.1 hm0 t ht) fun h2 s2 hi2 => q h2 (sT.tr (s2.mono fun b hb => hb.1)) (hi2.ext fun x _ => ?_)⟩
    unfold wkB
    rw [if_neg (show ¬ m = 0 by omega), if_neg ho, show a = aSz A (m - 1) by omega]
  | j + 1, a, h, hj, s0, hi => by
    have hW' := hW
    obtain ⟨w1, w2, w3, w4, w5, w6⟩ := hW'
    have M1 := M.of (s0.mono fun b hb => by omega)
    have C := M1.2.2.2.2.2.1
    have P := M1.2.2.2.2.2.2 hm0
    have ws := P.2.2.2.s100
    have we := C.2.2.2.ev he
    have ho1 := we.2.2.2.1 ho
    have p4 := P.2.2.2.e4
    have m3 := M.2.2.2.2.1
    obtain ⟨e1, e2, e3, e4, e5⟩ := C.E he
    obtain ⟨p1, p2, p3, p5, p6⟩ := P.E (e := aOe A m e - 1) (by omega)
    have eO : aOI A m e = nI (aOe A m e - 1) := by unfold aOI; rw [if_neg ho]
    show wX10_move_85b S w (D + 6 + 145 * m) (D + 6 + 145 * m + 11 + 5 * e) (D + 6 + 145 * (m - 1)) Q (wX10_move_85 S w (D + 6 + 145 * m) (D + 6 + 145 * m + 11 + 5 * e) (D + 6 + 145 * (m - 1)) Q (j + 1)) h (nI a)
    unfold wX10_move_85b
    rw [P.2.2.1.2.1, s0.R (a := w) (by omega), w4, nI_1]
    refine ⟨by rw [P.1.1], br_f (nI_ge (by omega) (by omega)) ⟨by rw [w1], by rw [w2], cHas w2 (hB.sm s0 (by omega)) (by omega) ?_⟩⟩
    have nx := fun h' s' hi' => cMv_l hW M hm0 he ho ht h3 hB q j (a + 1) h' (by omega) s' hi'
    cases hb : B a
    · refine br_t rfl (nx h s0 (hi.ext fun x _ => ?_))
      rw [anyF_snoc, Nat.zero_add, hb, Bool.false_and, Bool.or_false]
    · refine br_f (by decide) ⟨by rw [e1.1], ?_⟩
      rw [e3.1, eO, P.2.1.k (k := 5) (by omega), show D + 6 + 145 * (m - 1) + 1 + 5 = D + 6 + 145 * (m - 1) + 6 by omega, ix_nI (by omega), p5, s0.R (a := w) (by omega), w5]
      refine ⟨inA_of P.1.2.2.2.2.2.2.1 (by omega) (by decide), by rw [p1.1], cPutG p1 p2 P.2.2.2 (by omega) p3 (by omega) w3 (by omega) hi fun h1 s1 hi1 => nx h1 (s0.tr s1) (hi1.ext fun x _ => ?_)⟩
      rw [anyF_snoc, Nat.zero_add, hb, Bool.true_and]
theorem cMove {A : Ab} {S : Sh} {h : Hp} {w D m e i s t : Nat} {n : Int32} {B : Nat → Bool} {Q : Hp → Prop} (hW : WkS S h w D) (M : Md A S h D m) (R : RunC h w m s n B) (he : e < aEm A m) (hs : s < aSz A m) (hi : aFp A m e + i ≤ aLp A m e) (ht : t < aSz A m) (hg : aGv A m e s (aFp A m e + i) = nI t)
    (q : ∀ h', Cf w h h' → (∀ k, gR h' w k = gR h w k) → RunC h' w m t (n + 1) (wkB A m e t B) → Q h') : wX10_move S h w D (nI e) (nI i) Q := by
  have hW' := hW
  obtain ⟨w1, w2, w3, w4, w5, w6⟩ := hW'
  obtain ⟨a1, a2, a3, a4⟩ := R
  have m3 := M.2.2.2.2.1
  have C := M.2.2.2.2.2.1
  have wt := C.2.2.2.s100
  have we := C.2.2.2.ev he
  obtain ⟨e1, e2, e3, e4, e5⟩ := C.E he
  unfold wX10_move
  rw [a1, M.2.2.1, ix_nI (by omega), M.2.2.2.1 m m3]
  refine ⟨by rw [M.1], by rw [w1], inA_of M.2.1 (by omega) (by decide), nm_e ⟨by rw [C.1.1], ?_⟩⟩
  rw [C.2.1.k (k := 5) (by omega), show D + 6 + 145 * m + 1 + 5 = D + 6 + 145 * m + 6 by omega, ix_nI (by omega), e4]
  refine ⟨inA_of C.1.2.2.2.2.2.2.1 (by omega) (by decide), nm_e ⟨by rw [e1.1], ?_⟩⟩
  rw [a2]
  refine cAfter e1 e2 C.2.2.2 he e3 hs hi ?_
  rw [hg]
  refine nm_e (nm_e ?_)
  generalize eh : pI (pI h w 3 (nI t)) w 4 (gI (pI h w 3 (nI t)) w 4 + 1) = h41
  have s41 : Sm (fun b => b ≠ w) h h41 := by
    rw [← eh]
    exact (Sm.rf.pI (by simp) _ _).pI (by simp) _ _
  have f41 : gI h41 w 2 = nI m ∧ gI h41 w 3 = nI t ∧ gI h41 w 4 = n + 1 ∧ ∀ k, gR h41 w k = gR h w k := by
    rw [← eh]
    refine ⟨?_, ?_, ?_, fun _ => rfl⟩
    · rw [gI_pI, if_neg (by omega), gI_pI, if_neg (by omega)]; exact a1
    · rw [gI_pI, if_neg (by omega), gI_pI, if_pos ⟨rfl, rfl⟩]
    · rw [gI_pI, if_pos ⟨rfl, rfl⟩, gI_pI, if_neg (by omega), a3]
  have M1 := M.of (s41.mono fun b hb => by omega)
  have C1 := M1.2.2.2.2.2.1
  obtain ⟨v1, v2, v3, v4, v5⟩ := C1.E he
  have hB1 : stB h41 (w + 1) B := a4.sm s41 (by omega)
  have hW1 : WkS S h41 w D := ⟨w1, w2, w3, by rw [f41.2.2.2]; exact w4, by rw [f41.2.2.2]; exact w5, w6⟩
  have fin : ∀ h', Sm (fun b => b ≠ w + 1 ∧ b ≠ w + 2) h41 h' → stB h' (w + 1) (wkB A m e t B) → Q h' := fun h' s' hb' =>
    q h' ((s41.mono fun b hb => hb.1).tr (s'.mono fun b hb => ⟨hb.2.1, hb.2.2⟩)) (fun k => by rw [s'.R (by omega)]; exact f41.2.2.2 k) ⟨by rw [s'.I (by omega)]; exact f41.1, by rw [s'.I (by omega)]; exact f41.2.1, by rw [s'.I (by omega)]; exact f41.2.2.1, hb'⟩
  rw [f41.1, v3.1, f41.2.1]
  by_cases hm0 : m = 0
  · refine ⟨fun n => absurd (by rw [hm0]; rfl) n, fun _ => fin h41 Sm.rf (hB1.ext fun x _ => ?_)⟩
    unfold wkB
    rw [if_pos hm0]
  · refine ⟨fun _ => ?_, fun n => absurd n (nI_ne0 (by omega) (by omega))⟩
    by_cases ho : aOe A m e = 0
    · refine br_t (by unfold aOI; rw [if_pos ho]) ?_
      rw [C1.2.1.k (k := 7) (by omega), show D + 6 + 145 * m + 1 + 7 = D + 6 + 145 * m + 8 by omega, ix_nI (by omega), C1.2.1.2.2.1 t (by omega), f41.2.2.2, w4]
      have hgS : S (D + 6 + 145 * m + 31 + t) = (8, 0) := C1.1.2.2.2.2.2.2.2.2.2.2.2.2.1 t (by omega)
      refine ⟨inA_of C1.1.2.2.2.2.2.2.2.2.1 (by omega) (by decide), by rw [w2], cKeep w2 hgS (by omega) hB1 (C1.2.2.1.2.2.2.2.2.2.2.1 (by omega) t ht) fun h2 s2 hi2 => fin h2 (s2.mono fun b hb => hb.1) (hi2.ext fun x _ => ?_)⟩
      unfold wkB
      rw [if_neg hm0, if_pos ho]
    · have ho1 := we.2.2.2.1 ho
      have P := M1.2.2.2.2.2.2 (by omega)
      have p4 := P.2.2.2.e4
      have hn : aOI A m e ≠ -2 := by unfold aOI; rw [if_neg ho]; exact nI_n2 (by omega)
      refine br_f hn ?_
      rw [M1.2.2.1, show nI m - 1 = nI (m - 1) from n_sub (b := 1) (by omega), ix_nI (by omega), M1.2.2.2.1 (m - 1) (by omega), f41.2.2.2, w5]
      refine ⟨inA_of M.2.1 (by omega) (by decide), nm_e ⟨by rw [w3], cClr w3 fun h2 s2 hi2 => ?_⟩⟩
      have M2 := M1.of (s2.mono fun b hb => by omega)
      refine ⟨_, cMv_l ⟨w1, w2, w3, by rw [s2.R (by omega)]; exact hW1.2.2.2.1, by rw [s2.R (by omega)]; exact hW1.2.2.2.2.1, w6⟩ M2 (by omega) he ho ht (by rw [s2.I (by omega)]; exact f41.2.1) (hB1.sm s2 (by omega)) (fun h' s' hb' => fin h' ((s2.mono fun b hb => hb.2).tr s') hb') (aSz A (m - 1)) 0 h2 (by omega) Sm.rf (hi2.ext fun x _ => by simp [anyF])⟩
