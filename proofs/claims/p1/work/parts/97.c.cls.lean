/-! ONE CALL ON A FRESH OBJECT: feed and machines of the class -/
section
variable {S : Sh} {h : Hp} {z : Nat} {x1 x2 x3 x4 x5 : Int32}
theorem c_put1 {n k : Nat} {x y : Int32} {Q : Hp → Prop} (H : FxS S z) (hk : k < 600) (e0 : gR h z 0 = z + 1) (e9 : gI h z 9 = nI k) (hx : ¬ y < 0)
    (q : ∀ h', gR h' z 0 = z + 1 → gI h' z 9 = nI (k + 1) → Sm (Up z) h h' → wX11_putBytes_3 S z x Q n h' (y + -8)) : wX11_putBytes_3 S z x Q (n + 1) h y := by
  show wX11_putBytes_3b S z x Q (wX11_putBytes_3 S z x Q n) h y
  unfold wX11_putBytes_3b
  rw [e0, e9]
  refine ⟨fun c => absurd c hx, fun _ => ⟨H.k, fun c => absurd c (nI_ge (b := 600) hk (by decide)), fun _ => ⟨inA_of H.1.s1 hk (by decide), fun h29 e => ?_⟩⟩⟩
  subst e
  refine q _ e0 ?_ ((Sm.rf.pI (upN (by omega)) _ _).pI (upN (by omega)) _ _)
  rw [gI_pI, if_pos ⟨rfl, rfl⟩, gI_pI, if_neg (by omega), e9, nI_1]
theorem c_put {k : Nat} {x : Int32} {Q : Hp → Prop} (H : FxS S z) (hk : k + 4 ≤ 600) (e0 : gR h z 0 = z + 1) (e9 : gI h z 9 = nI k)
    (q : ∀ h', gR h' z 0 = z + 1 → gI h' z 9 = nI (k + 4) → Sm (Up z) h h' → Q h') : wX11_putBytes S h z x Q := by
  unfold wX11_putBytes
  refine ⟨5, ?_⟩
  refine c_put1 (n := 4) (k := k) H (by omega) e0 e9 (by decide) fun h1 a1 b1 s1 => ?_
  refine c_put1 (n := 3) (k := k + 1) H (by omega) a1 b1 (by decide) fun h2 a2 b2 s2 => ?_
  refine c_put1 (n := 2) (k := k + 2) H (by omega) a2 b2 (by decide) fun h3 a3 b3 s3 => ?_
  refine c_put1 (n := 1) (k := k + 3) H (by omega) a3 b3 (by decide) fun h4 a4 b4 s4 => ?_
  show wX11_putBytes_3b S z x Q (wX11_putBytes_3 S z x Q 0) h4 _
  unfold wX11_putBytes_3b
  exact ⟨fun _ => q h4 a4 b4 (((s1.tr s2).tr s3).tr s4), fun c => absurd (by decide) c⟩
theorem c_feed {Q : Int32 → Hp → Prop} (H : FxS S z) (F : Fx h z) (q : ∀ h', Sm (Up z) h h' → Q (nI 20) h') : wX11_feed S h z x1 x2 x3 x4 x5 Q := by
  unfold wX11_feed
  have e9 : gI h z 9 = 0 := F.i z 9 (by omega) (by omega)
  rw [e9]
  refine ⟨H.k, fun _ => ?_, fun c => absurd (by decide) c⟩
  refine c_put (k := 0) H (by decide) F.1.tape (e9.trans nI_0.symm) fun h1 a1 b1 s1 => ?_
  refine c_put (k := 4) H (by decide) a1 b1 fun h2 a2 b2 s2 => ?_
  refine c_put (k := 8) H (by decide) a2 b2 fun h3 a3 b3 s3 => ?_
  refine c_put (k := 12) H (by decide) a3 b3 fun h4 a4 b4 s4 => ?_
  refine c_put (k := 16) H (by decide) a4 b4 fun h5 a5 b5 s5 => ?_
  rw [b5]
  exact q h5 ((((s1.tr s2).tr s3).tr s4).tr s5)
/-- no text at all is cut -/
theorem c_cut {Q : Hp → Prop} (H : FxS S z) (F : Fx h z) (q : ∀ h', (∀ b j, gR h' b j = gR h b j) → gI h' (z + 4) 0 = 300 → Sm (Up z) h h' → Q h') : wX8_cut S h (z + 3) (z + 1) 0 Q := by
  have k9 : (S (z + 3)).1 = 9 := by rw [H.1.s3]
  unfold wX8_cut
  refine ⟨k9, 1, ?_⟩
  show wX8_cut_12b S (z + 3) (z + 1) 0 Q (wX8_cut_12 S (z + 3) (z + 1) 0 Q 0) (pI h (z + 3) 4 0) 304 0
  unfold wX8_cut_12b
  refine ⟨fun _ => ?_, fun c => absurd (Int32.le_refl 0) c⟩
  unfold wX8_cut_j111
  refine ⟨1, ?_⟩
  show wX8_cut_114b S (z + 3) 0 Q (wX8_cut_114 S (z + 3) 0 Q 0) (pI h (z + 3) 4 0) 0
  unfold wX8_cut_114b
  have g4 : gI (pI h (z + 3) 4 0) (z + 3) 4 = 0 := by rw [gI_pI, if_pos ⟨rfl, rfl⟩]
  have gk : gR (pI h (z + 3) 4 0) (z + 3) 0 = z + 4 := F.1.kinds
  have gp : gR (pI h (z + 3) 4 0) (z + 3) 1 = z + 5 := F.1.places
  have gr : ∀ b j, gR (pI h (z + 3) 4 0) b j = gR h b j := fun _ _ => rfl
  have s0 : Sm (Up z) h (pI h (z + 3) 4 0) := Sm.rf.pI (upN (by omega)) _ _
  generalize pI h (z + 3) 4 0 = g at g4 gk gp gr s0
  rw [g4]
  refine ⟨k9, fun _ => ?_, fun c => absurd (Int32.le_refl 0) c⟩
  unfold wX8_cut_j160
  rw [g4, gk]
  refine ⟨k9, inA_of (i := 0) H.1.s4 (by decide) (by decide), fun h171 e => ?_⟩
  have g5 : gI h171 (z + 3) 4 = 0 := by rw [e, gI_pI, if_neg (by omega)]; exact g4
  have gp5 : gR h171 (z + 3) 1 = z + 5 := by rw [e]; exact gp
  have gr5 : ∀ b j, gR h171 b j = gR h b j := fun b j => by rw [e]; exact gr b j
  have g300 : gI h171 (z + 4) 0 = 300 := by rw [e, gI_pI, if_pos ⟨rfl, rfl⟩]
  have s5 : Sm (Up z) h h171 := by rw [e]; exact s0.pI (upN (by omega)) _ _
  rw [g5, gp5]
  exact ⟨inA_of (i := 0) H.1.s5 (by decide) (by decide), q _ gr5 (by rw [gI_pI, if_neg (by omega)]; exact g300) (s5.pI (upN (by omega)) _ _)⟩
theorem c_mclr {A : Nat} {j : Int64} {Q : Hp → Prop} (hA : (S A).1 = 3) (q : ∀ h', (∀ b j, gR h' b j = gR h b j) → Sm (fun b => b ≠ A) h h' → Q h') : wX2_clear S h A j Q := by
  unfold wX2_clear
  refine ⟨hA, fun h1 e1 h2 e2 h3 e3 h4 e4 h5 e5 => ?_⟩
  subst e1
  subst e2
  subst e3
  subst e4
  subst e5
  exact q _ (fun _ _ => rfl) ((((((Sm.rf.pJ (fun c => c rfl) _ _).pI (fun c => c rfl) _ _).pI (fun c => c rfl) _ _).pI (fun c => c rfl) _ _).pI (fun c => c rfl) _ _).pI (fun c => c rfl) _ _)
abbrev OffD (D : Nat) : Nat → Prop := fun b => b < D ∨ D + 441 ≤ b
theorem c_clr1 {D n m : Nat} {Q : Hp → Prop} (hm : m < 3) (Hd : DS S D) (R1 : gR h D 0 = D + 1) (R2 : gR h (D + 1) m = D + 6 + 145 * m)
    (q : ∀ h', (∀ b j, gR h' b j = gR h b j) → Sm (OffD D) h h' → wX3_clear_12 S D Q n h' (nI (m + 1))) : wX3_clear_12 S D Q (n + 1) h (nI m) := by
  show wX3_clear_12b S D Q (wX3_clear_12 S D Q n) h (nI m)
  unfold wX3_clear_12b
  rw [R1, ix_nI (by omega), R2, nI_1]
  refine ⟨fun c => absurd c (nI_ge (b := 3) hm (by decide)), fun _ => ⟨by rw [Hd.1], inA_of Hd.2.1 hm (by decide), by rw [(Hd.2.2.2.2.2.2 m hm).1], c_mclr (by rw [(Hd.2.2.2.2.2.2 m hm).1]) fun h' r s => q h' r (s.mono fun b hb => ?_)⟩⟩
  rcases hb with c | c <;> omega
theorem c_clr {D : Nat} {Q : Hp → Prop} (Hd : DS S D) (Rd : DR h D) (q : ∀ h', (∀ b j, gR h' b j = gR h b j) → Sm (OffD D) h h' → Q h') : wX3_clear S h D Q := by
  unfold wX3_clear
  refine ⟨by rw [Hd.1], fun h2 e => ⟨4, ?_⟩⟩
  subst e
  have s0 : Sm (OffD D) h (pI (pI h D 5 0) D 6 0) := (Sm.rf.pI (fun c => by rcases c with c | c <;> omega) _ _).pI (fun c => by rcases c with c | c <;> omega) _ _
  have r0 : ∀ b j, gR (pI (pI h D 5 0) D 6 0) b j = gR h b j := fun _ _ => rfl
  generalize pI (pI h D 5 0) D 6 0 = g at s0 r0
  have a0 : gR h D 0 = D + 1 := Rd.1 0 (by decide)
  refine c_clr1 (n := 3) (m := 0) (by decide) Hd ((r0 _ _).trans a0) ((r0 _ _).trans (Rd.2 0 (by decide)).1) fun h1 r1 s1 => ?_
  have t1 : ∀ b j, gR h1 b j = gR h b j := fun b j => (r1 b j).trans (r0 b j)
  refine c_clr1 (n := 2) (m := 1) (by decide) Hd ((t1 _ _).trans a0) ((t1 _ _).trans (Rd.2 1 (by decide)).1) fun h2 r2 s2 => ?_
  have t2 : ∀ b j, gR h2 b j = gR h b j := fun b j => (r2 b j).trans (t1 b j)
  refine c_clr1 (n := 1) (m := 2) (by decide) Hd ((t2 _ _).trans a0) ((t2 _ _).trans (Rd.2 2 (by decide)).1) fun h3 r3 s3 => ?_
  show wX3_clear_12b S D Q (wX3_clear_12 S D Q 0) h3 (nI 3)
  unfold wX3_clear_12b
  exact ⟨fun _ => q h3 (fun b j => (r3 b j).trans (t2 b j)) (((s0.tr s1).tr s2).tr s3), fun c => absurd (by decide) c⟩
theorem c_start {Q : Hp → Prop} (H : FxS S z) (F : Fx h z) (q : ∀ h', gR h' z 1 = z + 2 → gR h' (z + 2) 0 = z + 3 → gR h' (z + 3) 0 = z + 4 → gR h' (z + 3) 1 = z + 5 → gI h' (z + 2) 8 = 0 → gI h' (z + 4) 0 = 300 → Sm (Up z) h h' → Q h') :
    wX5_start S h (z + 2) (z + 1) 0 (z + 461) Q := by
  unfold wX5_start
  rw [F.1.tokens]
  refine ⟨by rw [H.1.s2], by rw [H.1.s3], c_cut H F fun g r0 k0 s0 => ⟨by rw [H.2.2.1], c_clr H.2.2 (F.2.1.of fun b _ _ k => r0 b k) fun g1 r1 s1 => ?_⟩⟩
  have T : ∀ b j, gR g1 b j = gR h b j := fun b j => (r1 b j).trans (r0 b j)
  have k1 : gI g1 (z + 4) 0 = 300 := by rw [s1.I (Or.inl (by omega))]; exact k0
  have s2 : Sm (Up z) h g1 := s0.tr (s1.mono fun b hb => Or.inr hb)
  clear r0 k0 s0 r1 s1
  intro h15 e15
  have n1 : gR h15 (z + 461) 0 = z + 461 + 1 := by rw [e15, gR_pR, if_neg (by omega), T]; exact F.2.1.1 0 (by decide)
  have n2 : gR h15 (z + 461 + 1) 0 = z + 461 + 6 + 145 * 0 := by rw [e15, gR_pR, if_neg (by omega), T]; exact (F.2.1.2 0 (by decide)).1
  have n3 : gR h15 (z + 461 + 6 + 145 * 0) 5 = z + 461 + 6 + 145 * 0 + 1 + 5 := by rw [e15, gR_pR, if_neg (by omega), T]; exact (F.2.1.2 0 (by decide)).2.1 5 (by decide)
  have T15 : ∀ b j, b ≠ z + 2 ∨ j < 4 → gR h15 b j = gR h b j := fun b j hb => by rw [e15, gR_pR, if_neg (by omega), T]
  have k15 : gI h15 (z + 4) 0 = 300 := by rw [e15]; exact k1
  have s15 : Sm (Up z) h h15 := by rw [e15]; exact s2.pR (upN (by omega)) _ _
  clear e15 k1 s2 T
  have ms := H.2.2.2.2.2.2.2.2 0 (by decide)
  rw [n1, show ix (0 : Int32) = 0 from rfl, n2]
  refine ⟨inA_of (i := 0) H.2.2.2.1 (by decide) (by decide), fun h25 e25 => ?_⟩
  have m1 : gR h25 (z + 2) 5 = z + 461 + 6 + 145 * 0 := by rw [e25, gR_pR, if_pos ⟨rfl, rfl⟩]
  have m2 : gR h25 (z + 461 + 6 + 145 * 0) 5 = z + 461 + 6 + 145 * 0 + 1 + 5 := by rw [e25, gR_pR, if_neg (by omega)]; exact n3
  have T25 : ∀ b j, b ≠ z + 2 ∨ j < 4 → gR h25 b j = gR h b j := fun b j hb => by rw [e25, gR_pR, if_neg (by omega)]; exact T15 b j hb
  have k25 : gI h25 (z + 4) 0 = 300 := by rw [e25]; exact k15
  have s25 : Sm (Up z) h h25 := by rw [e25]; exact s15.pR (upN (by omega)) _ _
  clear e25 k15 s15 T15 n1 n2 n3
  rw [m1, m2]
  refine ⟨by rw [ms.1], inA_of (i := 0) ms.2.2.2.2.2.2.1 (by decide) (by decide), fun h38 e38 h43 e43 h48 e48 h53 e53 => ?_⟩
  have T38 : ∀ b j, b ≠ z + 2 ∨ j < 4 → gR h38 b j = gR h b j := fun b j hb => by rw [e38, gR_pR, if_neg (by omega)]; exact T25 b j hb
  have k38 : gI h38 (z + 4) 0 = 300 := by rw [e38]; exact k25
  have s38 : Sm (Up z) h h38 := by rw [e38]; exact s25.pR (upN (by omega)) _ _
  clear e38 k25 s25 T25 m1 m2
  subst e43
  subst e48
  subst e53
  refine q _ ((T38 _ _ (Or.inl (by omega))).trans F.1.reader) ((T38 _ _ (Or.inr (by omega))).trans F.1.tokens) ((T38 _ _ (Or.inl (by omega))).trans F.1.kinds) ((T38 _ _ (Or.inl (by omega))).trans F.1.places) ?_ ?_ ((((s38.pI (upN (by omega)) _ _).pI (upN (by omega)) _ _).pI (upN (by omega)) _ _).pI (upN (by omega)) _ _)
  · rw [gI_pI, if_neg (by omega), gI_pI, if_neg (by omega), gI_pI, if_pos ⟨rfl, rfl⟩]
  · rw [gI_pI, if_neg (by omega), gI_pI, if_neg (by omega), gI_pI, if_neg (by omega), gI_pI, if_neg (by omega)]
    exact k38
theorem c_kind {Q : Int32 → Hp → Prop} (H : FxS S z) (e0 : gR h (z + 2) 0 = z + 3) (e3 : gR h (z + 3) 0 = z + 4) (e8 : gI h (z + 2) 8 = 0) (e4 : gI h (z + 4) 0 = 300) (q : Q 300 h) : wX5_kind S h (z + 2) Q := by
  unfold wX5_kind
  rw [e0, e3, e8, show ix (0 : Int32) = 0 from rfl, e4]
  exact ⟨by rw [H.1.s2], by rw [H.1.s3], inA_of (i := 0) H.1.s4 (by decide) (by decide), q⟩
theorem c_fail {x : Int32} {Q : Int32 → Hp → Prop} (H : FxS S z) (e0 : gR h (z + 2) 0 = z + 3) (e1 : gR h (z + 3) 1 = z + 5) (e8 : gI h (z + 2) 8 = 0) (q : ∀ h', (∀ b j, gR h' b j = gR h b j) → Sm (Up z) h h' → Q 0 h') : wX5_fail S h (z + 2) x Q := by
  unfold wX5_fail
  refine ⟨by rw [H.1.s2], fun h2 e => ?_⟩
  subst e
  have g8 : gI (pI h (z + 2) 2 x) (z + 2) 8 = 0 := by rw [gI_pI, if_neg (by omega)]; exact e8
  have g0 : gR (pI h (z + 2) 2 x) (z + 2) 0 = z + 3 := e0
  have g1 : gR (pI h (z + 2) 2 x) (z + 3) 1 = z + 5 := e1
  rw [g0, g1, g8]
  exact ⟨by rw [H.1.s3], inA_of (i := 0) H.1.s5 (by decide) (by decide), q _ (fun _ _ => rfl) ((Sm.rf.pI (upN (by omega)) _ _).pI (upN (by omega)) _ _)⟩
theorem c_lines {Q : Int32 → Hp → Prop} (H : FxS S z) (e0 : gR h (z + 2) 0 = z + 3) (e3 : gR h (z + 3) 0 = z + 4) (e1 : gR h (z + 3) 1 = z + 5) (e8 : gI h (z + 2) 8 = 0) (e4 : gI h (z + 4) 0 = 300)
    (q : ∀ h', (∀ b j, gR h' b j = gR h b j) → Sm (Up z) h h' → Q 0 h') : wX5_readLines S h (z + 2) Q := by
  have k2 : (S (z + 2)).1 = 6 := by rw [H.1.s2]
  have J : ∀ B : Hp → Int32 → Prop, wX5_readLines_j152 S B (pI (pI h (z + 2) 10 0) (z + 2) 11 0) (z + 2) 0 Q := fun B => by
    unfold wX5_readLines_j152 wX5_readLines_j158
    refine ⟨k2, c_fail H e0 e1 (by rw [gI_pI, if_neg (by omega), gI_pI, if_neg (by omega)]; exact e8) fun h' r s => ⟨fun n => absurd rfl n, fun _ => q h' r ?_⟩⟩
    exact ((Sm.rf.pI (upN (by omega)) _ _).pI (upN (by omega)) _ _ : Sm (Up z) h (pI (pI h (z + 2) 10 0) (z + 2) 11 0)).tr s
  unfold wX5_readLines
  refine ⟨1, ?_⟩
  show wX5_readLines_2b S (z + 2) Q (wX5_readLines_2 S (z + 2) Q 0) h 0
  generalize wX5_readLines_2 S (z + 2) Q 0 = B
  unfold wX5_readLines_2b
  refine ⟨fun c => absurd c (by decide), fun _ => ⟨k2, c_kind H e0 e3 e8 e4 ⟨fun _ => ?_, fun e => absurd e (by decide)⟩⟩⟩
  unfold wX5_readLines_j25
  refine ⟨k2, by decide, k2, c_kind H e0 e3 (by rw [gI_pI, if_neg (by omega)]; exact e8) (by rw [gI_pI, if_neg (by omega)]; exact e4) ⟨fun _ => ?_, fun e => absurd e (by decide)⟩⟩
  unfold wX5_readLines_j44
  refine ⟨k2, by decide, k2, c_kind H e0 e3 (by rw [gI_pI, if_neg (by omega), gI_pI, if_neg (by omega)]; exact e8) (by rw [gI_pI, if_neg (by omega), gI_pI, if_neg (by omega)]; exact e4) ?_⟩
  refine ⟨fun e => absurd e (by decide), fun _ => ⟨fun e => absurd e (by decide), fun _ => ⟨fun e => absurd e (by decide), fun _ => ⟨fun e => absurd e (by decide), fun _ => ⟨fun e => absurd e (by decide), fun _ => ⟨fun e => absurd e (by decide), fun _ => ?_⟩⟩⟩⟩⟩⟩
  refine ⟨fun e => absurd e (by decide), fun _ => ⟨fun e => absurd e (by decide), fun _ => ⟨fun e => absurd e (by decide), fun _ => ⟨fun e => absurd e (by decide), fun _ => ⟨fun e => absurd e (by decide), fun _ => ⟨fun e => absurd e (by decide), fun _ => J B⟩⟩⟩⟩⟩⟩
theorem c_machines {Q : Int32 → Hp → Prop} (H : FxS S z) (F : Fx h z) (q : ∀ h', Sm (Up z) h h' → Q (-1) h') : wX11_machines S h z x1 Q := by
  have k2 : (S (z + 2)).1 = 6 := by rw [H.1.s2]
  unfold wX11_machines
  rw [F.i z 9 (by omega) (by omega)]
  refine ⟨fun _ => ⟨H.k, c_refuse H q⟩, fun n => ⟨H.k, fun m => ?_, fun _ => c_refuse H q⟩⟩
  have hx : x1 = 0 := Int32.le_antisymm m (Int32.not_lt.mp n)
  subst hx
  rw [F.1.reader, F.1.tape, F.2.2.2.1]
  refine ⟨k2, c_start H F fun h1 a1 a2 a3 a4 a5 a6 s1 => ?_⟩
  rw [a1]
  refine ⟨k2, c_lines H a2 a3 a4 a5 a6 fun h2 r2 s2 => ?_⟩
  have b1 : gR h2 z 1 = z + 2 := (r2 z 1).trans a1
  intro h44 e44
  subst e44
  refine ⟨by show (S (gR h2 z 1)).1 = 6; rw [b1]; exact k2, fun h55 e55 => ?_⟩
  subst e55
  refine ⟨by show (S (gR h2 z 1)).1 = 6; rw [b1]; exact k2, fun h66 e66 => ?_⟩
  subst e66
  exact nz (c_refuse H fun h' s => q h' (((((s1.tr s2).pI (upN (by omega)) _ _).pI (upN (by omega)) _ _).pI (upN (by omega)) _ _).tr s))
end
