/-! ONE CALL ON A FRESH OBJECT: feed and machines of the reference -/
section
variable {S : Sh} {r : Nat} {x1 x2 x3 x4 x5 : Int32}
theorem r_feed1 {h : Hp} {n i : Nat} {Q : Int32 → Hp → Prop} (H : RS S r) (hi : i < 20) (e4 : gI h r 4 = 0) (e3 : gR h r 3 = r + 1)
    (q : ∀ h', gI h' r 4 = 0 → gR h' r 3 = r + 1 → wX12_feed_23 S r x1 x2 x3 x4 x5 Q n h' (nI (i + 1))) : wX12_feed_23 S r x1 x2 x3 x4 x5 Q (n + 1) h (nI i) := by
  have J : ∀ s0 : Int32, wX12_feed_j76 S (wX12_feed_23 S r x1 x2 x3 x4 x5 Q n) h r x1 x2 x3 x4 x5 (nI i) s0 Q := fun s0 => by
    unfold wX12_feed_j76
    rw [e4, e3, Int32.zero_add]
    refine ⟨H.1, by decide, inA_of H.2.1 (by omega) (by decide), ?_⟩
    rw [nI_1]
    exact q _ (by rw [gI_pI, if_neg (by omega)]; exact e4) e3
  show wX12_feed_23b S r x1 x2 x3 x4 x5 Q (wX12_feed_23 S r x1 x2 x3 x4 x5 Q n) h (nI i)
  unfold wX12_feed_23b
  exact ⟨fun c => absurd c (nI_ge (b := 20) hi (by decide)), fun _ => ⟨fun _ => ⟨fun _ => ⟨fun _ => ⟨fun _ => J _, fun _ => J _⟩, fun _ => J _⟩, fun _ => J _⟩, fun _ => J _⟩⟩
theorem r_feedL {Q : Int32 → Hp → Prop} (H : RS S r) (q : ∀ h', Q (nI 20) h') : ∀ (n i : Nat) (h : Hp), i + n = 20 → gI h r 4 = 0 → gR h r 3 = r + 1 → wX12_feed_23 S r x1 x2 x3 x4 x5 Q (n + 1) h (nI i)
  | 0, i, h, e, e4, e3 => by
    have hi : i = 20 := by omega
    subst hi
    show wX12_feed_23b S r x1 x2 x3 x4 x5 Q (wX12_feed_23 S r x1 x2 x3 x4 x5 Q 0) h (nI 20)
    unfold wX12_feed_23b
    refine ⟨fun _ => ⟨H.1, fun h121 e => ?_⟩, fun c => absurd (by decide) c⟩
    have g : gI h121 r 4 = nI 20 := by
      rw [e, gI_pI, if_pos ⟨rfl, rfl⟩, e4]
      decide
    rw [g]
    exact q _
  | n + 1, i, h, e, e4, e3 => r_feed1 H (by omega) e4 e3 fun h' a b => r_feedL H q n (i + 1) h' (by omega) a b
theorem r_feed {h : Hp} {Q : Int32 → Hp → Prop} (H : RS S r) (F : Fq h r) (q : ∀ h', Q (nI 20) h') : wX12_feed S h r x1 x2 x3 x4 x5 Q := by
  unfold wX12_feed
  refine ⟨H.1, fun h2 e => ?_⟩
  subst e
  have F0 := F.p0
  generalize pI h r 0 0 = g at F0
  rw [F0.i 4 (by decide)]
  exact ⟨fun _ => ⟨21, r_feedL H q 20 0 g rfl (F0.i 4 (by decide)) F0.1.1⟩, fun c => absurd (by decide) c⟩
/-- the token behind the end of no text -/
theorem r_goOn {h : Hp} {Q : Hp → Prop} (H : RS S r) (e5 : gI h r 5 = 0) (e6 : gI h r 6 = 0) (e7 : gI h r 7 = 0) (q : ∀ h', gI h' r 7 = 0 → gI h' r 9 = 1 → Q h') : wX12_goOn S h r Q := by
  unfold wX12_goOn
  rw [e7]
  refine ⟨H.1, fun _ => ⟨1, ?_⟩, fun c => absurd (Int32.le_refl 0) c⟩
  show wX12_goOn_8b S r Q (wX12_goOn_8 S r Q 0) h
  unfold wX12_goOn_8b
  rw [e5, e6]
  refine ⟨H.1, fun _ => ?_, fun c => absurd (Int32.le_refl 0) c⟩
  unfold wX12_goOn_j46
  refine ⟨H.1, fun h51 e => ?_⟩
  have f5 : gI h51 r 5 = 0 := by rw [e, gI_pI, if_neg (by omega)]; exact e5
  have f6 : gI h51 r 6 = 0 := by rw [e, gI_pI, if_neg (by omega)]; exact e6
  have f7 : gI h51 r 7 = 0 := by rw [e, gI_pI, if_neg (by omega)]; exact e7
  rw [f5, f6]
  exact ⟨fun n => absurd rfl n, fun _ => q _ (by rw [gI_pI, if_neg (by omega)]; exact f7) (by rw [gI_pI, if_pos ⟨rfl, rfl⟩])⟩
theorem r_isW {h : Hp} {K : Nat → Nat} {w : Nat} {Q : Int32 → Hp → Prop} (H : RS S r) (e9 : gI h r 9 = 1) (q : Q 0 h) : wX12_isWord S K h r w Q := by
  unfold wX12_isWord
  rw [e9]
  exact ⟨H.1, fun _ => q, fun _ => ⟨fun _ => q, fun e => absurd e (by decide)⟩⟩
theorem r_readLine {h : Hp} {K : Nat → Nat} {Q : Hp → Prop} (H : RS S r) (e7 : gI h r 7 = 0) (e9 : gI h r 9 = 1) (q : ∀ h', gI h' r 7 = 1 → Q h') : wX12_readLine S K h r Q := by
  unfold wX12_readLine
  rw [e7]
  refine ⟨H.1, fun _ xv _ => ?_, fun c => absurd (Int32.le_refl 0) c⟩
  refine r_isW H e9 (pz (r_isW H e9 (nz (r_isW H e9 (nz (r_isW H e9 (nz (r_isW H e9 (nz ?_)))))))))
  unfold wX12_flaw
  rw [e7]
  refine ⟨H.1, fun _ h10 e => ?_, fun c => absurd (Int32.le_refl 0) c⟩
  have f7 : gI (pI h10 r 8 (gI h10 r 10)) r 7 = 1 := by rw [gI_pI, if_neg (by omega), e, gI_pI, if_pos ⟨rfl, rfl⟩]
  show wX12_readLine_j102 S K (pI h10 r 8 (gI h10 r 10)) r xv 0 Q
  generalize pI h10 r 8 (gI h10 r 10) = g at f7
  unfold wX12_readLine_j102
  rw [f7]
  exact ⟨H.1, fun c => absurd c (by decide), fun _ => q _ f7⟩
theorem r_readAll {h : Hp} {K : Nat → Nat} {Q : Hp → Prop} (H : RS S r) (e5 : gI h r 5 = 0) (e6 : gI h r 6 = 0) (e7 : gI h r 7 = 0) (q : ∀ h', gI h' r 7 = 1 → Q h') : wX12_readAll S K h r Q := by
  unfold wX12_readAll
  refine ⟨H.1, fun h2 e => ?_⟩
  subst e
  refine r_goOn H ?_ ?_ ?_ fun h1 a7 a9 => r_readLine H a7 a9 fun h3 b7 => ⟨1, ?_⟩
  · rw [gI_pI, if_neg (by omega), gI_pI, if_neg (by omega)]; exact e5
  · rw [gI_pI, if_neg (by omega), gI_pI, if_neg (by omega)]; exact e6
  · rw [gI_pI, if_neg (by omega), gI_pI, if_neg (by omega)]; exact e7
  have n1 : ¬ gI h3 r 7 = 0 := by rw [b7]; decide
  show wX12_readAll_18b S K r Q (wX12_readAll_18 S K r Q 0) h3
  unfold wX12_readAll_18b wX12_passesSign wX12_isSign wX12_readAll_j34 wX12_readAll_j54
  exact ⟨H.1, H.1, H.1, fun _ => nz (pz ⟨H.1, fun _ => ⟨H.1, fun _ => q h3 b7, fun e => absurd e n1⟩, fun e => absurd e n1⟩), fun e => absurd e n1⟩
theorem r_machines {h : Hp} {K : Nat → Nat} {Q : Int32 → Hp → Prop} (H : RS S r) (F : Fq h r) (q : ∀ h', Q (-1) h') : wX12_machines S K h r x1 Q := by
  unfold wX12_machines wX12_in
  refine ⟨H.1, fun h2 e => ?_⟩
  subst e
  have F0 := F.p0
  generalize pI h r 0 0 = g at F0
  rw [F0.i 4 (by decide)]
  refine ⟨fun _ => nz (r_refused H q), fun n => ⟨fun _ => nz (r_refused H q), fun m => ⟨fun _ => ?_, fun e => absurd e (by decide)⟩⟩⟩
  have hx : x1 = 0 := Int32.le_antisymm (Int32.not_lt.mp m) (Int32.not_lt.mp n)
  subst hx
  intro h25 e25 h30 e30 h35 e35
  refine r_readAll H ?_ ?_ ?_ fun h44 a7 => ?_
  · rw [gI_pI, if_neg (by omega), e35, gI_pI, if_neg (by omega), e30, gI_pI, if_neg (by omega), e25, gI_pI, if_pos ⟨rfl, rfl⟩]
  · rw [gI_pI, if_neg (by omega), e35, gI_pI, if_pos ⟨rfl, rfl⟩]
  · rw [gI_pI, if_pos ⟨rfl, rfl⟩]
  rw [a7]
  exact ⟨fun c => absurd c (by decide), fun _ h56 _ => q _⟩
end
