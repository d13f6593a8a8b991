/-! THE REFERENCE READS SUMS AND TESTS -/
/-- what the reading of a test or sum may change; s: steps written before -/
def Ef (r s : Nat) (h h' : Hp) : Prop := Sm (fun a => a ≠ r ∧ a ≠ r + 25 ∧ a ≠ r + 26) h h' ∧ (∀ b k, gR h' b k = gR h b k) ∧ (∀ b k, b ≠ r ∨ k ≠ 13 → gJ h' b k = gJ h b k) ∧ (∀ k, k < 6 ∨ (12 < k ∧ k < 41) ∨ 43 < k → gI h' r k = gI h r k) ∧
  ∀ j, j < 700 + s → gI h' (r + 25) j = gI h (r + 25) j ∧ gI h' (r + 26) j = gI h (r + 26) j
theorem Ef.rf {r s : Nat} {h : Hp} : Ef r s h h := ⟨Sm.rf, fun _ _ => rfl, fun _ _ _ => rfl, fun _ _ => rfl, fun _ _ => ⟨rfl, rfl⟩⟩
theorem Ef.tr {r s s' : Nat} {h1 h2 h3 : Hp} (a : Ef r s h1 h2) (b : Ef r s' h2 h3) (hs : s ≤ s') : Ef r s h1 h3 :=
  ⟨a.1.tr b.1, fun q k => (b.2.1 q k).trans (a.2.1 q k), fun q k p => (b.2.2.1 q k p).trans (a.2.2.1 q k p), fun k p => (b.2.2.2.1 k p).trans (a.2.2.2.1 k p),
    fun j p => ⟨(b.2.2.2.2 j (by omega)).1.trans (a.2.2.2.2 j p).1, (b.2.2.2.2 j (by omega)).2.trans (a.2.2.2.2 j p).2⟩⟩
theorem Ef.gf {r s : Nat} {h h' : Hp} (g : Gf r h h') : Ef r s h h' :=
  ⟨g.1.mono fun a ha => ha.1, fun b k => by
    by_cases e : b = r
    · subst e; exact g.2.1 k
    · exact g.1.R e k, fun b k p => by
    by_cases e : b = r
    · subst e; exact g.2.2.1 k (by omega)
    · exact g.1.J e k, fun k p => g.2.2.2 k (by omega), fun j _ => ⟨g.1.I (by omega) j, g.1.I (by omega) j⟩⟩
theorem Ef.pI {r s k : Nat} {h h' : Hp} (a : Ef r s h h') (hk : (6 ≤ k ∧ k ≤ 12) ∨ (41 ≤ k ∧ k ≤ 43)) (v : Int32) : Ef r s h (pI h' r k v) :=
  ⟨a.1.pI (by simp) _ _, a.2.1, a.2.2.1, fun j p => by rw [gI_pI, if_neg (by omega)]; exact a.2.2.2.1 j p, fun j p => by rw [gI_pI, if_neg (by omega), gI_pI, if_neg (by omega)]; exact a.2.2.2.2 j p⟩
def RN (A : Ab) (h : Hp) (r m k : Nat) : Prop := m < 3 ∧ gI h r 38 = nI (m + 1) ∧ gI h r 44 = bI (decide (k = 0)) ∧ gI h r 45 = bI (decide (k = 1)) ∧
  ∀ i, i ≤ m → aVm A i ≤ 3 ∧ gI h (r + 5) (3 + i) = nI (aVm A i) ∧ ∀ v, v < aVm A i → gJ h (r + 3) (9 + 3 * i + v) = aVn A i v
theorem RN.ef {A : Ab} {h h' : Hp} {r m k s : Nat} (H : RN A h r m k) (f : Ef r s h h') : RN A h' r m k := by
  obtain ⟨h1, h2, h3, h4, h5⟩ := H
  refine ⟨h1, by rw [f.2.2.2.1 38 (by omega)]; exact h2, by rw [f.2.2.2.1 44 (by omega)]; exact h3, by rw [f.2.2.2.1 45 (by omega)]; exact h4, fun i hi => ⟨(h5 i hi).1, ?_, fun v hv => ?_⟩⟩
  · rw [f.1.I ⟨by omega, by omega, by omega⟩]; exact (h5 i hi).2.1
  · rw [f.2.2.1 _ _ (Or.inl (by omega))]; exact (h5 i hi).2.2 v hv
def RE (A : Ab) (B : Bx) (S : Sh) (h : Hp) (r m k t a o s : Nat) : Prop := Rp B S h r t ∧ RN A h r m k ∧ gI h r 42 = nI a ∧ gI h r 43 = nI o ∧ gI h r 41 = nI s
def RAp (h : Hp) (r f : Nat) (L : Cd) : Prop := ∀ (i : Nat) (y : Nat × Nat), L[i]? = some y → gI h (r + 25) (700 + f + i) = nI y.1 ∧ gI h (r + 26) (700 + f + i) = nI y.2
theorem RAp.ef {h h' : Hp} {r f s : Nat} {L : Cd} (H : RAp h r f L) (x : Ef r s h h') (hz : f + L.length ≤ s) : RAp h' r f L := fun i y hy => by
  have := (List.getElem?_eq_some_iff.mp hy).1
  rw [(x.2.2.2.2 _ (by omega)).1, (x.2.2.2.2 _ (by omega)).2]
  exact H i y hy
theorem RAp.app {h : Hp} {r f : Nat} {L1 L2 : Cd} (H1 : RAp h r f L1) (H2 : RAp h r (f + L1.length) L2) : RAp h r f (L1 ++ L2) := fun i y hy => by
  by_cases c : i < L1.length
  · rw [List.getElem?_append_left c] at hy
    exact H1 i y hy
  · rw [List.getElem?_append_right (by omega)] at hy
    have := H2 _ y hy
    rw [show 700 + (f + L1.length) + (i - L1.length) = 700 + f + i by omega] at this
    exact this
theorem RAp.nil {h : Hp} {r f : Nat} : RAp h r f [] := fun i z hz => by cases hz
def Rg (r s : Nat) (h h' : Hp) (L : Cd) : Prop := Ef r s h h' ∧ RAp h' r s L
theorem Rg.tr {r s s1 : Nat} {h h1 h2 : Hp} {L1 L2 : Cd} (a : Rg r s h h1 L1) (b : Rg r s1 h1 h2 L2) (e : s1 = s + L1.length) : Rg r s h h2 (L1 ++ L2) := by
  subst e
  exact ⟨a.1.tr b.1 (by omega), (a.2.ef b.1 (Nat.le_refl _)).app b.2⟩
theorem Rg.rf {r s : Nat} {h : Hp} : Rg r s h h [] := ⟨Ef.rf, RAp.nil⟩
theorem RE.gf {A : Ab} {B : Bx} {S : Sh} {h h' : Hp} {r m k t t' a o s : Nat} (E : RE A B S h r m k t a o s) (g : Gf r h h') (p : Rp B S h' r t') : RE A B S h' r m k t' a o s :=
  ⟨p, E.2.1.ef (Ef.gf (s := 0) g), by rw [g.2.2.2 42 (by omega)]; exact E.2.2.1, by rw [g.2.2.2 43 (by omega)]; exact E.2.2.2.1, by rw [g.2.2.2 41 (by omega)]; exact E.2.2.2.2⟩
theorem RE.go {A : Ab} {B : Bx} {S : Sh} {h : Hp} {r m k t a o s : Nat} {Q : Hp → Prop} (E : RE A B S h r m k t a o s) (q : ∀ h', Rg r s h h' [] → RE A B S h' r m k (t + 1) a o s → Q h') : wX12_goOn S h r Q :=
  E.1.go fun h' g p => q h' ⟨Ef.gf g, RAp.nil⟩ (E.gf g p)
/-- a field of the reading is written -/
theorem Rp.fld {B : Bx} {S : Sh} {h : Hp} {r t k : Nat} (H : Rp B S h r t) (hk : 13 < k) (v : Int32) : Rp B S (pI h r k v) r t := by
  obtain ⟨h1, h2, h3, h4, h5⟩ := H
  refine ⟨h1, h2.of fun _ => rfl, h3.of (by rw [gI_pI, if_neg (by omega)]) (fun i => by rw [gI_pI, if_neg (by omega)]), ?_, by rw [gI_pI, if_neg (by omega)]; exact h5⟩
  unfold Tk at h4 ⊢
  rw [gI_pI, if_neg (by omega), gI_pI, if_neg (by omega), gI_pI, if_neg (by omega), gI_pI, if_neg (by omega), gI_pI, if_neg (by omega), gJ_pI]
  exact h4
theorem Rp.row {B : Bx} {S : Sh} {h : Hp} {r t k j : Nat} (H : Rp B S h r t) (hk : 2 ≤ k) (v : Int32) : Rp B S (pI h (r + k) j v) r t := by
  obtain ⟨h1, h2, h3, h4, h5⟩ := H
  refine ⟨h1, h2.of fun _ => rfl, h3.of (by rw [gI_pI, if_neg (by omega)]) (fun i => by rw [gI_pI, if_neg (by omega)]), ?_, by rw [gI_pI, if_neg (by omega)]; exact h5⟩
  unfold Tk at h4 ⊢
  rw [gI_pI, if_neg (by omega), gI_pI, if_neg (by omega), gI_pI, if_neg (by omega), gI_pI, if_neg (by omega), gI_pI, if_neg (by omega), gJ_pI]
  exact h4
def emH (h : Hp) (r s : Nat) (x y : Int32) : Hp := pI (pI (pI h (r + 25) (700 + s) x) (r + 26) (700 + s) y) r 41 (nI (s + 1))
theorem emH_ef {h : Hp} {r s0 s : Nat} {x y : Int32} (h0 : s0 ≤ s) : Ef r s0 h (emH h r s x y) := by
  unfold emH
  refine Ef.pI ⟨(Sm.rf.pI (by simp) _ _).pI (by simp) _ _, fun _ _ => rfl, fun _ _ _ => rfl, fun j p => ?_, fun j p => ?_⟩ (by omega) _
  · rw [gI_pI, if_neg (by omega), gI_pI, if_neg (by omega)]
  · rw [gI_pI, if_neg (by omega), gI_pI, if_neg (by omega), gI_pI, if_neg (by omega), gI_pI, if_neg (by omega)]
    exact ⟨rfl, rfl⟩
theorem emH_w {S : Sh} {h : Hp} {r s : Nat} {x y : Int32} {Q : Hp → Prop} (hS : RS S r) (hR : RR h r) (h41 : gI h r 41 = nI s) (hs : s < 700) (q : Q (emH h r s x y)) : wX12_emits S h r x y Q := by
  unfold wX12_emits
  rw [hR.what, h41, show (700 : Int32) = nI 700 from rfl, nI_add, ix_nI (by omega)]
  refine ⟨hS.1, hS.what (by omega), nm_e ?_⟩
  have e26 : gR (pI h (r + 25) (700 + s) x) r 40 = r + 26 := hR.which
  rw [e26, gI_pI, if_neg (by omega), h41, nI_add, ix_nI (by omega)]
  refine ⟨hS.which (by omega), nm_e ?_⟩
  rw [gI_pI, if_neg (by omega), gI_pI, if_neg (by omega), h41, nI_1]
  exact q
theorem RE.put {A : Ab} {B : Bx} {S : Sh} {h : Hp} {r m k t a o s : Nat} {y : Nat × Nat} {Q : Hp → Prop} (E : RE A B S h r m k t a o s) (hs : s < 700) (q : ∀ h', Rg r s h h' [y] → RE A B S h' r m k t a o (s + 1) → Q h') : wX12_emits S h r (nI y.1) (nI y.2) Q := by
  refine emH_w E.1.1 E.1.2.1 E.2.2.2.2 hs (q _ ⟨emH_ef (Nat.le_refl _), fun i z hz => ?_⟩ ?_)
  · cases i with
    | zero =>
      cases hz
      unfold emH
      rw [Nat.add_zero, gI_pI, if_neg (by omega), gI_pI, if_neg (by omega), gI_pI, if_pos ⟨rfl, rfl⟩, gI_pI, if_neg (by omega), gI_pI, if_pos ⟨rfl, rfl⟩]
      exact ⟨rfl, rfl⟩
    | succ i => cases hz
  · have f : Ef r s h (emH h r s (nI y.1) (nI y.2)) := emH_ef (Nat.le_refl _)
    refine ⟨((E.1.row (k := 25) (by omega) _).row (k := 26) (by omega) _).fld (k := 41) (by omega) _, E.2.1.ef f, ?_, ?_, ?_⟩
    · unfold emH
      rw [gI_pI, if_neg (by omega), gI_pI, if_neg (by omega), gI_pI, if_neg (by omega)]; exact E.2.2.1
    · unfold emH
      rw [gI_pI, if_neg (by omega), gI_pI, if_neg (by omega), gI_pI, if_neg (by omega)]; exact E.2.2.2.1
    · unfold emH
      rw [gI_pI, if_pos ⟨rfl, rfl⟩]
/-- a fault was met; at most lim steps are written -/
def FS (r s0 : Nat) (h0 h : Hp) (f p lim : Nat) : Prop := Ef r s0 h0 h ∧ Fm h r f p ∧ ∃ s', gI h r 41 = nI s' ∧ s0 ≤ s' ∧ s' ≤ lim
theorem FS.mono {r s0 : Nat} {h0 h : Hp} {f p lim lim' : Nat} (H : FS r s0 h0 h f p lim) (hl : lim ≤ lim') : FS r s0 h0 h f p lim' := by
  obtain ⟨h1, h2, s', h3, h4, h5⟩ := H
  exact ⟨h1, h2, s', h3, h4, by omega⟩
theorem FS.pre {r s0 s1 : Nat} {h0 h1 h : Hp} {f p lim : Nat} (H : FS r s1 h1 h f p lim) (g : Ef r s0 h0 h1) (hs : s0 ≤ s1) : FS r s0 h0 h f p lim := by
  obtain ⟨h1, h2, s', h3, h4, h5⟩ := H
  exact ⟨g.tr h1 hs, h2, s', h3, by omega, h5⟩
theorem FS.put {S : Sh} {r s0 : Nat} {h0 h : Hp} {f p lim : Nat} {x y : Int32} {Q : Hp → Prop} (H : FS r s0 h0 h f p lim) (hS : RS S r) (hR : RR h0 r) (hl : lim < 700) (q : ∀ h', FS r s0 h0 h' f p (lim + 1) → Q h') : wX12_emits S h r x y Q := by
  obtain ⟨h1, h2, s', h3, h4, h5⟩ := H
  refine emH_w hS (hR.of fun k => h1.2.1 r k) h3 (by omega) (q _ ⟨h1.tr (emH_ef h4) (Nat.le_refl _), h2.of ?_ ?_, s' + 1, ?_, by omega, by omega⟩)
  · unfold emH
    rw [gI_pI, if_neg (by omega), gI_pI, if_neg (by omega), gI_pI, if_neg (by omega)]
  · unfold emH
    rw [gI_pI, if_neg (by omega), gI_pI, if_neg (by omega), gI_pI, if_neg (by omega)]
  · unfold emH
    rw [gI_pI, if_pos ⟨rfl, rfl⟩]
theorem FS.pI {r s0 k : Nat} {h0 h : Hp} {f p lim : Nat} (H : FS r s0 h0 h f p lim) (hk : k = 42 ∨ k = 43) (v : Int32) : FS r s0 h0 (pI h r k v) f p lim := by
  obtain ⟨h1, h2, s', h3, h4, h5⟩ := H
  exact ⟨h1.pI (by omega) _, h2.of (by rw [gI_pI, if_neg (by omega)]) (by rw [gI_pI, if_neg (by omega)]), s', by rw [gI_pI, if_neg (by omega)]; exact h3, h4, h5⟩
theorem RE.fs {A : Ab} {B : Bx} {S : Sh} {h : Hp} {r m k t a o s f : Nat} (E : RE A B S h r m k t a o s) (h0 : 0 < f) (hf : f < 10) : FS r s h (flw h r f) f (tkP B t) s := by
  refine ⟨(Ef.rf.pI (by omega) _).pI (by omega) _, E.1.fm h0 hf, s, ?_, Nat.le_refl _, Nat.le_refl _⟩
  unfold flw
  rw [gI_pI, if_neg (by omega), gI_pI, if_neg (by omega)]
  exact E.2.2.2.2
def RX (A : Ab) (B : Bx) (S : Sh) (r N m k o b : Nat) (X : Nat → Nat → PR) (W : Hp → (Hp → Prop) → Prop) : Prop := ∀ (h : Hp) (t a s : Nat) (Q : Hp → Prop), RE A B S h r m k t a o s → s ≤ t → t ≤ N → a ≤ 30 →
  (∀ x h', X t a = .ok x → Rg r s h h' x.2.2 → RE A B S h' r m k x.1 x.2.1 o (s + x.2.2.length) → Q h') →
  (∀ e h', X t a = .error e → FS r s h h' e.1 (tkP B e.2) (s + (e.2 - t) + b) → Q h') → W h Q
theorem gnL_w {B : Bx} {X : Nat → Nat → PR} {tg ts : Nat} {ls : Nat → Nat} {n w t a : Nat} (h : tkK B t ≠ tg) : gnL B X tg ts ls (n + 1) w t a = preC (wpC w) (gnL B X tg ts ls (n + 1) 0 t a) := by
  unfold gnL
  rw [if_neg h, if_neg h]
  split
  · show _ = (Except.ok (t, a, wpC w ++ wpC 0) : PR)
    rw [show wpC 0 = [] from rfl, List.append_nil]
  · cases X (t + 1) a with
    | error e => rfl
    | ok x =>
      show preC (wpC w ++ x.2.2) _ = preC (wpC w) (preC (wpC 0 ++ x.2.2) _)
      rw [show wpC 0 = [] from rfl, List.nil_append]
      cases gnL B X tg ts ls n (ls (tkK B t)) x.1 x.2.1 with
      | error e => rfl
      | ok y =>
        show (Except.ok _ : PR) = .ok _
        rw [List.append_assoc]
theorem rVar {A : Ab} {S : Sh} {h : Hp} {r m k i w : Nat} {Q : Int32 → Hp → Prop} (hS : RS S r) (hR : RR h r) (H : RN A h r m k) (hi : i ≤ m) (q : Q (match fdI (aVn A i) (lN w) (aVm A i) 0 with | some v => nI v | none => -1) h) : wX12_varOf S h r (nI (3 + i)) (lN w) Q := by
  have hm := H.1
  obtain ⟨v3, e1, e2⟩ := H.2.2.2.2 i hi
  have lp : ∀ (j v : Nat), v + j = aVm A i → fdI (aVn A i) (lN w) j v = fdI (aVn A i) (lN w) (aVm A i) 0 → wX12_varOf_3 S r (nI (3 + i)) (lN w) Q (j + 1) h (nI v) := by
    intro j
    induction j with
    | zero =>
      intro v hv hf
      show wX12_varOf_3b S r (nI (3 + i)) (lN w) Q _ h (nI v)
      unfold wX12_varOf_3b
      rw [hR.varMany, ix_nI (by omega), e1]
      refine ⟨hS.1, hS.varMany (by omega), br_t (nI_le (by omega) (by omega)) ?_⟩
      rw [← hf] at q
      exact q
    | succ j ih =>
      intro v hv hf
      show wX12_varOf_3b S r (nI (3 + i)) (lN w) Q (wX12_varOf_3 S r (nI (3 + i)) (lN w) Q (j + 1)) h (nI v)
      unfold wX12_varOf_3b
      rw [hR.varMany, ix_nI (by omega), e1, hR.varName, n_3, nI_mul, nI_add, ix_nI (by omega), show 3 * (3 + i) + v = 9 + 3 * i + v by omega, e2 v (by omega), lg_cmp_eq, nI_1]
      refine ⟨hS.1, hS.varMany (by omega), br_f (nI_ge (by omega) (by omega)) ⟨hS.varName (by omega), ?_⟩⟩
      by_cases e : aVn A i v = lN w
      · rw [fdI_y e] at hf
        rw [← hf] at q
        exact ⟨fun n => absurd e n, fun _ => q⟩
      · rw [fdI_n e] at hf
        exact ⟨fun _ => ih (v + 1) (by omega) hf, fun n => absurd n e⟩
  exact ⟨_, lp (aVm A i) 0 (by omega) rfl⟩
