section
variable {A : Ab} {m : Nat} {c : Cd}
theorem addL_m : aMM (addL A m c) = aMM A ∧ aVm (addL A m c) m = aVm A m ∧ aSz (addL A m c) m = aSz A m ∧ aLm (addL A m c) m = aLm A m + 1 ∧ aEm (addL A m c) m = aEm A m ∧ aVt (addL A m c) m = aVt A m ∧ aLc (addL A m c) m (aLm A m) = c ∧ (∀ l, l ≠ aLm A m → aLc (addL A m c) m l = aLc A m l) ∧
    (∀ k, k ≠ 6 → (addL A m c).1 k m = A.1 k m) ∧ (∀ k, k ≠ 0 → (addL A m c).2.1 k = A.2.1 k) ∧ (addL A m c).2.2 = A.2.2 := by
  refine ⟨by simp [aMM, addL], by simp [aVm, addL], by simp [aSz, addL], by simp [aLm, addL], by simp [aEm, addL], by simp [aVt, addL], by simp [aLc, aLm, addL], fun l hl => ?_, fun k hk => funext fun x => ?_, fun k hk => funext fun i => funext fun x => ?_, rfl⟩
  · simp only [aLc, addL]
    rw [if_neg (fun q => hl q.2.2)]
  · simp only [addL]
    rw [if_neg (fun q => hk q.2)]
  · simp only [addL]
    rw [if_neg (fun q => hk q.1)]
theorem addT_m : aMM (addT A m c) = aMM A ∧ aVm (addT A m c) m = aVm A m ∧ aSz (addT A m c) m = aSz A m ∧ aLm (addT A m c) m = aLm A m ∧ aEm (addT A m c) m = aEm A m ∧ aVt (addT A m c) m = 1 ∧ aVc (addT A m c) m = c ∧
    (∀ k, k ≠ 8 → (addT A m c).1 k m = A.1 k m) ∧ (∀ k, k ≠ 3 → (addT A m c).2.1 k = A.2.1 k) ∧ (addT A m c).2.2 = A.2.2 := by
  refine ⟨by simp [aMM, addT], by simp [aVm, addT], by simp [aSz, addT], by simp [aLm, addT], by simp [aEm, addT], by simp [aVt, addT], by simp [aVc, addT], fun k hk => funext fun x => ?_, fun k hk => funext fun i => funext fun x => ?_, rfl⟩
  · simp only [addT]
    rw [if_neg (fun q => hk q.2)]
  · simp only [addT]
    rw [if_neg (fun q => hk q.1)]
end
theorem aPr_k {A A' : Ab} {m : Nat} (h2 : A'.1 2 m = A.1 2 m) (h3 : A'.1 3 m = A.1 3 m) : ∀ v, aPr A' m v = aPr A m v
  | 0 => rfl
  | v + 1 => by
    show aPr A' m v * (A'.1 3 m v + 1 - A'.1 2 m v) = aPr A m v * (A.1 3 m v + 1 - A.1 2 m v)
    rw [aPr_k h2 h3 v, h2, h3]
theorem cM_lt {A : Ab} (h0 : aMM A ≠ 0) : cM A < aMM A := by unfold cM; omega
theorem wdA_up {A A' : Ab} (H : wdA A) (h0 : aMM A ≠ 0) (hM : aMM A' = aMM A) (ag : ∀ i, i < aMM A → i ≠ cM A → AgM A A' i) (hv : aVm A' (cM A) = aVm A (cM A)) (hc : wdM A' (cM A)) : wdA A' := by
  have hm := cM_lt h0
  rw [wdA, hM]
  refine ⟨H.1, fun m hm' => ?_, fun m hm' => ?_⟩
  · by_cases c : m = cM A
    · rw [c]; exact hc
    · refine wdM_ag (ag m hm' c) (fun h0 => ?_) (H.2.1 m hm')
      have a := ag (m - 1) (by omega) (by unfold cM; omega)
      exact ⟨a.vm, a.em⟩
  · by_cases c : m = cM A
    · rw [c, hv]; rw [c] at hm'; exact H.2.2 _ hm'
    · rw [(ag m (by omega) c).vm]; exact H.2.2 m hm'
theorem wdA_L {A : Ab} {c : Cd} (H : wdA A) (h0 : aMM A ≠ 0) (hv : aVm A (cM A) ≠ 0) (hl : aLm A (cM A) < 4) (hc : wfC A (cM A) 0 c) : wdA (addL A (cM A) c) := by
  obtain ⟨e0, e1, e2, e3, e4, e5, e6, e7, e8, e9, e10⟩ := addL_m (A := A) (m := cM A) (c := c)
  have hm := cM_lt h0
  obtain ⟨w1, w2, w3, w4, w5, w6, w7, w8, w9, w10, w11⟩ := H.2.1 _ hm
  have v2 : 0 < cM A → aVm (addL A (cM A) c) (cM A - 1) = aVm A (cM A - 1) := fun _ => (addL_ag (by omega)).vm
  have E2 : 0 < cM A → aEm (addL A (cM A) c) (cM A - 1) = aEm A (cM A - 1) := fun _ => (addL_ag (by omega)).em
  refine wdA_up H h0 e0 (fun i _ hi => addL_ag hi) e1 ⟨by omega, by omega, by omega, ?_, by omega, by omega, fun v hv => ?_, fun q => ?_, fun e he => ?_, fun l hl => ?_, fun q => by omega⟩
  · rw [e1, e2, aPr_k (e8 2 (by decide)) (e8 3 (by decide))]; exact w4
  · rw [e1] at hv
    have := w7 v hv
    rw [← show aLo (addL A (cM A) c) (cM A) v = aLo A (cM A) v from congrFun (e8 2 (by decide)) v, ← show aHi (addL A (cM A) c) (cM A) v = aHi A (cM A) v from congrFun (e8 3 (by decide)) v, ← show aAt (addL A (cM A) c) (cM A) v = aAt A (cM A) v from congrFun (e8 4 (by decide)) v] at this
    exact this
  · rw [e5] at q
    rw [show aVc (addL A (cM A) c) (cM A) = aVc A (cM A) from congrFun (congrFun (e9 3 (by decide)) _) 0]
    exact wfC_ag e1 v2 (w8 q)
  · rw [e4] at he
    obtain ⟨g1, g2, g3, g4, g5, g6, g7, g8, g9⟩ := w9 e he
    rw [show aFp (addL A (cM A) c) (cM A) e = aFp A (cM A) e from congrFun (e8 10 (by decide)) e, show aLp (addL A (cM A) c) (cM A) e = aLp A (cM A) e from congrFun (e8 11 (by decide)) e, show aOe (addL A (cM A) c) (cM A) e = aOe A (cM A) e from congrFun (e8 9 (by decide)) e,
      show aGb (addL A (cM A) c) (cM A) e = aGb A (cM A) e from congrFun (e8 12 (by decide)) e, show aAs (addL A (cM A) c) (cM A) e = aAs A (cM A) e from congrFun (e8 13 (by decide)) e, show aGc (addL A (cM A) c) (cM A) e = aGc A (cM A) e from congrFun (congrFun (e9 1 (by decide)) _) e]
    refine ⟨g1, g2, g3, fun h0 => ⟨(g4 h0).1, by rw [E2 (g4 h0).1]; exact (g4 h0).2⟩, g5, wfC_ag e1 v2 g6, g7, fun v hv hb => ?_, g9⟩
    rw [e1] at hv
    rw [show aSc (addL A (cM A) c) (cM A) e v = aSc A (cM A) e v from congrFun (congrFun (e9 2 (by decide)) _) v]
    exact wfC_ag e1 v2 (g8 v hv hb)
  · rw [e3] at hl
    by_cases q : l = aLm A (cM A)
    · rw [q, e6]; exact wfC_ag e1 v2 hc
    · rw [e7 l q]; exact wfC_ag e1 v2 (w10 l (by omega))
theorem wdA_T {A : Ab} {c : Cd} (H : wdA A) (h0 : aMM A ≠ 0) (hv : aVm A (cM A) ≠ 0) (hc : wfC A (cM A) 2 c) : wdA (addT A (cM A) c) := by
  obtain ⟨e0, e1, e2, e3, e4, e5, e6, e8, e9, e10⟩ := addT_m (A := A) (m := cM A) (c := c)
  have hm := cM_lt h0
  obtain ⟨w1, w2, w3, w4, w5, w6, w7, w8, w9, w10, w11⟩ := H.2.1 _ hm
  have v2 : 0 < cM A → aVm (addT A (cM A) c) (cM A - 1) = aVm A (cM A - 1) := fun _ => (addT_ag (by omega)).vm
  have E2 : 0 < cM A → aEm (addT A (cM A) c) (cM A - 1) = aEm A (cM A - 1) := fun _ => (addT_ag (by omega)).em
  refine wdA_up H h0 e0 (fun i _ hi => addT_ag hi) e1 ⟨by omega, by omega, by omega, ?_, by omega, by omega, fun v hv => ?_, fun q => ?_, fun e he => ?_, fun l hl => ?_, fun q => by omega⟩
  · rw [e1, e2, aPr_k (e8 2 (by decide)) (e8 3 (by decide))]; exact w4
  · rw [e1] at hv
    have := w7 v hv
    rw [← show aLo (addT A (cM A) c) (cM A) v = aLo A (cM A) v from congrFun (e8 2 (by decide)) v, ← show aHi (addT A (cM A) c) (cM A) v = aHi A (cM A) v from congrFun (e8 3 (by decide)) v, ← show aAt (addT A (cM A) c) (cM A) v = aAt A (cM A) v from congrFun (e8 4 (by decide)) v] at this
    exact this
  · rw [e6]
    exact wfC_ag e1 v2 hc
  · rw [e4] at he
    obtain ⟨g1, g2, g3, g4, g5, g6, g7, g8, g9⟩ := w9 e he
    rw [show aFp (addT A (cM A) c) (cM A) e = aFp A (cM A) e from congrFun (e8 10 (by decide)) e, show aLp (addT A (cM A) c) (cM A) e = aLp A (cM A) e from congrFun (e8 11 (by decide)) e, show aOe (addT A (cM A) c) (cM A) e = aOe A (cM A) e from congrFun (e8 9 (by decide)) e,
      show aGb (addT A (cM A) c) (cM A) e = aGb A (cM A) e from congrFun (e8 12 (by decide)) e, show aAs (addT A (cM A) c) (cM A) e = aAs A (cM A) e from congrFun (e8 13 (by decide)) e, show aGc (addT A (cM A) c) (cM A) e = aGc A (cM A) e from congrFun (congrFun (e9 1 (by decide)) _) e]
    refine ⟨g1, g2, g3, fun h0 => ⟨(g4 h0).1, by rw [E2 (g4 h0).1]; exact (g4 h0).2⟩, g5, wfC_ag e1 v2 g6, g7, fun v hv hb => ?_, g9⟩
    rw [e1] at hv
    rw [show aSc (addT A (cM A) c) (cM A) e v = aSc A (cM A) e v from congrFun (congrFun (e9 2 (by decide)) _) v]
    exact wfC_ag e1 v2 (g8 v hv hb)
  · rw [e3] at hl
    rw [show aLc (addT A (cM A) c) (cM A) l = aLc A (cM A) l from congrFun (congrFun (e9 0 (by decide)) _) l]
    exact wfC_ag e1 v2 (w10 l (by omega))
section
variable {A : Ab} {m w o fp lp gb : Nat} {gc : Cd} {sc : Nat → Cd}
theorem addE_m : aMM (addE A m w o fp lp gb gc sc) = aMM A ∧ aEm (addE A m w o fp lp gb gc sc) m = aEm A m + 1 ∧ (∀ k, k < 9 → k ≠ 7 → (addE A m w o fp lp gb gc sc).1 k m = A.1 k m) ∧ (∀ k x, x ≠ aEm A m → k ≠ 7 → (addE A m w o fp lp gb gc sc).1 k m x = A.1 k m x) ∧
    (aOe (addE A m w o fp lp gb gc sc) m (aEm A m) = o ∧ aFp (addE A m w o fp lp gb gc sc) m (aEm A m) = fp ∧ aLp (addE A m w o fp lp gb gc sc) m (aEm A m) = lp ∧ aGb (addE A m w o fp lp gb gc sc) m (aEm A m) = gb ∧ aAs (addE A m w o fp lp gb gc sc) m (aEm A m) = 0) ∧
    aGc (addE A m w o fp lp gb gc sc) m (aEm A m) = gc ∧ (∀ v, aSc (addE A m w o fp lp gb gc sc) m (aEm A m) v = sc v) ∧ (∀ e, e ≠ aEm A m → aGc (addE A m w o fp lp gb gc sc) m e = aGc A m e ∧ ∀ v, aSc (addE A m w o fp lp gb gc sc) m e v = aSc A m e v) ∧
    (∀ l, aLc (addE A m w o fp lp gb gc sc) m l = aLc A m l) ∧ aVc (addE A m w o fp lp gb gc sc) m = aVc A m ∧ aMn (addE A m w o fp lp gb gc sc) m = aMn A m ∧ (m < 3 → ∀ v, aVn (addE A m w o fp lp gb gc sc) m v = aVn A m v) ∧ aXn (addE A m w o fp lp gb gc sc) m (aEm A m) = lN w ∧ ∀ e, e ≠ aEm A m → aXn (addE A m w o fp lp gb gc sc) m e = aXn A m e := by
  refine ⟨by simp [aMM, addE], by simp [aEm, addE], fun k h1 h2 => funext fun x => ?_, fun k x hx h7 => ?_, ⟨by simp [aOe, addE], by simp [aFp, addE], by simp [aLp, addE], by simp [aGb, addE], by simp [aAs, addE]⟩, by simp [aGc, addE], fun v => by simp [aSc, addE], fun e he => ⟨?_, fun v => ?_⟩, fun l => by simp [aLc, addE], by simp [aVc, addE], ?_, fun h3 v => ?_, by simp [aXn, addE], fun e he => ?_⟩
  · simp only [addE]
    rw [if_neg (fun q => h2 q.2), if_neg (by omega), if_neg (by omega), if_neg (by omega), if_neg (by omega), if_neg (by omega)]
  · simp only [addE]
    rw [if_neg (fun q => h7 q.2), if_neg (fun q => hx q.2.1), if_neg (fun q => hx q.2.1), if_neg (fun q => hx q.2.1), if_neg (fun q => hx q.2.1), if_neg (fun q => hx q.2.1)]
  · simp only [aGc, addE]
    rw [if_neg (fun q => he q.2.2), if_neg (by omega)]
  · simp only [aSc, addE]
    rw [if_neg (by omega), if_neg (by omega)]
  · simp only [aMn, addE]
    rw [if_neg (by omega)]
  · simp only [aVn, addE]
    rw [if_neg (by omega)]
  · simp only [aXn, addE]
    rw [if_neg (fun q => he q.2)]
end
theorem wdA_E {A : Ab} {w o fp lp gb : Nat} {gc : Cd} {sc : Nat → Cd} (H : wdA A) (h0 : aMM A ≠ 0) (hv : aVm A (cM A) ≠ 0) (he : aEm A (cM A) < 4) (b1 : fp ≤ lp) (b2 : lp ≤ 99) (b3 : lp < fp + 10) (b4 : o ≠ 0 → 0 < cM A ∧ o ≤ aEm A (cM A - 1)) (b5 : gb < 8) (b6 : wfC A (cM A) 1 gc) (b7 : tsC gc)
    (b8 : ∀ v, v < aVm A (cM A) → gb / 2 ^ v % 2 = 1 → wfC A (cM A) 1 (sc v)) : wdA (addE A (cM A) w o fp lp gb gc sc) := by
  obtain ⟨e0, e1, e2, e3, ⟨e4, e5, e6, e7, e8⟩, e9, e10, e11, e12, e13, e14, e15, e16, e17⟩ := addE_m (A := A) (m := cM A) (w := w) (o := o) (fp := fp) (lp := lp) (gb := gb) (gc := gc) (sc := sc)
  have hm := cM_lt h0
  have h3 := H.1
  obtain ⟨w1, w2, w3, w4, w5, w6, w7, w8, w9, w10, w11⟩ := H.2.1 _ hm
  have ag : ∀ i, i < aMM A → i ≠ cM A → AgM A (addE A (cM A) w o fp lp gb gc sc) i := fun i hi hc => addE_ag hc (by omega) he
  generalize addE A (cM A) w o fp lp gb gc sc = A' at *
  have vm : aVm A' (cM A) = aVm A (cM A) := congrFun (e2 1 (by decide) (by decide)) 0
  have v2 : 0 < cM A → aVm A' (cM A - 1) = aVm A (cM A - 1) := fun _ => (ag _ (by omega) (by omega)).vm
  have E2 : 0 < cM A → aEm A' (cM A - 1) = aEm A (cM A - 1) := fun _ => (ag _ (by omega) (by omega)).em
  have sz : aSz A' (cM A) = aSz A (cM A) := congrFun (e2 5 (by decide) (by decide)) 0
  have lm : aLm A' (cM A) = aLm A (cM A) := congrFun (e2 6 (by decide) (by decide)) 0
  have vt : aVt A' (cM A) = aVt A (cM A) := congrFun (e2 8 (by decide) (by decide)) 0
  refine wdA_up H h0 e0 ag vm ⟨by omega, by omega, by omega, ?_, by omega, by omega, fun v hv => ?_, fun q => ?_, fun e he => ?_, fun l hl => ?_, fun q => by omega⟩
  · rw [vm, sz, aPr_k (e2 2 (by decide) (by decide)) (e2 3 (by decide) (by decide))]; exact w4
  · rw [vm] at hv
    have := w7 v hv
    rw [← show aLo A' (cM A) v = aLo A (cM A) v from congrFun (e2 2 (by decide) (by decide)) v, ← show aHi A' (cM A) v = aHi A (cM A) v from congrFun (e2 3 (by decide) (by decide)) v, ← show aAt A' (cM A) v = aAt A (cM A) v from congrFun (e2 4 (by decide) (by decide)) v] at this
    exact this
  · rw [vt] at q
    rw [e13]
    exact wfC_ag vm v2 (w8 q)
  · rw [e1] at he
    by_cases c : e = aEm A (cM A)
    · subst c
      rw [e4, e5, e6, e7, e8, e9]
      refine ⟨b1, b2, b3, fun h0 => ⟨(b4 h0).1, by rw [E2 (b4 h0).1]; exact (b4 h0).2⟩, b5, wfC_ag vm v2 b6, b7, fun v hv hb => ?_, rfl⟩
      rw [vm] at hv
      rw [e10]
      exact wfC_ag vm v2 (b8 v hv hb)
    · obtain ⟨g1, g2, g3, g4, g5, g6, g7, g8, g9⟩ := w9 e (by omega)
      rw [show aFp A' (cM A) e = aFp A (cM A) e from e3 10 e c (by decide), show aLp A' (cM A) e = aLp A (cM A) e from e3 11 e c (by decide), show aOe A' (cM A) e = aOe A (cM A) e from e3 9 e c (by decide), show aGb A' (cM A) e = aGb A (cM A) e from e3 12 e c (by decide), show aAs A' (cM A) e = aAs A (cM A) e from e3 13 e c (by decide), (e11 e c).1]
      refine ⟨g1, g2, g3, fun h0 => ⟨(g4 h0).1, by rw [E2 (g4 h0).1]; exact (g4 h0).2⟩, g5, wfC_ag vm v2 g6, g7, fun v hv hb => ?_, g9⟩
      rw [vm] at hv
      rw [(e11 e c).2]
      exact wfC_ag vm v2 (g8 v hv hb)
  · rw [lm] at hl
    rw [e12]
    exact wfC_ag vm v2 (w10 l (by omega))
/-! givings -/
def pcb (g : Nat) : Nat := g % 2 + g / 2 % 2 + g / 4 % 2
theorem gb_1 : ∀ g, g < 8 → ∀ v, v < 3 → (g / 2 ^ v % 2 = 1 ∨ (g + 2 ^ v < 8 ∧ pcb (g + 2 ^ v) = pcb g + 1)) := by decide +kernel
theorem gb_2 : ∀ g, g < 8 → ∀ v, v < 3 → ∀ u, u < 3 → (g / 2 ^ v % 2 = 1 ∨ ((g + 2 ^ v) / 2 ^ u % 2 = 1 ↔ (u = v ∨ g / 2 ^ u % 2 = 1))) := by decide +kernel
theorem gb_all {g v : Nat} (hg : g < 8) (hv : v < 3) (hn : ¬ g / 2 ^ v % 2 = 1) : g + 2 ^ v < 8 ∧ pcb (g + 2 ^ v) = pcb g + 1 ∧ (∀ u, u < 3 → ((g + 2 ^ v) / 2 ^ u % 2 = 1 ↔ (u = v ∨ g / 2 ^ u % 2 = 1))) :=
  ⟨((gb_1 g hg v hv).resolve_left hn).1, ((gb_1 g hg v hv).resolve_left hn).2, fun u hu => (gb_2 g hg v hv u hu).resolve_left hn⟩
theorem pcb_le : ∀ g, g < 8 → pcb g ≤ 3 := by decide
/-- what is given so far -/
def GvI (A : Ab) (m gb : Nat) (sc : Nat → Cd) : Prop := gb < 8 ∧ ∀ v, v < 3 → gb / 2 ^ v % 2 = 1 → v < aVm A m ∧ wfC A m 1 (sc v)
theorem tk_nx {B : Bx} {N t : Nat} (hN : tkK B N = 300) (ht : t ≤ N) (hk : tkK B t ≠ 300) : t + 1 ≤ N := by
  by_cases e : t = N
  · subst e; exact absurd hN hk
  · omega
theorem pG1_ok {A : Ab} {B : Bx} {m gb N t : Nat} {sc : Nat → Cd} (hN : tkK B N = 300) (hN6 : N ≤ 600) (v3 : aVm A m ≤ 3) (ht : t ≤ N) (G : GvI A m gb sc) :
    (∀ x, pG1 A B m gb sc t = .ok x → t < x.2.2 ∧ x.2.2 ≤ N ∧ pcb x.1 = pcb gb + 1 ∧ GvI A m x.1 x.2.1) ∧ ∀ e, pG1 A B m gb sc t = .error e → 0 < e.1 ∧ e.1 < 10 ∧ t ≤ e.2 ∧ e.2 ≤ N := by
  unfold pG1
  by_cases k0 : tkK B t = 302
  · rw [if_neg (fun n => n k0)]
    have t1 := tk_nx hN ht (by omega)
    cases hf : fdI (aVn A m) (lN (tkC B t)) (aVm A m) 0 with
    | none => exact ⟨fun x h => (by cases h), fun e h => by cases h; exact ⟨by show 0 < 3; omega, by show 3 < 10; omega, Nat.le_refl _, ht⟩⟩
    | some v =>
      have hv := fdI_s hf
      by_cases cb : gb / 2 ^ v % 2 = 1
      · simp only [if_pos cb]
        exact ⟨fun x h => (by cases h), fun e h => by cases h; exact ⟨by show 0 < 3; omega, by show 3 < 10; omega, Nat.le_refl _, ht⟩⟩
      · simp only [if_neg cb]
        by_cases k1 : tkK B (t + 1) = 61
        · simp only [if_neg (fun n : tkK B (t + 1) ≠ 61 => n k1)]
          have t2 := tk_nx hN t1 (by omega)
          have pg := (pSm_pg (A := A) (B := B) (m := m) (k := 1) 8) N (t + 2) 0 hN t2 (by omega)
          cases hX : pSm A B m 1 8 (t + 2) 0 with
          | error e =>
            refine ⟨fun x h => (by cases h), fun e' h => ?_⟩
            cases h
            have := pg.2 e hX
            omega
          | ok y =>
            have wf := (pSm_pg (A := A) (B := B) (m := m) (k := 1) 8).wf hN hN6 t2 hX
            obtain ⟨y1, y2, -⟩ := pg.1 y hX
            obtain ⟨g1, g2, g3⟩ := gb_all G.1 (v := v) (by omega) cb
            refine ⟨fun x h => ?_, fun e' h => (by cases h)⟩
            cases h
            refine ⟨by show t < y.1; omega, y2, g2, g1, fun u hu hb => ?_⟩
            have := (g3 u hu).mp hb
            show u < aVm A m ∧ wfC A m 1 (if u = v then y.2.2 else sc u)
            by_cases c : u = v
            · rw [if_pos c, c]
              exact ⟨by omega, wf.1⟩
            · rw [if_neg c]
              exact G.2 u hu (by omega)
        · simp only [if_pos (show tkK B (t + 1) ≠ 61 from k1)]
          exact ⟨fun x h => (by cases h), fun e h => by cases h; exact ⟨by show 0 < 1; omega, by show 1 < 10; omega, by show t ≤ t + 1; omega, t1⟩⟩
  · rw [if_pos k0]
    exact ⟨fun x h => (by cases h), fun e h => by cases h; exact ⟨by show 0 < 1; omega, by show 1 < 10; omega, Nat.le_refl _, ht⟩⟩
theorem pGs_ok {A : Ab} {B : Bx} {m N : Nat} (hN : tkK B N = 300) (hN6 : N ≤ 600) (v3 : aVm A m ≤ 3) : ∀ (n gb t : Nat) (sc : Nat → Cd), t ≤ N → GvI A m gb sc → 4 ≤ n + pcb gb →
    (∀ x, pGs A B m n gb sc t = .ok x → t < x.2.2 ∧ x.2.2 ≤ N ∧ GvI A m x.1 x.2.1) ∧ ∀ e, pGs A B m n gb sc t = .error e → 0 < e.1 ∧ e.1 < 10 ∧ t ≤ e.2 ∧ e.2 ≤ N
  | 0, gb, t, sc, ht, G, hn => by
    have := pcb_le gb G.1
    omega
  | n + 1, gb, t, sc, ht, G, hn => by
    obtain ⟨g1, g2⟩ := pG1_ok hN hN6 v3 ht G
    unfold pGs
    cases hX : pG1 A B m gb sc t with
    | error e =>
      refine ⟨fun x h => (by cases h), fun e' h => ?_⟩
      cases h
      exact g2 e hX
    | ok y =>
      obtain ⟨y1, y2, y3, y4⟩ := g1 y hX
      by_cases c : tkK B y.2.2 = 44
      · simp only [if_pos c]
        obtain ⟨i1, i2⟩ := pGs_ok hN hN6 v3 n y.1 (y.2.2 + 1) y.2.1 (tk_nx hN y2 (by omega)) y4 (by omega)
        refine ⟨fun x h => ?_, fun e h => ?_⟩
        · have := i1 x h
          exact ⟨by omega, this.2⟩
        · have := i2 e h
          omega
      · simp only [if_neg c]
        refine ⟨fun x h => ?_, fun e h => (by cases h)⟩
        cases h
        exact ⟨y1, y2, y4⟩
