/-! LINES, READ WITHOUT A HEAP -/
/-- an event's name -/
def aXn (A : Ab) (m e : Nat) : Int64 := A.2.2 (10 + m) e
def cM (A : Ab) : Nat := aMM A - 1
def toldM (A : Ab) (w : Int64) (m : Nat) : Prop := aMn A m = w ∨ (∃ v, v < aVm A m ∧ aVn A m v = w) ∨ ∃ e, e < aEm A m ∧ aXn A m e = w
def told_ (A : Ab) (w : Int64) : Prop := ∃ m, m < aMM A ∧ toldM A w m
noncomputable def toldB (A : Ab) (w : Int64) : Bool := @decide (told_ A w) (Classical.propDecidable _)
def addM (A : Ab) (w : Nat) : Ab := (fun k i x => if k = 0 then aMM A + 1 else if i = aMM A then (if k = 5 then 1 else 0) else A.1 k i x, A.2.1, fun k i => if k = 0 ∧ i = aMM A then lN w else A.2.2 k i)
def addV (A : Ab) (m w lo hi at_ : Nat) : Ab :=
  (fun k i x => if i = m ∧ k = 1 then aVm A m + 1 else if i = m ∧ k = 5 then aSz A m * (hi - lo + 1) else if i = m ∧ x = aVm A m ∧ k = 2 then lo else if i = m ∧ x = aVm A m ∧ k = 3 then hi else if i = m ∧ x = aVm A m ∧ k = 4 then at_ else A.1 k i x,
    A.2.1, fun k i => if k = 1 + m ∧ i = aVm A m then lN w else A.2.2 k i)
def addL (A : Ab) (m : Nat) (c : Cd) : Ab := (fun k i x => if i = m ∧ k = 6 then aLm A m + 1 else A.1 k i x, fun k i x => if k = 0 ∧ i = m ∧ x = aLm A m then c else A.2.1 k i x, A.2.2)
def addT (A : Ab) (m : Nat) (c : Cd) : Ab := (fun k i x => if i = m ∧ k = 8 then 1 else A.1 k i x, fun k i x => if k = 3 ∧ i = m then c else A.2.1 k i x, A.2.2)
/-- an event: name, of, first, last, what is given, the guard, the sums -/
def addE (A : Ab) (m w o fp lp gb : Nat) (gc : Cd) (sc : Nat → Cd) : Ab :=
  (fun k i x => if i = m ∧ k = 7 then aEm A m + 1 else if i = m ∧ x = aEm A m ∧ k = 9 then o else if i = m ∧ x = aEm A m ∧ k = 10 then fp else if i = m ∧ x = aEm A m ∧ k = 11 then lp else if i = m ∧ x = aEm A m ∧ k = 12 then gb else if i = m ∧ x = aEm A m ∧ k = 13 then 0 else A.1 k i x,
    fun k i x => if k = 1 ∧ i = m ∧ x = aEm A m then gc else if k = 2 ∧ i = 4 * m + aEm A m then sc x else A.2.1 k i x, fun k i => if k = 10 + m ∧ i = aEm A m then lN w else A.2.2 k i)
abbrev LR2 : Type := Except (Nat × Nat) (Ab × Nat)
noncomputable def pMch (A : Ab) (B : Bx) (t : Nat) : LR2 :=
  if 3 ≤ aMM A then .error (4, t) else if 0 < aMM A ∧ aVm A (cM A) = 0 then .error (5, t)
  else if tkK B (t + 1) ≠ 302 then .error (1, t + 1) else if toldB A (lN (tkC B (t + 1))) then .error (3, t + 1) else .ok (addM A (tkC B (t + 1)), t + 2)
/-- the bounds of a variable -/
def pBnd (A : Ab) (B : Bx) (m w t : Nat) : LR2 :=
  if tkK B t ≠ 402 then .error (1, t) else if tkK B (t + 1) ≠ 303 then .error (1, t + 1) else if ¬ tkC B (t + 1) ≤ 9 then .error (2, t + 1)
  else if tkK B (t + 2) ≠ 403 then .error (1, t + 2) else if tkK B (t + 3) ≠ 303 then .error (1, t + 3) else if ¬ (tkC B (t + 1) ≤ tkC B (t + 3) ∧ tkC B (t + 3) ≤ 9) then .error (2, t + 3)
  else if 100 < aSz A m * (tkC B (t + 3) - tkC B (t + 1) + 1) then .error (4, t + 3)
  else if tkK B (t + 4) ≠ 404 then .error (1, t + 4) else if tkK B (t + 5) ≠ 303 then .error (1, t + 5) else if ¬ (tkC B (t + 1) ≤ tkC B (t + 5) ∧ tkC B (t + 5) ≤ tkC B (t + 3)) then .error (2, t + 5)
  else .ok (addV A m w (tkC B (t + 1)) (tkC B (t + 3)) (tkC B (t + 5)), t + 6)
noncomputable def pVar (A : Ab) (B : Bx) (t : Nat) : LR2 :=
  if aMM A = 0 then .error (5, t) else if 3 ≤ aVm A (cM A) ∨ 0 < aLm A (cM A) ∨ 0 < aEm A (cM A) ∨ aVt A (cM A) ≠ 0 then .error (4, t)
  else if tkK B (t + 1) ≠ 302 then .error (1, t + 1) else if toldB A (lN (tkC B (t + 1))) then .error (3, t + 1) else pBnd A B (cM A) (tkC B (t + 1)) (t + 2)
def pLaw (A : Ab) (B : Bx) (t : Nat) : LR2 :=
  if aMM A = 0 ∨ aVm A (cM A) = 0 then .error (5, t) else if 4 ≤ aLm A (cM A) then .error (4, t)
  else match pTs A B (cM A) 0 8 (t + 1) 0 with | .error e => .error e | .ok x => .ok (addL A (cM A) x.2.2, x.1)
def pVnt (A : Ab) (B : Bx) (t : Nat) : LR2 :=
  if aMM A = 0 ∨ aVm A (cM A) = 0 then .error (5, t) else if aVt A (cM A) ≠ 0 then .error (4, t)
  else match pSm A B (cM A) 2 8 (t + 1) 0 with | .error e => .error e | .ok x => .ok (addT A (cM A) x.2.2, x.1)
abbrev Ct3 : Type := Nat × Nat × Nat
/-- of: the event k of the machine ahead as k + 1 -/
def pOf (A : Ab) (B : Bx) (m t : Nat) : Except (Nat × Nat) (Nat × Nat) :=
  if tkK B t ≠ 407 then .ok (0, t) else if tkK B (t + 1) ≠ 302 then .error (1, t + 1)
  else match (if 0 < m then fdI (aXn A (m - 1)) (lN (tkC B (t + 1))) (aEm A (m - 1)) 0 else none) with | none => .error (3, t + 1) | some e => .ok (e + 1, t + 2)
def pPk (B : Bx) (t : Nat) : Except (Nat × Nat) Ct3 :=
  if tkK B t ≠ 408 then .ok (0, 0, t) else if tkK B (t + 1) ≠ 303 then .error (1, t + 1) else if ¬ tkC B (t + 1) ≤ 99 then .error (2, t + 1)
  else if tkK B (t + 2) ≠ 403 then .error (1, t + 2) else if tkK B (t + 3) ≠ 303 then .error (1, t + 3) else if ¬ (tkC B (t + 1) ≤ tkC B (t + 3) ∧ tkC B (t + 3) ≤ 99) then .error (2, t + 3)
  else if tkC B (t + 1) + 10 ≤ tkC B (t + 3) then .error (4, t + 3) else .ok (tkC B (t + 1), tkC B (t + 3), t + 4)
/-- one giving: bits and sums so far -/
def pG1 (A : Ab) (B : Bx) (m gb : Nat) (sc : Nat → Cd) (t : Nat) : Except (Nat × Nat) (Nat × (Nat → Cd) × Nat) :=
  if tkK B t ≠ 302 then .error (1, t) else match fdI (aVn A m) (lN (tkC B t)) (aVm A m) 0 with
    | none => .error (3, t)
    | some v => if gb / 2 ^ v % 2 = 1 then .error (3, t) else if tkK B (t + 1) ≠ 61 then .error (1, t + 1)
      else match pSm A B m 1 8 (t + 2) 0 with | .error e => .error e | .ok x => .ok (gb + 2 ^ v, fun i => if i = v then x.2.2 else sc i, x.1)
def pGs (A : Ab) (B : Bx) (m : Nat) : Nat → Nat → (Nat → Cd) → Nat → Except (Nat × Nat) (Nat × (Nat → Cd) × Nat)
  | 0, _, _, t => .error (1, t)
  | n + 1, gb, sc, t => match pG1 A B m gb sc t with
    | .error e => .error e
    | .ok x => if tkK B x.2.2 = 44 then pGs A B m n x.1 x.2.1 (x.2.2 + 1) else .ok x
noncomputable def pEvt (A : Ab) (B : Bx) (t : Nat) : LR2 :=
  if aMM A = 0 ∨ aVm A (cM A) = 0 then .error (5, t) else if 4 ≤ aEm A (cM A) then .error (4, t)
  else if tkK B (t + 1) ≠ 302 then .error (1, t + 1) else if toldB A (lN (tkC B (t + 1))) then .error (3, t + 1)
  else match pOf A B (cM A) (t + 2) with
    | .error e => .error e
    | .ok o => match pPk B o.2 with
      | .error e => .error e
      | .ok p => if tkK B p.2.2 ≠ 409 then .error (1, p.2.2) else match pTs A B (cM A) 1 8 (p.2.2 + 1) 0 with
        | .error e => .error e
        | .ok x => if tkK B x.1 ≠ 410 then .error (1, x.1) else match pGs A B (cM A) 4 0 (fun _ => []) (x.1 + 1) with
          | .error e => .error e
          | .ok y => .ok (addE A (cM A) (tkC B (t + 1)) o.1 p.1 p.2.1 y.1 x.2.2 y.2.1, y.2.2)
noncomputable def pLn (A : Ab) (B : Bx) (t : Nat) : LR2 :=
  if tkK B t = 400 then pMch A B t else if tkK B t = 401 then pVar A B t else if tkK B t = 405 then pLaw A B t else if tkK B t = 406 then pEvt A B t else if tkK B t = 411 then pVnt A B t else .error (1, t)
noncomputable def pAll (B : Bx) : Nat → Ab → Nat → Except (Nat × Nat) Ab
  | 0, _, t => .error (1, t)
  | n + 1, A, t => match pLn A B t with
    | .error e => .error e
    | .ok x => if tkK B x.2 = 300 then (if aVm x.1 (cM x.1) = 0 then .error (5, x.2) else .ok x.1) else if tkK B x.2 = 59 then pAll B n x.1 (x.2 + 1) else .error (1, x.2)
def A00 : Ab := (fun _ _ _ => 0, fun _ _ _ => [], fun _ _ => 0)
/-! what such a text gives is as it must be -/
def wdM (A : Ab) (m : Nat) : Prop := aVm A m ≤ 3 ∧ aLm A m ≤ 4 ∧ aEm A m ≤ 4 ∧ aSz A m = aPr A m (aVm A m) ∧ aSz A m ≤ 100 ∧ 1 ≤ aSz A m ∧
  (∀ v, v < aVm A m → aLo A m v ≤ aAt A m v ∧ aAt A m v ≤ aHi A m v ∧ aHi A m v ≤ 9) ∧ (aVt A m ≠ 0 → wfC A m 2 (aVc A m)) ∧
  (∀ e, e < aEm A m → aFp A m e ≤ aLp A m e ∧ aLp A m e ≤ 99 ∧ aLp A m e < aFp A m e + 10 ∧ (aOe A m e ≠ 0 → 0 < m ∧ aOe A m e ≤ aEm A (m - 1)) ∧ aGb A m e < 8 ∧ wfC A m 1 (aGc A m e) ∧ tsC (aGc A m e) ∧
    (∀ v, v < aVm A m → aGb A m e / 2 ^ v % 2 = 1 → wfC A m 1 (aSc A m e v)) ∧ aAs A m e = 0) ∧ (∀ l, l < aLm A m → wfC A m 0 (aLc A m l)) ∧ (aVm A m = 0 → aLm A m = 0 ∧ aEm A m = 0 ∧ aVt A m = 0)
def wdA (A : Ab) : Prop := aMM A ≤ 3 ∧ (∀ m, m < aMM A → wdM A m) ∧ ∀ m, m + 1 < aMM A → 1 ≤ aVm A m
/-- the machine i is told alike -/
def AgM (A A' : Ab) (i : Nat) : Prop := (∀ k, k ≠ 0 → A'.1 k i = A.1 k i) ∧ A'.2.1 0 i = A.2.1 0 i ∧ A'.2.1 1 i = A.2.1 1 i ∧ (∀ e, e < 4 → A'.2.1 2 (4 * i + e) = A.2.1 2 (4 * i + e)) ∧ A'.2.1 3 i = A.2.1 3 i ∧ (A'.2.2 0 i = A.2.2 0 i ∧ A'.2.2 (1 + i) = A.2.2 (1 + i) ∧ A'.2.2 (10 + i) = A.2.2 (10 + i))
theorem AgM.rf {A : Ab} {i : Nat} : AgM A A i := ⟨fun _ _ => rfl, rfl, rfl, fun _ _ => rfl, rfl, rfl, rfl, rfl⟩
section
variable {A A' : Ab} {i : Nat} (H : AgM A A' i)
theorem AgM.vm (H : AgM A A' i) : aVm A' i = aVm A i := congrFun (H.1 1 (by decide)) 0
theorem AgM.lo (H : AgM A A' i) (v : Nat) : aLo A' i v = aLo A i v := congrFun (H.1 2 (by decide)) v
theorem AgM.hi (H : AgM A A' i) (v : Nat) : aHi A' i v = aHi A i v := congrFun (H.1 3 (by decide)) v
theorem AgM.at_ (H : AgM A A' i) (v : Nat) : aAt A' i v = aAt A i v := congrFun (H.1 4 (by decide)) v
theorem AgM.sz (H : AgM A A' i) : aSz A' i = aSz A i := congrFun (H.1 5 (by decide)) 0
theorem AgM.lm (H : AgM A A' i) : aLm A' i = aLm A i := congrFun (H.1 6 (by decide)) 0
theorem AgM.em (H : AgM A A' i) : aEm A' i = aEm A i := congrFun (H.1 7 (by decide)) 0
theorem AgM.vt (H : AgM A A' i) : aVt A' i = aVt A i := congrFun (H.1 8 (by decide)) 0
theorem AgM.oe (H : AgM A A' i) (e : Nat) : aOe A' i e = aOe A i e := congrFun (H.1 9 (by decide)) e
theorem AgM.fp (H : AgM A A' i) (e : Nat) : aFp A' i e = aFp A i e := congrFun (H.1 10 (by decide)) e
theorem AgM.lp (H : AgM A A' i) (e : Nat) : aLp A' i e = aLp A i e := congrFun (H.1 11 (by decide)) e
theorem AgM.gb (H : AgM A A' i) (e : Nat) : aGb A' i e = aGb A i e := congrFun (H.1 12 (by decide)) e
theorem AgM.as (H : AgM A A' i) (e : Nat) : aAs A' i e = aAs A i e := congrFun (H.1 13 (by decide)) e
theorem AgM.lc (H : AgM A A' i) (l : Nat) : aLc A' i l = aLc A i l := congrFun H.2.1 l
theorem AgM.gc (H : AgM A A' i) (e : Nat) : aGc A' i e = aGc A i e := congrFun H.2.2.1 e
theorem AgM.sc (H : AgM A A' i) {e : Nat} (he : e < 4) (v : Nat) : aSc A' i e v = aSc A i e v := congrFun (H.2.2.2.1 e he) v
theorem AgM.vc (H : AgM A A' i) : aVc A' i = aVc A i := congrFun H.2.2.2.2.1 0
theorem AgM.mn (H : AgM A A' i) : aMn A' i = aMn A i := H.2.2.2.2.2.1
theorem AgM.vn (H : AgM A A' i) (v : Nat) : aVn A' i v = aVn A i v := congrFun H.2.2.2.2.2.2.1 v
theorem AgM.xn (H : AgM A A' i) (e : Nat) : aXn A' i e = aXn A i e := congrFun H.2.2.2.2.2.2.2 e
theorem AgM.pr (H : AgM A A' i) : ∀ v, aPr A' i v = aPr A i v
  | 0 => rfl
  | v + 1 => by
    show aPr A' i v * (aHi A' i v + 1 - aLo A' i v) = aPr A i v * (aHi A i v + 1 - aLo A i v)
    rw [AgM.pr H v, H.hi, H.lo]
end
theorem okC_ag {A A' : Ab} {m k : Nat} {c : Nat × Nat} (h1 : aVm A' m = aVm A m) (h2 : 0 < m → aVm A' (m - 1) = aVm A (m - 1)) (H : okC A m k c) : okC A' m k c := by
  obtain ⟨o1, o2, o3, o4, o5⟩ := H
  exact ⟨o1, o2, fun e => by rw [h1]; exact o3 e, fun e => ⟨(o4 e).1, (o4 e).2.1, by rw [h2 (o4 e).2.1]; exact (o4 e).2.2⟩, o5⟩
theorem wfC_ag {A A' : Ab} {m k : Nat} {L : Cd} (h1 : aVm A' m = aVm A m) (h2 : 0 < m → aVm A' (m - 1) = aVm A (m - 1)) (H : wfC A m k L) : wfC A' m k L :=
  ⟨H.1, H.2.1, H.2.2.1, fun c hc => okC_ag h1 h2 (H.2.2.2 c hc)⟩
theorem wdM_ag {A A' : Ab} {m : Nat} (h1 : AgM A A' m) (h2 : 0 < m → aVm A' (m - 1) = aVm A (m - 1) ∧ aEm A' (m - 1) = aEm A (m - 1)) (H : wdM A m) : wdM A' m := by
  obtain ⟨w1, w2, w3, w4, w5, w6, w7, w8, w9, w10, w11⟩ := H
  have v2 := fun h0 => (h2 h0).1
  refine ⟨by rw [h1.vm]; exact w1, by rw [h1.lm]; exact w2, by rw [h1.em]; exact w3, by rw [h1.sz, h1.vm, h1.pr]; exact w4, by rw [h1.sz]; exact w5, by rw [h1.sz]; exact w6, fun v hv => ?_, fun hv => ?_, fun e he => ?_, fun l hl => ?_, by rw [h1.vm, h1.lm, h1.em, h1.vt]; exact w11⟩
  · rw [h1.vm] at hv; rw [h1.lo, h1.at_, h1.hi]; exact w7 v hv
  · rw [h1.vt] at hv; rw [h1.vc]; exact wfC_ag h1.vm v2 (w8 hv)
  · rw [h1.em] at he
    obtain ⟨e1, e2, e3, e4, e5, e6, e7, e8, e9⟩ := w9 e he
    rw [h1.fp, h1.lp, h1.oe, h1.gb, h1.gc, h1.as]
    refine ⟨e1, e2, e3, fun h0 => ⟨(e4 h0).1, by rw [(h2 (e4 h0).1).2]; exact (e4 h0).2⟩, e5, wfC_ag h1.vm v2 e6, e7, fun v hv hb => ?_, e9⟩
    rw [h1.vm] at hv
    rw [h1.sc (by omega)]
    exact wfC_ag h1.vm v2 (e8 v hv hb)
  · rw [h1.lm] at hl; rw [h1.lc]; exact wfC_ag h1.vm v2 (w10 l hl)
