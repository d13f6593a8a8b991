/-! THE HEAP AS THREE TABLES: ints, longs, references by address and place; the shape of each address: (class number + 1, 0), or (20 + kind of array, length), (0, _) where nothing is known -/
abbrev Hp : Type := (Nat → Nat → Int32) × (Nat → Nat → Int64) × (Nat → Nat → Nat)
abbrev Sh : Type := Nat → Nat × Nat
def gI (h : Hp) (a k : Nat) : Int32 := h.1 a k
def gJ (h : Hp) (a k : Nat) : Int64 := h.2.1 a k
def gR (h : Hp) (a k : Nat) : Nat := h.2.2 a k
def u2 {α : Type} (f : Nat → Nat → α) (a k : Nat) (v : α) : Nat → Nat → α := fun b => if b = a then (fun j => if j = k then v else f a j) else f b
def pI (h : Hp) (a k : Nat) (v : Int32) : Hp := (u2 h.1 a k v, h.2)
def pJ (h : Hp) (a k : Nat) (v : Int64) : Hp := (h.1, u2 h.2.1 a k v, h.2.2)
def pR (h : Hp) (a k : Nat) (v : Nat) : Hp := (h.1, h.2.1, u2 h.2.2 a k v)
theorem u2_ne {α : Type} (f : Nat → Nat → α) (a k : Nat) (v : α) {b : Nat} (hb : b ≠ a) : u2 f a k v b = f b := by simp [u2, hb]
theorem u2_at {α : Type} (f : Nat → Nat → α) (a k : Nat) (v : α) (j : Nat) : u2 f a k v a j = if j = k then v else f a j := by simp [u2]
def tyC (c : Nat) : Nat → FieldType := match c with
  | 0 => tyX0 | 1 => tyX1 | 2 => tyX2 | 3 => tyX3 | 4 => tyX4 | 5 => tyX5 | 6 => tyX6 | 7 => tyX7 | 8 => tyX8 | 9 => tyX9 | 10 => tyX10 | 11 => tyX11 | 12 => tyX12 | _ => fun _ => .int
def oR (n : Nat) : Option Nat := if n = 0 then none else some (n - 1)
def rv (n : Nat) : Value := va_rf (oR n)
theorem rv_pos {n : Nat} (h : n ≠ 0) : rv n = .ref (n - 1) := by simp [rv, oR, h, va_rf]
theorem rv_cat (n : Nat) : (rv n).category = 1 := by
  unfold rv oR va_rf
  by_cases h : n = 0 <;> simp [h, Value.category]
theorem rv_or (n : Nat) : rv n = .null ∨ ∃ a, rv n = .ref a := by
  unfold rv oR va_rf
  by_cases h : n = 0 <;> simp [h]
def fval (t : FieldType) (I : Nat → Int32) (J : Nat → Int64) (R : Nat → Nat) (k : Nat) : Value := match t with
  | .long => .long (J k)
  | .object _ => rv (R k)
  | .array _ => rv (R k)
  | _ => .int (I k)
def aval (k : Nat) (I : Nat → Int32) (J : Nat → Int64) (R : Nat → Nat) (j : Nat) : Value := if k < 3 then .int (I j) else if k = 3 then .long (J j) else rv (R j)
/-- what is fixed over a whole run: launch, class numbers and slots, array classes, the first own address, the String constants and their rows -/
abbrev Ev : Type := Launch × va_G × (Nat → ClassId) × Nat × (Nat → Nat) × (Nat → Nat)
def eA (E : Ev) : Nat → Prop := fun q => E.2.2.2.1 ≤ q
/-- a reference is told by its number: 0 is null, a + 1 the cell at a; all tables go by these numbers -/
def HR (E : Ev) (S : Sh) (h : Hp) (H : Heap) : Prop :=
  (∀ (a c : Nat) (q : vw_C), (S a).1 = c + 1 → vwCl[c]? = some q → t_OB (a - 1) (E.2.1.1 c) q.2.2 (E.2.1.2 c) H (fun k => fval (tyC c k) (h.1 a) (h.2.1 a) (h.2.2 a) k)) ∧
  (∀ a k : Nat, (S a).1 = 20 + k → H[a - 1]? = some (arrV (E.2.2.1 k) (S a).2 (fun j => aval k (h.1 a) (h.2.1 a) (h.2.2 a) j))) ∧
  (∀ a : Nat, (S a).1 ≠ 0 → a ≠ 0 ∧ eA E (a - 1) ∧ a - 1 < H.size)
theorem HR.upd {E : Ev} {S : Sh} {h h' : Hp} {H H1 : Heap} {a : Nat} (hH : HR E S h H) (ha0 : a ≠ 0) (hz : H1.size = H.size) (oq : ∀ q : Nat, q ≠ a - 1 → H1[q]? = H[q]?)
    (r1 : ∀ q, q ≠ a → h'.1 q = h.1 q) (r2 : ∀ q, q ≠ a → h'.2.1 q = h.2.1 q) (r3 : ∀ q, q ≠ a → h'.2.2 q = h.2.2 q)
    (ho : ∀ (c : Nat) (q : vw_C), (S a).1 = c + 1 → vwCl[c]? = some q → t_OB (a - 1) (E.2.1.1 c) q.2.2 (E.2.1.2 c) H1 (fun k => fval (tyC c k) (h'.1 a) (h'.2.1 a) (h'.2.2 a) k))
    (ha : ∀ k : Nat, (S a).1 = 20 + k → H1[a - 1]? = some (arrV (E.2.2.1 k) (S a).2 (fun j => aval k (h'.1 a) (h'.2.1 a) (h'.2.2 a) j))) : HR E S h' H1 := by
  refine ⟨fun b c q h1 h2 => ?_, fun b k h1 => ?_, fun b h1 => ?_⟩
  · by_cases hb : b = a
    · subst hb
      exact ho c q h1 h2
    · have hb0 := (hH.2.2 b (by rw [h1]; omega)).1
      rw [r1 b hb, r2 b hb, r3 b hb]
      exact (hH.1 b c q h1 h2).kept (oq (b - 1) (by omega))
  · by_cases hb : b = a
    · subst hb
      exact ha k h1
    · have hb0 := (hH.2.2 b (by rw [h1]; omega)).1
      rw [r1 b hb, r2 b hb, r3 b hb, oq (b - 1) (by omega)]
      exact hH.2.1 b k h1
  · rw [hz]
    exact hH.2.2 b h1
abbrev tysE (cy : Nat → ClassId) : List (ClassId × FieldType) := [(cy 0, .int), (cy 1, .byte), (cy 2, .boolean), (cy 3, .long), (cy 4, .object "FinerSteps$Event"), (cy 5, .object "FinerSteps$Machine"), (cy 6, .object "FinerSteps$StateSet"), (cy 7, .object "FinerSteps$Verdict")]
abbrev Tv : Type := Int32 ⊕ Int64 ⊕ Nat
abbrev vi (x : Int32) : Tv := .inl x
abbrev vj (x : Int64) : Tv := .inr (.inl x)
abbrev vr (a : Nat) : Tv := .inr (.inr a)
def tv : Tv → Value
  | .inl x => .int x
  | .inr (.inl x) => .long x
  | .inr (.inr a) => rv a
def tc : Tv → Nat
  | .inl _ => 1
  | .inr (.inl _) => 2
  | .inr (.inr _) => 1
theorem tc_ok : ∀ v : Tv, (tv v).category = tc v
  | .inl _ => rfl
  | .inr (.inl _) => rfl
  | .inr (.inr a) => rv_cat a
theorem tc_sum : ∀ st : List Tv, ((st.map tv).map fun v => v.category).sum = (st.map tc).sum
  | [] => rfl
  | v :: st => by simp only [List.map_cons, List.sum_cons, tc_ok, tc_sum st]
/-- the locals -/
def LR (lc : List (Option Tv)) (ls : Array Slot) : Prop := ls.size = lc.length ∧ lv_wf ls ∧ ∀ (i : Nat) (v : Tv), lc[i]? = some (some v) → ls[i]? = some (.val (tv v))
def asc : Nat → List (Option Tv) → List (Nat × Value)
  | _, [] => []
  | i, some v :: r => (i, tv v) :: asc (i + 1) r
  | i, none :: r => asc (i + 1) r
theorem asc_mem : ∀ (lc : List (Option Tv)) (i j : Nat) (w : Value), (j, w) ∈ asc i lc ↔ ∃ (k : Nat) (v : Tv), j = i + k ∧ lc[k]? = some (some v) ∧ w = tv v
  | [], i, j, w => by simp [asc]
  | some v :: r, i, j, w => by
    simp only [asc, List.mem_cons, Prod.mk.injEq, asc_mem r (i + 1) j w]
    constructor
    · rintro (⟨rfl, rfl⟩ | ⟨k, u, rfl, h1, rfl⟩)
      · exact ⟨0, v, rfl, rfl, rfl⟩
      · exact ⟨k + 1, u, by omega, by simpa using h1, rfl⟩
    · rintro ⟨k, u, rfl, h1, rfl⟩
      cases k with
      | zero => simp at h1; subst h1; exact Or.inl ⟨rfl, rfl⟩
      | succ k => exact Or.inr ⟨k, u, by omega, by simpa using h1, rfl⟩
  | none :: r, i, j, w => by
    simp only [asc, asc_mem r (i + 1) j w]
    constructor
    · rintro ⟨k, u, rfl, h1, rfl⟩
      exact ⟨k + 1, u, by omega, by simpa using h1, rfl⟩
    · rintro ⟨k, u, rfl, h1, rfl⟩
      cases k with
      | zero => simp at h1
      | succ k => exact ⟨k, u, by omega, by simpa using h1, rfl⟩
theorem LR.has {lc : List (Option Tv)} {ls : Array Slot} (h : LR lc ls) : lv_has ls lc.length (asc 0 lc) := by
  refine ⟨h.1, h.2.1, fun q hq => ?_⟩
  obtain ⟨j, w⟩ := q
  obtain ⟨k, v, e1, e2, e3⟩ := (asc_mem lc 0 j w).mp hq
  subst e3
  have e1 : j = k := by omega
  subst e1
  exact h.2.2 _ v e2
/-- no long just ahead of place i -/
def okS (lc : List (Option Tv)) : Nat → Bool
  | 0 => true
  | j + 1 => match lc[j]? with
    | some (some v) => tc v == 1
    | _ => true
theorem LR.set1 {lc lc' : List (Option Tv)} {ls' : Array Slot} {i : Nat} {v : Tv} (hk : okS lc i = true) (hs : lc.set i (some v) = lc')
    (h : lv_has ls' lc.length ((i, tv v) :: (asc 0 lc).filter (fun q => !(q.1 == i) && !(q.1 + 1 == i && q.2.category == 2)))) (hi : i < lc.length) : LR lc' ls' := by
  subst hs
  refine ⟨by rw [List.length_set]; exact h.1, h.2.1, fun j w hj => ?_⟩
  by_cases hji : j = i
  · subst hji
    rw [List.getElem?_set_self hi] at hj
    cases hj
    exact h.2.2 _ List.mem_cons_self
  · rw [List.getElem?_set_ne (Ne.symm hji)] at hj
    refine h.2.2 (j, tv w) (List.mem_cons_of_mem _ (List.mem_filter.mpr ⟨(asc_mem lc 0 j (tv w)).mpr ⟨j, w, by omega, hj, rfl⟩, ?_⟩))
    have h2 : (j + 1 == i && (tv w).category == 2) = false := by
      by_cases hj1 : j + 1 = i
      · subst hj1
        have hk' : tc w = 1 := by simpa [okS, hj] using hk
        rw [tc_ok, hk']
        simp
      · simp [hj1]
    show (!(j == i) && !(j + 1 == i && (tv w).category == 2)) = true
    rw [h2]
    simp [hji]
theorem LR.set2 {lc lc' : List (Option Tv)} {ls' : Array Slot} {i : Nat} {v : Tv} (hk : okS lc i = true) (hs : (lc.set i (some v)).set (i + 1) none = lc')
    (h : lv_has ls' lc.length ((i, tv v) :: (asc 0 lc).filter (fun q => !(q.1 == i) && (!(q.1 == i + 1) && !(q.1 + 1 == i && q.2.category == 2))))) (hi : i + 1 < lc.length) : LR lc' ls' := by
  subst hs
  refine ⟨by rw [List.length_set, List.length_set]; exact h.1, h.2.1, fun j w hj => ?_⟩
  by_cases hj1 : j = i + 1
  · subst hj1
    rw [List.getElem?_set_self (by rw [List.length_set]; exact hi)] at hj
    cases hj
  · rw [List.getElem?_set_ne (Ne.symm hj1)] at hj
    by_cases hji : j = i
    · subst hji
      rw [List.getElem?_set_self (by omega)] at hj
      cases hj
      exact h.2.2 _ List.mem_cons_self
    · rw [List.getElem?_set_ne (Ne.symm hji)] at hj
      refine h.2.2 (j, tv w) (List.mem_cons_of_mem _ (List.mem_filter.mpr ⟨(asc_mem lc 0 j (tv w)).mpr ⟨j, w, by omega, hj, rfl⟩, ?_⟩))
      have h2 : (j + 1 == i && (tv w).category == 2) = false := by
        by_cases hj2 : j + 1 = i
        · subst hj2
          have hk' : tc w = 1 := by simpa [okS, hj] using hk
          rw [tc_ok, hk']
          simp
        · simp [hj2]
      show (!(j == i) && (!(j == i + 1) && !(j + 1 == i && (tv w).category == 2))) = true
      rw [h2]
      simp [hji, hj1]
/-- fewer locals -/
def mask : List Bool → List (Option Tv) → List (Option Tv)
  | b :: bs, v :: r => (if b then v else none) :: mask bs r
  | _, _ => []
theorem mask_len : ∀ (bs : List Bool) (lc : List (Option Tv)), bs.length = lc.length → (mask bs lc).length = lc.length
  | [], [], _ => rfl
  | b :: bs, v :: r, h => by simp [mask, mask_len bs r (by simpa using h)]
theorem mask_at : ∀ (bs : List Bool) (lc : List (Option Tv)) (i : Nat) (v : Tv), (mask bs lc)[i]? = some (some v) → lc[i]? = some (some v)
  | [], lc, i, v, h => by simp [mask] at h
  | b :: bs, [], i, v, h => by simp [mask] at h
  | b :: bs, w :: r, 0, v, h => by
    cases b
    · simp [mask] at h
    · simpa [mask] using h
  | b :: bs, w :: r, i + 1, v, h => by
    simp only [mask, List.getElem?_cons_succ] at h ⊢
    exact mask_at bs r i v h
theorem LR.mask {lc lc' : List (Option Tv)} {ls : Array Slot} (bs : List Bool) (hb : bs.length = lc.length) (hm : mask bs lc = lc') (h : LR lc ls) : LR lc' ls := by
  subst hm
  exact ⟨by rw [mask_len bs lc hb]; exact h.1, h.2.1, fun i v hv => h.2.2 i v (mask_at bs lc i v hv)⟩
/-- the locals with which a method begins -/
def lcE : List Tv → List (Option Tv)
  | [] => []
  | .inl x :: r => some (.inl x) :: lcE r
  | .inr (.inl x) :: r => some (.inr (.inl x)) :: none :: lcE r
  | .inr (.inr x) :: r => some (.inr (.inr x)) :: lcE r
theorem lcE_at : ∀ (as : List Tv) (i k : Nat) (v : Tv), (lcE as)[k]? = some (some v) → (i + k, tv v) ∈ lv_args i (as.map tv)
  | [], i, k, v, h => by simp [lcE] at h
  | .inl x :: r, i, 0, v, h => by
    simp [lcE] at h
    subst h
    simp [lv_args, tv]
  | .inl x :: r, i, k + 1, v, h => by
    have h1 := lcE_at r (i + 1) k v (by simpa [lcE] using h)
    rw [show i + (k + 1) = i + 1 + k by omega]
    show _ ∈ (i, tv (.inl x)) :: lv_args (i + 1) (r.map tv)
    exact List.mem_cons_of_mem _ h1
  | .inr (.inl x) :: r, i, 0, v, h => by
    simp [lcE] at h
    subst h
    simp [lv_args, tv]
  | .inr (.inl x) :: r, i, 1, v, h => by simp [lcE] at h
  | .inr (.inl x) :: r, i, k + 2, v, h => by
    have h1 := lcE_at r (i + 2) k v (by simpa [lcE] using h)
    rw [show i + (k + 2) = i + 2 + k by omega]
    show _ ∈ (i, tv (.inr (.inl x))) :: lv_args (i + 2) (r.map tv)
    exact List.mem_cons_of_mem _ h1
  | .inr (.inr x) :: r, i, 0, v, h => by
    simp [lcE] at h
    subst h
    simp [lv_args, tv]
  | .inr (.inr x) :: r, i, k + 1, v, h => by
    have h1 := lcE_at r (i + 1) k v (by simpa [lcE] using h)
    have hc : ¬ (rv x).category = 2 := by rw [rv_cat]; decide
    simp only [List.map_cons, lv_args, tv, if_neg hc]
    rw [show i + (k + 1) = i + 1 + k by omega]
    exact List.mem_cons_of_mem _ h1
theorem lcE_len : ∀ as : List Tv, (lg_sl (as.map tv)).length = (lcE as).length
  | [] => rfl
  | .inl x :: r => by
    have h := lcE_len r
    simp only [lg_sl, List.map_cons, List.flatMap_cons, tv, Value.category, lcE, List.length_cons, List.length_append] at h ⊢
    rw [← h]
    simp
    omega
  | .inr (.inl x) :: r => by
    have h := lcE_len r
    simp only [lg_sl, List.map_cons, List.flatMap_cons, tv, Value.category, lcE, List.length_cons, List.length_append] at h ⊢
    rw [← h]
    simp
    omega
  | .inr (.inr x) :: r => by
    have h := lcE_len r
    have hc : ¬ (rv x).category = 2 := by rw [rv_cat]; decide
    simp only [lg_sl, List.map_cons, List.flatMap_cons, tv, if_neg hc, lcE, List.length_cons, List.length_append] at h ⊢
    rw [← h]
    simp
    omega
theorem LR.entry (as : List Tv) {nL : Nat} (hn : (lcE as).length ≤ nL) {lc : List (Option Tv)} (hl : lcE as ++ List.replicate (nL - (lcE as).length) none = lc) : LR lc ((lg_sl (as.map tv) ++ List.replicate (nL - (lg_sl (as.map tv)).length) Slot.unset).toArray) := by
  have h := lv_entry (as.map tv) (n := nL) (by rw [lcE_len]; exact hn)
  subst hl
  refine ⟨?_, h.2.1, fun i v hv => ?_⟩
  · rw [h.1, List.length_append, List.length_replicate]
    omega
  · by_cases hi : i < (lcE as).length
    · rw [List.getElem?_append_left hi] at hv
      have h2 := lcE_at as 0 i v hv
      rw [Nat.zero_add] at h2
      exact h.2.2 _ h2
    · rw [List.getElem?_append_right (by omega)] at hv
      have := List.eq_of_mem_replicate (List.mem_of_getElem? hv)
      cases this
