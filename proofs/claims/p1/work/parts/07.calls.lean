def h0 (h : Hp) (z : Nat) : Prop := (∀ j, h.1 z j = 0) ∧ (∀ j, h.2.1 z j = 0) ∧ ∀ j, h.2.2 z j = 0
def SwT (pc : Nat) (d : Int) : Int → List Int → Int32 → Nat → Prop
  | _, [], _, t => (pc : Int) + d = t
  | lo, o :: r, x, t => (x.toInt = lo ∧ (pc : Int) + o = t) ∨ (¬ x.toInt = lo ∧ SwT pc d (lo + 1) r x t)
def SwL (pc : Nat) (d : Int) : List (Int × Int) → Int32 → Nat → Prop
  | [], _, t => (pc : Int) + d = t
  | (a, o) :: r, x, t => (x.toInt = a ∧ (pc : Int) + o = t) ∨ (¬ x.toInt = a ∧ SwL pc d r x t)
theorem SwT.out {pc : Nat} {d : Int} : ∀ (offs : List Int) (lo : Int) {x : Int32} {t : Nat}, (x.toInt < lo ∨ lo + offs.length ≤ x.toInt) → (pc : Int) + d = t → SwT pc d lo offs x t
  | [], _, _, _, _, h => h
  | o :: r, lo, x, t, h, e => Or.inr ⟨by simp only [List.length_cons] at h; omega, SwT.out r (lo + 1) (by simp only [List.length_cons] at h; omega) e⟩
theorem SwT.in {pc : Nat} {d : Int} : ∀ (offs : List Int) (lo : Int) {x : Int32} {t : Nat} {off : Int}, ¬ x.toInt < lo → offs[(x.toInt - lo).toNat]? = some off → (pc : Int) + off = t → SwT pc d lo offs x t
  | [], _, _, _, _, _, h, _ => by simp at h
  | o :: r, lo, x, t, off, h1, h, e => by
    by_cases hx : x.toInt = lo
    · rw [hx, Int.sub_self] at h
      simp at h
      exact Or.inl ⟨hx, by rw [h]; exact e⟩
    · refine Or.inr ⟨hx, SwT.in r (lo + 1) (by omega) ?_ e⟩
      rw [show (x.toInt - lo).toNat = (x.toInt - (lo + 1)).toNat + 1 by omega] at h
      simpa using h
theorem SwL.of {pc : Nat} {d : Int} {x : Int32} {t : Nat} : ∀ (ps : List (Int × Int)), (pc : Int) + Op.lookupswitch.offset ps d x.toInt = t → SwL pc d ps x t
  | [], h => by
    first | exact h | simpa [Op.lookupswitch.offset] using h
  | (a, o) :: r, h => by
    rw [Op.lookupswitch.offset_cons] at h
    by_cases hx : x.toInt = a
    · rw [if_pos (by first | exact hx | exact hx.symm)] at h
      exact Or.inl ⟨hx, h⟩
    · rw [if_neg (by first | exact hx | exact fun q => hx q.symm)] at h
      exact Or.inr ⟨hx, SwL.of r h⟩
section GC
variable {E : Ev} {X : Cx} {y : MethodName} {cc : ByteArray} {nL : Nat} {ret : Option FieldType} {F L mc ms : Nat} {Qc : Pq} {n k : Nat} {S : Sh} {Z : Option Nat} {h : Hp} {pc : Nat} {lc : List (Option Tv)} {st : List Tv}
theorem g_tsw (O : Ok E X y cc nL ret F L mc ms Qc) {dflt lo hi : Int} {offs : Array Int} {len : Nat} {x : Int32} (hd : decode cc pc = .ok (.tableswitch dflt lo hi offs, len)) (hh : lo + offs.toList.length = hi + 1) (hp : ∀ o ∈ dflt :: offs.toList, 0 ≤ (pc : Int) + o) (g : ∀ t : Nat, SwT pc dflt lo offs.toList x t → G E X n k S Z h t lc st) : G E X n k S Z h pc lc (vi x :: st) := by
  intro H locs ls h1 h2 h3 h4
  by_cases h5 : x.toInt < lo ∨ hi < x.toInt
  · have e : (pc : Int) + dflt = (((pc : Int) + dflt).toNat : Int) := (Int.toNat_of_nonneg (hp _ List.mem_cons_self)).symm
    exact lv_tableOut O.1 O.2.1 hd h5 e (g _ (SwT.out _ _ (by omega) e) H locs ls h1 h2 h3 h4)
  · have hlt : (x.toInt - lo).toNat < offs.toList.length := by omega
    have ho : offs.toList[(x.toInt - lo).toNat]? = some (offs.toList[(x.toInt - lo).toNat]'hlt) := List.getElem?_eq_getElem hlt
    have e := (Int.toNat_of_nonneg (hp _ (List.mem_cons_of_mem _ (List.getElem_mem hlt)))).symm
    exact lv_tableIn O.1 O.2.1 hd (fun q => h5 (Or.inl q)) (fun q => h5 (Or.inr q)) (by rw [← Array.getElem?_toList]; exact ho) e (g _ (SwT.in _ _ (fun q => h5 (Or.inl q)) ho e) H locs ls h1 h2 h3 h4)
theorem g_lsw (O : Ok E X y cc nL ret F L mc ms Qc) {dflt : Int} {ps : Array (Int × Int)} {len : Nat} {x : Int32} (hd : decode cc pc = .ok (.lookupswitch dflt ps, len)) (hs : (ps.toList.zip (ps.toList.drop 1)).all (fun (a, next) => a.1 < next.1) = true) (hp : ∀ z : Int, 0 ≤ (pc : Int) + Op.lookupswitch.offset ps.toList dflt z) (g : ∀ t : Nat, SwL pc dflt ps.toList x t → G E X n k S Z h t lc st) : G E X n k S Z h pc lc (vi x :: st) := by
  intro H locs ls h1 h2 h3 h4
  have e : (pc : Int) + Op.lookupswitch.offset ps.toList dflt x.toInt = (((pc : Int) + Op.lookupswitch.offset ps.toList dflt x.toInt).toNat : Int) := (Int.toNat_of_nonneg (hp _)).symm
  exact lv_lookup O.1 O.2.1 hd hs rfl e (g _ (SwL.of _ e) H locs ls h1 h2 h3 h4)
theorem HR.born {z : Nat} {p : Nat × Nat} {H H1 : Heap} (h1 : HR E S h H) (hz : H.size + 1 = z) (hA : eA E (z - 1)) (z1 : H1.size = z) (o1 : ∀ q, q < z - 1 → H1[q]? = H[q]?)
    (ho : ∀ (c : Nat) (q : vw_C), p.1 = c + 1 → vwCl[c]? = some q → t_OB (z - 1) (E.2.1.1 c) q.2.2 (E.2.1.2 c) H1 (fun k => fval (tyC c k) (h.1 z) (h.2.1 z) (h.2.2 z) k))
    (ha : ∀ k : Nat, p.1 = 20 + k → H1[z - 1]? = some (arrV (E.2.2.1 k) p.2 (fun j => aval k (h.1 z) (h.2.1 z) (h.2.2 z) j))) : HR E (uS S z p) h H1 := by
  refine ⟨fun b c q w1 w2 => ?_, fun b k w1 => ?_, fun b w1 => ?_⟩
  · by_cases hb : b = z
    · subst hb
      rw [uS, if_pos rfl] at w1
      exact ho c q w1 w2
    · rw [uS, if_neg hb] at w1
      have hl := h1.2.2 b (by rw [w1]; omega)
      exact (h1.1 b c q w1 w2).kept (o1 (b - 1) (by omega))
  · by_cases hb : b = z
    · subst hb
      have e : uS S b p b = p := if_pos rfl
      rw [e] at w1 ⊢
      exact ha k w1
    · have e : uS S z p b = S b := if_neg hb
      rw [e] at w1 ⊢
      have hl := h1.2.2 b (by rw [w1]; omega)
      rw [o1 (b - 1) (by omega)]
      exact h1.2.1 b k w1
  · by_cases hb : b = z
    · subst hb
      exact ⟨by omega, hA, by omega⟩
    · have e : uS S z p b = S b := if_neg hb
      rw [e] at w1
      have hl := h1.2.2 b w1
      exact ⟨hl.1, hl.2.1, by omega⟩
theorem fval0 (t : FieldType) (I : Nat → Int32) (J : Nat → Int64) (R : Nat → Nat) (k : Nat) (h1 : I k = 0) (h2 : J k = 0) (h3 : R k = 0) (ht : t ≠ .float ∧ t ≠ .double) : defaultValue t = fval t I J R k := by
  cases t <;> simp_all [fval, defaultValue, rv, oR, va_rf]
theorem va_S.grow {A : Nat → Prop} {H0 H H1 : Heap} {locs : List Loc} (h : va_S A H0 H locs) (hz : H.size ≤ H1.size) (o : ∀ q, q < H.size → H1[q]? = H[q]?) : va_S A H0 H1 locs := ⟨Nat.le_trans h.1 hz, fun x h1 h2 => (o x (Nat.lt_of_lt_of_le h1 h.1)).trans (h.2.1 x h1 h2), h.2.2⟩
theorem g_new (O : Ok E X y cc nL ret F L mc ms Qc) {idx c z : Nat} {q : vw_C} (hq : CI c q) (hfd : ∀ j, j < q.2.2 → tyC c j ≠ .float ∧ tyC c j ≠ .double) (hd : decode cc pc = .ok (.new idx, 3)) (hcl : Cond.classLink y.cls idx q.1 ∈ BIG) (hins : Cond.instantiable q.1 q.2.2 ∈ BIG) (hini : Cond.initialized q.1 ∈ BIG) (hz0 : h0 h z) (hn : n + 1 ≤ mc) (hk : k + q.2.2 ≤ ms)
    (g : G E X (n + 1) (k + q.2.2) (uS S z (c + 1, 0)) (some (z + 1)) h (pc + 3) lc (vr z :: st)) : G E X n k S (some z) h pc lc st := by
  intro H locs ls h1 h2 h3 h4
  obtain ⟨p, e, R, s, m, args, below, meth, c0, Q⟩ := X
  obtain ⟨hx, hb, hml, hown, hts, hE, hlk, hrt, hnm, hR0, hQ0⟩ := O
  dsimp only at hR0
  subst hR0
  have hz : H.size + 1 = z := h2 z rfl
  have hz2 : H.size = z - 1 := by omega
  have hA : eA E (z - 1) := by
    have := hE.2.2.1
    have := h3.1
    unfold eA
    omega
  have hzp : z ≠ 0 := by omega
  have hc13 := hq.lt
  have hKn := hE.1.1 c q hq.1
  refine W.newcK hx hb hown (hts _ hcl) (hts _ hins) (hts _ hini) rfl hd hn hk hKn.2.1 hz2 fun H1 kC hkC e1 z1 o1 => ?_
  have g1 := g H1 locs ls (h1.born hz hA (by omega) o1 (fun c' q' w1 w2 => ?_) (fun k' w1 => by simp at w1; omega)) (fun z9 hz9 => by cases hz9; omega) (h3.grow (by omega) (fun x hx => o1 x (by omega))) h4
  · rw [List.map_cons, show tv (vr z) = .ref (z - 1) from rv_pos hzp] at g1
    exact g1
  · have ec : c' = c := by simp at w1; omega
    subst ec
    have eq : q' = q := Option.some.inj (w2.symm.trans hq.1)
    subst eq
    exact (u_born (tyC c') hts hq.2.1 hKn hkC e1 hq.2.2.1).to (fun j hj => fval0 _ _ _ _ _ (hz0.1 j) (hz0.2.1 j) (hz0.2.2 j) (hfd j hj))
theorem g_newarray (O : Ok E X y cc nL ret F L mc ms Qc) {z t N : Nat} {x : Int32} {atype : ArrayType} (hty : (tysE E.2.2.1)[t]? = some (E.2.2.1 t, newarray.typeOf atype)) (hdv : ∀ (I : Nat → Int32) (J : Nat → Int64) (R : Nat → Nat) (j : Nat), I j = 0 → J j = 0 → R j = 0 → aval t I J R j = defaultValue (newarray.typeOf atype)) (hnm2 : ∀ (U : State) (cA : ClassId), va_RA U cA (newarray.typeOf atype) → U.vm.findClass ("[" ++ (newarray.typeOf atype).toString) = some cA)
    (hd : decode cc pc = .ok (.newarray atype, 2)) (hac : Cond.arrayClass (newarray.typeOf atype) ∈ BIG) (hx0 : ¬ x < 0) (hN : x.toNatClampNeg = N) (hbytes : N * componentBytes (newarray.typeOf atype) ≤ 536870912) (hz0 : h0 h z) (hn : n + 1 ≤ mc) (hk : k + N ≤ ms)
    (g : G E X (n + 1) (k + N) (uS S z (20 + t, N)) (some (z + 1)) h (pc + 2) lc (vr z :: st)) : G E X n k S (some z) h pc lc (vi x :: st) := by
  intro H locs ls h1 h2 h3 h4
  obtain ⟨p, e, R, s, m, args, below, meth, c0, Q⟩ := X
  obtain ⟨hx, hb, hml, hown, hts, hE, hlk, hrt, hnm, hR0, hQ0⟩ := O
  dsimp only at hR0
  subst hR0
  have hz : H.size + 1 = z := h2 z rfl
  have hz2 : H.size = z - 1 := by omega
  have hA : eA E (z - 1) := by
    have := hE.2.2.1
    have := h3.1
    unfold eA
    omega
  have hzp : z ≠ 0 := by omega
  refine va_newaK hx hb (hts _ hac) rfl hd (rest := st.map tv) rfl hx0 hN hbytes hn hk hz2 fun H1 cA e1 z1 o1 hAr hNm => ?_
  have ecA : cA = E.2.2.1 t := Option.some.inj (hNm.symm.trans (hnm2 s _ (hE.1.2 t _ hty).2))
  have g1 := g H1 locs ls (h1.born hz hA (by omega) o1 (fun c' q' w1 w2 => ?_) (fun k' w1 => ?_)) (fun z9 hz9 => by cases hz9; omega) (h3.grow (by omega) (fun x hx => o1 x (by omega))) h4
  · rw [List.map_cons, show tv (vr z) = .ref (z - 1) from rv_pos hzp] at g1
    exact g1
  · have : c' < 13 := (List.getElem?_eq_some_iff.mp w2).1
    simp at w1
    omega
  · have ek : k' = t := by simp at w1; omega
    subst ek
    rw [e1, ecA]
    congr 2
    funext j
    exact (hdv _ _ _ j (hz0.1 j) (hz0.2.1 j) (hz0.2.2 j)).symm
theorem g_anewarray (O : Ok E X y cc nL ret F L mc ms Qc) {idx z t N : Nat} {x : Int32} {C : String} (hty : (tysE E.2.2.1)[t + 4]? = some (E.2.2.1 (t + 4), .object C)) (hC : C ∈ AOW)
    (hd : decode cc pc = .ok (.anewarray idx, 3)) (hcl : Cond.classLink y.cls idx C ∈ BIG) (hx0 : ¬ x < 0) (hN : x.toNatClampNeg = N) (hbytes : N * 4 ≤ 536870912) (hz0 : h0 h z) (hn : n + 1 ≤ mc) (hk : k + N ≤ ms)
    (g : G E X (n + 1) (k + N) (uS S z (20 + (t + 4), N)) (some (z + 1)) h (pc + 3) lc (vr z :: st)) : G E X n k S (some z) h pc lc (vi x :: st) := by
  intro H locs ls h1 h2 h3 h4
  obtain ⟨p, e, R, s, m, args, below, meth, c0, Q⟩ := X
  obtain ⟨hx, hb, hml, hown, hts, hE, hlk, hrt, hnm, hR0, hQ0⟩ := O
  dsimp only at hR0
  subst hR0
  subst hN
  have hz : H.size + 1 = z := h2 z rfl
  have hz2 : H.size = z - 1 := by omega
  have hA : eA E (z - 1) := by
    have := hE.2.2.1
    have := h3.1
    unfold eA
    omega
  have hzp : z ≠ 0 := by omega
  refine W.anew hx hb hown (hts _ hcl) (va_AO.use (hE.2.2.2.2.2.2.2.2.2.2.2 C hC)) rfl hd (rest := st.map tv) rfl hx0 hbytes hn hk fun cA kA comp f1 f2 f3 f4 => ?_
  generalize hH1 : H.push ({ cls := cA, slots := Array.replicate x.toNatClampNeg .null, vm := .none } : Cell) = H1
  have z1 : H1.size = z := by rw [← hH1, Array.size_push, hz]
  have e1 : H1[z - 1]? = some (arrV cA x.toNatClampNeg (fun _ => .null)) := by rw [← hH1, ← hz2, Array.getElem?_push_size, ← arrV_new]
  have o1 : ∀ q : Nat, q < z - 1 → H1[q]? = H[q]? := fun q hq => by rw [← hH1, Array.getElem?_push, if_neg (by omega)]
  obtain ⟨kA2, comp2, _, _, _, k4⟩ := (hE.1.2 (t + 4) _ hty).2
  have ecA : cA = E.2.2.1 (t + 4) := Option.some.inj (f1.symm.trans k4)
  have g1 := g H1 locs ls (h1.born hz hA (by omega) o1 (fun c' q' w1 w2 => ?_) (fun k' w1 => ?_)) (fun z9 hz9 => by cases hz9; omega) (h3.grow (by omega) (fun x hx => o1 x (by omega))) h4
  · rw [List.map_cons, show tv (vr z) = .ref (z - 1) from rv_pos hzp] at g1
    rw [hz2]
    exact g1
  · have : c' < 13 := (List.getElem?_eq_some_iff.mp w2).1
    simp at w1
    omega
  · have ek : k' = t + 4 := by simp at w1; omega
    subst ek
    rw [e1, ecA]
    congr 2
    funext j
    have e1 : ¬ t + 4 < 3 := by omega
    have e2 : ¬ t + 4 = 3 := by omega
    simp [aval, e1, e2, hz0.2.2 j, rv, oR, va_rf]
/-! returns -/
theorem g_end (O : Ok E X y cc nL ret F L mc ms Qc) {r : Option Tv} (hq : Qc r S Z h) {H : Heap} {locs : List Loc} (h1 : HR E S h H) (h2 : ∀ z, Z = some z → H.size + 1 = z) (h3 : va_S (eA E) X.2.2.2.1.heap H locs) (t : State) (ht : t.heap = H) : QC E Qc X.2.2.2.2.2.1 X.2.2.2.1 (.returned (r.map tv)) t := ⟨⟨r, S, Z, h, rfl, hq, by rw [ht]; exact h1, fun z hz => by rw [ht]; exact h2 z hz⟩, h3.F ht⟩
theorem g_ireturn (O : Ok E X y cc nL (some .int) F L mc ms Qc) {v : Int32} (hd : decode cc pc = .ok (.ireturn, 1)) (hq : Qc (some (vi v)) S Z h) : G E X mc ms S Z h pc lc [vi v] := by
  intro H locs ls h1 h2 h3 h4
  refine W_mono O.2.2.2.2.2.2.2.2.2.2 ?_
  exact W.iret O.1 O.2.1 O.2.2.2.2.2.2.2.1 (fun t ht _ => g_end O hq h1 h2 h3 t ht) (fun q hq => h3.2.2 q hq) hd O.2.2.2.2.2.2.1
theorem g_zreturn (O : Ok E X y cc nL (some .boolean) F L mc ms Qc) {v : Int32} (hd : decode cc pc = .ok (.ireturn, 1)) (hz : v &&& 1 = v) (hq : Qc (some (vi v)) S Z h) : G E X mc ms S Z h pc lc [vi v] := by
  intro H locs ls h1 h2 h3 h4
  refine W_mono O.2.2.2.2.2.2.2.2.2.2 ?_
  exact W.zret O.1 O.2.1 O.2.2.2.2.2.2.2.1 (zb_nar hz) (fun t ht _ => g_end O hq h1 h2 h3 t ht) (fun q hq => h3.2.2 q hq) hd O.2.2.2.2.2.2.1
theorem g_nreturn {ty : FieldType} (O : Ok E X y cc nL (some ty) F L mc ms Qc) {v : Int32} (hd : decode cc pc = .ok (.ireturn, 1)) (hz : narrow ty (.int v) = .int v) (hq : Qc (some (vi v)) S Z h) : G E X mc ms S Z h pc lc [vi v] := by
  intro H locs ls h1 h2 h3 h4
  refine W_mono O.2.2.2.2.2.2.2.2.2.2 ?_
  exact W.zret O.1 O.2.1 O.2.2.2.2.2.2.2.1 hz (fun t ht _ => g_end O hq h1 h2 h3 t ht) (fun q hq => h3.2.2 q hq) hd O.2.2.2.2.2.2.1
theorem g_lreturn (O : Ok E X y cc nL (some .long) F L mc ms Qc) {v : Int64} (hd : decode cc pc = .ok (.lreturn, 1)) (hq : Qc (some (vj v)) S Z h) : G E X mc ms S Z h pc lc [vj v] := by
  intro H locs ls h1 h2 h3 h4
  refine W_mono O.2.2.2.2.2.2.2.2.2.2 ?_
  exact W.lret O.1 O.2.1 O.2.2.2.2.2.2.2.1 (fun t ht _ => g_end O hq h1 h2 h3 t ht) (fun q hq => h3.2.2 q hq) hd O.2.2.2.2.2.2.1
theorem g_areturn {C : String} (O : Ok E X y cc nL (some (.object C)) F L mc ms Qc) {v : Nat} (hd : decode cc pc = .ok (.areturn, 1)) (hq : Qc (some (vr v)) S Z h) : G E X mc ms S Z h pc lc [vr v] := by
  intro H locs ls h1 h2 h3 h4
  refine W_mono O.2.2.2.2.2.2.2.2.2.2 ?_
  exact W.aret O.1 O.2.1 O.2.2.2.2.2.2.2.1 (Or.inl ⟨C, rfl⟩) (rv_or v) (fun t ht _ => g_end O hq h1 h2 h3 t ht) (fun q hq => h3.2.2 q hq) hd O.2.2.2.2.2.2.1
theorem g_return (O : Ok E X y cc nL none F L mc ms Qc) (hd : decode cc pc = .ok (.return_, 1)) (hq : Qc none S Z h) : G E X mc ms S Z h pc lc [] := by
  intro H locs ls h1 h2 h3 h4
  refine W_mono O.2.2.2.2.2.2.2.2.2.2 ?_
  exact W.vret O.1 O.2.1 O.2.2.2.2.2.2.2.1 (fun t ht _ => g_end O hq h1 h2 h3 t ht) (fun q hq => h3.2.2 q hq) hd O.2.2.2.2.2.2.1
/-! calls -/
theorem big_in {c : Cond} (hc : c ∈ BIG) : GoodIn BIG (c :: BIG) := fun w hw => by
  rcases List.mem_cons.mp hw with rfl | hw
  · exact ⟨hc, good_of_word (big_good _ hc)⟩
  · exact ⟨hw, good_of_word (big_good _ hw)⟩
def yOK (y : MethodName) (m : Nat) : Prop := y.cls ≠ "java/lang/invoke/MethodHandle" ∧ y.cls ≠ "java/lang/invoke/VarHandle" ∧ (parseMethodDescriptor y.desc).map (fun d => d.parameters.length) = some m
theorem ct_blind {as : List Tv} : FrameBlind (va_Pc (as.map tv) (fun U => HR E S h U.heap ∧ (∀ z, Z = some z → U.heap.size + 1 = z) ∧ EnvOK E U)) := fun a U g mk hp => ⟨hp.1, hp.2.1, hp.2.2.1, hp.2.2.2.blind⟩
theorem g_after {mc' ms' : Nat} {Q' : Pq} {H : Heap} {locs : List Loc} {ls : Array Slot} {a : Array Value} {rest : List Tv} (h3 : va_S (eA E) X.2.2.2.1.heap H locs) (h4 : LR lc ls)
    (hr : va_Run X.1 E.1 X.2.1 X.2.2.1 X.2.2.2.1 X.2.2.2.2.1 X.2.2.2.2.2.1 X.2.2.2.2.2.2.1 X.2.2.2.2.2.2.2.1 X.2.2.2.2.2.2.2.2.1 H locs n k mc' ms' (F0 X.2.2.2.2.1 pc ls (st.map tv)) (rest.map tv) (QC E Q' a) (eA E))
    (g : ∀ (r : Option Tv) (S' : Sh) (Z' : Option Nat) (h' : Hp), Q' r S' Z' h' → G E X (n + mc') (k + ms') S' Z' h' (pc + 3) lc (r.toList ++ rest)) :
    W X.1 E.1 X.2.1 X.2.2.1 X.2.2.2.1 X.2.2.2.2.1 X.2.2.2.2.2.1 X.2.2.2.2.2.2.1 X.2.2.2.2.2.2.2.1 X.2.2.2.2.2.2.2.2.1 H locs n k X.2.2.2.2.2.2.2.2.2 (F0 X.2.2.2.2.1 pc ls (st.map tv)) := by
  intro T hT XX
  obtain ⟨v, st₀, t, T', L', e0, X', hL, e1, e2, ⟨⟨r, S', Z', h', hv, hq, hH, hZ⟩, hz, hk⟩, sg⟩ := hr T hT XX
  have hv : v = r.map tv := Outcome.returned.inj hv
  subst hv
  rw [e0] at hz hk
  obtain ⟨t2, a1, b1⟩ := g r S' Z' h' hq T'.heap (locs ++ L') ls (by rw [e1]; exact hH) (fun z hz => by rw [e1]; exact hZ z hz)
    ⟨Nat.le_trans h3.1 (by rw [e1]; exact hz), fun q w1 w2 => by rw [e1, hk q (Nat.lt_of_lt_of_le w1 h3.1) w2]; exact h3.2.1 q w1 w2, fun q hq => (List.mem_append.mp hq).elim (h3.2.2 q) (hL q)⟩ h4 T' rfl X'
  refine ⟨t2, sg t2 ?_, b1⟩
  have e9 : (Option.map tv r).toList ++ rest.map tv = (r.toList ++ rest).map tv := by cases r <;> rfl
  show Steps X.1.tables X.2.1 X.2.2.2.2.2.2.1 (T'.setTop { F0 X.2.2.2.2.1 pc ls (st.map tv) with pc := pc + 3, stack := (Option.map tv r).toList ++ rest.map tv }) t2
  rw [e9]
  exact a1
theorem g_callV (O : Ok E X y cc nL ret F L mc ms Qc) {idx maxL F' L' mc' ms' b c : Nat} {y' : MethodName} {bytes : ByteArray} {rt : Option FieldType} {q : vw_C} {As rest : List Tv} {Q' : Pq} (hq : CI c q) (hqc : q.1 = y'.cls) (hd : decode cc pc = .ok (.invokevirtual idx, 3)) (hml : Cond.methodLink y.cls idx y' ∈ BIG) (him : Cond.instanceMethod y' ∈ BIG) (hse : Cond.selects y'.cls y' y' ∈ BIG) (hin : Cond.initialized y'.cls ∈ BIG) (hco : Cond.code y' bytes maxL rt ∈ BIG) (hy : yOK y' As.length)
    (hs : (S b).1 = c + 1) (hlen : lc.length = nL) (hst : st = As.reverse ++ vr b :: rest) (hsum : (rest.map tc).sum ≤ 8) (hR : F' + 1 ≤ F ∧ 8 + (maxL + 11) + L' ≤ L ∧ n + mc' ≤ mc ∧ k + ms' ≤ ms) (hM : Ct E y' bytes maxL rt F' L' mc' ms' S Z h (vr b :: As) Q')
    (g : ∀ (r : Option Tv) (S' : Sh) (Z' : Option Nat) (h' : Hp), Q' r S' Z' h' → G E X (n + mc') (k + ms') S' Z' h' (pc + 3) lc (r.toList ++ rest)) : G E X n k S Z h pc lc st := by
  intro H locs ls h1 h2 h3 h4
  obtain ⟨hx, hb, hml0, hown, hts, hE, hlk, hrt, hnm, hR0, hQ0⟩ := id O
  have hb0 : b ≠ 0 := h1.pos hE (by rw [hs]; omega)
  obtain ⟨cellB, g1, g2, g3, -⟩ := h1.1 b c q hs hq.1
  have hfc := (hE.1.1 c q hq.1).2.1
  refine g_after (a := (Value.ref (b - 1) :: As.map tv).toArray) h3 h4 (va_runV (As := As.map tv) (rest := rest.map tv) (b := b - 1) (C := y'.cls) ⟨hx, hb, hml0, hown, hts⟩ hM ⟨callB_of As.length hts (big_in hco) rfl rfl rfl (hts _ hin) (hts _ hml) hy (by rw [hR0]; exact ⟨hR.1, hR.2.1⟩), hts _ him, hts _ hse⟩
    ⟨ct_blind, ⟨cellB, g1, by rw [g3]; rfl, by rw [g2, ← hqc]; exact hfc⟩, fun U hU hW => ⟨by rw [List.map_cons, show tv (vr b) = .ref (b - 1) from rv_pos hb0], by rw [hU]; exact h1, fun z hz => by rw [hU]; exact h2 z hz, hE.call h3 hU hW⟩⟩ rfl (by rw [List.length_map]) (h4.1.trans hlen) (by rw [hst, List.map_append, List.map_reverse, List.map_cons, show tv (vr b) = .ref (b - 1) from rv_pos hb0]) (lv_room (by rw [tc_sum]; exact hsum)) hd (by rw [hR0]; exact ⟨hR.2.2.1, hR.2.2.2⟩)) g
theorem g_callS (O : Ok E X y cc nL ret F L mc ms Qc) {idx maxL F' L' mc' ms' : Nat} {y' : MethodName} {bytes : ByteArray} {rt : Option FieldType} {As rest : List Tv} {Q' : Pq} (hd : decode cc pc = .ok (.invokestatic idx, 3)) (hml : Cond.methodLink y.cls idx y' ∈ BIG) (him : Cond.static y' ∈ BIG) (hin : Cond.initialized y'.cls ∈ BIG) (hco : Cond.code y' bytes maxL rt ∈ BIG) (hy : yOK y' As.length)
    (hlen : lc.length = nL) (hst : st = As.reverse ++ rest) (hsum : (rest.map tc).sum ≤ 8) (hR : F' + 1 ≤ F ∧ 8 + (maxL + 11) + L' ≤ L ∧ n + mc' ≤ mc ∧ k + ms' ≤ ms) (hM : Ct E y' bytes maxL rt F' L' mc' ms' S Z h As Q')
    (g : ∀ (r : Option Tv) (S' : Sh) (Z' : Option Nat) (h' : Hp), Q' r S' Z' h' → G E X (n + mc') (k + ms') S' Z' h' (pc + 3) lc (r.toList ++ rest)) : G E X n k S Z h pc lc st := by
  intro H locs ls h1 h2 h3 h4
  obtain ⟨hx, hb, hml0, hown, hts, hE, hlk, hrt, hnm, hR0, hQ0⟩ := id O
  refine g_after (a := (As.map tv).toArray) h3 h4 (va_runS (As := As.map tv) (rest := rest.map tv) ⟨hx, hb, hml0, hown, hts⟩ hM ⟨callB_of As.length hts (big_in hco) rfl rfl rfl (hts _ hin) (hts _ hml) hy (by rw [hR0]; exact ⟨hR.1, hR.2.1⟩), hts _ him⟩
    ⟨ct_blind, fun U hU hW => ⟨rfl, by rw [hU]; exact h1, fun z hz => by rw [hU]; exact h2 z hz, hE.call h3 hU hW⟩⟩ rfl (by rw [List.length_map]) (h4.1.trans hlen) (by rw [hst, List.map_append, List.map_reverse]) (lv_room (by rw [tc_sum]; exact hsum)) hd (by rw [hR0]; exact ⟨hR.2.2.1, hR.2.2.2⟩)) g
theorem g_callSN (O : Ok E X y cc nL ret F L mc ms Qc) {idx maxL F' L' mc' ms' : Nat} {host : String} {y' : MethodName} {bytes : ByteArray} {rt : Option FieldType} {As rest : List Tv} {Q' : Pq} (hd : decode cc pc = .ok (.invokestatic idx, 3)) (hml : Cond.methodLinkNest y.cls idx y' host ∈ XW) (him : Cond.static y' ∈ BIG) (hin : Cond.initialized y'.cls ∈ BIG) (hco : Cond.code y' bytes maxL rt ∈ BIG) (hy : yOK y' As.length)
    (hlen : lc.length = nL) (hst : st = As.reverse ++ rest) (hsum : (rest.map tc).sum ≤ 8) (hR : F' + 1 ≤ F ∧ 8 + (maxL + 11) + L' ≤ L ∧ n + mc' ≤ mc ∧ k + ms' ≤ ms) (hM : Ct E y' bytes maxL rt F' L' mc' ms' S Z h As Q')
    (g : ∀ (r : Option Tv) (S' : Sh) (Z' : Option Nat) (h' : Hp), Q' r S' Z' h' → G E X (n + mc') (k + ms') S' Z' h' (pc + 3) lc (r.toList ++ rest)) : G E X n k S Z h pc lc st := by
  intro H locs ls h1 h2 h3 h4
  obtain ⟨hx, hb, hml0, hown, hts, hE, hlk, hrt, hnm, hR0, hQ0⟩ := id O
  refine g_after (a := (As.map tv).toArray) h3 h4 (va_runSN (As := As.map tv) (rest := rest.map tv) ⟨hx, hb, hml0, hown, hts⟩ hM ⟨va_cnB As.length hts (big_in hco) rfl rfl rfl (hE.2.2.2.2.2.2.2.2.2.2.1 _ hml) (hts _ hin) hy (by rw [hR0]; exact ⟨hR.1, hR.2.1⟩), hts _ him, trivial⟩
    ⟨ct_blind, fun U hU hW => ⟨rfl, by rw [hU]; exact h1, fun z hz => by rw [hU]; exact h2 z hz, hE.call h3 hU hW⟩⟩ rfl (by rw [List.length_map]) (h4.1.trans hlen) (by rw [hst, List.map_append, List.map_reverse]) (lv_room (by rw [tc_sum]; exact hsum)) hd (by rw [hR0]; exact ⟨hR.2.2.1, hR.2.2.2⟩)) g
theorem g_callI (O : Ok E X y cc nL ret F L mc ms Qc) {idx maxL F' L' mc' ms' b : Nat} {y' : MethodName} {bytes : ByteArray} {As rest : List Tv} {Q' : Pq} (hyi : y'.name = "<init>") (hd : decode cc pc = .ok (.invokespecial idx, 3)) (hml : Cond.methodLink y.cls idx y' ∈ BIG) (him : Cond.instanceMethod y' ∈ BIG) (hin : Cond.initialized y'.cls ∈ BIG) (hco : Cond.code y' bytes maxL none ∈ BIG) (hy : yOK y' As.length)
    (hs : (S b).1 ≠ 0) (hlen : lc.length = nL) (hst : st = As.reverse ++ vr b :: rest) (hsum : (rest.map tc).sum ≤ 8) (hR : F' + 1 ≤ F ∧ 8 + (maxL + 11) + L' ≤ L ∧ n + mc' ≤ mc ∧ k + ms' ≤ ms) (hM : Ct E y' bytes maxL none F' L' mc' ms' S Z h (vr b :: As) Q')
    (g : ∀ (r : Option Tv) (S' : Sh) (Z' : Option Nat) (h' : Hp), Q' r S' Z' h' → G E X (n + mc') (k + ms') S' Z' h' (pc + 3) lc (r.toList ++ rest)) : G E X n k S Z h pc lc st := by
  intro H locs ls h1 h2 h3 h4
  obtain ⟨hx, hb, hml0, hown, hts, hE, hlk, hrt, hnm, hR0, hQ0⟩ := id O
  have hb0 : b ≠ 0 := h1.pos hE hs
  refine g_after (a := (Value.ref (b - 1) :: As.map tv).toArray) h3 h4 (va_runI (As := As.map tv) (rest := rest.map tv) (b := b - 1) ⟨hx, hb, hml0, hown, hts⟩ hM ⟨callB_of As.length hts (big_in hco) rfl rfl rfl (hts _ hin) (hts _ hml) hy (by rw [hR0]; exact ⟨hR.1, hR.2.1⟩), hyi, hts _ him⟩
    ⟨ct_blind, fun U hU hW => ⟨by rw [List.map_cons, show tv (vr b) = .ref (b - 1) from rv_pos hb0], by rw [hU]; exact h1, fun z hz => by rw [hU]; exact h2 z hz, hE.call h3 hU hW⟩⟩ rfl (by rw [List.length_map]) (h4.1.trans hlen) (by rw [hst, List.map_append, List.map_reverse, List.map_cons, show tv (vr b) = .ref (b - 1) from rv_pos hb0]) (lv_room (by rw [tc_sum]; exact hsum)) hd (by rw [hR0]; exact ⟨hR.2.2.1, hR.2.2.2⟩)) g
theorem g_callIN (O : Ok E X y cc nL ret F L mc ms Qc) {idx maxL F' L' mc' ms' b : Nat} {host : String} {y' : MethodName} {bytes : ByteArray} {As rest : List Tv} {Q' : Pq} (hyi : y'.name = "<init>") (hd : decode cc pc = .ok (.invokespecial idx, 3)) (hml : Cond.methodLinkNest y.cls idx y' host ∈ XW) (him : Cond.instanceMethod y' ∈ BIG) (hin : Cond.initialized y'.cls ∈ BIG) (hco : Cond.code y' bytes maxL none ∈ BIG) (hy : yOK y' As.length)
    (hs : (S b).1 ≠ 0) (hlen : lc.length = nL) (hst : st = As.reverse ++ vr b :: rest) (hsum : (rest.map tc).sum ≤ 8) (hR : F' + 1 ≤ F ∧ 8 + (maxL + 11) + L' ≤ L ∧ n + mc' ≤ mc ∧ k + ms' ≤ ms) (hM : Ct E y' bytes maxL none F' L' mc' ms' S Z h (vr b :: As) Q')
    (g : ∀ (r : Option Tv) (S' : Sh) (Z' : Option Nat) (h' : Hp), Q' r S' Z' h' → G E X (n + mc') (k + ms') S' Z' h' (pc + 3) lc (r.toList ++ rest)) : G E X n k S Z h pc lc st := by
  intro H locs ls h1 h2 h3 h4
  obtain ⟨hx, hb, hml0, hown, hts, hE, hlk, hrt, hnm, hR0, hQ0⟩ := id O
  have hb0 : b ≠ 0 := h1.pos hE hs
  refine g_after (a := (Value.ref (b - 1) :: As.map tv).toArray) h3 h4 (va_runIN (As := As.map tv) (rest := rest.map tv) (b := b - 1) ⟨hx, hb, hml0, hown, hts⟩ hM ⟨va_cnB As.length hts (big_in hco) rfl rfl rfl (hE.2.2.2.2.2.2.2.2.2.2.1 _ hml) (hts _ hin) hy (by rw [hR0]; exact ⟨hR.1, hR.2.1⟩), hyi, hts _ him⟩
    ⟨ct_blind, fun U hU hW => ⟨by rw [List.map_cons, show tv (vr b) = .ref (b - 1) from rv_pos hb0], by rw [hU]; exact h1, fun z hz => by rw [hU]; exact h2 z hz, hE.call h3 hU hW⟩⟩ rfl (by rw [List.length_map]) (h4.1.trans hlen) (by rw [hst, List.map_append, List.map_reverse, List.map_cons, show tv (vr b) = .ref (b - 1) from rv_pos hb0]) (lv_room (by rw [tc_sum]; exact hsum)) hd (by rw [hR0]; exact ⟨hR.2.2.1, hR.2.2.2⟩)) g
theorem g_objInit (O : Ok E X y cc nL ret F L mc ms Qc) {idx b : Nat} {rest : List Tv} (hd : decode cc pc = .ok (.invokespecial idx, 3)) (hml : Cond.methodLink y.cls idx objectInit ∈ BIG) (hs : (S b).1 ≠ 0) (hlen : lc.length = nL) (hst : st = vr b :: rest) (hsum : (rest.map tc).sum ≤ 8) (hR : 1 ≤ F ∧ 20 ≤ L) (g : G E X n k S Z h (pc + 3) lc rest) : G E X n k S Z h pc lc st := by
  intro H locs ls h1 h2 h3 h4
  obtain ⟨hx, hb, hml0, hown, hts, hE, hlk, hrt, hnm, hR0, hQ0⟩ := id O
  have hb0 : b ≠ 0 := h1.pos hE hs
  subst hst
  rw [List.map_cons, show tv (vr b) = .ref (b - 1) from rv_pos hb0]
  have hr := lv_room (m := X.2.2.2.2.1) (pc := pc) (ls := ls) (rest := .ref (b - 1) :: rest.map tv) (st := rest.map tv) (by rw [tc_sum]; exact hsum)
  exact W.objInit hx hb hown (hts _ hml) (hts _ im_objectInit) (hts _ co_objectInit) rfl (h4.1.trans (hlen.trans hml0.symm)) rfl hd (by rw [hR0]; exact hR.1) (by rw [hR0]; show _ + 12 ≤ L; omega) (g H locs ls h1 h2 h3 h4)
/-! String constants -/
theorem g_ldcS (O : Ok E X y cc nL ret F L mc ms Qc) {idx i : Nat} {q : String × Nat × String} (hd : decode cc pc = .ok (.ldc idx, 2)) (hw : strW[i]? = some q) (h1' : q.1 = y.cls) (h2' : q.2.1 = idx) (g : G E X n k S Z h (pc + 2) lc (vr (E.2.2.2.2.1 i + 1) :: st)) : G E X n k S Z h pc lc st := by
  intro H locs ls h1 h2 h3 h4
  have hR := O.2.2.2.2.2.1.2.2.2.2.2.1 i q hw
  subst h2'
  rw [h1'] at hR
  have g1 := g H locs ls h1 h2 h3 h4
  rw [List.map_cons, show tv (vr (E.2.2.2.2.1 i + 1)) = .ref (E.2.2.2.2.1 i) from rv_pos (Nat.succ_ne_zero _)] at g1
  exact va_ldcS O.1 O.2.1 O.2.2.2.1 hR hd g1
end GC
/-! contracts of methods that make nothing -/
def qI (S : Sh) (Z : Option Nat) (Q : Int32 → Hp → Prop) : Pq := fun r S' Z' h' => S' = S ∧ Z' = Z ∧ ∃ x : Int32, r = some (vi x) ∧ Q x h'
def qJ (S : Sh) (Z : Option Nat) (Q : Int64 → Hp → Prop) : Pq := fun r S' Z' h' => S' = S ∧ Z' = Z ∧ ∃ x : Int64, r = some (vj x) ∧ Q x h'
def qR (S : Sh) (Z : Option Nat) (Q : Nat → Hp → Prop) : Pq := fun r S' Z' h' => S' = S ∧ Z' = Z ∧ ∃ x : Nat, r = some (vr x) ∧ Q x h'
def qV (S : Sh) (Z : Option Nat) (Q : Hp → Prop) : Pq := fun r S' Z' h' => S' = S ∧ Z' = Z ∧ r = none ∧ Q h'
def qA (Q : Sh → Nat → Hp → Prop) : Pq := fun r S' Z' h' => ∃ z : Nat, r = none ∧ Z' = some z ∧ Q S' z h'
section GT
variable {E : Ev} {X : Cx} {n k : Nat} {S : Sh} {Z : Option Nat} {pc : Nat} {lc : List (Option Tv)} {rest : List Tv}
theorem k_I {Q : Int32 → Hp → Prop} (g : ∀ (x : Int32) (h' : Hp), Q x h' → G E X n k S Z h' (pc + 3) lc (vi x :: rest)) : ∀ (r : Option Tv) (S' : Sh) (Z' : Option Nat) (h' : Hp), qI S Z Q r S' Z' h' → G E X (n + 0) (k + 0) S' Z' h' (pc + 3) lc (r.toList ++ rest) := by
  rintro r S' Z' h' ⟨rfl, rfl, x, rfl, hq⟩
  exact g x h' hq
theorem k_J {Q : Int64 → Hp → Prop} (g : ∀ (x : Int64) (h' : Hp), Q x h' → G E X n k S Z h' (pc + 3) lc (vj x :: rest)) : ∀ (r : Option Tv) (S' : Sh) (Z' : Option Nat) (h' : Hp), qJ S Z Q r S' Z' h' → G E X (n + 0) (k + 0) S' Z' h' (pc + 3) lc (r.toList ++ rest) := by
  rintro r S' Z' h' ⟨rfl, rfl, x, rfl, hq⟩
  exact g x h' hq
theorem k_R {Q : Nat → Hp → Prop} (g : ∀ (x : Nat) (h' : Hp), Q x h' → G E X n k S Z h' (pc + 3) lc (vr x :: rest)) : ∀ (r : Option Tv) (S' : Sh) (Z' : Option Nat) (h' : Hp), qR S Z Q r S' Z' h' → G E X (n + 0) (k + 0) S' Z' h' (pc + 3) lc (r.toList ++ rest) := by
  rintro r S' Z' h' ⟨rfl, rfl, x, rfl, hq⟩
  exact g x h' hq
theorem k_V {Q : Hp → Prop} (g : ∀ (h' : Hp), Q h' → G E X n k S Z h' (pc + 3) lc rest) : ∀ (r : Option Tv) (S' : Sh) (Z' : Option Nat) (h' : Hp), qV S Z Q r S' Z' h' → G E X (n + 0) (k + 0) S' Z' h' (pc + 3) lc (r.toList ++ rest) := by
  rintro r S' Z' h' ⟨rfl, rfl, rfl, hq⟩
  exact g h' hq
theorem k_A {Q : Sh → Nat → Hp → Prop} {mc' ms' : Nat} (g : ∀ (S' : Sh) (z : Nat) (h' : Hp), Q S' z h' → G E X (n + mc') (k + ms') S' (some z) h' (pc + 3) lc rest) : ∀ (r : Option Tv) (S' : Sh) (Z' : Option Nat) (h' : Hp), qA Q r S' Z' h' → G E X (n + mc') (k + ms') S' Z' h' (pc + 3) lc (r.toList ++ rest) := by
  rintro r S' Z' h' ⟨z, rfl, rfl, hq⟩
  exact g S' z h' hq
end GT
