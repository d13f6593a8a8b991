def uS (S : Sh) (a : Nat) (p : Nat × Nat) : Sh := fun b => if b = a then p else S b
/-- what the names say of class c -/
def CI (c : Nat) (q : vw_C) : Prop := vwCl[c]? = some q ∧ (∀ w ∈ u_ws q.1 q.2.1 q.2.2, w ∈ BIG) ∧ (∀ k, k < q.2.2 → parseFieldDescriptor (q.2.1 k).2.2.1 = some (tyC c k)) ∧ (∀ a, a < q.2.2 → ∀ b, b < q.2.2 → a ≠ b → (q.2.1 a).2.1 ≠ (q.2.1 b).2.1)
theorem ci_0 : CI 0 (RX0, TX0, 11) := ⟨rfl, uw_X0, tyX0_ok, nmX0⟩
theorem ci_1 : CI 1 (RX1, TX1, 5) := ⟨rfl, uw_X1, tyX1_ok, nmX1⟩
theorem ci_2 : CI 2 (RX2, TX2, 18) := ⟨rfl, uw_X2, tyX2_ok, nmX2⟩
theorem ci_3 : CI 3 (RX3, TX3, 7) := ⟨rfl, uw_X3, tyX3_ok, nmX3⟩
theorem ci_4 : CI 4 (RX4, TX4, 3) := ⟨rfl, uw_X4, tyX4_ok, nmX4⟩
theorem ci_5 : CI 5 (RX5, TX5, 12) := ⟨rfl, uw_X5, tyX5_ok, nmX5⟩
theorem ci_6 : CI 6 (RX6, TX6, 2) := ⟨rfl, uw_X6, tyX6_ok, nmX6⟩
theorem ci_7 : CI 7 (RX7, TX7, 2) := ⟨rfl, uw_X7, tyX7_ok, nmX7⟩
theorem ci_8 : CI 8 (RX8, TX8, 6) := ⟨rfl, uw_X8, tyX8_ok, nmX8⟩
theorem ci_9 : CI 9 (RX9, TX9, 5) := ⟨rfl, uw_X9, tyX9_ok, nmX9⟩
theorem ci_10 : CI 10 (RX10, TX10, 5) := ⟨rfl, uw_X10, tyX10_ok, nmX10⟩
theorem ci_11 : CI 11 (RX11, TX11, 14) := ⟨rfl, uw_X11, tyX11_ok, nmX11⟩
theorem ci_12 : CI 12 (RX12, TX12, 65) := ⟨rfl, uw_X12, tyX12_ok, nmX12⟩
theorem CI.lt {c : Nat} {q : vw_C} (h : CI c q) : c < 13 := (List.getElem?_eq_some_iff.mp h.1).1
section GH
variable {E : Ev} {X : Cx} {y : MethodName} {cc : ByteArray} {nL : Nat} {ret : Option FieldType} {F L mc ms : Nat} {Qc : Pq} {n k : Nat} {S : Sh} {Z : Option Nat} {h : Hp} {pc : Nat} {lc : List (Option Tv)} {st : List Tv}
theorem HR.pos {H : Heap} {U : State} {a : Nat} (h1 : HR E S h H) (hE : EnvOK E U) (ha : (S a).1 ≠ 0) : a ≠ 0 := (h1.2.2 a ha).1
theorem g_getf (O : Ok E X y cc nL ret F L mc ms Qc) {a idx c kf : Nat} {q : vw_C} {v : Tv} (hq : CI c q) (hk : kf < q.2.2) (hd : decode cc pc = .ok (.getfield idx, 3)) (hl : Cond.fieldLink y.cls idx (q.2.1 kf).1 (q.2.1 kf).2.1 (q.2.1 kf).2.2.1 ∈ BIG) (hs : (S a).1 = c + 1)
    (hv : fval (tyC c kf) (h.1 a) (h.2.1 a) (h.2.2 a) kf = tv v) (g : G E X n k S Z h (pc + 3) lc (v :: st)) : G E X n k S Z h pc lc (vr a :: st) := by
  intro H locs ls h1 h2 h3 h4
  obtain ⟨p, e, R, s, m, args, below, meth, c0, Q⟩ := X
  obtain ⟨hx, hb, hml, hown, hts, hE, -⟩ := O
  have ha : a ≠ 0 := h1.pos hE (by rw [hs]; omega)
  rw [List.map_cons, show tv (vr a) = .ref (a - 1) from rv_pos ha]
  obtain ⟨cell, q1, q2, q3, q4⟩ := h1.1 a c q hs hq.1
  obtain ⟨hS, hfc, kC, hkC, hkind⟩ := hE.1.1 c q hq.1
  obtain ⟨cf, kf2, fi, f, hi, hsl⟩ := hS kf hk
  refine W.getf hx hb hown (hts _ hl) hi (u_facts hfc hkC (u_lays hts hq.2.1 hk) hi).1 q1 (by rw [q3]; exact fun z => by cases z) (v := tv v) ?_ rfl rfl hd (g H locs ls h1 h2 h3 h4)
  rw [hsl, q4 kf hk]
  exact congrArg some hv
theorem g_putf (O : Ok E X y cc nL ret F L mc ms Qc) {a idx c kf : Nat} {q : vw_C} {v : Tv} {h' : Hp} (hq : CI c q) (hk : kf < q.2.2) (hfin : (q.2.1 kf).2.2.2 = false ∨ ((q.2.1 kf).2.2.2 = true ∧ y.name = "<init>" ∧ (q.2.1 kf).1 = y.cls)) (hd : decode cc pc = .ok (.putfield idx, 3)) (hl : Cond.fieldLink y.cls idx (q.2.1 kf).1 (q.2.1 kf).2.1 (q.2.1 kf).2.2.1 ∈ BIG) (hs : (S a).1 = c + 1)
    (hn : narrow (tyC c kf) (tv v) = tv v) (hf : fits (tyC c kf) (tv v) = true)
    (r1 : ∀ q, q ≠ a → h'.1 q = h.1 q) (r2 : ∀ q, q ≠ a → h'.2.1 q = h.2.1 q) (r3 : ∀ q, q ≠ a → h'.2.2 q = h.2.2 q)
    (hv : ∀ j, j < q.2.2 → updV (fun k => fval (tyC c k) (h.1 a) (h.2.1 a) (h.2.2 a) k) kf (tv v) j = fval (tyC c j) (h'.1 a) (h'.2.1 a) (h'.2.2 a) j)
    (g : G E X n k S Z h' (pc + 3) lc st) : G E X n k S Z h pc lc (v :: vr a :: st) := by
  intro H locs ls h1 h2 h3 h4
  obtain ⟨p, e, R, s, m, args, below, meth, c0, Q⟩ := X
  obtain ⟨hx, hb, hml, hown, hts, hE, -, -, hnm, -⟩ := O
  have hsa : (S a).1 ≠ 0 := by rw [hs]; omega
  have ha : a ≠ 0 := h1.pos hE hsa
  rw [List.map_cons, List.map_cons, show tv (vr a) = .ref (a - 1) from rv_pos ha]
  have hc13 := hq.lt
  have hap := va_apart (own := y.cls) hts hq.2.1 (tyC c) hq.2.2.1 hq.2.2.2 hE.1 hq.1
  obtain ⟨cell, q1, q2, q3, q4⟩ := h1.1 a c q hs hq.1
  obtain ⟨hS, hfc, kC, hkC, hkind⟩ := hE.1.1 c q hq.1
  obtain ⟨cf, kf2, fi, f, hi, hsl⟩ := hS kf hk
  have hst := (u_facts hfc hkC (u_lays hts hq.2.1 hk) hi).1
  have hlay := hts _ (hq.2.1 _ (u_in_lay hk))
  unfold u_lay at hlay
  have fin : ∀ (H1 : Heap), H1[a - 1]? = some (cell.setSlot f.slot (tv v)) → H1.size = H.size → (∀ q, q ≠ a - 1 → H1[q]? = H[q]?) → W p E.1 e R s m args below meth c0 H1 (locs ++ [⟨a - 1, f.slot⟩]) n k Q (F0 m (pc + 3) ls (st.map tv)) := by
    intro H1 e1 e2 e3
    rw [hsl] at e1 ⊢
    refine g H1 _ ls (h1.upd ha e2 e3 r1 r2 r3 (fun c' q' w1 w2 => ?_) (fun k' w1 => by omega)) (fun z hz => by rw [e2]; exact h2 z hz) (h3.put e2 e3 (h1.2.2 a hsa).2.1) h4
    have ec : c' = c := by omega
    subst ec
    have eq : q' = q := Option.some.inj (w2.symm.trans hq.1)
    subst eq
    exact t_OB.to (V := updV (fun k => fval (tyC c' k) (h.1 a) (h.2.1 a) (h.2.2 a) k) kf (tv v)) ⟨_, e1, q2, q3, t_set q4 hap hk (tv v)⟩ hv
  rcases hfin with hfin | ⟨hfin, hin2, hdecl⟩
  · rw [if_neg (by rw [hfin]; decide)] at hlay
    have h6 := u_store hfc hkC hkind hlay hi (hq.2.2.1 kf hk) hn hf
    exact W.putK hx hb (f := f) ⟨hown, hts _ hl, ⟨_, _, _, hi⟩, hst⟩ (by rw [q2]; exact h6) q1 q3 (by rw [hsl]; exact k2_hasslot (q4 kf hk)) rfl rfl hd fin
  · rw [if_pos hfin] at hlay
    have hcf : m.cls = cf := by
      obtain ⟨_, _, c', _, _, _, -, -, hf', -, -, -, hown2, -⟩ := Cond.laysFinal_spec hlay
      have e1 : c' = cf := by have := hi.symm.trans hf'; simp at this; exact this.1.symm
      rw [hdecl] at hown2
      rw [← e1]; exact Option.some.inj (hown.symm.trans hown2)
    have h6 := u_fits hfc hkC hkind (Or.inr hlay) hi (hq.2.2.1 kf hk) hn hf
    exact W.putFinK hx hb hown (hts _ hl) hi hst hcf (hnm hin2) (by rw [q2]; exact h6) q1 q3 (by rw [hsl]; exact k2_hasslot (q4 kf hk)) rfl rfl hd fin
theorem upI {c kf a : Nat} {x : Int32} (ht : ∀ I J R, fval (tyC c kf) I J R kf = .int (I kf)) (j : Nat) : updV (fun k => fval (tyC c k) (h.1 a) (h.2.1 a) (h.2.2 a) k) kf (.int x) j = fval (tyC c j) ((pI h a kf x).1 a) ((pI h a kf x).2.1 a) ((pI h a kf x).2.2 a) j := by
  by_cases hj : j = kf
  · subst hj
    rw [ht]
    simp [updV, pI, u2]
  · simp only [updV, if_neg hj]
    generalize tyC c j = t
    cases t <;> simp [fval, pI, u2, hj]
theorem upJ {c kf a : Nat} {x : Int64} (ht : ∀ I J R, fval (tyC c kf) I J R kf = .long (J kf)) (j : Nat) : updV (fun k => fval (tyC c k) (h.1 a) (h.2.1 a) (h.2.2 a) k) kf (.long x) j = fval (tyC c j) ((pJ h a kf x).1 a) ((pJ h a kf x).2.1 a) ((pJ h a kf x).2.2 a) j := by
  by_cases hj : j = kf
  · subst hj
    rw [ht]
    simp [updV, pJ, u2]
  · simp only [updV, if_neg hj]
    generalize tyC c j = t
    cases t <;> simp [fval, pJ, u2, hj]
theorem upR {c kf a : Nat} {x : Nat} (ht : ∀ I J R, fval (tyC c kf) I J R kf = rv (R kf)) (j : Nat) : updV (fun k => fval (tyC c k) (h.1 a) (h.2.1 a) (h.2.2 a) k) kf (rv x) j = fval (tyC c j) ((pR h a kf x).1 a) ((pR h a kf x).2.1 a) ((pR h a kf x).2.2 a) j := by
  by_cases hj : j = kf
  · subst hj
    rw [ht]
    simp [updV, pR, u2]
  · simp only [updV, if_neg hj]
    generalize tyC c j = t
    cases t <;> simp [fval, pR, u2, hj]
theorem rv_nar (t : FieldType) (x : Nat) : narrow t (rv x) = rv x := by
  rcases rv_or x with e | ⟨a, e⟩ <;> rw [e] <;> cases t <;> rfl
theorem rv_fits {t : FieldType} (ht : (∃ C, t = .object C) ∨ ∃ u, t = .array u) (x : Nat) : fits t (rv x) = true := by
  rcases rv_or x with e | ⟨a, e⟩ <;> rw [e] <;> rcases ht with ⟨C, rfl⟩ | ⟨u, rfl⟩ <;> rfl
theorem zb_fits {x : Int32} (hx : x &&& 1 = x) : fits .boolean (.int x) = true := by
  obtain ⟨j, hj, e⟩ := pk_andE x (m := 1) 1 (by decide)
  rw [hx] at e
  subst e
  rcases (show j = 0 ∨ j = 1 by omega) with rfl | rfl <;> rfl
theorem zb_nar {x : Int32} (hx : x &&& 1 = x) : narrow .boolean (.int x) = .int x := congrArg Value.int hx
theorem g_putI (O : Ok E X y cc nL ret F L mc ms Qc) {a idx c kf : Nat} {q : vw_C} {x : Int32} (hq : CI c q) (hk : kf < q.2.2) (hfin : (q.2.1 kf).2.2.2 = false ∨ ((q.2.1 kf).2.2.2 = true ∧ y.name = "<init>" ∧ (q.2.1 kf).1 = y.cls)) (ht : ∀ I J R, fval (tyC c kf) I J R kf = .int (I kf)) (hn : narrow (tyC c kf) (.int x) = .int x) (hf : fits (tyC c kf) (.int x) = true) (hd : decode cc pc = .ok (.putfield idx, 3)) (hl : Cond.fieldLink y.cls idx (q.2.1 kf).1 (q.2.1 kf).2.1 (q.2.1 kf).2.2.1 ∈ BIG) (hs : (S a).1 = c + 1)
    (g : G E X n k S Z (pI h a kf x) (pc + 3) lc st) : G E X n k S Z h pc lc (vi x :: vr a :: st) :=
  g_putf (h' := pI h a kf x) (v := vi x) O hq hk hfin hd hl hs hn hf (fun _ hb => u2_ne _ _ _ _ hb) (fun _ _ => rfl) (fun _ _ => rfl) (fun j _ => upI ht j) g
theorem g_putJ (O : Ok E X y cc nL ret F L mc ms Qc) {a idx c kf : Nat} {q : vw_C} {x : Int64} (hq : CI c q) (hk : kf < q.2.2) (hfin : (q.2.1 kf).2.2.2 = false ∨ ((q.2.1 kf).2.2.2 = true ∧ y.name = "<init>" ∧ (q.2.1 kf).1 = y.cls)) (ht : tyC c kf = .long) (hd : decode cc pc = .ok (.putfield idx, 3)) (hl : Cond.fieldLink y.cls idx (q.2.1 kf).1 (q.2.1 kf).2.1 (q.2.1 kf).2.2.1 ∈ BIG) (hs : (S a).1 = c + 1)
    (g : G E X n k S Z (pJ h a kf x) (pc + 3) lc st) : G E X n k S Z h pc lc (vj x :: vr a :: st) :=
  g_putf (h' := pJ h a kf x) (v := vj x) O hq hk hfin hd hl hs (by rw [ht]; rfl) (by rw [ht]; rfl) (fun _ _ => rfl) (fun _ hb => u2_ne _ _ _ _ hb) (fun _ _ => rfl) (fun j _ => upJ (fun I J R => by rw [ht]; rfl) j) g
theorem g_putR (O : Ok E X y cc nL ret F L mc ms Qc) {a idx c kf : Nat} {q : vw_C} {x : Nat} (hq : CI c q) (hk : kf < q.2.2) (hfin : (q.2.1 kf).2.2.2 = false ∨ ((q.2.1 kf).2.2.2 = true ∧ y.name = "<init>" ∧ (q.2.1 kf).1 = y.cls)) (ht : (∃ C, tyC c kf = .object C) ∨ ∃ u, tyC c kf = .array u) (hd : decode cc pc = .ok (.putfield idx, 3)) (hl : Cond.fieldLink y.cls idx (q.2.1 kf).1 (q.2.1 kf).2.1 (q.2.1 kf).2.2.1 ∈ BIG) (hs : (S a).1 = c + 1)
    (g : G E X n k S Z (pR h a kf x) (pc + 3) lc st) : G E X n k S Z h pc lc (vr x :: vr a :: st) :=
  g_putf (h' := pR h a kf x) (v := vr x) O hq hk hfin hd hl hs (rv_nar _ _) (rv_fits ht _) (fun _ _ => rfl) (fun _ _ => rfl) (fun _ hb => u2_ne _ _ _ _ hb) (fun j _ => upR (fun I J R => by rcases ht with ⟨C, e⟩ | ⟨u, e⟩ <;> rw [e] <;> rfl) j) g
theorem g_iaload (O : Ok E X y cc nL ret F L mc ms Qc) {a : Nat} {i : Int32} (hd : decode cc pc = .ok (.iaload, 1)) (hs : (S a).1 = 20) (hin : vp_in i (S a).2) (g : G E X n k S Z h (pc + 1) lc (vi (gI h a i.toNatClampNeg) :: st)) : G E X n k S Z h pc lc (vi i :: vr a :: st) := by
  intro H locs ls h1 h2 h3 h4
  have ha : a ≠ 0 := h1.pos O.2.2.2.2.2.1 (by rw [hs]; decide)
  have hlt : i.toNatClampNeg < (S a).2 := Nat.not_le.mp fun q => hin (Or.inr q)
  rw [List.map_cons, List.map_cons, show tv (vr a) = .ref (a - 1) from rv_pos ha]
  exact W.iald (v := .int (h.1 a i.toNatClampNeg)) O.1 O.2.1 (h1.2.1 a 0 hs) ((O.2.2.2.2.2.1.1.2 0 _ rfl).1 _ _) (fun q => by cases q) (by rw [arrV_size]; exact hin) (by rw [arrV_read _ _ hlt]; rfl) rfl rfl hd (g H locs ls h1 h2 h3 h4)
theorem g_baload (O : Ok E X y cc nL ret F L mc ms Qc) {a : Nat} {i : Int32} (hd : decode cc pc = .ok (.baload, 1)) (hs : (S a).1 = 21) (hin : vp_in i (S a).2) (g : G E X n k S Z h (pc + 1) lc (vi (gI h a i.toNatClampNeg) :: st)) : G E X n k S Z h pc lc (vi i :: vr a :: st) := by
  intro H locs ls h1 h2 h3 h4
  have ha : a ≠ 0 := h1.pos O.2.2.2.2.2.1 (by rw [hs]; decide)
  have hlt : i.toNatClampNeg < (S a).2 := Nat.not_le.mp fun q => hin (Or.inr q)
  rw [List.map_cons, List.map_cons, show tv (vr a) = .ref (a - 1) from rv_pos ha]
  exact W.bald (v := .int (h.1 a i.toNatClampNeg)) O.1 O.2.1 (h1.2.1 a 1 hs) ((O.2.2.2.2.2.1.1.2 1 _ rfl).1 _ _) (fun q => by cases q) (by rw [arrV_size]; exact hin) (by rw [arrV_read _ _ hlt]; rfl) rfl rfl hd (g H locs ls h1 h2 h3 h4)
theorem g_zaload (O : Ok E X y cc nL ret F L mc ms Qc) {a : Nat} {i : Int32} (hd : decode cc pc = .ok (.baload, 1)) (hs : (S a).1 = 22) (hin : vp_in i (S a).2) (g : G E X n k S Z h (pc + 1) lc (vi (gI h a i.toNatClampNeg) :: st)) : G E X n k S Z h pc lc (vi i :: vr a :: st) := by
  intro H locs ls h1 h2 h3 h4
  have ha : a ≠ 0 := h1.pos O.2.2.2.2.2.1 (by rw [hs]; decide)
  have hlt : i.toNatClampNeg < (S a).2 := Nat.not_le.mp fun q => hin (Or.inr q)
  rw [List.map_cons, List.map_cons, show tv (vr a) = .ref (a - 1) from rv_pos ha]
  exact W.zald (v := .int (h.1 a i.toNatClampNeg)) O.1 O.2.1 (h1.2.1 a 2 hs) ((O.2.2.2.2.2.1.1.2 2 _ rfl).1 _ _) (fun q => by cases q) (by rw [arrV_size]; exact hin) (by rw [arrV_read _ _ hlt]; rfl) rfl rfl hd (g H locs ls h1 h2 h3 h4)
theorem g_laload (O : Ok E X y cc nL ret F L mc ms Qc) {a : Nat} {i : Int32} (hd : decode cc pc = .ok (.laload, 1)) (hs : (S a).1 = 23) (hin : vp_in i (S a).2) (g : G E X n k S Z h (pc + 1) lc (vj (gJ h a i.toNatClampNeg) :: st)) : G E X n k S Z h pc lc (vi i :: vr a :: st) := by
  intro H locs ls h1 h2 h3 h4
  have ha : a ≠ 0 := h1.pos O.2.2.2.2.2.1 (by rw [hs]; decide)
  have hlt : i.toNatClampNeg < (S a).2 := Nat.not_le.mp fun q => hin (Or.inr q)
  rw [List.map_cons, List.map_cons, show tv (vr a) = .ref (a - 1) from rv_pos ha]
  exact W.lald (v := .long (h.2.1 a i.toNatClampNeg)) O.1 O.2.1 (h1.2.1 a 3 hs) ((O.2.2.2.2.2.1.1.2 3 _ rfl).1 _ _) (fun q => by cases q) (by rw [arrV_size]; exact hin) (by rw [arrV_read _ _ hlt]; rfl) rfl rfl hd (g H locs ls h1 h2 h3 h4)
theorem g_aaload (O : Ok E X y cc nL ret F L mc ms Qc) {a t : Nat} {C : String} {i : Int32} (ht : (tysE E.2.2.1)[t + 4]? = some (E.2.2.1 (t + 4), .object C)) (hd : decode cc pc = .ok (.aaload, 1)) (hs : (S a).1 = 20 + (t + 4)) (hin : vp_in i (S a).2) (g : G E X n k S Z h (pc + 1) lc (vr (gR h a i.toNatClampNeg) :: st)) : G E X n k S Z h pc lc (vi i :: vr a :: st) := by
  intro H locs ls h1 h2 h3 h4
  have ha : a ≠ 0 := h1.pos O.2.2.2.2.2.1 (by rw [hs]; omega)
  have hlt : i.toNatClampNeg < (S a).2 := Nat.not_le.mp fun q => hin (Or.inr q)
  have ev : aval (t + 4) (h.1 a) (h.2.1 a) (h.2.2 a) i.toNatClampNeg = rv (h.2.2 a i.toNatClampNeg) := by unfold aval; rw [if_neg (by omega), if_neg (by omega)]
  rw [List.map_cons, List.map_cons, show tv (vr a) = .ref (a - 1) from rv_pos ha]
  exact W.aald (v := rv (h.2.2 a i.toNatClampNeg)) (ty := .object C) O.1 O.2.1 (h1.2.1 a (t + 4) hs) ((O.2.2.2.2.2.1.1.2 (t + 4) _ ht).1 _ _) rfl (fun q => by cases q) (by rw [arrV_size]; exact hin) (by rw [arrV_read _ _ hlt, ev]) rfl rfl hd (g H locs ls h1 h2 h3 h4)
theorem g_alen (O : Ok E X y cc nL ret F L mc ms Qc) {a t : Nat} {ty : FieldType} (ht : (tysE E.2.2.1)[t]? = some (E.2.2.1 t, ty)) (hd : decode cc pc = .ok (.arraylength, 1)) (hs : (S a).1 = 20 + t) (g : G E X n k S Z h (pc + 1) lc (vi (nI (S a).2) :: st)) : G E X n k S Z h pc lc (vr a :: st) := by
  intro H locs ls h1 h2 h3 h4
  have ha : a ≠ 0 := h1.pos O.2.2.2.2.2.1 (by rw [hs]; omega)
  rw [List.map_cons, show tv (vr a) = .ref (a - 1) from rv_pos ha]
  exact W.alen (n := nI (S a).2) O.1 O.2.1 (h1.2.1 a t hs) ((O.2.2.2.2.2.1.1.2 t _ ht).1 _ _) (by rw [arrV_size]; rfl) rfl rfl hd (g H locs ls h1 h2 h3 h4)
theorem HR.updA {h' : Hp} {H H1 : Heap} {a t j : Nat} {v : Value} (hs : (S a).1 = 20 + t) (h1 : HR E S h H) (e : H1[a - 1]? = some ((arrV (E.2.2.1 t) (S a).2 (fun j => aval t (h.1 a) (h.2.1 a) (h.2.2 a) j)).setSlot j v)) (z : H1.size = H.size) (oq : ∀ q : Nat, q ≠ a - 1 → H1[q]? = H[q]?)
    (r1 : ∀ q, q ≠ a → h'.1 q = h.1 q) (r2 : ∀ q, q ≠ a → h'.2.1 q = h.2.1 q) (r3 : ∀ q, q ≠ a → h'.2.2 q = h.2.2 q) (hv : ∀ i, aval t (h'.1 a) (h'.2.1 a) (h'.2.2 a) i = if i = j then v else aval t (h.1 a) (h.2.1 a) (h.2.2 a) i) : HR E S h' H1 := by
  refine h1.upd (h1.2.2 a (by rw [hs]; omega)).1 z oq r1 r2 r3 (fun c q w1 w2 => ?_) (fun k' w1 => ?_)
  · have : c < 13 := (List.getElem?_eq_some_iff.mp w2).1
    omega
  · have ek : k' = t := by omega
    subst ek
    rw [e, arrV_store]
    congr 2
    funext i
    rw [hv i]
    rfl
theorem g_iastore (O : Ok E X y cc nL ret F L mc ms Qc) {a : Nat} {i x : Int32} (hd : decode cc pc = .ok (.iastore, 1)) (hs : (S a).1 = 20) (hin : vp_in i (S a).2) (g : G E X n k S Z (pI h a i.toNatClampNeg x) (pc + 1) lc st) : G E X n k S Z h pc lc (vi x :: vi i :: vr a :: st) := by
  intro H locs ls h1 h2 h3 h4
  have hsa : (S a).1 ≠ 0 := by rw [hs]; decide
  have ha : a ≠ 0 := h1.pos O.2.2.2.2.2.1 hsa
  rw [List.map_cons, List.map_cons, List.map_cons, show tv (vr a) = .ref (a - 1) from rv_pos ha]
  refine W.iast O.1 O.2.1 (h1.2.1 a 0 hs) ((O.2.2.2.2.2.1.1.2 0 _ rfl).1 _ _) (fun q => by cases q) (by rw [arrV_size]; exact hin) rfl rfl hd fun H1 e z oq => ?_
  refine g H1 _ ls (h1.updA (h' := pI h a i.toNatClampNeg x) (t := 0) hs e z oq (fun _ hb => u2_ne _ _ _ _ hb) (fun _ _ => rfl) (fun _ _ => rfl) (fun j => ?_)) (fun z9 hz => by rw [z]; exact h2 z9 hz) (h3.put z oq (h1.2.2 a hsa).2.1) h4
  by_cases hj : j = i.toNatClampNeg <;> simp [aval, pI, u2, hj]
theorem g_bastore (O : Ok E X y cc nL ret F L mc ms Qc) {a : Nat} {i x : Int32} (hd : decode cc pc = .ok (.bastore, 1)) (hs : (S a).1 = 21) (hin : vp_in i (S a).2) (g : G E X n k S Z (pI h a i.toNatClampNeg (i2b x)) (pc + 1) lc st) : G E X n k S Z h pc lc (vi x :: vi i :: vr a :: st) := by
  intro H locs ls h1 h2 h3 h4
  have hsa : (S a).1 ≠ 0 := by rw [hs]; decide
  have ha : a ≠ 0 := h1.pos O.2.2.2.2.2.1 hsa
  rw [List.map_cons, List.map_cons, List.map_cons, show tv (vr a) = .ref (a - 1) from rv_pos ha]
  refine W.bast O.1 O.2.1 (h1.2.1 a 1 hs) ((O.2.2.2.2.2.1.1.2 1 _ rfl).1 _ _) (fun q => by cases q) (by rw [arrV_size]; exact hin) rfl rfl hd fun H1 e z oq => ?_
  refine g H1 _ ls (h1.updA (h' := pI h a i.toNatClampNeg (i2b x)) (t := 1) hs e z oq (fun _ hb => u2_ne _ _ _ _ hb) (fun _ _ => rfl) (fun _ _ => rfl) (fun j => ?_)) (fun z9 hz => by rw [z]; exact h2 z9 hz) (h3.put z oq (h1.2.2 a hsa).2.1) h4
  by_cases hj : j = i.toNatClampNeg <;> simp [aval, pI, u2, hj, narrow, i2b]
theorem g_zastore (O : Ok E X y cc nL ret F L mc ms Qc) {a : Nat} {i x : Int32} (hd : decode cc pc = .ok (.bastore, 1)) (hs : (S a).1 = 22) (hin : vp_in i (S a).2) (g : G E X n k S Z (pI h a i.toNatClampNeg (x &&& 1)) (pc + 1) lc st) : G E X n k S Z h pc lc (vi x :: vi i :: vr a :: st) := by
  intro H locs ls h1 h2 h3 h4
  have hsa : (S a).1 ≠ 0 := by rw [hs]; decide
  have ha : a ≠ 0 := h1.pos O.2.2.2.2.2.1 hsa
  rw [List.map_cons, List.map_cons, List.map_cons, show tv (vr a) = .ref (a - 1) from rv_pos ha]
  refine W.zast O.1 O.2.1 (h1.2.1 a 2 hs) ((O.2.2.2.2.2.1.1.2 2 _ rfl).1 _ _) (fun q => by cases q) (by rw [arrV_size]; exact hin) rfl rfl hd fun H1 e z oq => ?_
  refine g H1 _ ls (h1.updA (h' := pI h a i.toNatClampNeg (x &&& 1)) (t := 2) hs e z oq (fun _ hb => u2_ne _ _ _ _ hb) (fun _ _ => rfl) (fun _ _ => rfl) (fun j => ?_)) (fun z9 hz => by rw [z]; exact h2 z9 hz) (h3.put z oq (h1.2.2 a hsa).2.1) h4
  by_cases hj : j = i.toNatClampNeg <;> simp [aval, pI, u2, hj, narrow]
theorem g_lastore (O : Ok E X y cc nL ret F L mc ms Qc) {a : Nat} {i : Int32} {x : Int64} (hd : decode cc pc = .ok (.lastore, 1)) (hs : (S a).1 = 23) (hin : vp_in i (S a).2) (g : G E X n k S Z (pJ h a i.toNatClampNeg x) (pc + 1) lc st) : G E X n k S Z h pc lc (vj x :: vi i :: vr a :: st) := by
  intro H locs ls h1 h2 h3 h4
  have hsa : (S a).1 ≠ 0 := by rw [hs]; decide
  have ha : a ≠ 0 := h1.pos O.2.2.2.2.2.1 hsa
  rw [List.map_cons, List.map_cons, List.map_cons, show tv (vr a) = .ref (a - 1) from rv_pos ha]
  refine W.last O.1 O.2.1 (h1.2.1 a 3 hs) ((O.2.2.2.2.2.1.1.2 3 _ rfl).1 _ _) (fun q => by cases q) (by rw [arrV_size]; exact hin) rfl rfl hd fun H1 e z oq => ?_
  refine g H1 _ ls (h1.updA (h' := pJ h a i.toNatClampNeg x) (t := 3) hs e z oq (fun _ _ => rfl) (fun _ hb => u2_ne _ _ _ _ hb) (fun _ _ => rfl) (fun j => ?_)) (fun z9 hz => by rw [z]; exact h2 z9 hz) (h3.put z oq (h1.2.2 a hsa).2.1) h4
  by_cases hj : j = i.toNatClampNeg <;> simp [aval, pJ, u2, hj]
theorem g_aastore (O : Ok E X y cc nL ret F L mc ms Qc) {a t x c : Nat} {q : vw_C} {i : Int32} (hq : CI c q) (ht : (tysE E.2.2.1)[t + 4]? = some (E.2.2.1 (t + 4), .object q.1)) (hd : decode cc pc = .ok (.aastore, 1)) (hs : (S a).1 = 20 + (t + 4)) (hx : (S x).1 = c + 1) (hin : vp_in i (S a).2) (g : G E X n k S Z (pR h a i.toNatClampNeg x) (pc + 1) lc st) : G E X n k S Z h pc lc (vr x :: vi i :: vr a :: st) := by
  intro H locs ls h1 h2 h3 h4
  have hsa : (S a).1 ≠ 0 := by rw [hs]; omega
  have ha : a ≠ 0 := h1.pos O.2.2.2.2.2.1 hsa
  have hx0 : x ≠ 0 := h1.pos O.2.2.2.2.2.1 (by rw [hx]; omega)
  have hlt : i.toNatClampNeg < (S a).2 := Nat.not_le.mp fun q => hin (Or.inr q)
  have h0 : ¬ i < 0 := fun q => hin (Or.inl q)
  rw [List.map_cons, List.map_cons, List.map_cons, show tv (vr a) = .ref (a - 1) from rv_pos ha, show tv (vr x) = .ref (x - 1) from rv_pos hx0]
  obtain ⟨cellV, g1, g2, g3, -⟩ := h1.1 x c q hx hq.1
  have hcls := (O.2.2.2.2.2.1.1.1 c q hq.1).2
  obtain ⟨kA, comp, k1, k2, k3, -⟩ := (O.2.2.2.2.2.1.1.2 (t + 4) _ ht).2
  have hcomp : comp = E.2.1.1 c := Option.some.inj (k3.symm.trans hcls.1)
  subst hcomp
  obtain ⟨kC, hkC, -⟩ := hcls.2
  refine W.aast O.1 O.2.1 (h1.2.1 a (t + 4) hs) (fun q z => by cases z) (fun z => by cases z) k1 k2 rfl hkC ⟨h0, by rw [arrV_size]; exact hlt⟩ g1 (fun q z => by rw [g3] at z; cases z) (by rw [g2]; exact hkC) (by rw [g2]; exact va_assign hcls) rfl rfl hd fun H1 e z oq => ?_
  refine g H1 _ ls (h1.updA (h' := pR h a i.toNatClampNeg x) (t := t + 4) hs e z oq (fun _ _ => rfl) (fun _ _ => rfl) (fun _ hb => u2_ne _ _ _ _ hb) (fun j => ?_)) (fun z9 hz => by rw [z]; exact h2 z9 hz) (h3.put z oq (h1.2.2 a hsa).2.1) h4
  have e1 : ¬ t + 4 < 3 := by omega
  have e2 : ¬ t + 4 = 3 := by omega
  by_cases hj : j = i.toNatClampNeg
  · simp [aval, pR, u2, hj, e1, e2, rv_pos hx0]
  · simp [aval, pR, u2, hj, e1, e2]

end GH
