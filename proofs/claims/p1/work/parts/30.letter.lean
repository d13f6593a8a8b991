/-! FinerSteps.letter, which may throw, and the law's own letter, which catches it -/
def LawX (E : Ev) (X : Cx) (bs : Nat) (xs : Nat → Int32) (Ls : Nat) : Prop := va_X bs Ls xs X.2.2.2.1 X.2.2.2.1.heap ∧ bs < X.2.2.2.1.heap.size ∧ ¬ eA E bs
section GX
variable {E : Ev} {X : Cx} {y : MethodName} {cc : ByteArray} {nL : Nat} {ret : Option FieldType} {F L mc ms : Nat} {Qc : Pq} {n k : Nat} {S : Sh} {Z : Option Nat} {h : Hp} {pc : Nat} {lc : List (Option Tv)} {st : List Tv} {bs Ls : Nat} {xs : Nat → Int32}
theorem g_sld (hX : LawX E X bs xs Ls) (O : Ok E X y cc nL ret F L mc ms Qc) {i : Int32} (hd : decode cc pc = .ok (.iaload, 1)) (hin : vp_in i Ls) (g : G E X n k S Z h (pc + 1) lc (vi (xs (ix i)) :: st)) : G E X n k S Z h pc lc (vi i :: vr (bs + 1) :: st) := by
  intro H locs ls h1 h2 h3 h4
  rw [List.map_cons, List.map_cons, vr1]
  exact va_sld O.1 O.2.1 hX.1 hX.2.1 hX.2.2 h3 hin hd (g H locs ls h1 h2 h3 h4)
theorem g_sln (hX : LawX E X bs xs Ls) (O : Ok E X y cc nL ret F L mc ms Qc) (hd : decode cc pc = .ok (.arraylength, 1)) (g : G E X n k S Z h (pc + 1) lc (vi (nI Ls) :: st)) : G E X n k S Z h pc lc (vr (bs + 1) :: st) := by
  intro H locs ls h1 h2 h3 h4
  rw [List.map_cons, vr1]
  exact va_slen O.1 O.2.1 hX.1 hX.2.1 hX.2.2 h3 hd (g H locs ls h1 h2 h3 h4)
theorem HR.grow {H H1 : Heap} (h1 : HR E S h H) (hz : H.size ≤ H1.size) (o : ∀ q, q < H.size → H1[q]? = H[q]?) : HR E S h H1 := by
  refine ⟨fun a c q w1 w2 => ?_, fun a k w1 => ?_, fun a w1 => ?_⟩
  · have hl := h1.2.2 a (by rw [w1]; omega)
    exact (h1.1 a c q w1 w2).kept (o (a - 1) hl.2.2)
  · have hl := h1.2.2 a (by rw [w1]; omega)
    rw [o (a - 1) hl.2.2]
    exact h1.2.1 a k w1
  · have hl := h1.2.2 a w1
    exact ⟨hl.1, hl.2.1, by omega⟩
end GX
def thL : List Cond := vx_at0 "FinerSteps" 295 "java/util/NoSuchElementException" ["java/lang/RuntimeException", "java/lang/Exception"]
theorem thL_g : ∀ w ∈ thL.filter goodWord, w ∈ lw_tbl := by decide +kernel
theorem thL_n : ∀ w ∈ thL.filter (fun w => !goodWord w), w ∈ XW := by decide +kernel
theorem thL_o : ∀ w ∈ Cond.classLink "FinerSteps" 293 "java/util/NoSuchElementException" :: Cond.initialized "java/util/NoSuchElementException" :: thL, vx_ot w = true := by decide +kernel
theorem XW_on : ∀ w ∈ XW, w.onTables = true := by decide +kernel
def XCl (E : Ev) (S : Sh) (Tq : Hp → Prop) : String → State → State → Prop := fun C st t => C = "java/util/NoSuchElementException" ∧ (∃ h' : Hp, Tq h' ∧ HR E S h' t.heap) ∧ va_F (eA E) st t
set_option maxRecDepth 20000 in
theorem vxX11_letter {E : Ev} {S : Sh} {Tq : Hp → Prop} {h : Hp} {a0 : Nat} {x1 x2 x3 : Int32} {Q : Int32 → Hp → Prop} (hw : wX11_letter S Tq h a0 x1 x2 x3 Q) : vx_Met E.1 yX11_letter (Cond.code yX11_letter cX11_letter 7 (some .int) :: BIG) { frames := 10, cells := 1, slots := 6, locals := 140 } (va_Pc ([vr a0, vi x1, vi x2, vi x3].map tv) (fun U => HR E S h U.heap ∧ (∀ z, (none : Option Nat) = some z → U.heap.size + 1 = z) ∧ EnvOK E U)) (QC E (qI S none Q)) (XCl E S Tq) 1 6 (eA E) := by
  refine vx_ofW (cc := cX11_letter) (maxL := 7) (ret := some .int) (by decide) rfl ?_
  intro p e s m args below meth c s₁ B hml hnt hv
  obtain ⟨rfl, hH, hZ, hE⟩ := hv
  have hts0 := atoms_spec (ws := Cond.code yX11_letter cX11_letter 7 (some .int) :: BIG) B.pre
  have hts : ∀ w ∈ BIG, w.before ([vr a0, vi x1, vi x2, vi x3].map tv).toArray s = true := fun w hw => hts0 w (List.mem_cons_of_mem _ hw)
  have hown : s.vm.findClass yX11_letter.cls = some m.cls := findClass_of_methodNamed B.named
  have O : Ok E (p, e, { frames := 10, cells := 1, slots := 6, locals := 140 }, s, m, ([vr a0, vi x1, vi x2, vi x3].map tv).toArray, below, meth, c, vx_MQ below (QC E (qI S none Q)) (XCl E S Tq) ([vr a0, vi x1, vi x2, vi x3].map tv).toArray s 1 6 (eA E)) yX11_letter cX11_letter 7 (some .int) 10 140 1 6 (qI S none Q) :=
    ⟨B.exec, B.bytes, hml, hown, hts, hE, B.notSynchronized, B.returns, fun q => (name_of_methodNamed B.named B.method).1.trans q, rfl, fun t ⟨o, b1, b2, b3, b4⟩ => ⟨o, b1, b2, Or.inl ⟨b3, b4⟩⟩⟩
  have hat : ∀ w ∈ thL, w.before ([vr a0, vi x1, vi x2, vi x3].map tv).toArray s = true := vx_hat (B := XW) (fun w hw => hts w (List.mem_filter.mpr ⟨thL_g w hw, (List.mem_filter.mp hw).2⟩)) thL_n (fun w hw => va_Nw.use (XW_on w hw) (hE.2.2.2.2.2.2.2.2.2.2.1 w hw))
  have b := okX11_letter_g (Z := none) (Tq := Tq) O (fun h9 pc lc hpc hlen hT => by
    intro H locs ls h1 h2 h3 h4
    have key : ∀ pc9 : Nat, decode cX11_letter pc9 = .ok (.new 293, 3) → decode cX11_letter (pc9 + 3) = .ok (.dup, 1) → decode cX11_letter (pc9 + 4) = .ok (.invokespecial 295, 3) → decode cX11_letter (pc9 + 7) = .ok (.athrow, 1) → W p E.1 e { frames := 10, cells := 1, slots := 6, locals := 140 } s m ([vr a0, vi x1, vi x2, vi x3].map tv).toArray below meth c H locs 0 0 (vx_MQ below (QC E (qI S none Q)) (XCl E S Tq) ([vr a0, vi x1, vi x2, vi x3].map tv).toArray s 1 6 (eA E)) (F0 m pc9 ls []) := fun pc9 d0 d3 d4 d7 =>
      vx_throw0 (A := eA E) (own := "FinerSteps") (cls := "java/util/NoSuchElementException") (names := ["java/lang/RuntimeException", "java/lang/Exception"]) (ik := 293) (ic := 295) B.exec B.bytes hE.2.2.2.1 hown (by decide) (by decide) (hts _ cl_X11_293) (hts _ ini__java_util_NoSuchElementException) hat thL_o hE.2.2.2.2.2.2.2.2.1 hE.2.2.2.2.2.2.2.2.2.1 h3 (by rw [h4.1, hlen, hml]) d0 d3 d4 d7 (fun x hx => (hnt x hx).elim) (by decide) (by decide) (by decide) (by decide) B.notSynchronized
        (fun t hal hz ho => ⟨rfl, ⟨h9, hT, h1.grow hz ho⟩, ⟨Nat.le_trans h3.1 hz, fun q w1 w2 => (ho q (Nat.lt_of_lt_of_le w1 h3.1)).trans (h3.2.1 q w1 w2)⟩⟩) (fun z hz => h3.2.2 z hz) (by decide) (by decide)
    rcases hpc with rfl | rfl
    · exact key 22 dX11_letter_22 dX11_letter_25 dX11_letter_26 dX11_letter_29
    · exact key 76 dX11_letter_76 dX11_letter_79 dX11_letter_80 dX11_letter_83) hw
  rw [lg_entry_eq]
  exact b s.heap [] _ hH (fun _ hz => nomatch hz) va_S.rf (LR.entry [vr a0, vi x1, vi x2, vi x3] (nL := 7) (Nat.le_of_ble_eq_true rfl) rfl)
theorem cw_yL_letter : Cond.codeWith yL_letter cL_letter 6 (some FieldType.int) [(0, 12, 15, 13)] ∈ BIG := big_5 _ (List.mem_of_getElem? (i := 219) (by decide +kernel)) (by decide +kernel)
theorem xw_cast : Cond.castable "java/util/NoSuchElementException" "java/util/NoSuchElementException" ∈ XW := List.mem_of_getElem? (i := 12) (by decide +kernel)
abbrev hhL : List (Nat × Nat × Nat × Nat) := [(0, 12, 15, 13)]
def CtL (E : Ev) (S : Sh) (h : Hp) (as : List Tv) (Q : Int32 → Hp → Prop) : Prop :=
  Met E.1 yL_letter (Cond.codeWith yL_letter cL_letter 6 (some .int) hhL :: BIG) { frames := 11, cells := 1, slots := 6, locals := 180 } (va_Pc (as.map tv) (fun U => HR E S h U.heap ∧ (∀ z, (none : Option Nat) = some z → U.heap.size + 1 = z) ∧ EnvOK E U)) (QC E (qI S none Q)) 1 6 (eA E)
theorem dL_letter_0 : decode cL_letter 0 = .ok (.aload 4, 2) := by decide +kernel
theorem dL_letter_2 : decode cL_letter 2 = .ok (.iconst 0, 1) := by decide +kernel
theorem dL_letter_3 : decode cL_letter 3 = .ok (.aload_n 0, 1) := by decide +kernel
theorem dL_letter_4 : decode cL_letter 4 = .ok (.iload_n 1, 1) := by decide +kernel
theorem dL_letter_5 : decode cL_letter 5 = .ok (.iload_n 2, 1) := by decide +kernel
theorem dL_letter_6 : decode cL_letter 6 = .ok (.iload_n 3, 1) := by decide +kernel
theorem dL_letter_7 : decode cL_letter 7 = .ok (.invokevirtual 7, 3) := by decide +kernel
theorem dL_letter_10 : decode cL_letter 10 = .ok (.i2l, 1) := by decide +kernel
theorem dL_letter_11 : decode cL_letter 11 = .ok (.lastore, 1) := by decide +kernel
theorem dL_letter_12 : decode cL_letter 12 = .ok (.goto 7, 3) := by decide +kernel
theorem dL_letter_15 : decode cL_letter 15 = .ok (.astore 5, 2) := by decide +kernel
theorem dL_letter_17 : decode cL_letter 17 = .ok (.iconst 1, 1) := by decide +kernel
theorem dL_letter_18 : decode cL_letter 18 = .ok (.ireturn, 1) := by decide +kernel
theorem dL_letter_19 : decode cL_letter 19 = .ok (.iconst 0, 1) := by decide +kernel
theorem dL_letter_20 : decode cL_letter 20 = .ok (.ireturn, 1) := by decide +kernel
set_option maxRecDepth 20000 in
theorem okL_letter {E : Ev} {S : Sh} {h : Hp} {a0 : Nat} {x1 x2 x3 : Int32} {a4 : Nat} {Q : Int32 → Hp → Prop} (hw : wL_letter S h a0 x1 x2 x3 a4 Q) : CtL E S h [vr a0, vi x1, vi x2, vi x3, vr a4] Q := by
  obtain ⟨c4, c0, hw⟩ := hw
  unfold CtL Met
  refine MetFree.of_bodyS (code := cL_letter) (maxLocals := 6) (ret := some .int) (by decide) ?_ ?_
  · intro args s m h hn
    obtain ⟨m9, meth, c, hn9, h1, h2, h3, h4, -, h5, h6, -⟩ := Cond.codeWith_spec (atoms_spec (ws := Cond.codeWith yL_letter cL_letter 6 (some .int) hhL :: BIG) h _ List.mem_cons_self)
    cases hn.symm.trans hn9
    exact ⟨meth, c, h1, h2, h3, h4, h5, h6⟩
  intro p e s m args below meth c s₁ B hml hv _
  have hh0 : s₁.heap = s.heap := by rw [B.state]; rfl
  obtain ⟨rfl, hH, hZ, hE⟩ := hv
  have hts0 := atoms_spec (ws := Cond.codeWith yL_letter cL_letter 6 (some .int) hhL :: BIG) B.pre
  have hts : ∀ w ∈ BIG, w.before ([vr a0, vi x1, vi x2, vi x3, vr a4].map tv).toArray s = true := fun w hw => hts0 w (List.mem_cons_of_mem _ hw)
  have hown : s.vm.findClass yL_letter.cls = some m.cls := findClass_of_methodNamed B.named
  have htab : c.exceptionTable.toList = tableOf hhL := vx_table (x := yL_letter) B (hts0 _ List.mem_cons_self)
  obtain ⟨X, hX⟩ : ∃ X : Cx, X = (p, e, { frames := 11, cells := 1, slots := 6, locals := 180 }, s, m, ([vr a0, vi x1, vi x2, vi x3, vr a4].map tv).toArray, below, meth, c, MQ below (QC E (qI S none Q)) ([vr a0, vi x1, vi x2, vi x3, vr a4].map tv).toArray s 1 6 (eA E)) := ⟨_, rfl⟩
  have O : Ok E X yL_letter cL_letter 6 (some .int) 11 180 1 6 (qI S none Q) := by
    rw [hX]
    exact ⟨B.exec, B.bytes, hml, hown, hts, hE, B.notSynchronized, B.returns, fun q => (name_of_methodNamed B.named B.method).1.trans q, rfl, fun _ q => q⟩
  have g : G E X 0 0 S none h 0 [some (vr a0), some (vi x1), some (vi x2), some (vi x3), some (vr a4), none] [] := by
    refine g_aload O dL_letter_0 rfl ?_
    refine g_iconst O dL_letter_2 kv_0 ?_
    refine g_aload_n O dL_letter_3 rfl ?_
    refine g_iload_n O dL_letter_4 rfl ?_
    refine g_iload_n O dL_letter_5 rfl ?_
    refine g_iload_n O dL_letter_6 rfl ?_
    intro H locs ls h1 h2 h3 h4
    have ha0 : a0 ≠ 0 := h1.pos hE (by rw [c0]; decide)
    have e0 : tv (vr a0) = .ref (a0 - 1) := rv_pos ha0
    obtain ⟨cellB, g1, g2, g3, -⟩ := h1.1 a0 11 _ c0 ci_11.1
    have hfc := (hE.1.1 11 _ ci_11.1).2.1
    have hl5 : ls.size = 6 := h4.1
    rw [hX] at h3 ⊢
    intro T hT XX
    rcases vx_runV (As := [vi x1, vi x2, vi x3].map tv) (rest := [vi 0, vr a4].map tv) (b := a0 - 1) (C := yX11_letter.cls) (g := F0 m 7 ls ([vi x3, vi x2, vi x1, vr a0, vi 0, vr a4].map tv)) ⟨B.exec, B.bytes, hml, hown, hts⟩ (vxX11_letter hw)
      ⟨callB_of 3 hts (big_in co_yX11_letter) rfl rfl rfl (hts _ ini_X11) (hts _ ml_L_7) yo_yX11_letter ⟨Nat.le_of_ble_eq_true rfl, Nat.le_of_ble_eq_true rfl⟩, hts _ im_yX11_letter, hts _ se_yX11_letter⟩
      ⟨ct_blind (as := [vr a0, vi x1, vi x2, vi x3]), ⟨cellB, g1, by rw [g3]; rfl, by rw [g2]; exact hfc⟩, fun U hU hW => ⟨by show _ = (tv (vr a0) :: _).toArray; rw [e0], by rw [hU]; exact h1, (fun z hz => nomatch hz), hE.call h3 hU hW⟩⟩ rfl rfl hl5 (by show _ :: _ :: _ :: tv (vr a0) :: _ = _; rw [e0]; rfl) (lv_room (by rw [tc_sum]; exact Nat.le_of_ble_eq_true rfl)) dL_letter_7 ⟨Nat.le_of_ble_eq_true rfl, Nat.le_of_ble_eq_true rfl⟩ T hT XX with
      ⟨v, st₀, t, T', L', q0, X', hL, q1, q2, ⟨⟨r, S', Z', h', hv, ⟨eS, -, r9, rfl, hq⟩, hH', hZ'⟩, hz, hk⟩, sg⟩ | ⟨q, st₀, t, T', L', E9, ce, q0, X', hL, q1, q2, ⟨rfl, ⟨h', hq, hH'⟩, hz, hk⟩, hce, hcv, hcl, sg⟩
    · have hv : v = some (tv (vi r9)) := Outcome.returned.inj hv
      subst hv
      rw [eS] at hH'
      rw [q0] at hz hk
      have h3' : va_S (eA E) s.heap T'.heap (locs ++ L') := ⟨Nat.le_trans h3.1 (by rw [q1]; exact hz), fun q w1 w2 => by rw [q1, hk q (Nat.lt_of_lt_of_le w1 h3.1) w2]; exact h3.2.1 q w1 w2, fun q hq => (List.mem_append.mp hq).elim (h3.2.2 q) (hL q)⟩
      have g10 : G E X (0 + 1) (0 + 6) S none h' 10 [some (vr a0), some (vi x1), some (vi x2), some (vi x3), some (vr a4), none] [vi r9, vi 0, vr a4] := by
        refine g_i2l O dL_letter_10 ?_
        refine g_lastore O dL_letter_11 c4.1 c4.2 ?_
        refine g_goto (tgt := 19) O dL_letter_12 rfl ?_
        refine g_iconst O dL_letter_19 kv_0 ?_
        exact g_ireturn O dL_letter_20 ⟨rfl, rfl, _, rfl, hq⟩
      rw [hX] at g10
      obtain ⟨t2, a1, b1⟩ := g10 T'.heap (locs ++ L') ls (by rw [q1]; exact hH') (fun z hz => nomatch hz) h3' h4 T' rfl X'
      exact ⟨t2, sg t2 a1, b1⟩
    · rw [q0] at hz hk
      have h3' : va_S (eA E) s.heap T'.heap (locs ++ L') := ⟨Nat.le_trans h3.1 (by rw [q1]; exact hz), fun q w1 w2 => by rw [q1, hk q (Nat.lt_of_lt_of_le w1 h3.1) w2]; exact h3.2.1 q w1 w2, fun q hq => (List.mem_append.mp hq).elim (h3.2.2 q) (hL q)⟩
      have g15 : G E X (0 + 1) (0 + 6) S none h' 15 [some (vr a0), some (vi x1), some (vi x2), some (vi x3), some (vr a4), none] [vr (q + 1)] := by
        refine g_astore (lc' := [some (vr a0), some (vi x1), some (vi x2), some (vi x3), some (vr a4), some (vr (q + 1))]) O dL_letter_15 rfl (Nat.le_of_ble_eq_true rfl) rfl ?_
        refine g_iconst O dL_letter_17 kv_1 ?_
        exact g_ireturn O dL_letter_18 ⟨rfl, rfl, _, rfl, hq⟩
      rw [hX] at g15
      have w15 := g15 T'.heap (locs ++ L') ls (by rw [q1]; exact hH') (fun z hz => nomatch hz) h3' h4
      rw [show List.map tv [vr (q + 1)] = [.ref q] from by show [tv (vr (q + 1))] = _; rw [vr1]] at w15
      have wx := vx_catch (pc := 7) (rest := [vi 0, vr a4].map tv) (own := yL_letter.cls) (name := "java/util/NoSuchElementException") (E := "java/util/NoSuchElementException") (q := q) (ce := ce) hown [] { startPc := 0, endPc := 12, handlerPc := 15, catchType := 13 } [] (by rw [htab]; rfl) (fun z hz => nomatch hz) (by decide) (by decide) (hts _ cl_L_13) (va_Nw.use rfl (hE.2.2.2.2.2.2.2.2.2.2.1 _ xw_cast)) (by rw [q1]; exact hce) hcv hcl w15
      obtain ⟨t2, a1, b1⟩ := wx T' rfl X'
      exact ⟨t2, sg.trans a1, b1⟩
  have b := g s.heap [] _ hH (fun _ hz => nomatch hz) (by rw [hX]; exact va_S.rf) (LR.entry [vr a0, vi x1, vi x2, vi x3, vr a4] (nL := 6) (Nat.le_of_ble_eq_true rfl) rfl)
  rw [hX] at b
  obtain ⟨t, a1, o, b1, b2, b3⟩ := (show W p E.1 e { frames := 11, cells := 1, slots := 6, locals := 180 } s m ([vr a0, vi x1, vi x2, vi x3, vr a4].map tv).toArray below meth c s.heap [] 0 0 (MQ below (QC E (qI S none Q)) ([vr a0, vi x1, vi x2, vi x3, vr a4].map tv).toArray s 1 6 (eA E)) (entryFrame m ([vr a0, vi x1, vi x2, vi x3, vr a4].map tv).toArray 6) from by rw [lg_entry_eq]; exact b) s₁ hh0 (Stand.of_body B)
  exact ⟨t, o, a1, b1, b2, b3⟩
section GL
variable {E : Ev} {X : Cx} {y : MethodName} {cc : ByteArray} {nL : Nat} {ret : Option FieldType} {F L mc ms : Nat} {Qc : Pq} {n k : Nat} {S : Sh} {h : Hp} {pc : Nat} {lc : List (Option Tv)} {st : List Tv}
theorem g_callLetter (O : Ok E X yL_law cc nL ret 2048 84000 mc ms Qc) {a0 a4 : Nat} {x1 x2 x3 : Int32} {rest : List Tv} {Q : Int32 → Hp → Prop} (hd : decode cc pc = .ok (.invokestatic 145, 3)) (hlen : lc.length = nL) (hst : st = vr a4 :: vi x3 :: vi x2 :: vi x1 :: vr a0 :: rest) (hsum : (rest.map tc).sum ≤ 8) (hn : n + 1 ≤ mc) (hk : k + 6 ≤ ms) (hw : wL_letter S h a0 x1 x2 x3 a4 Q)
    (g : ∀ (r : Int32) (h' : Hp), Q r h' → G E X (n + 1) (k + 6) S none h' (pc + 3) lc (vi r :: rest)) : G E X n k S none h pc lc st := by
  intro H locs ls h1 h2 h3 h4
  obtain ⟨hx, hb, hml0, hown, hts, hE, hlk, hrt, hnm, hR0, hQ0⟩ := id O
  refine g_after (a := ([vr a0, vi x1, vi x2, vi x3, vr a4].map tv).toArray) (Q' := qI S none Q) h3 h4 (vx_runSW (hh := hhL) (bytes := cL_letter) (maxL := 6) (ret := some .int) (As := [vr a0, vi x1, vi x2, vi x3, vr a4].map tv) (rest := rest.map tv) (y := yL_letter) ⟨hx, hb, hml0, hown, hts⟩ (okL_letter hw)
    (vx_cwSW 5 hts (fun w hw => ?_) rfl rfl rfl yo_yL_letter (by rw [hR0]; exact ⟨Nat.le_of_ble_eq_true rfl, Nat.le_of_ble_eq_true rfl⟩))
    ⟨ct_blind, fun U hU hW => ⟨rfl, by rw [hU]; exact h1, (fun z hz => nomatch hz), hE.call h3 hU hW⟩⟩ rfl rfl (h4.1.trans hlen) (by rw [hst]; rfl) (lv_room (by rw [tc_sum]; exact hsum)) hd (by rw [hR0]; exact ⟨hn, hk⟩)) ?_
  · unfold va_wsS at hw
    have good : ∀ c : Cond, c ∈ BIG → c ∈ BIG ∧ ((c.onTables && c.keeps) = true ∨ ∃ ty, c = .arrayClass ty) := fun c hc => ⟨hc, good_of_word (big_good _ hc)⟩
    rcases List.mem_append.mp hw with hw | hw
    · rcases List.mem_cons.mp hw with rfl | hw
      · exact good _ ml_L_145
      · rcases List.mem_cons.mp hw with rfl | hw
        · exact good _ st_yL_letter
        · rcases List.mem_cons.mp hw with rfl | hw
          · exact good _ ini_L
          · cases hw
    · rcases List.mem_cons.mp hw with rfl | hw
      · exact good _ cw_yL_letter
      · exact good _ hw
  · rintro r S' Z' h' ⟨rfl, rfl, x, rfl, hq⟩
    exact g x h' hq
end GL
