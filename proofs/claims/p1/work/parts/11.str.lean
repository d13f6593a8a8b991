/-! String constants: length() and charAt() -/
section GSR
variable {E : Ev} {X : Cx} {y : MethodName} {cc : ByteArray} {nL : Nat} {ret : Option FieldType} {F L mc ms : Nat} {Qc : Pq} {n k : Nat} {S : Sh} {Z : Option Nat} {h : Hp} {pc : Nat} {lc : List (Option Tv)} {st : List Tv}
theorem vr1 (a : Nat) : tv (vr (a + 1)) = .ref a := rv_pos (Nat.succ_ne_zero _)
theorem g_sval (O : Ok E X y cc nL ret F L mc ms Qc) {idx i : Nat} (hi : i < 18) (hd : decode cc pc = .ok (.getfield idx, 3)) (hl : Cond.fieldLink y.cls idx "java/lang/String" "value" "[B" ∈ BIG) (g : G E X n k S Z h (pc + 3) lc (vr (E.2.2.2.2.2 i + 1) :: st)) : G E X n k S Z h pc lc (vr (E.2.2.2.2.1 i + 1) :: st) := by
  intro H locs ls h1 h2 h3 h4
  have g1 := g H locs ls h1 h2 h3 h4
  rw [List.map_cons, vr1] at g1 ⊢
  exact vk_getf O.1 O.2.1 (O.2.2.2.2.2.1.2.2.2.2.1.1 i hi).2.2.1 h3 O.2.2.2.1 (O.2.2.2.2.1 _ hl) (fun _ q => q) hd g1
theorem g_scod (O : Ok E X y cc nL ret F L mc ms Qc) {idx i : Nat} (hi : i < 18) (hd : decode cc pc = .ok (.getfield idx, 3)) (hl : Cond.fieldLink y.cls idx "java/lang/String" "coder" "B" ∈ BIG) (g : G E X n k S Z h (pc + 3) lc (vi 0 :: st)) : G E X n k S Z h pc lc (vr (E.2.2.2.2.1 i + 1) :: st) := by
  intro H locs ls h1 h2 h3 h4
  have g1 := g H locs ls h1 h2 h3 h4
  rw [List.map_cons, vr1]
  exact vk_getf O.1 O.2.1 (O.2.2.2.2.2.1.2.2.2.2.1.1 i hi).2.1 h3 O.2.2.2.1 (O.2.2.2.2.1 _ hl) (fun _ q => q) hd g1
theorem g_slen (O : Ok E X y cc nL ret F L mc ms Qc) {i : Nat} (hi : i < 18) (hd : decode cc pc = .ok (.arraylength, 1)) (g : G E X n k S Z h (pc + 1) lc (vi (nI (lenS.getD i 0)) :: st)) : G E X n k S Z h pc lc (vr (E.2.2.2.2.2 i + 1) :: st) := by
  intro H locs ls h1 h2 h3 h4
  have g1 := g H locs ls h1 h2 h3 h4
  rw [List.map_cons, vr1]
  exact va_tlen O.1 O.2.1 (O.2.2.2.2.2.1.2.2.2.2.1.1 i hi).2.2.2 h3 rfl hd g1
theorem g_sbald (O : Ok E X y cc nL ret F L mc ms Qc) {i : Nat} {x : Int32} (hi : i < 18) (hd : decode cc pc = .ok (.baload, 1)) (hin : vp_in x (lenS.getD i 0)) (g : G E X n k S Z h (pc + 1) lc (vi ((bytS.getD i []).getD (ix x) 0) :: st)) : G E X n k S Z h pc lc (vi x :: vr (E.2.2.2.2.2 i + 1) :: st) := by
  intro H locs ls h1 h2 h3 h4
  have g1 := g H locs ls h1 h2 h3 h4
  rw [List.map_cons, List.map_cons, vr1]
  exact va_tb O.1 O.2.1 (O.2.2.2.2.2.1.2.2.2.2.1.1 i hi).2.2.2 h3 hin rfl hd g1
theorem g_scmp (O : Ok E X y cc nL ret F L mc ms Qc) {idx : Nat} (hd : decode cc pc = .ok (.getstatic idx, 3)) (hl : Cond.fieldLink y.cls idx "java/lang/String" "COMPACT_STRINGS" "Z" ∈ BIG) (g : G E X n k S Z h (pc + 3) lc (vi 1 :: st)) : G E X n k S Z h pc lc st := by
  intro H locs ls h1 h2 h3 h4
  exact va_gets O.1 O.2.1 O.2.2.2.2.2.1.2.2.2.2.2.2.1 h3 O.2.2.2.1 (O.2.2.2.2.1 _ hl) (fun _ q => q) hd (g H locs ls h1 h2 h3 h4)
theorem g_sfmt (O : Ok E X y cc nL ret F L mc ms Qc) {idx : Nat} (hd : decode cc pc = .ok (.getstatic idx, 3)) (hl : Cond.fieldLink y.cls idx "jdk/internal/util/Preconditions" "SIOOBE_FORMATTER" "Ljava/util/function/BiFunction;" ∈ BIG) (g : ∀ b : Nat, G E X n k S Z h (pc + 3) lc (vr b :: st)) : G E X n k S Z h pc lc st := by
  intro H locs ls h1 h2 h3 h4
  rcases O.2.2.2.2.2.1.2.2.2.2.2.2.2.1 with hz | ⟨t, hz⟩
  · exact va_gets O.1 O.2.1 hz h3 O.2.2.2.1 (O.2.2.2.2.1 _ hl) (fun _ q => q) hd (g 0 H locs ls h1 h2 h3 h4)
  · have g1 := g (t + 1) H locs ls h1 h2 h3 h4
    rw [List.map_cons, vr1] at g1
    exact va_gets O.1 O.2.1 hz h3 O.2.2.2.1 (O.2.2.2.2.1 _ hl) (fun _ q => q) hd g1
end GSR
theorem dJ0_length_8abf5_0 : decode cJ0_length_8abf5 0 = .ok (.aload_n 0, 1) := by decide +kernel
theorem dJ0_length_8abf5_1 : decode cJ0_length_8abf5 1 = .ok (.getfield 9, 3) := by decide +kernel
theorem dJ0_length_8abf5_4 : decode cJ0_length_8abf5 4 = .ok (.arraylength, 1) := by decide +kernel
theorem dJ0_length_8abf5_5 : decode cJ0_length_8abf5 5 = .ok (.aload_n 0, 1) := by decide +kernel
theorem dJ0_length_8abf5_6 : decode cJ0_length_8abf5 6 = .ok (.invokevirtual 335, 3) := by decide +kernel
theorem dJ0_length_8abf5_9 : decode cJ0_length_8abf5 9 = .ok (.ishr, 1) := by decide +kernel
theorem dJ0_length_8abf5_10 : decode cJ0_length_8abf5 10 = .ok (.ireturn, 1) := by decide +kernel
theorem dJ0_charAt_5068e_0 : decode cJ0_charAt_5068e 0 = .ok (.aload_n 0, 1) := by decide +kernel
theorem dJ0_charAt_5068e_1 : decode cJ0_charAt_5068e 1 = .ok (.invokevirtual 492, 3) := by decide +kernel
theorem dJ0_charAt_5068e_4 : decode cJ0_charAt_5068e 4 = .ok (.ifCond .eq 12, 3) := by decide +kernel
theorem dJ0_charAt_5068e_7 : decode cJ0_charAt_5068e 7 = .ok (.aload_n 0, 1) := by decide +kernel
theorem dJ0_charAt_5068e_8 : decode cJ0_charAt_5068e 8 = .ok (.getfield 9, 3) := by decide +kernel
theorem dJ0_charAt_5068e_11 : decode cJ0_charAt_5068e 11 = .ok (.iload_n 1, 1) := by decide +kernel
theorem dJ0_charAt_5068e_12 : decode cJ0_charAt_5068e 12 = .ok (.invokestatic 495, 3) := by decide +kernel
theorem dJ0_charAt_5068e_15 : decode cJ0_charAt_5068e 15 = .ok (.ireturn, 1) := by decide +kernel
theorem dJ0_charAt_5068e_16 : decode cJ0_charAt_5068e 16 = .ok (.aload_n 0, 1) := by decide +kernel
theorem dJ0_charAt_5068e_17 : decode cJ0_charAt_5068e 17 = .ok (.getfield 9, 3) := by decide +kernel
theorem dJ0_charAt_5068e_20 : decode cJ0_charAt_5068e 20 = .ok (.iload_n 1, 1) := by decide +kernel
theorem dJ0_charAt_5068e_21 : decode cJ0_charAt_5068e 21 = .ok (.invokestatic 498, 3) := by decide +kernel
theorem dJ0_charAt_5068e_24 : decode cJ0_charAt_5068e 24 = .ok (.ireturn, 1) := by decide +kernel
theorem dJ0_coder_7d493_0 : decode cJ0_coder_7d493 0 = .ok (.getstatic 38, 3) := by decide +kernel
theorem dJ0_coder_7d493_3 : decode cJ0_coder_7d493 3 = .ok (.ifCond .eq 10, 3) := by decide +kernel
theorem dJ0_coder_7d493_6 : decode cJ0_coder_7d493 6 = .ok (.aload_n 0, 1) := by decide +kernel
theorem dJ0_coder_7d493_7 : decode cJ0_coder_7d493 7 = .ok (.getfield 15, 3) := by decide +kernel
theorem dJ0_coder_7d493_10 : decode cJ0_coder_7d493 10 = .ok (.goto 4, 3) := by decide +kernel
theorem dJ0_coder_7d493_13 : decode cJ0_coder_7d493 13 = .ok (.iconst 1, 1) := by decide +kernel
theorem dJ0_coder_7d493_14 : decode cJ0_coder_7d493 14 = .ok (.ireturn, 1) := by decide +kernel
theorem dJ0_isLatin1_aae02_0 : decode cJ0_isLatin1_aae02 0 = .ok (.getstatic 38, 3) := by decide +kernel
theorem dJ0_isLatin1_aae02_3 : decode cJ0_isLatin1_aae02 3 = .ok (.ifCond .eq 14, 3) := by decide +kernel
theorem dJ0_isLatin1_aae02_6 : decode cJ0_isLatin1_aae02 6 = .ok (.aload_n 0, 1) := by decide +kernel
theorem dJ0_isLatin1_aae02_7 : decode cJ0_isLatin1_aae02 7 = .ok (.getfield 15, 3) := by decide +kernel
theorem dJ0_isLatin1_aae02_10 : decode cJ0_isLatin1_aae02 10 = .ok (.ifCond .ne 7, 3) := by decide +kernel
theorem dJ0_isLatin1_aae02_13 : decode cJ0_isLatin1_aae02 13 = .ok (.iconst 1, 1) := by decide +kernel
theorem dJ0_isLatin1_aae02_14 : decode cJ0_isLatin1_aae02 14 = .ok (.goto 4, 3) := by decide +kernel
theorem dJ0_isLatin1_aae02_17 : decode cJ0_isLatin1_aae02 17 = .ok (.iconst 0, 1) := by decide +kernel
theorem dJ0_isLatin1_aae02_18 : decode cJ0_isLatin1_aae02 18 = .ok (.ireturn, 1) := by decide +kernel
theorem dJ0_checkIndex_df160_0 : decode cJ0_checkIndex_df160 0 = .ok (.iload_n 0, 1) := by decide +kernel
theorem dJ0_checkIndex_df160_1 : decode cJ0_checkIndex_df160 1 = .ok (.iload_n 1, 1) := by decide +kernel
theorem dJ0_checkIndex_df160_2 : decode cJ0_checkIndex_df160 2 = .ok (.getstatic 1053, 3) := by decide +kernel
theorem dJ0_checkIndex_df160_5 : decode cJ0_checkIndex_df160 5 = .ok (.invokestatic 1059, 3) := by decide +kernel
theorem dJ0_checkIndex_df160_8 : decode cJ0_checkIndex_df160 8 = .ok (.pop, 1) := by decide +kernel
theorem dJ0_checkIndex_df160_9 : decode cJ0_checkIndex_df160 9 = .ok (.return_, 1) := by decide +kernel
theorem dJ1_charAt_3b067_0 : decode cJ1_charAt_3b067 0 = .ok (.iload_n 1, 1) := by decide +kernel
theorem dJ1_charAt_3b067_1 : decode cJ1_charAt_3b067 1 = .ok (.aload_n 0, 1) := by decide +kernel
theorem dJ1_charAt_3b067_2 : decode cJ1_charAt_3b067 2 = .ok (.arraylength, 1) := by decide +kernel
theorem dJ1_charAt_3b067_3 : decode cJ1_charAt_3b067 3 = .ok (.invokestatic 9, 3) := by decide +kernel
theorem dJ1_charAt_3b067_6 : decode cJ1_charAt_3b067 6 = .ok (.aload_n 0, 1) := by decide +kernel
theorem dJ1_charAt_3b067_7 : decode cJ1_charAt_3b067 7 = .ok (.iload_n 1, 1) := by decide +kernel
theorem dJ1_charAt_3b067_8 : decode cJ1_charAt_3b067 8 = .ok (.baload, 1) := by decide +kernel
theorem dJ1_charAt_3b067_9 : decode cJ1_charAt_3b067 9 = .ok (.sipush 255, 3) := by decide +kernel
theorem dJ1_charAt_3b067_12 : decode cJ1_charAt_3b067 12 = .ok (.iand, 1) := by decide +kernel
theorem dJ1_charAt_3b067_13 : decode cJ1_charAt_3b067 13 = .ok (.i2c, 1) := by decide +kernel
theorem dJ1_charAt_3b067_14 : decode cJ1_charAt_3b067 14 = .ok (.ireturn, 1) := by decide +kernel
theorem dJ3_checkIndex_8e157_0 : decode cJ3_checkIndex_8e157 0 = .ok (.iload_n 0, 1) := by decide +kernel
theorem dJ3_checkIndex_8e157_1 : decode cJ3_checkIndex_8e157 1 = .ok (.ifCond .lt 8, 3) := by decide +kernel
theorem dJ3_checkIndex_8e157_4 : decode cJ3_checkIndex_8e157 4 = .ok (.iload_n 0, 1) := by decide +kernel
theorem dJ3_checkIndex_8e157_5 : decode cJ3_checkIndex_8e157 5 = .ok (.iload_n 1, 1) := by decide +kernel
theorem dJ3_checkIndex_8e157_6 : decode cJ3_checkIndex_8e157 6 = .ok (.if_icmp .lt 10, 3) := by decide +kernel
theorem dJ3_checkIndex_8e157_9 : decode cJ3_checkIndex_8e157 9 = .ok (.aload_n 2, 1) := by decide +kernel
theorem dJ3_checkIndex_8e157_10 : decode cJ3_checkIndex_8e157 10 = .ok (.iload_n 0, 1) := by decide +kernel
theorem dJ3_checkIndex_8e157_11 : decode cJ3_checkIndex_8e157 11 = .ok (.iload_n 1, 1) := by decide +kernel
theorem dJ3_checkIndex_8e157_12 : decode cJ3_checkIndex_8e157 12 = .ok (.invokestatic 95, 3) := by decide +kernel
theorem dJ3_checkIndex_8e157_15 : decode cJ3_checkIndex_8e157 15 = .ok (.athrow, 1) := by decide +kernel
theorem dJ3_checkIndex_8e157_16 : decode cJ3_checkIndex_8e157 16 = .ok (.iload_n 0, 1) := by decide +kernel
theorem dJ3_checkIndex_8e157_17 : decode cJ3_checkIndex_8e157 17 = .ok (.ireturn, 1) := by decide +kernel
theorem okJ0_coder {E : Ev} {S : Sh} {Z : Option Nat} {h : Hp} {i : Nat} (hi : i < 18) : Ct E yJ0_coder_7d493 cJ0_coder_7d493 1 (some .byte) 1 24 0 0 S Z h [vr (E.2.2.2.2.1 i + 1)] (qI S Z (fun r h' => r = 0 ∧ h' = h)) := by
  refine Ct.of (by decide) (lc := [some (vr (E.2.2.2.2.1 i + 1))]) (Nat.le_of_ble_eq_true rfl) rfl (fun X O => ?_)
  refine g_scmp O dJ0_coder_7d493_0 fl_J0_38 ?_
  refine g_if_eq (tgt := 13) O dJ0_coder_7d493_3 rfl (fun q => absurd q (by decide)) (fun q => ?_)
  refine g_aload_n O dJ0_coder_7d493_6 rfl ?_
  refine g_scod O hi dJ0_coder_7d493_7 fl_J0_15 ?_
  refine g_goto (tgt := 14) O dJ0_coder_7d493_10 rfl ?_
  exact g_nreturn O dJ0_coder_7d493_14 (by decide) ⟨rfl, rfl, _, rfl, rfl, rfl⟩
theorem okJ0_isLatin1 {E : Ev} {S : Sh} {Z : Option Nat} {h : Hp} {i : Nat} (hi : i < 18) : Ct E yJ0_isLatin1_aae02 cJ0_isLatin1_aae02 1 (some .boolean) 1 24 0 0 S Z h [vr (E.2.2.2.2.1 i + 1)] (qI S Z (fun r h' => r = 1 ∧ h' = h)) := by
  refine Ct.of (by decide) (lc := [some (vr (E.2.2.2.2.1 i + 1))]) (Nat.le_of_ble_eq_true rfl) rfl (fun X O => ?_)
  refine g_scmp O dJ0_isLatin1_aae02_0 fl_J0_38 ?_
  refine g_if_eq (tgt := 17) O dJ0_isLatin1_aae02_3 rfl (fun q => absurd q (by decide)) (fun q => ?_)
  refine g_aload_n O dJ0_isLatin1_aae02_6 rfl ?_
  refine g_scod O hi dJ0_isLatin1_aae02_7 fl_J0_15 ?_
  refine g_if_ne (tgt := 17) O dJ0_isLatin1_aae02_10 rfl (fun q => absurd rfl q) (fun q => ?_)
  refine g_iconst O dJ0_isLatin1_aae02_13 kv_1 ?_
  refine g_goto (tgt := 18) O dJ0_isLatin1_aae02_14 rfl ?_
  exact g_zreturn O dJ0_isLatin1_aae02_18 (by decide) ⟨rfl, rfl, _, rfl, rfl, rfl⟩
theorem okJ3_checkIndex {E : Ev} {S : Sh} {Z : Option Nat} {h : Hp} {j m b : Nat} (hj : j < m) (hm : m < 2 ^ 31) : Ct E yJ3_checkIndex_8e157 cJ3_checkIndex_8e157 3 (some .int) 1 24 0 0 S Z h [vi (nI j), vi (nI m), vr b] (qI S Z (fun r h' => h' = h)) := by
  refine Ct.of (by decide) (lc := [some (vi (nI j)), some (vi (nI m)), some (vr b)]) (Nat.le_of_ble_eq_true rfl) rfl (fun X O => ?_)
  refine g_iload_n O dJ3_checkIndex_8e157_0 rfl ?_
  refine g_if_lt (tgt := 9) O dJ3_checkIndex_8e157_1 rfl (fun q => absurd q (nI_pos (by omega))) (fun q => ?_)
  refine g_iload_n O dJ3_checkIndex_8e157_4 rfl ?_
  refine g_iload_n O dJ3_checkIndex_8e157_5 rfl ?_
  refine g_icmp_lt (tgt := 16) O dJ3_checkIndex_8e157_6 rfl (fun q => ?_) (fun q => absurd (nI_lt hj hm) q)
  refine g_iload_n O dJ3_checkIndex_8e157_16 rfl ?_
  exact g_ireturn O dJ3_checkIndex_8e157_17 ⟨rfl, rfl, _, rfl, rfl⟩
theorem okJ0_checkIndex {E : Ev} {S : Sh} {Z : Option Nat} {h : Hp} {j m : Nat} (hj : j < m) (hm : m < 2 ^ 31) : Ct E yJ0_checkIndex_df160 cJ0_checkIndex_df160 2 none 2 60 0 0 S Z h [vi (nI j), vi (nI m)] (qV S Z (fun h' => h' = h)) := by
  refine Ct.of (by decide) (lc := [some (vi (nI j)), some (vi (nI m))]) (Nat.le_of_ble_eq_true rfl) rfl (fun X O => ?_)
  refine g_iload_n O dJ0_checkIndex_df160_0 rfl ?_
  refine g_iload_n O dJ0_checkIndex_df160_1 rfl ?_
  refine g_sfmt O dJ0_checkIndex_df160_2 fl_J0_1053 (fun b => ?_)
  refine g_callS (As := [vi (nI j), vi (nI m), vr b]) (rest := []) O dJ0_checkIndex_df160_5 ml_J0_1059 st_yJ3_checkIndex_8e157 ini_J3 co_yJ3_checkIndex_8e157 yo_yJ3_checkIndex_8e157 rfl rfl (Nat.le_of_ble_eq_true rfl) ⟨by decide, by decide, by decide, by decide⟩ (okJ3_checkIndex hj hm) (k_I fun r h1 hw => ?_)
  subst hw
  refine g_pop O dJ0_checkIndex_df160_8 rfl ?_
  exact g_return O dJ0_checkIndex_df160_9 ⟨rfl, rfl, rfl, rfl⟩
theorem sc_fit : ∀ i, i < 18 → (bytS.getD i []).length = lenS.getD i 0 ∧ lenS.getD i 0 < 1000 ∧ ∀ b ∈ bytS.getD i [], (b &&& 255) = b ∧ i2c b = b ∧ narrow .char (.int b) = .int b := by decide +kernel
theorem getD_mem : ∀ (l : List Int32) (j : Nat), j < l.length → l.getD j 0 ∈ l := by
  intro l j hj
  rw [List.getD_eq_getElem?_getD, List.getElem?_eq_getElem hj]
  exact List.getElem_mem _
theorem okJ1_charAt {E : Ev} {S : Sh} {Z : Option Nat} {h : Hp} {i j : Nat} (hi : i < 18) (hj : j < lenS.getD i 0) : Ct E yJ1_charAt_3b067 cJ1_charAt_3b067 2 (some .char) 3 100 0 0 S Z h [vr (E.2.2.2.2.2 i + 1), vi (nI j)] (qI S Z (fun r h' => r = (bytS.getD i []).getD j 0 ∧ h' = h)) := by
  obtain ⟨hl, hm, hb⟩ := sc_fit i hi
  have hmem : (bytS.getD i []).getD j 0 ∈ bytS.getD i [] := getD_mem _ _ (by omega)
  obtain ⟨b1, b2, b3⟩ := hb _ hmem
  refine Ct.of (by decide) (lc := [some (vr (E.2.2.2.2.2 i + 1)), some (vi (nI j))]) (Nat.le_of_ble_eq_true rfl) rfl (fun X O => ?_)
  refine g_iload_n O dJ1_charAt_3b067_0 rfl ?_
  refine g_aload_n O dJ1_charAt_3b067_1 rfl ?_
  refine g_slen O hi dJ1_charAt_3b067_2 ?_
  refine g_callS (As := [vi (nI j), vi (nI (lenS.getD i 0))]) (rest := []) O dJ1_charAt_3b067_3 ml_J1_9 st_yJ0_checkIndex_df160 ini_J0 co_yJ0_checkIndex_df160 yo_yJ0_checkIndex_df160 rfl rfl (Nat.le_of_ble_eq_true rfl) ⟨by decide, by decide, by decide, by decide⟩ (okJ0_checkIndex hj (by omega)) (k_V fun h1 hw => ?_)
  subst hw
  refine g_aload_n O dJ1_charAt_3b067_6 rfl ?_
  refine g_iload_n O dJ1_charAt_3b067_7 rfl ?_
  refine g_sbald O hi dJ1_charAt_3b067_8 (vp_in_nI hj (by omega)) ?_
  rw [show ix (nI j) = j from nI_clamp (by omega)]
  refine g_sipush O dJ1_charAt_3b067_9 ks_255 ?_
  refine g_iand O dJ1_charAt_3b067_12 ?_
  refine g_i2c O dJ1_charAt_3b067_13 ?_
  rw [b1, b2]
  exact g_nreturn O dJ1_charAt_3b067_14 b3 ⟨rfl, rfl, _, rfl, rfl, rfl⟩
theorem okJ0_length_8abf5 {E : Ev} {S : Sh} {Z : Option Nat} {h : Hp} {a0 : Nat} {Q : Int32 → Hp → Prop} (hw : wJ0_length_8abf5 (fun i => E.2.2.2.2.1 i + 1) h a0 Q) : Ct E yJ0_length_8abf5 cJ0_length_8abf5 1 (some .int) 6 260 0 0 S Z h [vr a0] (qI S Z Q) := by
  obtain ⟨i, hi, rfl, hq⟩ := hw
  obtain ⟨hl, hm, -⟩ := sc_fit i hi
  refine Ct.of (by decide) (lc := [some (vr (E.2.2.2.2.1 i + 1))]) (Nat.le_of_ble_eq_true rfl) rfl (fun X O => ?_)
  refine g_aload_n O dJ0_length_8abf5_0 rfl ?_
  refine g_sval O hi dJ0_length_8abf5_1 fl_J0_9 ?_
  refine g_slen O hi dJ0_length_8abf5_4 ?_
  refine g_aload_n O dJ0_length_8abf5_5 rfl ?_
  refine g_callStr (As := []) (rest := [vi (nI (lenS.getD i 0))]) O dJ0_length_8abf5_6 ml_J0_335 im_yJ0_coder_7d493 se_yJ0_coder_7d493 ini_J0 co_yJ0_coder_7d493 yo_yJ0_coder_7d493 ⟨i, hi, rfl⟩ rfl rfl (Nat.le_of_ble_eq_true rfl) ⟨by decide, by decide, by decide, by decide⟩ (okJ0_coder hi) (k_I fun r h1 hw => ?_)
  obtain ⟨rfl, rfl⟩ := hw
  refine g_ishr O dJ0_length_8abf5_9 ?_
  have e : shr32 (nI (lenS.getD i 0)) 0 = nI (lenS.getD i 0) := sc_shr0 (by omega)
  rw [e]
  exact g_ireturn O dJ0_length_8abf5_10 ⟨rfl, rfl, _, rfl, hq⟩
theorem okJ0_charAt_5068e {E : Ev} {S : Sh} {Z : Option Nat} {h : Hp} {a0 : Nat} {x1 : Int32} {Q : Int32 → Hp → Prop} (hw : wJ0_charAt_5068e (fun i => E.2.2.2.2.1 i + 1) h a0 x1 Q) : Ct E yJ0_charAt_5068e cJ0_charAt_5068e 2 (some .char) 6 260 0 0 S Z h [vr a0, vi x1] (qI S Z Q) := by
  obtain ⟨i, j, hi, rfl, rfl, hj, hq⟩ := hw
  obtain ⟨hl, hm, hb⟩ := sc_fit i hi
  have hmem : (bytS.getD i []).getD j 0 ∈ bytS.getD i [] := getD_mem _ _ (by omega)
  obtain ⟨b1, b2, b3⟩ := hb _ hmem
  refine Ct.of (by decide) (lc := [some (vr (E.2.2.2.2.1 i + 1)), some (vi (nI j))]) (Nat.le_of_ble_eq_true rfl) rfl (fun X O => ?_)
  refine g_aload_n O dJ0_charAt_5068e_0 rfl ?_
  refine g_callStr (As := []) (rest := []) O dJ0_charAt_5068e_1 ml_J0_492 im_yJ0_isLatin1_aae02 se_yJ0_isLatin1_aae02 ini_J0 co_yJ0_isLatin1_aae02 yo_yJ0_isLatin1_aae02 ⟨i, hi, rfl⟩ rfl rfl (Nat.le_of_ble_eq_true rfl) ⟨by decide, by decide, by decide, by decide⟩ (okJ0_isLatin1 hi) (k_I fun r h1 hw => ?_)
  obtain ⟨rfl, rfl⟩ := hw
  refine g_if_eq (tgt := 16) O dJ0_charAt_5068e_4 rfl (fun q => absurd q (by decide)) (fun q => ?_)
  refine g_aload_n O dJ0_charAt_5068e_7 rfl ?_
  refine g_sval O hi dJ0_charAt_5068e_8 fl_J0_9 ?_
  refine g_iload_n O dJ0_charAt_5068e_11 rfl ?_
  refine g_callS (As := [vr (E.2.2.2.2.2 i + 1), vi (nI j)]) (rest := []) O dJ0_charAt_5068e_12 ml_J0_495 st_yJ1_charAt_3b067 ini_J1 co_yJ1_charAt_3b067 yo_yJ1_charAt_3b067 rfl rfl (Nat.le_of_ble_eq_true rfl) ⟨by decide, by decide, by decide, by decide⟩ (okJ1_charAt hi hj) (k_I fun r h1 hw => ?_)
  obtain ⟨rfl, rfl⟩ := hw
  exact g_nreturn O dJ0_charAt_5068e_15 b3 ⟨rfl, rfl, _, rfl, hq⟩
