theorem dJ13_bitCount_95d88_0 : decode cJ13_bitCount_95d88 0 = .ok (.lload_n 0, 1) := by decide +kernel
theorem dJ13_bitCount_95d88_1 : decode cJ13_bitCount_95d88 1 = .ok (.lload_n 0, 1) := by decide +kernel
theorem dJ13_bitCount_95d88_2 : decode cJ13_bitCount_95d88 2 = .ok (.iconst 1, 1) := by decide +kernel
theorem dJ13_bitCount_95d88_3 : decode cJ13_bitCount_95d88 3 = .ok (.lushr, 1) := by decide +kernel
theorem dJ13_bitCount_95d88_4 : decode cJ13_bitCount_95d88 4 = .ok (.ldc2_w 314, 3) := by decide +kernel
theorem dJ13_bitCount_95d88_7 : decode cJ13_bitCount_95d88 7 = .ok (.land, 1) := by decide +kernel
theorem dJ13_bitCount_95d88_8 : decode cJ13_bitCount_95d88 8 = .ok (.lsub, 1) := by decide +kernel
theorem dJ13_bitCount_95d88_9 : decode cJ13_bitCount_95d88 9 = .ok (.lstore_n 0, 1) := by decide +kernel
theorem dJ13_bitCount_95d88_10 : decode cJ13_bitCount_95d88 10 = .ok (.lload_n 0, 1) := by decide +kernel
theorem dJ13_bitCount_95d88_11 : decode cJ13_bitCount_95d88 11 = .ok (.ldc2_w 316, 3) := by decide +kernel
theorem dJ13_bitCount_95d88_14 : decode cJ13_bitCount_95d88 14 = .ok (.land, 1) := by decide +kernel
theorem dJ13_bitCount_95d88_15 : decode cJ13_bitCount_95d88 15 = .ok (.lload_n 0, 1) := by decide +kernel
theorem dJ13_bitCount_95d88_16 : decode cJ13_bitCount_95d88 16 = .ok (.iconst 2, 1) := by decide +kernel
theorem dJ13_bitCount_95d88_17 : decode cJ13_bitCount_95d88 17 = .ok (.lushr, 1) := by decide +kernel
theorem dJ13_bitCount_95d88_18 : decode cJ13_bitCount_95d88 18 = .ok (.ldc2_w 316, 3) := by decide +kernel
theorem dJ13_bitCount_95d88_21 : decode cJ13_bitCount_95d88 21 = .ok (.land, 1) := by decide +kernel
theorem dJ13_bitCount_95d88_22 : decode cJ13_bitCount_95d88 22 = .ok (.ladd, 1) := by decide +kernel
theorem dJ13_bitCount_95d88_23 : decode cJ13_bitCount_95d88 23 = .ok (.lstore_n 0, 1) := by decide +kernel
theorem dJ13_bitCount_95d88_24 : decode cJ13_bitCount_95d88 24 = .ok (.lload_n 0, 1) := by decide +kernel
theorem dJ13_bitCount_95d88_25 : decode cJ13_bitCount_95d88 25 = .ok (.lload_n 0, 1) := by decide +kernel
theorem dJ13_bitCount_95d88_26 : decode cJ13_bitCount_95d88 26 = .ok (.iconst 4, 1) := by decide +kernel
theorem dJ13_bitCount_95d88_27 : decode cJ13_bitCount_95d88 27 = .ok (.lushr, 1) := by decide +kernel
theorem dJ13_bitCount_95d88_28 : decode cJ13_bitCount_95d88 28 = .ok (.ladd, 1) := by decide +kernel
theorem dJ13_bitCount_95d88_29 : decode cJ13_bitCount_95d88 29 = .ok (.ldc2_w 318, 3) := by decide +kernel
theorem dJ13_bitCount_95d88_32 : decode cJ13_bitCount_95d88 32 = .ok (.land, 1) := by decide +kernel
theorem dJ13_bitCount_95d88_33 : decode cJ13_bitCount_95d88 33 = .ok (.lstore_n 0, 1) := by decide +kernel
theorem dJ13_bitCount_95d88_34 : decode cJ13_bitCount_95d88 34 = .ok (.lload_n 0, 1) := by decide +kernel
theorem dJ13_bitCount_95d88_35 : decode cJ13_bitCount_95d88 35 = .ok (.lload_n 0, 1) := by decide +kernel
theorem dJ13_bitCount_95d88_36 : decode cJ13_bitCount_95d88 36 = .ok (.bipush 8, 2) := by decide +kernel
theorem dJ13_bitCount_95d88_38 : decode cJ13_bitCount_95d88 38 = .ok (.lushr, 1) := by decide +kernel
theorem dJ13_bitCount_95d88_39 : decode cJ13_bitCount_95d88 39 = .ok (.ladd, 1) := by decide +kernel
theorem dJ13_bitCount_95d88_40 : decode cJ13_bitCount_95d88 40 = .ok (.lstore_n 0, 1) := by decide +kernel
theorem dJ13_bitCount_95d88_41 : decode cJ13_bitCount_95d88 41 = .ok (.lload_n 0, 1) := by decide +kernel
theorem dJ13_bitCount_95d88_42 : decode cJ13_bitCount_95d88 42 = .ok (.lload_n 0, 1) := by decide +kernel
theorem dJ13_bitCount_95d88_43 : decode cJ13_bitCount_95d88 43 = .ok (.bipush 16, 2) := by decide +kernel
theorem dJ13_bitCount_95d88_45 : decode cJ13_bitCount_95d88 45 = .ok (.lushr, 1) := by decide +kernel
theorem dJ13_bitCount_95d88_46 : decode cJ13_bitCount_95d88 46 = .ok (.ladd, 1) := by decide +kernel
theorem dJ13_bitCount_95d88_47 : decode cJ13_bitCount_95d88 47 = .ok (.lstore_n 0, 1) := by decide +kernel
theorem dJ13_bitCount_95d88_48 : decode cJ13_bitCount_95d88 48 = .ok (.lload_n 0, 1) := by decide +kernel
theorem dJ13_bitCount_95d88_49 : decode cJ13_bitCount_95d88 49 = .ok (.lload_n 0, 1) := by decide +kernel
theorem dJ13_bitCount_95d88_50 : decode cJ13_bitCount_95d88 50 = .ok (.bipush 32, 2) := by decide +kernel
theorem dJ13_bitCount_95d88_52 : decode cJ13_bitCount_95d88 52 = .ok (.lushr, 1) := by decide +kernel
theorem dJ13_bitCount_95d88_53 : decode cJ13_bitCount_95d88 53 = .ok (.ladd, 1) := by decide +kernel
theorem dJ13_bitCount_95d88_54 : decode cJ13_bitCount_95d88 54 = .ok (.lstore_n 0, 1) := by decide +kernel
theorem dJ13_bitCount_95d88_55 : decode cJ13_bitCount_95d88 55 = .ok (.lload_n 0, 1) := by decide +kernel
theorem dJ13_bitCount_95d88_56 : decode cJ13_bitCount_95d88 56 = .ok (.l2i, 1) := by decide +kernel
theorem dJ13_bitCount_95d88_57 : decode cJ13_bitCount_95d88 57 = .ok (.bipush 127, 2) := by decide +kernel
theorem dJ13_bitCount_95d88_59 : decode cJ13_bitCount_95d88 59 = .ok (.iand, 1) := by decide +kernel
theorem dJ13_bitCount_95d88_60 : decode cJ13_bitCount_95d88 60 = .ok (.ireturn, 1) := by decide +kernel
theorem okJ13_bitCount_95d88 {E : Ev} {S : Sh} {Z : Option Nat} {Q : Int32 → Hp → Prop} {h : Hp} {j0 : Int64} (hw : wJ13_bitCount_95d88 S h j0 Q) : Ct E yJ13_bitCount_95d88 cJ13_bitCount_95d88 2 (some .int) 1 24 0 0 S Z h [vj j0] (qI S Z Q) := by
  refine Ct.of (by decide) (lc := [some (vj j0), none]) (Nat.le_of_ble_eq_true rfl) rfl (fun X O => ?_)
  unfold wJ13_bitCount_95d88 at hw
  refine g_lload_n O dJ13_bitCount_95d88_0 rfl ?_
  refine g_lload_n O dJ13_bitCount_95d88_1 rfl ?_
  refine g_iconst O dJ13_bitCount_95d88_2 kv_1 ?_
  refine g_lushr O dJ13_bitCount_95d88_3 ?_
  refine g_ldc2 O dJ13_bitCount_95d88_4 kl_J13_314 ?_
  refine g_land O dJ13_bitCount_95d88_7 ?_
  refine g_lsub O dJ13_bitCount_95d88_8 ?_
  refine g_nmJ (fun jv9 e9 => ?_)
  have hw := hw jv9 e9
  refine g_lstore_n (lc' := [some (vj jv9), none]) O dJ13_bitCount_95d88_9 rfl (Nat.le_of_ble_eq_true rfl) rfl ?_
  refine g_lload_n O dJ13_bitCount_95d88_10 rfl ?_
  refine g_ldc2 O dJ13_bitCount_95d88_11 kl_J13_316 ?_
  refine g_land O dJ13_bitCount_95d88_14 ?_
  refine g_lload_n O dJ13_bitCount_95d88_15 rfl ?_
  refine g_iconst O dJ13_bitCount_95d88_16 kv_2 ?_
  refine g_lushr O dJ13_bitCount_95d88_17 ?_
  refine g_ldc2 O dJ13_bitCount_95d88_18 kl_J13_316 ?_
  refine g_land O dJ13_bitCount_95d88_21 ?_
  refine g_ladd O dJ13_bitCount_95d88_22 ?_
  refine g_nmJ (fun jv23 e23 => ?_)
  have hw := hw jv23 e23
  refine g_lstore_n (lc' := [some (vj jv23), none]) O dJ13_bitCount_95d88_23 rfl (Nat.le_of_ble_eq_true rfl) rfl ?_
  refine g_lload_n O dJ13_bitCount_95d88_24 rfl ?_
  refine g_lload_n O dJ13_bitCount_95d88_25 rfl ?_
  refine g_iconst O dJ13_bitCount_95d88_26 kv_4 ?_
  refine g_lushr O dJ13_bitCount_95d88_27 ?_
  refine g_ladd O dJ13_bitCount_95d88_28 ?_
  refine g_ldc2 O dJ13_bitCount_95d88_29 kl_J13_318 ?_
  refine g_land O dJ13_bitCount_95d88_32 ?_
  refine g_nmJ (fun jv33 e33 => ?_)
  have hw := hw jv33 e33
  refine g_lstore_n (lc' := [some (vj jv33), none]) O dJ13_bitCount_95d88_33 rfl (Nat.le_of_ble_eq_true rfl) rfl ?_
  refine g_lload_n O dJ13_bitCount_95d88_34 rfl ?_
  refine g_lload_n O dJ13_bitCount_95d88_35 rfl ?_
  refine g_bipush O dJ13_bitCount_95d88_36 kb_8 ?_
  refine g_lushr O dJ13_bitCount_95d88_38 ?_
  refine g_ladd O dJ13_bitCount_95d88_39 ?_
  refine g_nmJ (fun jv40 e40 => ?_)
  have hw := hw jv40 e40
  refine g_lstore_n (lc' := [some (vj jv40), none]) O dJ13_bitCount_95d88_40 rfl (Nat.le_of_ble_eq_true rfl) rfl ?_
  refine g_lload_n O dJ13_bitCount_95d88_41 rfl ?_
  refine g_lload_n O dJ13_bitCount_95d88_42 rfl ?_
  refine g_bipush O dJ13_bitCount_95d88_43 kb_16 ?_
  refine g_lushr O dJ13_bitCount_95d88_45 ?_
  refine g_ladd O dJ13_bitCount_95d88_46 ?_
  refine g_nmJ (fun jv47 e47 => ?_)
  have hw := hw jv47 e47
  refine g_lstore_n (lc' := [some (vj jv47), none]) O dJ13_bitCount_95d88_47 rfl (Nat.le_of_ble_eq_true rfl) rfl ?_
  refine g_lload_n O dJ13_bitCount_95d88_48 rfl ?_
  refine g_lload_n O dJ13_bitCount_95d88_49 rfl ?_
  refine g_bipush O dJ13_bitCount_95d88_50 kb_32 ?_
  refine g_lushr O dJ13_bitCount_95d88_52 ?_
  refine g_ladd O dJ13_bitCount_95d88_53 ?_
  refine g_nmJ (fun jv54 e54 => ?_)
  have hw := hw jv54 e54
  refine g_lstore_n (lc' := [some (vj jv54), none]) O dJ13_bitCount_95d88_54 rfl (Nat.le_of_ble_eq_true rfl) rfl ?_
  refine g_lload_n O dJ13_bitCount_95d88_55 rfl ?_
  refine g_l2i O dJ13_bitCount_95d88_56 ?_
  refine g_bipush O dJ13_bitCount_95d88_57 kb_127 ?_
  refine g_iand O dJ13_bitCount_95d88_59 ?_
  exact g_ireturn O dJ13_bitCount_95d88_60 ⟨rfl, rfl, _, rfl, hw⟩
theorem dJ6_bitCount_0f7a4_0 : decode cJ6_bitCount_0f7a4 0 = .ok (.iload_n 0, 1) := by decide +kernel
theorem dJ6_bitCount_0f7a4_1 : decode cJ6_bitCount_0f7a4 1 = .ok (.iload_n 0, 1) := by decide +kernel
theorem dJ6_bitCount_0f7a4_2 : decode cJ6_bitCount_0f7a4 2 = .ok (.iconst 1, 1) := by decide +kernel
theorem dJ6_bitCount_0f7a4_3 : decode cJ6_bitCount_0f7a4 3 = .ok (.iushr, 1) := by decide +kernel
theorem dJ6_bitCount_0f7a4_4 : decode cJ6_bitCount_0f7a4 4 = .ok (.ldc_w 265, 3) := by decide +kernel
theorem dJ6_bitCount_0f7a4_7 : decode cJ6_bitCount_0f7a4 7 = .ok (.iand, 1) := by decide +kernel
theorem dJ6_bitCount_0f7a4_8 : decode cJ6_bitCount_0f7a4 8 = .ok (.isub, 1) := by decide +kernel
theorem dJ6_bitCount_0f7a4_9 : decode cJ6_bitCount_0f7a4 9 = .ok (.istore_n 0, 1) := by decide +kernel
theorem dJ6_bitCount_0f7a4_10 : decode cJ6_bitCount_0f7a4 10 = .ok (.iload_n 0, 1) := by decide +kernel
theorem dJ6_bitCount_0f7a4_11 : decode cJ6_bitCount_0f7a4 11 = .ok (.ldc_w 266, 3) := by decide +kernel
theorem dJ6_bitCount_0f7a4_14 : decode cJ6_bitCount_0f7a4 14 = .ok (.iand, 1) := by decide +kernel
theorem dJ6_bitCount_0f7a4_15 : decode cJ6_bitCount_0f7a4 15 = .ok (.iload_n 0, 1) := by decide +kernel
theorem dJ6_bitCount_0f7a4_16 : decode cJ6_bitCount_0f7a4 16 = .ok (.iconst 2, 1) := by decide +kernel
theorem dJ6_bitCount_0f7a4_17 : decode cJ6_bitCount_0f7a4 17 = .ok (.iushr, 1) := by decide +kernel
theorem dJ6_bitCount_0f7a4_18 : decode cJ6_bitCount_0f7a4 18 = .ok (.ldc_w 266, 3) := by decide +kernel
theorem dJ6_bitCount_0f7a4_21 : decode cJ6_bitCount_0f7a4 21 = .ok (.iand, 1) := by decide +kernel
theorem dJ6_bitCount_0f7a4_22 : decode cJ6_bitCount_0f7a4 22 = .ok (.iadd, 1) := by decide +kernel
theorem dJ6_bitCount_0f7a4_23 : decode cJ6_bitCount_0f7a4 23 = .ok (.istore_n 0, 1) := by decide +kernel
theorem dJ6_bitCount_0f7a4_24 : decode cJ6_bitCount_0f7a4 24 = .ok (.iload_n 0, 1) := by decide +kernel
theorem dJ6_bitCount_0f7a4_25 : decode cJ6_bitCount_0f7a4 25 = .ok (.iload_n 0, 1) := by decide +kernel
theorem dJ6_bitCount_0f7a4_26 : decode cJ6_bitCount_0f7a4 26 = .ok (.iconst 4, 1) := by decide +kernel
theorem dJ6_bitCount_0f7a4_27 : decode cJ6_bitCount_0f7a4 27 = .ok (.iushr, 1) := by decide +kernel
theorem dJ6_bitCount_0f7a4_28 : decode cJ6_bitCount_0f7a4 28 = .ok (.iadd, 1) := by decide +kernel
theorem dJ6_bitCount_0f7a4_29 : decode cJ6_bitCount_0f7a4 29 = .ok (.ldc_w 267, 3) := by decide +kernel
theorem dJ6_bitCount_0f7a4_32 : decode cJ6_bitCount_0f7a4 32 = .ok (.iand, 1) := by decide +kernel
theorem dJ6_bitCount_0f7a4_33 : decode cJ6_bitCount_0f7a4 33 = .ok (.istore_n 0, 1) := by decide +kernel
theorem dJ6_bitCount_0f7a4_34 : decode cJ6_bitCount_0f7a4 34 = .ok (.iload_n 0, 1) := by decide +kernel
theorem dJ6_bitCount_0f7a4_35 : decode cJ6_bitCount_0f7a4 35 = .ok (.iload_n 0, 1) := by decide +kernel
theorem dJ6_bitCount_0f7a4_36 : decode cJ6_bitCount_0f7a4 36 = .ok (.bipush 8, 2) := by decide +kernel
theorem dJ6_bitCount_0f7a4_38 : decode cJ6_bitCount_0f7a4 38 = .ok (.iushr, 1) := by decide +kernel
theorem dJ6_bitCount_0f7a4_39 : decode cJ6_bitCount_0f7a4 39 = .ok (.iadd, 1) := by decide +kernel
theorem dJ6_bitCount_0f7a4_40 : decode cJ6_bitCount_0f7a4 40 = .ok (.istore_n 0, 1) := by decide +kernel
theorem dJ6_bitCount_0f7a4_41 : decode cJ6_bitCount_0f7a4 41 = .ok (.iload_n 0, 1) := by decide +kernel
theorem dJ6_bitCount_0f7a4_42 : decode cJ6_bitCount_0f7a4 42 = .ok (.iload_n 0, 1) := by decide +kernel
theorem dJ6_bitCount_0f7a4_43 : decode cJ6_bitCount_0f7a4 43 = .ok (.bipush 16, 2) := by decide +kernel
theorem dJ6_bitCount_0f7a4_45 : decode cJ6_bitCount_0f7a4 45 = .ok (.iushr, 1) := by decide +kernel
theorem dJ6_bitCount_0f7a4_46 : decode cJ6_bitCount_0f7a4 46 = .ok (.iadd, 1) := by decide +kernel
theorem dJ6_bitCount_0f7a4_47 : decode cJ6_bitCount_0f7a4 47 = .ok (.istore_n 0, 1) := by decide +kernel
theorem dJ6_bitCount_0f7a4_48 : decode cJ6_bitCount_0f7a4 48 = .ok (.iload_n 0, 1) := by decide +kernel
theorem dJ6_bitCount_0f7a4_49 : decode cJ6_bitCount_0f7a4 49 = .ok (.bipush 63, 2) := by decide +kernel
theorem dJ6_bitCount_0f7a4_51 : decode cJ6_bitCount_0f7a4 51 = .ok (.iand, 1) := by decide +kernel
theorem dJ6_bitCount_0f7a4_52 : decode cJ6_bitCount_0f7a4 52 = .ok (.ireturn, 1) := by decide +kernel
theorem okJ6_bitCount_0f7a4 {E : Ev} {S : Sh} {Z : Option Nat} {Q : Int32 → Hp → Prop} {h : Hp} {x0 : Int32} (hw : wJ6_bitCount_0f7a4 S h x0 Q) : Ct E yJ6_bitCount_0f7a4 cJ6_bitCount_0f7a4 1 (some .int) 1 24 0 0 S Z h [vi x0] (qI S Z Q) := by
  refine Ct.of (by decide) (lc := [some (vi x0)]) (Nat.le_of_ble_eq_true rfl) rfl (fun X O => ?_)
  unfold wJ6_bitCount_0f7a4 at hw
  refine g_iload_n O dJ6_bitCount_0f7a4_0 rfl ?_
  refine g_iload_n O dJ6_bitCount_0f7a4_1 rfl ?_
  refine g_iconst O dJ6_bitCount_0f7a4_2 kv_1 ?_
  refine g_iushr O dJ6_bitCount_0f7a4_3 ?_
  refine g_ldc_w O dJ6_bitCount_0f7a4_4 kc_J6_265 ?_
  refine g_iand O dJ6_bitCount_0f7a4_7 ?_
  refine g_isub O dJ6_bitCount_0f7a4_8 ?_
  refine g_nmI (fun xv9 e9 => ?_)
  have hw := hw xv9 e9
  refine g_istore_n (lc' := [some (vi xv9)]) O dJ6_bitCount_0f7a4_9 rfl (Nat.le_of_ble_eq_true rfl) rfl ?_
  refine g_iload_n O dJ6_bitCount_0f7a4_10 rfl ?_
  refine g_ldc_w O dJ6_bitCount_0f7a4_11 kc_J6_266 ?_
  refine g_iand O dJ6_bitCount_0f7a4_14 ?_
  refine g_iload_n O dJ6_bitCount_0f7a4_15 rfl ?_
  refine g_iconst O dJ6_bitCount_0f7a4_16 kv_2 ?_
  refine g_iushr O dJ6_bitCount_0f7a4_17 ?_
  refine g_ldc_w O dJ6_bitCount_0f7a4_18 kc_J6_266 ?_
  refine g_iand O dJ6_bitCount_0f7a4_21 ?_
  refine g_iadd O dJ6_bitCount_0f7a4_22 ?_
  refine g_nmI (fun xv23 e23 => ?_)
  have hw := hw xv23 e23
  refine g_istore_n (lc' := [some (vi xv23)]) O dJ6_bitCount_0f7a4_23 rfl (Nat.le_of_ble_eq_true rfl) rfl ?_
  refine g_iload_n O dJ6_bitCount_0f7a4_24 rfl ?_
  refine g_iload_n O dJ6_bitCount_0f7a4_25 rfl ?_
  refine g_iconst O dJ6_bitCount_0f7a4_26 kv_4 ?_
  refine g_iushr O dJ6_bitCount_0f7a4_27 ?_
  refine g_iadd O dJ6_bitCount_0f7a4_28 ?_
  refine g_ldc_w O dJ6_bitCount_0f7a4_29 kc_J6_267 ?_
  refine g_iand O dJ6_bitCount_0f7a4_32 ?_
  refine g_nmI (fun xv33 e33 => ?_)
  have hw := hw xv33 e33
  refine g_istore_n (lc' := [some (vi xv33)]) O dJ6_bitCount_0f7a4_33 rfl (Nat.le_of_ble_eq_true rfl) rfl ?_
  refine g_iload_n O dJ6_bitCount_0f7a4_34 rfl ?_
  refine g_iload_n O dJ6_bitCount_0f7a4_35 rfl ?_
  refine g_bipush O dJ6_bitCount_0f7a4_36 kb_8 ?_
  refine g_iushr O dJ6_bitCount_0f7a4_38 ?_
  refine g_iadd O dJ6_bitCount_0f7a4_39 ?_
  refine g_nmI (fun xv40 e40 => ?_)
  have hw := hw xv40 e40
  refine g_istore_n (lc' := [some (vi xv40)]) O dJ6_bitCount_0f7a4_40 rfl (Nat.le_of_ble_eq_true rfl) rfl ?_
  refine g_iload_n O dJ6_bitCount_0f7a4_41 rfl ?_
  refine g_iload_n O dJ6_bitCount_0f7a4_42 rfl ?_
  refine g_bipush O dJ6_bitCount_0f7a4_43 kb_16 ?_
  refine g_iushr O dJ6_bitCount_0f7a4_45 ?_
  refine g_iadd O dJ6_bitCount_0f7a4_46 ?_
  refine g_nmI (fun xv47 e47 => ?_)
  have hw := hw xv47 e47
  refine g_istore_n (lc' := [some (vi xv47)]) O dJ6_bitCount_0f7a4_47 rfl (Nat.le_of_ble_eq_true rfl) rfl ?_
  refine g_iload_n O dJ6_bitCount_0f7a4_48 rfl ?_
  refine g_bipush O dJ6_bitCount_0f7a4_49 kb_63 ?_
  refine g_iand O dJ6_bitCount_0f7a4_51 ?_
  exact g_ireturn O dJ6_bitCount_0f7a4_52 ⟨rfl, rfl, _, rfl, hw⟩
theorem dJ7_fill_53178_0 : decode cJ7_fill_53178 0 = .ok (.iconst 0, 1) := by decide +kernel
theorem dJ7_fill_53178_1 : decode cJ7_fill_53178 1 = .ok (.istore_n 2, 1) := by decide +kernel
theorem dJ7_fill_53178_2 : decode cJ7_fill_53178 2 = .ok (.aload_n 0, 1) := by decide +kernel
theorem dJ7_fill_53178_3 : decode cJ7_fill_53178 3 = .ok (.arraylength, 1) := by decide +kernel
theorem dJ7_fill_53178_4 : decode cJ7_fill_53178 4 = .ok (.istore_n 3, 1) := by decide +kernel
theorem dJ7_fill_53178_5 : decode cJ7_fill_53178 5 = .ok (.iload_n 2, 1) := by decide +kernel
theorem dJ7_fill_53178_6 : decode cJ7_fill_53178 6 = .ok (.iload_n 3, 1) := by decide +kernel
theorem dJ7_fill_53178_7 : decode cJ7_fill_53178 7 = .ok (.if_icmp .ge 13, 3) := by decide +kernel
theorem dJ7_fill_53178_10 : decode cJ7_fill_53178 10 = .ok (.aload_n 0, 1) := by decide +kernel
theorem dJ7_fill_53178_11 : decode cJ7_fill_53178 11 = .ok (.iload_n 2, 1) := by decide +kernel
theorem dJ7_fill_53178_12 : decode cJ7_fill_53178 12 = .ok (.iload_n 1, 1) := by decide +kernel
theorem dJ7_fill_53178_13 : decode cJ7_fill_53178 13 = .ok (.iastore, 1) := by decide +kernel
theorem dJ7_fill_53178_14 : decode cJ7_fill_53178 14 = .ok (.iinc 2 1, 3) := by decide +kernel
theorem dJ7_fill_53178_17 : decode cJ7_fill_53178 17 = .ok (.goto (-12), 3) := by decide +kernel
theorem dJ7_fill_53178_20 : decode cJ7_fill_53178 20 = .ok (.return_, 1) := by decide +kernel
theorem okJ7_fill_53178_5 {E : Ev} {X : Cx} {S : Sh} {Z : Option Nat} {Q : Hp → Prop} {a0 : Nat} {x1 : Int32} {x3 : Int32} (O : Ok E X yJ7_fill_53178 cJ7_fill_53178 4 none 1 24 0 0 (qV S Z Q)) : ∀ (n : Nat) (h : Hp) (x2 : Int32), wJ7_fill_53178_5 S a0 x1 x3 Q n h x2 → G E X 0 0 S Z h 5 [some (vr a0), some (vi x1), some (vi x2), some (vi x3)] [] := by
  intro n
  induction n with
  | zero => intro h x2 hw; exact hw.elim
  | succ n hB5 =>
    intro h x2 hw
    have hw : wJ7_fill_53178_5b S a0 x1 x3 Q (wJ7_fill_53178_5 S a0 x1 x3 Q n) h x2 := hw
    unfold wJ7_fill_53178_5b at hw
    refine g_iload_n O dJ7_fill_53178_5 rfl ?_
    refine g_iload_n O dJ7_fill_53178_6 rfl ?_
    refine g_icmp_ge (tgt := 20) O dJ7_fill_53178_7 rfl (fun q7 => ?_) (fun q7 => ?_)
    · have hw := hw.1 q7
      exact g_return O dJ7_fill_53178_20 ⟨rfl, rfl, rfl, hw⟩
    · have hw := hw.2 q7
      refine g_aload_n O dJ7_fill_53178_10 rfl ?_
      refine g_iload_n O dJ7_fill_53178_11 rfl ?_
      refine g_iload_n O dJ7_fill_53178_12 rfl ?_
      obtain ⟨c13, hw⟩ := hw
      refine g_iastore O dJ7_fill_53178_13 c13.1 c13.2 ?_
      refine g_iinc (lc' := [some (vr a0), some (vi x1), some (vi (x2 + (1 : Int32))), some (vi x3)]) O dJ7_fill_53178_14 rfl kv_1 rfl rfl ?_
      refine g_goto (tgt := 5) O dJ7_fill_53178_17 rfl ?_
      exact hB5 _ _ hw
theorem okJ7_fill_53178 {E : Ev} {S : Sh} {Z : Option Nat} {Q : Hp → Prop} {h : Hp} {a0 : Nat} {x1 : Int32} (hw : wJ7_fill_53178 S h a0 x1 Q) : Ct E yJ7_fill_53178 cJ7_fill_53178 4 none 1 24 0 0 S Z h [vr a0, vi x1] (qV S Z Q) := by
  refine Ct.of (by decide) (lc := [some (vr a0), some (vi x1), none, none]) (Nat.le_of_ble_eq_true rfl) rfl (fun X O => ?_)
  unfold wJ7_fill_53178 at hw
  refine g_iconst O dJ7_fill_53178_0 kv_0 ?_
  refine g_istore_n (lc' := [some (vr a0), some (vi x1), some (vi (0 : Int32)), none]) O dJ7_fill_53178_1 rfl (Nat.le_of_ble_eq_true rfl) rfl ?_
  refine g_aload_n O dJ7_fill_53178_2 rfl ?_
  obtain ⟨c3, hw⟩ := hw
  refine g_alen (t := 0) O rfl dJ7_fill_53178_3 c3 ?_
  refine g_istore_n (lc' := [some (vr a0), some (vi x1), some (vi (0 : Int32)), some (vi (nI (S a0).2))]) O dJ7_fill_53178_4 rfl (Nat.le_of_ble_eq_true rfl) rfl ?_
  obtain ⟨n5, hw⟩ := hw
  exact okJ7_fill_53178_5 O n5 _ _ hw
theorem dX0_after_0 : decode cX0_after 0 = .ok (.aload_n 0, 1) := by decide +kernel
theorem dX0_after_1 : decode cX0_after 1 = .ok (.getfield 21, 3) := by decide +kernel
theorem dX0_after_4 : decode cX0_after 4 = .ok (.iload_n 1, 1) := by decide +kernel
theorem dX0_after_5 : decode cX0_after 5 = .ok (.bipush 10, 2) := by decide +kernel
theorem dX0_after_7 : decode cX0_after 7 = .ok (.imul, 1) := by decide +kernel
theorem dX0_after_8 : decode cX0_after 8 = .ok (.iload_n 2, 1) := by decide +kernel
theorem dX0_after_9 : decode cX0_after 9 = .ok (.iadd, 1) := by decide +kernel
theorem dX0_after_10 : decode cX0_after 10 = .ok (.iaload, 1) := by decide +kernel
theorem dX0_after_11 : decode cX0_after 11 = .ok (.ireturn, 1) := by decide +kernel
theorem okX0_after {E : Ev} {S : Sh} {Z : Option Nat} {Q : Int32 → Hp → Prop} {h : Hp} {a0 : Nat} {x1 : Int32} {x2 : Int32} (hw : wX0_after S h a0 x1 x2 Q) : Ct E yX0_after cX0_after 3 (some .int) 1 24 0 0 S Z h [vr a0, vi x1, vi x2] (qI S Z Q) := by
  refine Ct.of (by decide) (lc := [some (vr a0), some (vi x1), some (vi x2)]) (Nat.le_of_ble_eq_true rfl) rfl (fun X O => ?_)
  unfold wX0_after at hw
  refine g_aload_n O dX0_after_0 rfl ?_
  obtain ⟨c1, hw⟩ := hw
  refine gf_X0_given O dX0_after_1 fl_X0_21 c1 ?_
  refine g_iload_n O dX0_after_4 rfl ?_
  refine g_bipush O dX0_after_5 kb_10 ?_
  refine g_imul O dX0_after_7 ?_
  refine g_iload_n O dX0_after_8 rfl ?_
  refine g_iadd O dX0_after_9 ?_
  obtain ⟨c10, hw⟩ := hw
  refine g_iaload O dX0_after_10 c10.1 c10.2 ?_
  exact g_ireturn O dX0_after_11 ⟨rfl, rfl, _, rfl, hw⟩
theorem dX0_clear_0 : decode cX0_clear 0 = .ok (.aload_n 0, 1) := by decide +kernel
theorem dX0_clear_1 : decode cX0_clear 1 = .ok (.lload_n 1, 1) := by decide +kernel
theorem dX0_clear_2 : decode cX0_clear 2 = .ok (.putfield 24, 3) := by decide +kernel
theorem dX0_clear_5 : decode cX0_clear 5 = .ok (.aload_n 0, 1) := by decide +kernel
theorem dX0_clear_6 : decode cX0_clear 6 = .ok (.bipush (-2), 2) := by decide +kernel
theorem dX0_clear_8 : decode cX0_clear 8 = .ok (.putfield 28, 3) := by decide +kernel
theorem dX0_clear_11 : decode cX0_clear 11 = .ok (.aload_n 0, 1) := by decide +kernel
theorem dX0_clear_12 : decode cX0_clear 12 = .ok (.iconst 0, 1) := by decide +kernel
theorem dX0_clear_13 : decode cX0_clear 13 = .ok (.putfield 32, 3) := by decide +kernel
theorem dX0_clear_16 : decode cX0_clear 16 = .ok (.aload_n 0, 1) := by decide +kernel
theorem dX0_clear_17 : decode cX0_clear 17 = .ok (.iconst 0, 1) := by decide +kernel
theorem dX0_clear_18 : decode cX0_clear 18 = .ok (.putfield 35, 3) := by decide +kernel
theorem dX0_clear_21 : decode cX0_clear 21 = .ok (.aload_n 0, 1) := by decide +kernel
theorem dX0_clear_22 : decode cX0_clear 22 = .ok (.iconst 0, 1) := by decide +kernel
theorem dX0_clear_23 : decode cX0_clear 23 = .ok (.putfield 38, 3) := by decide +kernel
theorem dX0_clear_26 : decode cX0_clear 26 = .ok (.aload_n 0, 1) := by decide +kernel
theorem dX0_clear_27 : decode cX0_clear 27 = .ok (.iconst (-1), 1) := by decide +kernel
theorem dX0_clear_28 : decode cX0_clear 28 = .ok (.putfield 41, 3) := by decide +kernel
theorem dX0_clear_31 : decode cX0_clear 31 = .ok (.aload_n 0, 1) := by decide +kernel
theorem dX0_clear_32 : decode cX0_clear 32 = .ok (.iconst 0, 1) := by decide +kernel
theorem dX0_clear_33 : decode cX0_clear 33 = .ok (.putfield 44, 3) := by decide +kernel
theorem dX0_clear_36 : decode cX0_clear 36 = .ok (.return_, 1) := by decide +kernel
theorem okX0_clear {E : Ev} {S : Sh} {Z : Option Nat} {Q : Hp → Prop} {h : Hp} {a0 : Nat} {j1 : Int64} (hw : wX0_clear S h a0 j1 Q) : Ct E yX0_clear cX0_clear 3 none 1 24 0 0 S Z h [vr a0, vj j1] (qV S Z Q) := by
  refine Ct.of (by decide) (lc := [some (vr a0), some (vj j1), none]) (Nat.le_of_ble_eq_true rfl) rfl (fun X O => ?_)
  unfold wX0_clear at hw
  refine g_aload_n O dX0_clear_0 rfl ?_
  refine g_lload_n O dX0_clear_1 rfl ?_
  obtain ⟨c2, hw⟩ := hw
  refine pf_X0_name O dX0_clear_2 fl_X0_24 c2 ?_
  refine g_nmH (fun h2 e2 => ?_)
  have hw := hw h2 e2
  refine g_aload_n O dX0_clear_5 rfl ?_
  refine g_bipush O dX0_clear_6 kb_m2 ?_
  refine pf_X0_of O dX0_clear_8 fl_X0_28 c2 ?_
  refine g_nmH (fun h8 e8 => ?_)
  have hw := hw h8 e8
  refine g_aload_n O dX0_clear_11 rfl ?_
  refine g_iconst O dX0_clear_12 kv_0 ?_
  refine pf_X0_first O dX0_clear_13 fl_X0_32 c2 ?_
  refine g_nmH (fun h13 e13 => ?_)
  have hw := hw h13 e13
  refine g_aload_n O dX0_clear_16 rfl ?_
  refine g_iconst O dX0_clear_17 kv_0 ?_
  refine pf_X0_last O dX0_clear_18 fl_X0_35 c2 ?_
  refine g_nmH (fun h18 e18 => ?_)
  have hw := hw h18 e18
  refine g_aload_n O dX0_clear_21 rfl ?_
  refine g_iconst O dX0_clear_22 kv_0 ?_
  refine pf_X0_gives O dX0_clear_23 fl_X0_38 c2 ?_
  refine g_nmH (fun h23 e23 => ?_)
  have hw := hw h23 e23
  refine g_aload_n O dX0_clear_26 rfl ?_
  refine g_iconst O dX0_clear_27 kv_m1 ?_
  refine pf_X0_whenCode O dX0_clear_28 fl_X0_41 c2 ?_
  refine g_nmH (fun h28 e28 => ?_)
  have hw := hw h28 e28
  refine g_aload_n O dX0_clear_31 rfl ?_
  refine g_iconst O dX0_clear_32 kv_0 ?_
  refine pf_X0_aside O dX0_clear_33 fl_X0_44 c2 (by decide) ?_
  exact g_return O dX0_clear_36 ⟨rfl, rfl, rfl, hw⟩
theorem dX0_forget_0 : decode cX0_forget 0 = .ok (.aload_n 0, 1) := by decide +kernel
theorem dX0_forget_1 : decode cX0_forget 1 = .ok (.getfield 15, 3) := by decide +kernel
theorem dX0_forget_4 : decode cX0_forget 4 = .ok (.iload_n 1, 1) := by decide +kernel
theorem dX0_forget_5 : decode cX0_forget 5 = .ok (.iconst 0, 1) := by decide +kernel
theorem dX0_forget_6 : decode cX0_forget 6 = .ok (.iastore, 1) := by decide +kernel
theorem dX0_forget_7 : decode cX0_forget 7 = .ok (.aload_n 0, 1) := by decide +kernel
theorem dX0_forget_8 : decode cX0_forget 8 = .ok (.getfield 18, 3) := by decide +kernel
theorem dX0_forget_11 : decode cX0_forget 11 = .ok (.iload_n 1, 1) := by decide +kernel
theorem dX0_forget_12 : decode cX0_forget 12 = .ok (.iconst 0, 1) := by decide +kernel
theorem dX0_forget_13 : decode cX0_forget 13 = .ok (.iastore, 1) := by decide +kernel
theorem dX0_forget_14 : decode cX0_forget 14 = .ok (.return_, 1) := by decide +kernel
theorem okX0_forget {E : Ev} {S : Sh} {Z : Option Nat} {Q : Hp → Prop} {h : Hp} {a0 : Nat} {x1 : Int32} (hw : wX0_forget S h a0 x1 Q) : Ct E yX0_forget cX0_forget 2 none 1 24 0 0 S Z h [vr a0, vi x1] (qV S Z Q) := by
  refine Ct.of (by decide) (lc := [some (vr a0), some (vi x1)]) (Nat.le_of_ble_eq_true rfl) rfl (fun X O => ?_)
  unfold wX0_forget at hw
  refine g_aload_n O dX0_forget_0 rfl ?_
  obtain ⟨c1, hw⟩ := hw
  refine gf_X0_holding O dX0_forget_1 fl_X0_15 c1 ?_
  refine g_iload_n O dX0_forget_4 rfl ?_
  refine g_iconst O dX0_forget_5 kv_0 ?_
  obtain ⟨c6, hw⟩ := hw
  refine g_iastore O dX0_forget_6 c6.1 c6.2 ?_
  refine g_nmH (fun h6 e6 => ?_)
  have hw := hw h6 e6
  refine g_aload_n O dX0_forget_7 rfl ?_
  refine gf_X0_leading O dX0_forget_8 fl_X0_18 c1 ?_
  refine g_iload_n O dX0_forget_11 rfl ?_
  refine g_iconst O dX0_forget_12 kv_0 ?_
  obtain ⟨c13, hw⟩ := hw
  refine g_iastore O dX0_forget_13 c13.1 c13.2 ?_
  exact g_return O dX0_forget_14 ⟨rfl, rfl, rfl, hw⟩
theorem dX0_hasPick_0 : decode cX0_hasPick 0 = .ok (.iload_n 1, 1) := by decide +kernel
theorem dX0_hasPick_1 : decode cX0_hasPick 1 = .ok (.aload_n 0, 1) := by decide +kernel
theorem dX0_hasPick_2 : decode cX0_hasPick 2 = .ok (.getfield 32, 3) := by decide +kernel
theorem dX0_hasPick_5 : decode cX0_hasPick 5 = .ok (.if_icmp .lt 15, 3) := by decide +kernel
theorem dX0_hasPick_8 : decode cX0_hasPick 8 = .ok (.iload_n 1, 1) := by decide +kernel
theorem dX0_hasPick_9 : decode cX0_hasPick 9 = .ok (.aload_n 0, 1) := by decide +kernel
theorem dX0_hasPick_10 : decode cX0_hasPick 10 = .ok (.getfield 35, 3) := by decide +kernel
theorem dX0_hasPick_13 : decode cX0_hasPick 13 = .ok (.if_icmp .gt 7, 3) := by decide +kernel
theorem dX0_hasPick_16 : decode cX0_hasPick 16 = .ok (.iconst 1, 1) := by decide +kernel
theorem dX0_hasPick_17 : decode cX0_hasPick 17 = .ok (.goto 4, 3) := by decide +kernel
theorem dX0_hasPick_20 : decode cX0_hasPick 20 = .ok (.iconst 0, 1) := by decide +kernel
theorem dX0_hasPick_21 : decode cX0_hasPick 21 = .ok (.ireturn, 1) := by decide +kernel
theorem okX0_hasPick {E : Ev} {S : Sh} {Z : Option Nat} {Q : Int32 → Hp → Prop} {h : Hp} {a0 : Nat} {x1 : Int32} (hw : wX0_hasPick S h a0 x1 Q) : Ct E yX0_hasPick cX0_hasPick 2 (some .boolean) 1 24 0 0 S Z h [vr a0, vi x1] (qI S Z Q) := by
  refine Ct.of (by decide) (lc := [some (vr a0), some (vi x1)]) (Nat.le_of_ble_eq_true rfl) rfl (fun X O => ?_)
  unfold wX0_hasPick at hw
  refine g_iload_n O dX0_hasPick_0 rfl ?_
  refine g_aload_n O dX0_hasPick_1 rfl ?_
  obtain ⟨c2, hw⟩ := hw
  refine gf_X0_first O dX0_hasPick_2 fl_X0_32 c2 ?_
  refine g_icmp_lt (tgt := 20) O dX0_hasPick_5 rfl (fun q5 => ?_) (fun q5 => ?_)
  · have hw := hw.1 q5
    refine g_iconst O dX0_hasPick_20 kv_0 ?_
    exact g_zreturn O dX0_hasPick_21 (by decide) ⟨rfl, rfl, _, rfl, hw⟩
  · have hw := hw.2 q5
    refine g_iload_n O dX0_hasPick_8 rfl ?_
    refine g_aload_n O dX0_hasPick_9 rfl ?_
    refine gf_X0_last O dX0_hasPick_10 fl_X0_35 c2 ?_
    refine g_icmp_gt (tgt := 20) O dX0_hasPick_13 rfl (fun q13 => ?_) (fun q13 => ?_)
    · have hw := hw.1 q13
      refine g_iconst O dX0_hasPick_20 kv_0 ?_
      exact g_zreturn O dX0_hasPick_21 (by decide) ⟨rfl, rfl, _, rfl, hw⟩
    · have hw := hw.2 q13
      refine g_iconst O dX0_hasPick_16 kv_1 ?_
      refine g_goto (tgt := 21) O dX0_hasPick_17 rfl ?_
      exact g_zreturn O dX0_hasPick_21 (by decide) ⟨rfl, rfl, _, rfl, hw⟩
theorem dX0_init_0 : decode cX0_init 0 = .ok (.aload_n 0, 1) := by decide +kernel
theorem dX0_init_1 : decode cX0_init 1 = .ok (.invokespecial 3, 3) := by decide +kernel
theorem dX0_init_4 : decode cX0_init 4 = .ok (.aload_n 0, 1) := by decide +kernel
theorem dX0_init_5 : decode cX0_init 5 = .ok (.iconst 3, 1) := by decide +kernel
theorem dX0_init_6 : decode cX0_init 6 = .ok (.newarray .int, 2) := by decide +kernel
theorem dX0_init_8 : decode cX0_init 8 = .ok (.putfield 9, 3) := by decide +kernel
theorem dX0_init_11 : decode cX0_init 11 = .ok (.aload_n 0, 1) := by decide +kernel
theorem dX0_init_12 : decode cX0_init 12 = .ok (.bipush 100, 2) := by decide +kernel
theorem dX0_init_14 : decode cX0_init 14 = .ok (.newarray .int, 2) := by decide +kernel
theorem dX0_init_16 : decode cX0_init 16 = .ok (.putfield 15, 3) := by decide +kernel
theorem dX0_init_19 : decode cX0_init 19 = .ok (.aload_n 0, 1) := by decide +kernel
theorem dX0_init_20 : decode cX0_init 20 = .ok (.bipush 100, 2) := by decide +kernel
theorem dX0_init_22 : decode cX0_init 22 = .ok (.newarray .int, 2) := by decide +kernel
theorem dX0_init_24 : decode cX0_init 24 = .ok (.putfield 18, 3) := by decide +kernel
theorem dX0_init_27 : decode cX0_init 27 = .ok (.aload_n 0, 1) := by decide +kernel
theorem dX0_init_28 : decode cX0_init 28 = .ok (.sipush 1000, 3) := by decide +kernel
theorem dX0_init_31 : decode cX0_init 31 = .ok (.newarray .int, 2) := by decide +kernel
theorem dX0_init_33 : decode cX0_init 33 = .ok (.putfield 21, 3) := by decide +kernel
theorem dX0_init_36 : decode cX0_init 36 = .ok (.return_, 1) := by decide +kernel
theorem okX0_init {E : Ev} {Q : Sh → Nat → Hp → Prop} {S : Sh} {z : Nat} {h : Hp} {a0 : Nat} (hw : wX0_init S z h a0 Q) : Ct E yX0_init cX0_init 1 none 1 24 4 1203 S (some z) h [vr a0] (qA Q) := by
  refine Ct.of (by decide) (lc := [some (vr a0)]) (Nat.le_of_ble_eq_true rfl) rfl (fun X O => ?_)
  unfold wX0_init at hw
  refine g_aload_n O dX0_init_0 rfl ?_
  obtain ⟨c1, hw⟩ := hw
  refine g_objInit O dX0_init_1 ml_X0_3 c1 rfl rfl (Nat.le_of_ble_eq_true rfl) ⟨by decide, by decide⟩ ?_
  refine g_aload_n O dX0_init_4 rfl ?_
  refine g_iconst O dX0_init_5 kv_3 ?_
  obtain ⟨c6a, hw⟩ := hw
  obtain ⟨c6b, c6c, hw⟩ := hw
  refine g_newarray (atype := .int) (t := 0) (N := 3) O rfl (fun I J R j h1 h2 h3 => by simp [aval, h1, h2, newarray.typeOf, defaultValue]) (fun U cA q => q) dX0_init_6 ac_int (by decide) (by decide) (by decide) c6a c6b c6c ?_
  obtain ⟨c8, hw⟩ := hw
  refine pf_X0_giveCode O rfl rfl dX0_init_8 fl_X0_9 c8 ?_
  refine g_nmH (fun h8 e8 => ?_)
  have hw := hw h8 e8
  refine g_aload_n O dX0_init_11 rfl ?_
  refine g_bipush O dX0_init_12 kb_100 ?_
  obtain ⟨c14a, hw⟩ := hw
  obtain ⟨c14b, c14c, hw⟩ := hw
  refine g_newarray (atype := .int) (t := 0) (N := 100) O rfl (fun I J R j h1 h2 h3 => by simp [aval, h1, h2, newarray.typeOf, defaultValue]) (fun U cA q => q) dX0_init_14 ac_int (by decide) (by decide) (by decide) c14a c14b c14c ?_
  obtain ⟨c16, hw⟩ := hw
  refine pf_X0_holding O rfl rfl dX0_init_16 fl_X0_15 c16 ?_
  refine g_nmH (fun h16 e16 => ?_)
  have hw := hw h16 e16
  refine g_aload_n O dX0_init_19 rfl ?_
  refine g_bipush O dX0_init_20 kb_100 ?_
  obtain ⟨c22a, hw⟩ := hw
  obtain ⟨c22b, c22c, hw⟩ := hw
  refine g_newarray (atype := .int) (t := 0) (N := 100) O rfl (fun I J R j h1 h2 h3 => by simp [aval, h1, h2, newarray.typeOf, defaultValue]) (fun U cA q => q) dX0_init_22 ac_int (by decide) (by decide) (by decide) c22a c22b c22c ?_
  obtain ⟨c24, hw⟩ := hw
  refine pf_X0_leading O rfl rfl dX0_init_24 fl_X0_18 c24 ?_
  refine g_nmH (fun h24 e24 => ?_)
  have hw := hw h24 e24
  refine g_aload_n O dX0_init_27 rfl ?_
  refine g_sipush O dX0_init_28 ks_1000 ?_
  obtain ⟨c31a, hw⟩ := hw
  obtain ⟨c31b, c31c, hw⟩ := hw
  refine g_newarray (atype := .int) (t := 0) (N := 1000) O rfl (fun I J R j h1 h2 h3 => by simp [aval, h1, h2, newarray.typeOf, defaultValue]) (fun U cA q => q) dX0_init_31 ac_int (by decide) (by decide) (by decide) c31a c31b c31c ?_
  obtain ⟨c33, hw⟩ := hw
  refine pf_X0_given O rfl rfl dX0_init_33 fl_X0_21 c33 ?_
  obtain ⟨c36a, c36b, hw⟩ := hw
  exact g_widen c36a c36b (g_return O dX0_init_36 ⟨_, rfl, rfl, hw⟩)
theorem dX0_picksAt_0 : decode cX0_picksAt 0 = .ok (.aload_n 0, 1) := by decide +kernel
theorem dX0_picksAt_1 : decode cX0_picksAt 1 = .ok (.getfield 44, 3) := by decide +kernel
theorem dX0_picksAt_4 : decode cX0_picksAt 4 = .ok (.ifCond .eq 7, 3) := by decide +kernel
theorem dX0_picksAt_7 : decode cX0_picksAt 7 = .ok (.iconst 0, 1) := by decide +kernel
theorem dX0_picksAt_8 : decode cX0_picksAt 8 = .ok (.goto 9, 3) := by decide +kernel
theorem dX0_picksAt_11 : decode cX0_picksAt 11 = .ok (.aload_n 0, 1) := by decide +kernel
theorem dX0_picksAt_12 : decode cX0_picksAt 12 = .ok (.getfield 15, 3) := by decide +kernel
theorem dX0_picksAt_15 : decode cX0_picksAt 15 = .ok (.iload_n 1, 1) := by decide +kernel
theorem dX0_picksAt_16 : decode cX0_picksAt 16 = .ok (.iaload, 1) := by decide +kernel
theorem dX0_picksAt_17 : decode cX0_picksAt 17 = .ok (.ireturn, 1) := by decide +kernel
theorem okX0_picksAt {E : Ev} {S : Sh} {Z : Option Nat} {Q : Int32 → Hp → Prop} {h : Hp} {a0 : Nat} {x1 : Int32} (hw : wX0_picksAt S h a0 x1 Q) : Ct E yX0_picksAt cX0_picksAt 2 (some .int) 1 24 0 0 S Z h [vr a0, vi x1] (qI S Z Q) := by
  refine Ct.of (by decide) (lc := [some (vr a0), some (vi x1)]) (Nat.le_of_ble_eq_true rfl) rfl (fun X O => ?_)
  unfold wX0_picksAt at hw
  refine g_aload_n O dX0_picksAt_0 rfl ?_
  obtain ⟨c1, hw⟩ := hw
  refine gf_X0_aside O dX0_picksAt_1 fl_X0_44 c1 ?_
  refine g_if_eq (tgt := 11) O dX0_picksAt_4 rfl (fun q4 => ?_) (fun q4 => ?_)
  · have hw := hw.1 q4
    refine g_aload_n O dX0_picksAt_11 rfl ?_
    refine gf_X0_holding O dX0_picksAt_12 fl_X0_15 c1 ?_
    refine g_iload_n O dX0_picksAt_15 rfl ?_
    obtain ⟨c16, hw⟩ := hw
    refine g_iaload O dX0_picksAt_16 c16.1 c16.2 ?_
    exact g_ireturn O dX0_picksAt_17 ⟨rfl, rfl, _, rfl, hw⟩
  · have hw := hw.2 q4
    refine g_iconst O dX0_picksAt_7 kv_0 ?_
    refine g_goto (tgt := 17) O dX0_picksAt_8 rfl ?_
    exact g_ireturn O dX0_picksAt_17 ⟨rfl, rfl, _, rfl, hw⟩
theorem dX0_stepsAt_0 : decode cX0_stepsAt 0 = .ok (.aload_n 0, 1) := by decide +kernel
theorem dX0_stepsAt_1 : decode cX0_stepsAt 1 = .ok (.getfield 44, 3) := by decide +kernel
theorem dX0_stepsAt_4 : decode cX0_stepsAt 4 = .ok (.ifCond .eq 7, 3) := by decide +kernel
theorem dX0_stepsAt_7 : decode cX0_stepsAt 7 = .ok (.iconst 0, 1) := by decide +kernel
theorem dX0_stepsAt_8 : decode cX0_stepsAt 8 = .ok (.goto 9, 3) := by decide +kernel
theorem dX0_stepsAt_11 : decode cX0_stepsAt 11 = .ok (.aload_n 0, 1) := by decide +kernel
theorem dX0_stepsAt_12 : decode cX0_stepsAt 12 = .ok (.getfield 18, 3) := by decide +kernel
theorem dX0_stepsAt_15 : decode cX0_stepsAt 15 = .ok (.iload_n 1, 1) := by decide +kernel
theorem dX0_stepsAt_16 : decode cX0_stepsAt 16 = .ok (.iaload, 1) := by decide +kernel
theorem dX0_stepsAt_17 : decode cX0_stepsAt 17 = .ok (.ireturn, 1) := by decide +kernel
theorem okX0_stepsAt {E : Ev} {S : Sh} {Z : Option Nat} {Q : Int32 → Hp → Prop} {h : Hp} {a0 : Nat} {x1 : Int32} (hw : wX0_stepsAt S h a0 x1 Q) : Ct E yX0_stepsAt cX0_stepsAt 2 (some .int) 1 24 0 0 S Z h [vr a0, vi x1] (qI S Z Q) := by
  refine Ct.of (by decide) (lc := [some (vr a0), some (vi x1)]) (Nat.le_of_ble_eq_true rfl) rfl (fun X O => ?_)
  unfold wX0_stepsAt at hw
  refine g_aload_n O dX0_stepsAt_0 rfl ?_
  obtain ⟨c1, hw⟩ := hw
  refine gf_X0_aside O dX0_stepsAt_1 fl_X0_44 c1 ?_
  refine g_if_eq (tgt := 11) O dX0_stepsAt_4 rfl (fun q4 => ?_) (fun q4 => ?_)
  · have hw := hw.1 q4
    refine g_aload_n O dX0_stepsAt_11 rfl ?_
    refine gf_X0_leading O dX0_stepsAt_12 fl_X0_18 c1 ?_
    refine g_iload_n O dX0_stepsAt_15 rfl ?_
    obtain ⟨c16, hw⟩ := hw
    refine g_iaload O dX0_stepsAt_16 c16.1 c16.2 ?_
    exact g_ireturn O dX0_stepsAt_17 ⟨rfl, rfl, _, rfl, hw⟩
  · have hw := hw.2 q4
    refine g_iconst O dX0_stepsAt_7 kv_0 ?_
    refine g_goto (tgt := 17) O dX0_stepsAt_8 rfl ?_
    exact g_ireturn O dX0_stepsAt_17 ⟨rfl, rfl, _, rfl, hw⟩
theorem dX7_put_0 : decode cX7_put 0 = .ok (.iload_n 1, 1) := by decide +kernel
theorem dX7_put_1 : decode cX7_put 1 = .ok (.bipush 64, 2) := by decide +kernel
theorem dX7_put_3 : decode cX7_put 3 = .ok (.if_icmp .ge 18, 3) := by decide +kernel
theorem dX7_put_6 : decode cX7_put 6 = .ok (.aload_n 0, 1) := by decide +kernel
theorem dX7_put_7 : decode cX7_put 7 = .ok (.dup, 1) := by decide +kernel
theorem dX7_put_8 : decode cX7_put 8 = .ok (.getfield 9, 3) := by decide +kernel
theorem dX7_put_11 : decode cX7_put 11 = .ok (.lconst 1, 1) := by decide +kernel
theorem dX7_put_12 : decode cX7_put 12 = .ok (.iload_n 1, 1) := by decide +kernel
theorem dX7_put_13 : decode cX7_put 13 = .ok (.lshl, 1) := by decide +kernel
theorem dX7_put_14 : decode cX7_put 14 = .ok (.lor, 1) := by decide +kernel
theorem dX7_put_15 : decode cX7_put 15 = .ok (.putfield 9, 3) := by decide +kernel
theorem dX7_put_18 : decode cX7_put 18 = .ok (.goto 18, 3) := by decide +kernel
theorem dX7_put_21 : decode cX7_put 21 = .ok (.aload_n 0, 1) := by decide +kernel
theorem dX7_put_22 : decode cX7_put 22 = .ok (.dup, 1) := by decide +kernel
theorem dX7_put_23 : decode cX7_put 23 = .ok (.getfield 15, 3) := by decide +kernel
theorem dX7_put_26 : decode cX7_put 26 = .ok (.lconst 1, 1) := by decide +kernel
theorem dX7_put_27 : decode cX7_put 27 = .ok (.iload_n 1, 1) := by decide +kernel
theorem dX7_put_28 : decode cX7_put 28 = .ok (.bipush 64, 2) := by decide +kernel
theorem dX7_put_30 : decode cX7_put 30 = .ok (.isub, 1) := by decide +kernel
theorem dX7_put_31 : decode cX7_put 31 = .ok (.lshl, 1) := by decide +kernel
theorem dX7_put_32 : decode cX7_put 32 = .ok (.lor, 1) := by decide +kernel
theorem dX7_put_33 : decode cX7_put 33 = .ok (.putfield 15, 3) := by decide +kernel
theorem dX7_put_36 : decode cX7_put 36 = .ok (.return_, 1) := by decide +kernel
theorem okX7_put {E : Ev} {S : Sh} {Z : Option Nat} {Q : Hp → Prop} {h : Hp} {a0 : Nat} {x1 : Int32} (hw : wX7_put S h a0 x1 Q) : Ct E yX7_put cX7_put 2 none 1 24 0 0 S Z h [vr a0, vi x1] (qV S Z Q) := by
  refine Ct.of (by decide) (lc := [some (vr a0), some (vi x1)]) (Nat.le_of_ble_eq_true rfl) rfl (fun X O => ?_)
  unfold wX7_put at hw
  refine g_iload_n O dX7_put_0 rfl ?_
  refine g_bipush O dX7_put_1 kb_64 ?_
  refine g_icmp_ge (tgt := 21) O dX7_put_3 rfl (fun q3 => ?_) (fun q3 => ?_)
  · have hw := hw.1 q3
    refine g_aload_n O dX7_put_21 rfl ?_
    refine g_dup O dX7_put_22 rfl ?_
    obtain ⟨c23, hw⟩ := hw
    refine gf_X7_high O dX7_put_23 fl_X7_15 c23 ?_
    refine g_lconst O dX7_put_26 kl_1 ?_
    refine g_iload_n O dX7_put_27 rfl ?_
    refine g_bipush O dX7_put_28 kb_64 ?_
    refine g_isub O dX7_put_30 ?_
    refine g_lshl O dX7_put_31 ?_
    refine g_lor O dX7_put_32 ?_
    refine pf_X7_high O dX7_put_33 fl_X7_15 c23 ?_
    exact g_return O dX7_put_36 ⟨rfl, rfl, rfl, hw⟩
  · have hw := hw.2 q3
    refine g_aload_n O dX7_put_6 rfl ?_
    refine g_dup O dX7_put_7 rfl ?_
    obtain ⟨c8, hw⟩ := hw
    refine gf_X7_low O dX7_put_8 fl_X7_9 c8 ?_
    refine g_lconst O dX7_put_11 kl_1 ?_
    refine g_iload_n O dX7_put_12 rfl ?_
    refine g_lshl O dX7_put_13 ?_
    refine g_lor O dX7_put_14 ?_
    refine pf_X7_low O dX7_put_15 fl_X7_9 c8 ?_
    refine g_goto (tgt := 36) O dX7_put_18 rfl ?_
    exact g_return O dX7_put_36 ⟨rfl, rfl, rfl, hw⟩
theorem dX0_putGiven_0 : decode cX0_putGiven 0 = .ok (.aload_n 0, 1) := by decide +kernel
theorem dX0_putGiven_1 : decode cX0_putGiven 1 = .ok (.iload_n 1, 1) := by decide +kernel
theorem dX0_putGiven_2 : decode cX0_putGiven 2 = .ok (.invokevirtual 48, 3) := by decide +kernel
theorem dX0_putGiven_5 : decode cX0_putGiven 5 = .ok (.istore_n 3, 1) := by decide +kernel
theorem dX0_putGiven_6 : decode cX0_putGiven 6 = .ok (.iconst 0, 1) := by decide +kernel
theorem dX0_putGiven_7 : decode cX0_putGiven 7 = .ok (.istore 4, 2) := by decide +kernel
theorem dX0_putGiven_9 : decode cX0_putGiven 9 = .ok (.iload 4, 2) := by decide +kernel
theorem dX0_putGiven_11 : decode cX0_putGiven 11 = .ok (.bipush 10, 2) := by decide +kernel
theorem dX0_putGiven_13 : decode cX0_putGiven 13 = .ok (.if_icmp .ge 29, 3) := by decide +kernel
theorem dX0_putGiven_16 : decode cX0_putGiven 16 = .ok (.iload_n 3, 1) := by decide +kernel
theorem dX0_putGiven_17 : decode cX0_putGiven 17 = .ok (.iload 4, 2) := by decide +kernel
theorem dX0_putGiven_19 : decode cX0_putGiven 19 = .ok (.ishr, 1) := by decide +kernel
theorem dX0_putGiven_20 : decode cX0_putGiven 20 = .ok (.iconst 1, 1) := by decide +kernel
theorem dX0_putGiven_21 : decode cX0_putGiven 21 = .ok (.iand, 1) := by decide +kernel
theorem dX0_putGiven_22 : decode cX0_putGiven 22 = .ok (.ifCond .eq 14, 3) := by decide +kernel
theorem dX0_putGiven_25 : decode cX0_putGiven 25 = .ok (.aload_n 2, 1) := by decide +kernel
theorem dX0_putGiven_26 : decode cX0_putGiven 26 = .ok (.aload_n 0, 1) := by decide +kernel
theorem dX0_putGiven_27 : decode cX0_putGiven 27 = .ok (.iload_n 1, 1) := by decide +kernel
theorem dX0_putGiven_28 : decode cX0_putGiven 28 = .ok (.iload 4, 2) := by decide +kernel
theorem dX0_putGiven_30 : decode cX0_putGiven 30 = .ok (.invokevirtual 52, 3) := by decide +kernel
theorem dX0_putGiven_33 : decode cX0_putGiven 33 = .ok (.invokevirtual 56, 3) := by decide +kernel
theorem dX0_putGiven_36 : decode cX0_putGiven 36 = .ok (.iinc 4 1, 3) := by decide +kernel
theorem dX0_putGiven_39 : decode cX0_putGiven 39 = .ok (.goto (-30), 3) := by decide +kernel
theorem dX0_putGiven_42 : decode cX0_putGiven 42 = .ok (.return_, 1) := by decide +kernel
theorem okX0_putGiven_9 {E : Ev} {X : Cx} {S : Sh} {Z : Option Nat} {Q : Hp → Prop} {a0 : Nat} {x1 : Int32} {a2 : Nat} {x3 : Int32} (O : Ok E X yX0_putGiven cX0_putGiven 5 none 2 46 0 0 (qV S Z Q)) : ∀ (n : Nat) (h : Hp) (x4 : Int32), wX0_putGiven_9 S a0 x1 a2 x3 Q n h x4 → G E X 0 0 S Z h 9 [some (vr a0), some (vi x1), some (vr a2), some (vi x3), some (vi x4)] [] := by
  intro n
  induction n with
  | zero => intro h x4 hw; exact hw.elim
  | succ n hB9 =>
    intro h x4 hw
    have hw : wX0_putGiven_9b S a0 x1 a2 x3 Q (wX0_putGiven_9 S a0 x1 a2 x3 Q n) h x4 := hw
    unfold wX0_putGiven_9b at hw
    refine g_iload O dX0_putGiven_9 rfl ?_
    refine g_bipush O dX0_putGiven_11 kb_10 ?_
    refine g_icmp_ge (tgt := 42) O dX0_putGiven_13 rfl (fun q13 => ?_) (fun q13 => ?_)
    · have hw := hw.1 q13
      exact g_return O dX0_putGiven_42 ⟨rfl, rfl, rfl, hw⟩
    · have hw := hw.2 q13
      refine g_iload_n O dX0_putGiven_16 rfl ?_
      refine g_iload O dX0_putGiven_17 rfl ?_
      refine g_ishr O dX0_putGiven_19 ?_
      refine g_iconst O dX0_putGiven_20 kv_1 ?_
      refine g_iand O dX0_putGiven_21 ?_
      refine g_if_eq (tgt := 36) O dX0_putGiven_22 rfl (fun q22 => ?_) (fun q22 => ?_)
      · have hw := hw.1 q22
        refine g_iinc (lc' := [some (vr a0), some (vi x1), some (vr a2), some (vi x3), some (vi (x4 + (1 : Int32)))]) O dX0_putGiven_36 rfl kv_1 rfl rfl ?_
        refine g_goto (tgt := 9) O dX0_putGiven_39 rfl ?_
        exact hB9 _ _ hw
      · have hw := hw.2 q22
        refine g_aload_n O dX0_putGiven_25 rfl ?_
        refine g_aload_n O dX0_putGiven_26 rfl ?_
        refine g_iload_n O dX0_putGiven_27 rfl ?_
        refine g_iload O dX0_putGiven_28 rfl ?_
        obtain ⟨c30, hw⟩ := hw
        refine g_callV (As := [vi x1, vi x4]) (rest := [vr a2]) O ci_0 rfl dX0_putGiven_30 ml_X0_52 im_yX0_after se_yX0_after ini_X0 co_yX0_after yo_yX0_after c30 rfl rfl (Nat.le_of_ble_eq_true rfl) ⟨by decide, by decide, by decide, by decide⟩ (okX0_after hw) (k_I fun r30 h30 hw => ?_)
        obtain ⟨c33, hw⟩ := hw
        refine g_callV (As := [vi r30]) (rest := []) O ci_7 rfl dX0_putGiven_33 ml_X0_56 im_yX7_put se_yX7_put ini_X7 co_yX7_put yo_yX7_put c33 rfl rfl (Nat.le_of_ble_eq_true rfl) ⟨by decide, by decide, by decide, by decide⟩ (okX7_put hw) (k_V fun h33 hw => ?_)
        refine g_iinc (lc' := [some (vr a0), some (vi x1), some (vr a2), some (vi x3), some (vi (x4 + (1 : Int32)))]) O dX0_putGiven_36 rfl kv_1 rfl rfl ?_
        refine g_goto (tgt := 9) O dX0_putGiven_39 rfl ?_
        exact hB9 _ _ hw
theorem okX0_putGiven {E : Ev} {S : Sh} {Z : Option Nat} {Q : Hp → Prop} {h : Hp} {a0 : Nat} {x1 : Int32} {a2 : Nat} (hw : wX0_putGiven S h a0 x1 a2 Q) : Ct E yX0_putGiven cX0_putGiven 5 none 2 46 0 0 S Z h [vr a0, vi x1, vr a2] (qV S Z Q) := by
  refine Ct.of (by decide) (lc := [some (vr a0), some (vi x1), some (vr a2), none, none]) (Nat.le_of_ble_eq_true rfl) rfl (fun X O => ?_)
  unfold wX0_putGiven at hw
  refine g_aload_n O dX0_putGiven_0 rfl ?_
  refine g_iload_n O dX0_putGiven_1 rfl ?_
  obtain ⟨c2, hw⟩ := hw
  refine g_callV (As := [vi x1]) (rest := []) O ci_0 rfl dX0_putGiven_2 ml_X0_48 im_yX0_stepsAt se_yX0_stepsAt ini_X0 co_yX0_stepsAt yo_yX0_stepsAt c2 rfl rfl (Nat.le_of_ble_eq_true rfl) ⟨by decide, by decide, by decide, by decide⟩ (okX0_stepsAt hw) (k_I fun r2 h2 hw => ?_)
  refine g_istore_n (lc' := [some (vr a0), some (vi x1), some (vr a2), some (vi r2), none]) O dX0_putGiven_5 rfl (Nat.le_of_ble_eq_true rfl) rfl ?_
  refine g_iconst O dX0_putGiven_6 kv_0 ?_
  refine g_istore (lc' := [some (vr a0), some (vi x1), some (vr a2), some (vi r2), some (vi (0 : Int32))]) O dX0_putGiven_7 rfl (Nat.le_of_ble_eq_true rfl) rfl ?_
  obtain ⟨n9, hw⟩ := hw
  exact okX0_putGiven_9 O n9 _ _ hw
theorem dX0_settleAt_0 : decode cX0_settleAt 0 = .ok (.aload_n 0, 1) := by decide +kernel
theorem dX0_settleAt_1 : decode cX0_settleAt 1 = .ok (.getfield 21, 3) := by decide +kernel
theorem dX0_settleAt_4 : decode cX0_settleAt 4 = .ok (.iload_n 1, 1) := by decide +kernel
theorem dX0_settleAt_5 : decode cX0_settleAt 5 = .ok (.bipush 10, 2) := by decide +kernel
theorem dX0_settleAt_7 : decode cX0_settleAt 7 = .ok (.imul, 1) := by decide +kernel
theorem dX0_settleAt_8 : decode cX0_settleAt 8 = .ok (.iload_n 2, 1) := by decide +kernel
theorem dX0_settleAt_9 : decode cX0_settleAt 9 = .ok (.iadd, 1) := by decide +kernel
theorem dX0_settleAt_10 : decode cX0_settleAt 10 = .ok (.iload 4, 2) := by decide +kernel
theorem dX0_settleAt_12 : decode cX0_settleAt 12 = .ok (.iastore, 1) := by decide +kernel
theorem dX0_settleAt_13 : decode cX0_settleAt 13 = .ok (.iload_n 3, 1) := by decide +kernel
theorem dX0_settleAt_14 : decode cX0_settleAt 14 = .ok (.ifCond .eq 36, 3) := by decide +kernel
theorem dX0_settleAt_17 : decode cX0_settleAt 17 = .ok (.aload_n 0, 1) := by decide +kernel
theorem dX0_settleAt_18 : decode cX0_settleAt 18 = .ok (.getfield 15, 3) := by decide +kernel
theorem dX0_settleAt_21 : decode cX0_settleAt 21 = .ok (.iload_n 1, 1) := by decide +kernel
theorem dX0_settleAt_22 : decode cX0_settleAt 22 = .ok (.dup2, 1) := by decide +kernel
theorem dX0_settleAt_23 : decode cX0_settleAt 23 = .ok (.iaload, 1) := by decide +kernel
theorem dX0_settleAt_24 : decode cX0_settleAt 24 = .ok (.iconst 1, 1) := by decide +kernel
theorem dX0_settleAt_25 : decode cX0_settleAt 25 = .ok (.iload_n 2, 1) := by decide +kernel
theorem dX0_settleAt_26 : decode cX0_settleAt 26 = .ok (.ishl, 1) := by decide +kernel
theorem dX0_settleAt_27 : decode cX0_settleAt 27 = .ok (.ior, 1) := by decide +kernel
theorem dX0_settleAt_28 : decode cX0_settleAt 28 = .ok (.iastore, 1) := by decide +kernel
theorem dX0_settleAt_29 : decode cX0_settleAt 29 = .ok (.aload_n 0, 1) := by decide +kernel
theorem dX0_settleAt_30 : decode cX0_settleAt 30 = .ok (.getfield 18, 3) := by decide +kernel
theorem dX0_settleAt_33 : decode cX0_settleAt 33 = .ok (.iload_n 1, 1) := by decide +kernel
theorem dX0_settleAt_34 : decode cX0_settleAt 34 = .ok (.dup2, 1) := by decide +kernel
theorem dX0_settleAt_35 : decode cX0_settleAt 35 = .ok (.iaload, 1) := by decide +kernel
theorem dX0_settleAt_36 : decode cX0_settleAt 36 = .ok (.iload 4, 2) := by decide +kernel
theorem dX0_settleAt_38 : decode cX0_settleAt 38 = .ok (.ifCond .lt 9, 3) := by decide +kernel
theorem dX0_settleAt_41 : decode cX0_settleAt 41 = .ok (.iconst 1, 1) := by decide +kernel
theorem dX0_settleAt_42 : decode cX0_settleAt 42 = .ok (.iload_n 2, 1) := by decide +kernel
theorem dX0_settleAt_43 : decode cX0_settleAt 43 = .ok (.ishl, 1) := by decide +kernel
theorem dX0_settleAt_44 : decode cX0_settleAt 44 = .ok (.goto 4, 3) := by decide +kernel
theorem dX0_settleAt_47 : decode cX0_settleAt 47 = .ok (.iconst 0, 1) := by decide +kernel
theorem dX0_settleAt_48 : decode cX0_settleAt 48 = .ok (.ior, 1) := by decide +kernel
theorem dX0_settleAt_49 : decode cX0_settleAt 49 = .ok (.iastore, 1) := by decide +kernel
theorem dX0_settleAt_50 : decode cX0_settleAt 50 = .ok (.return_, 1) := by decide +kernel
theorem okX0_settleAt {E : Ev} {S : Sh} {Z : Option Nat} {Q : Hp → Prop} {h : Hp} {a0 : Nat} {x1 : Int32} {x2 : Int32} {x3 : Int32} {x4 : Int32} (hw : wX0_settleAt S h a0 x1 x2 x3 x4 Q) : Ct E yX0_settleAt cX0_settleAt 5 none 1 24 0 0 S Z h [vr a0, vi x1, vi x2, vi x3, vi x4] (qV S Z Q) := by
  refine Ct.of (by decide) (lc := [some (vr a0), some (vi x1), some (vi x2), some (vi x3), some (vi x4)]) (Nat.le_of_ble_eq_true rfl) rfl (fun X O => ?_)
  unfold wX0_settleAt at hw
  refine g_aload_n O dX0_settleAt_0 rfl ?_
  obtain ⟨c1, hw⟩ := hw
  refine gf_X0_given O dX0_settleAt_1 fl_X0_21 c1 ?_
  refine g_iload_n O dX0_settleAt_4 rfl ?_
  refine g_bipush O dX0_settleAt_5 kb_10 ?_
  refine g_imul O dX0_settleAt_7 ?_
  refine g_iload_n O dX0_settleAt_8 rfl ?_
  refine g_iadd O dX0_settleAt_9 ?_
  refine g_iload O dX0_settleAt_10 rfl ?_
  obtain ⟨c12, hw⟩ := hw
  refine g_iastore O dX0_settleAt_12 c12.1 c12.2 ?_
  refine g_nmH (fun h12 e12 => ?_)
  have hw := hw h12 e12
  refine g_iload_n O dX0_settleAt_13 rfl ?_
  refine g_if_eq (tgt := 50) O dX0_settleAt_14 rfl (fun q14 => ?_) (fun q14 => ?_)
  · have hw := hw.1 q14
    exact g_return O dX0_settleAt_50 ⟨rfl, rfl, rfl, hw⟩
  · have hw := hw.2 q14
    refine g_aload_n O dX0_settleAt_17 rfl ?_
    refine gf_X0_holding O dX0_settleAt_18 fl_X0_15 c1 ?_
    refine g_iload_n O dX0_settleAt_21 rfl ?_
    refine g_dup2 O dX0_settleAt_22 rfl rfl ?_
    obtain ⟨c23, hw⟩ := hw
    refine g_iaload O dX0_settleAt_23 c23.1 c23.2 ?_
    refine g_iconst O dX0_settleAt_24 kv_1 ?_
    refine g_iload_n O dX0_settleAt_25 rfl ?_
    refine g_ishl O dX0_settleAt_26 ?_
    refine g_ior O dX0_settleAt_27 ?_
    refine g_iastore O dX0_settleAt_28 c23.1 c23.2 ?_
    refine g_nmH (fun h28 e28 => ?_)
    have hw := hw h28 e28
    refine g_aload_n O dX0_settleAt_29 rfl ?_
    refine gf_X0_leading O dX0_settleAt_30 fl_X0_18 c1 ?_
    refine g_iload_n O dX0_settleAt_33 rfl ?_
    refine g_dup2 O dX0_settleAt_34 rfl rfl ?_
    obtain ⟨c35, hw⟩ := hw
    refine g_iaload O dX0_settleAt_35 c35.1 c35.2 ?_
    refine g_iload O dX0_settleAt_36 rfl ?_
    refine g_if_lt (tgt := 47) O dX0_settleAt_38 rfl (fun q38 => ?_) (fun q38 => ?_)
    · have hw := hw.1 q38
      refine g_iconst O dX0_settleAt_47 kv_0 ?_
      refine g_ior O dX0_settleAt_48 ?_
      refine g_iastore O dX0_settleAt_49 c35.1 c35.2 ?_
      exact g_return O dX0_settleAt_50 ⟨rfl, rfl, rfl, hw⟩
    · have hw := hw.2 q38
      refine g_iconst O dX0_settleAt_41 kv_1 ?_
      refine g_iload_n O dX0_settleAt_42 rfl ?_
      refine g_ishl O dX0_settleAt_43 ?_
      refine g_goto (tgt := 48) O dX0_settleAt_44 rfl ?_
      refine g_ior O dX0_settleAt_48 ?_
      refine g_iastore O dX0_settleAt_49 c35.1 c35.2 ?_
      exact g_return O dX0_settleAt_50 ⟨rfl, rfl, rfl, hw⟩
theorem dX0_told_0 : decode cX0_told 0 = .ok (.iload_n 1, 1) := by decide +kernel
theorem dX0_told_1 : decode cX0_told 1 = .ok (.tableswitch 51 0 3 #[31, 36, 41, 46], 31) := by decide +kernel
theorem dX0_told_32 : decode cX0_told 32 = .ok (.aload_n 0, 1) := by decide +kernel
theorem dX0_told_33 : decode cX0_told 33 = .ok (.getfield 28, 3) := by decide +kernel
theorem dX0_told_36 : decode cX0_told 36 = .ok (.ireturn, 1) := by decide +kernel
theorem dX0_told_37 : decode cX0_told 37 = .ok (.aload_n 0, 1) := by decide +kernel
theorem dX0_told_38 : decode cX0_told 38 = .ok (.getfield 32, 3) := by decide +kernel
theorem dX0_told_41 : decode cX0_told 41 = .ok (.ireturn, 1) := by decide +kernel
theorem dX0_told_42 : decode cX0_told 42 = .ok (.aload_n 0, 1) := by decide +kernel
theorem dX0_told_43 : decode cX0_told 43 = .ok (.getfield 35, 3) := by decide +kernel
theorem dX0_told_46 : decode cX0_told 46 = .ok (.ireturn, 1) := by decide +kernel
theorem dX0_told_47 : decode cX0_told 47 = .ok (.aload_n 0, 1) := by decide +kernel
theorem dX0_told_48 : decode cX0_told 48 = .ok (.getfield 38, 3) := by decide +kernel
theorem dX0_told_51 : decode cX0_told 51 = .ok (.ireturn, 1) := by decide +kernel
theorem dX0_told_52 : decode cX0_told 52 = .ok (.aload_n 0, 1) := by decide +kernel
theorem dX0_told_53 : decode cX0_told 53 = .ok (.getfield 44, 3) := by decide +kernel
theorem dX0_told_56 : decode cX0_told 56 = .ok (.ifCond .eq 7, 3) := by decide +kernel
theorem dX0_told_59 : decode cX0_told 59 = .ok (.iconst 1, 1) := by decide +kernel
theorem dX0_told_60 : decode cX0_told 60 = .ok (.goto 4, 3) := by decide +kernel
theorem dX0_told_63 : decode cX0_told 63 = .ok (.iconst 0, 1) := by decide +kernel
theorem dX0_told_64 : decode cX0_told 64 = .ok (.ireturn, 1) := by decide +kernel
theorem okX0_told {E : Ev} {S : Sh} {Z : Option Nat} {Q : Int32 → Hp → Prop} {h : Hp} {a0 : Nat} {x1 : Int32} (hw : wX0_told S h a0 x1 Q) : Ct E yX0_told cX0_told 2 (some .int) 1 24 0 0 S Z h [vr a0, vi x1] (qI S Z Q) := by
  refine Ct.of (by decide) (lc := [some (vr a0), some (vi x1)]) (Nat.le_of_ble_eq_true rfl) rfl (fun X O => ?_)
  unfold wX0_told at hw
  refine g_iload_n O dX0_told_0 rfl ?_
  refine g_tsw O dX0_told_1 (by decide) (by decide) (fun t1 ht => ?_)
  rcases ht with ⟨hx1, ht⟩ | ⟨hx1, ht⟩
  · obtain rfl : t1 = 32 := by have e : (1 : Int) + (31) = (t1 : Int) := ht; omega
    have hw := hw.1 (Int32.toInt_inj.mp hx1)
    refine g_aload_n O dX0_told_32 rfl ?_
    obtain ⟨c33, hw⟩ := hw
    refine gf_X0_of O dX0_told_33 fl_X0_28 c33 ?_
    exact g_ireturn O dX0_told_36 ⟨rfl, rfl, _, rfl, hw⟩
  · have hw := hw.2 (fun q => hx1 (by rw [q]; rfl))
    rcases ht with ⟨hx1, ht⟩ | ⟨hx1, ht⟩
    · obtain rfl : t1 = 37 := by have e : (1 : Int) + (36) = (t1 : Int) := ht; omega
      have hw := hw.1 (Int32.toInt_inj.mp hx1)
      refine g_aload_n O dX0_told_37 rfl ?_
      obtain ⟨c38, hw⟩ := hw
      refine gf_X0_first O dX0_told_38 fl_X0_32 c38 ?_
      exact g_ireturn O dX0_told_41 ⟨rfl, rfl, _, rfl, hw⟩
    · have hw := hw.2 (fun q => hx1 (by rw [q]; rfl))
      rcases ht with ⟨hx1, ht⟩ | ⟨hx1, ht⟩
      · obtain rfl : t1 = 42 := by have e : (1 : Int) + (41) = (t1 : Int) := ht; omega
        have hw := hw.1 (Int32.toInt_inj.mp hx1)
        refine g_aload_n O dX0_told_42 rfl ?_
        obtain ⟨c43, hw⟩ := hw
        refine gf_X0_last O dX0_told_43 fl_X0_35 c43 ?_
        exact g_ireturn O dX0_told_46 ⟨rfl, rfl, _, rfl, hw⟩
      · have hw := hw.2 (fun q => hx1 (by rw [q]; rfl))
        rcases ht with ⟨hx1, ht⟩ | ⟨hx1, ht⟩
        · obtain rfl : t1 = 47 := by have e : (1 : Int) + (46) = (t1 : Int) := ht; omega
          have hw := hw.1 (Int32.toInt_inj.mp hx1)
          refine g_aload_n O dX0_told_47 rfl ?_
          obtain ⟨c48, hw⟩ := hw
          refine gf_X0_gives O dX0_told_48 fl_X0_38 c48 ?_
          exact g_ireturn O dX0_told_51 ⟨rfl, rfl, _, rfl, hw⟩
        · have hw := hw.2 (fun q => hx1 (by rw [q]; rfl))
          obtain rfl : t1 = 52 := by have e : (1 : Int) + (51) = (t1 : Int) := ht; omega
          refine g_aload_n O dX0_told_52 rfl ?_
          obtain ⟨c53, hw⟩ := hw
          refine gf_X0_aside O dX0_told_53 fl_X0_44 c53 ?_
          refine g_if_eq (tgt := 63) O dX0_told_56 rfl (fun q56 => ?_) (fun q56 => ?_)
          · have hw := hw.1 q56
            refine g_iconst O dX0_told_63 kv_0 ?_
            exact g_ireturn O dX0_told_64 ⟨rfl, rfl, _, rfl, hw⟩
          · have hw := hw.2 q56
            refine g_iconst O dX0_told_59 kv_1 ?_
            refine g_goto (tgt := 64) O dX0_told_60 rfl ?_
            exact g_ireturn O dX0_told_64 ⟨rfl, rfl, _, rfl, hw⟩
theorem dX1_concerns_0 : decode cX1_concerns 0 = .ok (.iload_n 1, 1) := by decide +kernel
theorem dX1_concerns_1 : decode cX1_concerns 1 = .ok (.iconst 1, 1) := by decide +kernel
theorem dX1_concerns_2 : decode cX1_concerns 2 = .ok (.if_icmp .ne 18, 3) := by decide +kernel
theorem dX1_concerns_5 : decode cX1_concerns 5 = .ok (.aload_n 2, 1) := by decide +kernel
theorem dX1_concerns_6 : decode cX1_concerns 6 = .ok (.getfield 83, 3) := by decide +kernel
theorem dX1_concerns_9 : decode cX1_concerns 9 = .ok (.bipush (-2), 2) := by decide +kernel
theorem dX1_concerns_11 : decode cX1_concerns 11 = .ok (.if_icmp .eq 7, 3) := by decide +kernel
theorem dX1_concerns_14 : decode cX1_concerns 14 = .ok (.iconst 1, 1) := by decide +kernel
theorem dX1_concerns_15 : decode cX1_concerns 15 = .ok (.goto 4, 3) := by decide +kernel
theorem dX1_concerns_18 : decode cX1_concerns 18 = .ok (.iconst 0, 1) := by decide +kernel
theorem dX1_concerns_19 : decode cX1_concerns 19 = .ok (.ireturn, 1) := by decide +kernel
theorem dX1_concerns_20 : decode cX1_concerns 20 = .ok (.iload_n 1, 1) := by decide +kernel
theorem dX1_concerns_21 : decode cX1_concerns 21 = .ok (.ifCond .eq 19, 3) := by decide +kernel
theorem dX1_concerns_24 : decode cX1_concerns 24 = .ok (.aload_n 0, 1) := by decide +kernel
theorem dX1_concerns_25 : decode cX1_concerns 25 = .ok (.getfield 22, 3) := by decide +kernel
theorem dX1_concerns_28 : decode cX1_concerns 28 = .ok (.ifCond .le 16, 3) := by decide +kernel
theorem dX1_concerns_31 : decode cX1_concerns 31 = .ok (.aload_n 2, 1) := by decide +kernel
theorem dX1_concerns_32 : decode cX1_concerns 32 = .ok (.getfield 83, 3) := by decide +kernel
theorem dX1_concerns_35 : decode cX1_concerns 35 = .ok (.bipush (-2), 2) := by decide +kernel
theorem dX1_concerns_37 : decode cX1_concerns 37 = .ok (.if_icmp .ne 7, 3) := by decide +kernel
theorem dX1_concerns_40 : decode cX1_concerns 40 = .ok (.iconst 1, 1) := by decide +kernel
theorem dX1_concerns_41 : decode cX1_concerns 41 = .ok (.goto 4, 3) := by decide +kernel
theorem dX1_concerns_44 : decode cX1_concerns 44 = .ok (.iconst 0, 1) := by decide +kernel
theorem dX1_concerns_45 : decode cX1_concerns 45 = .ok (.ireturn, 1) := by decide +kernel
theorem okX1_concerns_j40 {E : Ev} {X : Cx} {S : Sh} {Z : Option Nat} {Q : Int32 → Hp → Prop} {h : Hp} (O : Ok E X yX1_concerns cX1_concerns 3 (some .boolean) 1 24 0 0 (qI S Z Q)) (hw : wX1_concerns_j40 S h Q) : G E X 0 0 S Z h 40 [none, none, none] [] := by
  unfold wX1_concerns_j40 at hw
  refine g_iconst O dX1_concerns_40 kv_1 ?_
  refine g_goto (tgt := 45) O dX1_concerns_41 rfl ?_
  exact g_zreturn O dX1_concerns_45 (by decide) ⟨rfl, rfl, _, rfl, hw⟩
theorem okX1_concerns {E : Ev} {S : Sh} {Z : Option Nat} {Q : Int32 → Hp → Prop} {h : Hp} {a0 : Nat} {x1 : Int32} {a2 : Nat} (hw : wX1_concerns S h a0 x1 a2 Q) : Ct E yX1_concerns cX1_concerns 3 (some .boolean) 1 24 0 0 S Z h [vr a0, vi x1, vr a2] (qI S Z Q) := by
  refine Ct.of (by decide) (lc := [some (vr a0), some (vi x1), some (vr a2)]) (Nat.le_of_ble_eq_true rfl) rfl (fun X O => ?_)
  unfold wX1_concerns at hw
  refine g_iload_n O dX1_concerns_0 rfl ?_
  refine g_iconst O dX1_concerns_1 kv_1 ?_
  refine g_icmp_ne (tgt := 20) O dX1_concerns_2 rfl (fun q2 => ?_) (fun q2 => ?_)
  · have hw := hw.1 q2
    refine g_iload_n O dX1_concerns_20 rfl ?_
    refine g_if_eq (tgt := 40) O dX1_concerns_21 rfl (fun q21 => ?_) (fun q21 => ?_)
    · have hw := hw.1 q21
      refine g_mask [false, false, false] rfl rfl ?_
      exact okX1_concerns_j40 O hw
    · have hw := hw.2 q21
      refine g_aload_n O dX1_concerns_24 rfl ?_
      obtain ⟨c25, hw⟩ := hw
      refine gf_X1_number O dX1_concerns_25 fl_X1_22 c25 ?_
      refine g_if_le (tgt := 44) O dX1_concerns_28 rfl (fun q28 => ?_) (fun q28 => ?_)
      · have hw := hw.1 q28
        refine g_iconst O dX1_concerns_44 kv_0 ?_
        exact g_zreturn O dX1_concerns_45 (by decide) ⟨rfl, rfl, _, rfl, hw⟩
      · have hw := hw.2 q28
        refine g_aload_n O dX1_concerns_31 rfl ?_
        obtain ⟨c32, hw⟩ := hw
        refine gf_X0_of O dX1_concerns_32 fl_X1_83 c32 ?_
        refine g_bipush O dX1_concerns_35 kb_m2 ?_
        refine g_icmp_ne (tgt := 44) O dX1_concerns_37 rfl (fun q37 => ?_) (fun q37 => ?_)
        · have hw := hw.1 q37
          refine g_iconst O dX1_concerns_44 kv_0 ?_
          exact g_zreturn O dX1_concerns_45 (by decide) ⟨rfl, rfl, _, rfl, hw⟩
        · have hw := hw.2 q37
          refine g_mask [false, false, false] rfl rfl ?_
          exact okX1_concerns_j40 O hw
  · have hw := hw.2 q2
    refine g_aload_n O dX1_concerns_5 rfl ?_
    obtain ⟨c6, hw⟩ := hw
    refine gf_X0_of O dX1_concerns_6 fl_X1_83 c6 ?_
    refine g_bipush O dX1_concerns_9 kb_m2 ?_
    refine g_icmp_eq (tgt := 18) O dX1_concerns_11 rfl (fun q11 => ?_) (fun q11 => ?_)
    · have hw := hw.1 q11
      refine g_iconst O dX1_concerns_18 kv_0 ?_
      exact g_zreturn O dX1_concerns_19 (by decide) ⟨rfl, rfl, _, rfl, hw⟩
    · have hw := hw.2 q11
      refine g_iconst O dX1_concerns_14 kv_1 ?_
      refine g_goto (tgt := 19) O dX1_concerns_15 rfl ?_
      exact g_zreturn O dX1_concerns_19 (by decide) ⟨rfl, rfl, _, rfl, hw⟩
theorem dX7_has_0 : decode cX7_has 0 = .ok (.iload_n 1, 1) := by decide +kernel
theorem dX7_has_1 : decode cX7_has 1 = .ok (.bipush 64, 2) := by decide +kernel
theorem dX7_has_3 : decode cX7_has 3 = .ok (.if_icmp .ge 10, 3) := by decide +kernel
theorem dX7_has_6 : decode cX7_has 6 = .ok (.aload_n 0, 1) := by decide +kernel
theorem dX7_has_7 : decode cX7_has 7 = .ok (.getfield 9, 3) := by decide +kernel
theorem dX7_has_10 : decode cX7_has 10 = .ok (.goto 7, 3) := by decide +kernel
theorem dX7_has_13 : decode cX7_has 13 = .ok (.aload_n 0, 1) := by decide +kernel
theorem dX7_has_14 : decode cX7_has 14 = .ok (.getfield 15, 3) := by decide +kernel
theorem dX7_has_17 : decode cX7_has 17 = .ok (.lstore_n 2, 1) := by decide +kernel
theorem dX7_has_18 : decode cX7_has 18 = .ok (.lload_n 2, 1) := by decide +kernel
theorem dX7_has_19 : decode cX7_has 19 = .ok (.iload_n 1, 1) := by decide +kernel
theorem dX7_has_20 : decode cX7_has 20 = .ok (.bipush 63, 2) := by decide +kernel
theorem dX7_has_22 : decode cX7_has 22 = .ok (.iand, 1) := by decide +kernel
theorem dX7_has_23 : decode cX7_has 23 = .ok (.lushr, 1) := by decide +kernel
theorem dX7_has_24 : decode cX7_has 24 = .ok (.lconst 1, 1) := by decide +kernel
theorem dX7_has_25 : decode cX7_has 25 = .ok (.land, 1) := by decide +kernel
theorem dX7_has_26 : decode cX7_has 26 = .ok (.lconst 0, 1) := by decide +kernel
theorem dX7_has_27 : decode cX7_has 27 = .ok (.lcmp, 1) := by decide +kernel
theorem dX7_has_28 : decode cX7_has 28 = .ok (.ifCond .eq 7, 3) := by decide +kernel
theorem dX7_has_31 : decode cX7_has 31 = .ok (.iconst 1, 1) := by decide +kernel
theorem dX7_has_32 : decode cX7_has 32 = .ok (.goto 4, 3) := by decide +kernel
theorem dX7_has_35 : decode cX7_has 35 = .ok (.iconst 0, 1) := by decide +kernel
theorem dX7_has_36 : decode cX7_has 36 = .ok (.ireturn, 1) := by decide +kernel
theorem okX7_has_j17 {E : Ev} {X : Cx} {S : Sh} {Z : Option Nat} {Q : Int32 → Hp → Prop} {h : Hp} {x1 : Int32} {s0 : Int64} (O : Ok E X yX7_has cX7_has 4 (some .boolean) 1 24 0 0 (qI S Z Q)) (hw : wX7_has_j17 S h x1 s0 Q) : G E X 0 0 S Z h 17 [none, some (vi x1), none, none] [vj s0] := by
  unfold wX7_has_j17 at hw
  refine g_lstore_n (lc' := [none, some (vi x1), some (vj s0), none]) O dX7_has_17 rfl (Nat.le_of_ble_eq_true rfl) rfl ?_
  refine g_lload_n O dX7_has_18 rfl ?_
  refine g_iload_n O dX7_has_19 rfl ?_
  refine g_bipush O dX7_has_20 kb_63 ?_
  refine g_iand O dX7_has_22 ?_
  refine g_lushr O dX7_has_23 ?_
  refine g_lconst O dX7_has_24 kl_1 ?_
  refine g_land O dX7_has_25 ?_
  refine g_lconst O dX7_has_26 kl_0 ?_
  refine g_lcmp O dX7_has_27 ?_
  refine g_if_eq (tgt := 35) O dX7_has_28 rfl (fun q28 => ?_) (fun q28 => ?_)
  · have hw := hw.1 q28
    refine g_iconst O dX7_has_35 kv_0 ?_
    exact g_zreturn O dX7_has_36 (by decide) ⟨rfl, rfl, _, rfl, hw⟩
  · have hw := hw.2 q28
    refine g_iconst O dX7_has_31 kv_1 ?_
    refine g_goto (tgt := 36) O dX7_has_32 rfl ?_
    exact g_zreturn O dX7_has_36 (by decide) ⟨rfl, rfl, _, rfl, hw⟩
theorem okX7_has {E : Ev} {S : Sh} {Z : Option Nat} {Q : Int32 → Hp → Prop} {h : Hp} {a0 : Nat} {x1 : Int32} (hw : wX7_has S h a0 x1 Q) : Ct E yX7_has cX7_has 4 (some .boolean) 1 24 0 0 S Z h [vr a0, vi x1] (qI S Z Q) := by
  refine Ct.of (by decide) (lc := [some (vr a0), some (vi x1), none, none]) (Nat.le_of_ble_eq_true rfl) rfl (fun X O => ?_)
  unfold wX7_has at hw
  refine g_iload_n O dX7_has_0 rfl ?_
  refine g_bipush O dX7_has_1 kb_64 ?_
  refine g_icmp_ge (tgt := 13) O dX7_has_3 rfl (fun q3 => ?_) (fun q3 => ?_)
  · have hw := hw.1 q3
    refine g_aload_n O dX7_has_13 rfl ?_
    obtain ⟨c14, hw⟩ := hw
    refine gf_X7_high O dX7_has_14 fl_X7_15 c14 ?_
    refine g_mask [false, true, false, false] rfl rfl ?_
    exact okX7_has_j17 O hw
  · have hw := hw.2 q3
    refine g_aload_n O dX7_has_6 rfl ?_
    obtain ⟨c7, hw⟩ := hw
    refine gf_X7_low O dX7_has_7 fl_X7_9 c7 ?_
    refine g_goto (tgt := 17) O dX7_has_10 rfl ?_
    refine g_mask [false, true, false, false] rfl rfl ?_
    exact okX7_has_j17 O hw
theorem dX1_paired_0 : decode cX1_paired 0 = .ok (.aload_n 0, 1) := by decide +kernel
theorem dX1_paired_1 : decode cX1_paired 1 = .ok (.getfield 22, 3) := by decide +kernel
theorem dX1_paired_4 : decode cX1_paired 4 = .ok (.ifCond .le 19, 3) := by decide +kernel
theorem dX1_paired_7 : decode cX1_paired 7 = .ok (.aload_n 0, 1) := by decide +kernel
theorem dX1_paired_8 : decode cX1_paired 8 = .ok (.getfield 32, 3) := by decide +kernel
theorem dX1_paired_11 : decode cX1_paired 11 = .ok (.getfield 144, 3) := by decide +kernel
theorem dX1_paired_14 : decode cX1_paired 14 = .ok (.iload_n 2, 1) := by decide +kernel
theorem dX1_paired_15 : decode cX1_paired 15 = .ok (.aaload, 1) := by decide +kernel
theorem dX1_paired_16 : decode cX1_paired 16 = .ok (.iload_n 1, 1) := by decide +kernel
theorem dX1_paired_17 : decode cX1_paired 17 = .ok (.invokevirtual 152, 3) := by decide +kernel
theorem dX1_paired_20 : decode cX1_paired 20 = .ok (.goto 12, 3) := by decide +kernel
theorem dX1_paired_23 : decode cX1_paired 23 = .ok (.aload_n 0, 1) := by decide +kernel
theorem dX1_paired_24 : decode cX1_paired 24 = .ok (.getfield 32, 3) := by decide +kernel
theorem dX1_paired_27 : decode cX1_paired 27 = .ok (.getfield 155, 3) := by decide +kernel
theorem dX1_paired_30 : decode cX1_paired 30 = .ok (.iload_n 2, 1) := by decide +kernel
theorem dX1_paired_31 : decode cX1_paired 31 = .ok (.baload, 1) := by decide +kernel
theorem dX1_paired_32 : decode cX1_paired 32 = .ok (.ireturn, 1) := by decide +kernel
theorem okX1_paired {E : Ev} {S : Sh} {Z : Option Nat} {Q : Int32 → Hp → Prop} {h : Hp} {a0 : Nat} {x1 : Int32} {x2 : Int32} (hw : wX1_paired S h a0 x1 x2 Q) : Ct E yX1_paired cX1_paired 3 (some .boolean) 2 47 0 0 S Z h [vr a0, vi x1, vi x2] (qI S Z Q) := by
  refine Ct.of (by decide) (lc := [some (vr a0), some (vi x1), some (vi x2)]) (Nat.le_of_ble_eq_true rfl) rfl (fun X O => ?_)
  unfold wX1_paired at hw
  refine g_aload_n O dX1_paired_0 rfl ?_
  obtain ⟨c1, hw⟩ := hw
  refine gf_X1_number O dX1_paired_1 fl_X1_22 c1 ?_
  refine g_if_le (tgt := 23) O dX1_paired_4 rfl (fun q4 => ?_) (fun q4 => ?_)
  · have hw := hw.1 q4
    refine g_aload_n O dX1_paired_23 rfl ?_
    refine gf_X1_machine O dX1_paired_24 fl_X1_32 c1 ?_
    obtain ⟨c27, hw⟩ := hw
    refine gf_X2_sound O dX1_paired_27 fl_X1_155 c27 ?_
    refine g_iload_n O dX1_paired_30 rfl ?_
    obtain ⟨c31, hw⟩ := hw
    refine g_zaload O dX1_paired_31 c31.1 c31.2 ?_
    obtain ⟨c32z, hw⟩ := hw
    exact g_zreturn O dX1_paired_32 c32z ⟨rfl, rfl, _, rfl, hw⟩
  · have hw := hw.2 q4
    refine g_aload_n O dX1_paired_7 rfl ?_
    refine gf_X1_machine O dX1_paired_8 fl_X1_32 c1 ?_
    obtain ⟨c11, hw⟩ := hw
    refine gf_X2_glue O dX1_paired_11 fl_X1_144 c11 ?_
    refine g_iload_n O dX1_paired_14 rfl ?_
    obtain ⟨c15, hw⟩ := hw
    refine g_aaload (t := 2) (C := "FinerSteps$StateSet") O rfl dX1_paired_15 c15.1 c15.2 ?_
    refine g_iload_n O dX1_paired_16 rfl ?_
    obtain ⟨c17, hw⟩ := hw
    refine g_callV (As := [vi x1]) (rest := []) O ci_7 rfl dX1_paired_17 ml_X1_152 im_yX7_has se_yX7_has ini_X7 co_yX7_has yo_yX7_has c17 rfl rfl (Nat.le_of_ble_eq_true rfl) ⟨by decide, by decide, by decide, by decide⟩ (okX7_has hw) (k_I fun r17 h17 hw => ?_)
    refine g_goto (tgt := 32) O dX1_paired_20 rfl ?_
    obtain ⟨c32z, hw⟩ := hw
    exact g_zreturn O dX1_paired_32 c32z ⟨rfl, rfl, _, rfl, hw⟩
theorem dX2_span_0 : decode cX2_span 0 = .ok (.iconst 1, 1) := by decide +kernel
theorem dX2_span_1 : decode cX2_span 1 = .ok (.aload_n 0, 1) := by decide +kernel
theorem dX2_span_2 : decode cX2_span 2 = .ok (.getfield 19, 3) := by decide +kernel
theorem dX2_span_5 : decode cX2_span 5 = .ok (.iload_n 1, 1) := by decide +kernel
theorem dX2_span_6 : decode cX2_span 6 = .ok (.iaload, 1) := by decide +kernel
theorem dX2_span_7 : decode cX2_span 7 = .ok (.aload_n 0, 1) := by decide +kernel
theorem dX2_span_8 : decode cX2_span 8 = .ok (.getfield 15, 3) := by decide +kernel
theorem dX2_span_11 : decode cX2_span 11 = .ok (.iload_n 1, 1) := by decide +kernel
theorem dX2_span_12 : decode cX2_span 12 = .ok (.iaload, 1) := by decide +kernel
theorem dX2_span_13 : decode cX2_span 13 = .ok (.isub, 1) := by decide +kernel
theorem dX2_span_14 : decode cX2_span 14 = .ok (.iconst 1, 1) := by decide +kernel
theorem dX2_span_15 : decode cX2_span 15 = .ok (.iadd, 1) := by decide +kernel
theorem dX2_span_16 : decode cX2_span 16 = .ok (.invokestatic 93, 3) := by decide +kernel
theorem dX2_span_19 : decode cX2_span 19 = .ok (.ireturn, 1) := by decide +kernel
theorem okX2_span {E : Ev} {S : Sh} {Z : Option Nat} {Q : Int32 → Hp → Prop} {h : Hp} {a0 : Nat} {x1 : Int32} (hw : wX2_span S h a0 x1 Q) : Ct E yX2_span cX2_span 2 (some .int) 1 24 0 0 S Z h [vr a0, vi x1] (qI S Z Q) := by
  refine Ct.of (by decide) (lc := [some (vr a0), some (vi x1)]) (Nat.le_of_ble_eq_true rfl) rfl (fun X O => ?_)
  unfold wX2_span at hw
  refine g_iconst O dX2_span_0 kv_1 ?_
  refine g_aload_n O dX2_span_1 rfl ?_
  obtain ⟨c2, hw⟩ := hw
  refine gf_X2_high O dX2_span_2 fl_X2_19 c2 ?_
  refine g_iload_n O dX2_span_5 rfl ?_
  obtain ⟨c6, hw⟩ := hw
  refine g_iaload O dX2_span_6 c6.1 c6.2 ?_
  refine g_aload_n O dX2_span_7 rfl ?_
  refine gf_X2_low O dX2_span_8 fl_X2_15 c2 ?_
  refine g_iload_n O dX2_span_11 rfl ?_
  obtain ⟨c12, hw⟩ := hw
  refine g_iaload O dX2_span_12 c12.1 c12.2 ?_
  refine g_isub O dX2_span_13 ?_
  refine g_iconst O dX2_span_14 kv_1 ?_
  refine g_iadd O dX2_span_15 ?_
  refine g_mmax O dX2_span_16 ml_X2_93 rfl (Nat.le_of_ble_eq_true rfl) ⟨by decide, by decide, by omega, by omega⟩ ?_
  exact g_ireturn O dX2_span_19 ⟨rfl, rfl, _, rfl, hw⟩
theorem dX2_stateOf_0 : decode cX2_stateOf 0 = .ok (.iconst 0, 1) := by decide +kernel
theorem dX2_stateOf_1 : decode cX2_stateOf 1 = .ok (.istore_n 3, 1) := by decide +kernel
theorem dX2_stateOf_2 : decode cX2_stateOf 2 = .ok (.iconst 0, 1) := by decide +kernel
theorem dX2_stateOf_3 : decode cX2_stateOf 3 = .ok (.istore 4, 2) := by decide +kernel
theorem dX2_stateOf_5 : decode cX2_stateOf 5 = .ok (.iload 4, 2) := by decide +kernel
theorem dX2_stateOf_7 : decode cX2_stateOf 7 = .ok (.aload_n 0, 1) := by decide +kernel
theorem dX2_stateOf_8 : decode cX2_stateOf 8 = .ok (.getfield 60, 3) := by decide +kernel
theorem dX2_stateOf_11 : decode cX2_stateOf 11 = .ok (.if_icmp .ge 64, 3) := by decide +kernel
theorem dX2_stateOf_14 : decode cX2_stateOf 14 = .ok (.aload_n 1, 1) := by decide +kernel
theorem dX2_stateOf_15 : decode cX2_stateOf 15 = .ok (.iload_n 2, 1) := by decide +kernel
theorem dX2_stateOf_16 : decode cX2_stateOf 16 = .ok (.iload 4, 2) := by decide +kernel
theorem dX2_stateOf_18 : decode cX2_stateOf 18 = .ok (.iadd, 1) := by decide +kernel
theorem dX2_stateOf_19 : decode cX2_stateOf 19 = .ok (.iaload, 1) := by decide +kernel
theorem dX2_stateOf_20 : decode cX2_stateOf 20 = .ok (.istore 5, 2) := by decide +kernel
theorem dX2_stateOf_22 : decode cX2_stateOf 22 = .ok (.iload 5, 2) := by decide +kernel
theorem dX2_stateOf_24 : decode cX2_stateOf 24 = .ok (.aload_n 0, 1) := by decide +kernel
theorem dX2_stateOf_25 : decode cX2_stateOf 25 = .ok (.getfield 15, 3) := by decide +kernel
theorem dX2_stateOf_28 : decode cX2_stateOf 28 = .ok (.iload 4, 2) := by decide +kernel
theorem dX2_stateOf_30 : decode cX2_stateOf 30 = .ok (.iaload, 1) := by decide +kernel
theorem dX2_stateOf_31 : decode cX2_stateOf 31 = .ok (.if_icmp .lt 15, 3) := by decide +kernel
theorem dX2_stateOf_34 : decode cX2_stateOf 34 = .ok (.iload 5, 2) := by decide +kernel
theorem dX2_stateOf_36 : decode cX2_stateOf 36 = .ok (.aload_n 0, 1) := by decide +kernel
theorem dX2_stateOf_37 : decode cX2_stateOf 37 = .ok (.getfield 19, 3) := by decide +kernel
theorem dX2_stateOf_40 : decode cX2_stateOf 40 = .ok (.iload 4, 2) := by decide +kernel
theorem dX2_stateOf_42 : decode cX2_stateOf 42 = .ok (.iaload, 1) := by decide +kernel
theorem dX2_stateOf_43 : decode cX2_stateOf 43 = .ok (.if_icmp .le 6, 3) := by decide +kernel
theorem dX2_stateOf_46 : decode cX2_stateOf 46 = .ok (.bipush (-2), 2) := by decide +kernel
theorem dX2_stateOf_48 : decode cX2_stateOf 48 = .ok (.ireturn, 1) := by decide +kernel
theorem dX2_stateOf_49 : decode cX2_stateOf 49 = .ok (.iload_n 3, 1) := by decide +kernel
theorem dX2_stateOf_50 : decode cX2_stateOf 50 = .ok (.aload_n 0, 1) := by decide +kernel
theorem dX2_stateOf_51 : decode cX2_stateOf 51 = .ok (.iload 4, 2) := by decide +kernel
theorem dX2_stateOf_53 : decode cX2_stateOf 53 = .ok (.invokevirtual 106, 3) := by decide +kernel
theorem dX2_stateOf_56 : decode cX2_stateOf 56 = .ok (.imul, 1) := by decide +kernel
theorem dX2_stateOf_57 : decode cX2_stateOf 57 = .ok (.iload 5, 2) := by decide +kernel
theorem dX2_stateOf_59 : decode cX2_stateOf 59 = .ok (.iadd, 1) := by decide +kernel
theorem dX2_stateOf_60 : decode cX2_stateOf 60 = .ok (.aload_n 0, 1) := by decide +kernel
theorem dX2_stateOf_61 : decode cX2_stateOf 61 = .ok (.getfield 15, 3) := by decide +kernel
theorem dX2_stateOf_64 : decode cX2_stateOf 64 = .ok (.iload 4, 2) := by decide +kernel
theorem dX2_stateOf_66 : decode cX2_stateOf 66 = .ok (.iaload, 1) := by decide +kernel
theorem dX2_stateOf_67 : decode cX2_stateOf 67 = .ok (.isub, 1) := by decide +kernel
theorem dX2_stateOf_68 : decode cX2_stateOf 68 = .ok (.istore_n 3, 1) := by decide +kernel
theorem dX2_stateOf_69 : decode cX2_stateOf 69 = .ok (.iinc 4 1, 3) := by decide +kernel
theorem dX2_stateOf_72 : decode cX2_stateOf 72 = .ok (.goto (-67), 3) := by decide +kernel
theorem dX2_stateOf_75 : decode cX2_stateOf 75 = .ok (.iload_n 3, 1) := by decide +kernel
theorem dX2_stateOf_76 : decode cX2_stateOf 76 = .ok (.ireturn, 1) := by decide +kernel
theorem okX2_stateOf_5 {E : Ev} {X : Cx} {S : Sh} {Z : Option Nat} {Q : Int32 → Hp → Prop} {a0 : Nat} {a1 : Nat} {x2 : Int32} (O : Ok E X yX2_stateOf cX2_stateOf 6 (some .int) 2 45 0 0 (qI S Z Q)) : ∀ (n : Nat) (h : Hp) (x3 : Int32) (x4 : Int32), wX2_stateOf_5 S a0 a1 x2 Q n h x3 x4 → G E X 0 0 S Z h 5 [some (vr a0), some (vr a1), some (vi x2), some (vi x3), some (vi x4), none] [] := by
  intro n
  induction n with
  | zero => intro h x3 x4 hw; exact hw.elim
  | succ n hB5 =>
    intro h x3 x4 hw
    have hw : wX2_stateOf_5b S a0 a1 x2 Q (wX2_stateOf_5 S a0 a1 x2 Q n) h x3 x4 := hw
    unfold wX2_stateOf_5b at hw
    refine g_iload O dX2_stateOf_5 rfl ?_
    refine g_aload_n O dX2_stateOf_7 rfl ?_
    obtain ⟨c8, hw⟩ := hw
    refine gf_X2_variables O dX2_stateOf_8 fl_X2_60 c8 ?_
    refine g_icmp_ge (tgt := 75) O dX2_stateOf_11 rfl (fun q11 => ?_) (fun q11 => ?_)
    · have hw := hw.1 q11
      refine g_iload_n O dX2_stateOf_75 rfl ?_
      exact g_ireturn O dX2_stateOf_76 ⟨rfl, rfl, _, rfl, hw⟩
    · have hw := hw.2 q11
      refine g_aload_n O dX2_stateOf_14 rfl ?_
      refine g_iload_n O dX2_stateOf_15 rfl ?_
      refine g_iload O dX2_stateOf_16 rfl ?_
      refine g_iadd O dX2_stateOf_18 ?_
      obtain ⟨c19, hw⟩ := hw
      refine g_iaload O dX2_stateOf_19 c19.1 c19.2 ?_
      refine g_nmI (fun xv20 e20 => ?_)
      have hw := hw xv20 e20
      refine g_istore (lc' := [some (vr a0), some (vr a1), some (vi x2), some (vi x3), some (vi x4), some (vi xv20)]) O dX2_stateOf_20 rfl (Nat.le_of_ble_eq_true rfl) rfl ?_
      refine g_iload O dX2_stateOf_22 rfl ?_
      refine g_aload_n O dX2_stateOf_24 rfl ?_
      refine gf_X2_low O dX2_stateOf_25 fl_X2_15 c8 ?_
      refine g_iload O dX2_stateOf_28 rfl ?_
      obtain ⟨c30, hw⟩ := hw
      refine g_iaload O dX2_stateOf_30 c30.1 c30.2 ?_
      refine g_icmp_lt (tgt := 46) O dX2_stateOf_31 rfl (fun q31 => ?_) (fun q31 => ?_)
      · have hw := hw.1 q31
        refine g_bipush O dX2_stateOf_46 kb_m2 ?_
        exact g_ireturn O dX2_stateOf_48 ⟨rfl, rfl, _, rfl, hw⟩
      · have hw := hw.2 q31
        refine g_iload O dX2_stateOf_34 rfl ?_
        refine g_aload_n O dX2_stateOf_36 rfl ?_
        refine gf_X2_high O dX2_stateOf_37 fl_X2_19 c8 ?_
        refine g_iload O dX2_stateOf_40 rfl ?_
        obtain ⟨c42, hw⟩ := hw
        refine g_iaload O dX2_stateOf_42 c42.1 c42.2 ?_
        refine g_icmp_le (tgt := 49) O dX2_stateOf_43 rfl (fun q43 => ?_) (fun q43 => ?_)
        · have hw := hw.1 q43
          refine g_iload_n O dX2_stateOf_49 rfl ?_
          refine g_aload_n O dX2_stateOf_50 rfl ?_
          refine g_iload O dX2_stateOf_51 rfl ?_
          refine g_callV (As := [vi x4]) (rest := [vi x3]) O ci_2 rfl dX2_stateOf_53 ml_X2_106 im_yX2_span se_yX2_span ini_X2 co_yX2_span yo_yX2_span c8 rfl rfl (Nat.le_of_ble_eq_true rfl) ⟨by decide, by decide, by decide, by decide⟩ (okX2_span hw) (k_I fun r53 h53 hw => ?_)
          refine g_imul O dX2_stateOf_56 ?_
          refine g_iload O dX2_stateOf_57 rfl ?_
          refine g_iadd O dX2_stateOf_59 ?_
          refine g_aload_n O dX2_stateOf_60 rfl ?_
          refine gf_X2_low O dX2_stateOf_61 fl_X2_15 c8 ?_
          refine g_iload O dX2_stateOf_64 rfl ?_
          obtain ⟨c66, hw⟩ := hw
          refine g_iaload O dX2_stateOf_66 c66.1 c66.2 ?_
          refine g_isub O dX2_stateOf_67 ?_
          refine g_nmI (fun xv68 e68 => ?_)
          have hw := hw xv68 e68
          refine g_istore_n (lc' := [some (vr a0), some (vr a1), some (vi x2), some (vi xv68), some (vi x4), some (vi xv20)]) O dX2_stateOf_68 rfl (Nat.le_of_ble_eq_true rfl) rfl ?_
          refine g_iinc (lc' := [some (vr a0), some (vr a1), some (vi x2), some (vi xv68), some (vi (x4 + (1 : Int32))), some (vi xv20)]) O dX2_stateOf_69 rfl kv_1 rfl rfl ?_
          refine g_goto (tgt := 5) O dX2_stateOf_72 rfl ?_
          refine g_mask [true, true, true, true, true, false] rfl rfl ?_
          exact hB5 _ _ _ hw
        · have hw := hw.2 q43
          refine g_bipush O dX2_stateOf_46 kb_m2 ?_
          exact g_ireturn O dX2_stateOf_48 ⟨rfl, rfl, _, rfl, hw⟩
theorem okX2_stateOf {E : Ev} {S : Sh} {Z : Option Nat} {Q : Int32 → Hp → Prop} {h : Hp} {a0 : Nat} {a1 : Nat} {x2 : Int32} (hw : wX2_stateOf S h a0 a1 x2 Q) : Ct E yX2_stateOf cX2_stateOf 6 (some .int) 2 45 0 0 S Z h [vr a0, vr a1, vi x2] (qI S Z Q) := by
  refine Ct.of (by decide) (lc := [some (vr a0), some (vr a1), some (vi x2), none, none, none]) (Nat.le_of_ble_eq_true rfl) rfl (fun X O => ?_)
  unfold wX2_stateOf at hw
  refine g_iconst O dX2_stateOf_0 kv_0 ?_
  refine g_istore_n (lc' := [some (vr a0), some (vr a1), some (vi x2), some (vi (0 : Int32)), none, none]) O dX2_stateOf_1 rfl (Nat.le_of_ble_eq_true rfl) rfl ?_
  refine g_iconst O dX2_stateOf_2 kv_0 ?_
  refine g_istore (lc' := [some (vr a0), some (vr a1), some (vi x2), some (vi (0 : Int32)), some (vi (0 : Int32)), none]) O dX2_stateOf_3 rfl (Nat.le_of_ble_eq_true rfl) rfl ?_
  obtain ⟨n5, hw⟩ := hw
  exact okX2_stateOf_5 O n5 _ _ _ hw
theorem dX2_beginState_0 : decode cX2_beginState 0 = .ok (.iconst 0, 1) := by decide +kernel
theorem dX2_beginState_1 : decode cX2_beginState 1 = .ok (.aload_n 0, 1) := by decide +kernel
theorem dX2_beginState_2 : decode cX2_beginState 2 = .ok (.aload_n 0, 1) := by decide +kernel
theorem dX2_beginState_3 : decode cX2_beginState 3 = .ok (.getfield 22, 3) := by decide +kernel
theorem dX2_beginState_6 : decode cX2_beginState 6 = .ok (.iconst 0, 1) := by decide +kernel
theorem dX2_beginState_7 : decode cX2_beginState 7 = .ok (.invokevirtual 89, 3) := by decide +kernel
theorem dX2_beginState_10 : decode cX2_beginState 10 = .ok (.invokestatic 93, 3) := by decide +kernel
theorem dX2_beginState_13 : decode cX2_beginState 13 = .ok (.ireturn, 1) := by decide +kernel
theorem okX2_beginState {E : Ev} {S : Sh} {Z : Option Nat} {Q : Int32 → Hp → Prop} {h : Hp} {a0 : Nat} (hw : wX2_beginState S h a0 Q) : Ct E yX2_beginState cX2_beginState 1 (some .int) 3 70 0 0 S Z h [vr a0] (qI S Z Q) := by
  refine Ct.of (by decide) (lc := [some (vr a0)]) (Nat.le_of_ble_eq_true rfl) rfl (fun X O => ?_)
  unfold wX2_beginState at hw
  refine g_iconst O dX2_beginState_0 kv_0 ?_
  refine g_aload_n O dX2_beginState_1 rfl ?_
  refine g_aload_n O dX2_beginState_2 rfl ?_
  obtain ⟨c3, hw⟩ := hw
  refine gf_X2_at O dX2_beginState_3 fl_X2_22 c3 ?_
  refine g_iconst O dX2_beginState_6 kv_0 ?_
  refine g_callV (As := [vr (gR h a0 3), vi (0 : Int32)]) (rest := [vi (0 : Int32)]) O ci_2 rfl dX2_beginState_7 ml_X2_89 im_yX2_stateOf se_yX2_stateOf ini_X2 co_yX2_stateOf yo_yX2_stateOf c3 rfl rfl (Nat.le_of_ble_eq_true rfl) ⟨by decide, by decide, by decide, by decide⟩ (okX2_stateOf hw) (k_I fun r7 h7 hw => ?_)
  refine g_mmax O dX2_beginState_10 ml_X2_93 rfl (Nat.le_of_ble_eq_true rfl) ⟨by decide, by decide, by omega, by omega⟩ ?_
  exact g_ireturn O dX2_beginState_13 ⟨rfl, rfl, _, rfl, hw⟩
theorem dX9_note_0 : decode cX9_note 0 = .ok (.aload_n 0, 1) := by decide +kernel
theorem dX9_note_1 : decode cX9_note 1 = .ok (.getfield 13, 3) := by decide +kernel
theorem dX9_note_4 : decode cX9_note 4 = .ok (.ifCond .ne 18, 3) := by decide +kernel
theorem dX9_note_7 : decode cX9_note 7 = .ok (.aload_n 0, 1) := by decide +kernel
theorem dX9_note_8 : decode cX9_note 8 = .ok (.iload_n 1, 1) := by decide +kernel
theorem dX9_note_9 : decode cX9_note 9 = .ok (.putfield 17, 3) := by decide +kernel
theorem dX9_note_12 : decode cX9_note 12 = .ok (.aload_n 0, 1) := by decide +kernel
theorem dX9_note_13 : decode cX9_note 13 = .ok (.iload_n 2, 1) := by decide +kernel
theorem dX9_note_14 : decode cX9_note 14 = .ok (.putfield 20, 3) := by decide +kernel
theorem dX9_note_17 : decode cX9_note 17 = .ok (.aload_n 0, 1) := by decide +kernel
theorem dX9_note_18 : decode cX9_note 18 = .ok (.iload_n 3, 1) := by decide +kernel
theorem dX9_note_19 : decode cX9_note 19 = .ok (.putfield 23, 3) := by decide +kernel
theorem dX9_note_22 : decode cX9_note 22 = .ok (.aload_n 0, 1) := by decide +kernel
theorem dX9_note_23 : decode cX9_note 23 = .ok (.dup, 1) := by decide +kernel
theorem dX9_note_24 : decode cX9_note 24 = .ok (.getfield 13, 3) := by decide +kernel
theorem dX9_note_27 : decode cX9_note 27 = .ok (.iconst 1, 1) := by decide +kernel
theorem dX9_note_28 : decode cX9_note 28 = .ok (.iadd, 1) := by decide +kernel
theorem dX9_note_29 : decode cX9_note 29 = .ok (.putfield 13, 3) := by decide +kernel
theorem dX9_note_32 : decode cX9_note 32 = .ok (.return_, 1) := by decide +kernel
theorem okX9_note {E : Ev} {S : Sh} {Z : Option Nat} {Q : Hp → Prop} {h : Hp} {a0 : Nat} {x1 : Int32} {x2 : Int32} {x3 : Int32} (hw : wX9_note S h a0 x1 x2 x3 Q) : Ct E yX9_note cX9_note 4 none 1 24 0 0 S Z h [vr a0, vi x1, vi x2, vi x3] (qV S Z Q) := by
  refine Ct.of (by decide) (lc := [some (vr a0), some (vi x1), some (vi x2), some (vi x3)]) (Nat.le_of_ble_eq_true rfl) rfl (fun X O => ?_)
  unfold wX9_note at hw
  refine g_aload_n O dX9_note_0 rfl ?_
  obtain ⟨c1, hw⟩ := hw
  refine gf_X9_failing O dX9_note_1 fl_X9_13 c1 ?_
  refine g_if_ne (tgt := 22) O dX9_note_4 rfl (fun q4 => ?_) (fun q4 => ?_)
  · have hw := hw.1 q4
    refine g_aload_n O dX9_note_22 rfl ?_
    refine g_dup O dX9_note_23 rfl ?_
    refine gf_X9_failing O dX9_note_24 fl_X9_13 c1 ?_
    refine g_iconst O dX9_note_27 kv_1 ?_
    refine g_iadd O dX9_note_28 ?_
    refine pf_X9_failing O dX9_note_29 fl_X9_13 c1 ?_
    exact g_return O dX9_note_32 ⟨rfl, rfl, rfl, hw⟩
  · have hw := hw.2 q4
    refine g_aload_n O dX9_note_7 rfl ?_
    refine g_iload_n O dX9_note_8 rfl ?_
    refine pf_X9_ahead O dX9_note_9 fl_X9_17 c1 ?_
    refine g_nmH (fun h9 e9 => ?_)
    have hw := hw h9 e9
    refine g_aload_n O dX9_note_12 rfl ?_
    refine g_iload_n O dX9_note_13 rfl ?_
    refine pf_X9_state O dX9_note_14 fl_X9_20 c1 ?_
    refine g_nmH (fun h14 e14 => ?_)
    have hw := hw h14 e14
    refine g_aload_n O dX9_note_17 rfl ?_
    refine g_iload_n O dX9_note_18 rfl ?_
    refine pf_X9_pick O dX9_note_19 fl_X9_23 c1 ?_
    refine g_nmH (fun h19 e19 => ?_)
    have hw := hw h19 e19
    refine g_aload_n O dX9_note_22 rfl ?_
    refine g_dup O dX9_note_23 rfl ?_
    refine gf_X9_failing O dX9_note_24 fl_X9_13 c1 ?_
    refine g_iconst O dX9_note_27 kv_1 ?_
    refine g_iadd O dX9_note_28 ?_
    refine pf_X9_failing O dX9_note_29 fl_X9_13 c1 ?_
    exact g_return O dX9_note_32 ⟨rfl, rfl, rfl, hw⟩
theorem dX1_judgeBegin_0 : decode cX1_judgeBegin 0 = .ok (.aload_n 0, 1) := by decide +kernel
theorem dX1_judgeBegin_1 : decode cX1_judgeBegin 1 = .ok (.getfield 32, 3) := by decide +kernel
theorem dX1_judgeBegin_4 : decode cX1_judgeBegin 4 = .ok (.invokevirtual 88, 3) := by decide +kernel
theorem dX1_judgeBegin_7 : decode cX1_judgeBegin 7 = .ok (.istore_n 1, 1) := by decide +kernel
theorem dX1_judgeBegin_8 : decode cX1_judgeBegin 8 = .ok (.aload_n 0, 1) := by decide +kernel
theorem dX1_judgeBegin_9 : decode cX1_judgeBegin 9 = .ok (.getfield 22, 3) := by decide +kernel
theorem dX1_judgeBegin_12 : decode cX1_judgeBegin 12 = .ok (.ifCond .le 23, 3) := by decide +kernel
theorem dX1_judgeBegin_15 : decode cX1_judgeBegin 15 = .ok (.aload_n 0, 1) := by decide +kernel
theorem dX1_judgeBegin_16 : decode cX1_judgeBegin 16 = .ok (.getfield 18, 3) := by decide +kernel
theorem dX1_judgeBegin_19 : decode cX1_judgeBegin 19 = .ok (.getfield 26, 3) := by decide +kernel
theorem dX1_judgeBegin_22 : decode cX1_judgeBegin 22 = .ok (.aload_n 0, 1) := by decide +kernel
theorem dX1_judgeBegin_23 : decode cX1_judgeBegin 23 = .ok (.getfield 22, 3) := by decide +kernel
theorem dX1_judgeBegin_26 : decode cX1_judgeBegin 26 = .ok (.iconst 1, 1) := by decide +kernel
theorem dX1_judgeBegin_27 : decode cX1_judgeBegin 27 = .ok (.isub, 1) := by decide +kernel
theorem dX1_judgeBegin_28 : decode cX1_judgeBegin 28 = .ok (.aaload, 1) := by decide +kernel
theorem dX1_judgeBegin_29 : decode cX1_judgeBegin 29 = .ok (.invokevirtual 88, 3) := by decide +kernel
theorem dX1_judgeBegin_32 : decode cX1_judgeBegin 32 = .ok (.goto 4, 3) := by decide +kernel
theorem dX1_judgeBegin_35 : decode cX1_judgeBegin 35 = .ok (.iconst 0, 1) := by decide +kernel
theorem dX1_judgeBegin_36 : decode cX1_judgeBegin 36 = .ok (.istore_n 2, 1) := by decide +kernel
theorem dX1_judgeBegin_37 : decode cX1_judgeBegin 37 = .ok (.aload_n 0, 1) := by decide +kernel
theorem dX1_judgeBegin_38 : decode cX1_judgeBegin 38 = .ok (.iload_n 2, 1) := by decide +kernel
theorem dX1_judgeBegin_39 : decode cX1_judgeBegin 39 = .ok (.iload_n 1, 1) := by decide +kernel
theorem dX1_judgeBegin_40 : decode cX1_judgeBegin 40 = .ok (.invokevirtual 92, 3) := by decide +kernel
theorem dX1_judgeBegin_43 : decode cX1_judgeBegin 43 = .ok (.ifCond .ne 13, 3) := by decide +kernel
theorem dX1_judgeBegin_46 : decode cX1_judgeBegin 46 = .ok (.aload_n 0, 1) := by decide +kernel
theorem dX1_judgeBegin_47 : decode cX1_judgeBegin 47 = .ok (.getfield 42, 3) := by decide +kernel
theorem dX1_judgeBegin_50 : decode cX1_judgeBegin 50 = .ok (.iload_n 2, 1) := by decide +kernel
theorem dX1_judgeBegin_51 : decode cX1_judgeBegin 51 = .ok (.iload_n 1, 1) := by decide +kernel
theorem dX1_judgeBegin_52 : decode cX1_judgeBegin 52 = .ok (.iconst 0, 1) := by decide +kernel
theorem dX1_judgeBegin_53 : decode cX1_judgeBegin 53 = .ok (.invokevirtual 96, 3) := by decide +kernel
theorem dX1_judgeBegin_56 : decode cX1_judgeBegin 56 = .ok (.return_, 1) := by decide +kernel
theorem okX1_judgeBegin_j36 {E : Ev} {X : Cx} {S : Sh} {Z : Option Nat} {Q : Hp → Prop} {h : Hp} {a0 : Nat} {x1 : Int32} {s0 : Int32} (O : Ok E X yX1_judgeBegin cX1_judgeBegin 3 none 4 90 0 0 (qV S Z Q)) (hw : wX1_judgeBegin_j36 S h a0 x1 s0 Q) : G E X 0 0 S Z h 36 [some (vr a0), some (vi x1), none] [vi s0] := by
  unfold wX1_judgeBegin_j36 at hw
  refine g_istore_n (lc' := [some (vr a0), some (vi x1), some (vi s0)]) O dX1_judgeBegin_36 rfl (Nat.le_of_ble_eq_true rfl) rfl ?_
  refine g_aload_n O dX1_judgeBegin_37 rfl ?_
  refine g_iload_n O dX1_judgeBegin_38 rfl ?_
  refine g_iload_n O dX1_judgeBegin_39 rfl ?_
  obtain ⟨c40, hw⟩ := hw
  refine g_callV (As := [vi s0, vi x1]) (rest := []) O ci_1 rfl dX1_judgeBegin_40 ml_X1_92 im_yX1_paired se_yX1_paired ini_X1 co_yX1_paired yo_yX1_paired c40 rfl rfl (Nat.le_of_ble_eq_true rfl) ⟨by decide, by decide, by decide, by decide⟩ (okX1_paired hw) (k_I fun r40 h40 hw => ?_)
  refine g_if_ne (tgt := 56) O dX1_judgeBegin_43 rfl (fun q43 => ?_) (fun q43 => ?_)
  · have hw := hw.1 q43
    exact g_return O dX1_judgeBegin_56 ⟨rfl, rfl, rfl, hw⟩
  · have hw := hw.2 q43
    refine g_aload_n O dX1_judgeBegin_46 rfl ?_
    refine gf_X1_verdict O dX1_judgeBegin_47 fl_X1_42 c40 ?_
    refine g_iload_n O dX1_judgeBegin_50 rfl ?_
    refine g_iload_n O dX1_judgeBegin_51 rfl ?_
    refine g_iconst O dX1_judgeBegin_52 kv_0 ?_
    obtain ⟨c53, hw⟩ := hw
    refine g_callV (As := [vi s0, vi x1, vi (0 : Int32)]) (rest := []) O ci_9 rfl dX1_judgeBegin_53 ml_X1_96 im_yX9_note se_yX9_note ini_X9 co_yX9_note yo_yX9_note c53 rfl rfl (Nat.le_of_ble_eq_true rfl) ⟨by decide, by decide, by decide, by decide⟩ (okX9_note hw) (k_V fun h53 hw => ?_)
    exact g_return O dX1_judgeBegin_56 ⟨rfl, rfl, rfl, hw⟩
theorem okX1_judgeBegin {E : Ev} {S : Sh} {Z : Option Nat} {Q : Hp → Prop} {h : Hp} {a0 : Nat} (hw : wX1_judgeBegin S h a0 Q) : Ct E yX1_judgeBegin cX1_judgeBegin 3 none 4 90 0 0 S Z h [vr a0] (qV S Z Q) := by
  refine Ct.of (by decide) (lc := [some (vr a0), none, none]) (Nat.le_of_ble_eq_true rfl) rfl (fun X O => ?_)
  unfold wX1_judgeBegin at hw
  refine g_aload_n O dX1_judgeBegin_0 rfl ?_
  obtain ⟨c1, hw⟩ := hw
  refine gf_X1_machine O dX1_judgeBegin_1 fl_X1_32 c1 ?_
  obtain ⟨c4, hw⟩ := hw
  refine g_callV (As := []) (rest := []) O ci_2 rfl dX1_judgeBegin_4 ml_X1_88 im_yX2_beginState se_yX2_beginState ini_X2 co_yX2_beginState yo_yX2_beginState c4 rfl rfl (Nat.le_of_ble_eq_true rfl) ⟨by decide, by decide, by decide, by decide⟩ (okX2_beginState hw) (k_I fun r4 h4 hw => ?_)
  refine g_istore_n (lc' := [some (vr a0), some (vi r4), none]) O dX1_judgeBegin_7 rfl (Nat.le_of_ble_eq_true rfl) rfl ?_
  refine g_aload_n O dX1_judgeBegin_8 rfl ?_
  refine gf_X1_number O dX1_judgeBegin_9 fl_X1_22 c1 ?_
  refine g_if_le (tgt := 35) O dX1_judgeBegin_12 rfl (fun q12 => ?_) (fun q12 => ?_)
  · have hw := hw.1 q12
    refine g_iconst O dX1_judgeBegin_35 kv_0 ?_
    exact okX1_judgeBegin_j36 O hw
  · have hw := hw.2 q12
    refine g_aload_n O dX1_judgeBegin_15 rfl ?_
    refine gf_X1_model O dX1_judgeBegin_16 fl_X1_18 c1 ?_
    obtain ⟨c19, hw⟩ := hw
    refine gf_X3_machines O dX1_judgeBegin_19 fl_X1_26 c19 ?_
    refine g_aload_n O dX1_judgeBegin_22 rfl ?_
    refine gf_X1_number O dX1_judgeBegin_23 fl_X1_22 c1 ?_
    refine g_iconst O dX1_judgeBegin_26 kv_1 ?_
    refine g_isub O dX1_judgeBegin_27 ?_
    obtain ⟨c28, hw⟩ := hw
    refine g_aaload (t := 1) (C := "FinerSteps$Machine") O rfl dX1_judgeBegin_28 c28.1 c28.2 ?_
    obtain ⟨c29, hw⟩ := hw
    refine g_callV (As := []) (rest := []) O ci_2 rfl dX1_judgeBegin_29 ml_X1_88 im_yX2_beginState se_yX2_beginState ini_X2 co_yX2_beginState yo_yX2_beginState c29 rfl rfl (Nat.le_of_ble_eq_true rfl) ⟨by decide, by decide, by decide, by decide⟩ (okX2_beginState hw) (k_I fun r29 h29 hw => ?_)
    refine g_goto (tgt := 36) O dX1_judgeBegin_32 rfl ?_
    exact okX1_judgeBegin_j36 O hw
theorem dX7_meets_0 : decode cX7_meets 0 = .ok (.aload_n 0, 1) := by decide +kernel
theorem dX7_meets_1 : decode cX7_meets 1 = .ok (.getfield 9, 3) := by decide +kernel
theorem dX7_meets_4 : decode cX7_meets 4 = .ok (.aload_n 1, 1) := by decide +kernel
theorem dX7_meets_5 : decode cX7_meets 5 = .ok (.getfield 9, 3) := by decide +kernel
theorem dX7_meets_8 : decode cX7_meets 8 = .ok (.land, 1) := by decide +kernel
theorem dX7_meets_9 : decode cX7_meets 9 = .ok (.lconst 0, 1) := by decide +kernel
theorem dX7_meets_10 : decode cX7_meets 10 = .ok (.lcmp, 1) := by decide +kernel
theorem dX7_meets_11 : decode cX7_meets 11 = .ok (.ifCond .ne 17, 3) := by decide +kernel
theorem dX7_meets_14 : decode cX7_meets 14 = .ok (.aload_n 0, 1) := by decide +kernel
theorem dX7_meets_15 : decode cX7_meets 15 = .ok (.getfield 15, 3) := by decide +kernel
theorem dX7_meets_18 : decode cX7_meets 18 = .ok (.aload_n 1, 1) := by decide +kernel
theorem dX7_meets_19 : decode cX7_meets 19 = .ok (.getfield 15, 3) := by decide +kernel
theorem dX7_meets_22 : decode cX7_meets 22 = .ok (.land, 1) := by decide +kernel
theorem dX7_meets_23 : decode cX7_meets 23 = .ok (.lconst 0, 1) := by decide +kernel
theorem dX7_meets_24 : decode cX7_meets 24 = .ok (.lcmp, 1) := by decide +kernel
theorem dX7_meets_25 : decode cX7_meets 25 = .ok (.ifCond .eq 7, 3) := by decide +kernel
theorem dX7_meets_28 : decode cX7_meets 28 = .ok (.iconst 1, 1) := by decide +kernel
theorem dX7_meets_29 : decode cX7_meets 29 = .ok (.goto 4, 3) := by decide +kernel
theorem dX7_meets_32 : decode cX7_meets 32 = .ok (.iconst 0, 1) := by decide +kernel
theorem dX7_meets_33 : decode cX7_meets 33 = .ok (.ireturn, 1) := by decide +kernel
theorem okX7_meets_j28 {E : Ev} {X : Cx} {S : Sh} {Z : Option Nat} {Q : Int32 → Hp → Prop} {h : Hp} (O : Ok E X yX7_meets cX7_meets 2 (some .boolean) 1 24 0 0 (qI S Z Q)) (hw : wX7_meets_j28 S h Q) : G E X 0 0 S Z h 28 [none, none] [] := by
  unfold wX7_meets_j28 at hw
  refine g_iconst O dX7_meets_28 kv_1 ?_
  refine g_goto (tgt := 33) O dX7_meets_29 rfl ?_
  exact g_zreturn O dX7_meets_33 (by decide) ⟨rfl, rfl, _, rfl, hw⟩
theorem okX7_meets {E : Ev} {S : Sh} {Z : Option Nat} {Q : Int32 → Hp → Prop} {h : Hp} {a0 : Nat} {a1 : Nat} (hw : wX7_meets S h a0 a1 Q) : Ct E yX7_meets cX7_meets 2 (some .boolean) 1 24 0 0 S Z h [vr a0, vr a1] (qI S Z Q) := by
  refine Ct.of (by decide) (lc := [some (vr a0), some (vr a1)]) (Nat.le_of_ble_eq_true rfl) rfl (fun X O => ?_)
  unfold wX7_meets at hw
  refine g_aload_n O dX7_meets_0 rfl ?_
  obtain ⟨c1, hw⟩ := hw
  refine gf_X7_low O dX7_meets_1 fl_X7_9 c1 ?_
  refine g_aload_n O dX7_meets_4 rfl ?_
  obtain ⟨c5, hw⟩ := hw
  refine gf_X7_low O dX7_meets_5 fl_X7_9 c5 ?_
  refine g_land O dX7_meets_8 ?_
  refine g_lconst O dX7_meets_9 kl_0 ?_
  refine g_lcmp O dX7_meets_10 ?_
  refine g_if_ne (tgt := 28) O dX7_meets_11 rfl (fun q11 => ?_) (fun q11 => ?_)
  · have hw := hw.1 q11
    refine g_mask [false, false] rfl rfl ?_
    exact okX7_meets_j28 O hw
  · have hw := hw.2 q11
    refine g_aload_n O dX7_meets_14 rfl ?_
    refine gf_X7_high O dX7_meets_15 fl_X7_15 c1 ?_
    refine g_aload_n O dX7_meets_18 rfl ?_
    refine gf_X7_high O dX7_meets_19 fl_X7_15 c5 ?_
    refine g_land O dX7_meets_22 ?_
    refine g_lconst O dX7_meets_23 kl_0 ?_
    refine g_lcmp O dX7_meets_24 ?_
    refine g_if_eq (tgt := 32) O dX7_meets_25 rfl (fun q25 => ?_) (fun q25 => ?_)
    · have hw := hw.1 q25
      refine g_iconst O dX7_meets_32 kv_0 ?_
      exact g_zreturn O dX7_meets_33 (by decide) ⟨rfl, rfl, _, rfl, hw⟩
    · have hw := hw.2 q25
      refine g_mask [false, false] rfl rfl ?_
      exact okX7_meets_j28 O hw
theorem dX1_keeps_0 : decode cX1_keeps 0 = .ok (.aload_n 0, 1) := by decide +kernel
theorem dX1_keeps_1 : decode cX1_keeps 1 = .ok (.getfield 22, 3) := by decide +kernel
theorem dX1_keeps_4 : decode cX1_keeps 4 = .ok (.ifCond .le 29, 3) := by decide +kernel
theorem dX1_keeps_7 : decode cX1_keeps 7 = .ok (.aload_n 1, 1) := by decide +kernel
theorem dX1_keeps_8 : decode cX1_keeps 8 = .ok (.getfield 83, 3) := by decide +kernel
theorem dX1_keeps_11 : decode cX1_keeps 11 = .ok (.bipush (-2), 2) := by decide +kernel
theorem dX1_keeps_13 : decode cX1_keeps 13 = .ok (.if_icmp .eq 20, 3) := by decide +kernel
theorem dX1_keeps_16 : decode cX1_keeps 16 = .ok (.aload_n 0, 1) := by decide +kernel
theorem dX1_keeps_17 : decode cX1_keeps 17 = .ok (.getfield 32, 3) := by decide +kernel
theorem dX1_keeps_20 : decode cX1_keeps 20 = .ok (.getfield 144, 3) := by decide +kernel
theorem dX1_keeps_23 : decode cX1_keeps 23 = .ok (.iload_n 3, 1) := by decide +kernel
theorem dX1_keeps_24 : decode cX1_keeps 24 = .ok (.aaload, 1) := by decide +kernel
theorem dX1_keeps_25 : decode cX1_keeps 25 = .ok (.aload_n 0, 1) := by decide +kernel
theorem dX1_keeps_26 : decode cX1_keeps 26 = .ok (.getfield 12, 3) := by decide +kernel
theorem dX1_keeps_29 : decode cX1_keeps 29 = .ok (.invokevirtual 148, 3) := by decide +kernel
theorem dX1_keeps_32 : decode cX1_keeps 32 = .ok (.ireturn, 1) := by decide +kernel
theorem dX1_keeps_33 : decode cX1_keeps 33 = .ok (.aload_n 0, 1) := by decide +kernel
theorem dX1_keeps_34 : decode cX1_keeps 34 = .ok (.iload_n 2, 1) := by decide +kernel
theorem dX1_keeps_35 : decode cX1_keeps 35 = .ok (.iload_n 3, 1) := by decide +kernel
theorem dX1_keeps_36 : decode cX1_keeps 36 = .ok (.invokevirtual 92, 3) := by decide +kernel
theorem dX1_keeps_39 : decode cX1_keeps 39 = .ok (.ireturn, 1) := by decide +kernel
theorem okX1_keeps {E : Ev} {S : Sh} {Z : Option Nat} {Q : Int32 → Hp → Prop} {h : Hp} {a0 : Nat} {a1 : Nat} {x2 : Int32} {x3 : Int32} (hw : wX1_keeps S h a0 a1 x2 x3 Q) : Ct E yX1_keeps cX1_keeps 4 (some .boolean) 3 69 0 0 S Z h [vr a0, vr a1, vi x2, vi x3] (qI S Z Q) := by
  refine Ct.of (by decide) (lc := [some (vr a0), some (vr a1), some (vi x2), some (vi x3)]) (Nat.le_of_ble_eq_true rfl) rfl (fun X O => ?_)
  unfold wX1_keeps at hw
  refine g_aload_n O dX1_keeps_0 rfl ?_
  obtain ⟨c1, hw⟩ := hw
  refine gf_X1_number O dX1_keeps_1 fl_X1_22 c1 ?_
  refine g_if_le (tgt := 33) O dX1_keeps_4 rfl (fun q4 => ?_) (fun q4 => ?_)
  · have hw := hw.1 q4
    refine g_aload_n O dX1_keeps_33 rfl ?_
    refine g_iload_n O dX1_keeps_34 rfl ?_
    refine g_iload_n O dX1_keeps_35 rfl ?_
    refine g_callV (As := [vi x2, vi x3]) (rest := []) O ci_1 rfl dX1_keeps_36 ml_X1_92 im_yX1_paired se_yX1_paired ini_X1 co_yX1_paired yo_yX1_paired c1 rfl rfl (Nat.le_of_ble_eq_true rfl) ⟨by decide, by decide, by decide, by decide⟩ (okX1_paired hw) (k_I fun r36 h36 hw => ?_)
    obtain ⟨c39z, hw⟩ := hw
    exact g_zreturn O dX1_keeps_39 c39z ⟨rfl, rfl, _, rfl, hw⟩
  · have hw := hw.2 q4
    refine g_aload_n O dX1_keeps_7 rfl ?_
    obtain ⟨c8, hw⟩ := hw
    refine gf_X0_of O dX1_keeps_8 fl_X1_83 c8 ?_
    refine g_bipush O dX1_keeps_11 kb_m2 ?_
    refine g_icmp_eq (tgt := 33) O dX1_keeps_13 rfl (fun q13 => ?_) (fun q13 => ?_)
    · have hw := hw.1 q13
      refine g_aload_n O dX1_keeps_33 rfl ?_
      refine g_iload_n O dX1_keeps_34 rfl ?_
      refine g_iload_n O dX1_keeps_35 rfl ?_
      refine g_callV (As := [vi x2, vi x3]) (rest := []) O ci_1 rfl dX1_keeps_36 ml_X1_92 im_yX1_paired se_yX1_paired ini_X1 co_yX1_paired yo_yX1_paired c1 rfl rfl (Nat.le_of_ble_eq_true rfl) ⟨by decide, by decide, by decide, by decide⟩ (okX1_paired hw) (k_I fun r36 h36 hw => ?_)
      obtain ⟨c39z, hw⟩ := hw
      exact g_zreturn O dX1_keeps_39 c39z ⟨rfl, rfl, _, rfl, hw⟩
    · have hw := hw.2 q13
      refine g_aload_n O dX1_keeps_16 rfl ?_
      refine gf_X1_machine O dX1_keeps_17 fl_X1_32 c1 ?_
      obtain ⟨c20, hw⟩ := hw
      refine gf_X2_glue O dX1_keeps_20 fl_X1_144 c20 ?_
      refine g_iload_n O dX1_keeps_23 rfl ?_
      obtain ⟨c24, hw⟩ := hw
      refine g_aaload (t := 2) (C := "FinerSteps$StateSet") O rfl dX1_keeps_24 c24.1 c24.2 ?_
      refine g_aload_n O dX1_keeps_25 rfl ?_
      refine gf_X1_image O dX1_keeps_26 fl_X1_12 c1 ?_
      obtain ⟨c29, hw⟩ := hw
      refine g_callV (As := [vr (gR h a0 0)]) (rest := []) O ci_7 rfl dX1_keeps_29 ml_X1_148 im_yX7_meets se_yX7_meets ini_X7 co_yX7_meets yo_yX7_meets c29 rfl rfl (Nat.le_of_ble_eq_true rfl) ⟨by decide, by decide, by decide, by decide⟩ (okX7_meets hw) (k_I fun r29 h29 hw => ?_)
      obtain ⟨c32z, hw⟩ := hw
      exact g_zreturn O dX1_keeps_32 c32z ⟨rfl, rfl, _, rfl, hw⟩
theorem dX1_lessens_0 : decode cX1_lessens 0 = .ok (.aload_n 0, 1) := by decide +kernel
theorem dX1_lessens_1 : decode cX1_lessens 1 = .ok (.getfield 32, 3) := by decide +kernel
theorem dX1_lessens_4 : decode cX1_lessens 4 = .ok (.getfield 137, 3) := by decide +kernel
theorem dX1_lessens_7 : decode cX1_lessens 7 = .ok (.iconst (-1), 1) := by decide +kernel
theorem dX1_lessens_8 : decode cX1_lessens 8 = .ok (.if_icmp .eq 40, 3) := by decide +kernel
theorem dX1_lessens_11 : decode cX1_lessens 11 = .ok (.aload_n 0, 1) := by decide +kernel
theorem dX1_lessens_12 : decode cX1_lessens 12 = .ok (.getfield 32, 3) := by decide +kernel
theorem dX1_lessens_15 : decode cX1_lessens 15 = .ok (.getfield 140, 3) := by decide +kernel
theorem dX1_lessens_18 : decode cX1_lessens 18 = .ok (.iload_n 2, 1) := by decide +kernel
theorem dX1_lessens_19 : decode cX1_lessens 19 = .ok (.iaload, 1) := by decide +kernel
theorem dX1_lessens_20 : decode cX1_lessens 20 = .ok (.ifCond .lt 28, 3) := by decide +kernel
theorem dX1_lessens_23 : decode cX1_lessens 23 = .ok (.aload_n 0, 1) := by decide +kernel
theorem dX1_lessens_24 : decode cX1_lessens 24 = .ok (.getfield 32, 3) := by decide +kernel
theorem dX1_lessens_27 : decode cX1_lessens 27 = .ok (.getfield 140, 3) := by decide +kernel
theorem dX1_lessens_30 : decode cX1_lessens 30 = .ok (.iload_n 2, 1) := by decide +kernel
theorem dX1_lessens_31 : decode cX1_lessens 31 = .ok (.iaload, 1) := by decide +kernel
theorem dX1_lessens_32 : decode cX1_lessens 32 = .ok (.aload_n 0, 1) := by decide +kernel
theorem dX1_lessens_33 : decode cX1_lessens 33 = .ok (.getfield 32, 3) := by decide +kernel
theorem dX1_lessens_36 : decode cX1_lessens 36 = .ok (.getfield 140, 3) := by decide +kernel
theorem dX1_lessens_39 : decode cX1_lessens 39 = .ok (.iload_n 1, 1) := by decide +kernel
theorem dX1_lessens_40 : decode cX1_lessens 40 = .ok (.iaload, 1) := by decide +kernel
theorem dX1_lessens_41 : decode cX1_lessens 41 = .ok (.if_icmp .ge 7, 3) := by decide +kernel
theorem dX1_lessens_44 : decode cX1_lessens 44 = .ok (.iconst 1, 1) := by decide +kernel
theorem dX1_lessens_45 : decode cX1_lessens 45 = .ok (.goto 4, 3) := by decide +kernel
theorem dX1_lessens_48 : decode cX1_lessens 48 = .ok (.iconst 0, 1) := by decide +kernel
theorem dX1_lessens_49 : decode cX1_lessens 49 = .ok (.ireturn, 1) := by decide +kernel
theorem okX1_lessens {E : Ev} {S : Sh} {Z : Option Nat} {Q : Int32 → Hp → Prop} {h : Hp} {a0 : Nat} {x1 : Int32} {x2 : Int32} (hw : wX1_lessens S h a0 x1 x2 Q) : Ct E yX1_lessens cX1_lessens 3 (some .boolean) 1 24 0 0 S Z h [vr a0, vi x1, vi x2] (qI S Z Q) := by
  refine Ct.of (by decide) (lc := [some (vr a0), some (vi x1), some (vi x2)]) (Nat.le_of_ble_eq_true rfl) rfl (fun X O => ?_)
  unfold wX1_lessens at hw
  refine g_aload_n O dX1_lessens_0 rfl ?_
  obtain ⟨c1, hw⟩ := hw
  refine gf_X1_machine O dX1_lessens_1 fl_X1_32 c1 ?_
  obtain ⟨c4, hw⟩ := hw
  refine gf_X2_variantCode O dX1_lessens_4 fl_X1_137 c4 ?_
  refine g_iconst O dX1_lessens_7 kv_m1 ?_
  refine g_icmp_eq (tgt := 48) O dX1_lessens_8 rfl (fun q8 => ?_) (fun q8 => ?_)
  · have hw := hw.1 q8
    refine g_iconst O dX1_lessens_48 kv_0 ?_
    exact g_zreturn O dX1_lessens_49 (by decide) ⟨rfl, rfl, _, rfl, hw⟩
  · have hw := hw.2 q8
    refine g_aload_n O dX1_lessens_11 rfl ?_
    refine gf_X1_machine O dX1_lessens_12 fl_X1_32 c1 ?_
    refine gf_X2_variants O dX1_lessens_15 fl_X1_140 c4 ?_
    refine g_iload_n O dX1_lessens_18 rfl ?_
    obtain ⟨c19, hw⟩ := hw
    refine g_iaload O dX1_lessens_19 c19.1 c19.2 ?_
    refine g_if_lt (tgt := 48) O dX1_lessens_20 rfl (fun q20 => ?_) (fun q20 => ?_)
    · have hw := hw.1 q20
      refine g_iconst O dX1_lessens_48 kv_0 ?_
      exact g_zreturn O dX1_lessens_49 (by decide) ⟨rfl, rfl, _, rfl, hw⟩
    · have hw := hw.2 q20
      refine g_aload_n O dX1_lessens_23 rfl ?_
      refine gf_X1_machine O dX1_lessens_24 fl_X1_32 c1 ?_
      refine gf_X2_variants O dX1_lessens_27 fl_X1_140 c4 ?_
      refine g_iload_n O dX1_lessens_30 rfl ?_
      refine g_iaload O dX1_lessens_31 c19.1 c19.2 ?_
      refine g_aload_n O dX1_lessens_32 rfl ?_
      refine gf_X1_machine O dX1_lessens_33 fl_X1_32 c1 ?_
      refine gf_X2_variants O dX1_lessens_36 fl_X1_140 c4 ?_
      refine g_iload_n O dX1_lessens_39 rfl ?_
      obtain ⟨c40, hw⟩ := hw
      refine g_iaload O dX1_lessens_40 c40.1 c40.2 ?_
      refine g_icmp_ge (tgt := 48) O dX1_lessens_41 rfl (fun q41 => ?_) (fun q41 => ?_)
      · have hw := hw.1 q41
        refine g_iconst O dX1_lessens_48 kv_0 ?_
        exact g_zreturn O dX1_lessens_49 (by decide) ⟨rfl, rfl, _, rfl, hw⟩
      · have hw := hw.2 q41
        refine g_iconst O dX1_lessens_44 kv_1 ?_
        refine g_goto (tgt := 49) O dX1_lessens_45 rfl ?_
        exact g_zreturn O dX1_lessens_49 (by decide) ⟨rfl, rfl, _, rfl, hw⟩
theorem dX1_judgePicks_0 : decode cX1_judgePicks 0 = .ok (.aload_n 1, 1) := by decide +kernel
theorem dX1_judgePicks_1 : decode cX1_judgePicks 1 = .ok (.iload 4, 2) := by decide +kernel
theorem dX1_judgePicks_3 : decode cX1_judgePicks 3 = .ok (.invokevirtual 115, 3) := by decide +kernel
theorem dX1_judgePicks_6 : decode cX1_judgePicks 6 = .ok (.istore 5, 2) := by decide +kernel
theorem dX1_judgePicks_8 : decode cX1_judgePicks 8 = .ok (.iconst 0, 1) := by decide +kernel
theorem dX1_judgePicks_9 : decode cX1_judgePicks 9 = .ok (.istore 6, 2) := by decide +kernel
theorem dX1_judgePicks_11 : decode cX1_judgePicks 11 = .ok (.iload 5, 2) := by decide +kernel
theorem dX1_judgePicks_13 : decode cX1_judgePicks 13 = .ok (.iload 6, 2) := by decide +kernel
theorem dX1_judgePicks_15 : decode cX1_judgePicks 15 = .ok (.ishr, 1) := by decide +kernel
theorem dX1_judgePicks_16 : decode cX1_judgePicks 16 = .ok (.ifCond .eq 109, 3) := by decide +kernel
theorem dX1_judgePicks_19 : decode cX1_judgePicks 19 = .ok (.iload 6, 2) := by decide +kernel
theorem dX1_judgePicks_21 : decode cX1_judgePicks 21 = .ok (.bipush 10, 2) := by decide +kernel
theorem dX1_judgePicks_23 : decode cX1_judgePicks 23 = .ok (.if_icmp .ge 102, 3) := by decide +kernel
theorem dX1_judgePicks_26 : decode cX1_judgePicks 26 = .ok (.iload 5, 2) := by decide +kernel
theorem dX1_judgePicks_28 : decode cX1_judgePicks 28 = .ok (.iload 6, 2) := by decide +kernel
theorem dX1_judgePicks_30 : decode cX1_judgePicks 30 = .ok (.ishr, 1) := by decide +kernel
theorem dX1_judgePicks_31 : decode cX1_judgePicks 31 = .ok (.iconst 1, 1) := by decide +kernel
theorem dX1_judgePicks_32 : decode cX1_judgePicks 32 = .ok (.iand, 1) := by decide +kernel
theorem dX1_judgePicks_33 : decode cX1_judgePicks 33 = .ok (.ifCond .ne 6, 3) := by decide +kernel
theorem dX1_judgePicks_36 : decode cX1_judgePicks 36 = .ok (.goto 83, 3) := by decide +kernel
theorem dX1_judgePicks_39 : decode cX1_judgePicks 39 = .ok (.aload_n 1, 1) := by decide +kernel
theorem dX1_judgePicks_40 : decode cX1_judgePicks 40 = .ok (.iload 4, 2) := by decide +kernel
theorem dX1_judgePicks_42 : decode cX1_judgePicks 42 = .ok (.iload 6, 2) := by decide +kernel
theorem dX1_judgePicks_44 : decode cX1_judgePicks 44 = .ok (.invokevirtual 123, 3) := by decide +kernel
theorem dX1_judgePicks_47 : decode cX1_judgePicks 47 = .ok (.istore 7, 2) := by decide +kernel
theorem dX1_judgePicks_49 : decode cX1_judgePicks 49 = .ok (.iload_n 2, 1) := by decide +kernel
theorem dX1_judgePicks_50 : decode cX1_judgePicks 50 = .ok (.iconst 1, 1) := by decide +kernel
theorem dX1_judgePicks_51 : decode cX1_judgePicks 51 = .ok (.if_icmp .eq 39, 3) := by decide +kernel
theorem dX1_judgePicks_54 : decode cX1_judgePicks 54 = .ok (.iload 7, 2) := by decide +kernel
theorem dX1_judgePicks_56 : decode cX1_judgePicks 56 = .ok (.ifCond .lt 34, 3) := by decide +kernel
theorem dX1_judgePicks_59 : decode cX1_judgePicks 59 = .ok (.iload_n 2, 1) := by decide +kernel
theorem dX1_judgePicks_60 : decode cX1_judgePicks 60 = .ok (.iconst 2, 1) := by decide +kernel
theorem dX1_judgePicks_61 : decode cX1_judgePicks 61 = .ok (.if_icmp .ne 14, 3) := by decide +kernel
theorem dX1_judgePicks_64 : decode cX1_judgePicks 64 = .ok (.aload_n 0, 1) := by decide +kernel
theorem dX1_judgePicks_65 : decode cX1_judgePicks 65 = .ok (.iload 4, 2) := by decide +kernel
theorem dX1_judgePicks_67 : decode cX1_judgePicks 67 = .ok (.iload 7, 2) := by decide +kernel
theorem dX1_judgePicks_69 : decode cX1_judgePicks 69 = .ok (.invokevirtual 127, 3) := by decide +kernel
theorem dX1_judgePicks_72 : decode cX1_judgePicks 72 = .ok (.ifCond .eq 18, 3) := by decide +kernel
theorem dX1_judgePicks_75 : decode cX1_judgePicks 75 = .ok (.iload_n 2, 1) := by decide +kernel
theorem dX1_judgePicks_76 : decode cX1_judgePicks 76 = .ok (.ifCond .ne 18, 3) := by decide +kernel
theorem dX1_judgePicks_79 : decode cX1_judgePicks 79 = .ok (.aload_n 0, 1) := by decide +kernel
theorem dX1_judgePicks_80 : decode cX1_judgePicks 80 = .ok (.aload_n 1, 1) := by decide +kernel
theorem dX1_judgePicks_81 : decode cX1_judgePicks 81 = .ok (.iload_n 3, 1) := by decide +kernel
theorem dX1_judgePicks_82 : decode cX1_judgePicks 82 = .ok (.iload 7, 2) := by decide +kernel
theorem dX1_judgePicks_84 : decode cX1_judgePicks 84 = .ok (.invokevirtual 130, 3) := by decide +kernel
theorem dX1_judgePicks_87 : decode cX1_judgePicks 87 = .ok (.ifCond .ne 7, 3) := by decide +kernel
theorem dX1_judgePicks_90 : decode cX1_judgePicks 90 = .ok (.iconst 1, 1) := by decide +kernel
theorem dX1_judgePicks_91 : decode cX1_judgePicks 91 = .ok (.goto 4, 3) := by decide +kernel
theorem dX1_judgePicks_94 : decode cX1_judgePicks 94 = .ok (.iconst 0, 1) := by decide +kernel
theorem dX1_judgePicks_95 : decode cX1_judgePicks 95 = .ok (.istore 8, 2) := by decide +kernel
theorem dX1_judgePicks_97 : decode cX1_judgePicks 97 = .ok (.iload 8, 2) := by decide +kernel
theorem dX1_judgePicks_99 : decode cX1_judgePicks 99 = .ok (.ifCond .eq 20, 3) := by decide +kernel
theorem dX1_judgePicks_102 : decode cX1_judgePicks 102 = .ok (.aload_n 0, 1) := by decide +kernel
theorem dX1_judgePicks_103 : decode cX1_judgePicks 103 = .ok (.getfield 42, 3) := by decide +kernel
theorem dX1_judgePicks_106 : decode cX1_judgePicks 106 = .ok (.iload_n 3, 1) := by decide +kernel
theorem dX1_judgePicks_107 : decode cX1_judgePicks 107 = .ok (.iload 4, 2) := by decide +kernel
theorem dX1_judgePicks_109 : decode cX1_judgePicks 109 = .ok (.aload_n 1, 1) := by decide +kernel
theorem dX1_judgePicks_110 : decode cX1_judgePicks 110 = .ok (.getfield 134, 3) := by decide +kernel
theorem dX1_judgePicks_113 : decode cX1_judgePicks 113 = .ok (.iload 6, 2) := by decide +kernel
theorem dX1_judgePicks_115 : decode cX1_judgePicks 115 = .ok (.iadd, 1) := by decide +kernel
theorem dX1_judgePicks_116 : decode cX1_judgePicks 116 = .ok (.invokevirtual 96, 3) := by decide +kernel
theorem dX1_judgePicks_119 : decode cX1_judgePicks 119 = .ok (.iinc 6 1, 3) := by decide +kernel
theorem dX1_judgePicks_122 : decode cX1_judgePicks 122 = .ok (.goto (-111), 3) := by decide +kernel
theorem dX1_judgePicks_125 : decode cX1_judgePicks 125 = .ok (.return_, 1) := by decide +kernel
theorem okX1_judgePicks_j95 {E : Ev} {X : Cx} {S : Sh} {Z : Option Nat} {Q : Hp → Prop} {B11 : Hp → Int32 → Prop} {h : Hp} {a0 : Nat} {a1 : Nat} {x2 : Int32} {x3 : Int32} {x4 : Int32} {x5 : Int32} {x6 : Int32} {s0 : Int32} (O : Ok E X yX1_judgePicks cX1_judgePicks 9 none 4 92 0 0 (qV S Z Q)) (hB11 : ∀ (h : Hp) (x6 : Int32), B11 h x6 → G E X 0 0 S Z h 11 [some (vr a0), some (vr a1), some (vi x2), some (vi x3), some (vi x4), some (vi x5), some (vi x6), none, none] []) (hw : wX1_judgePicks_j95 S B11 h a0 a1 x2 x3 x4 x5 x6 s0 Q) : G E X 0 0 S Z h 95 [some (vr a0), some (vr a1), some (vi x2), some (vi x3), some (vi x4), some (vi x5), some (vi x6), none, none] [vi s0] := by
  unfold wX1_judgePicks_j95 at hw
  refine g_istore (lc' := [some (vr a0), some (vr a1), some (vi x2), some (vi x3), some (vi x4), some (vi x5), some (vi x6), none, some (vi s0)]) O dX1_judgePicks_95 rfl (Nat.le_of_ble_eq_true rfl) rfl ?_
  refine g_iload O dX1_judgePicks_97 rfl ?_
  refine g_if_eq (tgt := 119) O dX1_judgePicks_99 rfl (fun q99 => ?_) (fun q99 => ?_)
  · have hw := hw.1 q99
    refine g_iinc (lc' := [some (vr a0), some (vr a1), some (vi x2), some (vi x3), some (vi x4), some (vi x5), some (vi (x6 + (1 : Int32))), none, some (vi s0)]) O dX1_judgePicks_119 rfl kv_1 rfl rfl ?_
    refine g_goto (tgt := 11) O dX1_judgePicks_122 rfl ?_
    refine g_mask [true, true, true, true, true, true, true, false, false] rfl rfl ?_
    exact hB11 _ _ hw
  · have hw := hw.2 q99
    refine g_aload_n O dX1_judgePicks_102 rfl ?_
    obtain ⟨c103, hw⟩ := hw
    refine gf_X1_verdict O dX1_judgePicks_103 fl_X1_42 c103 ?_
    refine g_iload_n O dX1_judgePicks_106 rfl ?_
    refine g_iload O dX1_judgePicks_107 rfl ?_
    refine g_aload_n O dX1_judgePicks_109 rfl ?_
    obtain ⟨c110, hw⟩ := hw
    refine gf_X0_first O dX1_judgePicks_110 fl_X1_134 c110 ?_
    refine g_iload O dX1_judgePicks_113 rfl ?_
    refine g_iadd O dX1_judgePicks_115 ?_
    obtain ⟨c116, hw⟩ := hw
    refine g_callV (As := [vi x3, vi x4, vi (((gI h a1 6) + x6))]) (rest := []) O ci_9 rfl dX1_judgePicks_116 ml_X1_96 im_yX9_note se_yX9_note ini_X9 co_yX9_note yo_yX9_note c116 rfl rfl (Nat.le_of_ble_eq_true rfl) ⟨by decide, by decide, by decide, by decide⟩ (okX9_note hw) (k_V fun h116 hw => ?_)
    refine g_iinc (lc' := [some (vr a0), some (vr a1), some (vi x2), some (vi x3), some (vi x4), some (vi x5), some (vi (x6 + (1 : Int32))), none, some (vi s0)]) O dX1_judgePicks_119 rfl kv_1 rfl rfl ?_
    refine g_goto (tgt := 11) O dX1_judgePicks_122 rfl ?_
    refine g_mask [true, true, true, true, true, true, true, false, false] rfl rfl ?_
    exact hB11 _ _ hw
theorem okX1_judgePicks_j94 {E : Ev} {X : Cx} {S : Sh} {Z : Option Nat} {Q : Hp → Prop} {B11 : Hp → Int32 → Prop} {h : Hp} {a0 : Nat} {a1 : Nat} {x2 : Int32} {x3 : Int32} {x4 : Int32} {x5 : Int32} {x6 : Int32} (O : Ok E X yX1_judgePicks cX1_judgePicks 9 none 4 92 0 0 (qV S Z Q)) (hB11 : ∀ (h : Hp) (x6 : Int32), B11 h x6 → G E X 0 0 S Z h 11 [some (vr a0), some (vr a1), some (vi x2), some (vi x3), some (vi x4), some (vi x5), some (vi x6), none, none] []) (hw : wX1_judgePicks_j94 S B11 h a0 a1 x2 x3 x4 x5 x6 Q) : G E X 0 0 S Z h 94 [some (vr a0), some (vr a1), some (vi x2), some (vi x3), some (vi x4), some (vi x5), some (vi x6), none, none] [] := by
  unfold wX1_judgePicks_j94 at hw
  refine g_iconst O dX1_judgePicks_94 kv_0 ?_
  exact okX1_judgePicks_j95 O hB11 hw
theorem okX1_judgePicks_j90 {E : Ev} {X : Cx} {S : Sh} {Z : Option Nat} {Q : Hp → Prop} {B11 : Hp → Int32 → Prop} {h : Hp} {a0 : Nat} {a1 : Nat} {x2 : Int32} {x3 : Int32} {x4 : Int32} {x5 : Int32} {x6 : Int32} (O : Ok E X yX1_judgePicks cX1_judgePicks 9 none 4 92 0 0 (qV S Z Q)) (hB11 : ∀ (h : Hp) (x6 : Int32), B11 h x6 → G E X 0 0 S Z h 11 [some (vr a0), some (vr a1), some (vi x2), some (vi x3), some (vi x4), some (vi x5), some (vi x6), none, none] []) (hw : wX1_judgePicks_j90 S B11 h a0 a1 x2 x3 x4 x5 x6 Q) : G E X 0 0 S Z h 90 [some (vr a0), some (vr a1), some (vi x2), some (vi x3), some (vi x4), some (vi x5), some (vi x6), none, none] [] := by
  unfold wX1_judgePicks_j90 at hw
  refine g_iconst O dX1_judgePicks_90 kv_1 ?_
  refine g_goto (tgt := 95) O dX1_judgePicks_91 rfl ?_
  exact okX1_judgePicks_j95 O hB11 hw
theorem okX1_judgePicks_j75 {E : Ev} {X : Cx} {S : Sh} {Z : Option Nat} {Q : Hp → Prop} {B11 : Hp → Int32 → Prop} {h : Hp} {a0 : Nat} {a1 : Nat} {x2 : Int32} {x3 : Int32} {x4 : Int32} {x5 : Int32} {x6 : Int32} {x7 : Int32} (O : Ok E X yX1_judgePicks cX1_judgePicks 9 none 4 92 0 0 (qV S Z Q)) (hB11 : ∀ (h : Hp) (x6 : Int32), B11 h x6 → G E X 0 0 S Z h 11 [some (vr a0), some (vr a1), some (vi x2), some (vi x3), some (vi x4), some (vi x5), some (vi x6), none, none] []) (hw : wX1_judgePicks_j75 S B11 h a0 a1 x2 x3 x4 x5 x6 x7 Q) : G E X 0 0 S Z h 75 [some (vr a0), some (vr a1), some (vi x2), some (vi x3), some (vi x4), some (vi x5), some (vi x6), some (vi x7), none] [] := by
  unfold wX1_judgePicks_j75 at hw
  refine g_iload_n O dX1_judgePicks_75 rfl ?_
  refine g_if_ne (tgt := 94) O dX1_judgePicks_76 rfl (fun q76 => ?_) (fun q76 => ?_)
  · have hw := hw.1 q76
    refine g_mask [true, true, true, true, true, true, true, false, false] rfl rfl ?_
    exact okX1_judgePicks_j94 O hB11 hw
  · have hw := hw.2 q76
    refine g_aload_n O dX1_judgePicks_79 rfl ?_
    refine g_aload_n O dX1_judgePicks_80 rfl ?_
    refine g_iload_n O dX1_judgePicks_81 rfl ?_
    refine g_iload O dX1_judgePicks_82 rfl ?_
    obtain ⟨c84, hw⟩ := hw
    refine g_callV (As := [vr a1, vi x3, vi x7]) (rest := []) O ci_1 rfl dX1_judgePicks_84 ml_X1_130 im_yX1_keeps se_yX1_keeps ini_X1 co_yX1_keeps yo_yX1_keeps c84 rfl rfl (Nat.le_of_ble_eq_true rfl) ⟨by decide, by decide, by decide, by decide⟩ (okX1_keeps hw) (k_I fun r84 h84 hw => ?_)
    refine g_if_ne (tgt := 94) O dX1_judgePicks_87 rfl (fun q87 => ?_) (fun q87 => ?_)
    · have hw := hw.1 q87
      refine g_mask [true, true, true, true, true, true, true, false, false] rfl rfl ?_
      exact okX1_judgePicks_j94 O hB11 hw
    · have hw := hw.2 q87
      refine g_mask [true, true, true, true, true, true, true, false, false] rfl rfl ?_
      exact okX1_judgePicks_j90 O hB11 hw
theorem okX1_judgePicks_11 {E : Ev} {X : Cx} {S : Sh} {Z : Option Nat} {Q : Hp → Prop} {a0 : Nat} {a1 : Nat} {x2 : Int32} {x3 : Int32} {x4 : Int32} {x5 : Int32} (O : Ok E X yX1_judgePicks cX1_judgePicks 9 none 4 92 0 0 (qV S Z Q)) : ∀ (n : Nat) (h : Hp) (x6 : Int32), wX1_judgePicks_11 S a0 a1 x2 x3 x4 x5 Q n h x6 → G E X 0 0 S Z h 11 [some (vr a0), some (vr a1), some (vi x2), some (vi x3), some (vi x4), some (vi x5), some (vi x6), none, none] [] := by
  intro n
  induction n with
  | zero => intro h x6 hw; exact hw.elim
  | succ n hB11 =>
    intro h x6 hw
    have hw : wX1_judgePicks_11b S a0 a1 x2 x3 x4 x5 Q (wX1_judgePicks_11 S a0 a1 x2 x3 x4 x5 Q n) h x6 := hw
    unfold wX1_judgePicks_11b at hw
    refine g_iload O dX1_judgePicks_11 rfl ?_
    refine g_iload O dX1_judgePicks_13 rfl ?_
    refine g_ishr O dX1_judgePicks_15 ?_
    refine g_if_eq (tgt := 125) O dX1_judgePicks_16 rfl (fun q16 => ?_) (fun q16 => ?_)
    · have hw := hw.1 q16
      exact g_return O dX1_judgePicks_125 ⟨rfl, rfl, rfl, hw⟩
    · have hw := hw.2 q16
      refine g_iload O dX1_judgePicks_19 rfl ?_
      refine g_bipush O dX1_judgePicks_21 kb_10 ?_
      refine g_icmp_ge (tgt := 125) O dX1_judgePicks_23 rfl (fun q23 => ?_) (fun q23 => ?_)
      · have hw := hw.1 q23
        exact g_return O dX1_judgePicks_125 ⟨rfl, rfl, rfl, hw⟩
      · have hw := hw.2 q23
        refine g_iload O dX1_judgePicks_26 rfl ?_
        refine g_iload O dX1_judgePicks_28 rfl ?_
        refine g_ishr O dX1_judgePicks_30 ?_
        refine g_iconst O dX1_judgePicks_31 kv_1 ?_
        refine g_iand O dX1_judgePicks_32 ?_
        refine g_if_ne (tgt := 39) O dX1_judgePicks_33 rfl (fun q33 => ?_) (fun q33 => ?_)
        · have hw := hw.1 q33
          refine g_aload_n O dX1_judgePicks_39 rfl ?_
          refine g_iload O dX1_judgePicks_40 rfl ?_
          refine g_iload O dX1_judgePicks_42 rfl ?_
          obtain ⟨c44, hw⟩ := hw
          refine g_callV (As := [vi x4, vi x6]) (rest := []) O ci_0 rfl dX1_judgePicks_44 ml_X1_123 im_yX0_after se_yX0_after ini_X0 co_yX0_after yo_yX0_after c44 rfl rfl (Nat.le_of_ble_eq_true rfl) ⟨by decide, by decide, by decide, by decide⟩ (okX0_after hw) (k_I fun r44 h44 hw => ?_)
          refine g_istore (lc' := [some (vr a0), some (vr a1), some (vi x2), some (vi x3), some (vi x4), some (vi x5), some (vi x6), some (vi r44), none]) O dX1_judgePicks_47 rfl (Nat.le_of_ble_eq_true rfl) rfl ?_
          refine g_iload_n O dX1_judgePicks_49 rfl ?_
          refine g_iconst O dX1_judgePicks_50 kv_1 ?_
          refine g_icmp_eq (tgt := 90) O dX1_judgePicks_51 rfl (fun q51 => ?_) (fun q51 => ?_)
          · have hw := hw.1 q51
            refine g_mask [true, true, true, true, true, true, true, false, false] rfl rfl ?_
            exact okX1_judgePicks_j90 O hB11 hw
          · have hw := hw.2 q51
            refine g_iload O dX1_judgePicks_54 rfl ?_
            refine g_if_lt (tgt := 90) O dX1_judgePicks_56 rfl (fun q56 => ?_) (fun q56 => ?_)
            · have hw := hw.1 q56
              refine g_mask [true, true, true, true, true, true, true, false, false] rfl rfl ?_
              exact okX1_judgePicks_j90 O hB11 hw
            · have hw := hw.2 q56
              refine g_iload_n O dX1_judgePicks_59 rfl ?_
              refine g_iconst O dX1_judgePicks_60 kv_2 ?_
              refine g_icmp_ne (tgt := 75) O dX1_judgePicks_61 rfl (fun q61 => ?_) (fun q61 => ?_)
              · have hw := hw.1 q61
                exact okX1_judgePicks_j75 O hB11 hw
              · have hw := hw.2 q61
                refine g_aload_n O dX1_judgePicks_64 rfl ?_
                refine g_iload O dX1_judgePicks_65 rfl ?_
                refine g_iload O dX1_judgePicks_67 rfl ?_
                obtain ⟨c69, hw⟩ := hw
                refine g_callV (As := [vi x4, vi r44]) (rest := []) O ci_1 rfl dX1_judgePicks_69 ml_X1_127 im_yX1_lessens se_yX1_lessens ini_X1 co_yX1_lessens yo_yX1_lessens c69 rfl rfl (Nat.le_of_ble_eq_true rfl) ⟨by decide, by decide, by decide, by decide⟩ (okX1_lessens hw) (k_I fun r69 h69 hw => ?_)
                refine g_if_eq (tgt := 90) O dX1_judgePicks_72 rfl (fun q72 => ?_) (fun q72 => ?_)
                · have hw := hw.1 q72
                  refine g_mask [true, true, true, true, true, true, true, false, false] rfl rfl ?_
                  exact okX1_judgePicks_j90 O hB11 hw
                · have hw := hw.2 q72
                  exact okX1_judgePicks_j75 O hB11 hw
        · have hw := hw.2 q33
          refine g_goto (tgt := 119) O dX1_judgePicks_36 rfl ?_
          refine g_iinc (lc' := [some (vr a0), some (vr a1), some (vi x2), some (vi x3), some (vi x4), some (vi x5), some (vi (x6 + (1 : Int32))), none, none]) O dX1_judgePicks_119 rfl kv_1 rfl rfl ?_
          refine g_goto (tgt := 11) O dX1_judgePicks_122 rfl ?_
          exact hB11 _ _ hw
theorem okX1_judgePicks {E : Ev} {S : Sh} {Z : Option Nat} {Q : Hp → Prop} {h : Hp} {a0 : Nat} {a1 : Nat} {x2 : Int32} {x3 : Int32} {x4 : Int32} (hw : wX1_judgePicks S h a0 a1 x2 x3 x4 Q) : Ct E yX1_judgePicks cX1_judgePicks 9 none 4 92 0 0 S Z h [vr a0, vr a1, vi x2, vi x3, vi x4] (qV S Z Q) := by
  refine Ct.of (by decide) (lc := [some (vr a0), some (vr a1), some (vi x2), some (vi x3), some (vi x4), none, none, none, none]) (Nat.le_of_ble_eq_true rfl) rfl (fun X O => ?_)
  unfold wX1_judgePicks at hw
  refine g_aload_n O dX1_judgePicks_0 rfl ?_
  refine g_iload O dX1_judgePicks_1 rfl ?_
  obtain ⟨c3, hw⟩ := hw
  refine g_callV (As := [vi x4]) (rest := []) O ci_0 rfl dX1_judgePicks_3 ml_X1_115 im_yX0_picksAt se_yX0_picksAt ini_X0 co_yX0_picksAt yo_yX0_picksAt c3 rfl rfl (Nat.le_of_ble_eq_true rfl) ⟨by decide, by decide, by decide, by decide⟩ (okX0_picksAt hw) (k_I fun r3 h3 hw => ?_)
  refine g_istore (lc' := [some (vr a0), some (vr a1), some (vi x2), some (vi x3), some (vi x4), some (vi r3), none, none, none]) O dX1_judgePicks_6 rfl (Nat.le_of_ble_eq_true rfl) rfl ?_
  refine g_iconst O dX1_judgePicks_8 kv_0 ?_
  refine g_istore (lc' := [some (vr a0), some (vr a1), some (vi x2), some (vi x3), some (vi x4), some (vi r3), some (vi (0 : Int32)), none, none]) O dX1_judgePicks_9 rfl (Nat.le_of_ble_eq_true rfl) rfl ?_
  obtain ⟨n11, hw⟩ := hw
  exact okX1_judgePicks_11 O n11 _ _ hw
theorem dX1_statesAhead_0 : decode cX1_statesAhead 0 = .ok (.aload_n 0, 1) := by decide +kernel
theorem dX1_statesAhead_1 : decode cX1_statesAhead 1 = .ok (.getfield 22, 3) := by decide +kernel
theorem dX1_statesAhead_4 : decode cX1_statesAhead 4 = .ok (.ifCond .le 23, 3) := by decide +kernel
theorem dX1_statesAhead_7 : decode cX1_statesAhead 7 = .ok (.aload_n 0, 1) := by decide +kernel
theorem dX1_statesAhead_8 : decode cX1_statesAhead 8 = .ok (.getfield 18, 3) := by decide +kernel
theorem dX1_statesAhead_11 : decode cX1_statesAhead 11 = .ok (.getfield 26, 3) := by decide +kernel
theorem dX1_statesAhead_14 : decode cX1_statesAhead 14 = .ok (.aload_n 0, 1) := by decide +kernel
theorem dX1_statesAhead_15 : decode cX1_statesAhead 15 = .ok (.getfield 22, 3) := by decide +kernel
theorem dX1_statesAhead_18 : decode cX1_statesAhead 18 = .ok (.iconst 1, 1) := by decide +kernel
theorem dX1_statesAhead_19 : decode cX1_statesAhead 19 = .ok (.isub, 1) := by decide +kernel
theorem dX1_statesAhead_20 : decode cX1_statesAhead 20 = .ok (.aaload, 1) := by decide +kernel
theorem dX1_statesAhead_21 : decode cX1_statesAhead 21 = .ok (.getfield 107, 3) := by decide +kernel
theorem dX1_statesAhead_24 : decode cX1_statesAhead 24 = .ok (.goto 4, 3) := by decide +kernel
theorem dX1_statesAhead_27 : decode cX1_statesAhead 27 = .ok (.iconst 1, 1) := by decide +kernel
theorem dX1_statesAhead_28 : decode cX1_statesAhead 28 = .ok (.ireturn, 1) := by decide +kernel
theorem okX1_statesAhead {E : Ev} {S : Sh} {Z : Option Nat} {Q : Int32 → Hp → Prop} {h : Hp} {a0 : Nat} (hw : wX1_statesAhead S h a0 Q) : Ct E yX1_statesAhead cX1_statesAhead 1 (some .int) 1 24 0 0 S Z h [vr a0] (qI S Z Q) := by
  refine Ct.of (by decide) (lc := [some (vr a0)]) (Nat.le_of_ble_eq_true rfl) rfl (fun X O => ?_)
  unfold wX1_statesAhead at hw
  refine g_aload_n O dX1_statesAhead_0 rfl ?_
  obtain ⟨c1, hw⟩ := hw
  refine gf_X1_number O dX1_statesAhead_1 fl_X1_22 c1 ?_
  refine g_if_le (tgt := 27) O dX1_statesAhead_4 rfl (fun q4 => ?_) (fun q4 => ?_)
  · have hw := hw.1 q4
    refine g_iconst O dX1_statesAhead_27 kv_1 ?_
    exact g_ireturn O dX1_statesAhead_28 ⟨rfl, rfl, _, rfl, hw⟩
  · have hw := hw.2 q4
    refine g_aload_n O dX1_statesAhead_7 rfl ?_
    refine gf_X1_model O dX1_statesAhead_8 fl_X1_18 c1 ?_
    obtain ⟨c11, hw⟩ := hw
    refine gf_X3_machines O dX1_statesAhead_11 fl_X1_26 c11 ?_
    refine g_aload_n O dX1_statesAhead_14 rfl ?_
    refine gf_X1_number O dX1_statesAhead_15 fl_X1_22 c1 ?_
    refine g_iconst O dX1_statesAhead_18 kv_1 ?_
    refine g_isub O dX1_statesAhead_19 ?_
    obtain ⟨c20, hw⟩ := hw
    refine g_aaload (t := 1) (C := "FinerSteps$Machine") O rfl dX1_statesAhead_20 c20.1 c20.2 ?_
    obtain ⟨c21, hw⟩ := hw
    refine gf_X2_states O dX1_statesAhead_21 fl_X1_107 c21 ?_
    refine g_goto (tgt := 28) O dX1_statesAhead_24 rfl ?_
    exact g_ireturn O dX1_statesAhead_28 ⟨rfl, rfl, _, rfl, hw⟩
theorem dX7_clear_0 : decode cX7_clear 0 = .ok (.aload_n 0, 1) := by decide +kernel
theorem dX7_clear_1 : decode cX7_clear 1 = .ok (.lconst 0, 1) := by decide +kernel
theorem dX7_clear_2 : decode cX7_clear 2 = .ok (.putfield 9, 3) := by decide +kernel
theorem dX7_clear_5 : decode cX7_clear 5 = .ok (.aload_n 0, 1) := by decide +kernel
theorem dX7_clear_6 : decode cX7_clear 6 = .ok (.lconst 0, 1) := by decide +kernel
theorem dX7_clear_7 : decode cX7_clear 7 = .ok (.putfield 15, 3) := by decide +kernel
theorem dX7_clear_10 : decode cX7_clear 10 = .ok (.return_, 1) := by decide +kernel
theorem okX7_clear {E : Ev} {S : Sh} {Z : Option Nat} {Q : Hp → Prop} {h : Hp} {a0 : Nat} (hw : wX7_clear S h a0 Q) : Ct E yX7_clear cX7_clear 1 none 1 24 0 0 S Z h [vr a0] (qV S Z Q) := by
  refine Ct.of (by decide) (lc := [some (vr a0)]) (Nat.le_of_ble_eq_true rfl) rfl (fun X O => ?_)
  unfold wX7_clear at hw
  refine g_aload_n O dX7_clear_0 rfl ?_
  refine g_lconst O dX7_clear_1 kl_0 ?_
  obtain ⟨c2, hw⟩ := hw
  refine pf_X7_low O dX7_clear_2 fl_X7_9 c2 ?_
  refine g_nmH (fun h2 e2 => ?_)
  have hw := hw h2 e2
  refine g_aload_n O dX7_clear_5 rfl ?_
  refine g_lconst O dX7_clear_6 kl_0 ?_
  refine pf_X7_high O dX7_clear_7 fl_X7_15 c2 ?_
  exact g_return O dX7_clear_10 ⟨rfl, rfl, rfl, hw⟩
theorem dX1_judgeEvent_0 : decode cX1_judgeEvent 0 = .ok (.iconst 0, 1) := by decide +kernel
theorem dX1_judgeEvent_1 : decode cX1_judgeEvent 1 = .ok (.istore_n 3, 1) := by decide +kernel
theorem dX1_judgeEvent_2 : decode cX1_judgeEvent 2 = .ok (.iload_n 3, 1) := by decide +kernel
theorem dX1_judgeEvent_3 : decode cX1_judgeEvent 3 = .ok (.aload_n 0, 1) := by decide +kernel
theorem dX1_judgeEvent_4 : decode cX1_judgeEvent 4 = .ok (.invokevirtual 100, 3) := by decide +kernel
theorem dX1_judgeEvent_7 : decode cX1_judgeEvent 7 = .ok (.if_icmp .ge 138, 3) := by decide +kernel
theorem dX1_judgeEvent_10 : decode cX1_judgeEvent 10 = .ok (.aload_n 0, 1) := by decide +kernel
theorem dX1_judgeEvent_11 : decode cX1_judgeEvent 11 = .ok (.getfield 12, 3) := by decide +kernel
theorem dX1_judgeEvent_14 : decode cX1_judgeEvent 14 = .ok (.invokevirtual 110, 3) := by decide +kernel
theorem dX1_judgeEvent_17 : decode cX1_judgeEvent 17 = .ok (.iconst 1, 1) := by decide +kernel
theorem dX1_judgeEvent_18 : decode cX1_judgeEvent 18 = .ok (.istore 4, 2) := by decide +kernel
theorem dX1_judgeEvent_20 : decode cX1_judgeEvent 20 = .ok (.aload_n 1, 1) := by decide +kernel
theorem dX1_judgeEvent_21 : decode cX1_judgeEvent 21 = .ok (.getfield 83, 3) := by decide +kernel
theorem dX1_judgeEvent_24 : decode cX1_judgeEvent 24 = .ok (.bipush (-2), 2) := by decide +kernel
theorem dX1_judgeEvent_26 : decode cX1_judgeEvent 26 = .ok (.if_icmp .eq 60, 3) := by decide +kernel
theorem dX1_judgeEvent_29 : decode cX1_judgeEvent 29 = .ok (.aload_n 0, 1) := by decide +kernel
theorem dX1_judgeEvent_30 : decode cX1_judgeEvent 30 = .ok (.getfield 22, 3) := by decide +kernel
theorem dX1_judgeEvent_33 : decode cX1_judgeEvent 33 = .ok (.ifCond .le 53, 3) := by decide +kernel
theorem dX1_judgeEvent_36 : decode cX1_judgeEvent 36 = .ok (.aload_n 0, 1) := by decide +kernel
theorem dX1_judgeEvent_37 : decode cX1_judgeEvent 37 = .ok (.getfield 18, 3) := by decide +kernel
theorem dX1_judgeEvent_40 : decode cX1_judgeEvent 40 = .ok (.getfield 26, 3) := by decide +kernel
theorem dX1_judgeEvent_43 : decode cX1_judgeEvent 43 = .ok (.aload_n 0, 1) := by decide +kernel
theorem dX1_judgeEvent_44 : decode cX1_judgeEvent 44 = .ok (.getfield 22, 3) := by decide +kernel
theorem dX1_judgeEvent_47 : decode cX1_judgeEvent 47 = .ok (.iconst 1, 1) := by decide +kernel
theorem dX1_judgeEvent_48 : decode cX1_judgeEvent 48 = .ok (.isub, 1) := by decide +kernel
theorem dX1_judgeEvent_49 : decode cX1_judgeEvent 49 = .ok (.aaload, 1) := by decide +kernel
theorem dX1_judgeEvent_50 : decode cX1_judgeEvent 50 = .ok (.getfield 61, 3) := by decide +kernel
theorem dX1_judgeEvent_53 : decode cX1_judgeEvent 53 = .ok (.aload_n 1, 1) := by decide +kernel
theorem dX1_judgeEvent_54 : decode cX1_judgeEvent 54 = .ok (.getfield 83, 3) := by decide +kernel
theorem dX1_judgeEvent_57 : decode cX1_judgeEvent 57 = .ok (.aaload, 1) := by decide +kernel
theorem dX1_judgeEvent_58 : decode cX1_judgeEvent 58 = .ok (.astore 5, 2) := by decide +kernel
theorem dX1_judgeEvent_60 : decode cX1_judgeEvent 60 = .ok (.aload 5, 2) := by decide +kernel
theorem dX1_judgeEvent_62 : decode cX1_judgeEvent 62 = .ok (.iload_n 3, 1) := by decide +kernel
theorem dX1_judgeEvent_63 : decode cX1_judgeEvent 63 = .ok (.aload_n 0, 1) := by decide +kernel
theorem dX1_judgeEvent_64 : decode cX1_judgeEvent 64 = .ok (.getfield 12, 3) := by decide +kernel
theorem dX1_judgeEvent_67 : decode cX1_judgeEvent 67 = .ok (.invokevirtual 111, 3) := by decide +kernel
theorem dX1_judgeEvent_70 : decode cX1_judgeEvent 70 = .ok (.aload 5, 2) := by decide +kernel
theorem dX1_judgeEvent_72 : decode cX1_judgeEvent 72 = .ok (.iload_n 3, 1) := by decide +kernel
theorem dX1_judgeEvent_73 : decode cX1_judgeEvent 73 = .ok (.invokevirtual 115, 3) := by decide +kernel
theorem dX1_judgeEvent_76 : decode cX1_judgeEvent 76 = .ok (.ifCond .eq 7, 3) := by decide +kernel
theorem dX1_judgeEvent_79 : decode cX1_judgeEvent 79 = .ok (.iconst 1, 1) := by decide +kernel
theorem dX1_judgeEvent_80 : decode cX1_judgeEvent 80 = .ok (.goto 4, 3) := by decide +kernel
theorem dX1_judgeEvent_83 : decode cX1_judgeEvent 83 = .ok (.iconst 0, 1) := by decide +kernel
theorem dX1_judgeEvent_84 : decode cX1_judgeEvent 84 = .ok (.istore 4, 2) := by decide +kernel
theorem dX1_judgeEvent_86 : decode cX1_judgeEvent 86 = .ok (.iload_n 2, 1) := by decide +kernel
theorem dX1_judgeEvent_87 : decode cX1_judgeEvent 87 = .ok (.iconst 1, 1) := by decide +kernel
theorem dX1_judgeEvent_88 : decode cX1_judgeEvent 88 = .ok (.if_icmp .ne 11, 3) := by decide +kernel
theorem dX1_judgeEvent_91 : decode cX1_judgeEvent 91 = .ok (.iload 4, 2) := by decide +kernel
theorem dX1_judgeEvent_93 : decode cX1_judgeEvent 93 = .ok (.ifCond .eq 6, 3) := by decide +kernel
theorem dX1_judgeEvent_96 : decode cX1_judgeEvent 96 = .ok (.goto 43, 3) := by decide +kernel
theorem dX1_judgeEvent_99 : decode cX1_judgeEvent 99 = .ok (.iconst 0, 1) := by decide +kernel
theorem dX1_judgeEvent_100 : decode cX1_judgeEvent 100 = .ok (.istore 5, 2) := by decide +kernel
theorem dX1_judgeEvent_102 : decode cX1_judgeEvent 102 = .ok (.iload 5, 2) := by decide +kernel
theorem dX1_judgeEvent_104 : decode cX1_judgeEvent 104 = .ok (.aload_n 0, 1) := by decide +kernel
theorem dX1_judgeEvent_105 : decode cX1_judgeEvent 105 = .ok (.getfield 32, 3) := by decide +kernel
theorem dX1_judgeEvent_108 : decode cX1_judgeEvent 108 = .ok (.getfield 107, 3) := by decide +kernel
theorem dX1_judgeEvent_111 : decode cX1_judgeEvent 111 = .ok (.if_icmp .ge 28, 3) := by decide +kernel
theorem dX1_judgeEvent_114 : decode cX1_judgeEvent 114 = .ok (.aload_n 0, 1) := by decide +kernel
theorem dX1_judgeEvent_115 : decode cX1_judgeEvent 115 = .ok (.iload_n 3, 1) := by decide +kernel
theorem dX1_judgeEvent_116 : decode cX1_judgeEvent 116 = .ok (.iload 5, 2) := by decide +kernel
theorem dX1_judgeEvent_118 : decode cX1_judgeEvent 118 = .ok (.invokevirtual 92, 3) := by decide +kernel
theorem dX1_judgeEvent_121 : decode cX1_judgeEvent 121 = .ok (.ifCond .eq 12, 3) := by decide +kernel
theorem dX1_judgeEvent_124 : decode cX1_judgeEvent 124 = .ok (.aload_n 0, 1) := by decide +kernel
theorem dX1_judgeEvent_125 : decode cX1_judgeEvent 125 = .ok (.aload_n 1, 1) := by decide +kernel
theorem dX1_judgeEvent_126 : decode cX1_judgeEvent 126 = .ok (.iload_n 2, 1) := by decide +kernel
theorem dX1_judgeEvent_127 : decode cX1_judgeEvent 127 = .ok (.iload_n 3, 1) := by decide +kernel
theorem dX1_judgeEvent_128 : decode cX1_judgeEvent 128 = .ok (.iload 5, 2) := by decide +kernel
theorem dX1_judgeEvent_130 : decode cX1_judgeEvent 130 = .ok (.invokevirtual 119, 3) := by decide +kernel
theorem dX1_judgeEvent_133 : decode cX1_judgeEvent 133 = .ok (.iinc 5 1, 3) := by decide +kernel
theorem dX1_judgeEvent_136 : decode cX1_judgeEvent 136 = .ok (.goto (-34), 3) := by decide +kernel
theorem dX1_judgeEvent_139 : decode cX1_judgeEvent 139 = .ok (.iinc 3 1, 3) := by decide +kernel
theorem dX1_judgeEvent_142 : decode cX1_judgeEvent 142 = .ok (.goto (-140), 3) := by decide +kernel
theorem dX1_judgeEvent_145 : decode cX1_judgeEvent 145 = .ok (.return_, 1) := by decide +kernel
theorem okX1_judgeEvent_102 {E : Ev} {X : Cx} {S : Sh} {Z : Option Nat} {Q : Hp → Prop} {B2 : Hp → Int32 → Prop} {a0 : Nat} {a1 : Nat} {x2 : Int32} {x3 : Int32} (O : Ok E X yX1_judgeEvent cX1_judgeEvent 6 none 5 120 0 0 (qV S Z Q)) (hB2 : ∀ (h : Hp) (x3 : Int32), B2 h x3 → G E X 0 0 S Z h 2 [some (vr a0), some (vr a1), some (vi x2), some (vi x3), none, none] []) : ∀ (n : Nat) (h : Hp) (x5 : Int32), wX1_judgeEvent_102 S B2 a0 a1 x2 x3 Q n h x5 → G E X 0 0 S Z h 102 [some (vr a0), some (vr a1), some (vi x2), some (vi x3), none, some (vi x5)] [] := by
  intro n
  induction n with
  | zero => intro h x5 hw; exact hw.elim
  | succ n hB102 =>
    intro h x5 hw
    have hw : wX1_judgeEvent_102b S B2 a0 a1 x2 x3 Q (wX1_judgeEvent_102 S B2 a0 a1 x2 x3 Q n) h x5 := hw
    unfold wX1_judgeEvent_102b at hw
    refine g_iload O dX1_judgeEvent_102 rfl ?_
    refine g_aload_n O dX1_judgeEvent_104 rfl ?_
    obtain ⟨c105, hw⟩ := hw
    refine gf_X1_machine O dX1_judgeEvent_105 fl_X1_32 c105 ?_
    obtain ⟨c108, hw⟩ := hw
    refine gf_X2_states O dX1_judgeEvent_108 fl_X1_107 c108 ?_
    refine g_icmp_ge (tgt := 139) O dX1_judgeEvent_111 rfl (fun q111 => ?_) (fun q111 => ?_)
    · have hw := hw.1 q111
      refine g_iinc (lc' := [some (vr a0), some (vr a1), some (vi x2), some (vi (x3 + (1 : Int32))), none, some (vi x5)]) O dX1_judgeEvent_139 rfl kv_1 rfl rfl ?_
      refine g_goto (tgt := 2) O dX1_judgeEvent_142 rfl ?_
      refine g_mask [true, true, true, true, false, false] rfl rfl ?_
      exact hB2 _ _ hw
    · have hw := hw.2 q111
      refine g_aload_n O dX1_judgeEvent_114 rfl ?_
      refine g_iload_n O dX1_judgeEvent_115 rfl ?_
      refine g_iload O dX1_judgeEvent_116 rfl ?_
      refine g_callV (As := [vi x3, vi x5]) (rest := []) O ci_1 rfl dX1_judgeEvent_118 ml_X1_92 im_yX1_paired se_yX1_paired ini_X1 co_yX1_paired yo_yX1_paired c105 rfl rfl (Nat.le_of_ble_eq_true rfl) ⟨by decide, by decide, by decide, by decide⟩ (okX1_paired hw) (k_I fun r118 h118 hw => ?_)
      refine g_if_eq (tgt := 133) O dX1_judgeEvent_121 rfl (fun q121 => ?_) (fun q121 => ?_)
      · have hw := hw.1 q121
        refine g_iinc (lc' := [some (vr a0), some (vr a1), some (vi x2), some (vi x3), none, some (vi (x5 + (1 : Int32)))]) O dX1_judgeEvent_133 rfl kv_1 rfl rfl ?_
        refine g_goto (tgt := 102) O dX1_judgeEvent_136 rfl ?_
        exact hB102 _ _ hw
      · have hw := hw.2 q121
        refine g_aload_n O dX1_judgeEvent_124 rfl ?_
        refine g_aload_n O dX1_judgeEvent_125 rfl ?_
        refine g_iload_n O dX1_judgeEvent_126 rfl ?_
        refine g_iload_n O dX1_judgeEvent_127 rfl ?_
        refine g_iload O dX1_judgeEvent_128 rfl ?_
        refine g_callV (As := [vr a1, vi x2, vi x3, vi x5]) (rest := []) O ci_1 rfl dX1_judgeEvent_130 ml_X1_119 im_yX1_judgePicks se_yX1_judgePicks ini_X1 co_yX1_judgePicks yo_yX1_judgePicks c105 rfl rfl (Nat.le_of_ble_eq_true rfl) ⟨by decide, by decide, by decide, by decide⟩ (okX1_judgePicks hw) (k_V fun h130 hw => ?_)
        refine g_iinc (lc' := [some (vr a0), some (vr a1), some (vi x2), some (vi x3), none, some (vi (x5 + (1 : Int32)))]) O dX1_judgeEvent_133 rfl kv_1 rfl rfl ?_
        refine g_goto (tgt := 102) O dX1_judgeEvent_136 rfl ?_
        exact hB102 _ _ hw
theorem okX1_judgeEvent_j99 {E : Ev} {X : Cx} {S : Sh} {Z : Option Nat} {Q : Hp → Prop} {B2 : Hp → Int32 → Prop} {h : Hp} {a0 : Nat} {a1 : Nat} {x2 : Int32} {x3 : Int32} (O : Ok E X yX1_judgeEvent cX1_judgeEvent 6 none 5 120 0 0 (qV S Z Q)) (hB2 : ∀ (h : Hp) (x3 : Int32), B2 h x3 → G E X 0 0 S Z h 2 [some (vr a0), some (vr a1), some (vi x2), some (vi x3), none, none] []) (hw : wX1_judgeEvent_j99 S B2 h a0 a1 x2 x3 Q) : G E X 0 0 S Z h 99 [some (vr a0), some (vr a1), some (vi x2), some (vi x3), none, none] [] := by
  unfold wX1_judgeEvent_j99 at hw
  refine g_iconst O dX1_judgeEvent_99 kv_0 ?_
  refine g_istore (lc' := [some (vr a0), some (vr a1), some (vi x2), some (vi x3), none, some (vi (0 : Int32))]) O dX1_judgeEvent_100 rfl (Nat.le_of_ble_eq_true rfl) rfl ?_
  obtain ⟨n102, hw⟩ := hw
  exact okX1_judgeEvent_102 O hB2 n102 _ _ hw
theorem okX1_judgeEvent_j86 {E : Ev} {X : Cx} {S : Sh} {Z : Option Nat} {Q : Hp → Prop} {B2 : Hp → Int32 → Prop} {h : Hp} {a0 : Nat} {a1 : Nat} {x2 : Int32} {x3 : Int32} {x4 : Int32} (O : Ok E X yX1_judgeEvent cX1_judgeEvent 6 none 5 120 0 0 (qV S Z Q)) (hB2 : ∀ (h : Hp) (x3 : Int32), B2 h x3 → G E X 0 0 S Z h 2 [some (vr a0), some (vr a1), some (vi x2), some (vi x3), none, none] []) (hw : wX1_judgeEvent_j86 S B2 h a0 a1 x2 x3 x4 Q) : G E X 0 0 S Z h 86 [some (vr a0), some (vr a1), some (vi x2), some (vi x3), some (vi x4), none] [] := by
  unfold wX1_judgeEvent_j86 at hw
  refine g_iload_n O dX1_judgeEvent_86 rfl ?_
  refine g_iconst O dX1_judgeEvent_87 kv_1 ?_
  refine g_icmp_ne (tgt := 99) O dX1_judgeEvent_88 rfl (fun q88 => ?_) (fun q88 => ?_)
  · have hw := hw.1 q88
    refine g_mask [true, true, true, true, false, false] rfl rfl ?_
    exact okX1_judgeEvent_j99 O hB2 hw
  · have hw := hw.2 q88
    refine g_iload O dX1_judgeEvent_91 rfl ?_
    refine g_if_eq (tgt := 99) O dX1_judgeEvent_93 rfl (fun q93 => ?_) (fun q93 => ?_)
    · have hw := hw.1 q93
      refine g_mask [true, true, true, true, false, false] rfl rfl ?_
      exact okX1_judgeEvent_j99 O hB2 hw
    · have hw := hw.2 q93
      refine g_goto (tgt := 139) O dX1_judgeEvent_96 rfl ?_
      refine g_iinc (lc' := [some (vr a0), some (vr a1), some (vi x2), some (vi (x3 + (1 : Int32))), some (vi x4), none]) O dX1_judgeEvent_139 rfl kv_1 rfl rfl ?_
      refine g_goto (tgt := 2) O dX1_judgeEvent_142 rfl ?_
      refine g_mask [true, true, true, true, false, false] rfl rfl ?_
      exact hB2 _ _ hw
theorem okX1_judgeEvent_j84 {E : Ev} {X : Cx} {S : Sh} {Z : Option Nat} {Q : Hp → Prop} {B2 : Hp → Int32 → Prop} {h : Hp} {a0 : Nat} {a1 : Nat} {x2 : Int32} {x3 : Int32} {s0 : Int32} (O : Ok E X yX1_judgeEvent cX1_judgeEvent 6 none 5 120 0 0 (qV S Z Q)) (hB2 : ∀ (h : Hp) (x3 : Int32), B2 h x3 → G E X 0 0 S Z h 2 [some (vr a0), some (vr a1), some (vi x2), some (vi x3), none, none] []) (hw : wX1_judgeEvent_j84 S B2 h a0 a1 x2 x3 s0 Q) : G E X 0 0 S Z h 84 [some (vr a0), some (vr a1), some (vi x2), some (vi x3), none, none] [vi s0] := by
  unfold wX1_judgeEvent_j84 at hw
  refine g_istore (lc' := [some (vr a0), some (vr a1), some (vi x2), some (vi x3), some (vi s0), none]) O dX1_judgeEvent_84 rfl (Nat.le_of_ble_eq_true rfl) rfl ?_
  exact okX1_judgeEvent_j86 O hB2 hw
theorem okX1_judgeEvent_2 {E : Ev} {X : Cx} {S : Sh} {Z : Option Nat} {Q : Hp → Prop} {a0 : Nat} {a1 : Nat} {x2 : Int32} (O : Ok E X yX1_judgeEvent cX1_judgeEvent 6 none 5 120 0 0 (qV S Z Q)) : ∀ (n : Nat) (h : Hp) (x3 : Int32), wX1_judgeEvent_2 S a0 a1 x2 Q n h x3 → G E X 0 0 S Z h 2 [some (vr a0), some (vr a1), some (vi x2), some (vi x3), none, none] [] := by
  intro n
  induction n with
  | zero => intro h x3 hw; exact hw.elim
  | succ n hB2 =>
    intro h x3 hw
    have hw : wX1_judgeEvent_2b S a0 a1 x2 Q (wX1_judgeEvent_2 S a0 a1 x2 Q n) h x3 := hw
    unfold wX1_judgeEvent_2b at hw
    refine g_iload_n O dX1_judgeEvent_2 rfl ?_
    refine g_aload_n O dX1_judgeEvent_3 rfl ?_
    obtain ⟨c4, hw⟩ := hw
    refine g_callV (As := []) (rest := [vi x3]) O ci_1 rfl dX1_judgeEvent_4 ml_X1_100 im_yX1_statesAhead se_yX1_statesAhead ini_X1 co_yX1_statesAhead yo_yX1_statesAhead c4 rfl rfl (Nat.le_of_ble_eq_true rfl) ⟨by decide, by decide, by decide, by decide⟩ (okX1_statesAhead hw) (k_I fun r4 h4 hw => ?_)
    refine g_icmp_ge (tgt := 145) O dX1_judgeEvent_7 rfl (fun q7 => ?_) (fun q7 => ?_)
    · have hw := hw.1 q7
      exact g_return O dX1_judgeEvent_145 ⟨rfl, rfl, rfl, hw⟩
    · have hw := hw.2 q7
      refine g_aload_n O dX1_judgeEvent_10 rfl ?_
      refine gf_X1_image O dX1_judgeEvent_11 fl_X1_12 c4 ?_
      obtain ⟨c14, hw⟩ := hw
      refine g_callV (As := []) (rest := []) O ci_7 rfl dX1_judgeEvent_14 ml_X1_110 im_yX7_clear se_yX7_clear ini_X7 co_yX7_clear yo_yX7_clear c14 rfl rfl (Nat.le_of_ble_eq_true rfl) ⟨by decide, by decide, by decide, by decide⟩ (okX7_clear hw) (k_V fun h14 hw => ?_)
      refine g_iconst O dX1_judgeEvent_17 kv_1 ?_
      refine g_istore (lc' := [some (vr a0), some (vr a1), some (vi x2), some (vi x3), some (vi (1 : Int32)), none]) O dX1_judgeEvent_18 rfl (Nat.le_of_ble_eq_true rfl) rfl ?_
      refine g_aload_n O dX1_judgeEvent_20 rfl ?_
      obtain ⟨c21, hw⟩ := hw
      refine gf_X0_of O dX1_judgeEvent_21 fl_X1_83 c21 ?_
      refine g_bipush O dX1_judgeEvent_24 kb_m2 ?_
      refine g_icmp_eq (tgt := 86) O dX1_judgeEvent_26 rfl (fun q26 => ?_) (fun q26 => ?_)
      · have hw := hw.1 q26
        exact okX1_judgeEvent_j86 O hB2 hw
      · have hw := hw.2 q26
        refine g_aload_n O dX1_judgeEvent_29 rfl ?_
        refine gf_X1_number O dX1_judgeEvent_30 fl_X1_22 c4 ?_
        refine g_if_le (tgt := 86) O dX1_judgeEvent_33 rfl (fun q33 => ?_) (fun q33 => ?_)
        · have hw := hw.1 q33
          exact okX1_judgeEvent_j86 O hB2 hw
        · have hw := hw.2 q33
          refine g_aload_n O dX1_judgeEvent_36 rfl ?_
          refine gf_X1_model O dX1_judgeEvent_37 fl_X1_18 c4 ?_
          obtain ⟨c40, hw⟩ := hw
          refine gf_X3_machines O dX1_judgeEvent_40 fl_X1_26 c40 ?_
          refine g_aload_n O dX1_judgeEvent_43 rfl ?_
          refine gf_X1_number O dX1_judgeEvent_44 fl_X1_22 c4 ?_
          refine g_iconst O dX1_judgeEvent_47 kv_1 ?_
          refine g_isub O dX1_judgeEvent_48 ?_
          obtain ⟨c49, hw⟩ := hw
          refine g_aaload (t := 1) (C := "FinerSteps$Machine") O rfl dX1_judgeEvent_49 c49.1 c49.2 ?_
          obtain ⟨c50, hw⟩ := hw
          refine gf_X2_event O dX1_judgeEvent_50 fl_X1_61 c50 ?_
          refine g_aload_n O dX1_judgeEvent_53 rfl ?_
          refine gf_X0_of O dX1_judgeEvent_54 fl_X1_83 c21 ?_
          obtain ⟨c57, hw⟩ := hw
          refine g_aaload (t := 0) (C := "FinerSteps$Event") O rfl dX1_judgeEvent_57 c57.1 c57.2 ?_
          refine g_nmR (fun av58 e58 => ?_)
          have hw := hw av58 e58
          refine g_astore (lc' := [some (vr a0), some (vr a1), some (vi x2), some (vi x3), some (vi (1 : Int32)), some (vr av58)]) O dX1_judgeEvent_58 rfl (Nat.le_of_ble_eq_true rfl) rfl ?_
          refine g_aload O dX1_judgeEvent_60 rfl ?_
          refine g_iload_n O dX1_judgeEvent_62 rfl ?_
          refine g_aload_n O dX1_judgeEvent_63 rfl ?_
          refine gf_X1_image O dX1_judgeEvent_64 fl_X1_12 c4 ?_
          obtain ⟨c67, hw⟩ := hw
          refine g_callV (As := [vi x3, vr (gR h14 a0 0)]) (rest := []) O ci_0 rfl dX1_judgeEvent_67 ml_X1_111 im_yX0_putGiven se_yX0_putGiven ini_X0 co_yX0_putGiven yo_yX0_putGiven c67 rfl rfl (Nat.le_of_ble_eq_true rfl) ⟨by decide, by decide, by decide, by decide⟩ (okX0_putGiven hw) (k_V fun h67 hw => ?_)
          refine g_aload O dX1_judgeEvent_70 rfl ?_
          refine g_iload_n O dX1_judgeEvent_72 rfl ?_
          refine g_callV (As := [vi x3]) (rest := []) O ci_0 rfl dX1_judgeEvent_73 ml_X1_115 im_yX0_picksAt se_yX0_picksAt ini_X0 co_yX0_picksAt yo_yX0_picksAt c67 rfl rfl (Nat.le_of_ble_eq_true rfl) ⟨by decide, by decide, by decide, by decide⟩ (okX0_picksAt hw) (k_I fun r73 h73 hw => ?_)
          refine g_if_eq (tgt := 83) O dX1_judgeEvent_76 rfl (fun q76 => ?_) (fun q76 => ?_)
          · have hw := hw.1 q76
            refine g_iconst O dX1_judgeEvent_83 kv_0 ?_
            refine g_mask [true, true, true, true, false, false] rfl rfl ?_
            exact okX1_judgeEvent_j84 O hB2 hw
          · have hw := hw.2 q76
            refine g_iconst O dX1_judgeEvent_79 kv_1 ?_
            refine g_goto (tgt := 84) O dX1_judgeEvent_80 rfl ?_
            refine g_mask [true, true, true, true, false, false] rfl rfl ?_
            exact okX1_judgeEvent_j84 O hB2 hw
theorem okX1_judgeEvent {E : Ev} {S : Sh} {Z : Option Nat} {Q : Hp → Prop} {h : Hp} {a0 : Nat} {a1 : Nat} {x2 : Int32} (hw : wX1_judgeEvent S h a0 a1 x2 Q) : Ct E yX1_judgeEvent cX1_judgeEvent 6 none 5 120 0 0 S Z h [vr a0, vr a1, vi x2] (qV S Z Q) := by
  refine Ct.of (by decide) (lc := [some (vr a0), some (vr a1), some (vi x2), none, none, none]) (Nat.le_of_ble_eq_true rfl) rfl (fun X O => ?_)
  unfold wX1_judgeEvent at hw
  refine g_iconst O dX1_judgeEvent_0 kv_0 ?_
  refine g_istore_n (lc' := [some (vr a0), some (vr a1), some (vi x2), some (vi (0 : Int32)), none, none]) O dX1_judgeEvent_1 rfl (Nat.le_of_ble_eq_true rfl) rfl ?_
  obtain ⟨n2, hw⟩ := hw
  exact okX1_judgeEvent_2 O n2 _ _ hw
theorem dX2_anyCan_0 : decode cX2_anyCan 0 = .ok (.iconst 0, 1) := by decide +kernel
theorem dX2_anyCan_1 : decode cX2_anyCan 1 = .ok (.istore_n 2, 1) := by decide +kernel
theorem dX2_anyCan_2 : decode cX2_anyCan 2 = .ok (.iload_n 2, 1) := by decide +kernel
theorem dX2_anyCan_3 : decode cX2_anyCan 3 = .ok (.aload_n 0, 1) := by decide +kernel
theorem dX2_anyCan_4 : decode cX2_anyCan 4 = .ok (.getfield 70, 3) := by decide +kernel
theorem dX2_anyCan_7 : decode cX2_anyCan 7 = .ok (.if_icmp .ge 24, 3) := by decide +kernel
theorem dX2_anyCan_10 : decode cX2_anyCan 10 = .ok (.aload_n 0, 1) := by decide +kernel
theorem dX2_anyCan_11 : decode cX2_anyCan 11 = .ok (.getfield 30, 3) := by decide +kernel
theorem dX2_anyCan_14 : decode cX2_anyCan 14 = .ok (.iload_n 2, 1) := by decide +kernel
theorem dX2_anyCan_15 : decode cX2_anyCan 15 = .ok (.aaload, 1) := by decide +kernel
theorem dX2_anyCan_16 : decode cX2_anyCan 16 = .ok (.iload_n 1, 1) := by decide +kernel
theorem dX2_anyCan_17 : decode cX2_anyCan 17 = .ok (.invokevirtual 110, 3) := by decide +kernel
theorem dX2_anyCan_20 : decode cX2_anyCan 20 = .ok (.ifCond .eq 5, 3) := by decide +kernel
theorem dX2_anyCan_23 : decode cX2_anyCan 23 = .ok (.iconst 1, 1) := by decide +kernel
theorem dX2_anyCan_24 : decode cX2_anyCan 24 = .ok (.ireturn, 1) := by decide +kernel
theorem dX2_anyCan_25 : decode cX2_anyCan 25 = .ok (.iinc 2 1, 3) := by decide +kernel
theorem dX2_anyCan_28 : decode cX2_anyCan 28 = .ok (.goto (-26), 3) := by decide +kernel
theorem dX2_anyCan_31 : decode cX2_anyCan 31 = .ok (.iconst 0, 1) := by decide +kernel
theorem dX2_anyCan_32 : decode cX2_anyCan 32 = .ok (.ireturn, 1) := by decide +kernel
theorem okX2_anyCan_2 {E : Ev} {X : Cx} {S : Sh} {Z : Option Nat} {Q : Int32 → Hp → Prop} {a0 : Nat} {x1 : Int32} (O : Ok E X yX2_anyCan cX2_anyCan 3 (some .boolean) 2 45 0 0 (qI S Z Q)) : ∀ (n : Nat) (h : Hp) (x2 : Int32), wX2_anyCan_2 S a0 x1 Q n h x2 → G E X 0 0 S Z h 2 [some (vr a0), some (vi x1), some (vi x2)] [] := by
  intro n
  induction n with
  | zero => intro h x2 hw; exact hw.elim
  | succ n hB2 =>
    intro h x2 hw
    have hw : wX2_anyCan_2b S a0 x1 Q (wX2_anyCan_2 S a0 x1 Q n) h x2 := hw
    unfold wX2_anyCan_2b at hw
    refine g_iload_n O dX2_anyCan_2 rfl ?_
    refine g_aload_n O dX2_anyCan_3 rfl ?_
    obtain ⟨c4, hw⟩ := hw
    refine gf_X2_events O dX2_anyCan_4 fl_X2_70 c4 ?_
    refine g_icmp_ge (tgt := 31) O dX2_anyCan_7 rfl (fun q7 => ?_) (fun q7 => ?_)
    · have hw := hw.1 q7
      refine g_iconst O dX2_anyCan_31 kv_0 ?_
      exact g_zreturn O dX2_anyCan_32 (by decide) ⟨rfl, rfl, _, rfl, hw⟩
    · have hw := hw.2 q7
      refine g_aload_n O dX2_anyCan_10 rfl ?_
      refine gf_X2_event O dX2_anyCan_11 fl_X2_30 c4 ?_
      refine g_iload_n O dX2_anyCan_14 rfl ?_
      obtain ⟨c15, hw⟩ := hw
      refine g_aaload (t := 0) (C := "FinerSteps$Event") O rfl dX2_anyCan_15 c15.1 c15.2 ?_
      refine g_iload_n O dX2_anyCan_16 rfl ?_
      obtain ⟨c17, hw⟩ := hw
      refine g_callV (As := [vi x1]) (rest := []) O ci_0 rfl dX2_anyCan_17 ml_X2_110 im_yX0_picksAt se_yX0_picksAt ini_X0 co_yX0_picksAt yo_yX0_picksAt c17 rfl rfl (Nat.le_of_ble_eq_true rfl) ⟨by decide, by decide, by decide, by decide⟩ (okX0_picksAt hw) (k_I fun r17 h17 hw => ?_)
      refine g_if_eq (tgt := 25) O dX2_anyCan_20 rfl (fun q20 => ?_) (fun q20 => ?_)
      · have hw := hw.1 q20
        refine g_iinc (lc' := [some (vr a0), some (vi x1), some (vi (x2 + (1 : Int32)))]) O dX2_anyCan_25 rfl kv_1 rfl rfl ?_
        refine g_goto (tgt := 2) O dX2_anyCan_28 rfl ?_
        exact hB2 _ _ hw
      · have hw := hw.2 q20
        refine g_iconst O dX2_anyCan_23 kv_1 ?_
        exact g_zreturn O dX2_anyCan_24 (by decide) ⟨rfl, rfl, _, rfl, hw⟩
theorem okX2_anyCan {E : Ev} {S : Sh} {Z : Option Nat} {Q : Int32 → Hp → Prop} {h : Hp} {a0 : Nat} {x1 : Int32} (hw : wX2_anyCan S h a0 x1 Q) : Ct E yX2_anyCan cX2_anyCan 3 (some .boolean) 2 45 0 0 S Z h [vr a0, vi x1] (qI S Z Q) := by
  refine Ct.of (by decide) (lc := [some (vr a0), some (vi x1), none]) (Nat.le_of_ble_eq_true rfl) rfl (fun X O => ?_)
  unfold wX2_anyCan at hw
  refine g_iconst O dX2_anyCan_0 kv_0 ?_
  refine g_istore_n (lc' := [some (vr a0), some (vi x1), some (vi (0 : Int32))]) O dX2_anyCan_1 rfl (Nat.le_of_ble_eq_true rfl) rfl ?_
  obtain ⟨n2, hw⟩ := hw
  exact okX2_anyCan_2 O n2 _ _ hw
theorem dX1_judgeGoingOn_0 : decode cX1_judgeGoingOn 0 = .ok (.iconst 0, 1) := by decide +kernel
theorem dX1_judgeGoingOn_1 : decode cX1_judgeGoingOn 1 = .ok (.istore_n 1, 1) := by decide +kernel
theorem dX1_judgeGoingOn_2 : decode cX1_judgeGoingOn 2 = .ok (.iload_n 1, 1) := by decide +kernel
theorem dX1_judgeGoingOn_3 : decode cX1_judgeGoingOn 3 = .ok (.aload_n 0, 1) := by decide +kernel
theorem dX1_judgeGoingOn_4 : decode cX1_judgeGoingOn 4 = .ok (.invokevirtual 100, 3) := by decide +kernel
theorem dX1_judgeGoingOn_7 : decode cX1_judgeGoingOn 7 = .ok (.if_icmp .ge 89, 3) := by decide +kernel
theorem dX1_judgeGoingOn_10 : decode cX1_judgeGoingOn 10 = .ok (.aload_n 0, 1) := by decide +kernel
theorem dX1_judgeGoingOn_11 : decode cX1_judgeGoingOn 11 = .ok (.getfield 22, 3) := by decide +kernel
theorem dX1_judgeGoingOn_14 : decode cX1_judgeGoingOn 14 = .ok (.ifCond .le 27, 3) := by decide +kernel
theorem dX1_judgeGoingOn_17 : decode cX1_judgeGoingOn 17 = .ok (.aload_n 0, 1) := by decide +kernel
theorem dX1_judgeGoingOn_18 : decode cX1_judgeGoingOn 18 = .ok (.getfield 18, 3) := by decide +kernel
theorem dX1_judgeGoingOn_21 : decode cX1_judgeGoingOn 21 = .ok (.getfield 26, 3) := by decide +kernel
theorem dX1_judgeGoingOn_24 : decode cX1_judgeGoingOn 24 = .ok (.aload_n 0, 1) := by decide +kernel
theorem dX1_judgeGoingOn_25 : decode cX1_judgeGoingOn 25 = .ok (.getfield 22, 3) := by decide +kernel
theorem dX1_judgeGoingOn_28 : decode cX1_judgeGoingOn 28 = .ok (.iconst 1, 1) := by decide +kernel
theorem dX1_judgeGoingOn_29 : decode cX1_judgeGoingOn 29 = .ok (.isub, 1) := by decide +kernel
theorem dX1_judgeGoingOn_30 : decode cX1_judgeGoingOn 30 = .ok (.aaload, 1) := by decide +kernel
theorem dX1_judgeGoingOn_31 : decode cX1_judgeGoingOn 31 = .ok (.iload_n 1, 1) := by decide +kernel
theorem dX1_judgeGoingOn_32 : decode cX1_judgeGoingOn 32 = .ok (.invokevirtual 103, 3) := by decide +kernel
theorem dX1_judgeGoingOn_35 : decode cX1_judgeGoingOn 35 = .ok (.ifCond .ne 6, 3) := by decide +kernel
theorem dX1_judgeGoingOn_38 : decode cX1_judgeGoingOn 38 = .ok (.goto 52, 3) := by decide +kernel
theorem dX1_judgeGoingOn_41 : decode cX1_judgeGoingOn 41 = .ok (.iconst 0, 1) := by decide +kernel
theorem dX1_judgeGoingOn_42 : decode cX1_judgeGoingOn 42 = .ok (.istore_n 2, 1) := by decide +kernel
theorem dX1_judgeGoingOn_43 : decode cX1_judgeGoingOn 43 = .ok (.iload_n 2, 1) := by decide +kernel
theorem dX1_judgeGoingOn_44 : decode cX1_judgeGoingOn 44 = .ok (.aload_n 0, 1) := by decide +kernel
theorem dX1_judgeGoingOn_45 : decode cX1_judgeGoingOn 45 = .ok (.getfield 32, 3) := by decide +kernel
theorem dX1_judgeGoingOn_48 : decode cX1_judgeGoingOn 48 = .ok (.getfield 107, 3) := by decide +kernel
theorem dX1_judgeGoingOn_51 : decode cX1_judgeGoingOn 51 = .ok (.if_icmp .ge 39, 3) := by decide +kernel
theorem dX1_judgeGoingOn_54 : decode cX1_judgeGoingOn 54 = .ok (.aload_n 0, 1) := by decide +kernel
theorem dX1_judgeGoingOn_55 : decode cX1_judgeGoingOn 55 = .ok (.iload_n 1, 1) := by decide +kernel
theorem dX1_judgeGoingOn_56 : decode cX1_judgeGoingOn 56 = .ok (.iload_n 2, 1) := by decide +kernel
theorem dX1_judgeGoingOn_57 : decode cX1_judgeGoingOn 57 = .ok (.invokevirtual 92, 3) := by decide +kernel
theorem dX1_judgeGoingOn_60 : decode cX1_judgeGoingOn 60 = .ok (.ifCond .eq 24, 3) := by decide +kernel
theorem dX1_judgeGoingOn_63 : decode cX1_judgeGoingOn 63 = .ok (.aload_n 0, 1) := by decide +kernel
theorem dX1_judgeGoingOn_64 : decode cX1_judgeGoingOn 64 = .ok (.getfield 32, 3) := by decide +kernel
theorem dX1_judgeGoingOn_67 : decode cX1_judgeGoingOn 67 = .ok (.iload_n 2, 1) := by decide +kernel
theorem dX1_judgeGoingOn_68 : decode cX1_judgeGoingOn 68 = .ok (.invokevirtual 103, 3) := by decide +kernel
theorem dX1_judgeGoingOn_71 : decode cX1_judgeGoingOn 71 = .ok (.ifCond .ne 13, 3) := by decide +kernel
theorem dX1_judgeGoingOn_74 : decode cX1_judgeGoingOn 74 = .ok (.aload_n 0, 1) := by decide +kernel
theorem dX1_judgeGoingOn_75 : decode cX1_judgeGoingOn 75 = .ok (.getfield 42, 3) := by decide +kernel
theorem dX1_judgeGoingOn_78 : decode cX1_judgeGoingOn 78 = .ok (.iload_n 1, 1) := by decide +kernel
theorem dX1_judgeGoingOn_79 : decode cX1_judgeGoingOn 79 = .ok (.iload_n 2, 1) := by decide +kernel
theorem dX1_judgeGoingOn_80 : decode cX1_judgeGoingOn 80 = .ok (.iconst 0, 1) := by decide +kernel
theorem dX1_judgeGoingOn_81 : decode cX1_judgeGoingOn 81 = .ok (.invokevirtual 96, 3) := by decide +kernel
theorem dX1_judgeGoingOn_84 : decode cX1_judgeGoingOn 84 = .ok (.iinc 2 1, 3) := by decide +kernel
theorem dX1_judgeGoingOn_87 : decode cX1_judgeGoingOn 87 = .ok (.goto (-44), 3) := by decide +kernel
theorem dX1_judgeGoingOn_90 : decode cX1_judgeGoingOn 90 = .ok (.iinc 1 1, 3) := by decide +kernel
theorem dX1_judgeGoingOn_93 : decode cX1_judgeGoingOn 93 = .ok (.goto (-91), 3) := by decide +kernel
theorem dX1_judgeGoingOn_96 : decode cX1_judgeGoingOn 96 = .ok (.return_, 1) := by decide +kernel
theorem okX1_judgeGoingOn_43 {E : Ev} {X : Cx} {S : Sh} {Z : Option Nat} {Q : Hp → Prop} {B2 : Hp → Int32 → Prop} {a0 : Nat} {x1 : Int32} (O : Ok E X yX1_judgeGoingOn cX1_judgeGoingOn 3 none 3 69 0 0 (qV S Z Q)) (hB2 : ∀ (h : Hp) (x1 : Int32), B2 h x1 → G E X 0 0 S Z h 2 [some (vr a0), some (vi x1), none] []) : ∀ (n : Nat) (h : Hp) (x2 : Int32), wX1_judgeGoingOn_43 S B2 a0 x1 Q n h x2 → G E X 0 0 S Z h 43 [some (vr a0), some (vi x1), some (vi x2)] [] := by
  intro n
  induction n with
  | zero => intro h x2 hw; exact hw.elim
  | succ n hB43 =>
    intro h x2 hw
    have hw : wX1_judgeGoingOn_43b S B2 a0 x1 Q (wX1_judgeGoingOn_43 S B2 a0 x1 Q n) h x2 := hw
    unfold wX1_judgeGoingOn_43b at hw
    refine g_iload_n O dX1_judgeGoingOn_43 rfl ?_
    refine g_aload_n O dX1_judgeGoingOn_44 rfl ?_
    obtain ⟨c45, hw⟩ := hw
    refine gf_X1_machine O dX1_judgeGoingOn_45 fl_X1_32 c45 ?_
    obtain ⟨c48, hw⟩ := hw
    refine gf_X2_states O dX1_judgeGoingOn_48 fl_X1_107 c48 ?_
    refine g_icmp_ge (tgt := 90) O dX1_judgeGoingOn_51 rfl (fun q51 => ?_) (fun q51 => ?_)
    · have hw := hw.1 q51
      refine g_iinc (lc' := [some (vr a0), some (vi (x1 + (1 : Int32))), some (vi x2)]) O dX1_judgeGoingOn_90 rfl kv_1 rfl rfl ?_
      refine g_goto (tgt := 2) O dX1_judgeGoingOn_93 rfl ?_
      refine g_mask [true, true, false] rfl rfl ?_
      exact hB2 _ _ hw
    · have hw := hw.2 q51
      refine g_aload_n O dX1_judgeGoingOn_54 rfl ?_
      refine g_iload_n O dX1_judgeGoingOn_55 rfl ?_
      refine g_iload_n O dX1_judgeGoingOn_56 rfl ?_
      refine g_callV (As := [vi x1, vi x2]) (rest := []) O ci_1 rfl dX1_judgeGoingOn_57 ml_X1_92 im_yX1_paired se_yX1_paired ini_X1 co_yX1_paired yo_yX1_paired c45 rfl rfl (Nat.le_of_ble_eq_true rfl) ⟨by decide, by decide, by decide, by decide⟩ (okX1_paired hw) (k_I fun r57 h57 hw => ?_)
      refine g_if_eq (tgt := 84) O dX1_judgeGoingOn_60 rfl (fun q60 => ?_) (fun q60 => ?_)
      · have hw := hw.1 q60
        refine g_iinc (lc' := [some (vr a0), some (vi x1), some (vi (x2 + (1 : Int32)))]) O dX1_judgeGoingOn_84 rfl kv_1 rfl rfl ?_
        refine g_goto (tgt := 43) O dX1_judgeGoingOn_87 rfl ?_
        exact hB43 _ _ hw
      · have hw := hw.2 q60
        refine g_aload_n O dX1_judgeGoingOn_63 rfl ?_
        refine gf_X1_machine O dX1_judgeGoingOn_64 fl_X1_32 c45 ?_
        refine g_iload_n O dX1_judgeGoingOn_67 rfl ?_
        obtain ⟨c68, hw⟩ := hw
        refine g_callV (As := [vi x2]) (rest := []) O ci_2 rfl dX1_judgeGoingOn_68 ml_X1_103 im_yX2_anyCan se_yX2_anyCan ini_X2 co_yX2_anyCan yo_yX2_anyCan c68 rfl rfl (Nat.le_of_ble_eq_true rfl) ⟨by decide, by decide, by decide, by decide⟩ (okX2_anyCan hw) (k_I fun r68 h68 hw => ?_)
        refine g_if_ne (tgt := 84) O dX1_judgeGoingOn_71 rfl (fun q71 => ?_) (fun q71 => ?_)
        · have hw := hw.1 q71
          refine g_iinc (lc' := [some (vr a0), some (vi x1), some (vi (x2 + (1 : Int32)))]) O dX1_judgeGoingOn_84 rfl kv_1 rfl rfl ?_
          refine g_goto (tgt := 43) O dX1_judgeGoingOn_87 rfl ?_
          exact hB43 _ _ hw
        · have hw := hw.2 q71
          refine g_aload_n O dX1_judgeGoingOn_74 rfl ?_
          refine gf_X1_verdict O dX1_judgeGoingOn_75 fl_X1_42 c45 ?_
          refine g_iload_n O dX1_judgeGoingOn_78 rfl ?_
          refine g_iload_n O dX1_judgeGoingOn_79 rfl ?_
          refine g_iconst O dX1_judgeGoingOn_80 kv_0 ?_
          obtain ⟨c81, hw⟩ := hw
          refine g_callV (As := [vi x1, vi x2, vi (0 : Int32)]) (rest := []) O ci_9 rfl dX1_judgeGoingOn_81 ml_X1_96 im_yX9_note se_yX9_note ini_X9 co_yX9_note yo_yX9_note c81 rfl rfl (Nat.le_of_ble_eq_true rfl) ⟨by decide, by decide, by decide, by decide⟩ (okX9_note hw) (k_V fun h81 hw => ?_)
          refine g_iinc (lc' := [some (vr a0), some (vi x1), some (vi (x2 + (1 : Int32)))]) O dX1_judgeGoingOn_84 rfl kv_1 rfl rfl ?_
          refine g_goto (tgt := 43) O dX1_judgeGoingOn_87 rfl ?_
          exact hB43 _ _ hw
theorem okX1_judgeGoingOn_j41 {E : Ev} {X : Cx} {S : Sh} {Z : Option Nat} {Q : Hp → Prop} {B2 : Hp → Int32 → Prop} {h : Hp} {a0 : Nat} {x1 : Int32} (O : Ok E X yX1_judgeGoingOn cX1_judgeGoingOn 3 none 3 69 0 0 (qV S Z Q)) (hB2 : ∀ (h : Hp) (x1 : Int32), B2 h x1 → G E X 0 0 S Z h 2 [some (vr a0), some (vi x1), none] []) (hw : wX1_judgeGoingOn_j41 S B2 h a0 x1 Q) : G E X 0 0 S Z h 41 [some (vr a0), some (vi x1), none] [] := by
  unfold wX1_judgeGoingOn_j41 at hw
  refine g_iconst O dX1_judgeGoingOn_41 kv_0 ?_
  refine g_istore_n (lc' := [some (vr a0), some (vi x1), some (vi (0 : Int32))]) O dX1_judgeGoingOn_42 rfl (Nat.le_of_ble_eq_true rfl) rfl ?_
  obtain ⟨n43, hw⟩ := hw
  exact okX1_judgeGoingOn_43 O hB2 n43 _ _ hw
theorem okX1_judgeGoingOn_2 {E : Ev} {X : Cx} {S : Sh} {Z : Option Nat} {Q : Hp → Prop} {a0 : Nat} (O : Ok E X yX1_judgeGoingOn cX1_judgeGoingOn 3 none 3 69 0 0 (qV S Z Q)) : ∀ (n : Nat) (h : Hp) (x1 : Int32), wX1_judgeGoingOn_2 S a0 Q n h x1 → G E X 0 0 S Z h 2 [some (vr a0), some (vi x1), none] [] := by
  intro n
  induction n with
  | zero => intro h x1 hw; exact hw.elim
  | succ n hB2 =>
    intro h x1 hw
    have hw : wX1_judgeGoingOn_2b S a0 Q (wX1_judgeGoingOn_2 S a0 Q n) h x1 := hw
    unfold wX1_judgeGoingOn_2b at hw
    refine g_iload_n O dX1_judgeGoingOn_2 rfl ?_
    refine g_aload_n O dX1_judgeGoingOn_3 rfl ?_
    obtain ⟨c4, hw⟩ := hw
    refine g_callV (As := []) (rest := [vi x1]) O ci_1 rfl dX1_judgeGoingOn_4 ml_X1_100 im_yX1_statesAhead se_yX1_statesAhead ini_X1 co_yX1_statesAhead yo_yX1_statesAhead c4 rfl rfl (Nat.le_of_ble_eq_true rfl) ⟨by decide, by decide, by decide, by decide⟩ (okX1_statesAhead hw) (k_I fun r4 h4 hw => ?_)
    refine g_icmp_ge (tgt := 96) O dX1_judgeGoingOn_7 rfl (fun q7 => ?_) (fun q7 => ?_)
    · have hw := hw.1 q7
      exact g_return O dX1_judgeGoingOn_96 ⟨rfl, rfl, rfl, hw⟩
    · have hw := hw.2 q7
      refine g_aload_n O dX1_judgeGoingOn_10 rfl ?_
      refine gf_X1_number O dX1_judgeGoingOn_11 fl_X1_22 c4 ?_
      refine g_if_le (tgt := 41) O dX1_judgeGoingOn_14 rfl (fun q14 => ?_) (fun q14 => ?_)
      · have hw := hw.1 q14
        exact okX1_judgeGoingOn_j41 O hB2 hw
      · have hw := hw.2 q14
        refine g_aload_n O dX1_judgeGoingOn_17 rfl ?_
        refine gf_X1_model O dX1_judgeGoingOn_18 fl_X1_18 c4 ?_
        obtain ⟨c21, hw⟩ := hw
        refine gf_X3_machines O dX1_judgeGoingOn_21 fl_X1_26 c21 ?_
        refine g_aload_n O dX1_judgeGoingOn_24 rfl ?_
        refine gf_X1_number O dX1_judgeGoingOn_25 fl_X1_22 c4 ?_
        refine g_iconst O dX1_judgeGoingOn_28 kv_1 ?_
        refine g_isub O dX1_judgeGoingOn_29 ?_
        obtain ⟨c30, hw⟩ := hw
        refine g_aaload (t := 1) (C := "FinerSteps$Machine") O rfl dX1_judgeGoingOn_30 c30.1 c30.2 ?_
        refine g_iload_n O dX1_judgeGoingOn_31 rfl ?_
        obtain ⟨c32, hw⟩ := hw
        refine g_callV (As := [vi x1]) (rest := []) O ci_2 rfl dX1_judgeGoingOn_32 ml_X1_103 im_yX2_anyCan se_yX2_anyCan ini_X2 co_yX2_anyCan yo_yX2_anyCan c32 rfl rfl (Nat.le_of_ble_eq_true rfl) ⟨by decide, by decide, by decide, by decide⟩ (okX2_anyCan hw) (k_I fun r32 h32 hw => ?_)
        refine g_if_ne (tgt := 41) O dX1_judgeGoingOn_35 rfl (fun q35 => ?_) (fun q35 => ?_)
        · have hw := hw.1 q35
          exact okX1_judgeGoingOn_j41 O hB2 hw
        · have hw := hw.2 q35
          refine g_goto (tgt := 90) O dX1_judgeGoingOn_38 rfl ?_
          refine g_iinc (lc' := [some (vr a0), some (vi (x1 + (1 : Int32))), none]) O dX1_judgeGoingOn_90 rfl kv_1 rfl rfl ?_
          refine g_goto (tgt := 2) O dX1_judgeGoingOn_93 rfl ?_
          exact hB2 _ _ hw
theorem okX1_judgeGoingOn {E : Ev} {S : Sh} {Z : Option Nat} {Q : Hp → Prop} {h : Hp} {a0 : Nat} (hw : wX1_judgeGoingOn S h a0 Q) : Ct E yX1_judgeGoingOn cX1_judgeGoingOn 3 none 3 69 0 0 S Z h [vr a0] (qV S Z Q) := by
  refine Ct.of (by decide) (lc := [some (vr a0), none, none]) (Nat.le_of_ble_eq_true rfl) rfl (fun X O => ?_)
  unfold wX1_judgeGoingOn at hw
  refine g_iconst O dX1_judgeGoingOn_0 kv_0 ?_
  refine g_istore_n (lc' := [some (vr a0), some (vi (0 : Int32)), none]) O dX1_judgeGoingOn_1 rfl (Nat.le_of_ble_eq_true rfl) rfl ?_
  obtain ⟨n2, hw⟩ := hw
  exact okX1_judgeGoingOn_2 O n2 _ _ hw
theorem dX9_clear_0 : decode cX9_clear 0 = .ok (.aload_n 0, 1) := by decide +kernel
theorem dX9_clear_1 : decode cX9_clear 1 = .ok (.iconst 0, 1) := by decide +kernel
theorem dX9_clear_2 : decode cX9_clear 2 = .ok (.putfield 7, 3) := by decide +kernel
theorem dX9_clear_5 : decode cX9_clear 5 = .ok (.aload_n 0, 1) := by decide +kernel
theorem dX9_clear_6 : decode cX9_clear 6 = .ok (.iconst 0, 1) := by decide +kernel
theorem dX9_clear_7 : decode cX9_clear 7 = .ok (.putfield 13, 3) := by decide +kernel
theorem dX9_clear_10 : decode cX9_clear 10 = .ok (.return_, 1) := by decide +kernel
theorem okX9_clear {E : Ev} {S : Sh} {Z : Option Nat} {Q : Hp → Prop} {h : Hp} {a0 : Nat} (hw : wX9_clear S h a0 Q) : Ct E yX9_clear cX9_clear 1 none 1 24 0 0 S Z h [vr a0] (qV S Z Q) := by
  refine Ct.of (by decide) (lc := [some (vr a0)]) (Nat.le_of_ble_eq_true rfl) rfl (fun X O => ?_)
  unfold wX9_clear at hw
  refine g_aload_n O dX9_clear_0 rfl ?_
  refine g_iconst O dX9_clear_1 kv_0 ?_
  obtain ⟨c2, hw⟩ := hw
  refine pf_X9_known O dX9_clear_2 fl_X9_7 c2 (by decide) ?_
  refine g_nmH (fun h2 e2 => ?_)
  have hw := hw h2 e2
  refine g_aload_n O dX9_clear_5 rfl ?_
  refine g_iconst O dX9_clear_6 kv_0 ?_
  refine pf_X9_failing O dX9_clear_7 fl_X9_13 c2 ?_
  exact g_return O dX9_clear_10 ⟨rfl, rfl, rfl, hw⟩
theorem dX1_verdictOn_0 : decode cX1_verdictOn 0 = .ok (.aload_n 0, 1) := by decide +kernel
theorem dX1_verdictOn_1 : decode cX1_verdictOn 1 = .ok (.aload_n 1, 1) := by decide +kernel
theorem dX1_verdictOn_2 : decode cX1_verdictOn 2 = .ok (.putfield 18, 3) := by decide +kernel
theorem dX1_verdictOn_5 : decode cX1_verdictOn 5 = .ok (.aload_n 0, 1) := by decide +kernel
theorem dX1_verdictOn_6 : decode cX1_verdictOn 6 = .ok (.iload_n 2, 1) := by decide +kernel
theorem dX1_verdictOn_7 : decode cX1_verdictOn 7 = .ok (.putfield 22, 3) := by decide +kernel
theorem dX1_verdictOn_10 : decode cX1_verdictOn 10 = .ok (.aload_n 0, 1) := by decide +kernel
theorem dX1_verdictOn_11 : decode cX1_verdictOn 11 = .ok (.aload_n 1, 1) := by decide +kernel
theorem dX1_verdictOn_12 : decode cX1_verdictOn 12 = .ok (.getfield 26, 3) := by decide +kernel
theorem dX1_verdictOn_15 : decode cX1_verdictOn 15 = .ok (.iload_n 2, 1) := by decide +kernel
theorem dX1_verdictOn_16 : decode cX1_verdictOn 16 = .ok (.aaload, 1) := by decide +kernel
theorem dX1_verdictOn_17 : decode cX1_verdictOn 17 = .ok (.putfield 32, 3) := by decide +kernel
theorem dX1_verdictOn_20 : decode cX1_verdictOn 20 = .ok (.iload 4, 2) := by decide +kernel
theorem dX1_verdictOn_22 : decode cX1_verdictOn 22 = .ok (.iconst 3, 1) := by decide +kernel
theorem dX1_verdictOn_23 : decode cX1_verdictOn 23 = .ok (.if_icmp .eq 9, 3) := by decide +kernel
theorem dX1_verdictOn_26 : decode cX1_verdictOn 26 = .ok (.iload 4, 2) := by decide +kernel
theorem dX1_verdictOn_28 : decode cX1_verdictOn 28 = .ok (.iconst 4, 1) := by decide +kernel
theorem dX1_verdictOn_29 : decode cX1_verdictOn 29 = .ok (.if_icmp .ne 7, 3) := by decide +kernel
theorem dX1_verdictOn_32 : decode cX1_verdictOn 32 = .ok (.iconst 1, 1) := by decide +kernel
theorem dX1_verdictOn_33 : decode cX1_verdictOn 33 = .ok (.goto 4, 3) := by decide +kernel
theorem dX1_verdictOn_36 : decode cX1_verdictOn 36 = .ok (.iconst 0, 1) := by decide +kernel
theorem dX1_verdictOn_37 : decode cX1_verdictOn 37 = .ok (.istore 5, 2) := by decide +kernel
theorem dX1_verdictOn_39 : decode cX1_verdictOn 39 = .ok (.aload_n 0, 1) := by decide +kernel
theorem dX1_verdictOn_40 : decode cX1_verdictOn 40 = .ok (.aload_n 0, 1) := by decide +kernel
theorem dX1_verdictOn_41 : decode cX1_verdictOn 41 = .ok (.getfield 32, 3) := by decide +kernel
theorem dX1_verdictOn_44 : decode cX1_verdictOn 44 = .ok (.getfield 36, 3) := by decide +kernel
theorem dX1_verdictOn_47 : decode cX1_verdictOn 47 = .ok (.iload 5, 2) := by decide +kernel
theorem dX1_verdictOn_49 : decode cX1_verdictOn 49 = .ok (.ifCond .eq 13, 3) := by decide +kernel
theorem dX1_verdictOn_52 : decode cX1_verdictOn 52 = .ok (.bipush 12, 2) := by decide +kernel
theorem dX1_verdictOn_54 : decode cX1_verdictOn 54 = .ok (.iload 4, 2) := by decide +kernel
theorem dX1_verdictOn_56 : decode cX1_verdictOn 56 = .ok (.iadd, 1) := by decide +kernel
theorem dX1_verdictOn_57 : decode cX1_verdictOn 57 = .ok (.iconst 3, 1) := by decide +kernel
theorem dX1_verdictOn_58 : decode cX1_verdictOn 58 = .ok (.isub, 1) := by decide +kernel
theorem dX1_verdictOn_59 : decode cX1_verdictOn 59 = .ok (.goto 9, 3) := by decide +kernel
theorem dX1_verdictOn_62 : decode cX1_verdictOn 62 = .ok (.iload_n 3, 1) := by decide +kernel
theorem dX1_verdictOn_63 : decode cX1_verdictOn 63 = .ok (.iconst 3, 1) := by decide +kernel
theorem dX1_verdictOn_64 : decode cX1_verdictOn 64 = .ok (.imul, 1) := by decide +kernel
theorem dX1_verdictOn_65 : decode cX1_verdictOn 65 = .ok (.iload 4, 2) := by decide +kernel
theorem dX1_verdictOn_67 : decode cX1_verdictOn 67 = .ok (.iadd, 1) := by decide +kernel
theorem dX1_verdictOn_68 : decode cX1_verdictOn 68 = .ok (.aaload, 1) := by decide +kernel
theorem dX1_verdictOn_69 : decode cX1_verdictOn 69 = .ok (.putfield 42, 3) := by decide +kernel
theorem dX1_verdictOn_72 : decode cX1_verdictOn 72 = .ok (.aload_n 0, 1) := by decide +kernel
theorem dX1_verdictOn_73 : decode cX1_verdictOn 73 = .ok (.getfield 42, 3) := by decide +kernel
theorem dX1_verdictOn_76 : decode cX1_verdictOn 76 = .ok (.getfield 46, 3) := by decide +kernel
theorem dX1_verdictOn_79 : decode cX1_verdictOn 79 = .ok (.ifCond .eq 8, 3) := by decide +kernel
theorem dX1_verdictOn_82 : decode cX1_verdictOn 82 = .ok (.aload_n 0, 1) := by decide +kernel
theorem dX1_verdictOn_83 : decode cX1_verdictOn 83 = .ok (.getfield 42, 3) := by decide +kernel
theorem dX1_verdictOn_86 : decode cX1_verdictOn 86 = .ok (.areturn, 1) := by decide +kernel
theorem dX1_verdictOn_87 : decode cX1_verdictOn 87 = .ok (.aload_n 0, 1) := by decide +kernel
theorem dX1_verdictOn_88 : decode cX1_verdictOn 88 = .ok (.getfield 42, 3) := by decide +kernel
theorem dX1_verdictOn_91 : decode cX1_verdictOn 91 = .ok (.invokevirtual 52, 3) := by decide +kernel
theorem dX1_verdictOn_94 : decode cX1_verdictOn 94 = .ok (.iload 4, 2) := by decide +kernel
theorem dX1_verdictOn_96 : decode cX1_verdictOn 96 = .ok (.iconst 3, 1) := by decide +kernel
theorem dX1_verdictOn_97 : decode cX1_verdictOn 97 = .ok (.if_icmp .ne 10, 3) := by decide +kernel
theorem dX1_verdictOn_100 : decode cX1_verdictOn 100 = .ok (.aload_n 0, 1) := by decide +kernel
theorem dX1_verdictOn_101 : decode cX1_verdictOn 101 = .ok (.invokevirtual 55, 3) := by decide +kernel
theorem dX1_verdictOn_104 : decode cX1_verdictOn 104 = .ok (.goto 49, 3) := by decide +kernel
theorem dX1_verdictOn_107 : decode cX1_verdictOn 107 = .ok (.iload 4, 2) := by decide +kernel
theorem dX1_verdictOn_109 : decode cX1_verdictOn 109 = .ok (.iconst 4, 1) := by decide +kernel
theorem dX1_verdictOn_110 : decode cX1_verdictOn 110 = .ok (.if_icmp .ne 10, 3) := by decide +kernel
theorem dX1_verdictOn_113 : decode cX1_verdictOn 113 = .ok (.aload_n 0, 1) := by decide +kernel
theorem dX1_verdictOn_114 : decode cX1_verdictOn 114 = .ok (.invokevirtual 58, 3) := by decide +kernel
theorem dX1_verdictOn_117 : decode cX1_verdictOn 117 = .ok (.goto 36, 3) := by decide +kernel
theorem dX1_verdictOn_120 : decode cX1_verdictOn 120 = .ok (.aload_n 0, 1) := by decide +kernel
theorem dX1_verdictOn_121 : decode cX1_verdictOn 121 = .ok (.iload 4, 2) := by decide +kernel
theorem dX1_verdictOn_123 : decode cX1_verdictOn 123 = .ok (.aload_n 0, 1) := by decide +kernel
theorem dX1_verdictOn_124 : decode cX1_verdictOn 124 = .ok (.getfield 32, 3) := by decide +kernel
theorem dX1_verdictOn_127 : decode cX1_verdictOn 127 = .ok (.getfield 61, 3) := by decide +kernel
theorem dX1_verdictOn_130 : decode cX1_verdictOn 130 = .ok (.iload_n 3, 1) := by decide +kernel
theorem dX1_verdictOn_131 : decode cX1_verdictOn 131 = .ok (.aaload, 1) := by decide +kernel
theorem dX1_verdictOn_132 : decode cX1_verdictOn 132 = .ok (.invokevirtual 65, 3) := by decide +kernel
theorem dX1_verdictOn_135 : decode cX1_verdictOn 135 = .ok (.ifCond .eq 18, 3) := by decide +kernel
theorem dX1_verdictOn_138 : decode cX1_verdictOn 138 = .ok (.aload_n 0, 1) := by decide +kernel
theorem dX1_verdictOn_139 : decode cX1_verdictOn 139 = .ok (.aload_n 0, 1) := by decide +kernel
theorem dX1_verdictOn_140 : decode cX1_verdictOn 140 = .ok (.getfield 32, 3) := by decide +kernel
theorem dX1_verdictOn_143 : decode cX1_verdictOn 143 = .ok (.getfield 61, 3) := by decide +kernel
theorem dX1_verdictOn_146 : decode cX1_verdictOn 146 = .ok (.iload_n 3, 1) := by decide +kernel
theorem dX1_verdictOn_147 : decode cX1_verdictOn 147 = .ok (.aaload, 1) := by decide +kernel
theorem dX1_verdictOn_148 : decode cX1_verdictOn 148 = .ok (.iload 4, 2) := by decide +kernel
theorem dX1_verdictOn_150 : decode cX1_verdictOn 150 = .ok (.invokevirtual 69, 3) := by decide +kernel
theorem dX1_verdictOn_153 : decode cX1_verdictOn 153 = .ok (.aload_n 0, 1) := by decide +kernel
theorem dX1_verdictOn_154 : decode cX1_verdictOn 154 = .ok (.getfield 42, 3) := by decide +kernel
theorem dX1_verdictOn_157 : decode cX1_verdictOn 157 = .ok (.iconst 1, 1) := by decide +kernel
theorem dX1_verdictOn_158 : decode cX1_verdictOn 158 = .ok (.putfield 46, 3) := by decide +kernel
theorem dX1_verdictOn_161 : decode cX1_verdictOn 161 = .ok (.aload_n 0, 1) := by decide +kernel
theorem dX1_verdictOn_162 : decode cX1_verdictOn 162 = .ok (.getfield 42, 3) := by decide +kernel
theorem dX1_verdictOn_165 : decode cX1_verdictOn 165 = .ok (.areturn, 1) := by decide +kernel
theorem okX1_verdictOn_j68 {E : Ev} {X : Cx} {S : Sh} {Z : Option Nat} {Q : Nat → Hp → Prop} {h : Hp} {a0 : Nat} {x3 : Int32} {x4 : Int32} {s0 : Nat} {s1 : Nat} {s2 : Int32} (O : Ok E X yX1_verdictOn cX1_verdictOn 6 (some (.object "FinerSteps$Verdict")) 6 145 0 0 (qR S Z Q)) (hw : wX1_verdictOn_j68 S h a0 x3 x4 s0 s1 s2 Q) : G E X 0 0 S Z h 68 [some (vr a0), none, none, some (vi x3), some (vi x4), none] [vi s2, vr s1, vr s0] := by
  unfold wX1_verdictOn_j68 at hw
  obtain ⟨c68, hw⟩ := hw
  refine g_aaload (t := 3) (C := "FinerSteps$Verdict") O rfl dX1_verdictOn_68 c68.1 c68.2 ?_
  obtain ⟨c69, hw⟩ := hw
  refine pf_X1_verdict O dX1_verdictOn_69 fl_X1_42 c69 ?_
  refine g_nmH (fun h69 e69 => ?_)
  have hw := hw h69 e69
  refine g_aload_n O dX1_verdictOn_72 rfl ?_
  obtain ⟨c73, hw⟩ := hw
  refine gf_X1_verdict O dX1_verdictOn_73 fl_X1_42 c73 ?_
  obtain ⟨c76, hw⟩ := hw
  refine gf_X9_known O dX1_verdictOn_76 fl_X1_46 c76 ?_
  refine g_if_eq (tgt := 87) O dX1_verdictOn_79 rfl (fun q79 => ?_) (fun q79 => ?_)
  · have hw := hw.1 q79
    refine g_aload_n O dX1_verdictOn_87 rfl ?_
    refine gf_X1_verdict O dX1_verdictOn_88 fl_X1_42 c73 ?_
    refine g_callV (As := []) (rest := []) O ci_9 rfl dX1_verdictOn_91 ml_X1_52 im_yX9_clear se_yX9_clear ini_X9 co_yX9_clear yo_yX9_clear c76 rfl rfl (Nat.le_of_ble_eq_true rfl) ⟨by decide, by decide, by decide, by decide⟩ (okX9_clear hw) (k_V fun h91 hw => ?_)
    refine g_iload O dX1_verdictOn_94 rfl ?_
    refine g_iconst O dX1_verdictOn_96 kv_3 ?_
    refine g_icmp_ne (tgt := 107) O dX1_verdictOn_97 rfl (fun q97 => ?_) (fun q97 => ?_)
    · have hw := hw.1 q97
      refine g_iload O dX1_verdictOn_107 rfl ?_
      refine g_iconst O dX1_verdictOn_109 kv_4 ?_
      refine g_icmp_ne (tgt := 120) O dX1_verdictOn_110 rfl (fun q110 => ?_) (fun q110 => ?_)
      · have hw := hw.1 q110
        refine g_aload_n O dX1_verdictOn_120 rfl ?_
        refine g_iload O dX1_verdictOn_121 rfl ?_
        refine g_aload_n O dX1_verdictOn_123 rfl ?_
        refine gf_X1_machine O dX1_verdictOn_124 fl_X1_32 c73 ?_
        obtain ⟨c127, hw⟩ := hw
        refine gf_X2_event O dX1_verdictOn_127 fl_X1_61 c127 ?_
        refine g_iload_n O dX1_verdictOn_130 rfl ?_
        obtain ⟨c131, hw⟩ := hw
        refine g_aaload (t := 0) (C := "FinerSteps$Event") O rfl dX1_verdictOn_131 c131.1 c131.2 ?_
        refine g_callV (As := [vi x4, vr ((gR h91 ((gR h91 (gR h91 a0 2) 5)) (ix x3)))]) (rest := []) O ci_1 rfl dX1_verdictOn_132 ml_X1_65 im_yX1_concerns se_yX1_concerns ini_X1 co_yX1_concerns yo_yX1_concerns c73 rfl rfl (Nat.le_of_ble_eq_true rfl) ⟨by decide, by decide, by decide, by decide⟩ (okX1_concerns hw) (k_I fun r132 h132 hw => ?_)
        refine g_if_eq (tgt := 153) O dX1_verdictOn_135 rfl (fun q135 => ?_) (fun q135 => ?_)
        · have hw := hw.1 q135
          refine g_aload_n O dX1_verdictOn_153 rfl ?_
          refine gf_X1_verdict O dX1_verdictOn_154 fl_X1_42 c73 ?_
          refine g_iconst O dX1_verdictOn_157 kv_1 ?_
          obtain ⟨c158, hw⟩ := hw
          refine pf_X9_known O dX1_verdictOn_158 fl_X1_46 c158 (by decide) ?_
          refine g_nmH (fun h158 e158 => ?_)
          have hw := hw h158 e158
          refine g_aload_n O dX1_verdictOn_161 rfl ?_
          refine gf_X1_verdict O dX1_verdictOn_162 fl_X1_42 c73 ?_
          exact g_areturn O dX1_verdictOn_165 ⟨rfl, rfl, _, rfl, hw⟩
        · have hw := hw.2 q135
          refine g_aload_n O dX1_verdictOn_138 rfl ?_
          refine g_aload_n O dX1_verdictOn_139 rfl ?_
          refine gf_X1_machine O dX1_verdictOn_140 fl_X1_32 c73 ?_
          obtain ⟨c143, hw⟩ := hw
          refine gf_X2_event O dX1_verdictOn_143 fl_X1_61 c143 ?_
          refine g_iload_n O dX1_verdictOn_146 rfl ?_
          obtain ⟨c147, hw⟩ := hw
          refine g_aaload (t := 0) (C := "FinerSteps$Event") O rfl dX1_verdictOn_147 c147.1 c147.2 ?_
          refine g_iload O dX1_verdictOn_148 rfl ?_
          refine g_callV (As := [vr ((gR h132 ((gR h132 (gR h132 a0 2) 5)) (ix x3))), vi x4]) (rest := []) O ci_1 rfl dX1_verdictOn_150 ml_X1_69 im_yX1_judgeEvent se_yX1_judgeEvent ini_X1 co_yX1_judgeEvent yo_yX1_judgeEvent c73 rfl rfl (Nat.le_of_ble_eq_true rfl) ⟨by decide, by decide, by decide, by decide⟩ (okX1_judgeEvent hw) (k_V fun h150 hw => ?_)
          refine g_aload_n O dX1_verdictOn_153 rfl ?_
          refine gf_X1_verdict O dX1_verdictOn_154 fl_X1_42 c73 ?_
          refine g_iconst O dX1_verdictOn_157 kv_1 ?_
          obtain ⟨c158, hw⟩ := hw
          refine pf_X9_known O dX1_verdictOn_158 fl_X1_46 c158 (by decide) ?_
          refine g_nmH (fun h158 e158 => ?_)
          have hw := hw h158 e158
          refine g_aload_n O dX1_verdictOn_161 rfl ?_
          refine gf_X1_verdict O dX1_verdictOn_162 fl_X1_42 c73 ?_
          exact g_areturn O dX1_verdictOn_165 ⟨rfl, rfl, _, rfl, hw⟩
      · have hw := hw.2 q110
        refine g_aload_n O dX1_verdictOn_113 rfl ?_
        refine g_callV (As := []) (rest := []) O ci_1 rfl dX1_verdictOn_114 ml_X1_58 im_yX1_judgeGoingOn se_yX1_judgeGoingOn ini_X1 co_yX1_judgeGoingOn yo_yX1_judgeGoingOn c73 rfl rfl (Nat.le_of_ble_eq_true rfl) ⟨by decide, by decide, by decide, by decide⟩ (okX1_judgeGoingOn hw) (k_V fun h114 hw => ?_)
        refine g_goto (tgt := 153) O dX1_verdictOn_117 rfl ?_
        refine g_aload_n O dX1_verdictOn_153 rfl ?_
        refine gf_X1_verdict O dX1_verdictOn_154 fl_X1_42 c73 ?_
        refine g_iconst O dX1_verdictOn_157 kv_1 ?_
        obtain ⟨c158, hw⟩ := hw
        refine pf_X9_known O dX1_verdictOn_158 fl_X1_46 c158 (by decide) ?_
        refine g_nmH (fun h158 e158 => ?_)
        have hw := hw h158 e158
        refine g_aload_n O dX1_verdictOn_161 rfl ?_
        refine gf_X1_verdict O dX1_verdictOn_162 fl_X1_42 c73 ?_
        exact g_areturn O dX1_verdictOn_165 ⟨rfl, rfl, _, rfl, hw⟩
    · have hw := hw.2 q97
      refine g_aload_n O dX1_verdictOn_100 rfl ?_
      refine g_callV (As := []) (rest := []) O ci_1 rfl dX1_verdictOn_101 ml_X1_55 im_yX1_judgeBegin se_yX1_judgeBegin ini_X1 co_yX1_judgeBegin yo_yX1_judgeBegin c73 rfl rfl (Nat.le_of_ble_eq_true rfl) ⟨by decide, by decide, by decide, by decide⟩ (okX1_judgeBegin hw) (k_V fun h101 hw => ?_)
      refine g_goto (tgt := 153) O dX1_verdictOn_104 rfl ?_
      refine g_aload_n O dX1_verdictOn_153 rfl ?_
      refine gf_X1_verdict O dX1_verdictOn_154 fl_X1_42 c73 ?_
      refine g_iconst O dX1_verdictOn_157 kv_1 ?_
      obtain ⟨c158, hw⟩ := hw
      refine pf_X9_known O dX1_verdictOn_158 fl_X1_46 c158 (by decide) ?_
      refine g_nmH (fun h158 e158 => ?_)
      have hw := hw h158 e158
      refine g_aload_n O dX1_verdictOn_161 rfl ?_
      refine gf_X1_verdict O dX1_verdictOn_162 fl_X1_42 c73 ?_
      exact g_areturn O dX1_verdictOn_165 ⟨rfl, rfl, _, rfl, hw⟩
  · have hw := hw.2 q79
    refine g_aload_n O dX1_verdictOn_82 rfl ?_
    refine gf_X1_verdict O dX1_verdictOn_83 fl_X1_42 c73 ?_
    exact g_areturn O dX1_verdictOn_86 ⟨rfl, rfl, _, rfl, hw⟩
theorem okX1_verdictOn_j37 {E : Ev} {X : Cx} {S : Sh} {Z : Option Nat} {Q : Nat → Hp → Prop} {h : Hp} {a0 : Nat} {x3 : Int32} {x4 : Int32} {s0 : Int32} (O : Ok E X yX1_verdictOn cX1_verdictOn 6 (some (.object "FinerSteps$Verdict")) 6 145 0 0 (qR S Z Q)) (hw : wX1_verdictOn_j37 S h a0 x3 x4 s0 Q) : G E X 0 0 S Z h 37 [some (vr a0), none, none, some (vi x3), some (vi x4), none] [vi s0] := by
  unfold wX1_verdictOn_j37 at hw
  refine g_istore (lc' := [some (vr a0), none, none, some (vi x3), some (vi x4), some (vi s0)]) O dX1_verdictOn_37 rfl (Nat.le_of_ble_eq_true rfl) rfl ?_
  refine g_aload_n O dX1_verdictOn_39 rfl ?_
  refine g_aload_n O dX1_verdictOn_40 rfl ?_
  obtain ⟨c41, hw⟩ := hw
  refine gf_X1_machine O dX1_verdictOn_41 fl_X1_32 c41 ?_
  obtain ⟨c44, hw⟩ := hw
  refine gf_X2_verdicts O dX1_verdictOn_44 fl_X1_36 c44 ?_
  refine g_iload O dX1_verdictOn_47 rfl ?_
  refine g_if_eq (tgt := 62) O dX1_verdictOn_49 rfl (fun q49 => ?_) (fun q49 => ?_)
  · have hw := hw.1 q49
    refine g_iload_n O dX1_verdictOn_62 rfl ?_
    refine g_iconst O dX1_verdictOn_63 kv_3 ?_
    refine g_imul O dX1_verdictOn_64 ?_
    refine g_iload O dX1_verdictOn_65 rfl ?_
    refine g_iadd O dX1_verdictOn_67 ?_
    refine g_mask [true, false, false, true, true, false] rfl rfl ?_
    exact okX1_verdictOn_j68 O hw
  · have hw := hw.2 q49
    refine g_bipush O dX1_verdictOn_52 kb_12 ?_
    refine g_iload O dX1_verdictOn_54 rfl ?_
    refine g_iadd O dX1_verdictOn_56 ?_
    refine g_iconst O dX1_verdictOn_57 kv_3 ?_
    refine g_isub O dX1_verdictOn_58 ?_
    refine g_goto (tgt := 68) O dX1_verdictOn_59 rfl ?_
    refine g_mask [true, false, false, true, true, false] rfl rfl ?_
    exact okX1_verdictOn_j68 O hw
theorem okX1_verdictOn_j32 {E : Ev} {X : Cx} {S : Sh} {Z : Option Nat} {Q : Nat → Hp → Prop} {h : Hp} {a0 : Nat} {x3 : Int32} {x4 : Int32} (O : Ok E X yX1_verdictOn cX1_verdictOn 6 (some (.object "FinerSteps$Verdict")) 6 145 0 0 (qR S Z Q)) (hw : wX1_verdictOn_j32 S h a0 x3 x4 Q) : G E X 0 0 S Z h 32 [some (vr a0), none, none, some (vi x3), some (vi x4), none] [] := by
  unfold wX1_verdictOn_j32 at hw
  refine g_iconst O dX1_verdictOn_32 kv_1 ?_
  refine g_goto (tgt := 37) O dX1_verdictOn_33 rfl ?_
  exact okX1_verdictOn_j37 O hw
theorem okX1_verdictOn {E : Ev} {S : Sh} {Z : Option Nat} {Q : Nat → Hp → Prop} {h : Hp} {a0 : Nat} {a1 : Nat} {x2 : Int32} {x3 : Int32} {x4 : Int32} (hw : wX1_verdictOn S h a0 a1 x2 x3 x4 Q) : Ct E yX1_verdictOn cX1_verdictOn 6 (some (.object "FinerSteps$Verdict")) 6 145 0 0 S Z h [vr a0, vr a1, vi x2, vi x3, vi x4] (qR S Z Q) := by
  refine Ct.of (by decide) (lc := [some (vr a0), some (vr a1), some (vi x2), some (vi x3), some (vi x4), none]) (Nat.le_of_ble_eq_true rfl) rfl (fun X O => ?_)
  unfold wX1_verdictOn at hw
  refine g_aload_n O dX1_verdictOn_0 rfl ?_
  refine g_aload_n O dX1_verdictOn_1 rfl ?_
  obtain ⟨c2, hw⟩ := hw
  refine pf_X1_model O dX1_verdictOn_2 fl_X1_18 c2 ?_
  refine g_nmH (fun h2 e2 => ?_)
  have hw := hw h2 e2
  refine g_aload_n O dX1_verdictOn_5 rfl ?_
  refine g_iload_n O dX1_verdictOn_6 rfl ?_
  refine pf_X1_number O dX1_verdictOn_7 fl_X1_22 c2 ?_
  refine g_nmH (fun h7 e7 => ?_)
  have hw := hw h7 e7
  refine g_aload_n O dX1_verdictOn_10 rfl ?_
  refine g_aload_n O dX1_verdictOn_11 rfl ?_
  obtain ⟨c12, hw⟩ := hw
  refine gf_X3_machines O dX1_verdictOn_12 fl_X1_26 c12 ?_
  refine g_iload_n O dX1_verdictOn_15 rfl ?_
  obtain ⟨c16, hw⟩ := hw
  refine g_aaload (t := 1) (C := "FinerSteps$Machine") O rfl dX1_verdictOn_16 c16.1 c16.2 ?_
  refine pf_X1_machine O dX1_verdictOn_17 fl_X1_32 c2 ?_
  refine g_nmH (fun h17 e17 => ?_)
  have hw := hw h17 e17
  refine g_iload O dX1_verdictOn_20 rfl ?_
  refine g_iconst O dX1_verdictOn_22 kv_3 ?_
  refine g_icmp_eq (tgt := 32) O dX1_verdictOn_23 rfl (fun q23 => ?_) (fun q23 => ?_)
  · have hw := hw.1 q23
    refine g_mask [true, false, false, true, true, false] rfl rfl ?_
    exact okX1_verdictOn_j32 O hw
  · have hw := hw.2 q23
    refine g_iload O dX1_verdictOn_26 rfl ?_
    refine g_iconst O dX1_verdictOn_28 kv_4 ?_
    refine g_icmp_ne (tgt := 36) O dX1_verdictOn_29 rfl (fun q29 => ?_) (fun q29 => ?_)
    · have hw := hw.1 q29
      refine g_iconst O dX1_verdictOn_36 kv_0 ?_
      refine g_mask [true, false, false, true, true, false] rfl rfl ?_
      exact okX1_verdictOn_j37 O hw
    · have hw := hw.2 q29
      refine g_mask [true, false, false, true, true, false] rfl rfl ?_
      exact okX1_verdictOn_j32 O hw
theorem dX1_countOpen_0 : decode cX1_countOpen 0 = .ok (.iconst 0, 1) := by decide +kernel
theorem dX1_countOpen_1 : decode cX1_countOpen 1 = .ok (.istore_n 3, 1) := by decide +kernel
theorem dX1_countOpen_2 : decode cX1_countOpen 2 = .ok (.iconst 0, 1) := by decide +kernel
theorem dX1_countOpen_3 : decode cX1_countOpen 3 = .ok (.istore 4, 2) := by decide +kernel
theorem dX1_countOpen_5 : decode cX1_countOpen 5 = .ok (.iload 4, 2) := by decide +kernel
theorem dX1_countOpen_7 : decode cX1_countOpen 7 = .ok (.aload_n 1, 1) := by decide +kernel
theorem dX1_countOpen_8 : decode cX1_countOpen 8 = .ok (.getfield 26, 3) := by decide +kernel
theorem dX1_countOpen_11 : decode cX1_countOpen 11 = .ok (.iload_n 2, 1) := by decide +kernel
theorem dX1_countOpen_12 : decode cX1_countOpen 12 = .ok (.aaload, 1) := by decide +kernel
theorem dX1_countOpen_13 : decode cX1_countOpen 13 = .ok (.getfield 73, 3) := by decide +kernel
theorem dX1_countOpen_16 : decode cX1_countOpen 16 = .ok (.if_icmp .ge 48, 3) := by decide +kernel
theorem dX1_countOpen_19 : decode cX1_countOpen 19 = .ok (.iconst 0, 1) := by decide +kernel
theorem dX1_countOpen_20 : decode cX1_countOpen 20 = .ok (.istore 5, 2) := by decide +kernel
theorem dX1_countOpen_22 : decode cX1_countOpen 22 = .ok (.iload 5, 2) := by decide +kernel
theorem dX1_countOpen_24 : decode cX1_countOpen 24 = .ok (.iconst 3, 1) := by decide +kernel
theorem dX1_countOpen_25 : decode cX1_countOpen 25 = .ok (.if_icmp .ge 33, 3) := by decide +kernel
theorem dX1_countOpen_28 : decode cX1_countOpen 28 = .ok (.iload_n 3, 1) := by decide +kernel
theorem dX1_countOpen_29 : decode cX1_countOpen 29 = .ok (.aload_n 0, 1) := by decide +kernel
theorem dX1_countOpen_30 : decode cX1_countOpen 30 = .ok (.aload_n 1, 1) := by decide +kernel
theorem dX1_countOpen_31 : decode cX1_countOpen 31 = .ok (.iload_n 2, 1) := by decide +kernel
theorem dX1_countOpen_32 : decode cX1_countOpen 32 = .ok (.iload 4, 2) := by decide +kernel
theorem dX1_countOpen_34 : decode cX1_countOpen 34 = .ok (.iload 5, 2) := by decide +kernel
theorem dX1_countOpen_36 : decode cX1_countOpen 36 = .ok (.invokevirtual 76, 3) := by decide +kernel
theorem dX1_countOpen_39 : decode cX1_countOpen 39 = .ok (.getfield 80, 3) := by decide +kernel
theorem dX1_countOpen_42 : decode cX1_countOpen 42 = .ok (.ifCond .le 7, 3) := by decide +kernel
theorem dX1_countOpen_45 : decode cX1_countOpen 45 = .ok (.iconst 1, 1) := by decide +kernel
theorem dX1_countOpen_46 : decode cX1_countOpen 46 = .ok (.goto 4, 3) := by decide +kernel
theorem dX1_countOpen_49 : decode cX1_countOpen 49 = .ok (.iconst 0, 1) := by decide +kernel
theorem dX1_countOpen_50 : decode cX1_countOpen 50 = .ok (.iadd, 1) := by decide +kernel
theorem dX1_countOpen_51 : decode cX1_countOpen 51 = .ok (.istore_n 3, 1) := by decide +kernel
theorem dX1_countOpen_52 : decode cX1_countOpen 52 = .ok (.iinc 5 1, 3) := by decide +kernel
theorem dX1_countOpen_55 : decode cX1_countOpen 55 = .ok (.goto (-33), 3) := by decide +kernel
theorem dX1_countOpen_58 : decode cX1_countOpen 58 = .ok (.iinc 4 1, 3) := by decide +kernel
theorem dX1_countOpen_61 : decode cX1_countOpen 61 = .ok (.goto (-56), 3) := by decide +kernel
theorem dX1_countOpen_64 : decode cX1_countOpen 64 = .ok (.iconst 3, 1) := by decide +kernel
theorem dX1_countOpen_65 : decode cX1_countOpen 65 = .ok (.istore 4, 2) := by decide +kernel
theorem dX1_countOpen_67 : decode cX1_countOpen 67 = .ok (.iload 4, 2) := by decide +kernel
theorem dX1_countOpen_69 : decode cX1_countOpen 69 = .ok (.iconst 4, 1) := by decide +kernel
theorem dX1_countOpen_70 : decode cX1_countOpen 70 = .ok (.if_icmp .gt 32, 3) := by decide +kernel
theorem dX1_countOpen_73 : decode cX1_countOpen 73 = .ok (.iload_n 3, 1) := by decide +kernel
theorem dX1_countOpen_74 : decode cX1_countOpen 74 = .ok (.aload_n 0, 1) := by decide +kernel
theorem dX1_countOpen_75 : decode cX1_countOpen 75 = .ok (.aload_n 1, 1) := by decide +kernel
theorem dX1_countOpen_76 : decode cX1_countOpen 76 = .ok (.iload_n 2, 1) := by decide +kernel
theorem dX1_countOpen_77 : decode cX1_countOpen 77 = .ok (.iconst 0, 1) := by decide +kernel
theorem dX1_countOpen_78 : decode cX1_countOpen 78 = .ok (.iload 4, 2) := by decide +kernel
theorem dX1_countOpen_80 : decode cX1_countOpen 80 = .ok (.invokevirtual 76, 3) := by decide +kernel
theorem dX1_countOpen_83 : decode cX1_countOpen 83 = .ok (.getfield 80, 3) := by decide +kernel
theorem dX1_countOpen_86 : decode cX1_countOpen 86 = .ok (.ifCond .le 7, 3) := by decide +kernel
theorem dX1_countOpen_89 : decode cX1_countOpen 89 = .ok (.iconst 1, 1) := by decide +kernel
theorem dX1_countOpen_90 : decode cX1_countOpen 90 = .ok (.goto 4, 3) := by decide +kernel
theorem dX1_countOpen_93 : decode cX1_countOpen 93 = .ok (.iconst 0, 1) := by decide +kernel
theorem dX1_countOpen_94 : decode cX1_countOpen 94 = .ok (.iadd, 1) := by decide +kernel
theorem dX1_countOpen_95 : decode cX1_countOpen 95 = .ok (.istore_n 3, 1) := by decide +kernel
theorem dX1_countOpen_96 : decode cX1_countOpen 96 = .ok (.iinc 4 1, 3) := by decide +kernel
theorem dX1_countOpen_99 : decode cX1_countOpen 99 = .ok (.goto (-32), 3) := by decide +kernel
theorem dX1_countOpen_102 : decode cX1_countOpen 102 = .ok (.iload_n 3, 1) := by decide +kernel
theorem dX1_countOpen_103 : decode cX1_countOpen 103 = .ok (.ireturn, 1) := by decide +kernel
theorem okX1_countOpen_67 {E : Ev} {X : Cx} {S : Sh} {Z : Option Nat} {Q : Int32 → Hp → Prop} {a0 : Nat} {a1 : Nat} {x2 : Int32} (O : Ok E X yX1_countOpen cX1_countOpen 6 (some .int) 7 170 0 0 (qI S Z Q)) : ∀ (n : Nat) (h : Hp) (x3 : Int32) (x4 : Int32), wX1_countOpen_67 S a0 a1 x2 Q n h x3 x4 → G E X 0 0 S Z h 67 [some (vr a0), some (vr a1), some (vi x2), some (vi x3), some (vi x4), none] [] := by
  intro n
  induction n with
  | zero => intro h x3 x4 hw; exact hw.elim
  | succ n hB67 =>
    intro h x3 x4 hw
    have hw : wX1_countOpen_67b S a0 a1 x2 Q (wX1_countOpen_67 S a0 a1 x2 Q n) h x3 x4 := hw
    unfold wX1_countOpen_67b at hw
    refine g_iload O dX1_countOpen_67 rfl ?_
    refine g_iconst O dX1_countOpen_69 kv_4 ?_
    refine g_icmp_gt (tgt := 102) O dX1_countOpen_70 rfl (fun q70 => ?_) (fun q70 => ?_)
    · have hw := hw.1 q70
      refine g_iload_n O dX1_countOpen_102 rfl ?_
      exact g_ireturn O dX1_countOpen_103 ⟨rfl, rfl, _, rfl, hw⟩
    · have hw := hw.2 q70
      refine g_iload_n O dX1_countOpen_73 rfl ?_
      refine g_aload_n O dX1_countOpen_74 rfl ?_
      refine g_aload_n O dX1_countOpen_75 rfl ?_
      refine g_iload_n O dX1_countOpen_76 rfl ?_
      refine g_iconst O dX1_countOpen_77 kv_0 ?_
      refine g_iload O dX1_countOpen_78 rfl ?_
      obtain ⟨c80, hw⟩ := hw
      refine g_callV (As := [vr a1, vi x2, vi (0 : Int32), vi x4]) (rest := [vi x3]) O ci_1 rfl dX1_countOpen_80 ml_X1_76 im_yX1_verdictOn se_yX1_verdictOn ini_X1 co_yX1_verdictOn yo_yX1_verdictOn c80 rfl rfl (Nat.le_of_ble_eq_true rfl) ⟨by decide, by decide, by decide, by decide⟩ (okX1_verdictOn hw) (k_R fun r80 h80 hw => ?_)
      obtain ⟨c83, hw⟩ := hw
      refine gf_X9_failing O dX1_countOpen_83 fl_X1_80 c83 ?_
      refine g_if_le (tgt := 93) O dX1_countOpen_86 rfl (fun q86 => ?_) (fun q86 => ?_)
      · have hw := hw.1 q86
        refine g_iconst O dX1_countOpen_93 kv_0 ?_
        refine g_iadd O dX1_countOpen_94 ?_
        refine g_istore_n (lc' := [some (vr a0), some (vr a1), some (vi x2), some (vi (x3 + (0 : Int32))), some (vi x4), none]) O dX1_countOpen_95 rfl (Nat.le_of_ble_eq_true rfl) rfl ?_
        refine g_iinc (lc' := [some (vr a0), some (vr a1), some (vi x2), some (vi (x3 + (0 : Int32))), some (vi (x4 + (1 : Int32))), none]) O dX1_countOpen_96 rfl kv_1 rfl rfl ?_
        refine g_goto (tgt := 67) O dX1_countOpen_99 rfl ?_
        exact hB67 _ _ _ hw
      · have hw := hw.2 q86
        refine g_iconst O dX1_countOpen_89 kv_1 ?_
        refine g_goto (tgt := 94) O dX1_countOpen_90 rfl ?_
        refine g_iadd O dX1_countOpen_94 ?_
        refine g_istore_n (lc' := [some (vr a0), some (vr a1), some (vi x2), some (vi (x3 + (1 : Int32))), some (vi x4), none]) O dX1_countOpen_95 rfl (Nat.le_of_ble_eq_true rfl) rfl ?_
        refine g_iinc (lc' := [some (vr a0), some (vr a1), some (vi x2), some (vi (x3 + (1 : Int32))), some (vi (x4 + (1 : Int32))), none]) O dX1_countOpen_96 rfl kv_1 rfl rfl ?_
        refine g_goto (tgt := 67) O dX1_countOpen_99 rfl ?_
        exact hB67 _ _ _ hw
theorem okX1_countOpen_j64 {E : Ev} {X : Cx} {S : Sh} {Z : Option Nat} {Q : Int32 → Hp → Prop} {h : Hp} {a0 : Nat} {a1 : Nat} {x2 : Int32} {x3 : Int32} (O : Ok E X yX1_countOpen cX1_countOpen 6 (some .int) 7 170 0 0 (qI S Z Q)) (hw : wX1_countOpen_j64 S h a0 a1 x2 x3 Q) : G E X 0 0 S Z h 64 [some (vr a0), some (vr a1), some (vi x2), some (vi x3), none, none] [] := by
  unfold wX1_countOpen_j64 at hw
  refine g_iconst O dX1_countOpen_64 kv_3 ?_
  refine g_istore (lc' := [some (vr a0), some (vr a1), some (vi x2), some (vi x3), some (vi (3 : Int32)), none]) O dX1_countOpen_65 rfl (Nat.le_of_ble_eq_true rfl) rfl ?_
  obtain ⟨n67, hw⟩ := hw
  exact okX1_countOpen_67 O n67 _ _ _ hw
theorem okX1_countOpen_22 {E : Ev} {X : Cx} {S : Sh} {Z : Option Nat} {Q : Int32 → Hp → Prop} {B5 : Hp → Int32 → Int32 → Prop} {a0 : Nat} {a1 : Nat} {x2 : Int32} {x4 : Int32} (O : Ok E X yX1_countOpen cX1_countOpen 6 (some .int) 7 170 0 0 (qI S Z Q)) (hB5 : ∀ (h : Hp) (x3 : Int32) (x4 : Int32), B5 h x3 x4 → G E X 0 0 S Z h 5 [some (vr a0), some (vr a1), some (vi x2), some (vi x3), some (vi x4), none] []) : ∀ (n : Nat) (h : Hp) (x3 : Int32) (x5 : Int32), wX1_countOpen_22 S B5 a0 a1 x2 x4 Q n h x3 x5 → G E X 0 0 S Z h 22 [some (vr a0), some (vr a1), some (vi x2), some (vi x3), some (vi x4), some (vi x5)] [] := by
  intro n
  induction n with
  | zero => intro h x3 x5 hw; exact hw.elim
  | succ n hB22 =>
    intro h x3 x5 hw
    have hw : wX1_countOpen_22b S B5 a0 a1 x2 x4 Q (wX1_countOpen_22 S B5 a0 a1 x2 x4 Q n) h x3 x5 := hw
    unfold wX1_countOpen_22b at hw
    refine g_iload O dX1_countOpen_22 rfl ?_
    refine g_iconst O dX1_countOpen_24 kv_3 ?_
    refine g_icmp_ge (tgt := 58) O dX1_countOpen_25 rfl (fun q25 => ?_) (fun q25 => ?_)
    · have hw := hw.1 q25
      refine g_iinc (lc' := [some (vr a0), some (vr a1), some (vi x2), some (vi x3), some (vi (x4 + (1 : Int32))), some (vi x5)]) O dX1_countOpen_58 rfl kv_1 rfl rfl ?_
      refine g_goto (tgt := 5) O dX1_countOpen_61 rfl ?_
      refine g_mask [true, true, true, true, true, false] rfl rfl ?_
      exact hB5 _ _ _ hw
    · have hw := hw.2 q25
      refine g_iload_n O dX1_countOpen_28 rfl ?_
      refine g_aload_n O dX1_countOpen_29 rfl ?_
      refine g_aload_n O dX1_countOpen_30 rfl ?_
      refine g_iload_n O dX1_countOpen_31 rfl ?_
      refine g_iload O dX1_countOpen_32 rfl ?_
      refine g_iload O dX1_countOpen_34 rfl ?_
      obtain ⟨c36, hw⟩ := hw
      refine g_callV (As := [vr a1, vi x2, vi x4, vi x5]) (rest := [vi x3]) O ci_1 rfl dX1_countOpen_36 ml_X1_76 im_yX1_verdictOn se_yX1_verdictOn ini_X1 co_yX1_verdictOn yo_yX1_verdictOn c36 rfl rfl (Nat.le_of_ble_eq_true rfl) ⟨by decide, by decide, by decide, by decide⟩ (okX1_verdictOn hw) (k_R fun r36 h36 hw => ?_)
      obtain ⟨c39, hw⟩ := hw
      refine gf_X9_failing O dX1_countOpen_39 fl_X1_80 c39 ?_
      refine g_if_le (tgt := 49) O dX1_countOpen_42 rfl (fun q42 => ?_) (fun q42 => ?_)
      · have hw := hw.1 q42
        refine g_iconst O dX1_countOpen_49 kv_0 ?_
        refine g_iadd O dX1_countOpen_50 ?_
        refine g_istore_n (lc' := [some (vr a0), some (vr a1), some (vi x2), some (vi (x3 + (0 : Int32))), some (vi x4), some (vi x5)]) O dX1_countOpen_51 rfl (Nat.le_of_ble_eq_true rfl) rfl ?_
        refine g_iinc (lc' := [some (vr a0), some (vr a1), some (vi x2), some (vi (x3 + (0 : Int32))), some (vi x4), some (vi (x5 + (1 : Int32)))]) O dX1_countOpen_52 rfl kv_1 rfl rfl ?_
        refine g_goto (tgt := 22) O dX1_countOpen_55 rfl ?_
        exact hB22 _ _ _ hw
      · have hw := hw.2 q42
        refine g_iconst O dX1_countOpen_45 kv_1 ?_
        refine g_goto (tgt := 50) O dX1_countOpen_46 rfl ?_
        refine g_iadd O dX1_countOpen_50 ?_
        refine g_istore_n (lc' := [some (vr a0), some (vr a1), some (vi x2), some (vi (x3 + (1 : Int32))), some (vi x4), some (vi x5)]) O dX1_countOpen_51 rfl (Nat.le_of_ble_eq_true rfl) rfl ?_
        refine g_iinc (lc' := [some (vr a0), some (vr a1), some (vi x2), some (vi (x3 + (1 : Int32))), some (vi x4), some (vi (x5 + (1 : Int32)))]) O dX1_countOpen_52 rfl kv_1 rfl rfl ?_
        refine g_goto (tgt := 22) O dX1_countOpen_55 rfl ?_
        exact hB22 _ _ _ hw
theorem okX1_countOpen_5 {E : Ev} {X : Cx} {S : Sh} {Z : Option Nat} {Q : Int32 → Hp → Prop} {a0 : Nat} {a1 : Nat} {x2 : Int32} (O : Ok E X yX1_countOpen cX1_countOpen 6 (some .int) 7 170 0 0 (qI S Z Q)) : ∀ (n : Nat) (h : Hp) (x3 : Int32) (x4 : Int32), wX1_countOpen_5 S a0 a1 x2 Q n h x3 x4 → G E X 0 0 S Z h 5 [some (vr a0), some (vr a1), some (vi x2), some (vi x3), some (vi x4), none] [] := by
  intro n
  induction n with
  | zero => intro h x3 x4 hw; exact hw.elim
  | succ n hB5 =>
    intro h x3 x4 hw
    have hw : wX1_countOpen_5b S a0 a1 x2 Q (wX1_countOpen_5 S a0 a1 x2 Q n) h x3 x4 := hw
    unfold wX1_countOpen_5b at hw
    refine g_iload O dX1_countOpen_5 rfl ?_
    refine g_aload_n O dX1_countOpen_7 rfl ?_
    obtain ⟨c8, hw⟩ := hw
    refine gf_X3_machines O dX1_countOpen_8 fl_X1_26 c8 ?_
    refine g_iload_n O dX1_countOpen_11 rfl ?_
    obtain ⟨c12, hw⟩ := hw
    refine g_aaload (t := 1) (C := "FinerSteps$Machine") O rfl dX1_countOpen_12 c12.1 c12.2 ?_
    obtain ⟨c13, hw⟩ := hw
    refine gf_X2_events O dX1_countOpen_13 fl_X1_73 c13 ?_
    refine g_icmp_ge (tgt := 64) O dX1_countOpen_16 rfl (fun q16 => ?_) (fun q16 => ?_)
    · have hw := hw.1 q16
      refine g_mask [true, true, true, true, false, false] rfl rfl ?_
      exact okX1_countOpen_j64 O hw
    · have hw := hw.2 q16
      refine g_iconst O dX1_countOpen_19 kv_0 ?_
      refine g_istore (lc' := [some (vr a0), some (vr a1), some (vi x2), some (vi x3), some (vi x4), some (vi (0 : Int32))]) O dX1_countOpen_20 rfl (Nat.le_of_ble_eq_true rfl) rfl ?_
      obtain ⟨n22, hw⟩ := hw
      exact okX1_countOpen_22 O hB5 n22 _ _ _ hw
theorem okX1_countOpen {E : Ev} {S : Sh} {Z : Option Nat} {Q : Int32 → Hp → Prop} {h : Hp} {a0 : Nat} {a1 : Nat} {x2 : Int32} (hw : wX1_countOpen S h a0 a1 x2 Q) : Ct E yX1_countOpen cX1_countOpen 6 (some .int) 7 170 0 0 S Z h [vr a0, vr a1, vi x2] (qI S Z Q) := by
  refine Ct.of (by decide) (lc := [some (vr a0), some (vr a1), some (vi x2), none, none, none]) (Nat.le_of_ble_eq_true rfl) rfl (fun X O => ?_)
  unfold wX1_countOpen at hw
  refine g_iconst O dX1_countOpen_0 kv_0 ?_
  refine g_istore_n (lc' := [some (vr a0), some (vr a1), some (vi x2), some (vi (0 : Int32)), none, none]) O dX1_countOpen_1 rfl (Nat.le_of_ble_eq_true rfl) rfl ?_
  refine g_iconst O dX1_countOpen_2 kv_0 ?_
  refine g_istore (lc' := [some (vr a0), some (vr a1), some (vi x2), some (vi (0 : Int32)), some (vi (0 : Int32)), none]) O dX1_countOpen_3 rfl (Nat.le_of_ble_eq_true rfl) rfl ?_
  obtain ⟨n5, hw⟩ := hw
  exact okX1_countOpen_5 O n5 _ _ _ hw
theorem dX7_init_0 : decode cX7_init 0 = .ok (.aload_n 0, 1) := by decide +kernel
theorem dX7_init_1 : decode cX7_init 1 = .ok (.invokespecial 3, 3) := by decide +kernel
theorem dX7_init_4 : decode cX7_init 4 = .ok (.return_, 1) := by decide +kernel
theorem okX7_init {E : Ev} {S : Sh} {Z : Option Nat} {Q : Hp → Prop} {h : Hp} {a0 : Nat} (hw : wX7_init S h a0 Q) : Ct E yX7_init cX7_init 1 none 1 24 0 0 S Z h [vr a0] (qV S Z Q) := by
  refine Ct.of (by decide) (lc := [some (vr a0)]) (Nat.le_of_ble_eq_true rfl) rfl (fun X O => ?_)
  unfold wX7_init at hw
  refine g_aload_n O dX7_init_0 rfl ?_
  obtain ⟨c1, hw⟩ := hw
  refine g_objInit O dX7_init_1 ml_X7_3 c1 rfl rfl (Nat.le_of_ble_eq_true rfl) ⟨by decide, by decide⟩ ?_
  exact g_return O dX7_init_4 ⟨rfl, rfl, rfl, hw⟩
theorem dX1_init_0 : decode cX1_init 0 = .ok (.aload_n 0, 1) := by decide +kernel
theorem dX1_init_1 : decode cX1_init 1 = .ok (.invokespecial 3, 3) := by decide +kernel
theorem dX1_init_4 : decode cX1_init 4 = .ok (.aload_n 0, 1) := by decide +kernel
theorem dX1_init_5 : decode cX1_init 5 = .ok (.new 9, 3) := by decide +kernel
theorem dX1_init_8 : decode cX1_init 8 = .ok (.dup, 1) := by decide +kernel
theorem dX1_init_9 : decode cX1_init 9 = .ok (.invokespecial 11, 3) := by decide +kernel
theorem dX1_init_12 : decode cX1_init 12 = .ok (.putfield 12, 3) := by decide +kernel
theorem dX1_init_15 : decode cX1_init 15 = .ok (.return_, 1) := by decide +kernel
theorem okX1_init {E : Ev} {Q : Sh → Nat → Hp → Prop} {S : Sh} {z : Nat} {h : Hp} {a0 : Nat} (hw : wX1_init S z h a0 Q) : Ct E yX1_init cX1_init 1 none 2 44 1 2 S (some z) h [vr a0] (qA Q) := by
  refine Ct.of (by decide) (lc := [some (vr a0)]) (Nat.le_of_ble_eq_true rfl) rfl (fun X O => ?_)
  unfold wX1_init at hw
  refine g_aload_n O dX1_init_0 rfl ?_
  obtain ⟨c1, hw⟩ := hw
  refine g_objInit O dX1_init_1 ml_X1_3 c1 rfl rfl (Nat.le_of_ble_eq_true rfl) ⟨by decide, by decide⟩ ?_
  refine g_aload_n O dX1_init_4 rfl ?_
  obtain ⟨c5a, hw⟩ := hw
  obtain ⟨c5b, c5c, hw⟩ := hw
  refine g_new O ci_7 fd_X7 dX1_init_5 cl_X1_9 ins_X7 ini_X7 c5a c5b c5c ?_
  refine g_dup O dX1_init_8 rfl ?_
  obtain ⟨c9m, hw⟩ := hw
  obtain ⟨c9n, hw⟩ := hw
  obtain ⟨c9, hw⟩ := hw
  refine g_callIN (As := []) (rest := [vr z, vr a0]) O rfl dX1_init_9 xw_X1_11 im_yX7_init ini_X7 co_yX7_init yo_yX7_init c9 rfl rfl (Nat.le_of_ble_eq_true rfl) ⟨by decide, by decide, c9m, c9n⟩ (okX7_init hw) (k_V fun h9 hw => ?_)
  obtain ⟨c12, hw⟩ := hw
  refine pf_X1_image O rfl rfl dX1_init_12 fl_X1_12 c12 ?_
  obtain ⟨c15a, c15b, hw⟩ := hw
  exact g_widen c15a c15b (g_return O dX1_init_15 ⟨_, rfl, rfl, hw⟩)
theorem dX2_clear_0 : decode cX2_clear 0 = .ok (.aload_n 0, 1) := by decide +kernel
theorem dX2_clear_1 : decode cX2_clear 1 = .ok (.lload_n 1, 1) := by decide +kernel
theorem dX2_clear_2 : decode cX2_clear 2 = .ok (.putfield 56, 3) := by decide +kernel
theorem dX2_clear_5 : decode cX2_clear 5 = .ok (.aload_n 0, 1) := by decide +kernel
theorem dX2_clear_6 : decode cX2_clear 6 = .ok (.iconst 0, 1) := by decide +kernel
theorem dX2_clear_7 : decode cX2_clear 7 = .ok (.putfield 60, 3) := by decide +kernel
theorem dX2_clear_10 : decode cX2_clear 10 = .ok (.aload_n 0, 1) := by decide +kernel
theorem dX2_clear_11 : decode cX2_clear 11 = .ok (.iconst 1, 1) := by decide +kernel
theorem dX2_clear_12 : decode cX2_clear 12 = .ok (.putfield 64, 3) := by decide +kernel
theorem dX2_clear_15 : decode cX2_clear 15 = .ok (.aload_n 0, 1) := by decide +kernel
theorem dX2_clear_16 : decode cX2_clear 16 = .ok (.iconst 0, 1) := by decide +kernel
theorem dX2_clear_17 : decode cX2_clear 17 = .ok (.putfield 67, 3) := by decide +kernel
theorem dX2_clear_20 : decode cX2_clear 20 = .ok (.aload_n 0, 1) := by decide +kernel
theorem dX2_clear_21 : decode cX2_clear 21 = .ok (.iconst 0, 1) := by decide +kernel
theorem dX2_clear_22 : decode cX2_clear 22 = .ok (.putfield 70, 3) := by decide +kernel
theorem dX2_clear_25 : decode cX2_clear 25 = .ok (.aload_n 0, 1) := by decide +kernel
theorem dX2_clear_26 : decode cX2_clear 26 = .ok (.iconst (-1), 1) := by decide +kernel
theorem dX2_clear_27 : decode cX2_clear 27 = .ok (.putfield 73, 3) := by decide +kernel
theorem dX2_clear_30 : decode cX2_clear 30 = .ok (.return_, 1) := by decide +kernel
theorem okX2_clear {E : Ev} {S : Sh} {Z : Option Nat} {Q : Hp → Prop} {h : Hp} {a0 : Nat} {j1 : Int64} (hw : wX2_clear S h a0 j1 Q) : Ct E yX2_clear cX2_clear 3 none 1 24 0 0 S Z h [vr a0, vj j1] (qV S Z Q) := by
  refine Ct.of (by decide) (lc := [some (vr a0), some (vj j1), none]) (Nat.le_of_ble_eq_true rfl) rfl (fun X O => ?_)
  unfold wX2_clear at hw
  refine g_aload_n O dX2_clear_0 rfl ?_
  refine g_lload_n O dX2_clear_1 rfl ?_
  obtain ⟨c2, hw⟩ := hw
  refine pf_X2_name O dX2_clear_2 fl_X2_56 c2 ?_
  refine g_nmH (fun h2 e2 => ?_)
  have hw := hw h2 e2
  refine g_aload_n O dX2_clear_5 rfl ?_
  refine g_iconst O dX2_clear_6 kv_0 ?_
  refine pf_X2_variables O dX2_clear_7 fl_X2_60 c2 ?_
  refine g_nmH (fun h7 e7 => ?_)
  have hw := hw h7 e7
  refine g_aload_n O dX2_clear_10 rfl ?_
  refine g_iconst O dX2_clear_11 kv_1 ?_
  refine pf_X2_states O dX2_clear_12 fl_X2_64 c2 ?_
  refine g_nmH (fun h12 e12 => ?_)
  have hw := hw h12 e12
  refine g_aload_n O dX2_clear_15 rfl ?_
  refine g_iconst O dX2_clear_16 kv_0 ?_
  refine pf_X2_laws O dX2_clear_17 fl_X2_67 c2 ?_
  refine g_nmH (fun h17 e17 => ?_)
  have hw := hw h17 e17
  refine g_aload_n O dX2_clear_20 rfl ?_
  refine g_iconst O dX2_clear_21 kv_0 ?_
  refine pf_X2_events O dX2_clear_22 fl_X2_70 c2 ?_
  refine g_nmH (fun h22 e22 => ?_)
  have hw := hw h22 e22
  refine g_aload_n O dX2_clear_25 rfl ?_
  refine g_iconst O dX2_clear_26 kv_m1 ?_
  refine pf_X2_variantCode O dX2_clear_27 fl_X2_73 c2 ?_
  exact g_return O dX2_clear_30 ⟨rfl, rfl, rfl, hw⟩
theorem dX2_countAside_0 : decode cX2_countAside 0 = .ok (.iconst 0, 1) := by decide +kernel
theorem dX2_countAside_1 : decode cX2_countAside 1 = .ok (.istore_n 1, 1) := by decide +kernel
theorem dX2_countAside_2 : decode cX2_countAside 2 = .ok (.iconst 0, 1) := by decide +kernel
theorem dX2_countAside_3 : decode cX2_countAside 3 = .ok (.istore_n 2, 1) := by decide +kernel
theorem dX2_countAside_4 : decode cX2_countAside 4 = .ok (.iload_n 2, 1) := by decide +kernel
theorem dX2_countAside_5 : decode cX2_countAside 5 = .ok (.aload_n 0, 1) := by decide +kernel
theorem dX2_countAside_6 : decode cX2_countAside 6 = .ok (.getfield 70, 3) := by decide +kernel
theorem dX2_countAside_9 : decode cX2_countAside 9 = .ok (.if_icmp .ge 24, 3) := by decide +kernel
theorem dX2_countAside_12 : decode cX2_countAside 12 = .ok (.aload_n 0, 1) := by decide +kernel
theorem dX2_countAside_13 : decode cX2_countAside 13 = .ok (.getfield 30, 3) := by decide +kernel
theorem dX2_countAside_16 : decode cX2_countAside 16 = .ok (.iload_n 2, 1) := by decide +kernel
theorem dX2_countAside_17 : decode cX2_countAside 17 = .ok (.aaload, 1) := by decide +kernel
theorem dX2_countAside_18 : decode cX2_countAside 18 = .ok (.getfield 102, 3) := by decide +kernel
theorem dX2_countAside_21 : decode cX2_countAside 21 = .ok (.ifCond .eq 6, 3) := by decide +kernel
theorem dX2_countAside_24 : decode cX2_countAside 24 = .ok (.iinc 1 1, 3) := by decide +kernel
theorem dX2_countAside_27 : decode cX2_countAside 27 = .ok (.iinc 2 1, 3) := by decide +kernel
theorem dX2_countAside_30 : decode cX2_countAside 30 = .ok (.goto (-26), 3) := by decide +kernel
theorem dX2_countAside_33 : decode cX2_countAside 33 = .ok (.iload_n 1, 1) := by decide +kernel
theorem dX2_countAside_34 : decode cX2_countAside 34 = .ok (.ireturn, 1) := by decide +kernel
theorem okX2_countAside_4 {E : Ev} {X : Cx} {S : Sh} {Z : Option Nat} {Q : Int32 → Hp → Prop} {a0 : Nat} (O : Ok E X yX2_countAside cX2_countAside 3 (some .int) 1 24 0 0 (qI S Z Q)) : ∀ (n : Nat) (h : Hp) (x1 : Int32) (x2 : Int32), wX2_countAside_4 S a0 Q n h x1 x2 → G E X 0 0 S Z h 4 [some (vr a0), some (vi x1), some (vi x2)] [] := by
  intro n
  induction n with
  | zero => intro h x1 x2 hw; exact hw.elim
  | succ n hB4 =>
    intro h x1 x2 hw
    have hw : wX2_countAside_4b S a0 Q (wX2_countAside_4 S a0 Q n) h x1 x2 := hw
    unfold wX2_countAside_4b at hw
    refine g_iload_n O dX2_countAside_4 rfl ?_
    refine g_aload_n O dX2_countAside_5 rfl ?_
    obtain ⟨c6, hw⟩ := hw
    refine gf_X2_events O dX2_countAside_6 fl_X2_70 c6 ?_
    refine g_icmp_ge (tgt := 33) O dX2_countAside_9 rfl (fun q9 => ?_) (fun q9 => ?_)
    · have hw := hw.1 q9
      refine g_iload_n O dX2_countAside_33 rfl ?_
      exact g_ireturn O dX2_countAside_34 ⟨rfl, rfl, _, rfl, hw⟩
    · have hw := hw.2 q9
      refine g_aload_n O dX2_countAside_12 rfl ?_
      refine gf_X2_event O dX2_countAside_13 fl_X2_30 c6 ?_
      refine g_iload_n O dX2_countAside_16 rfl ?_
      obtain ⟨c17, hw⟩ := hw
      refine g_aaload (t := 0) (C := "FinerSteps$Event") O rfl dX2_countAside_17 c17.1 c17.2 ?_
      obtain ⟨c18, hw⟩ := hw
      refine gf_X0_aside O dX2_countAside_18 fl_X2_102 c18 ?_
      refine g_if_eq (tgt := 27) O dX2_countAside_21 rfl (fun q21 => ?_) (fun q21 => ?_)
      · have hw := hw.1 q21
        refine g_iinc (lc' := [some (vr a0), some (vi x1), some (vi (x2 + (1 : Int32)))]) O dX2_countAside_27 rfl kv_1 rfl rfl ?_
        refine g_goto (tgt := 4) O dX2_countAside_30 rfl ?_
        exact hB4 _ _ _ hw
      · have hw := hw.2 q21
        refine g_iinc (lc' := [some (vr a0), some (vi (x1 + (1 : Int32))), some (vi x2)]) O dX2_countAside_24 rfl kv_1 rfl rfl ?_
        refine g_iinc (lc' := [some (vr a0), some (vi (x1 + (1 : Int32))), some (vi (x2 + (1 : Int32)))]) O dX2_countAside_27 rfl kv_1 rfl rfl ?_
        refine g_goto (tgt := 4) O dX2_countAside_30 rfl ?_
        exact hB4 _ _ _ hw
theorem okX2_countAside {E : Ev} {S : Sh} {Z : Option Nat} {Q : Int32 → Hp → Prop} {h : Hp} {a0 : Nat} (hw : wX2_countAside S h a0 Q) : Ct E yX2_countAside cX2_countAside 3 (some .int) 1 24 0 0 S Z h [vr a0] (qI S Z Q) := by
  refine Ct.of (by decide) (lc := [some (vr a0), none, none]) (Nat.le_of_ble_eq_true rfl) rfl (fun X O => ?_)
  unfold wX2_countAside at hw
  refine g_iconst O dX2_countAside_0 kv_0 ?_
  refine g_istore_n (lc' := [some (vr a0), some (vi (0 : Int32)), none]) O dX2_countAside_1 rfl (Nat.le_of_ble_eq_true rfl) rfl ?_
  refine g_iconst O dX2_countAside_2 kv_0 ?_
  refine g_istore_n (lc' := [some (vr a0), some (vi (0 : Int32)), some (vi (0 : Int32))]) O dX2_countAside_3 rfl (Nat.le_of_ble_eq_true rfl) rfl ?_
  obtain ⟨n4, hw⟩ := hw
  exact okX2_countAside_4 O n4 _ _ _ hw
theorem dX2_countNew_0 : decode cX2_countNew 0 = .ok (.iconst 0, 1) := by decide +kernel
theorem dX2_countNew_1 : decode cX2_countNew 1 = .ok (.istore_n 1, 1) := by decide +kernel
theorem dX2_countNew_2 : decode cX2_countNew 2 = .ok (.iconst 0, 1) := by decide +kernel
theorem dX2_countNew_3 : decode cX2_countNew 3 = .ok (.istore_n 2, 1) := by decide +kernel
theorem dX2_countNew_4 : decode cX2_countNew 4 = .ok (.iload_n 2, 1) := by decide +kernel
theorem dX2_countNew_5 : decode cX2_countNew 5 = .ok (.aload_n 0, 1) := by decide +kernel
theorem dX2_countNew_6 : decode cX2_countNew 6 = .ok (.getfield 70, 3) := by decide +kernel
theorem dX2_countNew_9 : decode cX2_countNew 9 = .ok (.if_icmp .ge 26, 3) := by decide +kernel
theorem dX2_countNew_12 : decode cX2_countNew 12 = .ok (.aload_n 0, 1) := by decide +kernel
theorem dX2_countNew_13 : decode cX2_countNew 13 = .ok (.getfield 30, 3) := by decide +kernel
theorem dX2_countNew_16 : decode cX2_countNew 16 = .ok (.iload_n 2, 1) := by decide +kernel
theorem dX2_countNew_17 : decode cX2_countNew 17 = .ok (.aaload, 1) := by decide +kernel
theorem dX2_countNew_18 : decode cX2_countNew 18 = .ok (.getfield 99, 3) := by decide +kernel
theorem dX2_countNew_21 : decode cX2_countNew 21 = .ok (.bipush (-2), 2) := by decide +kernel
theorem dX2_countNew_23 : decode cX2_countNew 23 = .ok (.if_icmp .ne 6, 3) := by decide +kernel
theorem dX2_countNew_26 : decode cX2_countNew 26 = .ok (.iinc 1 1, 3) := by decide +kernel
theorem dX2_countNew_29 : decode cX2_countNew 29 = .ok (.iinc 2 1, 3) := by decide +kernel
theorem dX2_countNew_32 : decode cX2_countNew 32 = .ok (.goto (-28), 3) := by decide +kernel
theorem dX2_countNew_35 : decode cX2_countNew 35 = .ok (.iload_n 1, 1) := by decide +kernel
theorem dX2_countNew_36 : decode cX2_countNew 36 = .ok (.ireturn, 1) := by decide +kernel
theorem okX2_countNew_4 {E : Ev} {X : Cx} {S : Sh} {Z : Option Nat} {Q : Int32 → Hp → Prop} {a0 : Nat} (O : Ok E X yX2_countNew cX2_countNew 3 (some .int) 1 24 0 0 (qI S Z Q)) : ∀ (n : Nat) (h : Hp) (x1 : Int32) (x2 : Int32), wX2_countNew_4 S a0 Q n h x1 x2 → G E X 0 0 S Z h 4 [some (vr a0), some (vi x1), some (vi x2)] [] := by
  intro n
  induction n with
  | zero => intro h x1 x2 hw; exact hw.elim
  | succ n hB4 =>
    intro h x1 x2 hw
    have hw : wX2_countNew_4b S a0 Q (wX2_countNew_4 S a0 Q n) h x1 x2 := hw
    unfold wX2_countNew_4b at hw
    refine g_iload_n O dX2_countNew_4 rfl ?_
    refine g_aload_n O dX2_countNew_5 rfl ?_
    obtain ⟨c6, hw⟩ := hw
    refine gf_X2_events O dX2_countNew_6 fl_X2_70 c6 ?_
    refine g_icmp_ge (tgt := 35) O dX2_countNew_9 rfl (fun q9 => ?_) (fun q9 => ?_)
    · have hw := hw.1 q9
      refine g_iload_n O dX2_countNew_35 rfl ?_
      exact g_ireturn O dX2_countNew_36 ⟨rfl, rfl, _, rfl, hw⟩
    · have hw := hw.2 q9
      refine g_aload_n O dX2_countNew_12 rfl ?_
      refine gf_X2_event O dX2_countNew_13 fl_X2_30 c6 ?_
      refine g_iload_n O dX2_countNew_16 rfl ?_
      obtain ⟨c17, hw⟩ := hw
      refine g_aaload (t := 0) (C := "FinerSteps$Event") O rfl dX2_countNew_17 c17.1 c17.2 ?_
      obtain ⟨c18, hw⟩ := hw
      refine gf_X0_of O dX2_countNew_18 fl_X2_99 c18 ?_
      refine g_bipush O dX2_countNew_21 kb_m2 ?_
      refine g_icmp_ne (tgt := 29) O dX2_countNew_23 rfl (fun q23 => ?_) (fun q23 => ?_)
      · have hw := hw.1 q23
        refine g_iinc (lc' := [some (vr a0), some (vi x1), some (vi (x2 + (1 : Int32)))]) O dX2_countNew_29 rfl kv_1 rfl rfl ?_
        refine g_goto (tgt := 4) O dX2_countNew_32 rfl ?_
        exact hB4 _ _ _ hw
      · have hw := hw.2 q23
        refine g_iinc (lc' := [some (vr a0), some (vi (x1 + (1 : Int32))), some (vi x2)]) O dX2_countNew_26 rfl kv_1 rfl rfl ?_
        refine g_iinc (lc' := [some (vr a0), some (vi (x1 + (1 : Int32))), some (vi (x2 + (1 : Int32)))]) O dX2_countNew_29 rfl kv_1 rfl rfl ?_
        refine g_goto (tgt := 4) O dX2_countNew_32 rfl ?_
        exact hB4 _ _ _ hw
theorem okX2_countNew {E : Ev} {S : Sh} {Z : Option Nat} {Q : Int32 → Hp → Prop} {h : Hp} {a0 : Nat} (hw : wX2_countNew S h a0 Q) : Ct E yX2_countNew cX2_countNew 3 (some .int) 1 24 0 0 S Z h [vr a0] (qI S Z Q) := by
  refine Ct.of (by decide) (lc := [some (vr a0), none, none]) (Nat.le_of_ble_eq_true rfl) rfl (fun X O => ?_)
  unfold wX2_countNew at hw
  refine g_iconst O dX2_countNew_0 kv_0 ?_
  refine g_istore_n (lc' := [some (vr a0), some (vi (0 : Int32)), none]) O dX2_countNew_1 rfl (Nat.le_of_ble_eq_true rfl) rfl ?_
  refine g_iconst O dX2_countNew_2 kv_0 ?_
  refine g_istore_n (lc' := [some (vr a0), some (vi (0 : Int32)), some (vi (0 : Int32))]) O dX2_countNew_3 rfl (Nat.le_of_ble_eq_true rfl) rfl ?_
  obtain ⟨n4, hw⟩ := hw
  exact okX2_countNew_4 O n4 _ _ _ hw
theorem dX2_eventsFrom_0 : decode cX2_eventsFrom 0 = .ok (.iconst 0, 1) := by decide +kernel
theorem dX2_eventsFrom_1 : decode cX2_eventsFrom 1 = .ok (.istore_n 2, 1) := by decide +kernel
theorem dX2_eventsFrom_2 : decode cX2_eventsFrom 2 = .ok (.iconst 0, 1) := by decide +kernel
theorem dX2_eventsFrom_3 : decode cX2_eventsFrom 3 = .ok (.istore_n 3, 1) := by decide +kernel
theorem dX2_eventsFrom_4 : decode cX2_eventsFrom 4 = .ok (.iload_n 3, 1) := by decide +kernel
theorem dX2_eventsFrom_5 : decode cX2_eventsFrom 5 = .ok (.aload_n 0, 1) := by decide +kernel
theorem dX2_eventsFrom_6 : decode cX2_eventsFrom 6 = .ok (.getfield 70, 3) := by decide +kernel
theorem dX2_eventsFrom_9 : decode cX2_eventsFrom 9 = .ok (.if_icmp .ge 28, 3) := by decide +kernel
theorem dX2_eventsFrom_12 : decode cX2_eventsFrom 12 = .ok (.aload_n 0, 1) := by decide +kernel
theorem dX2_eventsFrom_13 : decode cX2_eventsFrom 13 = .ok (.getfield 30, 3) := by decide +kernel
theorem dX2_eventsFrom_16 : decode cX2_eventsFrom 16 = .ok (.iload_n 3, 1) := by decide +kernel
theorem dX2_eventsFrom_17 : decode cX2_eventsFrom 17 = .ok (.aaload, 1) := by decide +kernel
theorem dX2_eventsFrom_18 : decode cX2_eventsFrom 18 = .ok (.iload_n 1, 1) := by decide +kernel
theorem dX2_eventsFrom_19 : decode cX2_eventsFrom 19 = .ok (.invokevirtual 113, 3) := by decide +kernel
theorem dX2_eventsFrom_22 : decode cX2_eventsFrom 22 = .ok (.ifCond .eq 9, 3) := by decide +kernel
theorem dX2_eventsFrom_25 : decode cX2_eventsFrom 25 = .ok (.iload_n 2, 1) := by decide +kernel
theorem dX2_eventsFrom_26 : decode cX2_eventsFrom 26 = .ok (.iconst 1, 1) := by decide +kernel
theorem dX2_eventsFrom_27 : decode cX2_eventsFrom 27 = .ok (.iload_n 3, 1) := by decide +kernel
theorem dX2_eventsFrom_28 : decode cX2_eventsFrom 28 = .ok (.ishl, 1) := by decide +kernel
theorem dX2_eventsFrom_29 : decode cX2_eventsFrom 29 = .ok (.ior, 1) := by decide +kernel
theorem dX2_eventsFrom_30 : decode cX2_eventsFrom 30 = .ok (.istore_n 2, 1) := by decide +kernel
theorem dX2_eventsFrom_31 : decode cX2_eventsFrom 31 = .ok (.iinc 3 1, 3) := by decide +kernel
theorem dX2_eventsFrom_34 : decode cX2_eventsFrom 34 = .ok (.goto (-30), 3) := by decide +kernel
theorem dX2_eventsFrom_37 : decode cX2_eventsFrom 37 = .ok (.iload_n 2, 1) := by decide +kernel
theorem dX2_eventsFrom_38 : decode cX2_eventsFrom 38 = .ok (.ireturn, 1) := by decide +kernel
theorem okX2_eventsFrom_4 {E : Ev} {X : Cx} {S : Sh} {Z : Option Nat} {Q : Int32 → Hp → Prop} {a0 : Nat} {x1 : Int32} (O : Ok E X yX2_eventsFrom cX2_eventsFrom 4 (some .int) 2 45 0 0 (qI S Z Q)) : ∀ (n : Nat) (h : Hp) (x2 : Int32) (x3 : Int32), wX2_eventsFrom_4 S a0 x1 Q n h x2 x3 → G E X 0 0 S Z h 4 [some (vr a0), some (vi x1), some (vi x2), some (vi x3)] [] := by
  intro n
  induction n with
  | zero => intro h x2 x3 hw; exact hw.elim
  | succ n hB4 =>
    intro h x2 x3 hw
    have hw : wX2_eventsFrom_4b S a0 x1 Q (wX2_eventsFrom_4 S a0 x1 Q n) h x2 x3 := hw
    unfold wX2_eventsFrom_4b at hw
    refine g_iload_n O dX2_eventsFrom_4 rfl ?_
    refine g_aload_n O dX2_eventsFrom_5 rfl ?_
    obtain ⟨c6, hw⟩ := hw
    refine gf_X2_events O dX2_eventsFrom_6 fl_X2_70 c6 ?_
    refine g_icmp_ge (tgt := 37) O dX2_eventsFrom_9 rfl (fun q9 => ?_) (fun q9 => ?_)
    · have hw := hw.1 q9
      refine g_iload_n O dX2_eventsFrom_37 rfl ?_
      exact g_ireturn O dX2_eventsFrom_38 ⟨rfl, rfl, _, rfl, hw⟩
    · have hw := hw.2 q9
      refine g_aload_n O dX2_eventsFrom_12 rfl ?_
      refine gf_X2_event O dX2_eventsFrom_13 fl_X2_30 c6 ?_
      refine g_iload_n O dX2_eventsFrom_16 rfl ?_
      obtain ⟨c17, hw⟩ := hw
      refine g_aaload (t := 0) (C := "FinerSteps$Event") O rfl dX2_eventsFrom_17 c17.1 c17.2 ?_
      refine g_iload_n O dX2_eventsFrom_18 rfl ?_
      obtain ⟨c19, hw⟩ := hw
      refine g_callV (As := [vi x1]) (rest := []) O ci_0 rfl dX2_eventsFrom_19 ml_X2_113 im_yX0_stepsAt se_yX0_stepsAt ini_X0 co_yX0_stepsAt yo_yX0_stepsAt c19 rfl rfl (Nat.le_of_ble_eq_true rfl) ⟨by decide, by decide, by decide, by decide⟩ (okX0_stepsAt hw) (k_I fun r19 h19 hw => ?_)
      refine g_if_eq (tgt := 31) O dX2_eventsFrom_22 rfl (fun q22 => ?_) (fun q22 => ?_)
      · have hw := hw.1 q22
        refine g_iinc (lc' := [some (vr a0), some (vi x1), some (vi x2), some (vi (x3 + (1 : Int32)))]) O dX2_eventsFrom_31 rfl kv_1 rfl rfl ?_
        refine g_goto (tgt := 4) O dX2_eventsFrom_34 rfl ?_
        exact hB4 _ _ _ hw
      · have hw := hw.2 q22
        refine g_iload_n O dX2_eventsFrom_25 rfl ?_
        refine g_iconst O dX2_eventsFrom_26 kv_1 ?_
        refine g_iload_n O dX2_eventsFrom_27 rfl ?_
        refine g_ishl O dX2_eventsFrom_28 ?_
        refine g_ior O dX2_eventsFrom_29 ?_
        refine g_nmI (fun xv30 e30 => ?_)
        have hw := hw xv30 e30
        refine g_istore_n (lc' := [some (vr a0), some (vi x1), some (vi xv30), some (vi x3)]) O dX2_eventsFrom_30 rfl (Nat.le_of_ble_eq_true rfl) rfl ?_
        refine g_iinc (lc' := [some (vr a0), some (vi x1), some (vi xv30), some (vi (x3 + (1 : Int32)))]) O dX2_eventsFrom_31 rfl kv_1 rfl rfl ?_
        refine g_goto (tgt := 4) O dX2_eventsFrom_34 rfl ?_
        exact hB4 _ _ _ hw
theorem okX2_eventsFrom {E : Ev} {S : Sh} {Z : Option Nat} {Q : Int32 → Hp → Prop} {h : Hp} {a0 : Nat} {x1 : Int32} (hw : wX2_eventsFrom S h a0 x1 Q) : Ct E yX2_eventsFrom cX2_eventsFrom 4 (some .int) 2 45 0 0 S Z h [vr a0, vi x1] (qI S Z Q) := by
  refine Ct.of (by decide) (lc := [some (vr a0), some (vi x1), none, none]) (Nat.le_of_ble_eq_true rfl) rfl (fun X O => ?_)
  unfold wX2_eventsFrom at hw
  refine g_iconst O dX2_eventsFrom_0 kv_0 ?_
  refine g_istore_n (lc' := [some (vr a0), some (vi x1), some (vi (0 : Int32)), none]) O dX2_eventsFrom_1 rfl (Nat.le_of_ble_eq_true rfl) rfl ?_
  refine g_iconst O dX2_eventsFrom_2 kv_0 ?_
  refine g_istore_n (lc' := [some (vr a0), some (vi x1), some (vi (0 : Int32)), some (vi (0 : Int32))]) O dX2_eventsFrom_3 rfl (Nat.le_of_ble_eq_true rfl) rfl ?_
  obtain ⟨n4, hw⟩ := hw
  exact okX2_eventsFrom_4 O n4 _ _ _ hw
theorem dX2_hasOtherLines_0 : decode cX2_hasOtherLines 0 = .ok (.aload_n 0, 1) := by decide +kernel
theorem dX2_hasOtherLines_1 : decode cX2_hasOtherLines 1 = .ok (.getfield 67, 3) := by decide +kernel
theorem dX2_hasOtherLines_4 : decode cX2_hasOtherLines 4 = .ok (.ifCond .gt 18, 3) := by decide +kernel
theorem dX2_hasOtherLines_7 : decode cX2_hasOtherLines 7 = .ok (.aload_n 0, 1) := by decide +kernel
theorem dX2_hasOtherLines_8 : decode cX2_hasOtherLines 8 = .ok (.getfield 70, 3) := by decide +kernel
theorem dX2_hasOtherLines_11 : decode cX2_hasOtherLines 11 = .ok (.ifCond .gt 11, 3) := by decide +kernel
theorem dX2_hasOtherLines_14 : decode cX2_hasOtherLines 14 = .ok (.aload_n 0, 1) := by decide +kernel
theorem dX2_hasOtherLines_15 : decode cX2_hasOtherLines 15 = .ok (.getfield 73, 3) := by decide +kernel
theorem dX2_hasOtherLines_18 : decode cX2_hasOtherLines 18 = .ok (.iconst (-1), 1) := by decide +kernel
theorem dX2_hasOtherLines_19 : decode cX2_hasOtherLines 19 = .ok (.if_icmp .eq 7, 3) := by decide +kernel
theorem dX2_hasOtherLines_22 : decode cX2_hasOtherLines 22 = .ok (.iconst 1, 1) := by decide +kernel
theorem dX2_hasOtherLines_23 : decode cX2_hasOtherLines 23 = .ok (.goto 4, 3) := by decide +kernel
theorem dX2_hasOtherLines_26 : decode cX2_hasOtherLines 26 = .ok (.iconst 0, 1) := by decide +kernel
theorem dX2_hasOtherLines_27 : decode cX2_hasOtherLines 27 = .ok (.ireturn, 1) := by decide +kernel
theorem okX2_hasOtherLines_j22 {E : Ev} {X : Cx} {S : Sh} {Z : Option Nat} {Q : Int32 → Hp → Prop} {h : Hp} (O : Ok E X yX2_hasOtherLines cX2_hasOtherLines 1 (some .boolean) 1 24 0 0 (qI S Z Q)) (hw : wX2_hasOtherLines_j22 S h Q) : G E X 0 0 S Z h 22 [none] [] := by
  unfold wX2_hasOtherLines_j22 at hw
  refine g_iconst O dX2_hasOtherLines_22 kv_1 ?_
  refine g_goto (tgt := 27) O dX2_hasOtherLines_23 rfl ?_
  exact g_zreturn O dX2_hasOtherLines_27 (by decide) ⟨rfl, rfl, _, rfl, hw⟩
theorem okX2_hasOtherLines {E : Ev} {S : Sh} {Z : Option Nat} {Q : Int32 → Hp → Prop} {h : Hp} {a0 : Nat} (hw : wX2_hasOtherLines S h a0 Q) : Ct E yX2_hasOtherLines cX2_hasOtherLines 1 (some .boolean) 1 24 0 0 S Z h [vr a0] (qI S Z Q) := by
  refine Ct.of (by decide) (lc := [some (vr a0)]) (Nat.le_of_ble_eq_true rfl) rfl (fun X O => ?_)
  unfold wX2_hasOtherLines at hw
  refine g_aload_n O dX2_hasOtherLines_0 rfl ?_
  obtain ⟨c1, hw⟩ := hw
  refine gf_X2_laws O dX2_hasOtherLines_1 fl_X2_67 c1 ?_
  refine g_if_gt (tgt := 22) O dX2_hasOtherLines_4 rfl (fun q4 => ?_) (fun q4 => ?_)
  · have hw := hw.1 q4
    refine g_mask [false] rfl rfl ?_
    exact okX2_hasOtherLines_j22 O hw
  · have hw := hw.2 q4
    refine g_aload_n O dX2_hasOtherLines_7 rfl ?_
    refine gf_X2_events O dX2_hasOtherLines_8 fl_X2_70 c1 ?_
    refine g_if_gt (tgt := 22) O dX2_hasOtherLines_11 rfl (fun q11 => ?_) (fun q11 => ?_)
    · have hw := hw.1 q11
      refine g_mask [false] rfl rfl ?_
      exact okX2_hasOtherLines_j22 O hw
    · have hw := hw.2 q11
      refine g_aload_n O dX2_hasOtherLines_14 rfl ?_
      refine gf_X2_variantCode O dX2_hasOtherLines_15 fl_X2_73 c1 ?_
      refine g_iconst O dX2_hasOtherLines_18 kv_m1 ?_
      refine g_icmp_eq (tgt := 26) O dX2_hasOtherLines_19 rfl (fun q19 => ?_) (fun q19 => ?_)
      · have hw := hw.1 q19
        refine g_iconst O dX2_hasOtherLines_26 kv_0 ?_
        exact g_zreturn O dX2_hasOtherLines_27 (by decide) ⟨rfl, rfl, _, rfl, hw⟩
      · have hw := hw.2 q19
        refine g_mask [false] rfl rfl ?_
        exact okX2_hasOtherLines_j22 O hw
theorem dX9_init_0 : decode cX9_init 0 = .ok (.aload_n 0, 1) := by decide +kernel
theorem dX9_init_1 : decode cX9_init 1 = .ok (.invokespecial 1, 3) := by decide +kernel
theorem dX9_init_4 : decode cX9_init 4 = .ok (.return_, 1) := by decide +kernel
theorem okX9_init {E : Ev} {S : Sh} {Z : Option Nat} {Q : Hp → Prop} {h : Hp} {a0 : Nat} (hw : wX9_init S h a0 Q) : Ct E yX9_init cX9_init 1 none 1 24 0 0 S Z h [vr a0] (qV S Z Q) := by
  refine Ct.of (by decide) (lc := [some (vr a0)]) (Nat.le_of_ble_eq_true rfl) rfl (fun X O => ?_)
  unfold wX9_init at hw
  refine g_aload_n O dX9_init_0 rfl ?_
  obtain ⟨c1, hw⟩ := hw
  refine g_objInit O dX9_init_1 ml_X9_1 c1 rfl rfl (Nat.le_of_ble_eq_true rfl) ⟨by decide, by decide⟩ ?_
  exact g_return O dX9_init_4 ⟨rfl, rfl, rfl, hw⟩
