theorem dX5_isWhole_0 : decode cX5_isWhole 0 = .ok (.aload_n 0, 1) := by decide +kernel
theorem dX5_isWhole_1 : decode cX5_isWhole 1 = .ok (.invokevirtual 65, 3) := by decide +kernel
theorem dX5_isWhole_4 : decode cX5_isWhole 4 = .ok (.sipush 303, 3) := by decide +kernel
theorem dX5_isWhole_7 : decode cX5_isWhole 7 = .ok (.if_icmp .eq 9, 3) := by decide +kernel
theorem dX5_isWhole_10 : decode cX5_isWhole 10 = .ok (.aload_n 0, 1) := by decide +kernel
theorem dX5_isWhole_11 : decode cX5_isWhole 11 = .ok (.iconst 1, 1) := by decide +kernel
theorem dX5_isWhole_12 : decode cX5_isWhole 12 = .ok (.invokevirtual 92, 3) := by decide +kernel
theorem dX5_isWhole_15 : decode cX5_isWhole 15 = .ok (.ireturn, 1) := by decide +kernel
theorem dX5_isWhole_16 : decode cX5_isWhole 16 = .ok (.aload_n 0, 1) := by decide +kernel
theorem dX5_isWhole_17 : decode cX5_isWhole 17 = .ok (.invokevirtual 131, 3) := by decide +kernel
theorem dX5_isWhole_20 : decode cX5_isWhole 20 = .ok (.iload_n 1, 1) := by decide +kernel
theorem dX5_isWhole_21 : decode cX5_isWhole 21 = .ok (.if_icmp .lt 11, 3) := by decide +kernel
theorem dX5_isWhole_24 : decode cX5_isWhole 24 = .ok (.aload_n 0, 1) := by decide +kernel
theorem dX5_isWhole_25 : decode cX5_isWhole 25 = .ok (.invokevirtual 131, 3) := by decide +kernel
theorem dX5_isWhole_28 : decode cX5_isWhole 28 = .ok (.iload_n 2, 1) := by decide +kernel
theorem dX5_isWhole_29 : decode cX5_isWhole 29 = .ok (.if_icmp .le 11, 3) := by decide +kernel
theorem dX5_isWhole_32 : decode cX5_isWhole 32 = .ok (.aload_n 0, 1) := by decide +kernel
theorem dX5_isWhole_33 : decode cX5_isWhole 33 = .ok (.iconst 2, 1) := by decide +kernel
theorem dX5_isWhole_34 : decode cX5_isWhole 34 = .ok (.invokevirtual 92, 3) := by decide +kernel
theorem dX5_isWhole_37 : decode cX5_isWhole 37 = .ok (.ifCond .eq 7, 3) := by decide +kernel
theorem dX5_isWhole_40 : decode cX5_isWhole 40 = .ok (.iconst 1, 1) := by decide +kernel
theorem dX5_isWhole_41 : decode cX5_isWhole 41 = .ok (.goto 4, 3) := by decide +kernel
theorem dX5_isWhole_44 : decode cX5_isWhole 44 = .ok (.iconst 0, 1) := by decide +kernel
theorem dX5_isWhole_45 : decode cX5_isWhole 45 = .ok (.ireturn, 1) := by decide +kernel
theorem okX5_isWhole_j40 {E : Ev} {X : Cx} {S : Sh} {Z : Option Nat} {Q : Int32 → Hp → Prop} {h : Hp} (O : Ok E X yX5_isWhole cX5_isWhole 3 (some .boolean) 2 45 0 0 (qI S Z Q)) (hw : wX5_isWhole_j40 S h Q) : G E X 0 0 S Z h 40 [none, none, none] [] := by
  unfold wX5_isWhole_j40 at hw
  refine g_iconst O dX5_isWhole_40 kv_1 ?_
  refine g_goto (tgt := 45) O dX5_isWhole_41 rfl ?_
  exact g_zreturn O dX5_isWhole_45 (by decide) ⟨rfl, rfl, _, rfl, hw⟩
theorem okX5_isWhole_j32 {E : Ev} {X : Cx} {S : Sh} {Z : Option Nat} {Q : Int32 → Hp → Prop} {h : Hp} {a0 : Nat} (O : Ok E X yX5_isWhole cX5_isWhole 3 (some .boolean) 2 45 0 0 (qI S Z Q)) (hw : wX5_isWhole_j32 S h a0 Q) : G E X 0 0 S Z h 32 [some (vr a0), none, none] [] := by
  unfold wX5_isWhole_j32 at hw
  refine g_aload_n O dX5_isWhole_32 rfl ?_
  refine g_iconst O dX5_isWhole_33 kv_2 ?_
  obtain ⟨c34, hw⟩ := hw
  refine g_callV (As := [vi (2 : Int32)]) (rest := []) O ci_5 rfl dX5_isWhole_34 ml_X5_92 im_yX5_fail se_yX5_fail ini_X5 co_yX5_fail yo_yX5_fail c34 rfl rfl (Nat.le_of_ble_eq_true rfl) ⟨by decide, by decide, by decide, by decide⟩ (okX5_fail hw) (k_I fun r34 h34 hw => ?_)
  refine g_if_eq (tgt := 44) O dX5_isWhole_37 rfl (fun q37 => ?_) (fun q37 => ?_)
  · have hw := hw.1 q37
    refine g_iconst O dX5_isWhole_44 kv_0 ?_
    exact g_zreturn O dX5_isWhole_45 (by decide) ⟨rfl, rfl, _, rfl, hw⟩
  · have hw := hw.2 q37
    refine g_mask [false, false, false] rfl rfl ?_
    exact okX5_isWhole_j40 O hw
theorem okX5_isWhole {E : Ev} {S : Sh} {Z : Option Nat} {Q : Int32 → Hp → Prop} {h : Hp} {a0 : Nat} {x1 : Int32} {x2 : Int32} (hw : wX5_isWhole S h a0 x1 x2 Q) : Ct E yX5_isWhole cX5_isWhole 3 (some .boolean) 2 45 0 0 S Z h [vr a0, vi x1, vi x2] (qI S Z Q) := by
  refine Ct.of (by decide) (lc := [some (vr a0), some (vi x1), some (vi x2)]) (Nat.le_of_ble_eq_true rfl) rfl (fun X O => ?_)
  unfold wX5_isWhole at hw
  refine g_aload_n O dX5_isWhole_0 rfl ?_
  obtain ⟨c1, hw⟩ := hw
  refine g_callV (As := []) (rest := []) O ci_5 rfl dX5_isWhole_1 ml_X5_65 im_yX5_kind se_yX5_kind ini_X5 co_yX5_kind yo_yX5_kind c1 rfl rfl (Nat.le_of_ble_eq_true rfl) ⟨by decide, by decide, by decide, by decide⟩ (okX5_kind hw) (k_I fun r1 h1 hw => ?_)
  refine g_sipush O dX5_isWhole_4 ks_303 ?_
  refine g_icmp_eq (tgt := 16) O dX5_isWhole_7 rfl (fun q7 => ?_) (fun q7 => ?_)
  · have hw := hw.1 q7
    refine g_aload_n O dX5_isWhole_16 rfl ?_
    refine g_callV (As := []) (rest := []) O ci_5 rfl dX5_isWhole_17 ml_X5_131 im_yX5_number se_yX5_number ini_X5 co_yX5_number yo_yX5_number c1 rfl rfl (Nat.le_of_ble_eq_true rfl) ⟨by decide, by decide, by decide, by decide⟩ (okX5_number hw) (k_I fun r17 h17 hw => ?_)
    refine g_iload_n O dX5_isWhole_20 rfl ?_
    refine g_icmp_lt (tgt := 32) O dX5_isWhole_21 rfl (fun q21 => ?_) (fun q21 => ?_)
    · have hw := hw.1 q21
      refine g_mask [true, false, false] rfl rfl ?_
      exact okX5_isWhole_j32 O hw
    · have hw := hw.2 q21
      refine g_aload_n O dX5_isWhole_24 rfl ?_
      refine g_callV (As := []) (rest := []) O ci_5 rfl dX5_isWhole_25 ml_X5_131 im_yX5_number se_yX5_number ini_X5 co_yX5_number yo_yX5_number c1 rfl rfl (Nat.le_of_ble_eq_true rfl) ⟨by decide, by decide, by decide, by decide⟩ (okX5_number hw) (k_I fun r25 h25 hw => ?_)
      refine g_iload_n O dX5_isWhole_28 rfl ?_
      refine g_icmp_le (tgt := 40) O dX5_isWhole_29 rfl (fun q29 => ?_) (fun q29 => ?_)
      · have hw := hw.1 q29
        refine g_mask [false, false, false] rfl rfl ?_
        exact okX5_isWhole_j40 O hw
      · have hw := hw.2 q29
        refine g_mask [true, false, false] rfl rfl ?_
        exact okX5_isWhole_j32 O hw
  · have hw := hw.2 q7
    refine g_aload_n O dX5_isWhole_10 rfl ?_
    refine g_iconst O dX5_isWhole_11 kv_1 ?_
    refine g_callV (As := [vi (1 : Int32)]) (rest := []) O ci_5 rfl dX5_isWhole_12 ml_X5_92 im_yX5_fail se_yX5_fail ini_X5 co_yX5_fail yo_yX5_fail c1 rfl rfl (Nat.le_of_ble_eq_true rfl) ⟨by decide, by decide, by decide, by decide⟩ (okX5_fail hw) (k_I fun r12 h12 hw => ?_)
    obtain ⟨c15z, hw⟩ := hw
    exact g_zreturn O dX5_isWhole_15 c15z ⟨rfl, rfl, _, rfl, hw⟩
theorem dX5_joinsAtoms_0 : decode cX5_joinsAtoms 0 = .ok (.iload_n 0, 1) := by decide +kernel
theorem dX5_joinsAtoms_1 : decode cX5_joinsAtoms 1 = .ok (.bipush 43, 2) := by decide +kernel
theorem dX5_joinsAtoms_3 : decode cX5_joinsAtoms 3 = .ok (.if_icmp .eq 15, 3) := by decide +kernel
theorem dX5_joinsAtoms_6 : decode cX5_joinsAtoms 6 = .ok (.iload_n 0, 1) := by decide +kernel
theorem dX5_joinsAtoms_7 : decode cX5_joinsAtoms 7 = .ok (.bipush 45, 2) := by decide +kernel
theorem dX5_joinsAtoms_9 : decode cX5_joinsAtoms 9 = .ok (.if_icmp .eq 9, 3) := by decide +kernel
theorem dX5_joinsAtoms_12 : decode cX5_joinsAtoms 12 = .ok (.iload_n 0, 1) := by decide +kernel
theorem dX5_joinsAtoms_13 : decode cX5_joinsAtoms 13 = .ok (.bipush 42, 2) := by decide +kernel
theorem dX5_joinsAtoms_15 : decode cX5_joinsAtoms 15 = .ok (.if_icmp .ne 7, 3) := by decide +kernel
theorem dX5_joinsAtoms_18 : decode cX5_joinsAtoms 18 = .ok (.iconst 1, 1) := by decide +kernel
theorem dX5_joinsAtoms_19 : decode cX5_joinsAtoms 19 = .ok (.goto 4, 3) := by decide +kernel
theorem dX5_joinsAtoms_22 : decode cX5_joinsAtoms 22 = .ok (.iconst 0, 1) := by decide +kernel
theorem dX5_joinsAtoms_23 : decode cX5_joinsAtoms 23 = .ok (.ireturn, 1) := by decide +kernel
theorem okX5_joinsAtoms_j18 {E : Ev} {X : Cx} {S : Sh} {Z : Option Nat} {Q : Int32 → Hp → Prop} {h : Hp} (O : Ok E X yX5_joinsAtoms cX5_joinsAtoms 1 (some .boolean) 1 24 0 0 (qI S Z Q)) (hw : wX5_joinsAtoms_j18 S h Q) : G E X 0 0 S Z h 18 [none] [] := by
  unfold wX5_joinsAtoms_j18 at hw
  refine g_iconst O dX5_joinsAtoms_18 kv_1 ?_
  refine g_goto (tgt := 23) O dX5_joinsAtoms_19 rfl ?_
  exact g_zreturn O dX5_joinsAtoms_23 (by decide) ⟨rfl, rfl, _, rfl, hw⟩
theorem okX5_joinsAtoms {E : Ev} {S : Sh} {Z : Option Nat} {Q : Int32 → Hp → Prop} {h : Hp} {x0 : Int32} (hw : wX5_joinsAtoms S h x0 Q) : Ct E yX5_joinsAtoms cX5_joinsAtoms 1 (some .boolean) 1 24 0 0 S Z h [vi x0] (qI S Z Q) := by
  refine Ct.of (by decide) (lc := [some (vi x0)]) (Nat.le_of_ble_eq_true rfl) rfl (fun X O => ?_)
  unfold wX5_joinsAtoms at hw
  refine g_iload_n O dX5_joinsAtoms_0 rfl ?_
  refine g_bipush O dX5_joinsAtoms_1 kb_43 ?_
  refine g_icmp_eq (tgt := 18) O dX5_joinsAtoms_3 rfl (fun q3 => ?_) (fun q3 => ?_)
  · have hw := hw.1 q3
    refine g_mask [false] rfl rfl ?_
    exact okX5_joinsAtoms_j18 O hw
  · have hw := hw.2 q3
    refine g_iload_n O dX5_joinsAtoms_6 rfl ?_
    refine g_bipush O dX5_joinsAtoms_7 kb_45 ?_
    refine g_icmp_eq (tgt := 18) O dX5_joinsAtoms_9 rfl (fun q9 => ?_) (fun q9 => ?_)
    · have hw := hw.1 q9
      refine g_mask [false] rfl rfl ?_
      exact okX5_joinsAtoms_j18 O hw
    · have hw := hw.2 q9
      refine g_iload_n O dX5_joinsAtoms_12 rfl ?_
      refine g_bipush O dX5_joinsAtoms_13 kb_42 ?_
      refine g_icmp_ne (tgt := 22) O dX5_joinsAtoms_15 rfl (fun q15 => ?_) (fun q15 => ?_)
      · have hw := hw.1 q15
        refine g_iconst O dX5_joinsAtoms_22 kv_0 ?_
        exact g_zreturn O dX5_joinsAtoms_23 (by decide) ⟨rfl, rfl, _, rfl, hw⟩
      · have hw := hw.2 q15
        refine g_mask [false] rfl rfl ?_
        exact okX5_joinsAtoms_j18 O hw
theorem dX5_pass_0 : decode cX5_pass 0 = .ok (.aload_n 0, 1) := by decide +kernel
theorem dX5_pass_1 : decode cX5_pass 1 = .ok (.invokevirtual 65, 3) := by decide +kernel
theorem dX5_pass_4 : decode cX5_pass 4 = .ok (.iload_n 1, 1) := by decide +kernel
theorem dX5_pass_5 : decode cX5_pass 5 = .ok (.if_icmp .eq 9, 3) := by decide +kernel
theorem dX5_pass_8 : decode cX5_pass 8 = .ok (.aload_n 0, 1) := by decide +kernel
theorem dX5_pass_9 : decode cX5_pass 9 = .ok (.iconst 1, 1) := by decide +kernel
theorem dX5_pass_10 : decode cX5_pass 10 = .ok (.invokevirtual 92, 3) := by decide +kernel
theorem dX5_pass_13 : decode cX5_pass 13 = .ok (.ireturn, 1) := by decide +kernel
theorem dX5_pass_14 : decode cX5_pass 14 = .ok (.aload_n 0, 1) := by decide +kernel
theorem dX5_pass_15 : decode cX5_pass 15 = .ok (.invokevirtual 105, 3) := by decide +kernel
theorem dX5_pass_18 : decode cX5_pass 18 = .ok (.iconst 1, 1) := by decide +kernel
theorem dX5_pass_19 : decode cX5_pass 19 = .ok (.ireturn, 1) := by decide +kernel
theorem okX5_pass {E : Ev} {S : Sh} {Z : Option Nat} {Q : Int32 → Hp → Prop} {h : Hp} {a0 : Nat} {x1 : Int32} (hw : wX5_pass S h a0 x1 Q) : Ct E yX5_pass cX5_pass 2 (some .boolean) 2 45 0 0 S Z h [vr a0, vi x1] (qI S Z Q) := by
  refine Ct.of (by decide) (lc := [some (vr a0), some (vi x1)]) (Nat.le_of_ble_eq_true rfl) rfl (fun X O => ?_)
  unfold wX5_pass at hw
  refine g_aload_n O dX5_pass_0 rfl ?_
  obtain ⟨c1, hw⟩ := hw
  refine g_callV (As := []) (rest := []) O ci_5 rfl dX5_pass_1 ml_X5_65 im_yX5_kind se_yX5_kind ini_X5 co_yX5_kind yo_yX5_kind c1 rfl rfl (Nat.le_of_ble_eq_true rfl) ⟨by decide, by decide, by decide, by decide⟩ (okX5_kind hw) (k_I fun r1 h1 hw => ?_)
  refine g_iload_n O dX5_pass_4 rfl ?_
  refine g_icmp_eq (tgt := 14) O dX5_pass_5 rfl (fun q5 => ?_) (fun q5 => ?_)
  · have hw := hw.1 q5
    refine g_aload_n O dX5_pass_14 rfl ?_
    refine g_callV (As := []) (rest := []) O ci_5 rfl dX5_pass_15 ml_X5_105 im_yX5_advance se_yX5_advance ini_X5 co_yX5_advance yo_yX5_advance c1 rfl rfl (Nat.le_of_ble_eq_true rfl) ⟨by decide, by decide, by decide, by decide⟩ (okX5_advance hw) (k_V fun h15 hw => ?_)
    refine g_iconst O dX5_pass_18 kv_1 ?_
    exact g_zreturn O dX5_pass_19 (by decide) ⟨rfl, rfl, _, rfl, hw⟩
  · have hw := hw.2 q5
    refine g_aload_n O dX5_pass_8 rfl ?_
    refine g_iconst O dX5_pass_9 kv_1 ?_
    refine g_callV (As := [vi (1 : Int32)]) (rest := []) O ci_5 rfl dX5_pass_10 ml_X5_92 im_yX5_fail se_yX5_fail ini_X5 co_yX5_fail yo_yX5_fail c1 rfl rfl (Nat.le_of_ble_eq_true rfl) ⟨by decide, by decide, by decide, by decide⟩ (okX5_fail hw) (k_I fun r10 h10 hw => ?_)
    obtain ⟨c13z, hw⟩ := hw
    exact g_zreturn O dX5_pass_13 c13z ⟨rfl, rfl, _, rfl, hw⟩
theorem dX5_slotOf_0 : decode cX5_slotOf 0 = .ok (.iconst 0, 1) := by decide +kernel
theorem dX5_slotOf_1 : decode cX5_slotOf 1 = .ok (.istore_n 3, 1) := by decide +kernel
theorem dX5_slotOf_2 : decode cX5_slotOf 2 = .ok (.iload_n 3, 1) := by decide +kernel
theorem dX5_slotOf_3 : decode cX5_slotOf 3 = .ok (.aload_n 0, 1) := by decide +kernel
theorem dX5_slotOf_4 : decode cX5_slotOf 4 = .ok (.getfield 39, 3) := by decide +kernel
theorem dX5_slotOf_7 : decode cX5_slotOf 7 = .ok (.getfield 96, 3) := by decide +kernel
theorem dX5_slotOf_10 : decode cX5_slotOf 10 = .ok (.if_icmp .ge 25, 3) := by decide +kernel
theorem dX5_slotOf_13 : decode cX5_slotOf 13 = .ok (.aload_n 0, 1) := by decide +kernel
theorem dX5_slotOf_14 : decode cX5_slotOf 14 = .ok (.getfield 39, 3) := by decide +kernel
theorem dX5_slotOf_17 : decode cX5_slotOf 17 = .ok (.getfield 121, 3) := by decide +kernel
theorem dX5_slotOf_20 : decode cX5_slotOf 20 = .ok (.iload_n 3, 1) := by decide +kernel
theorem dX5_slotOf_21 : decode cX5_slotOf 21 = .ok (.laload, 1) := by decide +kernel
theorem dX5_slotOf_22 : decode cX5_slotOf 22 = .ok (.lload_n 1, 1) := by decide +kernel
theorem dX5_slotOf_23 : decode cX5_slotOf 23 = .ok (.lcmp, 1) := by decide +kernel
theorem dX5_slotOf_24 : decode cX5_slotOf 24 = .ok (.ifCond .ne 5, 3) := by decide +kernel
theorem dX5_slotOf_27 : decode cX5_slotOf 27 = .ok (.iload_n 3, 1) := by decide +kernel
theorem dX5_slotOf_28 : decode cX5_slotOf 28 = .ok (.ireturn, 1) := by decide +kernel
theorem dX5_slotOf_29 : decode cX5_slotOf 29 = .ok (.iinc 3 1, 3) := by decide +kernel
theorem dX5_slotOf_32 : decode cX5_slotOf 32 = .ok (.goto (-30), 3) := by decide +kernel
theorem dX5_slotOf_35 : decode cX5_slotOf 35 = .ok (.aload_n 0, 1) := by decide +kernel
theorem dX5_slotOf_36 : decode cX5_slotOf 36 = .ok (.getfield 69, 3) := by decide +kernel
theorem dX5_slotOf_39 : decode cX5_slotOf 39 = .ok (.ifCond .eq 67, 3) := by decide +kernel
theorem dX5_slotOf_42 : decode cX5_slotOf 42 = .ok (.aload_n 0, 1) := by decide +kernel
theorem dX5_slotOf_43 : decode cX5_slotOf 43 = .ok (.getfield 31, 3) := by decide +kernel
theorem dX5_slotOf_46 : decode cX5_slotOf 46 = .ok (.getfield 102, 3) := by decide +kernel
theorem dX5_slotOf_49 : decode cX5_slotOf 49 = .ok (.iconst 1, 1) := by decide +kernel
theorem dX5_slotOf_50 : decode cX5_slotOf 50 = .ok (.if_icmp .le 56, 3) := by decide +kernel
theorem dX5_slotOf_53 : decode cX5_slotOf 53 = .ok (.aload_n 0, 1) := by decide +kernel
theorem dX5_slotOf_54 : decode cX5_slotOf 54 = .ok (.getfield 31, 3) := by decide +kernel
theorem dX5_slotOf_57 : decode cX5_slotOf 57 = .ok (.getfield 35, 3) := by decide +kernel
theorem dX5_slotOf_60 : decode cX5_slotOf 60 = .ok (.aload_n 0, 1) := by decide +kernel
theorem dX5_slotOf_61 : decode cX5_slotOf 61 = .ok (.getfield 31, 3) := by decide +kernel
theorem dX5_slotOf_64 : decode cX5_slotOf 64 = .ok (.getfield 102, 3) := by decide +kernel
theorem dX5_slotOf_67 : decode cX5_slotOf 67 = .ok (.iconst 2, 1) := by decide +kernel
theorem dX5_slotOf_68 : decode cX5_slotOf 68 = .ok (.isub, 1) := by decide +kernel
theorem dX5_slotOf_69 : decode cX5_slotOf 69 = .ok (.aaload, 1) := by decide +kernel
theorem dX5_slotOf_70 : decode cX5_slotOf 70 = .ok (.astore_n 3, 1) := by decide +kernel
theorem dX5_slotOf_71 : decode cX5_slotOf 71 = .ok (.iconst 0, 1) := by decide +kernel
theorem dX5_slotOf_72 : decode cX5_slotOf 72 = .ok (.istore 4, 2) := by decide +kernel
theorem dX5_slotOf_74 : decode cX5_slotOf 74 = .ok (.iload 4, 2) := by decide +kernel
theorem dX5_slotOf_76 : decode cX5_slotOf 76 = .ok (.aload_n 3, 1) := by decide +kernel
theorem dX5_slotOf_77 : decode cX5_slotOf 77 = .ok (.getfield 96, 3) := by decide +kernel
theorem dX5_slotOf_80 : decode cX5_slotOf 80 = .ok (.if_icmp .ge 26, 3) := by decide +kernel
theorem dX5_slotOf_83 : decode cX5_slotOf 83 = .ok (.aload_n 3, 1) := by decide +kernel
theorem dX5_slotOf_84 : decode cX5_slotOf 84 = .ok (.getfield 121, 3) := by decide +kernel
theorem dX5_slotOf_87 : decode cX5_slotOf 87 = .ok (.iload 4, 2) := by decide +kernel
theorem dX5_slotOf_89 : decode cX5_slotOf 89 = .ok (.laload, 1) := by decide +kernel
theorem dX5_slotOf_90 : decode cX5_slotOf 90 = .ok (.lload_n 1, 1) := by decide +kernel
theorem dX5_slotOf_91 : decode cX5_slotOf 91 = .ok (.lcmp, 1) := by decide +kernel
theorem dX5_slotOf_92 : decode cX5_slotOf 92 = .ok (.ifCond .ne 8, 3) := by decide +kernel
theorem dX5_slotOf_95 : decode cX5_slotOf 95 = .ok (.iconst 3, 1) := by decide +kernel
theorem dX5_slotOf_96 : decode cX5_slotOf 96 = .ok (.iload 4, 2) := by decide +kernel
theorem dX5_slotOf_98 : decode cX5_slotOf 98 = .ok (.iadd, 1) := by decide +kernel
theorem dX5_slotOf_99 : decode cX5_slotOf 99 = .ok (.ireturn, 1) := by decide +kernel
theorem dX5_slotOf_100 : decode cX5_slotOf 100 = .ok (.iinc 4 1, 3) := by decide +kernel
theorem dX5_slotOf_103 : decode cX5_slotOf 103 = .ok (.goto (-29), 3) := by decide +kernel
theorem dX5_slotOf_106 : decode cX5_slotOf 106 = .ok (.iconst (-1), 1) := by decide +kernel
theorem dX5_slotOf_107 : decode cX5_slotOf 107 = .ok (.ireturn, 1) := by decide +kernel
theorem okX5_slotOf_74 {E : Ev} {X : Cx} {S : Sh} {Z : Option Nat} {Q : Int32 → Hp → Prop} {j1 : Int64} {a3 : Nat} (O : Ok E X yX5_slotOf cX5_slotOf 5 (some .int) 1 24 0 0 (qI S Z Q)) : ∀ (n : Nat) (h : Hp) (x4 : Int32), wX5_slotOf_74 S j1 a3 Q n h x4 → G E X 0 0 S Z h 74 [none, some (vj j1), none, some (vr a3), some (vi x4)] [] := by
  intro n
  induction n with
  | zero => intro h x4 hw; exact hw.elim
  | succ n hB74 =>
    intro h x4 hw
    have hw : wX5_slotOf_74b S j1 a3 Q (wX5_slotOf_74 S j1 a3 Q n) h x4 := hw
    unfold wX5_slotOf_74b at hw
    refine g_iload O dX5_slotOf_74 rfl ?_
    refine g_aload_n O dX5_slotOf_76 rfl ?_
    obtain ⟨c77, hw⟩ := hw
    refine gf_X2_variables O dX5_slotOf_77 fl_X5_96 c77 ?_
    refine g_icmp_ge (tgt := 106) O dX5_slotOf_80 rfl (fun q80 => ?_) (fun q80 => ?_)
    · have hw := hw.1 q80
      refine g_iconst O dX5_slotOf_106 kv_m1 ?_
      exact g_ireturn O dX5_slotOf_107 ⟨rfl, rfl, _, rfl, hw⟩
    · have hw := hw.2 q80
      refine g_aload_n O dX5_slotOf_83 rfl ?_
      refine gf_X2_names O dX5_slotOf_84 fl_X5_121 c77 ?_
      refine g_iload O dX5_slotOf_87 rfl ?_
      obtain ⟨c89, hw⟩ := hw
      refine g_laload O dX5_slotOf_89 c89.1 c89.2 ?_
      refine g_lload_n O dX5_slotOf_90 rfl ?_
      refine g_lcmp O dX5_slotOf_91 ?_
      refine g_if_ne (tgt := 100) O dX5_slotOf_92 rfl (fun q92 => ?_) (fun q92 => ?_)
      · have hw := hw.1 q92
        refine g_iinc (lc' := [none, some (vj j1), none, some (vr a3), some (vi (x4 + (1 : Int32)))]) O dX5_slotOf_100 rfl kv_1 rfl rfl ?_
        refine g_goto (tgt := 74) O dX5_slotOf_103 rfl ?_
        exact hB74 _ _ hw
      · have hw := hw.2 q92
        refine g_iconst O dX5_slotOf_95 kv_3 ?_
        refine g_iload O dX5_slotOf_96 rfl ?_
        refine g_iadd O dX5_slotOf_98 ?_
        exact g_ireturn O dX5_slotOf_99 ⟨rfl, rfl, _, rfl, hw⟩
theorem okX5_slotOf_j35 {E : Ev} {X : Cx} {S : Sh} {Z : Option Nat} {Q : Int32 → Hp → Prop} {h : Hp} {a0 : Nat} {j1 : Int64} (O : Ok E X yX5_slotOf cX5_slotOf 5 (some .int) 1 24 0 0 (qI S Z Q)) (hw : wX5_slotOf_j35 S h a0 j1 Q) : G E X 0 0 S Z h 35 [some (vr a0), some (vj j1), none, none, none] [] := by
  unfold wX5_slotOf_j35 at hw
  refine g_aload_n O dX5_slotOf_35 rfl ?_
  obtain ⟨c36, hw⟩ := hw
  refine gf_X5_inLaw O dX5_slotOf_36 fl_X5_69 c36 ?_
  refine g_if_eq (tgt := 106) O dX5_slotOf_39 rfl (fun q39 => ?_) (fun q39 => ?_)
  · have hw := hw.1 q39
    refine g_iconst O dX5_slotOf_106 kv_m1 ?_
    exact g_ireturn O dX5_slotOf_107 ⟨rfl, rfl, _, rfl, hw⟩
  · have hw := hw.2 q39
    refine g_aload_n O dX5_slotOf_42 rfl ?_
    refine gf_X5_model O dX5_slotOf_43 fl_X5_31 c36 ?_
    obtain ⟨c46, hw⟩ := hw
    refine gf_X3_count O dX5_slotOf_46 fl_X5_102 c46 ?_
    refine g_iconst O dX5_slotOf_49 kv_1 ?_
    refine g_icmp_le (tgt := 106) O dX5_slotOf_50 rfl (fun q50 => ?_) (fun q50 => ?_)
    · have hw := hw.1 q50
      refine g_iconst O dX5_slotOf_106 kv_m1 ?_
      exact g_ireturn O dX5_slotOf_107 ⟨rfl, rfl, _, rfl, hw⟩
    · have hw := hw.2 q50
      refine g_aload_n O dX5_slotOf_53 rfl ?_
      refine gf_X5_model O dX5_slotOf_54 fl_X5_31 c36 ?_
      refine gf_X3_machines O dX5_slotOf_57 fl_X5_35 c46 ?_
      refine g_aload_n O dX5_slotOf_60 rfl ?_
      refine gf_X5_model O dX5_slotOf_61 fl_X5_31 c36 ?_
      refine gf_X3_count O dX5_slotOf_64 fl_X5_102 c46 ?_
      refine g_iconst O dX5_slotOf_67 kv_2 ?_
      refine g_isub O dX5_slotOf_68 ?_
      obtain ⟨c69, hw⟩ := hw
      refine g_aaload (t := 1) (C := "FinerSteps$Machine") O rfl dX5_slotOf_69 c69.1 c69.2 ?_
      refine g_nmR (fun av70 e70 => ?_)
      have hw := hw av70 e70
      refine g_astore_n (lc' := [some (vr a0), some (vj j1), none, some (vr av70), none]) O dX5_slotOf_70 rfl (Nat.le_of_ble_eq_true rfl) rfl ?_
      refine g_iconst O dX5_slotOf_71 kv_0 ?_
      refine g_istore (lc' := [some (vr a0), some (vj j1), none, some (vr av70), some (vi (0 : Int32))]) O dX5_slotOf_72 rfl (Nat.le_of_ble_eq_true rfl) rfl ?_
      refine g_mask [false, true, false, true, true] rfl rfl ?_
      obtain ⟨n74, hw⟩ := hw
      exact okX5_slotOf_74 O n74 _ _ hw
theorem okX5_slotOf_2 {E : Ev} {X : Cx} {S : Sh} {Z : Option Nat} {Q : Int32 → Hp → Prop} {a0 : Nat} {j1 : Int64} (O : Ok E X yX5_slotOf cX5_slotOf 5 (some .int) 1 24 0 0 (qI S Z Q)) : ∀ (n : Nat) (h : Hp) (x3 : Int32), wX5_slotOf_2 S a0 j1 Q n h x3 → G E X 0 0 S Z h 2 [some (vr a0), some (vj j1), none, some (vi x3), none] [] := by
  intro n
  induction n with
  | zero => intro h x3 hw; exact hw.elim
  | succ n hB2 =>
    intro h x3 hw
    have hw : wX5_slotOf_2b S a0 j1 Q (wX5_slotOf_2 S a0 j1 Q n) h x3 := hw
    unfold wX5_slotOf_2b at hw
    refine g_iload_n O dX5_slotOf_2 rfl ?_
    refine g_aload_n O dX5_slotOf_3 rfl ?_
    obtain ⟨c4, hw⟩ := hw
    refine gf_X5_machine O dX5_slotOf_4 fl_X5_39 c4 ?_
    obtain ⟨c7, hw⟩ := hw
    refine gf_X2_variables O dX5_slotOf_7 fl_X5_96 c7 ?_
    refine g_icmp_ge (tgt := 35) O dX5_slotOf_10 rfl (fun q10 => ?_) (fun q10 => ?_)
    · have hw := hw.1 q10
      refine g_mask [true, true, false, false, false] rfl rfl ?_
      exact okX5_slotOf_j35 O hw
    · have hw := hw.2 q10
      refine g_aload_n O dX5_slotOf_13 rfl ?_
      refine gf_X5_machine O dX5_slotOf_14 fl_X5_39 c4 ?_
      refine gf_X2_names O dX5_slotOf_17 fl_X5_121 c7 ?_
      refine g_iload_n O dX5_slotOf_20 rfl ?_
      obtain ⟨c21, hw⟩ := hw
      refine g_laload O dX5_slotOf_21 c21.1 c21.2 ?_
      refine g_lload_n O dX5_slotOf_22 rfl ?_
      refine g_lcmp O dX5_slotOf_23 ?_
      refine g_if_ne (tgt := 29) O dX5_slotOf_24 rfl (fun q24 => ?_) (fun q24 => ?_)
      · have hw := hw.1 q24
        refine g_iinc (lc' := [some (vr a0), some (vj j1), none, some (vi (x3 + (1 : Int32))), none]) O dX5_slotOf_29 rfl kv_1 rfl rfl ?_
        refine g_goto (tgt := 2) O dX5_slotOf_32 rfl ?_
        exact hB2 _ _ hw
      · have hw := hw.2 q24
        refine g_iload_n O dX5_slotOf_27 rfl ?_
        exact g_ireturn O dX5_slotOf_28 ⟨rfl, rfl, _, rfl, hw⟩
theorem okX5_slotOf {E : Ev} {S : Sh} {Z : Option Nat} {Q : Int32 → Hp → Prop} {h : Hp} {a0 : Nat} {j1 : Int64} (hw : wX5_slotOf S h a0 j1 Q) : Ct E yX5_slotOf cX5_slotOf 5 (some .int) 1 24 0 0 S Z h [vr a0, vj j1] (qI S Z Q) := by
  refine Ct.of (by decide) (lc := [some (vr a0), some (vj j1), none, none, none]) (Nat.le_of_ble_eq_true rfl) rfl (fun X O => ?_)
  unfold wX5_slotOf at hw
  refine g_iconst O dX5_slotOf_0 kv_0 ?_
  refine g_istore_n (lc' := [some (vr a0), some (vj j1), none, some (vi (0 : Int32)), none]) O dX5_slotOf_1 rfl (Nat.le_of_ble_eq_true rfl) rfl ?_
  obtain ⟨n2, hw⟩ := hw
  exact okX5_slotOf_2 O n2 _ _ hw
theorem dX5_readTest_0 : decode cX5_readTest 0 = .ok (.aload_n 0, 1) := by decide +kernel
theorem dX5_readTest_1 : decode cX5_readTest 1 = .ok (.iload_n 1, 1) := by decide +kernel
theorem dX5_readTest_2 : decode cX5_readTest 2 = .ok (.invokevirtual 211, 3) := by decide +kernel
theorem dX5_readTest_5 : decode cX5_readTest 5 = .ok (.ifCond .ne 5, 3) := by decide +kernel
theorem dX5_readTest_8 : decode cX5_readTest 8 = .ok (.iconst 0, 1) := by decide +kernel
theorem dX5_readTest_9 : decode cX5_readTest 9 = .ok (.ireturn, 1) := by decide +kernel
theorem dX5_readTest_10 : decode cX5_readTest 10 = .ok (.iconst 0, 1) := by decide +kernel
theorem dX5_readTest_11 : decode cX5_readTest 11 = .ok (.istore_n 2, 1) := by decide +kernel
theorem dX5_readTest_12 : decode cX5_readTest 12 = .ok (.iconst 0, 1) := by decide +kernel
theorem dX5_readTest_13 : decode cX5_readTest 13 = .ok (.istore_n 3, 1) := by decide +kernel
theorem dX5_readTest_14 : decode cX5_readTest 14 = .ok (.iload_n 3, 1) := by decide +kernel
theorem dX5_readTest_15 : decode cX5_readTest 15 = .ok (.bipush 30, 2) := by decide +kernel
theorem dX5_readTest_17 : decode cX5_readTest 17 = .ok (.if_icmp .gt 99, 3) := by decide +kernel
theorem dX5_readTest_20 : decode cX5_readTest 20 = .ok (.aload_n 0, 1) := by decide +kernel
theorem dX5_readTest_21 : decode cX5_readTest 21 = .ok (.invokevirtual 65, 3) := by decide +kernel
theorem dX5_readTest_24 : decode cX5_readTest 24 = .ok (.sipush 413, 3) := by decide +kernel
theorem dX5_readTest_27 : decode cX5_readTest 27 = .ok (.if_icmp .eq 13, 3) := by decide +kernel
theorem dX5_readTest_30 : decode cX5_readTest 30 = .ok (.aload_n 0, 1) := by decide +kernel
theorem dX5_readTest_31 : decode cX5_readTest 31 = .ok (.invokevirtual 65, 3) := by decide +kernel
theorem dX5_readTest_34 : decode cX5_readTest 34 = .ok (.sipush 412, 3) := by decide +kernel
theorem dX5_readTest_37 : decode cX5_readTest 37 = .ok (.if_icmp .ne 79, 3) := by decide +kernel
theorem dX5_readTest_40 : decode cX5_readTest 40 = .ok (.aload_n 0, 1) := by decide +kernel
theorem dX5_readTest_41 : decode cX5_readTest 41 = .ok (.invokevirtual 65, 3) := by decide +kernel
theorem dX5_readTest_44 : decode cX5_readTest 44 = .ok (.sipush 412, 3) := by decide +kernel
theorem dX5_readTest_47 : decode cX5_readTest 47 = .ok (.if_icmp .ne 7, 3) := by decide +kernel
theorem dX5_readTest_50 : decode cX5_readTest 50 = .ok (.iconst 1, 1) := by decide +kernel
theorem dX5_readTest_51 : decode cX5_readTest 51 = .ok (.goto 4, 3) := by decide +kernel
theorem dX5_readTest_54 : decode cX5_readTest 54 = .ok (.iconst 0, 1) := by decide +kernel
theorem dX5_readTest_55 : decode cX5_readTest 55 = .ok (.istore 4, 2) := by decide +kernel
theorem dX5_readTest_57 : decode cX5_readTest 57 = .ok (.iload 4, 2) := by decide +kernel
theorem dX5_readTest_59 : decode cX5_readTest 59 = .ok (.ifCond .eq 17, 3) := by decide +kernel
theorem dX5_readTest_62 : decode cX5_readTest 62 = .ok (.iload_n 2, 1) := by decide +kernel
theorem dX5_readTest_63 : decode cX5_readTest 63 = .ok (.ifCond .eq 13, 3) := by decide +kernel
theorem dX5_readTest_66 : decode cX5_readTest 66 = .ok (.aload_n 0, 1) := by decide +kernel
theorem dX5_readTest_67 : decode cX5_readTest 67 = .ok (.getfield 31, 3) := by decide +kernel
theorem dX5_readTest_70 : decode cX5_readTest 70 = .ok (.sipush 2412, 3) := by decide +kernel
theorem dX5_readTest_73 : decode cX5_readTest 73 = .ok (.invokevirtual 214, 3) := by decide +kernel
theorem dX5_readTest_76 : decode cX5_readTest 76 = .ok (.iload_n 2, 1) := by decide +kernel
theorem dX5_readTest_77 : decode cX5_readTest 77 = .ok (.iload 4, 2) := by decide +kernel
theorem dX5_readTest_79 : decode cX5_readTest 79 = .ok (.ior, 1) := by decide +kernel
theorem dX5_readTest_80 : decode cX5_readTest 80 = .ok (.istore_n 2, 1) := by decide +kernel
theorem dX5_readTest_81 : decode cX5_readTest 81 = .ok (.aload_n 0, 1) := by decide +kernel
theorem dX5_readTest_82 : decode cX5_readTest 82 = .ok (.invokevirtual 105, 3) := by decide +kernel
theorem dX5_readTest_85 : decode cX5_readTest 85 = .ok (.aload_n 0, 1) := by decide +kernel
theorem dX5_readTest_86 : decode cX5_readTest 86 = .ok (.iload_n 1, 1) := by decide +kernel
theorem dX5_readTest_87 : decode cX5_readTest 87 = .ok (.invokevirtual 211, 3) := by decide +kernel
theorem dX5_readTest_90 : decode cX5_readTest 90 = .ok (.ifCond .ne 5, 3) := by decide +kernel
theorem dX5_readTest_93 : decode cX5_readTest 93 = .ok (.iconst 0, 1) := by decide +kernel
theorem dX5_readTest_94 : decode cX5_readTest 94 = .ok (.ireturn, 1) := by decide +kernel
theorem dX5_readTest_95 : decode cX5_readTest 95 = .ok (.iload 4, 2) := by decide +kernel
theorem dX5_readTest_97 : decode cX5_readTest 97 = .ok (.ifCond .ne 13, 3) := by decide +kernel
theorem dX5_readTest_100 : decode cX5_readTest 100 = .ok (.aload_n 0, 1) := by decide +kernel
theorem dX5_readTest_101 : decode cX5_readTest 101 = .ok (.getfield 31, 3) := by decide +kernel
theorem dX5_readTest_104 : decode cX5_readTest 104 = .ok (.sipush 2413, 3) := by decide +kernel
theorem dX5_readTest_107 : decode cX5_readTest 107 = .ok (.invokevirtual 214, 3) := by decide +kernel
theorem dX5_readTest_110 : decode cX5_readTest 110 = .ok (.iinc 3 1, 3) := by decide +kernel
theorem dX5_readTest_113 : decode cX5_readTest 113 = .ok (.goto (-99), 3) := by decide +kernel
theorem dX5_readTest_116 : decode cX5_readTest 116 = .ok (.iload_n 2, 1) := by decide +kernel
theorem dX5_readTest_117 : decode cX5_readTest 117 = .ok (.ifCond .eq 13, 3) := by decide +kernel
theorem dX5_readTest_120 : decode cX5_readTest 120 = .ok (.aload_n 0, 1) := by decide +kernel
theorem dX5_readTest_121 : decode cX5_readTest 121 = .ok (.getfield 31, 3) := by decide +kernel
theorem dX5_readTest_124 : decode cX5_readTest 124 = .ok (.sipush 2412, 3) := by decide +kernel
theorem dX5_readTest_127 : decode cX5_readTest 127 = .ok (.invokevirtual 214, 3) := by decide +kernel
theorem dX5_readTest_130 : decode cX5_readTest 130 = .ok (.iconst 1, 1) := by decide +kernel
theorem dX5_readTest_131 : decode cX5_readTest 131 = .ok (.ireturn, 1) := by decide +kernel
theorem dX5_readFact_0 : decode cX5_readFact 0 = .ok (.aload_n 0, 1) := by decide +kernel
theorem dX5_readFact_1 : decode cX5_readFact 1 = .ok (.invokevirtual 65, 3) := by decide +kernel
theorem dX5_readFact_4 : decode cX5_readFact 4 = .ok (.istore_n 2, 1) := by decide +kernel
theorem dX5_readFact_5 : decode cX5_readFact 5 = .ok (.iload_n 2, 1) := by decide +kernel
theorem dX5_readFact_6 : decode cX5_readFact 6 = .ok (.sipush 414, 3) := by decide +kernel
theorem dX5_readFact_9 : decode cX5_readFact 9 = .ok (.if_icmp .eq 9, 3) := by decide +kernel
theorem dX5_readFact_12 : decode cX5_readFact 12 = .ok (.iload_n 2, 1) := by decide +kernel
theorem dX5_readFact_13 : decode cX5_readFact 13 = .ok (.bipush 40, 2) := by decide +kernel
theorem dX5_readFact_15 : decode cX5_readFact 15 = .ok (.if_icmp .ne 74, 3) := by decide +kernel
theorem dX5_readFact_18 : decode cX5_readFact 18 = .ok (.iload_n 1, 1) := by decide +kernel
theorem dX5_readFact_19 : decode cX5_readFact 19 = .ok (.bipush 8, 2) := by decide +kernel
theorem dX5_readFact_21 : decode cX5_readFact 21 = .ok (.if_icmp .lt 9, 3) := by decide +kernel
theorem dX5_readFact_24 : decode cX5_readFact 24 = .ok (.aload_n 0, 1) := by decide +kernel
theorem dX5_readFact_25 : decode cX5_readFact 25 = .ok (.iconst 4, 1) := by decide +kernel
theorem dX5_readFact_26 : decode cX5_readFact 26 = .ok (.invokevirtual 92, 3) := by decide +kernel
theorem dX5_readFact_29 : decode cX5_readFact 29 = .ok (.ireturn, 1) := by decide +kernel
theorem dX5_readFact_30 : decode cX5_readFact 30 = .ok (.aload_n 0, 1) := by decide +kernel
theorem dX5_readFact_31 : decode cX5_readFact 31 = .ok (.invokevirtual 105, 3) := by decide +kernel
theorem dX5_readFact_34 : decode cX5_readFact 34 = .ok (.iload_n 2, 1) := by decide +kernel
theorem dX5_readFact_35 : decode cX5_readFact 35 = .ok (.bipush 40, 2) := by decide +kernel
theorem dX5_readFact_37 : decode cX5_readFact 37 = .ok (.if_icmp .ne 28, 3) := by decide +kernel
theorem dX5_readFact_40 : decode cX5_readFact 40 = .ok (.aload_n 0, 1) := by decide +kernel
theorem dX5_readFact_41 : decode cX5_readFact 41 = .ok (.iload_n 1, 1) := by decide +kernel
theorem dX5_readFact_42 : decode cX5_readFact 42 = .ok (.iconst 1, 1) := by decide +kernel
theorem dX5_readFact_43 : decode cX5_readFact 43 = .ok (.iadd, 1) := by decide +kernel
theorem dX5_readFact_44 : decode cX5_readFact 44 = .ok (.invokevirtual 155, 3) := by decide +kernel
theorem dX5_readFact_47 : decode cX5_readFact 47 = .ok (.ifCond .eq 16, 3) := by decide +kernel
theorem dX5_readFact_50 : decode cX5_readFact 50 = .ok (.aload_n 0, 1) := by decide +kernel
theorem dX5_readFact_51 : decode cX5_readFact 51 = .ok (.bipush 41, 2) := by decide +kernel
theorem dX5_readFact_53 : decode cX5_readFact 53 = .ok (.invokevirtual 99, 3) := by decide +kernel
theorem dX5_readFact_56 : decode cX5_readFact 56 = .ok (.ifCond .eq 7, 3) := by decide +kernel
theorem dX5_readFact_59 : decode cX5_readFact 59 = .ok (.iconst 1, 1) := by decide +kernel
theorem dX5_readFact_60 : decode cX5_readFact 60 = .ok (.goto 4, 3) := by decide +kernel
theorem dX5_readFact_63 : decode cX5_readFact 63 = .ok (.iconst 0, 1) := by decide +kernel
theorem dX5_readFact_64 : decode cX5_readFact 64 = .ok (.ireturn, 1) := by decide +kernel
theorem dX5_readFact_65 : decode cX5_readFact 65 = .ok (.aload_n 0, 1) := by decide +kernel
theorem dX5_readFact_66 : decode cX5_readFact 66 = .ok (.iload_n 1, 1) := by decide +kernel
theorem dX5_readFact_67 : decode cX5_readFact 67 = .ok (.iconst 1, 1) := by decide +kernel
theorem dX5_readFact_68 : decode cX5_readFact 68 = .ok (.iadd, 1) := by decide +kernel
theorem dX5_readFact_69 : decode cX5_readFact 69 = .ok (.invokevirtual 211, 3) := by decide +kernel
theorem dX5_readFact_72 : decode cX5_readFact 72 = .ok (.ifCond .ne 5, 3) := by decide +kernel
theorem dX5_readFact_75 : decode cX5_readFact 75 = .ok (.iconst 0, 1) := by decide +kernel
theorem dX5_readFact_76 : decode cX5_readFact 76 = .ok (.ireturn, 1) := by decide +kernel
theorem dX5_readFact_77 : decode cX5_readFact 77 = .ok (.aload_n 0, 1) := by decide +kernel
theorem dX5_readFact_78 : decode cX5_readFact 78 = .ok (.getfield 31, 3) := by decide +kernel
theorem dX5_readFact_81 : decode cX5_readFact 81 = .ok (.sipush 2414, 3) := by decide +kernel
theorem dX5_readFact_84 : decode cX5_readFact 84 = .ok (.invokevirtual 214, 3) := by decide +kernel
theorem dX5_readFact_87 : decode cX5_readFact 87 = .ok (.iconst 1, 1) := by decide +kernel
theorem dX5_readFact_88 : decode cX5_readFact 88 = .ok (.ireturn, 1) := by decide +kernel
theorem dX5_readFact_89 : decode cX5_readFact 89 = .ok (.aload_n 0, 1) := by decide +kernel
theorem dX5_readFact_90 : decode cX5_readFact 90 = .ok (.iload_n 1, 1) := by decide +kernel
theorem dX5_readFact_91 : decode cX5_readFact 91 = .ok (.invokevirtual 164, 3) := by decide +kernel
theorem dX5_readFact_94 : decode cX5_readFact 94 = .ok (.ifCond .ne 5, 3) := by decide +kernel
theorem dX5_readFact_97 : decode cX5_readFact 97 = .ok (.iconst 0, 1) := by decide +kernel
theorem dX5_readFact_98 : decode cX5_readFact 98 = .ok (.ireturn, 1) := by decide +kernel
theorem dX5_readFact_99 : decode cX5_readFact 99 = .ok (.aload_n 0, 1) := by decide +kernel
theorem dX5_readFact_100 : decode cX5_readFact 100 = .ok (.invokevirtual 65, 3) := by decide +kernel
theorem dX5_readFact_103 : decode cX5_readFact 103 = .ok (.istore_n 3, 1) := by decide +kernel
theorem dX5_readFact_104 : decode cX5_readFact 104 = .ok (.iload_n 3, 1) := by decide +kernel
theorem dX5_readFact_105 : decode cX5_readFact 105 = .ok (.bipush 60, 2) := by decide +kernel
theorem dX5_readFact_107 : decode cX5_readFact 107 = .ok (.if_icmp .eq 21, 3) := by decide +kernel
theorem dX5_readFact_110 : decode cX5_readFact 110 = .ok (.iload_n 3, 1) := by decide +kernel
theorem dX5_readFact_111 : decode cX5_readFact 111 = .ok (.bipush 62, 2) := by decide +kernel
theorem dX5_readFact_113 : decode cX5_readFact 113 = .ok (.if_icmp .eq 15, 3) := by decide +kernel
theorem dX5_readFact_116 : decode cX5_readFact 116 = .ok (.iload_n 3, 1) := by decide +kernel
theorem dX5_readFact_117 : decode cX5_readFact 117 = .ok (.bipush 61, 2) := by decide +kernel
theorem dX5_readFact_119 : decode cX5_readFact 119 = .ok (.if_icmp .eq 9, 3) := by decide +kernel
theorem dX5_readFact_122 : decode cX5_readFact 122 = .ok (.aload_n 0, 1) := by decide +kernel
theorem dX5_readFact_123 : decode cX5_readFact 123 = .ok (.iconst 1, 1) := by decide +kernel
theorem dX5_readFact_124 : decode cX5_readFact 124 = .ok (.invokevirtual 92, 3) := by decide +kernel
theorem dX5_readFact_127 : decode cX5_readFact 127 = .ok (.ireturn, 1) := by decide +kernel
theorem dX5_readFact_128 : decode cX5_readFact 128 = .ok (.aload_n 0, 1) := by decide +kernel
theorem dX5_readFact_129 : decode cX5_readFact 129 = .ok (.invokevirtual 105, 3) := by decide +kernel
theorem dX5_readFact_132 : decode cX5_readFact 132 = .ok (.aload_n 0, 1) := by decide +kernel
theorem dX5_readFact_133 : decode cX5_readFact 133 = .ok (.iload_n 1, 1) := by decide +kernel
theorem dX5_readFact_134 : decode cX5_readFact 134 = .ok (.invokevirtual 164, 3) := by decide +kernel
theorem dX5_readFact_137 : decode cX5_readFact 137 = .ok (.ifCond .ne 5, 3) := by decide +kernel
theorem dX5_readFact_140 : decode cX5_readFact 140 = .ok (.iconst 0, 1) := by decide +kernel
theorem dX5_readFact_141 : decode cX5_readFact 141 = .ok (.ireturn, 1) := by decide +kernel
theorem dX5_readFact_142 : decode cX5_readFact 142 = .ok (.aload_n 0, 1) := by decide +kernel
theorem dX5_readFact_143 : decode cX5_readFact 143 = .ok (.getfield 31, 3) := by decide +kernel
theorem dX5_readFact_146 : decode cX5_readFact 146 = .ok (.sipush 2000, 3) := by decide +kernel
theorem dX5_readFact_149 : decode cX5_readFact 149 = .ok (.iload_n 3, 1) := by decide +kernel
theorem dX5_readFact_150 : decode cX5_readFact 150 = .ok (.iadd, 1) := by decide +kernel
theorem dX5_readFact_151 : decode cX5_readFact 151 = .ok (.invokevirtual 214, 3) := by decide +kernel
theorem dX5_readFact_154 : decode cX5_readFact 154 = .ok (.iconst 1, 1) := by decide +kernel
theorem dX5_readFact_155 : decode cX5_readFact 155 = .ok (.ireturn, 1) := by decide +kernel
theorem dX5_readSum_0 : decode cX5_readSum 0 = .ok (.aload_n 0, 1) := by decide +kernel
theorem dX5_readSum_1 : decode cX5_readSum 1 = .ok (.iload_n 1, 1) := by decide +kernel
theorem dX5_readSum_2 : decode cX5_readSum 2 = .ok (.invokevirtual 218, 3) := by decide +kernel
theorem dX5_readSum_5 : decode cX5_readSum 5 = .ok (.ifCond .ne 5, 3) := by decide +kernel
theorem dX5_readSum_8 : decode cX5_readSum 8 = .ok (.iconst 0, 1) := by decide +kernel
theorem dX5_readSum_9 : decode cX5_readSum 9 = .ok (.ireturn, 1) := by decide +kernel
theorem dX5_readSum_10 : decode cX5_readSum 10 = .ok (.iconst (-1), 1) := by decide +kernel
theorem dX5_readSum_11 : decode cX5_readSum 11 = .ok (.istore_n 2, 1) := by decide +kernel
theorem dX5_readSum_12 : decode cX5_readSum 12 = .ok (.iconst 0, 1) := by decide +kernel
theorem dX5_readSum_13 : decode cX5_readSum 13 = .ok (.istore_n 3, 1) := by decide +kernel
theorem dX5_readSum_14 : decode cX5_readSum 14 = .ok (.iload_n 3, 1) := by decide +kernel
theorem dX5_readSum_15 : decode cX5_readSum 15 = .ok (.bipush 30, 2) := by decide +kernel
theorem dX5_readSum_17 : decode cX5_readSum 17 = .ok (.if_icmp .gt 86, 3) := by decide +kernel
theorem dX5_readSum_20 : decode cX5_readSum 20 = .ok (.aload_n 0, 1) := by decide +kernel
theorem dX5_readSum_21 : decode cX5_readSum 21 = .ok (.invokevirtual 65, 3) := by decide +kernel
theorem dX5_readSum_24 : decode cX5_readSum 24 = .ok (.invokestatic 221, 3) := by decide +kernel
theorem dX5_readSum_27 : decode cX5_readSum 27 = .ok (.ifCond .eq 76, 3) := by decide +kernel
theorem dX5_readSum_30 : decode cX5_readSum 30 = .ok (.aload_n 0, 1) := by decide +kernel
theorem dX5_readSum_31 : decode cX5_readSum 31 = .ok (.invokevirtual 65, 3) := by decide +kernel
theorem dX5_readSum_34 : decode cX5_readSum 34 = .ok (.istore 4, 2) := by decide +kernel
theorem dX5_readSum_36 : decode cX5_readSum 36 = .ok (.iload 4, 2) := by decide +kernel
theorem dX5_readSum_38 : decode cX5_readSum 38 = .ok (.bipush 42, 2) := by decide +kernel
theorem dX5_readSum_40 : decode cX5_readSum 40 = .ok (.if_icmp .eq 23, 3) := by decide +kernel
theorem dX5_readSum_43 : decode cX5_readSum 43 = .ok (.iload_n 2, 1) := by decide +kernel
theorem dX5_readSum_44 : decode cX5_readSum 44 = .ok (.iconst (-1), 1) := by decide +kernel
theorem dX5_readSum_45 : decode cX5_readSum 45 = .ok (.if_icmp .eq 15, 3) := by decide +kernel
theorem dX5_readSum_48 : decode cX5_readSum 48 = .ok (.aload_n 0, 1) := by decide +kernel
theorem dX5_readSum_49 : decode cX5_readSum 49 = .ok (.getfield 31, 3) := by decide +kernel
theorem dX5_readSum_52 : decode cX5_readSum 52 = .ok (.sipush 2000, 3) := by decide +kernel
theorem dX5_readSum_55 : decode cX5_readSum 55 = .ok (.iload_n 2, 1) := by decide +kernel
theorem dX5_readSum_56 : decode cX5_readSum 56 = .ok (.iadd, 1) := by decide +kernel
theorem dX5_readSum_57 : decode cX5_readSum 57 = .ok (.invokevirtual 214, 3) := by decide +kernel
theorem dX5_readSum_60 : decode cX5_readSum 60 = .ok (.iload 4, 2) := by decide +kernel
theorem dX5_readSum_62 : decode cX5_readSum 62 = .ok (.istore_n 2, 1) := by decide +kernel
theorem dX5_readSum_63 : decode cX5_readSum 63 = .ok (.aload_n 0, 1) := by decide +kernel
theorem dX5_readSum_64 : decode cX5_readSum 64 = .ok (.invokevirtual 105, 3) := by decide +kernel
theorem dX5_readSum_67 : decode cX5_readSum 67 = .ok (.aload_n 0, 1) := by decide +kernel
theorem dX5_readSum_68 : decode cX5_readSum 68 = .ok (.iload_n 1, 1) := by decide +kernel
theorem dX5_readSum_69 : decode cX5_readSum 69 = .ok (.invokevirtual 218, 3) := by decide +kernel
theorem dX5_readSum_72 : decode cX5_readSum 72 = .ok (.ifCond .ne 5, 3) := by decide +kernel
theorem dX5_readSum_75 : decode cX5_readSum 75 = .ok (.iconst 0, 1) := by decide +kernel
theorem dX5_readSum_76 : decode cX5_readSum 76 = .ok (.ireturn, 1) := by decide +kernel
theorem dX5_readSum_77 : decode cX5_readSum 77 = .ok (.iload 4, 2) := by decide +kernel
theorem dX5_readSum_79 : decode cX5_readSum 79 = .ok (.bipush 42, 2) := by decide +kernel
theorem dX5_readSum_81 : decode cX5_readSum 81 = .ok (.if_icmp .ne 16, 3) := by decide +kernel
theorem dX5_readSum_84 : decode cX5_readSum 84 = .ok (.aload_n 0, 1) := by decide +kernel
theorem dX5_readSum_85 : decode cX5_readSum 85 = .ok (.getfield 31, 3) := by decide +kernel
theorem dX5_readSum_88 : decode cX5_readSum 88 = .ok (.sipush 2000, 3) := by decide +kernel
theorem dX5_readSum_91 : decode cX5_readSum 91 = .ok (.iload 4, 2) := by decide +kernel
theorem dX5_readSum_93 : decode cX5_readSum 93 = .ok (.iadd, 1) := by decide +kernel
theorem dX5_readSum_94 : decode cX5_readSum 94 = .ok (.invokevirtual 214, 3) := by decide +kernel
theorem dX5_readSum_97 : decode cX5_readSum 97 = .ok (.iinc 3 1, 3) := by decide +kernel
theorem dX5_readSum_100 : decode cX5_readSum 100 = .ok (.goto (-86), 3) := by decide +kernel
theorem dX5_readSum_103 : decode cX5_readSum 103 = .ok (.iload_n 2, 1) := by decide +kernel
theorem dX5_readSum_104 : decode cX5_readSum 104 = .ok (.iconst (-1), 1) := by decide +kernel
theorem dX5_readSum_105 : decode cX5_readSum 105 = .ok (.if_icmp .eq 15, 3) := by decide +kernel
theorem dX5_readSum_108 : decode cX5_readSum 108 = .ok (.aload_n 0, 1) := by decide +kernel
theorem dX5_readSum_109 : decode cX5_readSum 109 = .ok (.getfield 31, 3) := by decide +kernel
theorem dX5_readSum_112 : decode cX5_readSum 112 = .ok (.sipush 2000, 3) := by decide +kernel
theorem dX5_readSum_115 : decode cX5_readSum 115 = .ok (.iload_n 2, 1) := by decide +kernel
theorem dX5_readSum_116 : decode cX5_readSum 116 = .ok (.iadd, 1) := by decide +kernel
theorem dX5_readSum_117 : decode cX5_readSum 117 = .ok (.invokevirtual 214, 3) := by decide +kernel
theorem dX5_readSum_120 : decode cX5_readSum 120 = .ok (.iconst 1, 1) := by decide +kernel
theorem dX5_readSum_121 : decode cX5_readSum 121 = .ok (.ireturn, 1) := by decide +kernel
theorem dX5_readAtom_0 : decode cX5_readAtom 0 = .ok (.aload_n 0, 1) := by decide +kernel
theorem dX5_readAtom_1 : decode cX5_readAtom 1 = .ok (.invokevirtual 65, 3) := by decide +kernel
theorem dX5_readAtom_4 : decode cX5_readAtom 4 = .ok (.istore_n 2, 1) := by decide +kernel
theorem dX5_readAtom_5 : decode cX5_readAtom 5 = .ok (.iload_n 2, 1) := by decide +kernel
theorem dX5_readAtom_6 : decode cX5_readAtom 6 = .ok (.sipush 415, 3) := by decide +kernel
theorem dX5_readAtom_9 : decode cX5_readAtom 9 = .ok (.if_icmp .ne 14, 3) := by decide +kernel
theorem dX5_readAtom_12 : decode cX5_readAtom 12 = .ok (.aload_n 0, 1) := by decide +kernel
theorem dX5_readAtom_13 : decode cX5_readAtom 13 = .ok (.getfield 73, 3) := by decide +kernel
theorem dX5_readAtom_16 : decode cX5_readAtom 16 = .ok (.ifCond .eq 7, 3) := by decide +kernel
theorem dX5_readAtom_19 : decode cX5_readAtom 19 = .ok (.iconst 1, 1) := by decide +kernel
theorem dX5_readAtom_20 : decode cX5_readAtom 20 = .ok (.goto 4, 3) := by decide +kernel
theorem dX5_readAtom_23 : decode cX5_readAtom 23 = .ok (.iconst 0, 1) := by decide +kernel
theorem dX5_readAtom_24 : decode cX5_readAtom 24 = .ok (.istore_n 3, 1) := by decide +kernel
theorem dX5_readAtom_25 : decode cX5_readAtom 25 = .ok (.iload_n 2, 1) := by decide +kernel
theorem dX5_readAtom_26 : decode cX5_readAtom 26 = .ok (.sipush 303, 3) := by decide +kernel
theorem dX5_readAtom_29 : decode cX5_readAtom 29 = .ok (.if_icmp .eq 26, 3) := by decide +kernel
theorem dX5_readAtom_32 : decode cX5_readAtom 32 = .ok (.iload_n 2, 1) := by decide +kernel
theorem dX5_readAtom_33 : decode cX5_readAtom 33 = .ok (.sipush 302, 3) := by decide +kernel
theorem dX5_readAtom_36 : decode cX5_readAtom 36 = .ok (.if_icmp .eq 19, 3) := by decide +kernel
theorem dX5_readAtom_39 : decode cX5_readAtom 39 = .ok (.iload_n 2, 1) := by decide +kernel
theorem dX5_readAtom_40 : decode cX5_readAtom 40 = .ok (.bipush 91, 2) := by decide +kernel
theorem dX5_readAtom_42 : decode cX5_readAtom 42 = .ok (.if_icmp .eq 13, 3) := by decide +kernel
theorem dX5_readAtom_45 : decode cX5_readAtom 45 = .ok (.iload_n 3, 1) := by decide +kernel
theorem dX5_readAtom_46 : decode cX5_readAtom 46 = .ok (.ifCond .ne 9, 3) := by decide +kernel
theorem dX5_readAtom_49 : decode cX5_readAtom 49 = .ok (.aload_n 0, 1) := by decide +kernel
theorem dX5_readAtom_50 : decode cX5_readAtom 50 = .ok (.iconst 1, 1) := by decide +kernel
theorem dX5_readAtom_51 : decode cX5_readAtom 51 = .ok (.invokevirtual 92, 3) := by decide +kernel
theorem dX5_readAtom_54 : decode cX5_readAtom 54 = .ok (.ireturn, 1) := by decide +kernel
theorem dX5_readAtom_55 : decode cX5_readAtom 55 = .ok (.iload_n 2, 1) := by decide +kernel
theorem dX5_readAtom_56 : decode cX5_readAtom 56 = .ok (.sipush 302, 3) := by decide +kernel
theorem dX5_readAtom_59 : decode cX5_readAtom 59 = .ok (.if_icmp .ne 14, 3) := by decide +kernel
theorem dX5_readAtom_62 : decode cX5_readAtom 62 = .ok (.aload_n 0, 1) := by decide +kernel
theorem dX5_readAtom_63 : decode cX5_readAtom 63 = .ok (.aload_n 0, 1) := by decide +kernel
theorem dX5_readAtom_64 : decode cX5_readAtom 64 = .ok (.invokevirtual 111, 3) := by decide +kernel
theorem dX5_readAtom_67 : decode cX5_readAtom 67 = .ok (.invokevirtual 201, 3) := by decide +kernel
theorem dX5_readAtom_70 : decode cX5_readAtom 70 = .ok (.goto 5, 3) := by decide +kernel
theorem dX5_readAtom_73 : decode cX5_readAtom 73 = .ok (.bipush 6, 2) := by decide +kernel
theorem dX5_readAtom_75 : decode cX5_readAtom 75 = .ok (.istore 4, 2) := by decide +kernel
theorem dX5_readAtom_77 : decode cX5_readAtom 77 = .ok (.iload 4, 2) := by decide +kernel
theorem dX5_readAtom_79 : decode cX5_readAtom 79 = .ok (.iconst (-1), 1) := by decide +kernel
theorem dX5_readAtom_80 : decode cX5_readAtom 80 = .ok (.if_icmp .ne 9, 3) := by decide +kernel
theorem dX5_readAtom_83 : decode cX5_readAtom 83 = .ok (.aload_n 0, 1) := by decide +kernel
theorem dX5_readAtom_84 : decode cX5_readAtom 84 = .ok (.iconst 3, 1) := by decide +kernel
theorem dX5_readAtom_85 : decode cX5_readAtom 85 = .ok (.invokevirtual 92, 3) := by decide +kernel
theorem dX5_readAtom_88 : decode cX5_readAtom 88 = .ok (.ireturn, 1) := by decide +kernel
theorem dX5_readAtom_89 : decode cX5_readAtom 89 = .ok (.aload_n 0, 1) := by decide +kernel
theorem dX5_readAtom_90 : decode cX5_readAtom 90 = .ok (.dup, 1) := by decide +kernel
theorem dX5_readAtom_91 : decode cX5_readAtom 91 = .ok (.getfield 224, 3) := by decide +kernel
theorem dX5_readAtom_94 : decode cX5_readAtom 94 = .ok (.iconst 1, 1) := by decide +kernel
theorem dX5_readAtom_95 : decode cX5_readAtom 95 = .ok (.iadd, 1) := by decide +kernel
theorem dX5_readAtom_96 : decode cX5_readAtom 96 = .ok (.putfield 224, 3) := by decide +kernel
theorem dX5_readAtom_99 : decode cX5_readAtom 99 = .ok (.aload_n 0, 1) := by decide +kernel
theorem dX5_readAtom_100 : decode cX5_readAtom 100 = .ok (.getfield 224, 3) := by decide +kernel
theorem dX5_readAtom_103 : decode cX5_readAtom 103 = .ok (.bipush 30, 2) := by decide +kernel
theorem dX5_readAtom_105 : decode cX5_readAtom 105 = .ok (.if_icmp .gt 15, 3) := by decide +kernel
theorem dX5_readAtom_108 : decode cX5_readAtom 108 = .ok (.iload_n 2, 1) := by decide +kernel
theorem dX5_readAtom_109 : decode cX5_readAtom 109 = .ok (.bipush 91, 2) := by decide +kernel
theorem dX5_readAtom_111 : decode cX5_readAtom 111 = .ok (.if_icmp .ne 15, 3) := by decide +kernel
theorem dX5_readAtom_114 : decode cX5_readAtom 114 = .ok (.iload_n 1, 1) := by decide +kernel
theorem dX5_readAtom_115 : decode cX5_readAtom 115 = .ok (.bipush 8, 2) := by decide +kernel
theorem dX5_readAtom_117 : decode cX5_readAtom 117 = .ok (.if_icmp .lt 9, 3) := by decide +kernel
theorem dX5_readAtom_120 : decode cX5_readAtom 120 = .ok (.aload_n 0, 1) := by decide +kernel
theorem dX5_readAtom_121 : decode cX5_readAtom 121 = .ok (.iconst 4, 1) := by decide +kernel
theorem dX5_readAtom_122 : decode cX5_readAtom 122 = .ok (.invokevirtual 92, 3) := by decide +kernel
theorem dX5_readAtom_125 : decode cX5_readAtom 125 = .ok (.ireturn, 1) := by decide +kernel
theorem dX5_readAtom_126 : decode cX5_readAtom 126 = .ok (.iload_n 2, 1) := by decide +kernel
theorem dX5_readAtom_127 : decode cX5_readAtom 127 = .ok (.bipush 91, 2) := by decide +kernel
theorem dX5_readAtom_129 : decode cX5_readAtom 129 = .ok (.if_icmp .eq 33, 3) := by decide +kernel
theorem dX5_readAtom_132 : decode cX5_readAtom 132 = .ok (.aload_n 0, 1) := by decide +kernel
theorem dX5_readAtom_133 : decode cX5_readAtom 133 = .ok (.getfield 31, 3) := by decide +kernel
theorem dX5_readAtom_136 : decode cX5_readAtom 136 = .ok (.iload_n 2, 1) := by decide +kernel
theorem dX5_readAtom_137 : decode cX5_readAtom 137 = .ok (.sipush 303, 3) := by decide +kernel
theorem dX5_readAtom_140 : decode cX5_readAtom 140 = .ok (.if_icmp .ne 10, 3) := by decide +kernel
theorem dX5_readAtom_143 : decode cX5_readAtom 143 = .ok (.aload_n 0, 1) := by decide +kernel
theorem dX5_readAtom_144 : decode cX5_readAtom 144 = .ok (.invokevirtual 131, 3) := by decide +kernel
theorem dX5_readAtom_147 : decode cX5_readAtom 147 = .ok (.goto 9, 3) := by decide +kernel
theorem dX5_readAtom_150 : decode cX5_readAtom 150 = .ok (.sipush 1000, 3) := by decide +kernel
theorem dX5_readAtom_153 : decode cX5_readAtom 153 = .ok (.iload 4, 2) := by decide +kernel
theorem dX5_readAtom_155 : decode cX5_readAtom 155 = .ok (.iadd, 1) := by decide +kernel
theorem dX5_readAtom_156 : decode cX5_readAtom 156 = .ok (.invokevirtual 214, 3) := by decide +kernel
theorem dX5_readAtom_159 : decode cX5_readAtom 159 = .ok (.goto 34, 3) := by decide +kernel
theorem dX5_readAtom_162 : decode cX5_readAtom 162 = .ok (.aload_n 0, 1) := by decide +kernel
theorem dX5_readAtom_163 : decode cX5_readAtom 163 = .ok (.invokevirtual 105, 3) := by decide +kernel
theorem dX5_readAtom_166 : decode cX5_readAtom 166 = .ok (.aload_n 0, 1) := by decide +kernel
theorem dX5_readAtom_167 : decode cX5_readAtom 167 = .ok (.iload_n 1, 1) := by decide +kernel
theorem dX5_readAtom_168 : decode cX5_readAtom 168 = .ok (.iconst 1, 1) := by decide +kernel
theorem dX5_readAtom_169 : decode cX5_readAtom 169 = .ok (.iadd, 1) := by decide +kernel
theorem dX5_readAtom_170 : decode cX5_readAtom 170 = .ok (.invokevirtual 164, 3) := by decide +kernel
theorem dX5_readAtom_173 : decode cX5_readAtom 173 = .ok (.ifCond .ne 5, 3) := by decide +kernel
theorem dX5_readAtom_176 : decode cX5_readAtom 176 = .ok (.iconst 0, 1) := by decide +kernel
theorem dX5_readAtom_177 : decode cX5_readAtom 177 = .ok (.ireturn, 1) := by decide +kernel
theorem dX5_readAtom_178 : decode cX5_readAtom 178 = .ok (.aload_n 0, 1) := by decide +kernel
theorem dX5_readAtom_179 : decode cX5_readAtom 179 = .ok (.invokevirtual 65, 3) := by decide +kernel
theorem dX5_readAtom_182 : decode cX5_readAtom 182 = .ok (.bipush 93, 2) := by decide +kernel
theorem dX5_readAtom_184 : decode cX5_readAtom 184 = .ok (.if_icmp .eq 9, 3) := by decide +kernel
theorem dX5_readAtom_187 : decode cX5_readAtom 187 = .ok (.aload_n 0, 1) := by decide +kernel
theorem dX5_readAtom_188 : decode cX5_readAtom 188 = .ok (.iconst 1, 1) := by decide +kernel
theorem dX5_readAtom_189 : decode cX5_readAtom 189 = .ok (.invokevirtual 92, 3) := by decide +kernel
theorem dX5_readAtom_192 : decode cX5_readAtom 192 = .ok (.ireturn, 1) := by decide +kernel
theorem dX5_readAtom_193 : decode cX5_readAtom 193 = .ok (.aload_n 0, 1) := by decide +kernel
theorem dX5_readAtom_194 : decode cX5_readAtom 194 = .ok (.invokevirtual 105, 3) := by decide +kernel
theorem dX5_readAtom_197 : decode cX5_readAtom 197 = .ok (.iconst 1, 1) := by decide +kernel
theorem dX5_readAtom_198 : decode cX5_readAtom 198 = .ok (.ireturn, 1) := by decide +kernel
def CtGX5R (E : Ev) (S : Sh) (Z : Option Nat) (d : Nat) (Gr : Nat → Hp → Nat → Int32 → (Int32 → Hp → Prop) → Prop) : Prop := ∀ (h : Hp) (a0 : Nat) (x1 : Int32) (Q : Int32 → Hp → Prop), (Gr 0 h a0 x1 Q → Ct E yX5_readTest cX5_readTest 5 (some .boolean) (3 + d) (66 + 40 * d) 0 0 S Z h [vr a0, vi x1] (qI S Z Q)) ∧ (Gr 1 h a0 x1 Q → Ct E yX5_readFact cX5_readFact 4 (some .boolean) (3 + d) (66 + 40 * d) 0 0 S Z h [vr a0, vi x1] (qI S Z Q)) ∧ (Gr 2 h a0 x1 Q → Ct E yX5_readSum cX5_readSum 5 (some .boolean) (3 + d) (66 + 40 * d) 0 0 S Z h [vr a0, vi x1] (qI S Z Q)) ∧ (Gr 3 h a0 x1 Q → Ct E yX5_readAtom cX5_readAtom 5 (some .boolean) (3 + d) (66 + 40 * d) 0 0 S Z h [vr a0, vi x1] (qI S Z Q))
theorem okX5_readTest_j116 {E : Ev} {X : Cx} {S : Sh} {Z : Option Nat} {d : Nat} {Gr : Nat → Hp → Nat → Int32 → (Int32 → Hp → Prop) → Prop} {Q : Int32 → Hp → Prop} {h : Hp} {a0 : Nat} {x2 : Int32} (O : Ok E X yX5_readTest cX5_readTest 5 (some .boolean) (3 + (d + 1)) (66 + 40 * (d + 1)) 0 0 (qI S Z Q)) (hG : CtGX5R E S Z d Gr) (hw : wX5_readTest_j116 S Gr h a0 x2 Q) : G E X 0 0 S Z h 116 [some (vr a0), none, some (vi x2), none, none] [] := by
  unfold wX5_readTest_j116 at hw
  refine g_iload_n O dX5_readTest_116 rfl ?_
  refine g_if_eq (tgt := 130) O dX5_readTest_117 rfl (fun q117 => ?_) (fun q117 => ?_)
  · have hw := hw.1 q117
    refine g_iconst O dX5_readTest_130 kv_1 ?_
    exact g_zreturn O dX5_readTest_131 (by decide) ⟨rfl, rfl, _, rfl, hw⟩
  · have hw := hw.2 q117
    refine g_aload_n O dX5_readTest_120 rfl ?_
    obtain ⟨c121, hw⟩ := hw
    refine gf_X5_model O dX5_readTest_121 fl_X5_31 c121 ?_
    refine g_sipush O dX5_readTest_124 ks_2412 ?_
    obtain ⟨c127, hw⟩ := hw
    refine g_callV (As := [vi (2412 : Int32)]) (rest := []) O ci_3 rfl dX5_readTest_127 ml_X5_214 im_yX3_emit se_yX3_emit ini_X3 co_yX3_emit yo_yX3_emit c127 rfl rfl (Nat.le_of_ble_eq_true rfl) ⟨by omega, by omega, by omega, by omega⟩ (okX3_emit hw) (k_V fun h127 hw => ?_)
    refine g_iconst O dX5_readTest_130 kv_1 ?_
    exact g_zreturn O dX5_readTest_131 (by decide) ⟨rfl, rfl, _, rfl, hw⟩
theorem okX5_readTest_j76 {E : Ev} {X : Cx} {S : Sh} {Z : Option Nat} {d : Nat} {Gr : Nat → Hp → Nat → Int32 → (Int32 → Hp → Prop) → Prop} {Q : Int32 → Hp → Prop} {B14 : Hp → Int32 → Int32 → Prop} {h : Hp} {a0 : Nat} {x1 : Int32} {x2 : Int32} {x3 : Int32} {x4 : Int32} (O : Ok E X yX5_readTest cX5_readTest 5 (some .boolean) (3 + (d + 1)) (66 + 40 * (d + 1)) 0 0 (qI S Z Q)) (hG : CtGX5R E S Z d Gr) (hB14 : ∀ (h : Hp) (x2 : Int32) (x3 : Int32), B14 h x2 x3 → G E X 0 0 S Z h 14 [some (vr a0), some (vi x1), some (vi x2), some (vi x3), none] []) (hw : wX5_readTest_j76 S Gr B14 h a0 x1 x2 x3 x4 Q) : G E X 0 0 S Z h 76 [some (vr a0), some (vi x1), some (vi x2), some (vi x3), some (vi x4)] [] := by
  unfold wX5_readTest_j76 at hw
  refine g_iload_n O dX5_readTest_76 rfl ?_
  refine g_iload O dX5_readTest_77 rfl ?_
  refine g_ior O dX5_readTest_79 ?_
  refine g_istore_n (lc' := [some (vr a0), some (vi x1), some (vi (x2 ||| x4)), some (vi x3), some (vi x4)]) O dX5_readTest_80 rfl (Nat.le_of_ble_eq_true rfl) rfl ?_
  refine g_aload_n O dX5_readTest_81 rfl ?_
  obtain ⟨c82, hw⟩ := hw
  refine g_callV (As := []) (rest := []) O ci_5 rfl dX5_readTest_82 ml_X5_105 im_yX5_advance se_yX5_advance ini_X5 co_yX5_advance yo_yX5_advance c82 rfl rfl (Nat.le_of_ble_eq_true rfl) ⟨by omega, by omega, by omega, by omega⟩ (okX5_advance hw) (k_V fun h82 hw => ?_)
  refine g_aload_n O dX5_readTest_85 rfl ?_
  refine g_iload_n O dX5_readTest_86 rfl ?_
  refine g_callV (As := [vi x1]) (rest := []) O ci_5 rfl dX5_readTest_87 ml_X5_211 im_yX5_readFact se_yX5_readFact ini_X5 co_yX5_readFact yo_yX5_readFact c82 rfl rfl (Nat.le_of_ble_eq_true rfl) ⟨by omega, by omega, by omega, by omega⟩ ((hG _ _ _ _).2.1 hw) (k_I fun r87 h87 hw => ?_)
  refine g_if_ne (tgt := 95) O dX5_readTest_90 rfl (fun q90 => ?_) (fun q90 => ?_)
  · have hw := hw.1 q90
    refine g_iload O dX5_readTest_95 rfl ?_
    refine g_if_ne (tgt := 110) O dX5_readTest_97 rfl (fun q97 => ?_) (fun q97 => ?_)
    · have hw := hw.1 q97
      refine g_iinc (lc' := [some (vr a0), some (vi x1), some (vi (x2 ||| x4)), some (vi (x3 + (1 : Int32))), some (vi x4)]) O dX5_readTest_110 rfl kv_1 rfl rfl ?_
      refine g_goto (tgt := 14) O dX5_readTest_113 rfl ?_
      refine g_mask [true, true, true, true, false] rfl rfl ?_
      exact hB14 _ _ _ hw
    · have hw := hw.2 q97
      refine g_aload_n O dX5_readTest_100 rfl ?_
      refine gf_X5_model O dX5_readTest_101 fl_X5_31 c82 ?_
      refine g_sipush O dX5_readTest_104 ks_2413 ?_
      obtain ⟨c107, hw⟩ := hw
      refine g_callV (As := [vi (2413 : Int32)]) (rest := []) O ci_3 rfl dX5_readTest_107 ml_X5_214 im_yX3_emit se_yX3_emit ini_X3 co_yX3_emit yo_yX3_emit c107 rfl rfl (Nat.le_of_ble_eq_true rfl) ⟨by omega, by omega, by omega, by omega⟩ (okX3_emit hw) (k_V fun h107 hw => ?_)
      refine g_iinc (lc' := [some (vr a0), some (vi x1), some (vi (x2 ||| x4)), some (vi (x3 + (1 : Int32))), some (vi x4)]) O dX5_readTest_110 rfl kv_1 rfl rfl ?_
      refine g_goto (tgt := 14) O dX5_readTest_113 rfl ?_
      refine g_mask [true, true, true, true, false] rfl rfl ?_
      exact hB14 _ _ _ hw
  · have hw := hw.2 q90
    refine g_iconst O dX5_readTest_93 kv_0 ?_
    exact g_zreturn O dX5_readTest_94 (by decide) ⟨rfl, rfl, _, rfl, hw⟩
theorem okX5_readTest_j55 {E : Ev} {X : Cx} {S : Sh} {Z : Option Nat} {d : Nat} {Gr : Nat → Hp → Nat → Int32 → (Int32 → Hp → Prop) → Prop} {Q : Int32 → Hp → Prop} {B14 : Hp → Int32 → Int32 → Prop} {h : Hp} {a0 : Nat} {x1 : Int32} {x2 : Int32} {x3 : Int32} {s0 : Int32} (O : Ok E X yX5_readTest cX5_readTest 5 (some .boolean) (3 + (d + 1)) (66 + 40 * (d + 1)) 0 0 (qI S Z Q)) (hG : CtGX5R E S Z d Gr) (hB14 : ∀ (h : Hp) (x2 : Int32) (x3 : Int32), B14 h x2 x3 → G E X 0 0 S Z h 14 [some (vr a0), some (vi x1), some (vi x2), some (vi x3), none] []) (hw : wX5_readTest_j55 S Gr B14 h a0 x1 x2 x3 s0 Q) : G E X 0 0 S Z h 55 [some (vr a0), some (vi x1), some (vi x2), some (vi x3), none] [vi s0] := by
  unfold wX5_readTest_j55 at hw
  refine g_istore (lc' := [some (vr a0), some (vi x1), some (vi x2), some (vi x3), some (vi s0)]) O dX5_readTest_55 rfl (Nat.le_of_ble_eq_true rfl) rfl ?_
  refine g_iload O dX5_readTest_57 rfl ?_
  refine g_if_eq (tgt := 76) O dX5_readTest_59 rfl (fun q59 => ?_) (fun q59 => ?_)
  · have hw := hw.1 q59
    exact okX5_readTest_j76 O hG hB14 hw
  · have hw := hw.2 q59
    refine g_iload_n O dX5_readTest_62 rfl ?_
    refine g_if_eq (tgt := 76) O dX5_readTest_63 rfl (fun q63 => ?_) (fun q63 => ?_)
    · have hw := hw.1 q63
      exact okX5_readTest_j76 O hG hB14 hw
    · have hw := hw.2 q63
      refine g_aload_n O dX5_readTest_66 rfl ?_
      obtain ⟨c67, hw⟩ := hw
      refine gf_X5_model O dX5_readTest_67 fl_X5_31 c67 ?_
      refine g_sipush O dX5_readTest_70 ks_2412 ?_
      obtain ⟨c73, hw⟩ := hw
      refine g_callV (As := [vi (2412 : Int32)]) (rest := []) O ci_3 rfl dX5_readTest_73 ml_X5_214 im_yX3_emit se_yX3_emit ini_X3 co_yX3_emit yo_yX3_emit c73 rfl rfl (Nat.le_of_ble_eq_true rfl) ⟨by omega, by omega, by omega, by omega⟩ (okX3_emit hw) (k_V fun h73 hw => ?_)
      exact okX5_readTest_j76 O hG hB14 hw
theorem okX5_readTest_j40 {E : Ev} {X : Cx} {S : Sh} {Z : Option Nat} {d : Nat} {Gr : Nat → Hp → Nat → Int32 → (Int32 → Hp → Prop) → Prop} {Q : Int32 → Hp → Prop} {B14 : Hp → Int32 → Int32 → Prop} {h : Hp} {a0 : Nat} {x1 : Int32} {x2 : Int32} {x3 : Int32} (O : Ok E X yX5_readTest cX5_readTest 5 (some .boolean) (3 + (d + 1)) (66 + 40 * (d + 1)) 0 0 (qI S Z Q)) (hG : CtGX5R E S Z d Gr) (hB14 : ∀ (h : Hp) (x2 : Int32) (x3 : Int32), B14 h x2 x3 → G E X 0 0 S Z h 14 [some (vr a0), some (vi x1), some (vi x2), some (vi x3), none] []) (hw : wX5_readTest_j40 S Gr B14 h a0 x1 x2 x3 Q) : G E X 0 0 S Z h 40 [some (vr a0), some (vi x1), some (vi x2), some (vi x3), none] [] := by
  unfold wX5_readTest_j40 at hw
  refine g_aload_n O dX5_readTest_40 rfl ?_
  obtain ⟨c41, hw⟩ := hw
  refine g_callV (As := []) (rest := []) O ci_5 rfl dX5_readTest_41 ml_X5_65 im_yX5_kind se_yX5_kind ini_X5 co_yX5_kind yo_yX5_kind c41 rfl rfl (Nat.le_of_ble_eq_true rfl) ⟨by omega, by omega, by omega, by omega⟩ (okX5_kind hw) (k_I fun r41 h41 hw => ?_)
  refine g_sipush O dX5_readTest_44 ks_412 ?_
  refine g_icmp_ne (tgt := 54) O dX5_readTest_47 rfl (fun q47 => ?_) (fun q47 => ?_)
  · have hw := hw.1 q47
    refine g_iconst O dX5_readTest_54 kv_0 ?_
    exact okX5_readTest_j55 O hG hB14 hw
  · have hw := hw.2 q47
    refine g_iconst O dX5_readTest_50 kv_1 ?_
    refine g_goto (tgt := 55) O dX5_readTest_51 rfl ?_
    exact okX5_readTest_j55 O hG hB14 hw
theorem okX5_readTest_14 {E : Ev} {X : Cx} {S : Sh} {Z : Option Nat} {d : Nat} {Gr : Nat → Hp → Nat → Int32 → (Int32 → Hp → Prop) → Prop} {Q : Int32 → Hp → Prop} {a0 : Nat} {x1 : Int32} (O : Ok E X yX5_readTest cX5_readTest 5 (some .boolean) (3 + (d + 1)) (66 + 40 * (d + 1)) 0 0 (qI S Z Q)) (hG : CtGX5R E S Z d Gr) : ∀ (n : Nat) (h : Hp) (x2 : Int32) (x3 : Int32), wX5_readTest_14 S Gr a0 x1 Q n h x2 x3 → G E X 0 0 S Z h 14 [some (vr a0), some (vi x1), some (vi x2), some (vi x3), none] [] := by
  intro n
  induction n with
  | zero => intro h x2 x3 hw; exact hw.elim
  | succ n hB14 =>
    intro h x2 x3 hw
    have hw : wX5_readTest_14b S Gr a0 x1 Q (wX5_readTest_14 S Gr a0 x1 Q n) h x2 x3 := hw
    unfold wX5_readTest_14b at hw
    refine g_iload_n O dX5_readTest_14 rfl ?_
    refine g_bipush O dX5_readTest_15 kb_30 ?_
    refine g_icmp_gt (tgt := 116) O dX5_readTest_17 rfl (fun q17 => ?_) (fun q17 => ?_)
    · have hw := hw.1 q17
      refine g_mask [true, false, true, false, false] rfl rfl ?_
      exact okX5_readTest_j116 O hG hw
    · have hw := hw.2 q17
      refine g_aload_n O dX5_readTest_20 rfl ?_
      obtain ⟨c21, hw⟩ := hw
      refine g_callV (As := []) (rest := []) O ci_5 rfl dX5_readTest_21 ml_X5_65 im_yX5_kind se_yX5_kind ini_X5 co_yX5_kind yo_yX5_kind c21 rfl rfl (Nat.le_of_ble_eq_true rfl) ⟨by omega, by omega, by omega, by omega⟩ (okX5_kind hw) (k_I fun r21 h21 hw => ?_)
      refine g_sipush O dX5_readTest_24 ks_413 ?_
      refine g_icmp_eq (tgt := 40) O dX5_readTest_27 rfl (fun q27 => ?_) (fun q27 => ?_)
      · have hw := hw.1 q27
        exact okX5_readTest_j40 O hG hB14 hw
      · have hw := hw.2 q27
        refine g_aload_n O dX5_readTest_30 rfl ?_
        refine g_callV (As := []) (rest := []) O ci_5 rfl dX5_readTest_31 ml_X5_65 im_yX5_kind se_yX5_kind ini_X5 co_yX5_kind yo_yX5_kind c21 rfl rfl (Nat.le_of_ble_eq_true rfl) ⟨by omega, by omega, by omega, by omega⟩ (okX5_kind hw) (k_I fun r31 h31 hw => ?_)
        refine g_sipush O dX5_readTest_34 ks_412 ?_
        refine g_icmp_ne (tgt := 116) O dX5_readTest_37 rfl (fun q37 => ?_) (fun q37 => ?_)
        · have hw := hw.1 q37
          refine g_mask [true, false, true, false, false] rfl rfl ?_
          exact okX5_readTest_j116 O hG hw
        · have hw := hw.2 q37
          exact okX5_readTest_j40 O hG hB14 hw
theorem okX5_readTest_b {E : Ev} {S : Sh} {Z : Option Nat} {d : Nat} {Gr : Nat → Hp → Nat → Int32 → (Int32 → Hp → Prop) → Prop} {Q : Int32 → Hp → Prop} {h : Hp} {a0 : Nat} {x1 : Int32} (hG : CtGX5R E S Z d Gr) (hw : wX5_readTest_b S Gr h a0 x1 Q) : Ct E yX5_readTest cX5_readTest 5 (some .boolean) (3 + (d + 1)) (66 + 40 * (d + 1)) 0 0 S Z h [vr a0, vi x1] (qI S Z Q) := by
  refine Ct.of (by decide) (lc := [some (vr a0), some (vi x1), none, none, none]) (Nat.le_of_ble_eq_true rfl) rfl (fun X O => ?_)
  unfold wX5_readTest_b at hw
  refine g_aload_n O dX5_readTest_0 rfl ?_
  refine g_iload_n O dX5_readTest_1 rfl ?_
  obtain ⟨c2, hw⟩ := hw
  refine g_callV (As := [vi x1]) (rest := []) O ci_5 rfl dX5_readTest_2 ml_X5_211 im_yX5_readFact se_yX5_readFact ini_X5 co_yX5_readFact yo_yX5_readFact c2 rfl rfl (Nat.le_of_ble_eq_true rfl) ⟨by omega, by omega, by omega, by omega⟩ ((hG _ _ _ _).2.1 hw) (k_I fun r2 h2 hw => ?_)
  refine g_if_ne (tgt := 10) O dX5_readTest_5 rfl (fun q5 => ?_) (fun q5 => ?_)
  · have hw := hw.1 q5
    refine g_iconst O dX5_readTest_10 kv_0 ?_
    refine g_istore_n (lc' := [some (vr a0), some (vi x1), some (vi (0 : Int32)), none, none]) O dX5_readTest_11 rfl (Nat.le_of_ble_eq_true rfl) rfl ?_
    refine g_iconst O dX5_readTest_12 kv_0 ?_
    refine g_istore_n (lc' := [some (vr a0), some (vi x1), some (vi (0 : Int32)), some (vi (0 : Int32)), none]) O dX5_readTest_13 rfl (Nat.le_of_ble_eq_true rfl) rfl ?_
    obtain ⟨n14, hw⟩ := hw
    exact okX5_readTest_14 O hG n14 _ _ _ hw
  · have hw := hw.2 q5
    refine g_iconst O dX5_readTest_8 kv_0 ?_
    exact g_zreturn O dX5_readTest_9 (by decide) ⟨rfl, rfl, _, rfl, hw⟩
theorem okX5_readFact_j128 {E : Ev} {X : Cx} {S : Sh} {Z : Option Nat} {d : Nat} {Gr : Nat → Hp → Nat → Int32 → (Int32 → Hp → Prop) → Prop} {Q : Int32 → Hp → Prop} {h : Hp} {a0 : Nat} {x1 : Int32} {x3 : Int32} (O : Ok E X yX5_readFact cX5_readFact 4 (some .boolean) (3 + (d + 1)) (66 + 40 * (d + 1)) 0 0 (qI S Z Q)) (hG : CtGX5R E S Z d Gr) (hw : wX5_readFact_j128 S Gr h a0 x1 x3 Q) : G E X 0 0 S Z h 128 [some (vr a0), some (vi x1), none, some (vi x3)] [] := by
  unfold wX5_readFact_j128 at hw
  refine g_aload_n O dX5_readFact_128 rfl ?_
  obtain ⟨c129, hw⟩ := hw
  refine g_callV (As := []) (rest := []) O ci_5 rfl dX5_readFact_129 ml_X5_105 im_yX5_advance se_yX5_advance ini_X5 co_yX5_advance yo_yX5_advance c129 rfl rfl (Nat.le_of_ble_eq_true rfl) ⟨by omega, by omega, by omega, by omega⟩ (okX5_advance hw) (k_V fun h129 hw => ?_)
  refine g_aload_n O dX5_readFact_132 rfl ?_
  refine g_iload_n O dX5_readFact_133 rfl ?_
  refine g_callV (As := [vi x1]) (rest := []) O ci_5 rfl dX5_readFact_134 ml_X5_164 im_yX5_readSum se_yX5_readSum ini_X5 co_yX5_readSum yo_yX5_readSum c129 rfl rfl (Nat.le_of_ble_eq_true rfl) ⟨by omega, by omega, by omega, by omega⟩ ((hG _ _ _ _).2.2.1 hw) (k_I fun r134 h134 hw => ?_)
  refine g_if_ne (tgt := 142) O dX5_readFact_137 rfl (fun q137 => ?_) (fun q137 => ?_)
  · have hw := hw.1 q137
    refine g_aload_n O dX5_readFact_142 rfl ?_
    refine gf_X5_model O dX5_readFact_143 fl_X5_31 c129 ?_
    refine g_sipush O dX5_readFact_146 ks_2000 ?_
    refine g_iload_n O dX5_readFact_149 rfl ?_
    refine g_iadd O dX5_readFact_150 ?_
    obtain ⟨c151, hw⟩ := hw
    refine g_callV (As := [vi (((2000 : Int32) + x3))]) (rest := []) O ci_3 rfl dX5_readFact_151 ml_X5_214 im_yX3_emit se_yX3_emit ini_X3 co_yX3_emit yo_yX3_emit c151 rfl rfl (Nat.le_of_ble_eq_true rfl) ⟨by omega, by omega, by omega, by omega⟩ (okX3_emit hw) (k_V fun h151 hw => ?_)
    refine g_iconst O dX5_readFact_154 kv_1 ?_
    exact g_zreturn O dX5_readFact_155 (by decide) ⟨rfl, rfl, _, rfl, hw⟩
  · have hw := hw.2 q137
    refine g_iconst O dX5_readFact_140 kv_0 ?_
    exact g_zreturn O dX5_readFact_141 (by decide) ⟨rfl, rfl, _, rfl, hw⟩
theorem okX5_readFact_j18 {E : Ev} {X : Cx} {S : Sh} {Z : Option Nat} {d : Nat} {Gr : Nat → Hp → Nat → Int32 → (Int32 → Hp → Prop) → Prop} {Q : Int32 → Hp → Prop} {h : Hp} {a0 : Nat} {x1 : Int32} {x2 : Int32} (O : Ok E X yX5_readFact cX5_readFact 4 (some .boolean) (3 + (d + 1)) (66 + 40 * (d + 1)) 0 0 (qI S Z Q)) (hG : CtGX5R E S Z d Gr) (hw : wX5_readFact_j18 S Gr h a0 x1 x2 Q) : G E X 0 0 S Z h 18 [some (vr a0), some (vi x1), some (vi x2), none] [] := by
  unfold wX5_readFact_j18 at hw
  refine g_iload_n O dX5_readFact_18 rfl ?_
  refine g_bipush O dX5_readFact_19 kb_8 ?_
  refine g_icmp_lt (tgt := 30) O dX5_readFact_21 rfl (fun q21 => ?_) (fun q21 => ?_)
  · have hw := hw.1 q21
    refine g_aload_n O dX5_readFact_30 rfl ?_
    obtain ⟨c31, hw⟩ := hw
    refine g_callV (As := []) (rest := []) O ci_5 rfl dX5_readFact_31 ml_X5_105 im_yX5_advance se_yX5_advance ini_X5 co_yX5_advance yo_yX5_advance c31 rfl rfl (Nat.le_of_ble_eq_true rfl) ⟨by omega, by omega, by omega, by omega⟩ (okX5_advance hw) (k_V fun h31 hw => ?_)
    refine g_iload_n O dX5_readFact_34 rfl ?_
    refine g_bipush O dX5_readFact_35 kb_40 ?_
    refine g_icmp_ne (tgt := 65) O dX5_readFact_37 rfl (fun q37 => ?_) (fun q37 => ?_)
    · have hw := hw.1 q37
      refine g_aload_n O dX5_readFact_65 rfl ?_
      refine g_iload_n O dX5_readFact_66 rfl ?_
      refine g_iconst O dX5_readFact_67 kv_1 ?_
      refine g_iadd O dX5_readFact_68 ?_
      refine g_callV (As := [vi ((x1 + (1 : Int32)))]) (rest := []) O ci_5 rfl dX5_readFact_69 ml_X5_211 im_yX5_readFact se_yX5_readFact ini_X5 co_yX5_readFact yo_yX5_readFact c31 rfl rfl (Nat.le_of_ble_eq_true rfl) ⟨by omega, by omega, by omega, by omega⟩ ((hG _ _ _ _).2.1 hw) (k_I fun r69 h69 hw => ?_)
      refine g_if_ne (tgt := 77) O dX5_readFact_72 rfl (fun q72 => ?_) (fun q72 => ?_)
      · have hw := hw.1 q72
        refine g_aload_n O dX5_readFact_77 rfl ?_
        refine gf_X5_model O dX5_readFact_78 fl_X5_31 c31 ?_
        refine g_sipush O dX5_readFact_81 ks_2414 ?_
        obtain ⟨c84, hw⟩ := hw
        refine g_callV (As := [vi (2414 : Int32)]) (rest := []) O ci_3 rfl dX5_readFact_84 ml_X5_214 im_yX3_emit se_yX3_emit ini_X3 co_yX3_emit yo_yX3_emit c84 rfl rfl (Nat.le_of_ble_eq_true rfl) ⟨by omega, by omega, by omega, by omega⟩ (okX3_emit hw) (k_V fun h84 hw => ?_)
        refine g_iconst O dX5_readFact_87 kv_1 ?_
        exact g_zreturn O dX5_readFact_88 (by decide) ⟨rfl, rfl, _, rfl, hw⟩
      · have hw := hw.2 q72
        refine g_iconst O dX5_readFact_75 kv_0 ?_
        exact g_zreturn O dX5_readFact_76 (by decide) ⟨rfl, rfl, _, rfl, hw⟩
    · have hw := hw.2 q37
      refine g_aload_n O dX5_readFact_40 rfl ?_
      refine g_iload_n O dX5_readFact_41 rfl ?_
      refine g_iconst O dX5_readFact_42 kv_1 ?_
      refine g_iadd O dX5_readFact_43 ?_
      refine g_callV (As := [vi ((x1 + (1 : Int32)))]) (rest := []) O ci_5 rfl dX5_readFact_44 ml_X5_155 im_yX5_readTest se_yX5_readTest ini_X5 co_yX5_readTest yo_yX5_readTest c31 rfl rfl (Nat.le_of_ble_eq_true rfl) ⟨by omega, by omega, by omega, by omega⟩ ((hG _ _ _ _).1 hw) (k_I fun r44 h44 hw => ?_)
      refine g_if_eq (tgt := 63) O dX5_readFact_47 rfl (fun q47 => ?_) (fun q47 => ?_)
      · have hw := hw.1 q47
        refine g_iconst O dX5_readFact_63 kv_0 ?_
        exact g_zreturn O dX5_readFact_64 (by decide) ⟨rfl, rfl, _, rfl, hw⟩
      · have hw := hw.2 q47
        refine g_aload_n O dX5_readFact_50 rfl ?_
        refine g_bipush O dX5_readFact_51 kb_41 ?_
        refine g_callV (As := [vi (41 : Int32)]) (rest := []) O ci_5 rfl dX5_readFact_53 ml_X5_99 im_yX5_pass se_yX5_pass ini_X5 co_yX5_pass yo_yX5_pass c31 rfl rfl (Nat.le_of_ble_eq_true rfl) ⟨by omega, by omega, by omega, by omega⟩ (okX5_pass hw) (k_I fun r53 h53 hw => ?_)
        refine g_if_eq (tgt := 63) O dX5_readFact_56 rfl (fun q56 => ?_) (fun q56 => ?_)
        · have hw := hw.1 q56
          refine g_iconst O dX5_readFact_63 kv_0 ?_
          exact g_zreturn O dX5_readFact_64 (by decide) ⟨rfl, rfl, _, rfl, hw⟩
        · have hw := hw.2 q56
          refine g_iconst O dX5_readFact_59 kv_1 ?_
          refine g_goto (tgt := 64) O dX5_readFact_60 rfl ?_
          exact g_zreturn O dX5_readFact_64 (by decide) ⟨rfl, rfl, _, rfl, hw⟩
  · have hw := hw.2 q21
    refine g_aload_n O dX5_readFact_24 rfl ?_
    refine g_iconst O dX5_readFact_25 kv_4 ?_
    obtain ⟨c26, hw⟩ := hw
    refine g_callV (As := [vi (4 : Int32)]) (rest := []) O ci_5 rfl dX5_readFact_26 ml_X5_92 im_yX5_fail se_yX5_fail ini_X5 co_yX5_fail yo_yX5_fail c26 rfl rfl (Nat.le_of_ble_eq_true rfl) ⟨by omega, by omega, by omega, by omega⟩ (okX5_fail hw) (k_I fun r26 h26 hw => ?_)
    obtain ⟨c29z, hw⟩ := hw
    exact g_zreturn O dX5_readFact_29 c29z ⟨rfl, rfl, _, rfl, hw⟩
theorem okX5_readFact_b {E : Ev} {S : Sh} {Z : Option Nat} {d : Nat} {Gr : Nat → Hp → Nat → Int32 → (Int32 → Hp → Prop) → Prop} {Q : Int32 → Hp → Prop} {h : Hp} {a0 : Nat} {x1 : Int32} (hG : CtGX5R E S Z d Gr) (hw : wX5_readFact_b S Gr h a0 x1 Q) : Ct E yX5_readFact cX5_readFact 4 (some .boolean) (3 + (d + 1)) (66 + 40 * (d + 1)) 0 0 S Z h [vr a0, vi x1] (qI S Z Q) := by
  refine Ct.of (by decide) (lc := [some (vr a0), some (vi x1), none, none]) (Nat.le_of_ble_eq_true rfl) rfl (fun X O => ?_)
  unfold wX5_readFact_b at hw
  refine g_aload_n O dX5_readFact_0 rfl ?_
  obtain ⟨c1, hw⟩ := hw
  refine g_callV (As := []) (rest := []) O ci_5 rfl dX5_readFact_1 ml_X5_65 im_yX5_kind se_yX5_kind ini_X5 co_yX5_kind yo_yX5_kind c1 rfl rfl (Nat.le_of_ble_eq_true rfl) ⟨by omega, by omega, by omega, by omega⟩ (okX5_kind hw) (k_I fun r1 h1 hw => ?_)
  refine g_istore_n (lc' := [some (vr a0), some (vi x1), some (vi r1), none]) O dX5_readFact_4 rfl (Nat.le_of_ble_eq_true rfl) rfl ?_
  refine g_iload_n O dX5_readFact_5 rfl ?_
  refine g_sipush O dX5_readFact_6 ks_414 ?_
  refine g_icmp_eq (tgt := 18) O dX5_readFact_9 rfl (fun q9 => ?_) (fun q9 => ?_)
  · have hw := hw.1 q9
    exact okX5_readFact_j18 O hG hw
  · have hw := hw.2 q9
    refine g_iload_n O dX5_readFact_12 rfl ?_
    refine g_bipush O dX5_readFact_13 kb_40 ?_
    refine g_icmp_ne (tgt := 89) O dX5_readFact_15 rfl (fun q15 => ?_) (fun q15 => ?_)
    · have hw := hw.1 q15
      refine g_aload_n O dX5_readFact_89 rfl ?_
      refine g_iload_n O dX5_readFact_90 rfl ?_
      refine g_callV (As := [vi x1]) (rest := []) O ci_5 rfl dX5_readFact_91 ml_X5_164 im_yX5_readSum se_yX5_readSum ini_X5 co_yX5_readSum yo_yX5_readSum c1 rfl rfl (Nat.le_of_ble_eq_true rfl) ⟨by omega, by omega, by omega, by omega⟩ ((hG _ _ _ _).2.2.1 hw) (k_I fun r91 h91 hw => ?_)
      refine g_if_ne (tgt := 99) O dX5_readFact_94 rfl (fun q94 => ?_) (fun q94 => ?_)
      · have hw := hw.1 q94
        refine g_aload_n O dX5_readFact_99 rfl ?_
        refine g_callV (As := []) (rest := []) O ci_5 rfl dX5_readFact_100 ml_X5_65 im_yX5_kind se_yX5_kind ini_X5 co_yX5_kind yo_yX5_kind c1 rfl rfl (Nat.le_of_ble_eq_true rfl) ⟨by omega, by omega, by omega, by omega⟩ (okX5_kind hw) (k_I fun r100 h100 hw => ?_)
        refine g_istore_n (lc' := [some (vr a0), some (vi x1), some (vi r1), some (vi r100)]) O dX5_readFact_103 rfl (Nat.le_of_ble_eq_true rfl) rfl ?_
        refine g_iload_n O dX5_readFact_104 rfl ?_
        refine g_bipush O dX5_readFact_105 kb_60 ?_
        refine g_icmp_eq (tgt := 128) O dX5_readFact_107 rfl (fun q107 => ?_) (fun q107 => ?_)
        · have hw := hw.1 q107
          refine g_mask [true, true, false, true] rfl rfl ?_
          exact okX5_readFact_j128 O hG hw
        · have hw := hw.2 q107
          refine g_iload_n O dX5_readFact_110 rfl ?_
          refine g_bipush O dX5_readFact_111 kb_62 ?_
          refine g_icmp_eq (tgt := 128) O dX5_readFact_113 rfl (fun q113 => ?_) (fun q113 => ?_)
          · have hw := hw.1 q113
            refine g_mask [true, true, false, true] rfl rfl ?_
            exact okX5_readFact_j128 O hG hw
          · have hw := hw.2 q113
            refine g_iload_n O dX5_readFact_116 rfl ?_
            refine g_bipush O dX5_readFact_117 kb_61 ?_
            refine g_icmp_eq (tgt := 128) O dX5_readFact_119 rfl (fun q119 => ?_) (fun q119 => ?_)
            · have hw := hw.1 q119
              refine g_mask [true, true, false, true] rfl rfl ?_
              exact okX5_readFact_j128 O hG hw
            · have hw := hw.2 q119
              refine g_aload_n O dX5_readFact_122 rfl ?_
              refine g_iconst O dX5_readFact_123 kv_1 ?_
              refine g_callV (As := [vi (1 : Int32)]) (rest := []) O ci_5 rfl dX5_readFact_124 ml_X5_92 im_yX5_fail se_yX5_fail ini_X5 co_yX5_fail yo_yX5_fail c1 rfl rfl (Nat.le_of_ble_eq_true rfl) ⟨by omega, by omega, by omega, by omega⟩ (okX5_fail hw) (k_I fun r124 h124 hw => ?_)
              obtain ⟨c127z, hw⟩ := hw
              exact g_zreturn O dX5_readFact_127 c127z ⟨rfl, rfl, _, rfl, hw⟩
      · have hw := hw.2 q94
        refine g_iconst O dX5_readFact_97 kv_0 ?_
        exact g_zreturn O dX5_readFact_98 (by decide) ⟨rfl, rfl, _, rfl, hw⟩
    · have hw := hw.2 q15
      exact okX5_readFact_j18 O hG hw
theorem okX5_readSum_j103 {E : Ev} {X : Cx} {S : Sh} {Z : Option Nat} {d : Nat} {Gr : Nat → Hp → Nat → Int32 → (Int32 → Hp → Prop) → Prop} {Q : Int32 → Hp → Prop} {h : Hp} {a0 : Nat} {x2 : Int32} (O : Ok E X yX5_readSum cX5_readSum 5 (some .boolean) (3 + (d + 1)) (66 + 40 * (d + 1)) 0 0 (qI S Z Q)) (hG : CtGX5R E S Z d Gr) (hw : wX5_readSum_j103 S Gr h a0 x2 Q) : G E X 0 0 S Z h 103 [some (vr a0), none, some (vi x2), none, none] [] := by
  unfold wX5_readSum_j103 at hw
  refine g_iload_n O dX5_readSum_103 rfl ?_
  refine g_iconst O dX5_readSum_104 kv_m1 ?_
  refine g_icmp_eq (tgt := 120) O dX5_readSum_105 rfl (fun q105 => ?_) (fun q105 => ?_)
  · have hw := hw.1 q105
    refine g_iconst O dX5_readSum_120 kv_1 ?_
    exact g_zreturn O dX5_readSum_121 (by decide) ⟨rfl, rfl, _, rfl, hw⟩
  · have hw := hw.2 q105
    refine g_aload_n O dX5_readSum_108 rfl ?_
    obtain ⟨c109, hw⟩ := hw
    refine gf_X5_model O dX5_readSum_109 fl_X5_31 c109 ?_
    refine g_sipush O dX5_readSum_112 ks_2000 ?_
    refine g_iload_n O dX5_readSum_115 rfl ?_
    refine g_iadd O dX5_readSum_116 ?_
    obtain ⟨c117, hw⟩ := hw
    refine g_callV (As := [vi (((2000 : Int32) + x2))]) (rest := []) O ci_3 rfl dX5_readSum_117 ml_X5_214 im_yX3_emit se_yX3_emit ini_X3 co_yX3_emit yo_yX3_emit c117 rfl rfl (Nat.le_of_ble_eq_true rfl) ⟨by omega, by omega, by omega, by omega⟩ (okX3_emit hw) (k_V fun h117 hw => ?_)
    refine g_iconst O dX5_readSum_120 kv_1 ?_
    exact g_zreturn O dX5_readSum_121 (by decide) ⟨rfl, rfl, _, rfl, hw⟩
theorem okX5_readSum_j63 {E : Ev} {X : Cx} {S : Sh} {Z : Option Nat} {d : Nat} {Gr : Nat → Hp → Nat → Int32 → (Int32 → Hp → Prop) → Prop} {Q : Int32 → Hp → Prop} {B14 : Hp → Int32 → Int32 → Prop} {h : Hp} {a0 : Nat} {x1 : Int32} {x2 : Int32} {x3 : Int32} {x4 : Int32} (O : Ok E X yX5_readSum cX5_readSum 5 (some .boolean) (3 + (d + 1)) (66 + 40 * (d + 1)) 0 0 (qI S Z Q)) (hG : CtGX5R E S Z d Gr) (hB14 : ∀ (h : Hp) (x2 : Int32) (x3 : Int32), B14 h x2 x3 → G E X 0 0 S Z h 14 [some (vr a0), some (vi x1), some (vi x2), some (vi x3), none] []) (hw : wX5_readSum_j63 S Gr B14 h a0 x1 x2 x3 x4 Q) : G E X 0 0 S Z h 63 [some (vr a0), some (vi x1), some (vi x2), some (vi x3), some (vi x4)] [] := by
  unfold wX5_readSum_j63 at hw
  refine g_aload_n O dX5_readSum_63 rfl ?_
  obtain ⟨c64, hw⟩ := hw
  refine g_callV (As := []) (rest := []) O ci_5 rfl dX5_readSum_64 ml_X5_105 im_yX5_advance se_yX5_advance ini_X5 co_yX5_advance yo_yX5_advance c64 rfl rfl (Nat.le_of_ble_eq_true rfl) ⟨by omega, by omega, by omega, by omega⟩ (okX5_advance hw) (k_V fun h64 hw => ?_)
  refine g_aload_n O dX5_readSum_67 rfl ?_
  refine g_iload_n O dX5_readSum_68 rfl ?_
  refine g_callV (As := [vi x1]) (rest := []) O ci_5 rfl dX5_readSum_69 ml_X5_218 im_yX5_readAtom se_yX5_readAtom ini_X5 co_yX5_readAtom yo_yX5_readAtom c64 rfl rfl (Nat.le_of_ble_eq_true rfl) ⟨by omega, by omega, by omega, by omega⟩ ((hG _ _ _ _).2.2.2 hw) (k_I fun r69 h69 hw => ?_)
  refine g_if_ne (tgt := 77) O dX5_readSum_72 rfl (fun q72 => ?_) (fun q72 => ?_)
  · have hw := hw.1 q72
    refine g_iload O dX5_readSum_77 rfl ?_
    refine g_bipush O dX5_readSum_79 kb_42 ?_
    refine g_icmp_ne (tgt := 97) O dX5_readSum_81 rfl (fun q81 => ?_) (fun q81 => ?_)
    · have hw := hw.1 q81
      refine g_iinc (lc' := [some (vr a0), some (vi x1), some (vi x2), some (vi (x3 + (1 : Int32))), some (vi x4)]) O dX5_readSum_97 rfl kv_1 rfl rfl ?_
      refine g_goto (tgt := 14) O dX5_readSum_100 rfl ?_
      refine g_mask [true, true, true, true, false] rfl rfl ?_
      exact hB14 _ _ _ hw
    · have hw := hw.2 q81
      refine g_aload_n O dX5_readSum_84 rfl ?_
      refine gf_X5_model O dX5_readSum_85 fl_X5_31 c64 ?_
      refine g_sipush O dX5_readSum_88 ks_2000 ?_
      refine g_iload O dX5_readSum_91 rfl ?_
      refine g_iadd O dX5_readSum_93 ?_
      obtain ⟨c94, hw⟩ := hw
      refine g_callV (As := [vi (((2000 : Int32) + x4))]) (rest := []) O ci_3 rfl dX5_readSum_94 ml_X5_214 im_yX3_emit se_yX3_emit ini_X3 co_yX3_emit yo_yX3_emit c94 rfl rfl (Nat.le_of_ble_eq_true rfl) ⟨by omega, by omega, by omega, by omega⟩ (okX3_emit hw) (k_V fun h94 hw => ?_)
      refine g_iinc (lc' := [some (vr a0), some (vi x1), some (vi x2), some (vi (x3 + (1 : Int32))), some (vi x4)]) O dX5_readSum_97 rfl kv_1 rfl rfl ?_
      refine g_goto (tgt := 14) O dX5_readSum_100 rfl ?_
      refine g_mask [true, true, true, true, false] rfl rfl ?_
      exact hB14 _ _ _ hw
  · have hw := hw.2 q72
    refine g_iconst O dX5_readSum_75 kv_0 ?_
    exact g_zreturn O dX5_readSum_76 (by decide) ⟨rfl, rfl, _, rfl, hw⟩
theorem okX5_readSum_j60 {E : Ev} {X : Cx} {S : Sh} {Z : Option Nat} {d : Nat} {Gr : Nat → Hp → Nat → Int32 → (Int32 → Hp → Prop) → Prop} {Q : Int32 → Hp → Prop} {B14 : Hp → Int32 → Int32 → Prop} {h : Hp} {a0 : Nat} {x1 : Int32} {x3 : Int32} {x4 : Int32} (O : Ok E X yX5_readSum cX5_readSum 5 (some .boolean) (3 + (d + 1)) (66 + 40 * (d + 1)) 0 0 (qI S Z Q)) (hG : CtGX5R E S Z d Gr) (hB14 : ∀ (h : Hp) (x2 : Int32) (x3 : Int32), B14 h x2 x3 → G E X 0 0 S Z h 14 [some (vr a0), some (vi x1), some (vi x2), some (vi x3), none] []) (hw : wX5_readSum_j60 S Gr B14 h a0 x1 x3 x4 Q) : G E X 0 0 S Z h 60 [some (vr a0), some (vi x1), none, some (vi x3), some (vi x4)] [] := by
  unfold wX5_readSum_j60 at hw
  refine g_iload O dX5_readSum_60 rfl ?_
  refine g_istore_n (lc' := [some (vr a0), some (vi x1), some (vi x4), some (vi x3), some (vi x4)]) O dX5_readSum_62 rfl (Nat.le_of_ble_eq_true rfl) rfl ?_
  exact okX5_readSum_j63 O hG hB14 hw
theorem okX5_readSum_14 {E : Ev} {X : Cx} {S : Sh} {Z : Option Nat} {d : Nat} {Gr : Nat → Hp → Nat → Int32 → (Int32 → Hp → Prop) → Prop} {Q : Int32 → Hp → Prop} {a0 : Nat} {x1 : Int32} (O : Ok E X yX5_readSum cX5_readSum 5 (some .boolean) (3 + (d + 1)) (66 + 40 * (d + 1)) 0 0 (qI S Z Q)) (hG : CtGX5R E S Z d Gr) : ∀ (n : Nat) (h : Hp) (x2 : Int32) (x3 : Int32), wX5_readSum_14 S Gr a0 x1 Q n h x2 x3 → G E X 0 0 S Z h 14 [some (vr a0), some (vi x1), some (vi x2), some (vi x3), none] [] := by
  intro n
  induction n with
  | zero => intro h x2 x3 hw; exact hw.elim
  | succ n hB14 =>
    intro h x2 x3 hw
    have hw : wX5_readSum_14b S Gr a0 x1 Q (wX5_readSum_14 S Gr a0 x1 Q n) h x2 x3 := hw
    unfold wX5_readSum_14b at hw
    refine g_iload_n O dX5_readSum_14 rfl ?_
    refine g_bipush O dX5_readSum_15 kb_30 ?_
    refine g_icmp_gt (tgt := 103) O dX5_readSum_17 rfl (fun q17 => ?_) (fun q17 => ?_)
    · have hw := hw.1 q17
      refine g_mask [true, false, true, false, false] rfl rfl ?_
      exact okX5_readSum_j103 O hG hw
    · have hw := hw.2 q17
      refine g_aload_n O dX5_readSum_20 rfl ?_
      obtain ⟨c21, hw⟩ := hw
      refine g_callV (As := []) (rest := []) O ci_5 rfl dX5_readSum_21 ml_X5_65 im_yX5_kind se_yX5_kind ini_X5 co_yX5_kind yo_yX5_kind c21 rfl rfl (Nat.le_of_ble_eq_true rfl) ⟨by omega, by omega, by omega, by omega⟩ (okX5_kind hw) (k_I fun r21 h21 hw => ?_)
      refine g_callS (As := [vi r21]) (rest := []) O dX5_readSum_24 ml_X5_221 st_yX5_joinsAtoms ini_X5 co_yX5_joinsAtoms yo_yX5_joinsAtoms rfl rfl (Nat.le_of_ble_eq_true rfl) ⟨by omega, by omega, by omega, by omega⟩ (okX5_joinsAtoms hw) (k_I fun r24 h24 hw => ?_)
      refine g_if_eq (tgt := 103) O dX5_readSum_27 rfl (fun q27 => ?_) (fun q27 => ?_)
      · have hw := hw.1 q27
        refine g_mask [true, false, true, false, false] rfl rfl ?_
        exact okX5_readSum_j103 O hG hw
      · have hw := hw.2 q27
        refine g_aload_n O dX5_readSum_30 rfl ?_
        refine g_callV (As := []) (rest := []) O ci_5 rfl dX5_readSum_31 ml_X5_65 im_yX5_kind se_yX5_kind ini_X5 co_yX5_kind yo_yX5_kind c21 rfl rfl (Nat.le_of_ble_eq_true rfl) ⟨by omega, by omega, by omega, by omega⟩ (okX5_kind hw) (k_I fun r31 h31 hw => ?_)
        refine g_istore (lc' := [some (vr a0), some (vi x1), some (vi x2), some (vi x3), some (vi r31)]) O dX5_readSum_34 rfl (Nat.le_of_ble_eq_true rfl) rfl ?_
        refine g_iload O dX5_readSum_36 rfl ?_
        refine g_bipush O dX5_readSum_38 kb_42 ?_
        refine g_icmp_eq (tgt := 63) O dX5_readSum_40 rfl (fun q40 => ?_) (fun q40 => ?_)
        · have hw := hw.1 q40
          exact okX5_readSum_j63 O hG hB14 hw
        · have hw := hw.2 q40
          refine g_iload_n O dX5_readSum_43 rfl ?_
          refine g_iconst O dX5_readSum_44 kv_m1 ?_
          refine g_icmp_eq (tgt := 60) O dX5_readSum_45 rfl (fun q45 => ?_) (fun q45 => ?_)
          · have hw := hw.1 q45
            refine g_mask [true, true, false, true, true] rfl rfl ?_
            exact okX5_readSum_j60 O hG hB14 hw
          · have hw := hw.2 q45
            refine g_aload_n O dX5_readSum_48 rfl ?_
            refine gf_X5_model O dX5_readSum_49 fl_X5_31 c21 ?_
            refine g_sipush O dX5_readSum_52 ks_2000 ?_
            refine g_iload_n O dX5_readSum_55 rfl ?_
            refine g_iadd O dX5_readSum_56 ?_
            obtain ⟨c57, hw⟩ := hw
            refine g_callV (As := [vi (((2000 : Int32) + x2))]) (rest := []) O ci_3 rfl dX5_readSum_57 ml_X5_214 im_yX3_emit se_yX3_emit ini_X3 co_yX3_emit yo_yX3_emit c57 rfl rfl (Nat.le_of_ble_eq_true rfl) ⟨by omega, by omega, by omega, by omega⟩ (okX3_emit hw) (k_V fun h57 hw => ?_)
            refine g_mask [true, true, false, true, true] rfl rfl ?_
            exact okX5_readSum_j60 O hG hB14 hw
theorem okX5_readSum_b {E : Ev} {S : Sh} {Z : Option Nat} {d : Nat} {Gr : Nat → Hp → Nat → Int32 → (Int32 → Hp → Prop) → Prop} {Q : Int32 → Hp → Prop} {h : Hp} {a0 : Nat} {x1 : Int32} (hG : CtGX5R E S Z d Gr) (hw : wX5_readSum_b S Gr h a0 x1 Q) : Ct E yX5_readSum cX5_readSum 5 (some .boolean) (3 + (d + 1)) (66 + 40 * (d + 1)) 0 0 S Z h [vr a0, vi x1] (qI S Z Q) := by
  refine Ct.of (by decide) (lc := [some (vr a0), some (vi x1), none, none, none]) (Nat.le_of_ble_eq_true rfl) rfl (fun X O => ?_)
  unfold wX5_readSum_b at hw
  refine g_aload_n O dX5_readSum_0 rfl ?_
  refine g_iload_n O dX5_readSum_1 rfl ?_
  obtain ⟨c2, hw⟩ := hw
  refine g_callV (As := [vi x1]) (rest := []) O ci_5 rfl dX5_readSum_2 ml_X5_218 im_yX5_readAtom se_yX5_readAtom ini_X5 co_yX5_readAtom yo_yX5_readAtom c2 rfl rfl (Nat.le_of_ble_eq_true rfl) ⟨by omega, by omega, by omega, by omega⟩ ((hG _ _ _ _).2.2.2 hw) (k_I fun r2 h2 hw => ?_)
  refine g_if_ne (tgt := 10) O dX5_readSum_5 rfl (fun q5 => ?_) (fun q5 => ?_)
  · have hw := hw.1 q5
    refine g_iconst O dX5_readSum_10 kv_m1 ?_
    refine g_istore_n (lc' := [some (vr a0), some (vi x1), some (vi (-1 : Int32)), none, none]) O dX5_readSum_11 rfl (Nat.le_of_ble_eq_true rfl) rfl ?_
    refine g_iconst O dX5_readSum_12 kv_0 ?_
    refine g_istore_n (lc' := [some (vr a0), some (vi x1), some (vi (-1 : Int32)), some (vi (0 : Int32)), none]) O dX5_readSum_13 rfl (Nat.le_of_ble_eq_true rfl) rfl ?_
    obtain ⟨n14, hw⟩ := hw
    exact okX5_readSum_14 O hG n14 _ _ _ hw
  · have hw := hw.2 q5
    refine g_iconst O dX5_readSum_8 kv_0 ?_
    exact g_zreturn O dX5_readSum_9 (by decide) ⟨rfl, rfl, _, rfl, hw⟩
theorem okX5_readAtom_j156 {E : Ev} {X : Cx} {S : Sh} {Z : Option Nat} {d : Nat} {Gr : Nat → Hp → Nat → Int32 → (Int32 → Hp → Prop) → Prop} {Q : Int32 → Hp → Prop} {h : Hp} {a0 : Nat} {s0 : Nat} {s1 : Int32} (O : Ok E X yX5_readAtom cX5_readAtom 5 (some .boolean) (3 + (d + 1)) (66 + 40 * (d + 1)) 0 0 (qI S Z Q)) (hG : CtGX5R E S Z d Gr) (hw : wX5_readAtom_j156 S Gr h a0 s0 s1 Q) : G E X 0 0 S Z h 156 [some (vr a0), none, none, none, none] [vi s1, vr s0] := by
  unfold wX5_readAtom_j156 at hw
  obtain ⟨c156, hw⟩ := hw
  refine g_callV (As := [vi s1]) (rest := []) O ci_3 rfl dX5_readAtom_156 ml_X5_214 im_yX3_emit se_yX3_emit ini_X3 co_yX3_emit yo_yX3_emit c156 rfl rfl (Nat.le_of_ble_eq_true rfl) ⟨by omega, by omega, by omega, by omega⟩ (okX3_emit hw) (k_V fun h156 hw => ?_)
  refine g_goto (tgt := 193) O dX5_readAtom_159 rfl ?_
  refine g_aload_n O dX5_readAtom_193 rfl ?_
  obtain ⟨c194, hw⟩ := hw
  refine g_callV (As := []) (rest := []) O ci_5 rfl dX5_readAtom_194 ml_X5_105 im_yX5_advance se_yX5_advance ini_X5 co_yX5_advance yo_yX5_advance c194 rfl rfl (Nat.le_of_ble_eq_true rfl) ⟨by omega, by omega, by omega, by omega⟩ (okX5_advance hw) (k_V fun h194 hw => ?_)
  refine g_iconst O dX5_readAtom_197 kv_1 ?_
  exact g_zreturn O dX5_readAtom_198 (by decide) ⟨rfl, rfl, _, rfl, hw⟩
theorem okX5_readAtom_j126 {E : Ev} {X : Cx} {S : Sh} {Z : Option Nat} {d : Nat} {Gr : Nat → Hp → Nat → Int32 → (Int32 → Hp → Prop) → Prop} {Q : Int32 → Hp → Prop} {h : Hp} {a0 : Nat} {x1 : Int32} {x2 : Int32} {x4 : Int32} (O : Ok E X yX5_readAtom cX5_readAtom 5 (some .boolean) (3 + (d + 1)) (66 + 40 * (d + 1)) 0 0 (qI S Z Q)) (hG : CtGX5R E S Z d Gr) (hw : wX5_readAtom_j126 S Gr h a0 x1 x2 x4 Q) : G E X 0 0 S Z h 126 [some (vr a0), some (vi x1), some (vi x2), none, some (vi x4)] [] := by
  unfold wX5_readAtom_j126 at hw
  refine g_iload_n O dX5_readAtom_126 rfl ?_
  refine g_bipush O dX5_readAtom_127 kb_91 ?_
  refine g_icmp_eq (tgt := 162) O dX5_readAtom_129 rfl (fun q129 => ?_) (fun q129 => ?_)
  · have hw := hw.1 q129
    refine g_aload_n O dX5_readAtom_162 rfl ?_
    obtain ⟨c163, hw⟩ := hw
    refine g_callV (As := []) (rest := []) O ci_5 rfl dX5_readAtom_163 ml_X5_105 im_yX5_advance se_yX5_advance ini_X5 co_yX5_advance yo_yX5_advance c163 rfl rfl (Nat.le_of_ble_eq_true rfl) ⟨by omega, by omega, by omega, by omega⟩ (okX5_advance hw) (k_V fun h163 hw => ?_)
    refine g_aload_n O dX5_readAtom_166 rfl ?_
    refine g_iload_n O dX5_readAtom_167 rfl ?_
    refine g_iconst O dX5_readAtom_168 kv_1 ?_
    refine g_iadd O dX5_readAtom_169 ?_
    refine g_callV (As := [vi ((x1 + (1 : Int32)))]) (rest := []) O ci_5 rfl dX5_readAtom_170 ml_X5_164 im_yX5_readSum se_yX5_readSum ini_X5 co_yX5_readSum yo_yX5_readSum c163 rfl rfl (Nat.le_of_ble_eq_true rfl) ⟨by omega, by omega, by omega, by omega⟩ ((hG _ _ _ _).2.2.1 hw) (k_I fun r170 h170 hw => ?_)
    refine g_if_ne (tgt := 178) O dX5_readAtom_173 rfl (fun q173 => ?_) (fun q173 => ?_)
    · have hw := hw.1 q173
      refine g_aload_n O dX5_readAtom_178 rfl ?_
      refine g_callV (As := []) (rest := []) O ci_5 rfl dX5_readAtom_179 ml_X5_65 im_yX5_kind se_yX5_kind ini_X5 co_yX5_kind yo_yX5_kind c163 rfl rfl (Nat.le_of_ble_eq_true rfl) ⟨by omega, by omega, by omega, by omega⟩ (okX5_kind hw) (k_I fun r179 h179 hw => ?_)
      refine g_bipush O dX5_readAtom_182 kb_93 ?_
      refine g_icmp_eq (tgt := 193) O dX5_readAtom_184 rfl (fun q184 => ?_) (fun q184 => ?_)
      · have hw := hw.1 q184
        refine g_aload_n O dX5_readAtom_193 rfl ?_
        refine g_callV (As := []) (rest := []) O ci_5 rfl dX5_readAtom_194 ml_X5_105 im_yX5_advance se_yX5_advance ini_X5 co_yX5_advance yo_yX5_advance c163 rfl rfl (Nat.le_of_ble_eq_true rfl) ⟨by omega, by omega, by omega, by omega⟩ (okX5_advance hw) (k_V fun h194 hw => ?_)
        refine g_iconst O dX5_readAtom_197 kv_1 ?_
        exact g_zreturn O dX5_readAtom_198 (by decide) ⟨rfl, rfl, _, rfl, hw⟩
      · have hw := hw.2 q184
        refine g_aload_n O dX5_readAtom_187 rfl ?_
        refine g_iconst O dX5_readAtom_188 kv_1 ?_
        refine g_callV (As := [vi (1 : Int32)]) (rest := []) O ci_5 rfl dX5_readAtom_189 ml_X5_92 im_yX5_fail se_yX5_fail ini_X5 co_yX5_fail yo_yX5_fail c163 rfl rfl (Nat.le_of_ble_eq_true rfl) ⟨by omega, by omega, by omega, by omega⟩ (okX5_fail hw) (k_I fun r189 h189 hw => ?_)
        obtain ⟨c192z, hw⟩ := hw
        exact g_zreturn O dX5_readAtom_192 c192z ⟨rfl, rfl, _, rfl, hw⟩
    · have hw := hw.2 q173
      refine g_iconst O dX5_readAtom_176 kv_0 ?_
      exact g_zreturn O dX5_readAtom_177 (by decide) ⟨rfl, rfl, _, rfl, hw⟩
  · have hw := hw.2 q129
    refine g_aload_n O dX5_readAtom_132 rfl ?_
    obtain ⟨c133, hw⟩ := hw
    refine gf_X5_model O dX5_readAtom_133 fl_X5_31 c133 ?_
    refine g_iload_n O dX5_readAtom_136 rfl ?_
    refine g_sipush O dX5_readAtom_137 ks_303 ?_
    refine g_icmp_ne (tgt := 150) O dX5_readAtom_140 rfl (fun q140 => ?_) (fun q140 => ?_)
    · have hw := hw.1 q140
      refine g_sipush O dX5_readAtom_150 ks_1000 ?_
      refine g_iload O dX5_readAtom_153 rfl ?_
      refine g_iadd O dX5_readAtom_155 ?_
      refine g_mask [true, false, false, false, false] rfl rfl ?_
      exact okX5_readAtom_j156 O hG hw
    · have hw := hw.2 q140
      refine g_aload_n O dX5_readAtom_143 rfl ?_
      refine g_callV (As := []) (rest := [vr (gR h a0 4)]) O ci_5 rfl dX5_readAtom_144 ml_X5_131 im_yX5_number se_yX5_number ini_X5 co_yX5_number yo_yX5_number c133 rfl rfl (Nat.le_of_ble_eq_true rfl) ⟨by omega, by omega, by omega, by omega⟩ (okX5_number hw) (k_I fun r144 h144 hw => ?_)
      refine g_goto (tgt := 156) O dX5_readAtom_147 rfl ?_
      refine g_mask [true, false, false, false, false] rfl rfl ?_
      exact okX5_readAtom_j156 O hG hw
theorem okX5_readAtom_j75 {E : Ev} {X : Cx} {S : Sh} {Z : Option Nat} {d : Nat} {Gr : Nat → Hp → Nat → Int32 → (Int32 → Hp → Prop) → Prop} {Q : Int32 → Hp → Prop} {h : Hp} {a0 : Nat} {x1 : Int32} {x2 : Int32} {s0 : Int32} (O : Ok E X yX5_readAtom cX5_readAtom 5 (some .boolean) (3 + (d + 1)) (66 + 40 * (d + 1)) 0 0 (qI S Z Q)) (hG : CtGX5R E S Z d Gr) (hw : wX5_readAtom_j75 S Gr h a0 x1 x2 s0 Q) : G E X 0 0 S Z h 75 [some (vr a0), some (vi x1), some (vi x2), none, none] [vi s0] := by
  unfold wX5_readAtom_j75 at hw
  refine g_istore (lc' := [some (vr a0), some (vi x1), some (vi x2), none, some (vi s0)]) O dX5_readAtom_75 rfl (Nat.le_of_ble_eq_true rfl) rfl ?_
  refine g_iload O dX5_readAtom_77 rfl ?_
  refine g_iconst O dX5_readAtom_79 kv_m1 ?_
  refine g_icmp_ne (tgt := 89) O dX5_readAtom_80 rfl (fun q80 => ?_) (fun q80 => ?_)
  · have hw := hw.1 q80
    refine g_aload_n O dX5_readAtom_89 rfl ?_
    refine g_dup O dX5_readAtom_90 rfl ?_
    obtain ⟨c91, hw⟩ := hw
    refine gf_X5_atoms O dX5_readAtom_91 fl_X5_224 c91 ?_
    refine g_iconst O dX5_readAtom_94 kv_1 ?_
    refine g_iadd O dX5_readAtom_95 ?_
    refine pf_X5_atoms O dX5_readAtom_96 fl_X5_224 c91 ?_
    refine g_nmH (fun h96 e96 => ?_)
    have hw := hw h96 e96
    refine g_aload_n O dX5_readAtom_99 rfl ?_
    refine gf_X5_atoms O dX5_readAtom_100 fl_X5_224 c91 ?_
    refine g_bipush O dX5_readAtom_103 kb_30 ?_
    refine g_icmp_gt (tgt := 120) O dX5_readAtom_105 rfl (fun q105 => ?_) (fun q105 => ?_)
    · have hw := hw.1 q105
      refine g_aload_n O dX5_readAtom_120 rfl ?_
      refine g_iconst O dX5_readAtom_121 kv_4 ?_
      refine g_callV (As := [vi (4 : Int32)]) (rest := []) O ci_5 rfl dX5_readAtom_122 ml_X5_92 im_yX5_fail se_yX5_fail ini_X5 co_yX5_fail yo_yX5_fail c91 rfl rfl (Nat.le_of_ble_eq_true rfl) ⟨by omega, by omega, by omega, by omega⟩ (okX5_fail hw) (k_I fun r122 h122 hw => ?_)
      obtain ⟨c125z, hw⟩ := hw
      exact g_zreturn O dX5_readAtom_125 c125z ⟨rfl, rfl, _, rfl, hw⟩
    · have hw := hw.2 q105
      refine g_iload_n O dX5_readAtom_108 rfl ?_
      refine g_bipush O dX5_readAtom_109 kb_91 ?_
      refine g_icmp_ne (tgt := 126) O dX5_readAtom_111 rfl (fun q111 => ?_) (fun q111 => ?_)
      · have hw := hw.1 q111
        exact okX5_readAtom_j126 O hG hw
      · have hw := hw.2 q111
        refine g_iload_n O dX5_readAtom_114 rfl ?_
        refine g_bipush O dX5_readAtom_115 kb_8 ?_
        refine g_icmp_lt (tgt := 126) O dX5_readAtom_117 rfl (fun q117 => ?_) (fun q117 => ?_)
        · have hw := hw.1 q117
          exact okX5_readAtom_j126 O hG hw
        · have hw := hw.2 q117
          refine g_aload_n O dX5_readAtom_120 rfl ?_
          refine g_iconst O dX5_readAtom_121 kv_4 ?_
          refine g_callV (As := [vi (4 : Int32)]) (rest := []) O ci_5 rfl dX5_readAtom_122 ml_X5_92 im_yX5_fail se_yX5_fail ini_X5 co_yX5_fail yo_yX5_fail c91 rfl rfl (Nat.le_of_ble_eq_true rfl) ⟨by omega, by omega, by omega, by omega⟩ (okX5_fail hw) (k_I fun r122 h122 hw => ?_)
          obtain ⟨c125z, hw⟩ := hw
          exact g_zreturn O dX5_readAtom_125 c125z ⟨rfl, rfl, _, rfl, hw⟩
  · have hw := hw.2 q80
    refine g_aload_n O dX5_readAtom_83 rfl ?_
    refine g_iconst O dX5_readAtom_84 kv_3 ?_
    obtain ⟨c85, hw⟩ := hw
    refine g_callV (As := [vi (3 : Int32)]) (rest := []) O ci_5 rfl dX5_readAtom_85 ml_X5_92 im_yX5_fail se_yX5_fail ini_X5 co_yX5_fail yo_yX5_fail c85 rfl rfl (Nat.le_of_ble_eq_true rfl) ⟨by omega, by omega, by omega, by omega⟩ (okX5_fail hw) (k_I fun r85 h85 hw => ?_)
    obtain ⟨c88z, hw⟩ := hw
    exact g_zreturn O dX5_readAtom_88 c88z ⟨rfl, rfl, _, rfl, hw⟩
theorem okX5_readAtom_j55 {E : Ev} {X : Cx} {S : Sh} {Z : Option Nat} {d : Nat} {Gr : Nat → Hp → Nat → Int32 → (Int32 → Hp → Prop) → Prop} {Q : Int32 → Hp → Prop} {h : Hp} {a0 : Nat} {x1 : Int32} {x2 : Int32} (O : Ok E X yX5_readAtom cX5_readAtom 5 (some .boolean) (3 + (d + 1)) (66 + 40 * (d + 1)) 0 0 (qI S Z Q)) (hG : CtGX5R E S Z d Gr) (hw : wX5_readAtom_j55 S Gr h a0 x1 x2 Q) : G E X 0 0 S Z h 55 [some (vr a0), some (vi x1), some (vi x2), none, none] [] := by
  unfold wX5_readAtom_j55 at hw
  refine g_iload_n O dX5_readAtom_55 rfl ?_
  refine g_sipush O dX5_readAtom_56 ks_302 ?_
  refine g_icmp_ne (tgt := 73) O dX5_readAtom_59 rfl (fun q59 => ?_) (fun q59 => ?_)
  · have hw := hw.1 q59
    refine g_bipush O dX5_readAtom_73 kb_6 ?_
    exact okX5_readAtom_j75 O hG hw
  · have hw := hw.2 q59
    refine g_aload_n O dX5_readAtom_62 rfl ?_
    refine g_aload_n O dX5_readAtom_63 rfl ?_
    obtain ⟨c64, hw⟩ := hw
    refine g_callV (As := []) (rest := [vr a0]) O ci_5 rfl dX5_readAtom_64 ml_X5_111 im_yX5_code se_yX5_code ini_X5 co_yX5_code yo_yX5_code c64 rfl rfl (Nat.le_of_ble_eq_true rfl) ⟨by omega, by omega, by omega, by omega⟩ (okX5_code hw) (k_J fun r64 h64 hw => ?_)
    refine g_callV (As := [vj r64]) (rest := []) O ci_5 rfl dX5_readAtom_67 ml_X5_201 im_yX5_slotOf se_yX5_slotOf ini_X5 co_yX5_slotOf yo_yX5_slotOf c64 rfl rfl (Nat.le_of_ble_eq_true rfl) ⟨by omega, by omega, by omega, by omega⟩ (okX5_slotOf hw) (k_I fun r67 h67 hw => ?_)
    refine g_goto (tgt := 75) O dX5_readAtom_70 rfl ?_
    exact okX5_readAtom_j75 O hG hw
theorem okX5_readAtom_j24 {E : Ev} {X : Cx} {S : Sh} {Z : Option Nat} {d : Nat} {Gr : Nat → Hp → Nat → Int32 → (Int32 → Hp → Prop) → Prop} {Q : Int32 → Hp → Prop} {h : Hp} {a0 : Nat} {x1 : Int32} {x2 : Int32} {s0 : Int32} (O : Ok E X yX5_readAtom cX5_readAtom 5 (some .boolean) (3 + (d + 1)) (66 + 40 * (d + 1)) 0 0 (qI S Z Q)) (hG : CtGX5R E S Z d Gr) (hw : wX5_readAtom_j24 S Gr h a0 x1 x2 s0 Q) : G E X 0 0 S Z h 24 [some (vr a0), some (vi x1), some (vi x2), none, none] [vi s0] := by
  unfold wX5_readAtom_j24 at hw
  refine g_istore_n (lc' := [some (vr a0), some (vi x1), some (vi x2), some (vi s0), none]) O dX5_readAtom_24 rfl (Nat.le_of_ble_eq_true rfl) rfl ?_
  refine g_iload_n O dX5_readAtom_25 rfl ?_
  refine g_sipush O dX5_readAtom_26 ks_303 ?_
  refine g_icmp_eq (tgt := 55) O dX5_readAtom_29 rfl (fun q29 => ?_) (fun q29 => ?_)
  · have hw := hw.1 q29
    refine g_mask [true, true, true, false, false] rfl rfl ?_
    exact okX5_readAtom_j55 O hG hw
  · have hw := hw.2 q29
    refine g_iload_n O dX5_readAtom_32 rfl ?_
    refine g_sipush O dX5_readAtom_33 ks_302 ?_
    refine g_icmp_eq (tgt := 55) O dX5_readAtom_36 rfl (fun q36 => ?_) (fun q36 => ?_)
    · have hw := hw.1 q36
      refine g_mask [true, true, true, false, false] rfl rfl ?_
      exact okX5_readAtom_j55 O hG hw
    · have hw := hw.2 q36
      refine g_iload_n O dX5_readAtom_39 rfl ?_
      refine g_bipush O dX5_readAtom_40 kb_91 ?_
      refine g_icmp_eq (tgt := 55) O dX5_readAtom_42 rfl (fun q42 => ?_) (fun q42 => ?_)
      · have hw := hw.1 q42
        refine g_mask [true, true, true, false, false] rfl rfl ?_
        exact okX5_readAtom_j55 O hG hw
      · have hw := hw.2 q42
        refine g_iload_n O dX5_readAtom_45 rfl ?_
        refine g_if_ne (tgt := 55) O dX5_readAtom_46 rfl (fun q46 => ?_) (fun q46 => ?_)
        · have hw := hw.1 q46
          refine g_mask [true, true, true, false, false] rfl rfl ?_
          exact okX5_readAtom_j55 O hG hw
        · have hw := hw.2 q46
          refine g_aload_n O dX5_readAtom_49 rfl ?_
          refine g_iconst O dX5_readAtom_50 kv_1 ?_
          obtain ⟨c51, hw⟩ := hw
          refine g_callV (As := [vi (1 : Int32)]) (rest := []) O ci_5 rfl dX5_readAtom_51 ml_X5_92 im_yX5_fail se_yX5_fail ini_X5 co_yX5_fail yo_yX5_fail c51 rfl rfl (Nat.le_of_ble_eq_true rfl) ⟨by omega, by omega, by omega, by omega⟩ (okX5_fail hw) (k_I fun r51 h51 hw => ?_)
          obtain ⟨c54z, hw⟩ := hw
          exact g_zreturn O dX5_readAtom_54 c54z ⟨rfl, rfl, _, rfl, hw⟩
theorem okX5_readAtom_j23 {E : Ev} {X : Cx} {S : Sh} {Z : Option Nat} {d : Nat} {Gr : Nat → Hp → Nat → Int32 → (Int32 → Hp → Prop) → Prop} {Q : Int32 → Hp → Prop} {h : Hp} {a0 : Nat} {x1 : Int32} {x2 : Int32} (O : Ok E X yX5_readAtom cX5_readAtom 5 (some .boolean) (3 + (d + 1)) (66 + 40 * (d + 1)) 0 0 (qI S Z Q)) (hG : CtGX5R E S Z d Gr) (hw : wX5_readAtom_j23 S Gr h a0 x1 x2 Q) : G E X 0 0 S Z h 23 [some (vr a0), some (vi x1), some (vi x2), none, none] [] := by
  unfold wX5_readAtom_j23 at hw
  refine g_iconst O dX5_readAtom_23 kv_0 ?_
  exact okX5_readAtom_j24 O hG hw
theorem okX5_readAtom_b {E : Ev} {S : Sh} {Z : Option Nat} {d : Nat} {Gr : Nat → Hp → Nat → Int32 → (Int32 → Hp → Prop) → Prop} {Q : Int32 → Hp → Prop} {h : Hp} {a0 : Nat} {x1 : Int32} (hG : CtGX5R E S Z d Gr) (hw : wX5_readAtom_b S Gr h a0 x1 Q) : Ct E yX5_readAtom cX5_readAtom 5 (some .boolean) (3 + (d + 1)) (66 + 40 * (d + 1)) 0 0 S Z h [vr a0, vi x1] (qI S Z Q) := by
  refine Ct.of (by decide) (lc := [some (vr a0), some (vi x1), none, none, none]) (Nat.le_of_ble_eq_true rfl) rfl (fun X O => ?_)
  unfold wX5_readAtom_b at hw
  refine g_aload_n O dX5_readAtom_0 rfl ?_
  obtain ⟨c1, hw⟩ := hw
  refine g_callV (As := []) (rest := []) O ci_5 rfl dX5_readAtom_1 ml_X5_65 im_yX5_kind se_yX5_kind ini_X5 co_yX5_kind yo_yX5_kind c1 rfl rfl (Nat.le_of_ble_eq_true rfl) ⟨by omega, by omega, by omega, by omega⟩ (okX5_kind hw) (k_I fun r1 h1 hw => ?_)
  refine g_istore_n (lc' := [some (vr a0), some (vi x1), some (vi r1), none, none]) O dX5_readAtom_4 rfl (Nat.le_of_ble_eq_true rfl) rfl ?_
  refine g_iload_n O dX5_readAtom_5 rfl ?_
  refine g_sipush O dX5_readAtom_6 ks_415 ?_
  refine g_icmp_ne (tgt := 23) O dX5_readAtom_9 rfl (fun q9 => ?_) (fun q9 => ?_)
  · have hw := hw.1 q9
    exact okX5_readAtom_j23 O hG hw
  · have hw := hw.2 q9
    refine g_aload_n O dX5_readAtom_12 rfl ?_
    refine gf_X5_inEvent O dX5_readAtom_13 fl_X5_73 c1 ?_
    refine g_if_eq (tgt := 23) O dX5_readAtom_16 rfl (fun q16 => ?_) (fun q16 => ?_)
    · have hw := hw.1 q16
      exact okX5_readAtom_j23 O hG hw
    · have hw := hw.2 q16
      refine g_iconst O dX5_readAtom_19 kv_1 ?_
      refine g_goto (tgt := 24) O dX5_readAtom_20 rfl ?_
      exact okX5_readAtom_j24 O hG hw
theorem okX5R {E : Ev} {S : Sh} {Z : Option Nat} : ∀ d : Nat, CtGX5R E S Z d (wX5R S d) := by
  intro d
  induction d with
  | zero =>
    intro h a0 x1 Q
    exact ⟨fun hw => hw.elim, fun hw => hw.elim, fun hw => hw.elim, fun hw => hw.elim⟩
  | succ d ih =>
    intro h a0 x1 Q
    exact ⟨fun hw => okX5_readTest_b ih hw, fun hw => okX5_readFact_b ih hw, fun hw => okX5_readSum_b ih hw, fun hw => okX5_readAtom_b ih hw⟩
theorem okX5_readTest {E : Ev} {S : Sh} {Z : Option Nat} {h : Hp} {a0 : Nat} {x1 : Int32} {Q : Int32 → Hp → Prop} (hw : wX5_readTest S h a0 x1 Q) : Ct E yX5_readTest cX5_readTest 5 (some .boolean) 43 1666 0 0 S Z h [vr a0, vi x1] (qI S Z Q) := (okX5R 40 h a0 x1 Q).1 hw
theorem okX5_readFact {E : Ev} {S : Sh} {Z : Option Nat} {h : Hp} {a0 : Nat} {x1 : Int32} {Q : Int32 → Hp → Prop} (hw : wX5_readFact S h a0 x1 Q) : Ct E yX5_readFact cX5_readFact 4 (some .boolean) 43 1666 0 0 S Z h [vr a0, vi x1] (qI S Z Q) := (okX5R 40 h a0 x1 Q).2.1 hw
theorem okX5_readSum {E : Ev} {S : Sh} {Z : Option Nat} {h : Hp} {a0 : Nat} {x1 : Int32} {Q : Int32 → Hp → Prop} (hw : wX5_readSum S h a0 x1 Q) : Ct E yX5_readSum cX5_readSum 5 (some .boolean) 43 1666 0 0 S Z h [vr a0, vi x1] (qI S Z Q) := (okX5R 40 h a0 x1 Q).2.2.1 hw
theorem okX5_readAtom {E : Ev} {S : Sh} {Z : Option Nat} {h : Hp} {a0 : Nat} {x1 : Int32} {Q : Int32 → Hp → Prop} (hw : wX5_readAtom S h a0 x1 Q) : Ct E yX5_readAtom cX5_readAtom 5 (some .boolean) 43 1666 0 0 S Z h [vr a0, vi x1] (qI S Z Q) := (okX5R 40 h a0 x1 Q).2.2.2 hw
theorem dX5_readBounds_0 : decode cX5_readBounds 0 = .ok (.aload_n 0, 1) := by decide +kernel
theorem dX5_readBounds_1 : decode cX5_readBounds 1 = .ok (.sipush 402, 3) := by decide +kernel
theorem dX5_readBounds_4 : decode cX5_readBounds 4 = .ok (.invokevirtual 99, 3) := by decide +kernel
theorem dX5_readBounds_7 : decode cX5_readBounds 7 = .ok (.ifCond .eq 13, 3) := by decide +kernel
theorem dX5_readBounds_10 : decode cX5_readBounds 10 = .ok (.aload_n 0, 1) := by decide +kernel
theorem dX5_readBounds_11 : decode cX5_readBounds 11 = .ok (.iconst 0, 1) := by decide +kernel
theorem dX5_readBounds_12 : decode cX5_readBounds 12 = .ok (.bipush 9, 2) := by decide +kernel
theorem dX5_readBounds_14 : decode cX5_readBounds 14 = .ok (.invokevirtual 127, 3) := by decide +kernel
theorem dX5_readBounds_17 : decode cX5_readBounds 17 = .ok (.ifCond .ne 5, 3) := by decide +kernel
theorem dX5_readBounds_20 : decode cX5_readBounds 20 = .ok (.iconst 0, 1) := by decide +kernel
theorem dX5_readBounds_21 : decode cX5_readBounds 21 = .ok (.ireturn, 1) := by decide +kernel
theorem dX5_readBounds_22 : decode cX5_readBounds 22 = .ok (.aload_n 0, 1) := by decide +kernel
theorem dX5_readBounds_23 : decode cX5_readBounds 23 = .ok (.invokevirtual 131, 3) := by decide +kernel
theorem dX5_readBounds_26 : decode cX5_readBounds 26 = .ok (.istore_n 2, 1) := by decide +kernel
theorem dX5_readBounds_27 : decode cX5_readBounds 27 = .ok (.aload_n 0, 1) := by decide +kernel
theorem dX5_readBounds_28 : decode cX5_readBounds 28 = .ok (.invokevirtual 105, 3) := by decide +kernel
theorem dX5_readBounds_31 : decode cX5_readBounds 31 = .ok (.aload_n 0, 1) := by decide +kernel
theorem dX5_readBounds_32 : decode cX5_readBounds 32 = .ok (.sipush 403, 3) := by decide +kernel
theorem dX5_readBounds_35 : decode cX5_readBounds 35 = .ok (.invokevirtual 99, 3) := by decide +kernel
theorem dX5_readBounds_38 : decode cX5_readBounds 38 = .ok (.ifCond .eq 13, 3) := by decide +kernel
theorem dX5_readBounds_41 : decode cX5_readBounds 41 = .ok (.aload_n 0, 1) := by decide +kernel
theorem dX5_readBounds_42 : decode cX5_readBounds 42 = .ok (.iload_n 2, 1) := by decide +kernel
theorem dX5_readBounds_43 : decode cX5_readBounds 43 = .ok (.bipush 9, 2) := by decide +kernel
theorem dX5_readBounds_45 : decode cX5_readBounds 45 = .ok (.invokevirtual 127, 3) := by decide +kernel
theorem dX5_readBounds_48 : decode cX5_readBounds 48 = .ok (.ifCond .ne 5, 3) := by decide +kernel
theorem dX5_readBounds_51 : decode cX5_readBounds 51 = .ok (.iconst 0, 1) := by decide +kernel
theorem dX5_readBounds_52 : decode cX5_readBounds 52 = .ok (.ireturn, 1) := by decide +kernel
theorem dX5_readBounds_53 : decode cX5_readBounds 53 = .ok (.aload_n 0, 1) := by decide +kernel
theorem dX5_readBounds_54 : decode cX5_readBounds 54 = .ok (.invokevirtual 131, 3) := by decide +kernel
theorem dX5_readBounds_57 : decode cX5_readBounds 57 = .ok (.istore_n 3, 1) := by decide +kernel
theorem dX5_readBounds_58 : decode cX5_readBounds 58 = .ok (.aload_n 0, 1) := by decide +kernel
theorem dX5_readBounds_59 : decode cX5_readBounds 59 = .ok (.getfield 39, 3) := by decide +kernel
theorem dX5_readBounds_62 : decode cX5_readBounds 62 = .ok (.getfield 134, 3) := by decide +kernel
theorem dX5_readBounds_65 : decode cX5_readBounds 65 = .ok (.iload_n 3, 1) := by decide +kernel
theorem dX5_readBounds_66 : decode cX5_readBounds 66 = .ok (.iload_n 2, 1) := by decide +kernel
theorem dX5_readBounds_67 : decode cX5_readBounds 67 = .ok (.isub, 1) := by decide +kernel
theorem dX5_readBounds_68 : decode cX5_readBounds 68 = .ok (.iconst 1, 1) := by decide +kernel
theorem dX5_readBounds_69 : decode cX5_readBounds 69 = .ok (.iadd, 1) := by decide +kernel
theorem dX5_readBounds_70 : decode cX5_readBounds 70 = .ok (.imul, 1) := by decide +kernel
theorem dX5_readBounds_71 : decode cX5_readBounds 71 = .ok (.istore 4, 2) := by decide +kernel
theorem dX5_readBounds_73 : decode cX5_readBounds 73 = .ok (.iload 4, 2) := by decide +kernel
theorem dX5_readBounds_75 : decode cX5_readBounds 75 = .ok (.bipush 100, 2) := by decide +kernel
theorem dX5_readBounds_77 : decode cX5_readBounds 77 = .ok (.if_icmp .le 9, 3) := by decide +kernel
theorem dX5_readBounds_80 : decode cX5_readBounds 80 = .ok (.aload_n 0, 1) := by decide +kernel
theorem dX5_readBounds_81 : decode cX5_readBounds 81 = .ok (.iconst 4, 1) := by decide +kernel
theorem dX5_readBounds_82 : decode cX5_readBounds 82 = .ok (.invokevirtual 92, 3) := by decide +kernel
theorem dX5_readBounds_85 : decode cX5_readBounds 85 = .ok (.ireturn, 1) := by decide +kernel
theorem dX5_readBounds_86 : decode cX5_readBounds 86 = .ok (.aload_n 0, 1) := by decide +kernel
theorem dX5_readBounds_87 : decode cX5_readBounds 87 = .ok (.invokevirtual 105, 3) := by decide +kernel
theorem dX5_readBounds_90 : decode cX5_readBounds 90 = .ok (.aload_n 0, 1) := by decide +kernel
theorem dX5_readBounds_91 : decode cX5_readBounds 91 = .ok (.sipush 404, 3) := by decide +kernel
theorem dX5_readBounds_94 : decode cX5_readBounds 94 = .ok (.invokevirtual 99, 3) := by decide +kernel
theorem dX5_readBounds_97 : decode cX5_readBounds 97 = .ok (.ifCond .eq 12, 3) := by decide +kernel
theorem dX5_readBounds_100 : decode cX5_readBounds 100 = .ok (.aload_n 0, 1) := by decide +kernel
theorem dX5_readBounds_101 : decode cX5_readBounds 101 = .ok (.iload_n 2, 1) := by decide +kernel
theorem dX5_readBounds_102 : decode cX5_readBounds 102 = .ok (.iload_n 3, 1) := by decide +kernel
theorem dX5_readBounds_103 : decode cX5_readBounds 103 = .ok (.invokevirtual 127, 3) := by decide +kernel
theorem dX5_readBounds_106 : decode cX5_readBounds 106 = .ok (.ifCond .ne 5, 3) := by decide +kernel
theorem dX5_readBounds_109 : decode cX5_readBounds 109 = .ok (.iconst 0, 1) := by decide +kernel
theorem dX5_readBounds_110 : decode cX5_readBounds 110 = .ok (.ireturn, 1) := by decide +kernel
theorem dX5_readBounds_111 : decode cX5_readBounds 111 = .ok (.aload_n 0, 1) := by decide +kernel
theorem dX5_readBounds_112 : decode cX5_readBounds 112 = .ok (.getfield 39, 3) := by decide +kernel
theorem dX5_readBounds_115 : decode cX5_readBounds 115 = .ok (.getfield 137, 3) := by decide +kernel
theorem dX5_readBounds_118 : decode cX5_readBounds 118 = .ok (.iload_n 1, 1) := by decide +kernel
theorem dX5_readBounds_119 : decode cX5_readBounds 119 = .ok (.iload_n 2, 1) := by decide +kernel
theorem dX5_readBounds_120 : decode cX5_readBounds 120 = .ok (.iastore, 1) := by decide +kernel
theorem dX5_readBounds_121 : decode cX5_readBounds 121 = .ok (.aload_n 0, 1) := by decide +kernel
theorem dX5_readBounds_122 : decode cX5_readBounds 122 = .ok (.getfield 39, 3) := by decide +kernel
theorem dX5_readBounds_125 : decode cX5_readBounds 125 = .ok (.getfield 141, 3) := by decide +kernel
theorem dX5_readBounds_128 : decode cX5_readBounds 128 = .ok (.iload_n 1, 1) := by decide +kernel
theorem dX5_readBounds_129 : decode cX5_readBounds 129 = .ok (.iload_n 3, 1) := by decide +kernel
theorem dX5_readBounds_130 : decode cX5_readBounds 130 = .ok (.iastore, 1) := by decide +kernel
theorem dX5_readBounds_131 : decode cX5_readBounds 131 = .ok (.aload_n 0, 1) := by decide +kernel
theorem dX5_readBounds_132 : decode cX5_readBounds 132 = .ok (.getfield 39, 3) := by decide +kernel
theorem dX5_readBounds_135 : decode cX5_readBounds 135 = .ok (.getfield 144, 3) := by decide +kernel
theorem dX5_readBounds_138 : decode cX5_readBounds 138 = .ok (.iload_n 1, 1) := by decide +kernel
theorem dX5_readBounds_139 : decode cX5_readBounds 139 = .ok (.aload_n 0, 1) := by decide +kernel
theorem dX5_readBounds_140 : decode cX5_readBounds 140 = .ok (.invokevirtual 131, 3) := by decide +kernel
theorem dX5_readBounds_143 : decode cX5_readBounds 143 = .ok (.iastore, 1) := by decide +kernel
theorem dX5_readBounds_144 : decode cX5_readBounds 144 = .ok (.aload_n 0, 1) := by decide +kernel
theorem dX5_readBounds_145 : decode cX5_readBounds 145 = .ok (.getfield 39, 3) := by decide +kernel
theorem dX5_readBounds_148 : decode cX5_readBounds 148 = .ok (.iload 4, 2) := by decide +kernel
theorem dX5_readBounds_150 : decode cX5_readBounds 150 = .ok (.putfield 134, 3) := by decide +kernel
theorem dX5_readBounds_153 : decode cX5_readBounds 153 = .ok (.aload_n 0, 1) := by decide +kernel
theorem dX5_readBounds_154 : decode cX5_readBounds 154 = .ok (.getfield 39, 3) := by decide +kernel
theorem dX5_readBounds_157 : decode cX5_readBounds 157 = .ok (.dup, 1) := by decide +kernel
theorem dX5_readBounds_158 : decode cX5_readBounds 158 = .ok (.getfield 96, 3) := by decide +kernel
theorem dX5_readBounds_161 : decode cX5_readBounds 161 = .ok (.iconst 1, 1) := by decide +kernel
theorem dX5_readBounds_162 : decode cX5_readBounds 162 = .ok (.iadd, 1) := by decide +kernel
theorem dX5_readBounds_163 : decode cX5_readBounds 163 = .ok (.putfield 96, 3) := by decide +kernel
theorem dX5_readBounds_166 : decode cX5_readBounds 166 = .ok (.aload_n 0, 1) := by decide +kernel
theorem dX5_readBounds_167 : decode cX5_readBounds 167 = .ok (.invokevirtual 105, 3) := by decide +kernel
theorem dX5_readBounds_170 : decode cX5_readBounds 170 = .ok (.iconst 1, 1) := by decide +kernel
theorem dX5_readBounds_171 : decode cX5_readBounds 171 = .ok (.ireturn, 1) := by decide +kernel
theorem okX5_readBounds {E : Ev} {S : Sh} {Z : Option Nat} {Q : Int32 → Hp → Prop} {h : Hp} {a0 : Nat} {x1 : Int32} (hw : wX5_readBounds S h a0 x1 Q) : Ct E yX5_readBounds cX5_readBounds 5 (some .boolean) 3 67 0 0 S Z h [vr a0, vi x1] (qI S Z Q) := by
  refine Ct.of (by decide) (lc := [some (vr a0), some (vi x1), none, none, none]) (Nat.le_of_ble_eq_true rfl) rfl (fun X O => ?_)
  unfold wX5_readBounds at hw
  refine g_aload_n O dX5_readBounds_0 rfl ?_
  refine g_sipush O dX5_readBounds_1 ks_402 ?_
  obtain ⟨c4, hw⟩ := hw
  refine g_callV (As := [vi (402 : Int32)]) (rest := []) O ci_5 rfl dX5_readBounds_4 ml_X5_99 im_yX5_pass se_yX5_pass ini_X5 co_yX5_pass yo_yX5_pass c4 rfl rfl (Nat.le_of_ble_eq_true rfl) ⟨by decide, by decide, by decide, by decide⟩ (okX5_pass hw) (k_I fun r4 h4 hw => ?_)
  refine g_if_eq (tgt := 20) O dX5_readBounds_7 rfl (fun q7 => ?_) (fun q7 => ?_)
  · have hw := hw.1 q7
    refine g_iconst O dX5_readBounds_20 kv_0 ?_
    exact g_zreturn O dX5_readBounds_21 (by decide) ⟨rfl, rfl, _, rfl, hw⟩
  · have hw := hw.2 q7
    refine g_aload_n O dX5_readBounds_10 rfl ?_
    refine g_iconst O dX5_readBounds_11 kv_0 ?_
    refine g_bipush O dX5_readBounds_12 kb_9 ?_
    refine g_callV (As := [vi (0 : Int32), vi (9 : Int32)]) (rest := []) O ci_5 rfl dX5_readBounds_14 ml_X5_127 im_yX5_isWhole se_yX5_isWhole ini_X5 co_yX5_isWhole yo_yX5_isWhole c4 rfl rfl (Nat.le_of_ble_eq_true rfl) ⟨by decide, by decide, by decide, by decide⟩ (okX5_isWhole hw) (k_I fun r14 h14 hw => ?_)
    refine g_if_ne (tgt := 22) O dX5_readBounds_17 rfl (fun q17 => ?_) (fun q17 => ?_)
    · have hw := hw.1 q17
      refine g_aload_n O dX5_readBounds_22 rfl ?_
      refine g_callV (As := []) (rest := []) O ci_5 rfl dX5_readBounds_23 ml_X5_131 im_yX5_number se_yX5_number ini_X5 co_yX5_number yo_yX5_number c4 rfl rfl (Nat.le_of_ble_eq_true rfl) ⟨by decide, by decide, by decide, by decide⟩ (okX5_number hw) (k_I fun r23 h23 hw => ?_)
      refine g_istore_n (lc' := [some (vr a0), some (vi x1), some (vi r23), none, none]) O dX5_readBounds_26 rfl (Nat.le_of_ble_eq_true rfl) rfl ?_
      refine g_aload_n O dX5_readBounds_27 rfl ?_
      refine g_callV (As := []) (rest := []) O ci_5 rfl dX5_readBounds_28 ml_X5_105 im_yX5_advance se_yX5_advance ini_X5 co_yX5_advance yo_yX5_advance c4 rfl rfl (Nat.le_of_ble_eq_true rfl) ⟨by decide, by decide, by decide, by decide⟩ (okX5_advance hw) (k_V fun h28 hw => ?_)
      refine g_aload_n O dX5_readBounds_31 rfl ?_
      refine g_sipush O dX5_readBounds_32 ks_403 ?_
      refine g_callV (As := [vi (403 : Int32)]) (rest := []) O ci_5 rfl dX5_readBounds_35 ml_X5_99 im_yX5_pass se_yX5_pass ini_X5 co_yX5_pass yo_yX5_pass c4 rfl rfl (Nat.le_of_ble_eq_true rfl) ⟨by decide, by decide, by decide, by decide⟩ (okX5_pass hw) (k_I fun r35 h35 hw => ?_)
      refine g_if_eq (tgt := 51) O dX5_readBounds_38 rfl (fun q38 => ?_) (fun q38 => ?_)
      · have hw := hw.1 q38
        refine g_iconst O dX5_readBounds_51 kv_0 ?_
        exact g_zreturn O dX5_readBounds_52 (by decide) ⟨rfl, rfl, _, rfl, hw⟩
      · have hw := hw.2 q38
        refine g_aload_n O dX5_readBounds_41 rfl ?_
        refine g_iload_n O dX5_readBounds_42 rfl ?_
        refine g_bipush O dX5_readBounds_43 kb_9 ?_
        refine g_callV (As := [vi r23, vi (9 : Int32)]) (rest := []) O ci_5 rfl dX5_readBounds_45 ml_X5_127 im_yX5_isWhole se_yX5_isWhole ini_X5 co_yX5_isWhole yo_yX5_isWhole c4 rfl rfl (Nat.le_of_ble_eq_true rfl) ⟨by decide, by decide, by decide, by decide⟩ (okX5_isWhole hw) (k_I fun r45 h45 hw => ?_)
        refine g_if_ne (tgt := 53) O dX5_readBounds_48 rfl (fun q48 => ?_) (fun q48 => ?_)
        · have hw := hw.1 q48
          refine g_aload_n O dX5_readBounds_53 rfl ?_
          refine g_callV (As := []) (rest := []) O ci_5 rfl dX5_readBounds_54 ml_X5_131 im_yX5_number se_yX5_number ini_X5 co_yX5_number yo_yX5_number c4 rfl rfl (Nat.le_of_ble_eq_true rfl) ⟨by decide, by decide, by decide, by decide⟩ (okX5_number hw) (k_I fun r54 h54 hw => ?_)
          refine g_istore_n (lc' := [some (vr a0), some (vi x1), some (vi r23), some (vi r54), none]) O dX5_readBounds_57 rfl (Nat.le_of_ble_eq_true rfl) rfl ?_
          refine g_aload_n O dX5_readBounds_58 rfl ?_
          refine gf_X5_machine O dX5_readBounds_59 fl_X5_39 c4 ?_
          obtain ⟨c62, hw⟩ := hw
          refine gf_X2_states O dX5_readBounds_62 fl_X5_134 c62 ?_
          refine g_iload_n O dX5_readBounds_65 rfl ?_
          refine g_iload_n O dX5_readBounds_66 rfl ?_
          refine g_isub O dX5_readBounds_67 ?_
          refine g_iconst O dX5_readBounds_68 kv_1 ?_
          refine g_iadd O dX5_readBounds_69 ?_
          refine g_imul O dX5_readBounds_70 ?_
          refine g_nmI (fun xv71 e71 => ?_)
          have hw := hw xv71 e71
          refine g_istore (lc' := [some (vr a0), some (vi x1), some (vi r23), some (vi r54), some (vi xv71)]) O dX5_readBounds_71 rfl (Nat.le_of_ble_eq_true rfl) rfl ?_
          refine g_iload O dX5_readBounds_73 rfl ?_
          refine g_bipush O dX5_readBounds_75 kb_100 ?_
          refine g_icmp_le (tgt := 86) O dX5_readBounds_77 rfl (fun q77 => ?_) (fun q77 => ?_)
          · have hw := hw.1 q77
            refine g_aload_n O dX5_readBounds_86 rfl ?_
            refine g_callV (As := []) (rest := []) O ci_5 rfl dX5_readBounds_87 ml_X5_105 im_yX5_advance se_yX5_advance ini_X5 co_yX5_advance yo_yX5_advance c4 rfl rfl (Nat.le_of_ble_eq_true rfl) ⟨by decide, by decide, by decide, by decide⟩ (okX5_advance hw) (k_V fun h87 hw => ?_)
            refine g_aload_n O dX5_readBounds_90 rfl ?_
            refine g_sipush O dX5_readBounds_91 ks_404 ?_
            refine g_callV (As := [vi (404 : Int32)]) (rest := []) O ci_5 rfl dX5_readBounds_94 ml_X5_99 im_yX5_pass se_yX5_pass ini_X5 co_yX5_pass yo_yX5_pass c4 rfl rfl (Nat.le_of_ble_eq_true rfl) ⟨by decide, by decide, by decide, by decide⟩ (okX5_pass hw) (k_I fun r94 h94 hw => ?_)
            refine g_if_eq (tgt := 109) O dX5_readBounds_97 rfl (fun q97 => ?_) (fun q97 => ?_)
            · have hw := hw.1 q97
              refine g_iconst O dX5_readBounds_109 kv_0 ?_
              exact g_zreturn O dX5_readBounds_110 (by decide) ⟨rfl, rfl, _, rfl, hw⟩
            · have hw := hw.2 q97
              refine g_aload_n O dX5_readBounds_100 rfl ?_
              refine g_iload_n O dX5_readBounds_101 rfl ?_
              refine g_iload_n O dX5_readBounds_102 rfl ?_
              refine g_callV (As := [vi r23, vi r54]) (rest := []) O ci_5 rfl dX5_readBounds_103 ml_X5_127 im_yX5_isWhole se_yX5_isWhole ini_X5 co_yX5_isWhole yo_yX5_isWhole c4 rfl rfl (Nat.le_of_ble_eq_true rfl) ⟨by decide, by decide, by decide, by decide⟩ (okX5_isWhole hw) (k_I fun r103 h103 hw => ?_)
              refine g_if_ne (tgt := 111) O dX5_readBounds_106 rfl (fun q106 => ?_) (fun q106 => ?_)
              · have hw := hw.1 q106
                refine g_aload_n O dX5_readBounds_111 rfl ?_
                refine gf_X5_machine O dX5_readBounds_112 fl_X5_39 c4 ?_
                obtain ⟨c115, hw⟩ := hw
                refine gf_X2_low O dX5_readBounds_115 fl_X5_137 c115 ?_
                refine g_iload_n O dX5_readBounds_118 rfl ?_
                refine g_iload_n O dX5_readBounds_119 rfl ?_
                obtain ⟨c120, hw⟩ := hw
                refine g_iastore O dX5_readBounds_120 c120.1 c120.2 ?_
                refine g_nmH (fun h120 e120 => ?_)
                have hw := hw h120 e120
                refine g_aload_n O dX5_readBounds_121 rfl ?_
                refine gf_X5_machine O dX5_readBounds_122 fl_X5_39 c4 ?_
                obtain ⟨c125, hw⟩ := hw
                refine gf_X2_high O dX5_readBounds_125 fl_X5_141 c125 ?_
                refine g_iload_n O dX5_readBounds_128 rfl ?_
                refine g_iload_n O dX5_readBounds_129 rfl ?_
                obtain ⟨c130, hw⟩ := hw
                refine g_iastore O dX5_readBounds_130 c130.1 c130.2 ?_
                refine g_nmH (fun h130 e130 => ?_)
                have hw := hw h130 e130
                refine g_aload_n O dX5_readBounds_131 rfl ?_
                refine gf_X5_machine O dX5_readBounds_132 fl_X5_39 c4 ?_
                obtain ⟨c135, hw⟩ := hw
                refine gf_X2_at O dX5_readBounds_135 fl_X5_144 c135 ?_
                refine g_iload_n O dX5_readBounds_138 rfl ?_
                refine g_aload_n O dX5_readBounds_139 rfl ?_
                refine g_callV (As := []) (rest := [vi x1, vr ((gR h130 (gR h130 a0 5) 3))]) O ci_5 rfl dX5_readBounds_140 ml_X5_131 im_yX5_number se_yX5_number ini_X5 co_yX5_number yo_yX5_number c4 rfl rfl (Nat.le_of_ble_eq_true rfl) ⟨by decide, by decide, by decide, by decide⟩ (okX5_number hw) (k_I fun r140 h140 hw => ?_)
                obtain ⟨c143, hw⟩ := hw
                refine g_iastore O dX5_readBounds_143 c143.1 c143.2 ?_
                refine g_nmH (fun h143 e143 => ?_)
                have hw := hw h143 e143
                refine g_aload_n O dX5_readBounds_144 rfl ?_
                refine gf_X5_machine O dX5_readBounds_145 fl_X5_39 c4 ?_
                refine g_iload O dX5_readBounds_148 rfl ?_
                obtain ⟨c150, hw⟩ := hw
                refine pf_X2_states O dX5_readBounds_150 fl_X5_134 c150 ?_
                refine g_nmH (fun h150 e150 => ?_)
                have hw := hw h150 e150
                refine g_aload_n O dX5_readBounds_153 rfl ?_
                refine gf_X5_machine O dX5_readBounds_154 fl_X5_39 c4 ?_
                refine g_dup O dX5_readBounds_157 rfl ?_
                obtain ⟨c158, hw⟩ := hw
                refine gf_X2_variables O dX5_readBounds_158 fl_X5_96 c158 ?_
                refine g_iconst O dX5_readBounds_161 kv_1 ?_
                refine g_iadd O dX5_readBounds_162 ?_
                refine pf_X2_variables O dX5_readBounds_163 fl_X5_96 c158 ?_
                refine g_aload_n O dX5_readBounds_166 rfl ?_
                refine g_callV (As := []) (rest := []) O ci_5 rfl dX5_readBounds_167 ml_X5_105 im_yX5_advance se_yX5_advance ini_X5 co_yX5_advance yo_yX5_advance c4 rfl rfl (Nat.le_of_ble_eq_true rfl) ⟨by decide, by decide, by decide, by decide⟩ (okX5_advance hw) (k_V fun h167 hw => ?_)
                refine g_iconst O dX5_readBounds_170 kv_1 ?_
                exact g_zreturn O dX5_readBounds_171 (by decide) ⟨rfl, rfl, _, rfl, hw⟩
              · have hw := hw.2 q106
                refine g_iconst O dX5_readBounds_109 kv_0 ?_
                exact g_zreturn O dX5_readBounds_110 (by decide) ⟨rfl, rfl, _, rfl, hw⟩
          · have hw := hw.2 q77
            refine g_aload_n O dX5_readBounds_80 rfl ?_
            refine g_iconst O dX5_readBounds_81 kv_4 ?_
            refine g_callV (As := [vi (4 : Int32)]) (rest := []) O ci_5 rfl dX5_readBounds_82 ml_X5_92 im_yX5_fail se_yX5_fail ini_X5 co_yX5_fail yo_yX5_fail c4 rfl rfl (Nat.le_of_ble_eq_true rfl) ⟨by decide, by decide, by decide, by decide⟩ (okX5_fail hw) (k_I fun r82 h82 hw => ?_)
            obtain ⟨c85z, hw⟩ := hw
            exact g_zreturn O dX5_readBounds_85 c85z ⟨rfl, rfl, _, rfl, hw⟩
        · have hw := hw.2 q48
          refine g_iconst O dX5_readBounds_51 kv_0 ?_
          exact g_zreturn O dX5_readBounds_52 (by decide) ⟨rfl, rfl, _, rfl, hw⟩
    · have hw := hw.2 q17
      refine g_iconst O dX5_readBounds_20 kv_0 ?_
      exact g_zreturn O dX5_readBounds_21 (by decide) ⟨rfl, rfl, _, rfl, hw⟩
theorem dX5_startCode_0 : decode cX5_startCode 0 = .ok (.aload_n 0, 1) := by decide +kernel
theorem dX5_startCode_1 : decode cX5_startCode 1 = .ok (.iconst 0, 1) := by decide +kernel
theorem dX5_startCode_2 : decode cX5_startCode 2 = .ok (.putfield 224, 3) := by decide +kernel
theorem dX5_startCode_5 : decode cX5_startCode 5 = .ok (.aload_n 0, 1) := by decide +kernel
theorem dX5_startCode_6 : decode cX5_startCode 6 = .ok (.getfield 31, 3) := by decide +kernel
theorem dX5_startCode_9 : decode cX5_startCode 9 = .ok (.getfield 227, 3) := by decide +kernel
theorem dX5_startCode_12 : decode cX5_startCode 12 = .ok (.ireturn, 1) := by decide +kernel
theorem okX5_startCode {E : Ev} {S : Sh} {Z : Option Nat} {Q : Int32 → Hp → Prop} {h : Hp} {a0 : Nat} (hw : wX5_startCode S h a0 Q) : Ct E yX5_startCode cX5_startCode 1 (some .int) 1 24 0 0 S Z h [vr a0] (qI S Z Q) := by
  refine Ct.of (by decide) (lc := [some (vr a0)]) (Nat.le_of_ble_eq_true rfl) rfl (fun X O => ?_)
  unfold wX5_startCode at hw
  refine g_aload_n O dX5_startCode_0 rfl ?_
  refine g_iconst O dX5_startCode_1 kv_0 ?_
  obtain ⟨c2, hw⟩ := hw
  refine pf_X5_atoms O dX5_startCode_2 fl_X5_224 c2 ?_
  refine g_nmH (fun h2 e2 => ?_)
  have hw := hw h2 e2
  refine g_aload_n O dX5_startCode_5 rfl ?_
  refine gf_X5_model O dX5_startCode_6 fl_X5_31 c2 ?_
  obtain ⟨c9, hw⟩ := hw
  refine gf_X3_codeSize O dX5_startCode_9 fl_X5_227 c9 ?_
  exact g_ireturn O dX5_startCode_12 ⟨rfl, rfl, _, rfl, hw⟩
theorem dX5_stopCode_0 : decode cX5_stopCode 0 = .ok (.aload_n 0, 1) := by decide +kernel
theorem dX5_stopCode_1 : decode cX5_stopCode 1 = .ok (.getfield 31, 3) := by decide +kernel
theorem dX5_stopCode_4 : decode cX5_stopCode 4 = .ok (.sipush 3000, 3) := by decide +kernel
theorem dX5_stopCode_7 : decode cX5_stopCode 7 = .ok (.invokevirtual 214, 3) := by decide +kernel
theorem dX5_stopCode_10 : decode cX5_stopCode 10 = .ok (.iconst 1, 1) := by decide +kernel
theorem dX5_stopCode_11 : decode cX5_stopCode 11 = .ok (.ireturn, 1) := by decide +kernel
theorem okX5_stopCode {E : Ev} {S : Sh} {Z : Option Nat} {Q : Int32 → Hp → Prop} {h : Hp} {a0 : Nat} (hw : wX5_stopCode S h a0 Q) : Ct E yX5_stopCode cX5_stopCode 1 (some .boolean) 2 45 0 0 S Z h [vr a0] (qI S Z Q) := by
  refine Ct.of (by decide) (lc := [some (vr a0)]) (Nat.le_of_ble_eq_true rfl) rfl (fun X O => ?_)
  unfold wX5_stopCode at hw
  refine g_aload_n O dX5_stopCode_0 rfl ?_
  obtain ⟨c1, hw⟩ := hw
  refine gf_X5_model O dX5_stopCode_1 fl_X5_31 c1 ?_
  refine g_sipush O dX5_stopCode_4 ks_3000 ?_
  obtain ⟨c7, hw⟩ := hw
  refine g_callV (As := [vi (3000 : Int32)]) (rest := []) O ci_3 rfl dX5_stopCode_7 ml_X5_214 im_yX3_emit se_yX3_emit ini_X3 co_yX3_emit yo_yX3_emit c7 rfl rfl (Nat.le_of_ble_eq_true rfl) ⟨by decide, by decide, by decide, by decide⟩ (okX3_emit hw) (k_V fun h7 hw => ?_)
  refine g_iconst O dX5_stopCode_10 kv_1 ?_
  exact g_zreturn O dX5_stopCode_11 (by decide) ⟨rfl, rfl, _, rfl, hw⟩
theorem dX5_readGiving_0 : decode cX5_readGiving 0 = .ok (.aload_n 0, 1) := by decide +kernel
theorem dX5_readGiving_1 : decode cX5_readGiving 1 = .ok (.invokevirtual 65, 3) := by decide +kernel
theorem dX5_readGiving_4 : decode cX5_readGiving 4 = .ok (.sipush 302, 3) := by decide +kernel
theorem dX5_readGiving_7 : decode cX5_readGiving 7 = .ok (.if_icmp .eq 9, 3) := by decide +kernel
theorem dX5_readGiving_10 : decode cX5_readGiving 10 = .ok (.aload_n 0, 1) := by decide +kernel
theorem dX5_readGiving_11 : decode cX5_readGiving 11 = .ok (.iconst 1, 1) := by decide +kernel
theorem dX5_readGiving_12 : decode cX5_readGiving 12 = .ok (.invokevirtual 92, 3) := by decide +kernel
theorem dX5_readGiving_15 : decode cX5_readGiving 15 = .ok (.ireturn, 1) := by decide +kernel
theorem dX5_readGiving_16 : decode cX5_readGiving 16 = .ok (.aload_n 0, 1) := by decide +kernel
theorem dX5_readGiving_17 : decode cX5_readGiving 17 = .ok (.aload_n 0, 1) := by decide +kernel
theorem dX5_readGiving_18 : decode cX5_readGiving 18 = .ok (.invokevirtual 111, 3) := by decide +kernel
theorem dX5_readGiving_21 : decode cX5_readGiving 21 = .ok (.invokevirtual 201, 3) := by decide +kernel
theorem dX5_readGiving_24 : decode cX5_readGiving 24 = .ok (.istore_n 1, 1) := by decide +kernel
theorem dX5_readGiving_25 : decode cX5_readGiving 25 = .ok (.iload_n 1, 1) := by decide +kernel
theorem dX5_readGiving_26 : decode cX5_readGiving 26 = .ok (.iconst (-1), 1) := by decide +kernel
theorem dX5_readGiving_27 : decode cX5_readGiving 27 = .ok (.if_icmp .eq 17, 3) := by decide +kernel
theorem dX5_readGiving_30 : decode cX5_readGiving 30 = .ok (.aload_n 0, 1) := by decide +kernel
theorem dX5_readGiving_31 : decode cX5_readGiving 31 = .ok (.getfield 49, 3) := by decide +kernel
theorem dX5_readGiving_34 : decode cX5_readGiving 34 = .ok (.getfield 205, 3) := by decide +kernel
theorem dX5_readGiving_37 : decode cX5_readGiving 37 = .ok (.iload_n 1, 1) := by decide +kernel
theorem dX5_readGiving_38 : decode cX5_readGiving 38 = .ok (.ishr, 1) := by decide +kernel
theorem dX5_readGiving_39 : decode cX5_readGiving 39 = .ok (.iconst 1, 1) := by decide +kernel
theorem dX5_readGiving_40 : decode cX5_readGiving 40 = .ok (.iand, 1) := by decide +kernel
theorem dX5_readGiving_41 : decode cX5_readGiving 41 = .ok (.ifCond .eq 9, 3) := by decide +kernel
theorem dX5_readGiving_44 : decode cX5_readGiving 44 = .ok (.aload_n 0, 1) := by decide +kernel
theorem dX5_readGiving_45 : decode cX5_readGiving 45 = .ok (.iconst 3, 1) := by decide +kernel
theorem dX5_readGiving_46 : decode cX5_readGiving 46 = .ok (.invokevirtual 92, 3) := by decide +kernel
theorem dX5_readGiving_49 : decode cX5_readGiving 49 = .ok (.ireturn, 1) := by decide +kernel
theorem dX5_readGiving_50 : decode cX5_readGiving 50 = .ok (.aload_n 0, 1) := by decide +kernel
theorem dX5_readGiving_51 : decode cX5_readGiving 51 = .ok (.invokevirtual 105, 3) := by decide +kernel
theorem dX5_readGiving_54 : decode cX5_readGiving 54 = .ok (.aload_n 0, 1) := by decide +kernel
theorem dX5_readGiving_55 : decode cX5_readGiving 55 = .ok (.getfield 49, 3) := by decide +kernel
theorem dX5_readGiving_58 : decode cX5_readGiving 58 = .ok (.dup, 1) := by decide +kernel
theorem dX5_readGiving_59 : decode cX5_readGiving 59 = .ok (.getfield 205, 3) := by decide +kernel
theorem dX5_readGiving_62 : decode cX5_readGiving 62 = .ok (.iconst 1, 1) := by decide +kernel
theorem dX5_readGiving_63 : decode cX5_readGiving 63 = .ok (.iload_n 1, 1) := by decide +kernel
theorem dX5_readGiving_64 : decode cX5_readGiving 64 = .ok (.ishl, 1) := by decide +kernel
theorem dX5_readGiving_65 : decode cX5_readGiving 65 = .ok (.ior, 1) := by decide +kernel
theorem dX5_readGiving_66 : decode cX5_readGiving 66 = .ok (.putfield 205, 3) := by decide +kernel
theorem dX5_readGiving_69 : decode cX5_readGiving 69 = .ok (.aload_n 0, 1) := by decide +kernel
theorem dX5_readGiving_70 : decode cX5_readGiving 70 = .ok (.getfield 49, 3) := by decide +kernel
theorem dX5_readGiving_73 : decode cX5_readGiving 73 = .ok (.getfield 208, 3) := by decide +kernel
theorem dX5_readGiving_76 : decode cX5_readGiving 76 = .ok (.iload_n 1, 1) := by decide +kernel
theorem dX5_readGiving_77 : decode cX5_readGiving 77 = .ok (.aload_n 0, 1) := by decide +kernel
theorem dX5_readGiving_78 : decode cX5_readGiving 78 = .ok (.invokevirtual 152, 3) := by decide +kernel
theorem dX5_readGiving_81 : decode cX5_readGiving 81 = .ok (.iastore, 1) := by decide +kernel
theorem dX5_readGiving_82 : decode cX5_readGiving 82 = .ok (.aload_n 0, 1) := by decide +kernel
theorem dX5_readGiving_83 : decode cX5_readGiving 83 = .ok (.bipush 61, 2) := by decide +kernel
theorem dX5_readGiving_85 : decode cX5_readGiving 85 = .ok (.invokevirtual 99, 3) := by decide +kernel
theorem dX5_readGiving_88 : decode cX5_readGiving 88 = .ok (.ifCond .eq 22, 3) := by decide +kernel
theorem dX5_readGiving_91 : decode cX5_readGiving 91 = .ok (.aload_n 0, 1) := by decide +kernel
theorem dX5_readGiving_92 : decode cX5_readGiving 92 = .ok (.iconst 0, 1) := by decide +kernel
theorem dX5_readGiving_93 : decode cX5_readGiving 93 = .ok (.invokevirtual 164, 3) := by decide +kernel
theorem dX5_readGiving_96 : decode cX5_readGiving 96 = .ok (.ifCond .eq 14, 3) := by decide +kernel
theorem dX5_readGiving_99 : decode cX5_readGiving 99 = .ok (.aload_n 0, 1) := by decide +kernel
theorem dX5_readGiving_100 : decode cX5_readGiving 100 = .ok (.invokevirtual 158, 3) := by decide +kernel
theorem dX5_readGiving_103 : decode cX5_readGiving 103 = .ok (.ifCond .eq 7, 3) := by decide +kernel
theorem dX5_readGiving_106 : decode cX5_readGiving 106 = .ok (.iconst 1, 1) := by decide +kernel
theorem dX5_readGiving_107 : decode cX5_readGiving 107 = .ok (.goto 4, 3) := by decide +kernel
theorem dX5_readGiving_110 : decode cX5_readGiving 110 = .ok (.iconst 0, 1) := by decide +kernel
theorem dX5_readGiving_111 : decode cX5_readGiving 111 = .ok (.ireturn, 1) := by decide +kernel
theorem okX5_readGiving {E : Ev} {S : Sh} {Z : Option Nat} {Q : Int32 → Hp → Prop} {h : Hp} {a0 : Nat} (hw : wX5_readGiving S h a0 Q) : Ct E yX5_readGiving cX5_readGiving 2 (some .boolean) 44 1690 0 0 S Z h [vr a0] (qI S Z Q) := by
  refine Ct.of (by decide) (lc := [some (vr a0), none]) (Nat.le_of_ble_eq_true rfl) rfl (fun X O => ?_)
  unfold wX5_readGiving at hw
  refine g_aload_n O dX5_readGiving_0 rfl ?_
  obtain ⟨c1, hw⟩ := hw
  refine g_callV (As := []) (rest := []) O ci_5 rfl dX5_readGiving_1 ml_X5_65 im_yX5_kind se_yX5_kind ini_X5 co_yX5_kind yo_yX5_kind c1 rfl rfl (Nat.le_of_ble_eq_true rfl) ⟨by decide, by decide, by decide, by decide⟩ (okX5_kind hw) (k_I fun r1 h1 hw => ?_)
  refine g_sipush O dX5_readGiving_4 ks_302 ?_
  refine g_icmp_eq (tgt := 16) O dX5_readGiving_7 rfl (fun q7 => ?_) (fun q7 => ?_)
  · have hw := hw.1 q7
    refine g_aload_n O dX5_readGiving_16 rfl ?_
    refine g_aload_n O dX5_readGiving_17 rfl ?_
    refine g_callV (As := []) (rest := [vr a0]) O ci_5 rfl dX5_readGiving_18 ml_X5_111 im_yX5_code se_yX5_code ini_X5 co_yX5_code yo_yX5_code c1 rfl rfl (Nat.le_of_ble_eq_true rfl) ⟨by decide, by decide, by decide, by decide⟩ (okX5_code hw) (k_J fun r18 h18 hw => ?_)
    refine g_callV (As := [vj r18]) (rest := []) O ci_5 rfl dX5_readGiving_21 ml_X5_201 im_yX5_slotOf se_yX5_slotOf ini_X5 co_yX5_slotOf yo_yX5_slotOf c1 rfl rfl (Nat.le_of_ble_eq_true rfl) ⟨by decide, by decide, by decide, by decide⟩ (okX5_slotOf hw) (k_I fun r21 h21 hw => ?_)
    refine g_istore_n (lc' := [some (vr a0), some (vi r21)]) O dX5_readGiving_24 rfl (Nat.le_of_ble_eq_true rfl) rfl ?_
    refine g_iload_n O dX5_readGiving_25 rfl ?_
    refine g_iconst O dX5_readGiving_26 kv_m1 ?_
    refine g_icmp_eq (tgt := 44) O dX5_readGiving_27 rfl (fun q27 => ?_) (fun q27 => ?_)
    · have hw := hw.1 q27
      refine g_aload_n O dX5_readGiving_44 rfl ?_
      refine g_iconst O dX5_readGiving_45 kv_3 ?_
      refine g_callV (As := [vi (3 : Int32)]) (rest := []) O ci_5 rfl dX5_readGiving_46 ml_X5_92 im_yX5_fail se_yX5_fail ini_X5 co_yX5_fail yo_yX5_fail c1 rfl rfl (Nat.le_of_ble_eq_true rfl) ⟨by decide, by decide, by decide, by decide⟩ (okX5_fail hw) (k_I fun r46 h46 hw => ?_)
      obtain ⟨c49z, hw⟩ := hw
      exact g_zreturn O dX5_readGiving_49 c49z ⟨rfl, rfl, _, rfl, hw⟩
    · have hw := hw.2 q27
      refine g_aload_n O dX5_readGiving_30 rfl ?_
      refine gf_X5_event O dX5_readGiving_31 fl_X5_49 c1 ?_
      obtain ⟨c34, hw⟩ := hw
      refine gf_X0_gives O dX5_readGiving_34 fl_X5_205 c34 ?_
      refine g_iload_n O dX5_readGiving_37 rfl ?_
      refine g_ishr O dX5_readGiving_38 ?_
      refine g_iconst O dX5_readGiving_39 kv_1 ?_
      refine g_iand O dX5_readGiving_40 ?_
      refine g_if_eq (tgt := 50) O dX5_readGiving_41 rfl (fun q41 => ?_) (fun q41 => ?_)
      · have hw := hw.1 q41
        refine g_aload_n O dX5_readGiving_50 rfl ?_
        refine g_callV (As := []) (rest := []) O ci_5 rfl dX5_readGiving_51 ml_X5_105 im_yX5_advance se_yX5_advance ini_X5 co_yX5_advance yo_yX5_advance c1 rfl rfl (Nat.le_of_ble_eq_true rfl) ⟨by decide, by decide, by decide, by decide⟩ (okX5_advance hw) (k_V fun h51 hw => ?_)
        refine g_aload_n O dX5_readGiving_54 rfl ?_
        refine gf_X5_event O dX5_readGiving_55 fl_X5_49 c1 ?_
        refine g_dup O dX5_readGiving_58 rfl ?_
        obtain ⟨c59, hw⟩ := hw
        refine gf_X0_gives O dX5_readGiving_59 fl_X5_205 c59 ?_
        refine g_iconst O dX5_readGiving_62 kv_1 ?_
        refine g_iload_n O dX5_readGiving_63 rfl ?_
        refine g_ishl O dX5_readGiving_64 ?_
        refine g_ior O dX5_readGiving_65 ?_
        refine pf_X0_gives O dX5_readGiving_66 fl_X5_205 c59 ?_
        refine g_nmH (fun h66 e66 => ?_)
        have hw := hw h66 e66
        refine g_aload_n O dX5_readGiving_69 rfl ?_
        refine gf_X5_event O dX5_readGiving_70 fl_X5_49 c1 ?_
        obtain ⟨c73, hw⟩ := hw
        refine gf_X0_giveCode O dX5_readGiving_73 fl_X5_208 c73 ?_
        refine g_iload_n O dX5_readGiving_76 rfl ?_
        refine g_aload_n O dX5_readGiving_77 rfl ?_
        refine g_callV (As := []) (rest := [vi r21, vr ((gR h66 (gR h66 a0 6) 0))]) O ci_5 rfl dX5_readGiving_78 ml_X5_152 im_yX5_startCode se_yX5_startCode ini_X5 co_yX5_startCode yo_yX5_startCode c1 rfl rfl (Nat.le_of_ble_eq_true rfl) ⟨by decide, by decide, by decide, by decide⟩ (okX5_startCode hw) (k_I fun r78 h78 hw => ?_)
        obtain ⟨c81, hw⟩ := hw
        refine g_iastore O dX5_readGiving_81 c81.1 c81.2 ?_
        refine g_aload_n O dX5_readGiving_82 rfl ?_
        refine g_bipush O dX5_readGiving_83 kb_61 ?_
        refine g_callV (As := [vi (61 : Int32)]) (rest := []) O ci_5 rfl dX5_readGiving_85 ml_X5_99 im_yX5_pass se_yX5_pass ini_X5 co_yX5_pass yo_yX5_pass c1 rfl rfl (Nat.le_of_ble_eq_true rfl) ⟨by decide, by decide, by decide, by decide⟩ (okX5_pass hw) (k_I fun r85 h85 hw => ?_)
        refine g_if_eq (tgt := 110) O dX5_readGiving_88 rfl (fun q88 => ?_) (fun q88 => ?_)
        · have hw := hw.1 q88
          refine g_iconst O dX5_readGiving_110 kv_0 ?_
          exact g_zreturn O dX5_readGiving_111 (by decide) ⟨rfl, rfl, _, rfl, hw⟩
        · have hw := hw.2 q88
          refine g_aload_n O dX5_readGiving_91 rfl ?_
          refine g_iconst O dX5_readGiving_92 kv_0 ?_
          refine g_callV (As := [vi (0 : Int32)]) (rest := []) O ci_5 rfl dX5_readGiving_93 ml_X5_164 im_yX5_readSum se_yX5_readSum ini_X5 co_yX5_readSum yo_yX5_readSum c1 rfl rfl (Nat.le_of_ble_eq_true rfl) ⟨by decide, by decide, by decide, by decide⟩ (okX5_readSum hw) (k_I fun r93 h93 hw => ?_)
          refine g_if_eq (tgt := 110) O dX5_readGiving_96 rfl (fun q96 => ?_) (fun q96 => ?_)
          · have hw := hw.1 q96
            refine g_iconst O dX5_readGiving_110 kv_0 ?_
            exact g_zreturn O dX5_readGiving_111 (by decide) ⟨rfl, rfl, _, rfl, hw⟩
          · have hw := hw.2 q96
            refine g_aload_n O dX5_readGiving_99 rfl ?_
            refine g_callV (As := []) (rest := []) O ci_5 rfl dX5_readGiving_100 ml_X5_158 im_yX5_stopCode se_yX5_stopCode ini_X5 co_yX5_stopCode yo_yX5_stopCode c1 rfl rfl (Nat.le_of_ble_eq_true rfl) ⟨by decide, by decide, by decide, by decide⟩ (okX5_stopCode hw) (k_I fun r100 h100 hw => ?_)
            refine g_if_eq (tgt := 110) O dX5_readGiving_103 rfl (fun q103 => ?_) (fun q103 => ?_)
            · have hw := hw.1 q103
              refine g_iconst O dX5_readGiving_110 kv_0 ?_
              exact g_zreturn O dX5_readGiving_111 (by decide) ⟨rfl, rfl, _, rfl, hw⟩
            · have hw := hw.2 q103
              refine g_iconst O dX5_readGiving_106 kv_1 ?_
              refine g_goto (tgt := 111) O dX5_readGiving_107 rfl ?_
              exact g_zreturn O dX5_readGiving_111 (by decide) ⟨rfl, rfl, _, rfl, hw⟩
      · have hw := hw.2 q41
        refine g_aload_n O dX5_readGiving_44 rfl ?_
        refine g_iconst O dX5_readGiving_45 kv_3 ?_
        refine g_callV (As := [vi (3 : Int32)]) (rest := []) O ci_5 rfl dX5_readGiving_46 ml_X5_92 im_yX5_fail se_yX5_fail ini_X5 co_yX5_fail yo_yX5_fail c1 rfl rfl (Nat.le_of_ble_eq_true rfl) ⟨by decide, by decide, by decide, by decide⟩ (okX5_fail hw) (k_I fun r46 h46 hw => ?_)
        obtain ⟨c49z, hw⟩ := hw
        exact g_zreturn O dX5_readGiving_49 c49z ⟨rfl, rfl, _, rfl, hw⟩
  · have hw := hw.2 q7
    refine g_aload_n O dX5_readGiving_10 rfl ?_
    refine g_iconst O dX5_readGiving_11 kv_1 ?_
    refine g_callV (As := [vi (1 : Int32)]) (rest := []) O ci_5 rfl dX5_readGiving_12 ml_X5_92 im_yX5_fail se_yX5_fail ini_X5 co_yX5_fail yo_yX5_fail c1 rfl rfl (Nat.le_of_ble_eq_true rfl) ⟨by decide, by decide, by decide, by decide⟩ (okX5_fail hw) (k_I fun r12 h12 hw => ?_)
    obtain ⟨c15z, hw⟩ := hw
    exact g_zreturn O dX5_readGiving_15 c15z ⟨rfl, rfl, _, rfl, hw⟩
theorem dX5_readGivings_0 : decode cX5_readGivings 0 = .ok (.aload_n 0, 1) := by decide +kernel
theorem dX5_readGivings_1 : decode cX5_readGivings 1 = .ok (.sipush 410, 3) := by decide +kernel
theorem dX5_readGivings_4 : decode cX5_readGivings 4 = .ok (.invokevirtual 99, 3) := by decide +kernel
theorem dX5_readGivings_7 : decode cX5_readGivings 7 = .ok (.ifCond .eq 10, 3) := by decide +kernel
theorem dX5_readGivings_10 : decode cX5_readGivings 10 = .ok (.aload_n 0, 1) := by decide +kernel
theorem dX5_readGivings_11 : decode cX5_readGivings 11 = .ok (.invokevirtual 198, 3) := by decide +kernel
theorem dX5_readGivings_14 : decode cX5_readGivings 14 = .ok (.ifCond .ne 5, 3) := by decide +kernel
theorem dX5_readGivings_17 : decode cX5_readGivings 17 = .ok (.iconst 0, 1) := by decide +kernel
theorem dX5_readGivings_18 : decode cX5_readGivings 18 = .ok (.ireturn, 1) := by decide +kernel
theorem dX5_readGivings_19 : decode cX5_readGivings 19 = .ok (.iconst 0, 1) := by decide +kernel
theorem dX5_readGivings_20 : decode cX5_readGivings 20 = .ok (.istore_n 1, 1) := by decide +kernel
theorem dX5_readGivings_21 : decode cX5_readGivings 21 = .ok (.iload_n 1, 1) := by decide +kernel
theorem dX5_readGivings_22 : decode cX5_readGivings 22 = .ok (.iconst 3, 1) := by decide +kernel
theorem dX5_readGivings_23 : decode cX5_readGivings 23 = .ok (.if_icmp .ge 31, 3) := by decide +kernel
theorem dX5_readGivings_26 : decode cX5_readGivings 26 = .ok (.aload_n 0, 1) := by decide +kernel
theorem dX5_readGivings_27 : decode cX5_readGivings 27 = .ok (.invokevirtual 65, 3) := by decide +kernel
theorem dX5_readGivings_30 : decode cX5_readGivings 30 = .ok (.bipush 44, 2) := by decide +kernel
theorem dX5_readGivings_32 : decode cX5_readGivings 32 = .ok (.if_icmp .ne 22, 3) := by decide +kernel
theorem dX5_readGivings_35 : decode cX5_readGivings 35 = .ok (.aload_n 0, 1) := by decide +kernel
theorem dX5_readGivings_36 : decode cX5_readGivings 36 = .ok (.invokevirtual 105, 3) := by decide +kernel
theorem dX5_readGivings_39 : decode cX5_readGivings 39 = .ok (.aload_n 0, 1) := by decide +kernel
theorem dX5_readGivings_40 : decode cX5_readGivings 40 = .ok (.invokevirtual 198, 3) := by decide +kernel
theorem dX5_readGivings_43 : decode cX5_readGivings 43 = .ok (.ifCond .ne 5, 3) := by decide +kernel
theorem dX5_readGivings_46 : decode cX5_readGivings 46 = .ok (.iconst 0, 1) := by decide +kernel
theorem dX5_readGivings_47 : decode cX5_readGivings 47 = .ok (.ireturn, 1) := by decide +kernel
theorem dX5_readGivings_48 : decode cX5_readGivings 48 = .ok (.iinc 1 1, 3) := by decide +kernel
theorem dX5_readGivings_51 : decode cX5_readGivings 51 = .ok (.goto (-30), 3) := by decide +kernel
theorem dX5_readGivings_54 : decode cX5_readGivings 54 = .ok (.iconst 1, 1) := by decide +kernel
theorem dX5_readGivings_55 : decode cX5_readGivings 55 = .ok (.ireturn, 1) := by decide +kernel
theorem okX5_readGivings_21 {E : Ev} {X : Cx} {S : Sh} {Z : Option Nat} {Q : Int32 → Hp → Prop} {a0 : Nat} (O : Ok E X yX5_readGivings cX5_readGivings 2 (some .boolean) 45 1711 0 0 (qI S Z Q)) : ∀ (n : Nat) (h : Hp) (x1 : Int32), wX5_readGivings_21 S a0 Q n h x1 → G E X 0 0 S Z h 21 [some (vr a0), some (vi x1)] [] := by
  intro n
  induction n with
  | zero => intro h x1 hw; exact hw.elim
  | succ n hB21 =>
    intro h x1 hw
    have hw : wX5_readGivings_21b S a0 Q (wX5_readGivings_21 S a0 Q n) h x1 := hw
    unfold wX5_readGivings_21b at hw
    refine g_iload_n O dX5_readGivings_21 rfl ?_
    refine g_iconst O dX5_readGivings_22 kv_3 ?_
    refine g_icmp_ge (tgt := 54) O dX5_readGivings_23 rfl (fun q23 => ?_) (fun q23 => ?_)
    · have hw := hw.1 q23
      refine g_iconst O dX5_readGivings_54 kv_1 ?_
      exact g_zreturn O dX5_readGivings_55 (by decide) ⟨rfl, rfl, _, rfl, hw⟩
    · have hw := hw.2 q23
      refine g_aload_n O dX5_readGivings_26 rfl ?_
      obtain ⟨c27, hw⟩ := hw
      refine g_callV (As := []) (rest := []) O ci_5 rfl dX5_readGivings_27 ml_X5_65 im_yX5_kind se_yX5_kind ini_X5 co_yX5_kind yo_yX5_kind c27 rfl rfl (Nat.le_of_ble_eq_true rfl) ⟨by decide, by decide, by decide, by decide⟩ (okX5_kind hw) (k_I fun r27 h27 hw => ?_)
      refine g_bipush O dX5_readGivings_30 kb_44 ?_
      refine g_icmp_ne (tgt := 54) O dX5_readGivings_32 rfl (fun q32 => ?_) (fun q32 => ?_)
      · have hw := hw.1 q32
        refine g_iconst O dX5_readGivings_54 kv_1 ?_
        exact g_zreturn O dX5_readGivings_55 (by decide) ⟨rfl, rfl, _, rfl, hw⟩
      · have hw := hw.2 q32
        refine g_aload_n O dX5_readGivings_35 rfl ?_
        refine g_callV (As := []) (rest := []) O ci_5 rfl dX5_readGivings_36 ml_X5_105 im_yX5_advance se_yX5_advance ini_X5 co_yX5_advance yo_yX5_advance c27 rfl rfl (Nat.le_of_ble_eq_true rfl) ⟨by decide, by decide, by decide, by decide⟩ (okX5_advance hw) (k_V fun h36 hw => ?_)
        refine g_aload_n O dX5_readGivings_39 rfl ?_
        refine g_callV (As := []) (rest := []) O ci_5 rfl dX5_readGivings_40 ml_X5_198 im_yX5_readGiving se_yX5_readGiving ini_X5 co_yX5_readGiving yo_yX5_readGiving c27 rfl rfl (Nat.le_of_ble_eq_true rfl) ⟨by decide, by decide, by decide, by decide⟩ (okX5_readGiving hw) (k_I fun r40 h40 hw => ?_)
        refine g_if_ne (tgt := 48) O dX5_readGivings_43 rfl (fun q43 => ?_) (fun q43 => ?_)
        · have hw := hw.1 q43
          refine g_iinc (lc' := [some (vr a0), some (vi (x1 + (1 : Int32)))]) O dX5_readGivings_48 rfl kv_1 rfl rfl ?_
          refine g_goto (tgt := 21) O dX5_readGivings_51 rfl ?_
          exact hB21 _ _ hw
        · have hw := hw.2 q43
          refine g_iconst O dX5_readGivings_46 kv_0 ?_
          exact g_zreturn O dX5_readGivings_47 (by decide) ⟨rfl, rfl, _, rfl, hw⟩
theorem okX5_readGivings {E : Ev} {S : Sh} {Z : Option Nat} {Q : Int32 → Hp → Prop} {h : Hp} {a0 : Nat} (hw : wX5_readGivings S h a0 Q) : Ct E yX5_readGivings cX5_readGivings 2 (some .boolean) 45 1711 0 0 S Z h [vr a0] (qI S Z Q) := by
  refine Ct.of (by decide) (lc := [some (vr a0), none]) (Nat.le_of_ble_eq_true rfl) rfl (fun X O => ?_)
  unfold wX5_readGivings at hw
  refine g_aload_n O dX5_readGivings_0 rfl ?_
  refine g_sipush O dX5_readGivings_1 ks_410 ?_
  obtain ⟨c4, hw⟩ := hw
  refine g_callV (As := [vi (410 : Int32)]) (rest := []) O ci_5 rfl dX5_readGivings_4 ml_X5_99 im_yX5_pass se_yX5_pass ini_X5 co_yX5_pass yo_yX5_pass c4 rfl rfl (Nat.le_of_ble_eq_true rfl) ⟨by decide, by decide, by decide, by decide⟩ (okX5_pass hw) (k_I fun r4 h4 hw => ?_)
  refine g_if_eq (tgt := 17) O dX5_readGivings_7 rfl (fun q7 => ?_) (fun q7 => ?_)
  · have hw := hw.1 q7
    refine g_iconst O dX5_readGivings_17 kv_0 ?_
    exact g_zreturn O dX5_readGivings_18 (by decide) ⟨rfl, rfl, _, rfl, hw⟩
  · have hw := hw.2 q7
    refine g_aload_n O dX5_readGivings_10 rfl ?_
    refine g_callV (As := []) (rest := []) O ci_5 rfl dX5_readGivings_11 ml_X5_198 im_yX5_readGiving se_yX5_readGiving ini_X5 co_yX5_readGiving yo_yX5_readGiving c4 rfl rfl (Nat.le_of_ble_eq_true rfl) ⟨by decide, by decide, by decide, by decide⟩ (okX5_readGiving hw) (k_I fun r11 h11 hw => ?_)
    refine g_if_ne (tgt := 19) O dX5_readGivings_14 rfl (fun q14 => ?_) (fun q14 => ?_)
    · have hw := hw.1 q14
      refine g_iconst O dX5_readGivings_19 kv_0 ?_
      refine g_istore_n (lc' := [some (vr a0), some (vi (0 : Int32))]) O dX5_readGivings_20 rfl (Nat.le_of_ble_eq_true rfl) rfl ?_
      obtain ⟨n21, hw⟩ := hw
      exact okX5_readGivings_21 O n21 _ _ hw
    · have hw := hw.2 q14
      refine g_iconst O dX5_readGivings_17 kv_0 ?_
      exact g_zreturn O dX5_readGivings_18 (by decide) ⟨rfl, rfl, _, rfl, hw⟩
theorem dX5_readOf_0 : decode cX5_readOf 0 = .ok (.aload_n 0, 1) := by decide +kernel
theorem dX5_readOf_1 : decode cX5_readOf 1 = .ok (.invokevirtual 105, 3) := by decide +kernel
theorem dX5_readOf_4 : decode cX5_readOf 4 = .ok (.aload_n 0, 1) := by decide +kernel
theorem dX5_readOf_5 : decode cX5_readOf 5 = .ok (.invokevirtual 65, 3) := by decide +kernel
theorem dX5_readOf_8 : decode cX5_readOf 8 = .ok (.sipush 302, 3) := by decide +kernel
theorem dX5_readOf_11 : decode cX5_readOf 11 = .ok (.if_icmp .eq 9, 3) := by decide +kernel
theorem dX5_readOf_14 : decode cX5_readOf 14 = .ok (.aload_n 0, 1) := by decide +kernel
theorem dX5_readOf_15 : decode cX5_readOf 15 = .ok (.iconst 1, 1) := by decide +kernel
theorem dX5_readOf_16 : decode cX5_readOf 16 = .ok (.invokevirtual 92, 3) := by decide +kernel
theorem dX5_readOf_19 : decode cX5_readOf 19 = .ok (.ireturn, 1) := by decide +kernel
theorem dX5_readOf_20 : decode cX5_readOf 20 = .ok (.aload_n 0, 1) := by decide +kernel
theorem dX5_readOf_21 : decode cX5_readOf 21 = .ok (.getfield 31, 3) := by decide +kernel
theorem dX5_readOf_24 : decode cX5_readOf 24 = .ok (.getfield 102, 3) := by decide +kernel
theorem dX5_readOf_27 : decode cX5_readOf 27 = .ok (.iconst 1, 1) := by decide +kernel
theorem dX5_readOf_28 : decode cX5_readOf 28 = .ok (.if_icmp .le 62, 3) := by decide +kernel
theorem dX5_readOf_31 : decode cX5_readOf 31 = .ok (.aload_n 0, 1) := by decide +kernel
theorem dX5_readOf_32 : decode cX5_readOf 32 = .ok (.getfield 31, 3) := by decide +kernel
theorem dX5_readOf_35 : decode cX5_readOf 35 = .ok (.getfield 35, 3) := by decide +kernel
theorem dX5_readOf_38 : decode cX5_readOf 38 = .ok (.aload_n 0, 1) := by decide +kernel
theorem dX5_readOf_39 : decode cX5_readOf 39 = .ok (.getfield 31, 3) := by decide +kernel
theorem dX5_readOf_42 : decode cX5_readOf 42 = .ok (.getfield 102, 3) := by decide +kernel
theorem dX5_readOf_45 : decode cX5_readOf 45 = .ok (.iconst 2, 1) := by decide +kernel
theorem dX5_readOf_46 : decode cX5_readOf 46 = .ok (.isub, 1) := by decide +kernel
theorem dX5_readOf_47 : decode cX5_readOf 47 = .ok (.aaload, 1) := by decide +kernel
theorem dX5_readOf_48 : decode cX5_readOf 48 = .ok (.astore_n 1, 1) := by decide +kernel
theorem dX5_readOf_49 : decode cX5_readOf 49 = .ok (.iconst 0, 1) := by decide +kernel
theorem dX5_readOf_50 : decode cX5_readOf 50 = .ok (.istore_n 2, 1) := by decide +kernel
theorem dX5_readOf_51 : decode cX5_readOf 51 = .ok (.iload_n 2, 1) := by decide +kernel
theorem dX5_readOf_52 : decode cX5_readOf 52 = .ok (.aload_n 1, 1) := by decide +kernel
theorem dX5_readOf_53 : decode cX5_readOf 53 = .ok (.getfield 167, 3) := by decide +kernel
theorem dX5_readOf_56 : decode cX5_readOf 56 = .ok (.if_icmp .ge 34, 3) := by decide +kernel
theorem dX5_readOf_59 : decode cX5_readOf 59 = .ok (.aload_n 1, 1) := by decide +kernel
theorem dX5_readOf_60 : decode cX5_readOf 60 = .ok (.getfield 43, 3) := by decide +kernel
theorem dX5_readOf_63 : decode cX5_readOf 63 = .ok (.iload_n 2, 1) := by decide +kernel
theorem dX5_readOf_64 : decode cX5_readOf 64 = .ok (.aaload, 1) := by decide +kernel
theorem dX5_readOf_65 : decode cX5_readOf 65 = .ok (.getfield 185, 3) := by decide +kernel
theorem dX5_readOf_68 : decode cX5_readOf 68 = .ok (.aload_n 0, 1) := by decide +kernel
theorem dX5_readOf_69 : decode cX5_readOf 69 = .ok (.invokevirtual 111, 3) := by decide +kernel
theorem dX5_readOf_72 : decode cX5_readOf 72 = .ok (.lcmp, 1) := by decide +kernel
theorem dX5_readOf_73 : decode cX5_readOf 73 = .ok (.ifCond .ne 11, 3) := by decide +kernel
theorem dX5_readOf_76 : decode cX5_readOf 76 = .ok (.aload_n 0, 1) := by decide +kernel
theorem dX5_readOf_77 : decode cX5_readOf 77 = .ok (.getfield 49, 3) := by decide +kernel
theorem dX5_readOf_80 : decode cX5_readOf 80 = .ok (.iload_n 2, 1) := by decide +kernel
theorem dX5_readOf_81 : decode cX5_readOf 81 = .ok (.putfield 189, 3) := by decide +kernel
theorem dX5_readOf_84 : decode cX5_readOf 84 = .ok (.iinc 2 1, 3) := by decide +kernel
theorem dX5_readOf_87 : decode cX5_readOf 87 = .ok (.goto (-36), 3) := by decide +kernel
theorem dX5_readOf_90 : decode cX5_readOf 90 = .ok (.aload_n 0, 1) := by decide +kernel
theorem dX5_readOf_91 : decode cX5_readOf 91 = .ok (.getfield 49, 3) := by decide +kernel
theorem dX5_readOf_94 : decode cX5_readOf 94 = .ok (.getfield 189, 3) := by decide +kernel
theorem dX5_readOf_97 : decode cX5_readOf 97 = .ok (.bipush (-2), 2) := by decide +kernel
theorem dX5_readOf_99 : decode cX5_readOf 99 = .ok (.if_icmp .ne 9, 3) := by decide +kernel
theorem dX5_readOf_102 : decode cX5_readOf 102 = .ok (.aload_n 0, 1) := by decide +kernel
theorem dX5_readOf_103 : decode cX5_readOf 103 = .ok (.iconst 3, 1) := by decide +kernel
theorem dX5_readOf_104 : decode cX5_readOf 104 = .ok (.invokevirtual 92, 3) := by decide +kernel
theorem dX5_readOf_107 : decode cX5_readOf 107 = .ok (.ireturn, 1) := by decide +kernel
theorem dX5_readOf_108 : decode cX5_readOf 108 = .ok (.aload_n 0, 1) := by decide +kernel
theorem dX5_readOf_109 : decode cX5_readOf 109 = .ok (.invokevirtual 105, 3) := by decide +kernel
theorem dX5_readOf_112 : decode cX5_readOf 112 = .ok (.iconst 1, 1) := by decide +kernel
theorem dX5_readOf_113 : decode cX5_readOf 113 = .ok (.ireturn, 1) := by decide +kernel
theorem okX5_readOf_j90 {E : Ev} {X : Cx} {S : Sh} {Z : Option Nat} {Q : Int32 → Hp → Prop} {h : Hp} {a0 : Nat} (O : Ok E X yX5_readOf cX5_readOf 3 (some .boolean) 2 45 0 0 (qI S Z Q)) (hw : wX5_readOf_j90 S h a0 Q) : G E X 0 0 S Z h 90 [some (vr a0), none, none] [] := by
  unfold wX5_readOf_j90 at hw
  refine g_aload_n O dX5_readOf_90 rfl ?_
  obtain ⟨c91, hw⟩ := hw
  refine gf_X5_event O dX5_readOf_91 fl_X5_49 c91 ?_
  obtain ⟨c94, hw⟩ := hw
  refine gf_X0_of O dX5_readOf_94 fl_X5_189 c94 ?_
  refine g_bipush O dX5_readOf_97 kb_m2 ?_
  refine g_icmp_ne (tgt := 108) O dX5_readOf_99 rfl (fun q99 => ?_) (fun q99 => ?_)
  · have hw := hw.1 q99
    refine g_aload_n O dX5_readOf_108 rfl ?_
    refine g_callV (As := []) (rest := []) O ci_5 rfl dX5_readOf_109 ml_X5_105 im_yX5_advance se_yX5_advance ini_X5 co_yX5_advance yo_yX5_advance c91 rfl rfl (Nat.le_of_ble_eq_true rfl) ⟨by decide, by decide, by decide, by decide⟩ (okX5_advance hw) (k_V fun h109 hw => ?_)
    refine g_iconst O dX5_readOf_112 kv_1 ?_
    exact g_zreturn O dX5_readOf_113 (by decide) ⟨rfl, rfl, _, rfl, hw⟩
  · have hw := hw.2 q99
    refine g_aload_n O dX5_readOf_102 rfl ?_
    refine g_iconst O dX5_readOf_103 kv_3 ?_
    refine g_callV (As := [vi (3 : Int32)]) (rest := []) O ci_5 rfl dX5_readOf_104 ml_X5_92 im_yX5_fail se_yX5_fail ini_X5 co_yX5_fail yo_yX5_fail c91 rfl rfl (Nat.le_of_ble_eq_true rfl) ⟨by decide, by decide, by decide, by decide⟩ (okX5_fail hw) (k_I fun r104 h104 hw => ?_)
    obtain ⟨c107z, hw⟩ := hw
    exact g_zreturn O dX5_readOf_107 c107z ⟨rfl, rfl, _, rfl, hw⟩
theorem okX5_readOf_51 {E : Ev} {X : Cx} {S : Sh} {Z : Option Nat} {Q : Int32 → Hp → Prop} {a0 : Nat} {a1 : Nat} (O : Ok E X yX5_readOf cX5_readOf 3 (some .boolean) 2 45 0 0 (qI S Z Q)) : ∀ (n : Nat) (h : Hp) (x2 : Int32), wX5_readOf_51 S a0 a1 Q n h x2 → G E X 0 0 S Z h 51 [some (vr a0), some (vr a1), some (vi x2)] [] := by
  intro n
  induction n with
  | zero => intro h x2 hw; exact hw.elim
  | succ n hB51 =>
    intro h x2 hw
    have hw : wX5_readOf_51b S a0 a1 Q (wX5_readOf_51 S a0 a1 Q n) h x2 := hw
    unfold wX5_readOf_51b at hw
    refine g_iload_n O dX5_readOf_51 rfl ?_
    refine g_aload_n O dX5_readOf_52 rfl ?_
    obtain ⟨c53, hw⟩ := hw
    refine gf_X2_events O dX5_readOf_53 fl_X5_167 c53 ?_
    refine g_icmp_ge (tgt := 90) O dX5_readOf_56 rfl (fun q56 => ?_) (fun q56 => ?_)
    · have hw := hw.1 q56
      refine g_mask [true, false, false] rfl rfl ?_
      exact okX5_readOf_j90 O hw
    · have hw := hw.2 q56
      refine g_aload_n O dX5_readOf_59 rfl ?_
      refine gf_X2_event O dX5_readOf_60 fl_X5_43 c53 ?_
      refine g_iload_n O dX5_readOf_63 rfl ?_
      obtain ⟨c64, hw⟩ := hw
      refine g_aaload (t := 0) (C := "FinerSteps$Event") O rfl dX5_readOf_64 c64.1 c64.2 ?_
      obtain ⟨c65, hw⟩ := hw
      refine gf_X0_name O dX5_readOf_65 fl_X5_185 c65 ?_
      refine g_aload_n O dX5_readOf_68 rfl ?_
      obtain ⟨c69, hw⟩ := hw
      refine g_callV (As := []) (rest := [vj ((gJ h ((gR h (gR h a1 5) (ix x2))) 4))]) O ci_5 rfl dX5_readOf_69 ml_X5_111 im_yX5_code se_yX5_code ini_X5 co_yX5_code yo_yX5_code c69 rfl rfl (Nat.le_of_ble_eq_true rfl) ⟨by decide, by decide, by decide, by decide⟩ (okX5_code hw) (k_J fun r69 h69 hw => ?_)
      refine g_lcmp O dX5_readOf_72 ?_
      refine g_if_ne (tgt := 84) O dX5_readOf_73 rfl (fun q73 => ?_) (fun q73 => ?_)
      · have hw := hw.1 q73
        refine g_iinc (lc' := [some (vr a0), some (vr a1), some (vi (x2 + (1 : Int32)))]) O dX5_readOf_84 rfl kv_1 rfl rfl ?_
        refine g_goto (tgt := 51) O dX5_readOf_87 rfl ?_
        exact hB51 _ _ hw
      · have hw := hw.2 q73
        refine g_aload_n O dX5_readOf_76 rfl ?_
        refine gf_X5_event O dX5_readOf_77 fl_X5_49 c69 ?_
        refine g_iload_n O dX5_readOf_80 rfl ?_
        obtain ⟨c81, hw⟩ := hw
        refine pf_X0_of O dX5_readOf_81 fl_X5_189 c81 ?_
        refine g_iinc (lc' := [some (vr a0), some (vr a1), some (vi (x2 + (1 : Int32)))]) O dX5_readOf_84 rfl kv_1 rfl rfl ?_
        refine g_goto (tgt := 51) O dX5_readOf_87 rfl ?_
        exact hB51 _ _ hw
theorem okX5_readOf {E : Ev} {S : Sh} {Z : Option Nat} {Q : Int32 → Hp → Prop} {h : Hp} {a0 : Nat} (hw : wX5_readOf S h a0 Q) : Ct E yX5_readOf cX5_readOf 3 (some .boolean) 2 45 0 0 S Z h [vr a0] (qI S Z Q) := by
  refine Ct.of (by decide) (lc := [some (vr a0), none, none]) (Nat.le_of_ble_eq_true rfl) rfl (fun X O => ?_)
  unfold wX5_readOf at hw
  refine g_aload_n O dX5_readOf_0 rfl ?_
  obtain ⟨c1, hw⟩ := hw
  refine g_callV (As := []) (rest := []) O ci_5 rfl dX5_readOf_1 ml_X5_105 im_yX5_advance se_yX5_advance ini_X5 co_yX5_advance yo_yX5_advance c1 rfl rfl (Nat.le_of_ble_eq_true rfl) ⟨by decide, by decide, by decide, by decide⟩ (okX5_advance hw) (k_V fun h1 hw => ?_)
  refine g_aload_n O dX5_readOf_4 rfl ?_
  refine g_callV (As := []) (rest := []) O ci_5 rfl dX5_readOf_5 ml_X5_65 im_yX5_kind se_yX5_kind ini_X5 co_yX5_kind yo_yX5_kind c1 rfl rfl (Nat.le_of_ble_eq_true rfl) ⟨by decide, by decide, by decide, by decide⟩ (okX5_kind hw) (k_I fun r5 h5 hw => ?_)
  refine g_sipush O dX5_readOf_8 ks_302 ?_
  refine g_icmp_eq (tgt := 20) O dX5_readOf_11 rfl (fun q11 => ?_) (fun q11 => ?_)
  · have hw := hw.1 q11
    refine g_aload_n O dX5_readOf_20 rfl ?_
    refine gf_X5_model O dX5_readOf_21 fl_X5_31 c1 ?_
    obtain ⟨c24, hw⟩ := hw
    refine gf_X3_count O dX5_readOf_24 fl_X5_102 c24 ?_
    refine g_iconst O dX5_readOf_27 kv_1 ?_
    refine g_icmp_le (tgt := 90) O dX5_readOf_28 rfl (fun q28 => ?_) (fun q28 => ?_)
    · have hw := hw.1 q28
      exact okX5_readOf_j90 O hw
    · have hw := hw.2 q28
      refine g_aload_n O dX5_readOf_31 rfl ?_
      refine gf_X5_model O dX5_readOf_32 fl_X5_31 c1 ?_
      refine gf_X3_machines O dX5_readOf_35 fl_X5_35 c24 ?_
      refine g_aload_n O dX5_readOf_38 rfl ?_
      refine gf_X5_model O dX5_readOf_39 fl_X5_31 c1 ?_
      refine gf_X3_count O dX5_readOf_42 fl_X5_102 c24 ?_
      refine g_iconst O dX5_readOf_45 kv_2 ?_
      refine g_isub O dX5_readOf_46 ?_
      obtain ⟨c47, hw⟩ := hw
      refine g_aaload (t := 1) (C := "FinerSteps$Machine") O rfl dX5_readOf_47 c47.1 c47.2 ?_
      refine g_nmR (fun av48 e48 => ?_)
      have hw := hw av48 e48
      refine g_astore_n (lc' := [some (vr a0), some (vr av48), none]) O dX5_readOf_48 rfl (Nat.le_of_ble_eq_true rfl) rfl ?_
      refine g_iconst O dX5_readOf_49 kv_0 ?_
      refine g_istore_n (lc' := [some (vr a0), some (vr av48), some (vi (0 : Int32))]) O dX5_readOf_50 rfl (Nat.le_of_ble_eq_true rfl) rfl ?_
      obtain ⟨n51, hw⟩ := hw
      exact okX5_readOf_51 O n51 _ _ hw
  · have hw := hw.2 q11
    refine g_aload_n O dX5_readOf_14 rfl ?_
    refine g_iconst O dX5_readOf_15 kv_1 ?_
    refine g_callV (As := [vi (1 : Int32)]) (rest := []) O ci_5 rfl dX5_readOf_16 ml_X5_92 im_yX5_fail se_yX5_fail ini_X5 co_yX5_fail yo_yX5_fail c1 rfl rfl (Nat.le_of_ble_eq_true rfl) ⟨by decide, by decide, by decide, by decide⟩ (okX5_fail hw) (k_I fun r16 h16 hw => ?_)
    obtain ⟨c19z, hw⟩ := hw
    exact g_zreturn O dX5_readOf_19 c19z ⟨rfl, rfl, _, rfl, hw⟩
theorem dX5_readPicks_0 : decode cX5_readPicks 0 = .ok (.aload_n 0, 1) := by decide +kernel
theorem dX5_readPicks_1 : decode cX5_readPicks 1 = .ok (.invokevirtual 105, 3) := by decide +kernel
theorem dX5_readPicks_4 : decode cX5_readPicks 4 = .ok (.aload_n 0, 1) := by decide +kernel
theorem dX5_readPicks_5 : decode cX5_readPicks 5 = .ok (.iconst 0, 1) := by decide +kernel
theorem dX5_readPicks_6 : decode cX5_readPicks 6 = .ok (.bipush 99, 2) := by decide +kernel
theorem dX5_readPicks_8 : decode cX5_readPicks 8 = .ok (.invokevirtual 127, 3) := by decide +kernel
theorem dX5_readPicks_11 : decode cX5_readPicks 11 = .ok (.ifCond .ne 5, 3) := by decide +kernel
theorem dX5_readPicks_14 : decode cX5_readPicks 14 = .ok (.iconst 0, 1) := by decide +kernel
theorem dX5_readPicks_15 : decode cX5_readPicks 15 = .ok (.ireturn, 1) := by decide +kernel
theorem dX5_readPicks_16 : decode cX5_readPicks 16 = .ok (.aload_n 0, 1) := by decide +kernel
theorem dX5_readPicks_17 : decode cX5_readPicks 17 = .ok (.getfield 49, 3) := by decide +kernel
theorem dX5_readPicks_20 : decode cX5_readPicks 20 = .ok (.aload_n 0, 1) := by decide +kernel
theorem dX5_readPicks_21 : decode cX5_readPicks 21 = .ok (.invokevirtual 131, 3) := by decide +kernel
theorem dX5_readPicks_24 : decode cX5_readPicks 24 = .ok (.putfield 192, 3) := by decide +kernel
theorem dX5_readPicks_27 : decode cX5_readPicks 27 = .ok (.aload_n 0, 1) := by decide +kernel
theorem dX5_readPicks_28 : decode cX5_readPicks 28 = .ok (.invokevirtual 105, 3) := by decide +kernel
theorem dX5_readPicks_31 : decode cX5_readPicks 31 = .ok (.aload_n 0, 1) := by decide +kernel
theorem dX5_readPicks_32 : decode cX5_readPicks 32 = .ok (.sipush 403, 3) := by decide +kernel
theorem dX5_readPicks_35 : decode cX5_readPicks 35 = .ok (.invokevirtual 99, 3) := by decide +kernel
theorem dX5_readPicks_38 : decode cX5_readPicks 38 = .ok (.ifCond .eq 19, 3) := by decide +kernel
theorem dX5_readPicks_41 : decode cX5_readPicks 41 = .ok (.aload_n 0, 1) := by decide +kernel
theorem dX5_readPicks_42 : decode cX5_readPicks 42 = .ok (.aload_n 0, 1) := by decide +kernel
theorem dX5_readPicks_43 : decode cX5_readPicks 43 = .ok (.getfield 49, 3) := by decide +kernel
theorem dX5_readPicks_46 : decode cX5_readPicks 46 = .ok (.getfield 192, 3) := by decide +kernel
theorem dX5_readPicks_49 : decode cX5_readPicks 49 = .ok (.bipush 99, 2) := by decide +kernel
theorem dX5_readPicks_51 : decode cX5_readPicks 51 = .ok (.invokevirtual 127, 3) := by decide +kernel
theorem dX5_readPicks_54 : decode cX5_readPicks 54 = .ok (.ifCond .ne 5, 3) := by decide +kernel
theorem dX5_readPicks_57 : decode cX5_readPicks 57 = .ok (.iconst 0, 1) := by decide +kernel
theorem dX5_readPicks_58 : decode cX5_readPicks 58 = .ok (.ireturn, 1) := by decide +kernel
theorem dX5_readPicks_59 : decode cX5_readPicks 59 = .ok (.aload_n 0, 1) := by decide +kernel
theorem dX5_readPicks_60 : decode cX5_readPicks 60 = .ok (.getfield 49, 3) := by decide +kernel
theorem dX5_readPicks_63 : decode cX5_readPicks 63 = .ok (.aload_n 0, 1) := by decide +kernel
theorem dX5_readPicks_64 : decode cX5_readPicks 64 = .ok (.invokevirtual 131, 3) := by decide +kernel
theorem dX5_readPicks_67 : decode cX5_readPicks 67 = .ok (.putfield 195, 3) := by decide +kernel
theorem dX5_readPicks_70 : decode cX5_readPicks 70 = .ok (.aload_n 0, 1) := by decide +kernel
theorem dX5_readPicks_71 : decode cX5_readPicks 71 = .ok (.getfield 49, 3) := by decide +kernel
theorem dX5_readPicks_74 : decode cX5_readPicks 74 = .ok (.getfield 195, 3) := by decide +kernel
theorem dX5_readPicks_77 : decode cX5_readPicks 77 = .ok (.aload_n 0, 1) := by decide +kernel
theorem dX5_readPicks_78 : decode cX5_readPicks 78 = .ok (.getfield 49, 3) := by decide +kernel
theorem dX5_readPicks_81 : decode cX5_readPicks 81 = .ok (.getfield 192, 3) := by decide +kernel
theorem dX5_readPicks_84 : decode cX5_readPicks 84 = .ok (.isub, 1) := by decide +kernel
theorem dX5_readPicks_85 : decode cX5_readPicks 85 = .ok (.bipush 10, 2) := by decide +kernel
theorem dX5_readPicks_87 : decode cX5_readPicks 87 = .ok (.if_icmp .lt 9, 3) := by decide +kernel
theorem dX5_readPicks_90 : decode cX5_readPicks 90 = .ok (.aload_n 0, 1) := by decide +kernel
theorem dX5_readPicks_91 : decode cX5_readPicks 91 = .ok (.iconst 4, 1) := by decide +kernel
theorem dX5_readPicks_92 : decode cX5_readPicks 92 = .ok (.invokevirtual 92, 3) := by decide +kernel
theorem dX5_readPicks_95 : decode cX5_readPicks 95 = .ok (.ireturn, 1) := by decide +kernel
theorem dX5_readPicks_96 : decode cX5_readPicks 96 = .ok (.aload_n 0, 1) := by decide +kernel
theorem dX5_readPicks_97 : decode cX5_readPicks 97 = .ok (.invokevirtual 105, 3) := by decide +kernel
theorem dX5_readPicks_100 : decode cX5_readPicks 100 = .ok (.iconst 1, 1) := by decide +kernel
theorem dX5_readPicks_101 : decode cX5_readPicks 101 = .ok (.ireturn, 1) := by decide +kernel
theorem okX5_readPicks {E : Ev} {S : Sh} {Z : Option Nat} {Q : Int32 → Hp → Prop} {h : Hp} {a0 : Nat} (hw : wX5_readPicks S h a0 Q) : Ct E yX5_readPicks cX5_readPicks 1 (some .boolean) 3 67 0 0 S Z h [vr a0] (qI S Z Q) := by
  refine Ct.of (by decide) (lc := [some (vr a0)]) (Nat.le_of_ble_eq_true rfl) rfl (fun X O => ?_)
  unfold wX5_readPicks at hw
  refine g_aload_n O dX5_readPicks_0 rfl ?_
  obtain ⟨c1, hw⟩ := hw
  refine g_callV (As := []) (rest := []) O ci_5 rfl dX5_readPicks_1 ml_X5_105 im_yX5_advance se_yX5_advance ini_X5 co_yX5_advance yo_yX5_advance c1 rfl rfl (Nat.le_of_ble_eq_true rfl) ⟨by decide, by decide, by decide, by decide⟩ (okX5_advance hw) (k_V fun h1 hw => ?_)
  refine g_aload_n O dX5_readPicks_4 rfl ?_
  refine g_iconst O dX5_readPicks_5 kv_0 ?_
  refine g_bipush O dX5_readPicks_6 kb_99 ?_
  refine g_callV (As := [vi (0 : Int32), vi (99 : Int32)]) (rest := []) O ci_5 rfl dX5_readPicks_8 ml_X5_127 im_yX5_isWhole se_yX5_isWhole ini_X5 co_yX5_isWhole yo_yX5_isWhole c1 rfl rfl (Nat.le_of_ble_eq_true rfl) ⟨by decide, by decide, by decide, by decide⟩ (okX5_isWhole hw) (k_I fun r8 h8 hw => ?_)
  refine g_if_ne (tgt := 16) O dX5_readPicks_11 rfl (fun q11 => ?_) (fun q11 => ?_)
  · have hw := hw.1 q11
    refine g_aload_n O dX5_readPicks_16 rfl ?_
    refine gf_X5_event O dX5_readPicks_17 fl_X5_49 c1 ?_
    refine g_aload_n O dX5_readPicks_20 rfl ?_
    refine g_callV (As := []) (rest := [vr (gR h8 a0 6)]) O ci_5 rfl dX5_readPicks_21 ml_X5_131 im_yX5_number se_yX5_number ini_X5 co_yX5_number yo_yX5_number c1 rfl rfl (Nat.le_of_ble_eq_true rfl) ⟨by decide, by decide, by decide, by decide⟩ (okX5_number hw) (k_I fun r21 h21 hw => ?_)
    obtain ⟨c24, hw⟩ := hw
    refine pf_X0_first O dX5_readPicks_24 fl_X5_192 c24 ?_
    refine g_aload_n O dX5_readPicks_27 rfl ?_
    refine g_callV (As := []) (rest := []) O ci_5 rfl dX5_readPicks_28 ml_X5_105 im_yX5_advance se_yX5_advance ini_X5 co_yX5_advance yo_yX5_advance c1 rfl rfl (Nat.le_of_ble_eq_true rfl) ⟨by decide, by decide, by decide, by decide⟩ (okX5_advance hw) (k_V fun h28 hw => ?_)
    refine g_aload_n O dX5_readPicks_31 rfl ?_
    refine g_sipush O dX5_readPicks_32 ks_403 ?_
    refine g_callV (As := [vi (403 : Int32)]) (rest := []) O ci_5 rfl dX5_readPicks_35 ml_X5_99 im_yX5_pass se_yX5_pass ini_X5 co_yX5_pass yo_yX5_pass c1 rfl rfl (Nat.le_of_ble_eq_true rfl) ⟨by decide, by decide, by decide, by decide⟩ (okX5_pass hw) (k_I fun r35 h35 hw => ?_)
    refine g_if_eq (tgt := 57) O dX5_readPicks_38 rfl (fun q38 => ?_) (fun q38 => ?_)
    · have hw := hw.1 q38
      refine g_iconst O dX5_readPicks_57 kv_0 ?_
      exact g_zreturn O dX5_readPicks_58 (by decide) ⟨rfl, rfl, _, rfl, hw⟩
    · have hw := hw.2 q38
      refine g_aload_n O dX5_readPicks_41 rfl ?_
      refine g_aload_n O dX5_readPicks_42 rfl ?_
      refine gf_X5_event O dX5_readPicks_43 fl_X5_49 c1 ?_
      obtain ⟨c46, hw⟩ := hw
      refine gf_X0_first O dX5_readPicks_46 fl_X5_192 c46 ?_
      refine g_bipush O dX5_readPicks_49 kb_99 ?_
      refine g_callV (As := [vi ((gI h35 (gR h35 a0 6) 6)), vi (99 : Int32)]) (rest := []) O ci_5 rfl dX5_readPicks_51 ml_X5_127 im_yX5_isWhole se_yX5_isWhole ini_X5 co_yX5_isWhole yo_yX5_isWhole c1 rfl rfl (Nat.le_of_ble_eq_true rfl) ⟨by decide, by decide, by decide, by decide⟩ (okX5_isWhole hw) (k_I fun r51 h51 hw => ?_)
      refine g_if_ne (tgt := 59) O dX5_readPicks_54 rfl (fun q54 => ?_) (fun q54 => ?_)
      · have hw := hw.1 q54
        refine g_aload_n O dX5_readPicks_59 rfl ?_
        refine gf_X5_event O dX5_readPicks_60 fl_X5_49 c1 ?_
        refine g_aload_n O dX5_readPicks_63 rfl ?_
        refine g_callV (As := []) (rest := [vr (gR h51 a0 6)]) O ci_5 rfl dX5_readPicks_64 ml_X5_131 im_yX5_number se_yX5_number ini_X5 co_yX5_number yo_yX5_number c1 rfl rfl (Nat.le_of_ble_eq_true rfl) ⟨by decide, by decide, by decide, by decide⟩ (okX5_number hw) (k_I fun r64 h64 hw => ?_)
        obtain ⟨c67, hw⟩ := hw
        refine pf_X0_last O dX5_readPicks_67 fl_X5_195 c67 ?_
        refine g_nmH (fun h67 e67 => ?_)
        have hw := hw h67 e67
        refine g_aload_n O dX5_readPicks_70 rfl ?_
        refine gf_X5_event O dX5_readPicks_71 fl_X5_49 c1 ?_
        obtain ⟨c74, hw⟩ := hw
        refine gf_X0_last O dX5_readPicks_74 fl_X5_195 c74 ?_
        refine g_aload_n O dX5_readPicks_77 rfl ?_
        refine gf_X5_event O dX5_readPicks_78 fl_X5_49 c1 ?_
        refine gf_X0_first O dX5_readPicks_81 fl_X5_192 c74 ?_
        refine g_isub O dX5_readPicks_84 ?_
        refine g_bipush O dX5_readPicks_85 kb_10 ?_
        refine g_icmp_lt (tgt := 96) O dX5_readPicks_87 rfl (fun q87 => ?_) (fun q87 => ?_)
        · have hw := hw.1 q87
          refine g_aload_n O dX5_readPicks_96 rfl ?_
          refine g_callV (As := []) (rest := []) O ci_5 rfl dX5_readPicks_97 ml_X5_105 im_yX5_advance se_yX5_advance ini_X5 co_yX5_advance yo_yX5_advance c1 rfl rfl (Nat.le_of_ble_eq_true rfl) ⟨by decide, by decide, by decide, by decide⟩ (okX5_advance hw) (k_V fun h97 hw => ?_)
          refine g_iconst O dX5_readPicks_100 kv_1 ?_
          exact g_zreturn O dX5_readPicks_101 (by decide) ⟨rfl, rfl, _, rfl, hw⟩
        · have hw := hw.2 q87
          refine g_aload_n O dX5_readPicks_90 rfl ?_
          refine g_iconst O dX5_readPicks_91 kv_4 ?_
          refine g_callV (As := [vi (4 : Int32)]) (rest := []) O ci_5 rfl dX5_readPicks_92 ml_X5_92 im_yX5_fail se_yX5_fail ini_X5 co_yX5_fail yo_yX5_fail c1 rfl rfl (Nat.le_of_ble_eq_true rfl) ⟨by decide, by decide, by decide, by decide⟩ (okX5_fail hw) (k_I fun r92 h92 hw => ?_)
          obtain ⟨c95z, hw⟩ := hw
          exact g_zreturn O dX5_readPicks_95 c95z ⟨rfl, rfl, _, rfl, hw⟩
      · have hw := hw.2 q54
        refine g_iconst O dX5_readPicks_57 kv_0 ?_
        exact g_zreturn O dX5_readPicks_58 (by decide) ⟨rfl, rfl, _, rfl, hw⟩
  · have hw := hw.2 q11
    refine g_iconst O dX5_readPicks_14 kv_0 ?_
    exact g_zreturn O dX5_readPicks_15 (by decide) ⟨rfl, rfl, _, rfl, hw⟩
theorem dX5_readEvent_0 : decode cX5_readEvent 0 = .ok (.aload_n 0, 1) := by decide +kernel
theorem dX5_readEvent_1 : decode cX5_readEvent 1 = .ok (.getfield 39, 3) := by decide +kernel
theorem dX5_readEvent_4 : decode cX5_readEvent 4 = .ok (.getfield 96, 3) := by decide +kernel
theorem dX5_readEvent_7 : decode cX5_readEvent 7 = .ok (.ifCond .ne 9, 3) := by decide +kernel
theorem dX5_readEvent_10 : decode cX5_readEvent 10 = .ok (.aload_n 0, 1) := by decide +kernel
theorem dX5_readEvent_11 : decode cX5_readEvent 11 = .ok (.iconst 5, 1) := by decide +kernel
theorem dX5_readEvent_12 : decode cX5_readEvent 12 = .ok (.invokevirtual 92, 3) := by decide +kernel
theorem dX5_readEvent_15 : decode cX5_readEvent 15 = .ok (.ireturn, 1) := by decide +kernel
theorem dX5_readEvent_16 : decode cX5_readEvent 16 = .ok (.aload_n 0, 1) := by decide +kernel
theorem dX5_readEvent_17 : decode cX5_readEvent 17 = .ok (.getfield 39, 3) := by decide +kernel
theorem dX5_readEvent_20 : decode cX5_readEvent 20 = .ok (.getfield 167, 3) := by decide +kernel
theorem dX5_readEvent_23 : decode cX5_readEvent 23 = .ok (.iconst 4, 1) := by decide +kernel
theorem dX5_readEvent_24 : decode cX5_readEvent 24 = .ok (.if_icmp .lt 9, 3) := by decide +kernel
theorem dX5_readEvent_27 : decode cX5_readEvent 27 = .ok (.aload_n 0, 1) := by decide +kernel
theorem dX5_readEvent_28 : decode cX5_readEvent 28 = .ok (.iconst 4, 1) := by decide +kernel
theorem dX5_readEvent_29 : decode cX5_readEvent 29 = .ok (.invokevirtual 92, 3) := by decide +kernel
theorem dX5_readEvent_32 : decode cX5_readEvent 32 = .ok (.ireturn, 1) := by decide +kernel
theorem dX5_readEvent_33 : decode cX5_readEvent 33 = .ok (.aload_n 0, 1) := by decide +kernel
theorem dX5_readEvent_34 : decode cX5_readEvent 34 = .ok (.invokevirtual 105, 3) := by decide +kernel
theorem dX5_readEvent_37 : decode cX5_readEvent 37 = .ok (.aload_n 0, 1) := by decide +kernel
theorem dX5_readEvent_38 : decode cX5_readEvent 38 = .ok (.invokevirtual 108, 3) := by decide +kernel
theorem dX5_readEvent_41 : decode cX5_readEvent 41 = .ok (.ifCond .ne 5, 3) := by decide +kernel
theorem dX5_readEvent_44 : decode cX5_readEvent 44 = .ok (.iconst 0, 1) := by decide +kernel
theorem dX5_readEvent_45 : decode cX5_readEvent 45 = .ok (.ireturn, 1) := by decide +kernel
theorem dX5_readEvent_46 : decode cX5_readEvent 46 = .ok (.aload_n 0, 1) := by decide +kernel
theorem dX5_readEvent_47 : decode cX5_readEvent 47 = .ok (.aload_n 0, 1) := by decide +kernel
theorem dX5_readEvent_48 : decode cX5_readEvent 48 = .ok (.getfield 39, 3) := by decide +kernel
theorem dX5_readEvent_51 : decode cX5_readEvent 51 = .ok (.getfield 43, 3) := by decide +kernel
theorem dX5_readEvent_54 : decode cX5_readEvent 54 = .ok (.aload_n 0, 1) := by decide +kernel
theorem dX5_readEvent_55 : decode cX5_readEvent 55 = .ok (.getfield 39, 3) := by decide +kernel
theorem dX5_readEvent_58 : decode cX5_readEvent 58 = .ok (.getfield 167, 3) := by decide +kernel
theorem dX5_readEvent_61 : decode cX5_readEvent 61 = .ok (.aaload, 1) := by decide +kernel
theorem dX5_readEvent_62 : decode cX5_readEvent 62 = .ok (.putfield 49, 3) := by decide +kernel
theorem dX5_readEvent_65 : decode cX5_readEvent 65 = .ok (.aload_n 0, 1) := by decide +kernel
theorem dX5_readEvent_66 : decode cX5_readEvent 66 = .ok (.getfield 49, 3) := by decide +kernel
theorem dX5_readEvent_69 : decode cX5_readEvent 69 = .ok (.aload_n 0, 1) := by decide +kernel
theorem dX5_readEvent_70 : decode cX5_readEvent 70 = .ok (.invokevirtual 111, 3) := by decide +kernel
theorem dX5_readEvent_73 : decode cX5_readEvent 73 = .ok (.invokevirtual 170, 3) := by decide +kernel
theorem dX5_readEvent_76 : decode cX5_readEvent 76 = .ok (.aload_n 0, 1) := by decide +kernel
theorem dX5_readEvent_77 : decode cX5_readEvent 77 = .ok (.getfield 39, 3) := by decide +kernel
theorem dX5_readEvent_80 : decode cX5_readEvent 80 = .ok (.dup, 1) := by decide +kernel
theorem dX5_readEvent_81 : decode cX5_readEvent 81 = .ok (.getfield 167, 3) := by decide +kernel
theorem dX5_readEvent_84 : decode cX5_readEvent 84 = .ok (.iconst 1, 1) := by decide +kernel
theorem dX5_readEvent_85 : decode cX5_readEvent 85 = .ok (.iadd, 1) := by decide +kernel
theorem dX5_readEvent_86 : decode cX5_readEvent 86 = .ok (.putfield 167, 3) := by decide +kernel
theorem dX5_readEvent_89 : decode cX5_readEvent 89 = .ok (.aload_n 0, 1) := by decide +kernel
theorem dX5_readEvent_90 : decode cX5_readEvent 90 = .ok (.invokevirtual 105, 3) := by decide +kernel
theorem dX5_readEvent_93 : decode cX5_readEvent 93 = .ok (.aload_n 0, 1) := by decide +kernel
theorem dX5_readEvent_94 : decode cX5_readEvent 94 = .ok (.invokevirtual 65, 3) := by decide +kernel
theorem dX5_readEvent_97 : decode cX5_readEvent 97 = .ok (.sipush 407, 3) := by decide +kernel
theorem dX5_readEvent_100 : decode cX5_readEvent 100 = .ok (.if_icmp .ne 10, 3) := by decide +kernel
theorem dX5_readEvent_103 : decode cX5_readEvent 103 = .ok (.aload_n 0, 1) := by decide +kernel
theorem dX5_readEvent_104 : decode cX5_readEvent 104 = .ok (.invokevirtual 173, 3) := by decide +kernel
theorem dX5_readEvent_107 : decode cX5_readEvent 107 = .ok (.ifCond .eq 30, 3) := by decide +kernel
theorem dX5_readEvent_110 : decode cX5_readEvent 110 = .ok (.aload_n 0, 1) := by decide +kernel
theorem dX5_readEvent_111 : decode cX5_readEvent 111 = .ok (.invokevirtual 65, 3) := by decide +kernel
theorem dX5_readEvent_114 : decode cX5_readEvent 114 = .ok (.sipush 408, 3) := by decide +kernel
theorem dX5_readEvent_117 : decode cX5_readEvent 117 = .ok (.if_icmp .ne 10, 3) := by decide +kernel
theorem dX5_readEvent_120 : decode cX5_readEvent 120 = .ok (.aload_n 0, 1) := by decide +kernel
theorem dX5_readEvent_121 : decode cX5_readEvent 121 = .ok (.invokevirtual 176, 3) := by decide +kernel
theorem dX5_readEvent_124 : decode cX5_readEvent 124 = .ok (.ifCond .eq 13, 3) := by decide +kernel
theorem dX5_readEvent_127 : decode cX5_readEvent 127 = .ok (.aload_n 0, 1) := by decide +kernel
theorem dX5_readEvent_128 : decode cX5_readEvent 128 = .ok (.sipush 409, 3) := by decide +kernel
theorem dX5_readEvent_131 : decode cX5_readEvent 131 = .ok (.invokevirtual 99, 3) := by decide +kernel
theorem dX5_readEvent_134 : decode cX5_readEvent 134 = .ok (.ifCond .ne 5, 3) := by decide +kernel
theorem dX5_readEvent_137 : decode cX5_readEvent 137 = .ok (.iconst 0, 1) := by decide +kernel
theorem dX5_readEvent_138 : decode cX5_readEvent 138 = .ok (.ireturn, 1) := by decide +kernel
theorem dX5_readEvent_139 : decode cX5_readEvent 139 = .ok (.aload_n 0, 1) := by decide +kernel
theorem dX5_readEvent_140 : decode cX5_readEvent 140 = .ok (.getfield 49, 3) := by decide +kernel
theorem dX5_readEvent_143 : decode cX5_readEvent 143 = .ok (.aload_n 0, 1) := by decide +kernel
theorem dX5_readEvent_144 : decode cX5_readEvent 144 = .ok (.invokevirtual 152, 3) := by decide +kernel
theorem dX5_readEvent_147 : decode cX5_readEvent 147 = .ok (.putfield 179, 3) := by decide +kernel
theorem dX5_readEvent_150 : decode cX5_readEvent 150 = .ok (.aload_n 0, 1) := by decide +kernel
theorem dX5_readEvent_151 : decode cX5_readEvent 151 = .ok (.iconst 0, 1) := by decide +kernel
theorem dX5_readEvent_152 : decode cX5_readEvent 152 = .ok (.invokevirtual 155, 3) := by decide +kernel
theorem dX5_readEvent_155 : decode cX5_readEvent 155 = .ok (.ifCond .eq 21, 3) := by decide +kernel
theorem dX5_readEvent_158 : decode cX5_readEvent 158 = .ok (.aload_n 0, 1) := by decide +kernel
theorem dX5_readEvent_159 : decode cX5_readEvent 159 = .ok (.invokevirtual 158, 3) := by decide +kernel
theorem dX5_readEvent_162 : decode cX5_readEvent 162 = .ok (.ifCond .eq 14, 3) := by decide +kernel
theorem dX5_readEvent_165 : decode cX5_readEvent 165 = .ok (.aload_n 0, 1) := by decide +kernel
theorem dX5_readEvent_166 : decode cX5_readEvent 166 = .ok (.invokevirtual 182, 3) := by decide +kernel
theorem dX5_readEvent_169 : decode cX5_readEvent 169 = .ok (.ifCond .eq 7, 3) := by decide +kernel
theorem dX5_readEvent_172 : decode cX5_readEvent 172 = .ok (.iconst 1, 1) := by decide +kernel
theorem dX5_readEvent_173 : decode cX5_readEvent 173 = .ok (.goto 4, 3) := by decide +kernel
theorem dX5_readEvent_176 : decode cX5_readEvent 176 = .ok (.iconst 0, 1) := by decide +kernel
theorem dX5_readEvent_177 : decode cX5_readEvent 177 = .ok (.ireturn, 1) := by decide +kernel
theorem okX5_readEvent_j127 {E : Ev} {X : Cx} {S : Sh} {Z : Option Nat} {Q : Int32 → Hp → Prop} {h : Hp} {a0 : Nat} (O : Ok E X yX5_readEvent cX5_readEvent 1 (some .boolean) 46 1732 0 0 (qI S Z Q)) (hw : wX5_readEvent_j127 S h a0 Q) : G E X 0 0 S Z h 127 [some (vr a0)] [] := by
  unfold wX5_readEvent_j127 at hw
  refine g_aload_n O dX5_readEvent_127 rfl ?_
  refine g_sipush O dX5_readEvent_128 ks_409 ?_
  obtain ⟨c131, hw⟩ := hw
  refine g_callV (As := [vi (409 : Int32)]) (rest := []) O ci_5 rfl dX5_readEvent_131 ml_X5_99 im_yX5_pass se_yX5_pass ini_X5 co_yX5_pass yo_yX5_pass c131 rfl rfl (Nat.le_of_ble_eq_true rfl) ⟨by decide, by decide, by decide, by decide⟩ (okX5_pass hw) (k_I fun r131 h131 hw => ?_)
  refine g_if_ne (tgt := 139) O dX5_readEvent_134 rfl (fun q134 => ?_) (fun q134 => ?_)
  · have hw := hw.1 q134
    refine g_aload_n O dX5_readEvent_139 rfl ?_
    refine gf_X5_event O dX5_readEvent_140 fl_X5_49 c131 ?_
    refine g_aload_n O dX5_readEvent_143 rfl ?_
    refine g_callV (As := []) (rest := [vr (gR h131 a0 6)]) O ci_5 rfl dX5_readEvent_144 ml_X5_152 im_yX5_startCode se_yX5_startCode ini_X5 co_yX5_startCode yo_yX5_startCode c131 rfl rfl (Nat.le_of_ble_eq_true rfl) ⟨by decide, by decide, by decide, by decide⟩ (okX5_startCode hw) (k_I fun r144 h144 hw => ?_)
    obtain ⟨c147, hw⟩ := hw
    refine pf_X0_whenCode O dX5_readEvent_147 fl_X5_179 c147 ?_
    refine g_aload_n O dX5_readEvent_150 rfl ?_
    refine g_iconst O dX5_readEvent_151 kv_0 ?_
    refine g_callV (As := [vi (0 : Int32)]) (rest := []) O ci_5 rfl dX5_readEvent_152 ml_X5_155 im_yX5_readTest se_yX5_readTest ini_X5 co_yX5_readTest yo_yX5_readTest c131 rfl rfl (Nat.le_of_ble_eq_true rfl) ⟨by decide, by decide, by decide, by decide⟩ (okX5_readTest hw) (k_I fun r152 h152 hw => ?_)
    refine g_if_eq (tgt := 176) O dX5_readEvent_155 rfl (fun q155 => ?_) (fun q155 => ?_)
    · have hw := hw.1 q155
      refine g_iconst O dX5_readEvent_176 kv_0 ?_
      exact g_zreturn O dX5_readEvent_177 (by decide) ⟨rfl, rfl, _, rfl, hw⟩
    · have hw := hw.2 q155
      refine g_aload_n O dX5_readEvent_158 rfl ?_
      refine g_callV (As := []) (rest := []) O ci_5 rfl dX5_readEvent_159 ml_X5_158 im_yX5_stopCode se_yX5_stopCode ini_X5 co_yX5_stopCode yo_yX5_stopCode c131 rfl rfl (Nat.le_of_ble_eq_true rfl) ⟨by decide, by decide, by decide, by decide⟩ (okX5_stopCode hw) (k_I fun r159 h159 hw => ?_)
      refine g_if_eq (tgt := 176) O dX5_readEvent_162 rfl (fun q162 => ?_) (fun q162 => ?_)
      · have hw := hw.1 q162
        refine g_iconst O dX5_readEvent_176 kv_0 ?_
        exact g_zreturn O dX5_readEvent_177 (by decide) ⟨rfl, rfl, _, rfl, hw⟩
      · have hw := hw.2 q162
        refine g_aload_n O dX5_readEvent_165 rfl ?_
        refine g_callV (As := []) (rest := []) O ci_5 rfl dX5_readEvent_166 ml_X5_182 im_yX5_readGivings se_yX5_readGivings ini_X5 co_yX5_readGivings yo_yX5_readGivings c131 rfl rfl (Nat.le_of_ble_eq_true rfl) ⟨by decide, by decide, by decide, by decide⟩ (okX5_readGivings hw) (k_I fun r166 h166 hw => ?_)
        refine g_if_eq (tgt := 176) O dX5_readEvent_169 rfl (fun q169 => ?_) (fun q169 => ?_)
        · have hw := hw.1 q169
          refine g_iconst O dX5_readEvent_176 kv_0 ?_
          exact g_zreturn O dX5_readEvent_177 (by decide) ⟨rfl, rfl, _, rfl, hw⟩
        · have hw := hw.2 q169
          refine g_iconst O dX5_readEvent_172 kv_1 ?_
          refine g_goto (tgt := 177) O dX5_readEvent_173 rfl ?_
          exact g_zreturn O dX5_readEvent_177 (by decide) ⟨rfl, rfl, _, rfl, hw⟩
  · have hw := hw.2 q134
    refine g_iconst O dX5_readEvent_137 kv_0 ?_
    exact g_zreturn O dX5_readEvent_138 (by decide) ⟨rfl, rfl, _, rfl, hw⟩
theorem okX5_readEvent_j110 {E : Ev} {X : Cx} {S : Sh} {Z : Option Nat} {Q : Int32 → Hp → Prop} {h : Hp} {a0 : Nat} (O : Ok E X yX5_readEvent cX5_readEvent 1 (some .boolean) 46 1732 0 0 (qI S Z Q)) (hw : wX5_readEvent_j110 S h a0 Q) : G E X 0 0 S Z h 110 [some (vr a0)] [] := by
  unfold wX5_readEvent_j110 at hw
  refine g_aload_n O dX5_readEvent_110 rfl ?_
  obtain ⟨c111, hw⟩ := hw
  refine g_callV (As := []) (rest := []) O ci_5 rfl dX5_readEvent_111 ml_X5_65 im_yX5_kind se_yX5_kind ini_X5 co_yX5_kind yo_yX5_kind c111 rfl rfl (Nat.le_of_ble_eq_true rfl) ⟨by decide, by decide, by decide, by decide⟩ (okX5_kind hw) (k_I fun r111 h111 hw => ?_)
  refine g_sipush O dX5_readEvent_114 ks_408 ?_
  refine g_icmp_ne (tgt := 127) O dX5_readEvent_117 rfl (fun q117 => ?_) (fun q117 => ?_)
  · have hw := hw.1 q117
    exact okX5_readEvent_j127 O hw
  · have hw := hw.2 q117
    refine g_aload_n O dX5_readEvent_120 rfl ?_
    refine g_callV (As := []) (rest := []) O ci_5 rfl dX5_readEvent_121 ml_X5_176 im_yX5_readPicks se_yX5_readPicks ini_X5 co_yX5_readPicks yo_yX5_readPicks c111 rfl rfl (Nat.le_of_ble_eq_true rfl) ⟨by decide, by decide, by decide, by decide⟩ (okX5_readPicks hw) (k_I fun r121 h121 hw => ?_)
    refine g_if_eq (tgt := 137) O dX5_readEvent_124 rfl (fun q124 => ?_) (fun q124 => ?_)
    · have hw := hw.1 q124
      refine g_iconst O dX5_readEvent_137 kv_0 ?_
      exact g_zreturn O dX5_readEvent_138 (by decide) ⟨rfl, rfl, _, rfl, hw⟩
    · have hw := hw.2 q124
      exact okX5_readEvent_j127 O hw
theorem okX5_readEvent {E : Ev} {S : Sh} {Z : Option Nat} {Q : Int32 → Hp → Prop} {h : Hp} {a0 : Nat} (hw : wX5_readEvent S h a0 Q) : Ct E yX5_readEvent cX5_readEvent 1 (some .boolean) 46 1732 0 0 S Z h [vr a0] (qI S Z Q) := by
  refine Ct.of (by decide) (lc := [some (vr a0)]) (Nat.le_of_ble_eq_true rfl) rfl (fun X O => ?_)
  unfold wX5_readEvent at hw
  refine g_aload_n O dX5_readEvent_0 rfl ?_
  obtain ⟨c1, hw⟩ := hw
  refine gf_X5_machine O dX5_readEvent_1 fl_X5_39 c1 ?_
  obtain ⟨c4, hw⟩ := hw
  refine gf_X2_variables O dX5_readEvent_4 fl_X5_96 c4 ?_
  refine g_if_ne (tgt := 16) O dX5_readEvent_7 rfl (fun q7 => ?_) (fun q7 => ?_)
  · have hw := hw.1 q7
    refine g_aload_n O dX5_readEvent_16 rfl ?_
    refine gf_X5_machine O dX5_readEvent_17 fl_X5_39 c1 ?_
    refine gf_X2_events O dX5_readEvent_20 fl_X5_167 c4 ?_
    refine g_iconst O dX5_readEvent_23 kv_4 ?_
    refine g_icmp_lt (tgt := 33) O dX5_readEvent_24 rfl (fun q24 => ?_) (fun q24 => ?_)
    · have hw := hw.1 q24
      refine g_aload_n O dX5_readEvent_33 rfl ?_
      refine g_callV (As := []) (rest := []) O ci_5 rfl dX5_readEvent_34 ml_X5_105 im_yX5_advance se_yX5_advance ini_X5 co_yX5_advance yo_yX5_advance c1 rfl rfl (Nat.le_of_ble_eq_true rfl) ⟨by decide, by decide, by decide, by decide⟩ (okX5_advance hw) (k_V fun h34 hw => ?_)
      refine g_aload_n O dX5_readEvent_37 rfl ?_
      refine g_callV (As := []) (rest := []) O ci_5 rfl dX5_readEvent_38 ml_X5_108 im_yX5_isNewName se_yX5_isNewName ini_X5 co_yX5_isNewName yo_yX5_isNewName c1 rfl rfl (Nat.le_of_ble_eq_true rfl) ⟨by decide, by decide, by decide, by decide⟩ (okX5_isNewName hw) (k_I fun r38 h38 hw => ?_)
      refine g_if_ne (tgt := 46) O dX5_readEvent_41 rfl (fun q41 => ?_) (fun q41 => ?_)
      · have hw := hw.1 q41
        refine g_aload_n O dX5_readEvent_46 rfl ?_
        refine g_aload_n O dX5_readEvent_47 rfl ?_
        refine gf_X5_machine O dX5_readEvent_48 fl_X5_39 c1 ?_
        obtain ⟨c51, hw⟩ := hw
        refine gf_X2_event O dX5_readEvent_51 fl_X5_43 c51 ?_
        refine g_aload_n O dX5_readEvent_54 rfl ?_
        refine gf_X5_machine O dX5_readEvent_55 fl_X5_39 c1 ?_
        refine gf_X2_events O dX5_readEvent_58 fl_X5_167 c51 ?_
        obtain ⟨c61, hw⟩ := hw
        refine g_aaload (t := 0) (C := "FinerSteps$Event") O rfl dX5_readEvent_61 c61.1 c61.2 ?_
        refine pf_X5_event O dX5_readEvent_62 fl_X5_49 c1 ?_
        refine g_nmH (fun h62 e62 => ?_)
        have hw := hw h62 e62
        refine g_aload_n O dX5_readEvent_65 rfl ?_
        refine gf_X5_event O dX5_readEvent_66 fl_X5_49 c1 ?_
        refine g_aload_n O dX5_readEvent_69 rfl ?_
        refine g_callV (As := []) (rest := [vr (gR h62 a0 6)]) O ci_5 rfl dX5_readEvent_70 ml_X5_111 im_yX5_code se_yX5_code ini_X5 co_yX5_code yo_yX5_code c1 rfl rfl (Nat.le_of_ble_eq_true rfl) ⟨by decide, by decide, by decide, by decide⟩ (okX5_code hw) (k_J fun r70 h70 hw => ?_)
        obtain ⟨c73, hw⟩ := hw
        refine g_callV (As := [vj r70]) (rest := []) O ci_0 rfl dX5_readEvent_73 ml_X5_170 im_yX0_clear se_yX0_clear ini_X0 co_yX0_clear yo_yX0_clear c73 rfl rfl (Nat.le_of_ble_eq_true rfl) ⟨by decide, by decide, by decide, by decide⟩ (okX0_clear hw) (k_V fun h73 hw => ?_)
        refine g_aload_n O dX5_readEvent_76 rfl ?_
        refine gf_X5_machine O dX5_readEvent_77 fl_X5_39 c1 ?_
        refine g_dup O dX5_readEvent_80 rfl ?_
        obtain ⟨c81, hw⟩ := hw
        refine gf_X2_events O dX5_readEvent_81 fl_X5_167 c81 ?_
        refine g_iconst O dX5_readEvent_84 kv_1 ?_
        refine g_iadd O dX5_readEvent_85 ?_
        refine pf_X2_events O dX5_readEvent_86 fl_X5_167 c81 ?_
        refine g_aload_n O dX5_readEvent_89 rfl ?_
        refine g_callV (As := []) (rest := []) O ci_5 rfl dX5_readEvent_90 ml_X5_105 im_yX5_advance se_yX5_advance ini_X5 co_yX5_advance yo_yX5_advance c1 rfl rfl (Nat.le_of_ble_eq_true rfl) ⟨by decide, by decide, by decide, by decide⟩ (okX5_advance hw) (k_V fun h90 hw => ?_)
        refine g_aload_n O dX5_readEvent_93 rfl ?_
        refine g_callV (As := []) (rest := []) O ci_5 rfl dX5_readEvent_94 ml_X5_65 im_yX5_kind se_yX5_kind ini_X5 co_yX5_kind yo_yX5_kind c1 rfl rfl (Nat.le_of_ble_eq_true rfl) ⟨by decide, by decide, by decide, by decide⟩ (okX5_kind hw) (k_I fun r94 h94 hw => ?_)
        refine g_sipush O dX5_readEvent_97 ks_407 ?_
        refine g_icmp_ne (tgt := 110) O dX5_readEvent_100 rfl (fun q100 => ?_) (fun q100 => ?_)
        · have hw := hw.1 q100
          exact okX5_readEvent_j110 O hw
        · have hw := hw.2 q100
          refine g_aload_n O dX5_readEvent_103 rfl ?_
          refine g_callV (As := []) (rest := []) O ci_5 rfl dX5_readEvent_104 ml_X5_173 im_yX5_readOf se_yX5_readOf ini_X5 co_yX5_readOf yo_yX5_readOf c1 rfl rfl (Nat.le_of_ble_eq_true rfl) ⟨by decide, by decide, by decide, by decide⟩ (okX5_readOf hw) (k_I fun r104 h104 hw => ?_)
          refine g_if_eq (tgt := 137) O dX5_readEvent_107 rfl (fun q107 => ?_) (fun q107 => ?_)
          · have hw := hw.1 q107
            refine g_iconst O dX5_readEvent_137 kv_0 ?_
            exact g_zreturn O dX5_readEvent_138 (by decide) ⟨rfl, rfl, _, rfl, hw⟩
          · have hw := hw.2 q107
            exact okX5_readEvent_j110 O hw
      · have hw := hw.2 q41
        refine g_iconst O dX5_readEvent_44 kv_0 ?_
        exact g_zreturn O dX5_readEvent_45 (by decide) ⟨rfl, rfl, _, rfl, hw⟩
    · have hw := hw.2 q24
      refine g_aload_n O dX5_readEvent_27 rfl ?_
      refine g_iconst O dX5_readEvent_28 kv_4 ?_
      refine g_callV (As := [vi (4 : Int32)]) (rest := []) O ci_5 rfl dX5_readEvent_29 ml_X5_92 im_yX5_fail se_yX5_fail ini_X5 co_yX5_fail yo_yX5_fail c1 rfl rfl (Nat.le_of_ble_eq_true rfl) ⟨by decide, by decide, by decide, by decide⟩ (okX5_fail hw) (k_I fun r29 h29 hw => ?_)
      obtain ⟨c32z, hw⟩ := hw
      exact g_zreturn O dX5_readEvent_32 c32z ⟨rfl, rfl, _, rfl, hw⟩
  · have hw := hw.2 q7
    refine g_aload_n O dX5_readEvent_10 rfl ?_
    refine g_iconst O dX5_readEvent_11 kv_5 ?_
    refine g_callV (As := [vi (5 : Int32)]) (rest := []) O ci_5 rfl dX5_readEvent_12 ml_X5_92 im_yX5_fail se_yX5_fail ini_X5 co_yX5_fail yo_yX5_fail c1 rfl rfl (Nat.le_of_ble_eq_true rfl) ⟨by decide, by decide, by decide, by decide⟩ (okX5_fail hw) (k_I fun r12 h12 hw => ?_)
    obtain ⟨c15z, hw⟩ := hw
    exact g_zreturn O dX5_readEvent_15 c15z ⟨rfl, rfl, _, rfl, hw⟩
theorem dX5_readLaw_0 : decode cX5_readLaw 0 = .ok (.aload_n 0, 1) := by decide +kernel
theorem dX5_readLaw_1 : decode cX5_readLaw 1 = .ok (.getfield 39, 3) := by decide +kernel
theorem dX5_readLaw_4 : decode cX5_readLaw 4 = .ok (.getfield 96, 3) := by decide +kernel
theorem dX5_readLaw_7 : decode cX5_readLaw 7 = .ok (.ifCond .ne 9, 3) := by decide +kernel
theorem dX5_readLaw_10 : decode cX5_readLaw 10 = .ok (.aload_n 0, 1) := by decide +kernel
theorem dX5_readLaw_11 : decode cX5_readLaw 11 = .ok (.iconst 5, 1) := by decide +kernel
theorem dX5_readLaw_12 : decode cX5_readLaw 12 = .ok (.invokevirtual 92, 3) := by decide +kernel
theorem dX5_readLaw_15 : decode cX5_readLaw 15 = .ok (.ireturn, 1) := by decide +kernel
theorem dX5_readLaw_16 : decode cX5_readLaw 16 = .ok (.aload_n 0, 1) := by decide +kernel
theorem dX5_readLaw_17 : decode cX5_readLaw 17 = .ok (.getfield 39, 3) := by decide +kernel
theorem dX5_readLaw_20 : decode cX5_readLaw 20 = .ok (.getfield 146, 3) := by decide +kernel
theorem dX5_readLaw_23 : decode cX5_readLaw 23 = .ok (.iconst 4, 1) := by decide +kernel
theorem dX5_readLaw_24 : decode cX5_readLaw 24 = .ok (.if_icmp .lt 9, 3) := by decide +kernel
theorem dX5_readLaw_27 : decode cX5_readLaw 27 = .ok (.aload_n 0, 1) := by decide +kernel
theorem dX5_readLaw_28 : decode cX5_readLaw 28 = .ok (.iconst 4, 1) := by decide +kernel
theorem dX5_readLaw_29 : decode cX5_readLaw 29 = .ok (.invokevirtual 92, 3) := by decide +kernel
theorem dX5_readLaw_32 : decode cX5_readLaw 32 = .ok (.ireturn, 1) := by decide +kernel
theorem dX5_readLaw_33 : decode cX5_readLaw 33 = .ok (.aload_n 0, 1) := by decide +kernel
theorem dX5_readLaw_34 : decode cX5_readLaw 34 = .ok (.invokevirtual 105, 3) := by decide +kernel
theorem dX5_readLaw_37 : decode cX5_readLaw 37 = .ok (.aload_n 0, 1) := by decide +kernel
theorem dX5_readLaw_38 : decode cX5_readLaw 38 = .ok (.getfield 39, 3) := by decide +kernel
theorem dX5_readLaw_41 : decode cX5_readLaw 41 = .ok (.getfield 149, 3) := by decide +kernel
theorem dX5_readLaw_44 : decode cX5_readLaw 44 = .ok (.aload_n 0, 1) := by decide +kernel
theorem dX5_readLaw_45 : decode cX5_readLaw 45 = .ok (.getfield 39, 3) := by decide +kernel
theorem dX5_readLaw_48 : decode cX5_readLaw 48 = .ok (.getfield 146, 3) := by decide +kernel
theorem dX5_readLaw_51 : decode cX5_readLaw 51 = .ok (.aload_n 0, 1) := by decide +kernel
theorem dX5_readLaw_52 : decode cX5_readLaw 52 = .ok (.invokevirtual 152, 3) := by decide +kernel
theorem dX5_readLaw_55 : decode cX5_readLaw 55 = .ok (.iastore, 1) := by decide +kernel
theorem dX5_readLaw_56 : decode cX5_readLaw 56 = .ok (.aload_n 0, 1) := by decide +kernel
theorem dX5_readLaw_57 : decode cX5_readLaw 57 = .ok (.getfield 39, 3) := by decide +kernel
theorem dX5_readLaw_60 : decode cX5_readLaw 60 = .ok (.dup, 1) := by decide +kernel
theorem dX5_readLaw_61 : decode cX5_readLaw 61 = .ok (.getfield 146, 3) := by decide +kernel
theorem dX5_readLaw_64 : decode cX5_readLaw 64 = .ok (.iconst 1, 1) := by decide +kernel
theorem dX5_readLaw_65 : decode cX5_readLaw 65 = .ok (.iadd, 1) := by decide +kernel
theorem dX5_readLaw_66 : decode cX5_readLaw 66 = .ok (.putfield 146, 3) := by decide +kernel
theorem dX5_readLaw_69 : decode cX5_readLaw 69 = .ok (.aload_n 0, 1) := by decide +kernel
theorem dX5_readLaw_70 : decode cX5_readLaw 70 = .ok (.iconst 0, 1) := by decide +kernel
theorem dX5_readLaw_71 : decode cX5_readLaw 71 = .ok (.invokevirtual 155, 3) := by decide +kernel
theorem dX5_readLaw_74 : decode cX5_readLaw 74 = .ok (.ifCond .eq 14, 3) := by decide +kernel
theorem dX5_readLaw_77 : decode cX5_readLaw 77 = .ok (.aload_n 0, 1) := by decide +kernel
theorem dX5_readLaw_78 : decode cX5_readLaw 78 = .ok (.invokevirtual 158, 3) := by decide +kernel
theorem dX5_readLaw_81 : decode cX5_readLaw 81 = .ok (.ifCond .eq 7, 3) := by decide +kernel
theorem dX5_readLaw_84 : decode cX5_readLaw 84 = .ok (.iconst 1, 1) := by decide +kernel
theorem dX5_readLaw_85 : decode cX5_readLaw 85 = .ok (.goto 4, 3) := by decide +kernel
theorem dX5_readLaw_88 : decode cX5_readLaw 88 = .ok (.iconst 0, 1) := by decide +kernel
theorem dX5_readLaw_89 : decode cX5_readLaw 89 = .ok (.ireturn, 1) := by decide +kernel
theorem okX5_readLaw {E : Ev} {S : Sh} {Z : Option Nat} {Q : Int32 → Hp → Prop} {h : Hp} {a0 : Nat} (hw : wX5_readLaw S h a0 Q) : Ct E yX5_readLaw cX5_readLaw 1 (some .boolean) 44 1690 0 0 S Z h [vr a0] (qI S Z Q) := by
  refine Ct.of (by decide) (lc := [some (vr a0)]) (Nat.le_of_ble_eq_true rfl) rfl (fun X O => ?_)
  unfold wX5_readLaw at hw
  refine g_aload_n O dX5_readLaw_0 rfl ?_
  obtain ⟨c1, hw⟩ := hw
  refine gf_X5_machine O dX5_readLaw_1 fl_X5_39 c1 ?_
  obtain ⟨c4, hw⟩ := hw
  refine gf_X2_variables O dX5_readLaw_4 fl_X5_96 c4 ?_
  refine g_if_ne (tgt := 16) O dX5_readLaw_7 rfl (fun q7 => ?_) (fun q7 => ?_)
  · have hw := hw.1 q7
    refine g_aload_n O dX5_readLaw_16 rfl ?_
    refine gf_X5_machine O dX5_readLaw_17 fl_X5_39 c1 ?_
    refine gf_X2_laws O dX5_readLaw_20 fl_X5_146 c4 ?_
    refine g_iconst O dX5_readLaw_23 kv_4 ?_
    refine g_icmp_lt (tgt := 33) O dX5_readLaw_24 rfl (fun q24 => ?_) (fun q24 => ?_)
    · have hw := hw.1 q24
      refine g_aload_n O dX5_readLaw_33 rfl ?_
      refine g_callV (As := []) (rest := []) O ci_5 rfl dX5_readLaw_34 ml_X5_105 im_yX5_advance se_yX5_advance ini_X5 co_yX5_advance yo_yX5_advance c1 rfl rfl (Nat.le_of_ble_eq_true rfl) ⟨by decide, by decide, by decide, by decide⟩ (okX5_advance hw) (k_V fun h34 hw => ?_)
      refine g_aload_n O dX5_readLaw_37 rfl ?_
      refine gf_X5_machine O dX5_readLaw_38 fl_X5_39 c1 ?_
      obtain ⟨c41, hw⟩ := hw
      refine gf_X2_lawCode O dX5_readLaw_41 fl_X5_149 c41 ?_
      refine g_aload_n O dX5_readLaw_44 rfl ?_
      refine gf_X5_machine O dX5_readLaw_45 fl_X5_39 c1 ?_
      refine gf_X2_laws O dX5_readLaw_48 fl_X5_146 c41 ?_
      refine g_aload_n O dX5_readLaw_51 rfl ?_
      refine g_callV (As := []) (rest := [vi ((gI h34 (gR h34 a0 5) 13)), vr ((gR h34 (gR h34 a0 5) 4))]) O ci_5 rfl dX5_readLaw_52 ml_X5_152 im_yX5_startCode se_yX5_startCode ini_X5 co_yX5_startCode yo_yX5_startCode c1 rfl rfl (Nat.le_of_ble_eq_true rfl) ⟨by decide, by decide, by decide, by decide⟩ (okX5_startCode hw) (k_I fun r52 h52 hw => ?_)
      obtain ⟨c55, hw⟩ := hw
      refine g_iastore O dX5_readLaw_55 c55.1 c55.2 ?_
      refine g_nmH (fun h55 e55 => ?_)
      have hw := hw h55 e55
      refine g_aload_n O dX5_readLaw_56 rfl ?_
      refine gf_X5_machine O dX5_readLaw_57 fl_X5_39 c1 ?_
      refine g_dup O dX5_readLaw_60 rfl ?_
      obtain ⟨c61, hw⟩ := hw
      refine gf_X2_laws O dX5_readLaw_61 fl_X5_146 c61 ?_
      refine g_iconst O dX5_readLaw_64 kv_1 ?_
      refine g_iadd O dX5_readLaw_65 ?_
      refine pf_X2_laws O dX5_readLaw_66 fl_X5_146 c61 ?_
      refine g_aload_n O dX5_readLaw_69 rfl ?_
      refine g_iconst O dX5_readLaw_70 kv_0 ?_
      refine g_callV (As := [vi (0 : Int32)]) (rest := []) O ci_5 rfl dX5_readLaw_71 ml_X5_155 im_yX5_readTest se_yX5_readTest ini_X5 co_yX5_readTest yo_yX5_readTest c1 rfl rfl (Nat.le_of_ble_eq_true rfl) ⟨by decide, by decide, by decide, by decide⟩ (okX5_readTest hw) (k_I fun r71 h71 hw => ?_)
      refine g_if_eq (tgt := 88) O dX5_readLaw_74 rfl (fun q74 => ?_) (fun q74 => ?_)
      · have hw := hw.1 q74
        refine g_iconst O dX5_readLaw_88 kv_0 ?_
        exact g_zreturn O dX5_readLaw_89 (by decide) ⟨rfl, rfl, _, rfl, hw⟩
      · have hw := hw.2 q74
        refine g_aload_n O dX5_readLaw_77 rfl ?_
        refine g_callV (As := []) (rest := []) O ci_5 rfl dX5_readLaw_78 ml_X5_158 im_yX5_stopCode se_yX5_stopCode ini_X5 co_yX5_stopCode yo_yX5_stopCode c1 rfl rfl (Nat.le_of_ble_eq_true rfl) ⟨by decide, by decide, by decide, by decide⟩ (okX5_stopCode hw) (k_I fun r78 h78 hw => ?_)
        refine g_if_eq (tgt := 88) O dX5_readLaw_81 rfl (fun q81 => ?_) (fun q81 => ?_)
        · have hw := hw.1 q81
          refine g_iconst O dX5_readLaw_88 kv_0 ?_
          exact g_zreturn O dX5_readLaw_89 (by decide) ⟨rfl, rfl, _, rfl, hw⟩
        · have hw := hw.2 q81
          refine g_iconst O dX5_readLaw_84 kv_1 ?_
          refine g_goto (tgt := 89) O dX5_readLaw_85 rfl ?_
          exact g_zreturn O dX5_readLaw_89 (by decide) ⟨rfl, rfl, _, rfl, hw⟩
    · have hw := hw.2 q24
      refine g_aload_n O dX5_readLaw_27 rfl ?_
      refine g_iconst O dX5_readLaw_28 kv_4 ?_
      refine g_callV (As := [vi (4 : Int32)]) (rest := []) O ci_5 rfl dX5_readLaw_29 ml_X5_92 im_yX5_fail se_yX5_fail ini_X5 co_yX5_fail yo_yX5_fail c1 rfl rfl (Nat.le_of_ble_eq_true rfl) ⟨by decide, by decide, by decide, by decide⟩ (okX5_fail hw) (k_I fun r29 h29 hw => ?_)
      obtain ⟨c32z, hw⟩ := hw
      exact g_zreturn O dX5_readLaw_32 c32z ⟨rfl, rfl, _, rfl, hw⟩
  · have hw := hw.2 q7
    refine g_aload_n O dX5_readLaw_10 rfl ?_
    refine g_iconst O dX5_readLaw_11 kv_5 ?_
    refine g_callV (As := [vi (5 : Int32)]) (rest := []) O ci_5 rfl dX5_readLaw_12 ml_X5_92 im_yX5_fail se_yX5_fail ini_X5 co_yX5_fail yo_yX5_fail c1 rfl rfl (Nat.le_of_ble_eq_true rfl) ⟨by decide, by decide, by decide, by decide⟩ (okX5_fail hw) (k_I fun r12 h12 hw => ?_)
    obtain ⟨c15z, hw⟩ := hw
    exact g_zreturn O dX5_readLaw_15 c15z ⟨rfl, rfl, _, rfl, hw⟩
theorem dX5_readMachine_0 : decode cX5_readMachine 0 = .ok (.aload_n 0, 1) := by decide +kernel
theorem dX5_readMachine_1 : decode cX5_readMachine 1 = .ok (.getfield 31, 3) := by decide +kernel
theorem dX5_readMachine_4 : decode cX5_readMachine 4 = .ok (.getfield 102, 3) := by decide +kernel
theorem dX5_readMachine_7 : decode cX5_readMachine 7 = .ok (.iconst 3, 1) := by decide +kernel
theorem dX5_readMachine_8 : decode cX5_readMachine 8 = .ok (.if_icmp .lt 9, 3) := by decide +kernel
theorem dX5_readMachine_11 : decode cX5_readMachine 11 = .ok (.aload_n 0, 1) := by decide +kernel
theorem dX5_readMachine_12 : decode cX5_readMachine 12 = .ok (.iconst 4, 1) := by decide +kernel
theorem dX5_readMachine_13 : decode cX5_readMachine 13 = .ok (.invokevirtual 92, 3) := by decide +kernel
theorem dX5_readMachine_16 : decode cX5_readMachine 16 = .ok (.ireturn, 1) := by decide +kernel
theorem dX5_readMachine_17 : decode cX5_readMachine 17 = .ok (.aload_n 0, 1) := by decide +kernel
theorem dX5_readMachine_18 : decode cX5_readMachine 18 = .ok (.getfield 31, 3) := by decide +kernel
theorem dX5_readMachine_21 : decode cX5_readMachine 21 = .ok (.getfield 102, 3) := by decide +kernel
theorem dX5_readMachine_24 : decode cX5_readMachine 24 = .ok (.ifCond .le 19, 3) := by decide +kernel
theorem dX5_readMachine_27 : decode cX5_readMachine 27 = .ok (.aload_n 0, 1) := by decide +kernel
theorem dX5_readMachine_28 : decode cX5_readMachine 28 = .ok (.getfield 39, 3) := by decide +kernel
theorem dX5_readMachine_31 : decode cX5_readMachine 31 = .ok (.getfield 96, 3) := by decide +kernel
theorem dX5_readMachine_34 : decode cX5_readMachine 34 = .ok (.ifCond .ne 9, 3) := by decide +kernel
theorem dX5_readMachine_37 : decode cX5_readMachine 37 = .ok (.aload_n 0, 1) := by decide +kernel
theorem dX5_readMachine_38 : decode cX5_readMachine 38 = .ok (.iconst 5, 1) := by decide +kernel
theorem dX5_readMachine_39 : decode cX5_readMachine 39 = .ok (.invokevirtual 92, 3) := by decide +kernel
theorem dX5_readMachine_42 : decode cX5_readMachine 42 = .ok (.ireturn, 1) := by decide +kernel
theorem dX5_readMachine_43 : decode cX5_readMachine 43 = .ok (.aload_n 0, 1) := by decide +kernel
theorem dX5_readMachine_44 : decode cX5_readMachine 44 = .ok (.invokevirtual 105, 3) := by decide +kernel
theorem dX5_readMachine_47 : decode cX5_readMachine 47 = .ok (.aload_n 0, 1) := by decide +kernel
theorem dX5_readMachine_48 : decode cX5_readMachine 48 = .ok (.invokevirtual 108, 3) := by decide +kernel
theorem dX5_readMachine_51 : decode cX5_readMachine 51 = .ok (.ifCond .ne 5, 3) := by decide +kernel
theorem dX5_readMachine_54 : decode cX5_readMachine 54 = .ok (.iconst 0, 1) := by decide +kernel
theorem dX5_readMachine_55 : decode cX5_readMachine 55 = .ok (.ireturn, 1) := by decide +kernel
theorem dX5_readMachine_56 : decode cX5_readMachine 56 = .ok (.aload_n 0, 1) := by decide +kernel
theorem dX5_readMachine_57 : decode cX5_readMachine 57 = .ok (.aload_n 0, 1) := by decide +kernel
theorem dX5_readMachine_58 : decode cX5_readMachine 58 = .ok (.getfield 31, 3) := by decide +kernel
theorem dX5_readMachine_61 : decode cX5_readMachine 61 = .ok (.getfield 35, 3) := by decide +kernel
theorem dX5_readMachine_64 : decode cX5_readMachine 64 = .ok (.aload_n 0, 1) := by decide +kernel
theorem dX5_readMachine_65 : decode cX5_readMachine 65 = .ok (.getfield 31, 3) := by decide +kernel
theorem dX5_readMachine_68 : decode cX5_readMachine 68 = .ok (.getfield 102, 3) := by decide +kernel
theorem dX5_readMachine_71 : decode cX5_readMachine 71 = .ok (.aaload, 1) := by decide +kernel
theorem dX5_readMachine_72 : decode cX5_readMachine 72 = .ok (.putfield 39, 3) := by decide +kernel
theorem dX5_readMachine_75 : decode cX5_readMachine 75 = .ok (.aload_n 0, 1) := by decide +kernel
theorem dX5_readMachine_76 : decode cX5_readMachine 76 = .ok (.getfield 39, 3) := by decide +kernel
theorem dX5_readMachine_79 : decode cX5_readMachine 79 = .ok (.aload_n 0, 1) := by decide +kernel
theorem dX5_readMachine_80 : decode cX5_readMachine 80 = .ok (.invokevirtual 111, 3) := by decide +kernel
theorem dX5_readMachine_83 : decode cX5_readMachine 83 = .ok (.invokevirtual 115, 3) := by decide +kernel
theorem dX5_readMachine_86 : decode cX5_readMachine 86 = .ok (.aload_n 0, 1) := by decide +kernel
theorem dX5_readMachine_87 : decode cX5_readMachine 87 = .ok (.getfield 31, 3) := by decide +kernel
theorem dX5_readMachine_90 : decode cX5_readMachine 90 = .ok (.dup, 1) := by decide +kernel
theorem dX5_readMachine_91 : decode cX5_readMachine 91 = .ok (.getfield 102, 3) := by decide +kernel
theorem dX5_readMachine_94 : decode cX5_readMachine 94 = .ok (.iconst 1, 1) := by decide +kernel
theorem dX5_readMachine_95 : decode cX5_readMachine 95 = .ok (.iadd, 1) := by decide +kernel
theorem dX5_readMachine_96 : decode cX5_readMachine 96 = .ok (.putfield 102, 3) := by decide +kernel
theorem dX5_readMachine_99 : decode cX5_readMachine 99 = .ok (.aload_n 0, 1) := by decide +kernel
theorem dX5_readMachine_100 : decode cX5_readMachine 100 = .ok (.invokevirtual 105, 3) := by decide +kernel
theorem dX5_readMachine_103 : decode cX5_readMachine 103 = .ok (.iconst 1, 1) := by decide +kernel
theorem dX5_readMachine_104 : decode cX5_readMachine 104 = .ok (.ireturn, 1) := by decide +kernel
theorem okX5_readMachine_j43 {E : Ev} {X : Cx} {S : Sh} {Z : Option Nat} {Q : Int32 → Hp → Prop} {h : Hp} {a0 : Nat} (O : Ok E X yX5_readMachine cX5_readMachine 1 (some .boolean) 3 66 0 0 (qI S Z Q)) (hw : wX5_readMachine_j43 S h a0 Q) : G E X 0 0 S Z h 43 [some (vr a0)] [] := by
  unfold wX5_readMachine_j43 at hw
  refine g_aload_n O dX5_readMachine_43 rfl ?_
  obtain ⟨c44, hw⟩ := hw
  refine g_callV (As := []) (rest := []) O ci_5 rfl dX5_readMachine_44 ml_X5_105 im_yX5_advance se_yX5_advance ini_X5 co_yX5_advance yo_yX5_advance c44 rfl rfl (Nat.le_of_ble_eq_true rfl) ⟨by decide, by decide, by decide, by decide⟩ (okX5_advance hw) (k_V fun h44 hw => ?_)
  refine g_aload_n O dX5_readMachine_47 rfl ?_
  refine g_callV (As := []) (rest := []) O ci_5 rfl dX5_readMachine_48 ml_X5_108 im_yX5_isNewName se_yX5_isNewName ini_X5 co_yX5_isNewName yo_yX5_isNewName c44 rfl rfl (Nat.le_of_ble_eq_true rfl) ⟨by decide, by decide, by decide, by decide⟩ (okX5_isNewName hw) (k_I fun r48 h48 hw => ?_)
  refine g_if_ne (tgt := 56) O dX5_readMachine_51 rfl (fun q51 => ?_) (fun q51 => ?_)
  · have hw := hw.1 q51
    refine g_aload_n O dX5_readMachine_56 rfl ?_
    refine g_aload_n O dX5_readMachine_57 rfl ?_
    refine gf_X5_model O dX5_readMachine_58 fl_X5_31 c44 ?_
    obtain ⟨c61, hw⟩ := hw
    refine gf_X3_machines O dX5_readMachine_61 fl_X5_35 c61 ?_
    refine g_aload_n O dX5_readMachine_64 rfl ?_
    refine gf_X5_model O dX5_readMachine_65 fl_X5_31 c44 ?_
    refine gf_X3_count O dX5_readMachine_68 fl_X5_102 c61 ?_
    obtain ⟨c71, hw⟩ := hw
    refine g_aaload (t := 1) (C := "FinerSteps$Machine") O rfl dX5_readMachine_71 c71.1 c71.2 ?_
    refine pf_X5_machine O dX5_readMachine_72 fl_X5_39 c44 ?_
    refine g_nmH (fun h72 e72 => ?_)
    have hw := hw h72 e72
    refine g_aload_n O dX5_readMachine_75 rfl ?_
    refine gf_X5_machine O dX5_readMachine_76 fl_X5_39 c44 ?_
    refine g_aload_n O dX5_readMachine_79 rfl ?_
    refine g_callV (As := []) (rest := [vr (gR h72 a0 5)]) O ci_5 rfl dX5_readMachine_80 ml_X5_111 im_yX5_code se_yX5_code ini_X5 co_yX5_code yo_yX5_code c44 rfl rfl (Nat.le_of_ble_eq_true rfl) ⟨by decide, by decide, by decide, by decide⟩ (okX5_code hw) (k_J fun r80 h80 hw => ?_)
    obtain ⟨c83, hw⟩ := hw
    refine g_callV (As := [vj r80]) (rest := []) O ci_2 rfl dX5_readMachine_83 ml_X5_115 im_yX2_clear se_yX2_clear ini_X2 co_yX2_clear yo_yX2_clear c83 rfl rfl (Nat.le_of_ble_eq_true rfl) ⟨by decide, by decide, by decide, by decide⟩ (okX2_clear hw) (k_V fun h83 hw => ?_)
    refine g_aload_n O dX5_readMachine_86 rfl ?_
    refine gf_X5_model O dX5_readMachine_87 fl_X5_31 c44 ?_
    refine g_dup O dX5_readMachine_90 rfl ?_
    obtain ⟨c91, hw⟩ := hw
    refine gf_X3_count O dX5_readMachine_91 fl_X5_102 c91 ?_
    refine g_iconst O dX5_readMachine_94 kv_1 ?_
    refine g_iadd O dX5_readMachine_95 ?_
    refine pf_X3_count O dX5_readMachine_96 fl_X5_102 c91 ?_
    refine g_aload_n O dX5_readMachine_99 rfl ?_
    refine g_callV (As := []) (rest := []) O ci_5 rfl dX5_readMachine_100 ml_X5_105 im_yX5_advance se_yX5_advance ini_X5 co_yX5_advance yo_yX5_advance c44 rfl rfl (Nat.le_of_ble_eq_true rfl) ⟨by decide, by decide, by decide, by decide⟩ (okX5_advance hw) (k_V fun h100 hw => ?_)
    refine g_iconst O dX5_readMachine_103 kv_1 ?_
    exact g_zreturn O dX5_readMachine_104 (by decide) ⟨rfl, rfl, _, rfl, hw⟩
  · have hw := hw.2 q51
    refine g_iconst O dX5_readMachine_54 kv_0 ?_
    exact g_zreturn O dX5_readMachine_55 (by decide) ⟨rfl, rfl, _, rfl, hw⟩
theorem okX5_readMachine {E : Ev} {S : Sh} {Z : Option Nat} {Q : Int32 → Hp → Prop} {h : Hp} {a0 : Nat} (hw : wX5_readMachine S h a0 Q) : Ct E yX5_readMachine cX5_readMachine 1 (some .boolean) 3 66 0 0 S Z h [vr a0] (qI S Z Q) := by
  refine Ct.of (by decide) (lc := [some (vr a0)]) (Nat.le_of_ble_eq_true rfl) rfl (fun X O => ?_)
  unfold wX5_readMachine at hw
  refine g_aload_n O dX5_readMachine_0 rfl ?_
  obtain ⟨c1, hw⟩ := hw
  refine gf_X5_model O dX5_readMachine_1 fl_X5_31 c1 ?_
  obtain ⟨c4, hw⟩ := hw
  refine gf_X3_count O dX5_readMachine_4 fl_X5_102 c4 ?_
  refine g_iconst O dX5_readMachine_7 kv_3 ?_
  refine g_icmp_lt (tgt := 17) O dX5_readMachine_8 rfl (fun q8 => ?_) (fun q8 => ?_)
  · have hw := hw.1 q8
    refine g_aload_n O dX5_readMachine_17 rfl ?_
    refine gf_X5_model O dX5_readMachine_18 fl_X5_31 c1 ?_
    refine gf_X3_count O dX5_readMachine_21 fl_X5_102 c4 ?_
    refine g_if_le (tgt := 43) O dX5_readMachine_24 rfl (fun q24 => ?_) (fun q24 => ?_)
    · have hw := hw.1 q24
      exact okX5_readMachine_j43 O hw
    · have hw := hw.2 q24
      refine g_aload_n O dX5_readMachine_27 rfl ?_
      refine gf_X5_machine O dX5_readMachine_28 fl_X5_39 c1 ?_
      obtain ⟨c31, hw⟩ := hw
      refine gf_X2_variables O dX5_readMachine_31 fl_X5_96 c31 ?_
      refine g_if_ne (tgt := 43) O dX5_readMachine_34 rfl (fun q34 => ?_) (fun q34 => ?_)
      · have hw := hw.1 q34
        exact okX5_readMachine_j43 O hw
      · have hw := hw.2 q34
        refine g_aload_n O dX5_readMachine_37 rfl ?_
        refine g_iconst O dX5_readMachine_38 kv_5 ?_
        refine g_callV (As := [vi (5 : Int32)]) (rest := []) O ci_5 rfl dX5_readMachine_39 ml_X5_92 im_yX5_fail se_yX5_fail ini_X5 co_yX5_fail yo_yX5_fail c1 rfl rfl (Nat.le_of_ble_eq_true rfl) ⟨by decide, by decide, by decide, by decide⟩ (okX5_fail hw) (k_I fun r39 h39 hw => ?_)
        obtain ⟨c42z, hw⟩ := hw
        exact g_zreturn O dX5_readMachine_42 c42z ⟨rfl, rfl, _, rfl, hw⟩
  · have hw := hw.2 q8
    refine g_aload_n O dX5_readMachine_11 rfl ?_
    refine g_iconst O dX5_readMachine_12 kv_4 ?_
    refine g_callV (As := [vi (4 : Int32)]) (rest := []) O ci_5 rfl dX5_readMachine_13 ml_X5_92 im_yX5_fail se_yX5_fail ini_X5 co_yX5_fail yo_yX5_fail c1 rfl rfl (Nat.le_of_ble_eq_true rfl) ⟨by decide, by decide, by decide, by decide⟩ (okX5_fail hw) (k_I fun r13 h13 hw => ?_)
    obtain ⟨c16z, hw⟩ := hw
    exact g_zreturn O dX5_readMachine_16 c16z ⟨rfl, rfl, _, rfl, hw⟩
theorem dX5_readVariable_0 : decode cX5_readVariable 0 = .ok (.aload_n 0, 1) := by decide +kernel
theorem dX5_readVariable_1 : decode cX5_readVariable 1 = .ok (.getfield 31, 3) := by decide +kernel
theorem dX5_readVariable_4 : decode cX5_readVariable 4 = .ok (.getfield 102, 3) := by decide +kernel
theorem dX5_readVariable_7 : decode cX5_readVariable 7 = .ok (.ifCond .ne 9, 3) := by decide +kernel
theorem dX5_readVariable_10 : decode cX5_readVariable 10 = .ok (.aload_n 0, 1) := by decide +kernel
theorem dX5_readVariable_11 : decode cX5_readVariable 11 = .ok (.iconst 5, 1) := by decide +kernel
theorem dX5_readVariable_12 : decode cX5_readVariable 12 = .ok (.invokevirtual 92, 3) := by decide +kernel
theorem dX5_readVariable_15 : decode cX5_readVariable 15 = .ok (.ireturn, 1) := by decide +kernel
theorem dX5_readVariable_16 : decode cX5_readVariable 16 = .ok (.aload_n 0, 1) := by decide +kernel
theorem dX5_readVariable_17 : decode cX5_readVariable 17 = .ok (.getfield 39, 3) := by decide +kernel
theorem dX5_readVariable_20 : decode cX5_readVariable 20 = .ok (.getfield 96, 3) := by decide +kernel
theorem dX5_readVariable_23 : decode cX5_readVariable 23 = .ok (.istore_n 1, 1) := by decide +kernel
theorem dX5_readVariable_24 : decode cX5_readVariable 24 = .ok (.iload_n 1, 1) := by decide +kernel
theorem dX5_readVariable_25 : decode cX5_readVariable 25 = .ok (.iconst 3, 1) := by decide +kernel
theorem dX5_readVariable_26 : decode cX5_readVariable 26 = .ok (.if_icmp .ge 13, 3) := by decide +kernel
theorem dX5_readVariable_29 : decode cX5_readVariable 29 = .ok (.aload_n 0, 1) := by decide +kernel
theorem dX5_readVariable_30 : decode cX5_readVariable 30 = .ok (.getfield 39, 3) := by decide +kernel
theorem dX5_readVariable_33 : decode cX5_readVariable 33 = .ok (.invokevirtual 118, 3) := by decide +kernel
theorem dX5_readVariable_36 : decode cX5_readVariable 36 = .ok (.ifCond .eq 9, 3) := by decide +kernel
theorem dX5_readVariable_39 : decode cX5_readVariable 39 = .ok (.aload_n 0, 1) := by decide +kernel
theorem dX5_readVariable_40 : decode cX5_readVariable 40 = .ok (.iconst 4, 1) := by decide +kernel
theorem dX5_readVariable_41 : decode cX5_readVariable 41 = .ok (.invokevirtual 92, 3) := by decide +kernel
theorem dX5_readVariable_44 : decode cX5_readVariable 44 = .ok (.ireturn, 1) := by decide +kernel
theorem dX5_readVariable_45 : decode cX5_readVariable 45 = .ok (.aload_n 0, 1) := by decide +kernel
theorem dX5_readVariable_46 : decode cX5_readVariable 46 = .ok (.invokevirtual 105, 3) := by decide +kernel
theorem dX5_readVariable_49 : decode cX5_readVariable 49 = .ok (.aload_n 0, 1) := by decide +kernel
theorem dX5_readVariable_50 : decode cX5_readVariable 50 = .ok (.invokevirtual 108, 3) := by decide +kernel
theorem dX5_readVariable_53 : decode cX5_readVariable 53 = .ok (.ifCond .ne 5, 3) := by decide +kernel
theorem dX5_readVariable_56 : decode cX5_readVariable 56 = .ok (.iconst 0, 1) := by decide +kernel
theorem dX5_readVariable_57 : decode cX5_readVariable 57 = .ok (.ireturn, 1) := by decide +kernel
theorem dX5_readVariable_58 : decode cX5_readVariable 58 = .ok (.aload_n 0, 1) := by decide +kernel
theorem dX5_readVariable_59 : decode cX5_readVariable 59 = .ok (.getfield 39, 3) := by decide +kernel
theorem dX5_readVariable_62 : decode cX5_readVariable 62 = .ok (.getfield 121, 3) := by decide +kernel
theorem dX5_readVariable_65 : decode cX5_readVariable 65 = .ok (.iload_n 1, 1) := by decide +kernel
theorem dX5_readVariable_66 : decode cX5_readVariable 66 = .ok (.aload_n 0, 1) := by decide +kernel
theorem dX5_readVariable_67 : decode cX5_readVariable 67 = .ok (.invokevirtual 111, 3) := by decide +kernel
theorem dX5_readVariable_70 : decode cX5_readVariable 70 = .ok (.lastore, 1) := by decide +kernel
theorem dX5_readVariable_71 : decode cX5_readVariable 71 = .ok (.aload_n 0, 1) := by decide +kernel
theorem dX5_readVariable_72 : decode cX5_readVariable 72 = .ok (.invokevirtual 105, 3) := by decide +kernel
theorem dX5_readVariable_75 : decode cX5_readVariable 75 = .ok (.aload_n 0, 1) := by decide +kernel
theorem dX5_readVariable_76 : decode cX5_readVariable 76 = .ok (.iload_n 1, 1) := by decide +kernel
theorem dX5_readVariable_77 : decode cX5_readVariable 77 = .ok (.invokevirtual 124, 3) := by decide +kernel
theorem dX5_readVariable_80 : decode cX5_readVariable 80 = .ok (.ireturn, 1) := by decide +kernel
theorem okX5_readVariable {E : Ev} {S : Sh} {Z : Option Nat} {Q : Int32 → Hp → Prop} {h : Hp} {a0 : Nat} (hw : wX5_readVariable S h a0 Q) : Ct E yX5_readVariable cX5_readVariable 2 (some .boolean) 4 91 0 0 S Z h [vr a0] (qI S Z Q) := by
  refine Ct.of (by decide) (lc := [some (vr a0), none]) (Nat.le_of_ble_eq_true rfl) rfl (fun X O => ?_)
  unfold wX5_readVariable at hw
  refine g_aload_n O dX5_readVariable_0 rfl ?_
  obtain ⟨c1, hw⟩ := hw
  refine gf_X5_model O dX5_readVariable_1 fl_X5_31 c1 ?_
  obtain ⟨c4, hw⟩ := hw
  refine gf_X3_count O dX5_readVariable_4 fl_X5_102 c4 ?_
  refine g_if_ne (tgt := 16) O dX5_readVariable_7 rfl (fun q7 => ?_) (fun q7 => ?_)
  · have hw := hw.1 q7
    refine g_aload_n O dX5_readVariable_16 rfl ?_
    refine gf_X5_machine O dX5_readVariable_17 fl_X5_39 c1 ?_
    obtain ⟨c20, hw⟩ := hw
    refine gf_X2_variables O dX5_readVariable_20 fl_X5_96 c20 ?_
    refine g_istore_n (lc' := [some (vr a0), some (vi (gI h (gR h a0 5) 11))]) O dX5_readVariable_23 rfl (Nat.le_of_ble_eq_true rfl) rfl ?_
    refine g_iload_n O dX5_readVariable_24 rfl ?_
    refine g_iconst O dX5_readVariable_25 kv_3 ?_
    refine g_icmp_ge (tgt := 39) O dX5_readVariable_26 rfl (fun q26 => ?_) (fun q26 => ?_)
    · have hw := hw.1 q26
      refine g_aload_n O dX5_readVariable_39 rfl ?_
      refine g_iconst O dX5_readVariable_40 kv_4 ?_
      refine g_callV (As := [vi (4 : Int32)]) (rest := []) O ci_5 rfl dX5_readVariable_41 ml_X5_92 im_yX5_fail se_yX5_fail ini_X5 co_yX5_fail yo_yX5_fail c1 rfl rfl (Nat.le_of_ble_eq_true rfl) ⟨by decide, by decide, by decide, by decide⟩ (okX5_fail hw) (k_I fun r41 h41 hw => ?_)
      obtain ⟨c44z, hw⟩ := hw
      exact g_zreturn O dX5_readVariable_44 c44z ⟨rfl, rfl, _, rfl, hw⟩
    · have hw := hw.2 q26
      refine g_aload_n O dX5_readVariable_29 rfl ?_
      refine gf_X5_machine O dX5_readVariable_30 fl_X5_39 c1 ?_
      refine g_callV (As := []) (rest := []) O ci_2 rfl dX5_readVariable_33 ml_X5_118 im_yX2_hasOtherLines se_yX2_hasOtherLines ini_X2 co_yX2_hasOtherLines yo_yX2_hasOtherLines c20 rfl rfl (Nat.le_of_ble_eq_true rfl) ⟨by decide, by decide, by decide, by decide⟩ (okX2_hasOtherLines hw) (k_I fun r33 h33 hw => ?_)
      refine g_if_eq (tgt := 45) O dX5_readVariable_36 rfl (fun q36 => ?_) (fun q36 => ?_)
      · have hw := hw.1 q36
        refine g_aload_n O dX5_readVariable_45 rfl ?_
        refine g_callV (As := []) (rest := []) O ci_5 rfl dX5_readVariable_46 ml_X5_105 im_yX5_advance se_yX5_advance ini_X5 co_yX5_advance yo_yX5_advance c1 rfl rfl (Nat.le_of_ble_eq_true rfl) ⟨by decide, by decide, by decide, by decide⟩ (okX5_advance hw) (k_V fun h46 hw => ?_)
        refine g_aload_n O dX5_readVariable_49 rfl ?_
        refine g_callV (As := []) (rest := []) O ci_5 rfl dX5_readVariable_50 ml_X5_108 im_yX5_isNewName se_yX5_isNewName ini_X5 co_yX5_isNewName yo_yX5_isNewName c1 rfl rfl (Nat.le_of_ble_eq_true rfl) ⟨by decide, by decide, by decide, by decide⟩ (okX5_isNewName hw) (k_I fun r50 h50 hw => ?_)
        refine g_if_ne (tgt := 58) O dX5_readVariable_53 rfl (fun q53 => ?_) (fun q53 => ?_)
        · have hw := hw.1 q53
          refine g_aload_n O dX5_readVariable_58 rfl ?_
          refine gf_X5_machine O dX5_readVariable_59 fl_X5_39 c1 ?_
          obtain ⟨c62, hw⟩ := hw
          refine gf_X2_names O dX5_readVariable_62 fl_X5_121 c62 ?_
          refine g_iload_n O dX5_readVariable_65 rfl ?_
          refine g_aload_n O dX5_readVariable_66 rfl ?_
          refine g_callV (As := []) (rest := [vi ((gI h (gR h a0 5) 11)), vr ((gR h50 (gR h50 a0 5) 0))]) O ci_5 rfl dX5_readVariable_67 ml_X5_111 im_yX5_code se_yX5_code ini_X5 co_yX5_code yo_yX5_code c1 rfl rfl (Nat.le_of_ble_eq_true rfl) ⟨by decide, by decide, by decide, by decide⟩ (okX5_code hw) (k_J fun r67 h67 hw => ?_)
          obtain ⟨c70, hw⟩ := hw
          refine g_lastore O dX5_readVariable_70 c70.1 c70.2 ?_
          refine g_aload_n O dX5_readVariable_71 rfl ?_
          refine g_callV (As := []) (rest := []) O ci_5 rfl dX5_readVariable_72 ml_X5_105 im_yX5_advance se_yX5_advance ini_X5 co_yX5_advance yo_yX5_advance c1 rfl rfl (Nat.le_of_ble_eq_true rfl) ⟨by decide, by decide, by decide, by decide⟩ (okX5_advance hw) (k_V fun h72 hw => ?_)
          refine g_aload_n O dX5_readVariable_75 rfl ?_
          refine g_iload_n O dX5_readVariable_76 rfl ?_
          refine g_callV (As := [vi ((gI h (gR h a0 5) 11))]) (rest := []) O ci_5 rfl dX5_readVariable_77 ml_X5_124 im_yX5_readBounds se_yX5_readBounds ini_X5 co_yX5_readBounds yo_yX5_readBounds c1 rfl rfl (Nat.le_of_ble_eq_true rfl) ⟨by decide, by decide, by decide, by decide⟩ (okX5_readBounds hw) (k_I fun r77 h77 hw => ?_)
          obtain ⟨c80z, hw⟩ := hw
          exact g_zreturn O dX5_readVariable_80 c80z ⟨rfl, rfl, _, rfl, hw⟩
        · have hw := hw.2 q53
          refine g_iconst O dX5_readVariable_56 kv_0 ?_
          exact g_zreturn O dX5_readVariable_57 (by decide) ⟨rfl, rfl, _, rfl, hw⟩
      · have hw := hw.2 q36
        refine g_aload_n O dX5_readVariable_39 rfl ?_
        refine g_iconst O dX5_readVariable_40 kv_4 ?_
        refine g_callV (As := [vi (4 : Int32)]) (rest := []) O ci_5 rfl dX5_readVariable_41 ml_X5_92 im_yX5_fail se_yX5_fail ini_X5 co_yX5_fail yo_yX5_fail c1 rfl rfl (Nat.le_of_ble_eq_true rfl) ⟨by decide, by decide, by decide, by decide⟩ (okX5_fail hw) (k_I fun r41 h41 hw => ?_)
        obtain ⟨c44z, hw⟩ := hw
        exact g_zreturn O dX5_readVariable_44 c44z ⟨rfl, rfl, _, rfl, hw⟩
  · have hw := hw.2 q7
    refine g_aload_n O dX5_readVariable_10 rfl ?_
    refine g_iconst O dX5_readVariable_11 kv_5 ?_
    refine g_callV (As := [vi (5 : Int32)]) (rest := []) O ci_5 rfl dX5_readVariable_12 ml_X5_92 im_yX5_fail se_yX5_fail ini_X5 co_yX5_fail yo_yX5_fail c1 rfl rfl (Nat.le_of_ble_eq_true rfl) ⟨by decide, by decide, by decide, by decide⟩ (okX5_fail hw) (k_I fun r12 h12 hw => ?_)
    obtain ⟨c15z, hw⟩ := hw
    exact g_zreturn O dX5_readVariable_15 c15z ⟨rfl, rfl, _, rfl, hw⟩
theorem dX5_readVariant_0 : decode cX5_readVariant 0 = .ok (.aload_n 0, 1) := by decide +kernel
theorem dX5_readVariant_1 : decode cX5_readVariant 1 = .ok (.getfield 39, 3) := by decide +kernel
theorem dX5_readVariant_4 : decode cX5_readVariant 4 = .ok (.getfield 96, 3) := by decide +kernel
theorem dX5_readVariant_7 : decode cX5_readVariant 7 = .ok (.ifCond .ne 9, 3) := by decide +kernel
theorem dX5_readVariant_10 : decode cX5_readVariant 10 = .ok (.aload_n 0, 1) := by decide +kernel
theorem dX5_readVariant_11 : decode cX5_readVariant 11 = .ok (.iconst 5, 1) := by decide +kernel
theorem dX5_readVariant_12 : decode cX5_readVariant 12 = .ok (.invokevirtual 92, 3) := by decide +kernel
theorem dX5_readVariant_15 : decode cX5_readVariant 15 = .ok (.ireturn, 1) := by decide +kernel
theorem dX5_readVariant_16 : decode cX5_readVariant 16 = .ok (.aload_n 0, 1) := by decide +kernel
theorem dX5_readVariant_17 : decode cX5_readVariant 17 = .ok (.getfield 39, 3) := by decide +kernel
theorem dX5_readVariant_20 : decode cX5_readVariant 20 = .ok (.getfield 161, 3) := by decide +kernel
theorem dX5_readVariant_23 : decode cX5_readVariant 23 = .ok (.iconst (-1), 1) := by decide +kernel
theorem dX5_readVariant_24 : decode cX5_readVariant 24 = .ok (.if_icmp .eq 9, 3) := by decide +kernel
theorem dX5_readVariant_27 : decode cX5_readVariant 27 = .ok (.aload_n 0, 1) := by decide +kernel
theorem dX5_readVariant_28 : decode cX5_readVariant 28 = .ok (.iconst 4, 1) := by decide +kernel
theorem dX5_readVariant_29 : decode cX5_readVariant 29 = .ok (.invokevirtual 92, 3) := by decide +kernel
theorem dX5_readVariant_32 : decode cX5_readVariant 32 = .ok (.ireturn, 1) := by decide +kernel
theorem dX5_readVariant_33 : decode cX5_readVariant 33 = .ok (.aload_n 0, 1) := by decide +kernel
theorem dX5_readVariant_34 : decode cX5_readVariant 34 = .ok (.invokevirtual 105, 3) := by decide +kernel
theorem dX5_readVariant_37 : decode cX5_readVariant 37 = .ok (.aload_n 0, 1) := by decide +kernel
theorem dX5_readVariant_38 : decode cX5_readVariant 38 = .ok (.getfield 39, 3) := by decide +kernel
theorem dX5_readVariant_41 : decode cX5_readVariant 41 = .ok (.aload_n 0, 1) := by decide +kernel
theorem dX5_readVariant_42 : decode cX5_readVariant 42 = .ok (.invokevirtual 152, 3) := by decide +kernel
theorem dX5_readVariant_45 : decode cX5_readVariant 45 = .ok (.putfield 161, 3) := by decide +kernel
theorem dX5_readVariant_48 : decode cX5_readVariant 48 = .ok (.aload_n 0, 1) := by decide +kernel
theorem dX5_readVariant_49 : decode cX5_readVariant 49 = .ok (.iconst 0, 1) := by decide +kernel
theorem dX5_readVariant_50 : decode cX5_readVariant 50 = .ok (.invokevirtual 164, 3) := by decide +kernel
theorem dX5_readVariant_53 : decode cX5_readVariant 53 = .ok (.ifCond .eq 14, 3) := by decide +kernel
theorem dX5_readVariant_56 : decode cX5_readVariant 56 = .ok (.aload_n 0, 1) := by decide +kernel
theorem dX5_readVariant_57 : decode cX5_readVariant 57 = .ok (.invokevirtual 158, 3) := by decide +kernel
theorem dX5_readVariant_60 : decode cX5_readVariant 60 = .ok (.ifCond .eq 7, 3) := by decide +kernel
theorem dX5_readVariant_63 : decode cX5_readVariant 63 = .ok (.iconst 1, 1) := by decide +kernel
theorem dX5_readVariant_64 : decode cX5_readVariant 64 = .ok (.goto 4, 3) := by decide +kernel
theorem dX5_readVariant_67 : decode cX5_readVariant 67 = .ok (.iconst 0, 1) := by decide +kernel
theorem dX5_readVariant_68 : decode cX5_readVariant 68 = .ok (.ireturn, 1) := by decide +kernel
theorem okX5_readVariant {E : Ev} {S : Sh} {Z : Option Nat} {Q : Int32 → Hp → Prop} {h : Hp} {a0 : Nat} (hw : wX5_readVariant S h a0 Q) : Ct E yX5_readVariant cX5_readVariant 1 (some .boolean) 44 1690 0 0 S Z h [vr a0] (qI S Z Q) := by
  refine Ct.of (by decide) (lc := [some (vr a0)]) (Nat.le_of_ble_eq_true rfl) rfl (fun X O => ?_)
  unfold wX5_readVariant at hw
  refine g_aload_n O dX5_readVariant_0 rfl ?_
  obtain ⟨c1, hw⟩ := hw
  refine gf_X5_machine O dX5_readVariant_1 fl_X5_39 c1 ?_
  obtain ⟨c4, hw⟩ := hw
  refine gf_X2_variables O dX5_readVariant_4 fl_X5_96 c4 ?_
  refine g_if_ne (tgt := 16) O dX5_readVariant_7 rfl (fun q7 => ?_) (fun q7 => ?_)
  · have hw := hw.1 q7
    refine g_aload_n O dX5_readVariant_16 rfl ?_
    refine gf_X5_machine O dX5_readVariant_17 fl_X5_39 c1 ?_
    refine gf_X2_variantCode O dX5_readVariant_20 fl_X5_161 c4 ?_
    refine g_iconst O dX5_readVariant_23 kv_m1 ?_
    refine g_icmp_eq (tgt := 33) O dX5_readVariant_24 rfl (fun q24 => ?_) (fun q24 => ?_)
    · have hw := hw.1 q24
      refine g_aload_n O dX5_readVariant_33 rfl ?_
      refine g_callV (As := []) (rest := []) O ci_5 rfl dX5_readVariant_34 ml_X5_105 im_yX5_advance se_yX5_advance ini_X5 co_yX5_advance yo_yX5_advance c1 rfl rfl (Nat.le_of_ble_eq_true rfl) ⟨by decide, by decide, by decide, by decide⟩ (okX5_advance hw) (k_V fun h34 hw => ?_)
      refine g_aload_n O dX5_readVariant_37 rfl ?_
      refine gf_X5_machine O dX5_readVariant_38 fl_X5_39 c1 ?_
      refine g_aload_n O dX5_readVariant_41 rfl ?_
      refine g_callV (As := []) (rest := [vr (gR h34 a0 5)]) O ci_5 rfl dX5_readVariant_42 ml_X5_152 im_yX5_startCode se_yX5_startCode ini_X5 co_yX5_startCode yo_yX5_startCode c1 rfl rfl (Nat.le_of_ble_eq_true rfl) ⟨by decide, by decide, by decide, by decide⟩ (okX5_startCode hw) (k_I fun r42 h42 hw => ?_)
      obtain ⟨c45, hw⟩ := hw
      refine pf_X2_variantCode O dX5_readVariant_45 fl_X5_161 c45 ?_
      refine g_aload_n O dX5_readVariant_48 rfl ?_
      refine g_iconst O dX5_readVariant_49 kv_0 ?_
      refine g_callV (As := [vi (0 : Int32)]) (rest := []) O ci_5 rfl dX5_readVariant_50 ml_X5_164 im_yX5_readSum se_yX5_readSum ini_X5 co_yX5_readSum yo_yX5_readSum c1 rfl rfl (Nat.le_of_ble_eq_true rfl) ⟨by decide, by decide, by decide, by decide⟩ (okX5_readSum hw) (k_I fun r50 h50 hw => ?_)
      refine g_if_eq (tgt := 67) O dX5_readVariant_53 rfl (fun q53 => ?_) (fun q53 => ?_)
      · have hw := hw.1 q53
        refine g_iconst O dX5_readVariant_67 kv_0 ?_
        exact g_zreturn O dX5_readVariant_68 (by decide) ⟨rfl, rfl, _, rfl, hw⟩
      · have hw := hw.2 q53
        refine g_aload_n O dX5_readVariant_56 rfl ?_
        refine g_callV (As := []) (rest := []) O ci_5 rfl dX5_readVariant_57 ml_X5_158 im_yX5_stopCode se_yX5_stopCode ini_X5 co_yX5_stopCode yo_yX5_stopCode c1 rfl rfl (Nat.le_of_ble_eq_true rfl) ⟨by decide, by decide, by decide, by decide⟩ (okX5_stopCode hw) (k_I fun r57 h57 hw => ?_)
        refine g_if_eq (tgt := 67) O dX5_readVariant_60 rfl (fun q60 => ?_) (fun q60 => ?_)
        · have hw := hw.1 q60
          refine g_iconst O dX5_readVariant_67 kv_0 ?_
          exact g_zreturn O dX5_readVariant_68 (by decide) ⟨rfl, rfl, _, rfl, hw⟩
        · have hw := hw.2 q60
          refine g_iconst O dX5_readVariant_63 kv_1 ?_
          refine g_goto (tgt := 68) O dX5_readVariant_64 rfl ?_
          exact g_zreturn O dX5_readVariant_68 (by decide) ⟨rfl, rfl, _, rfl, hw⟩
    · have hw := hw.2 q24
      refine g_aload_n O dX5_readVariant_27 rfl ?_
      refine g_iconst O dX5_readVariant_28 kv_4 ?_
      refine g_callV (As := [vi (4 : Int32)]) (rest := []) O ci_5 rfl dX5_readVariant_29 ml_X5_92 im_yX5_fail se_yX5_fail ini_X5 co_yX5_fail yo_yX5_fail c1 rfl rfl (Nat.le_of_ble_eq_true rfl) ⟨by decide, by decide, by decide, by decide⟩ (okX5_fail hw) (k_I fun r29 h29 hw => ?_)
      obtain ⟨c32z, hw⟩ := hw
      exact g_zreturn O dX5_readVariant_32 c32z ⟨rfl, rfl, _, rfl, hw⟩
  · have hw := hw.2 q7
    refine g_aload_n O dX5_readVariant_10 rfl ?_
    refine g_iconst O dX5_readVariant_11 kv_5 ?_
    refine g_callV (As := [vi (5 : Int32)]) (rest := []) O ci_5 rfl dX5_readVariant_12 ml_X5_92 im_yX5_fail se_yX5_fail ini_X5 co_yX5_fail yo_yX5_fail c1 rfl rfl (Nat.le_of_ble_eq_true rfl) ⟨by decide, by decide, by decide, by decide⟩ (okX5_fail hw) (k_I fun r12 h12 hw => ?_)
    obtain ⟨c15z, hw⟩ := hw
    exact g_zreturn O dX5_readVariant_15 c15z ⟨rfl, rfl, _, rfl, hw⟩
theorem dX5_readLines_0 : decode cX5_readLines 0 = .ok (.iconst 0, 1) := by decide +kernel
theorem dX5_readLines_1 : decode cX5_readLines 1 = .ok (.istore_n 1, 1) := by decide +kernel
theorem dX5_readLines_2 : decode cX5_readLines 2 = .ok (.iload_n 1, 1) := by decide +kernel
theorem dX5_readLines_3 : decode cX5_readLines 3 = .ok (.sipush 600, 3) := by decide +kernel
theorem dX5_readLines_6 : decode cX5_readLines 6 = .ok (.if_icmp .gt 209, 3) := by decide +kernel
theorem dX5_readLines_9 : decode cX5_readLines 9 = .ok (.aload_n 0, 1) := by decide +kernel
theorem dX5_readLines_10 : decode cX5_readLines 10 = .ok (.aload_n 0, 1) := by decide +kernel
theorem dX5_readLines_11 : decode cX5_readLines 11 = .ok (.invokevirtual 65, 3) := by decide +kernel
theorem dX5_readLines_14 : decode cX5_readLines 14 = .ok (.sipush 405, 3) := by decide +kernel
theorem dX5_readLines_17 : decode cX5_readLines 17 = .ok (.if_icmp .ne 7, 3) := by decide +kernel
theorem dX5_readLines_20 : decode cX5_readLines 20 = .ok (.iconst 1, 1) := by decide +kernel
theorem dX5_readLines_21 : decode cX5_readLines 21 = .ok (.goto 4, 3) := by decide +kernel
theorem dX5_readLines_24 : decode cX5_readLines 24 = .ok (.iconst 0, 1) := by decide +kernel
theorem dX5_readLines_25 : decode cX5_readLines 25 = .ok (.putfield 69, 3) := by decide +kernel
theorem dX5_readLines_28 : decode cX5_readLines 28 = .ok (.aload_n 0, 1) := by decide +kernel
theorem dX5_readLines_29 : decode cX5_readLines 29 = .ok (.aload_n 0, 1) := by decide +kernel
theorem dX5_readLines_30 : decode cX5_readLines 30 = .ok (.invokevirtual 65, 3) := by decide +kernel
theorem dX5_readLines_33 : decode cX5_readLines 33 = .ok (.sipush 406, 3) := by decide +kernel
theorem dX5_readLines_36 : decode cX5_readLines 36 = .ok (.if_icmp .ne 7, 3) := by decide +kernel
theorem dX5_readLines_39 : decode cX5_readLines 39 = .ok (.iconst 1, 1) := by decide +kernel
theorem dX5_readLines_40 : decode cX5_readLines 40 = .ok (.goto 4, 3) := by decide +kernel
theorem dX5_readLines_43 : decode cX5_readLines 43 = .ok (.iconst 0, 1) := by decide +kernel
theorem dX5_readLines_44 : decode cX5_readLines 44 = .ok (.putfield 73, 3) := by decide +kernel
theorem dX5_readLines_47 : decode cX5_readLines 47 = .ok (.aload_n 0, 1) := by decide +kernel
theorem dX5_readLines_48 : decode cX5_readLines 48 = .ok (.invokevirtual 65, 3) := by decide +kernel
theorem dX5_readLines_51 : decode cX5_readLines 51 = .ok (.tableswitch 101 400 411 #[61, 69, 101, 101, 101, 77, 85, 101, 101, 101, 101, 93], 61) := by decide +kernel
theorem dX5_readLines_112 : decode cX5_readLines 112 = .ok (.aload_n 0, 1) := by decide +kernel
theorem dX5_readLines_113 : decode cX5_readLines 113 = .ok (.invokevirtual 76, 3) := by decide +kernel
theorem dX5_readLines_116 : decode cX5_readLines 116 = .ok (.istore_n 2, 1) := by decide +kernel
theorem dX5_readLines_117 : decode cX5_readLines 117 = .ok (.goto 41, 3) := by decide +kernel
theorem dX5_readLines_120 : decode cX5_readLines 120 = .ok (.aload_n 0, 1) := by decide +kernel
theorem dX5_readLines_121 : decode cX5_readLines 121 = .ok (.invokevirtual 80, 3) := by decide +kernel
theorem dX5_readLines_124 : decode cX5_readLines 124 = .ok (.istore_n 2, 1) := by decide +kernel
theorem dX5_readLines_125 : decode cX5_readLines 125 = .ok (.goto 33, 3) := by decide +kernel
theorem dX5_readLines_128 : decode cX5_readLines 128 = .ok (.aload_n 0, 1) := by decide +kernel
theorem dX5_readLines_129 : decode cX5_readLines 129 = .ok (.invokevirtual 83, 3) := by decide +kernel
theorem dX5_readLines_132 : decode cX5_readLines 132 = .ok (.istore_n 2, 1) := by decide +kernel
theorem dX5_readLines_133 : decode cX5_readLines 133 = .ok (.goto 25, 3) := by decide +kernel
theorem dX5_readLines_136 : decode cX5_readLines 136 = .ok (.aload_n 0, 1) := by decide +kernel
theorem dX5_readLines_137 : decode cX5_readLines 137 = .ok (.invokevirtual 86, 3) := by decide +kernel
theorem dX5_readLines_140 : decode cX5_readLines 140 = .ok (.istore_n 2, 1) := by decide +kernel
theorem dX5_readLines_141 : decode cX5_readLines 141 = .ok (.goto 17, 3) := by decide +kernel
theorem dX5_readLines_144 : decode cX5_readLines 144 = .ok (.aload_n 0, 1) := by decide +kernel
theorem dX5_readLines_145 : decode cX5_readLines 145 = .ok (.invokevirtual 89, 3) := by decide +kernel
theorem dX5_readLines_148 : decode cX5_readLines 148 = .ok (.istore_n 2, 1) := by decide +kernel
theorem dX5_readLines_149 : decode cX5_readLines 149 = .ok (.goto 9, 3) := by decide +kernel
theorem dX5_readLines_152 : decode cX5_readLines 152 = .ok (.aload_n 0, 1) := by decide +kernel
theorem dX5_readLines_153 : decode cX5_readLines 153 = .ok (.iconst 1, 1) := by decide +kernel
theorem dX5_readLines_154 : decode cX5_readLines 154 = .ok (.invokevirtual 92, 3) := by decide +kernel
theorem dX5_readLines_157 : decode cX5_readLines 157 = .ok (.istore_n 2, 1) := by decide +kernel
theorem dX5_readLines_158 : decode cX5_readLines 158 = .ok (.iload_n 2, 1) := by decide +kernel
theorem dX5_readLines_159 : decode cX5_readLines 159 = .ok (.ifCond .ne 5, 3) := by decide +kernel
theorem dX5_readLines_162 : decode cX5_readLines 162 = .ok (.iconst 0, 1) := by decide +kernel
theorem dX5_readLines_163 : decode cX5_readLines 163 = .ok (.ireturn, 1) := by decide +kernel
theorem dX5_readLines_164 : decode cX5_readLines 164 = .ok (.aload_n 0, 1) := by decide +kernel
theorem dX5_readLines_165 : decode cX5_readLines 165 = .ok (.invokevirtual 65, 3) := by decide +kernel
theorem dX5_readLines_168 : decode cX5_readLines 168 = .ok (.sipush 300, 3) := by decide +kernel
theorem dX5_readLines_171 : decode cX5_readLines 171 = .ok (.if_icmp .ne 27, 3) := by decide +kernel
theorem dX5_readLines_174 : decode cX5_readLines 174 = .ok (.aload_n 0, 1) := by decide +kernel
theorem dX5_readLines_175 : decode cX5_readLines 175 = .ok (.getfield 39, 3) := by decide +kernel
theorem dX5_readLines_178 : decode cX5_readLines 178 = .ok (.getfield 96, 3) := by decide +kernel
theorem dX5_readLines_181 : decode cX5_readLines 181 = .ok (.ifCond .gt 11, 3) := by decide +kernel
theorem dX5_readLines_184 : decode cX5_readLines 184 = .ok (.aload_n 0, 1) := by decide +kernel
theorem dX5_readLines_185 : decode cX5_readLines 185 = .ok (.iconst 5, 1) := by decide +kernel
theorem dX5_readLines_186 : decode cX5_readLines 186 = .ok (.invokevirtual 92, 3) := by decide +kernel
theorem dX5_readLines_189 : decode cX5_readLines 189 = .ok (.ifCond .eq 7, 3) := by decide +kernel
theorem dX5_readLines_192 : decode cX5_readLines 192 = .ok (.iconst 1, 1) := by decide +kernel
theorem dX5_readLines_193 : decode cX5_readLines 193 = .ok (.goto 4, 3) := by decide +kernel
theorem dX5_readLines_196 : decode cX5_readLines 196 = .ok (.iconst 0, 1) := by decide +kernel
theorem dX5_readLines_197 : decode cX5_readLines 197 = .ok (.ireturn, 1) := by decide +kernel
theorem dX5_readLines_198 : decode cX5_readLines 198 = .ok (.aload_n 0, 1) := by decide +kernel
theorem dX5_readLines_199 : decode cX5_readLines 199 = .ok (.bipush 59, 2) := by decide +kernel
theorem dX5_readLines_201 : decode cX5_readLines 201 = .ok (.invokevirtual 99, 3) := by decide +kernel
theorem dX5_readLines_204 : decode cX5_readLines 204 = .ok (.ifCond .ne 5, 3) := by decide +kernel
theorem dX5_readLines_207 : decode cX5_readLines 207 = .ok (.iconst 0, 1) := by decide +kernel
theorem dX5_readLines_208 : decode cX5_readLines 208 = .ok (.ireturn, 1) := by decide +kernel
theorem dX5_readLines_209 : decode cX5_readLines 209 = .ok (.iinc 1 1, 3) := by decide +kernel
theorem dX5_readLines_212 : decode cX5_readLines 212 = .ok (.goto (-210), 3) := by decide +kernel
theorem dX5_readLines_215 : decode cX5_readLines 215 = .ok (.aload_n 0, 1) := by decide +kernel
theorem dX5_readLines_216 : decode cX5_readLines 216 = .ok (.iconst 1, 1) := by decide +kernel
theorem dX5_readLines_217 : decode cX5_readLines 217 = .ok (.invokevirtual 92, 3) := by decide +kernel
theorem dX5_readLines_220 : decode cX5_readLines 220 = .ok (.ireturn, 1) := by decide +kernel
theorem okX5_readLines_j192 {E : Ev} {X : Cx} {S : Sh} {Z : Option Nat} {Q : Int32 → Hp → Prop} {h : Hp} (O : Ok E X yX5_readLines cX5_readLines 3 (some .boolean) 47 1752 0 0 (qI S Z Q)) (hw : wX5_readLines_j192 S h Q) : G E X 0 0 S Z h 192 [none, none, none] [] := by
  unfold wX5_readLines_j192 at hw
  refine g_iconst O dX5_readLines_192 kv_1 ?_
  refine g_goto (tgt := 197) O dX5_readLines_193 rfl ?_
  exact g_zreturn O dX5_readLines_197 (by decide) ⟨rfl, rfl, _, rfl, hw⟩
theorem okX5_readLines_j174 {E : Ev} {X : Cx} {S : Sh} {Z : Option Nat} {Q : Int32 → Hp → Prop} {h : Hp} {a0 : Nat} (O : Ok E X yX5_readLines cX5_readLines 3 (some .boolean) 47 1752 0 0 (qI S Z Q)) (hw : wX5_readLines_j174 S h a0 Q) : G E X 0 0 S Z h 174 [some (vr a0), none, none] [] := by
  unfold wX5_readLines_j174 at hw
  refine g_aload_n O dX5_readLines_174 rfl ?_
  obtain ⟨c175, hw⟩ := hw
  refine gf_X5_machine O dX5_readLines_175 fl_X5_39 c175 ?_
  obtain ⟨c178, hw⟩ := hw
  refine gf_X2_variables O dX5_readLines_178 fl_X5_96 c178 ?_
  refine g_if_gt (tgt := 192) O dX5_readLines_181 rfl (fun q181 => ?_) (fun q181 => ?_)
  · have hw := hw.1 q181
    refine g_mask [false, false, false] rfl rfl ?_
    exact okX5_readLines_j192 O hw
  · have hw := hw.2 q181
    refine g_aload_n O dX5_readLines_184 rfl ?_
    refine g_iconst O dX5_readLines_185 kv_5 ?_
    refine g_callV (As := [vi (5 : Int32)]) (rest := []) O ci_5 rfl dX5_readLines_186 ml_X5_92 im_yX5_fail se_yX5_fail ini_X5 co_yX5_fail yo_yX5_fail c175 rfl rfl (Nat.le_of_ble_eq_true rfl) ⟨by decide, by decide, by decide, by decide⟩ (okX5_fail hw) (k_I fun r186 h186 hw => ?_)
    refine g_if_eq (tgt := 196) O dX5_readLines_189 rfl (fun q189 => ?_) (fun q189 => ?_)
    · have hw := hw.1 q189
      refine g_iconst O dX5_readLines_196 kv_0 ?_
      exact g_zreturn O dX5_readLines_197 (by decide) ⟨rfl, rfl, _, rfl, hw⟩
    · have hw := hw.2 q189
      refine g_mask [false, false, false] rfl rfl ?_
      exact okX5_readLines_j192 O hw
theorem okX5_readLines_j158 {E : Ev} {X : Cx} {S : Sh} {Z : Option Nat} {Q : Int32 → Hp → Prop} {B2 : Hp → Int32 → Prop} {h : Hp} {a0 : Nat} {x1 : Int32} {x2 : Int32} (O : Ok E X yX5_readLines cX5_readLines 3 (some .boolean) 47 1752 0 0 (qI S Z Q)) (hB2 : ∀ (h : Hp) (x1 : Int32), B2 h x1 → G E X 0 0 S Z h 2 [some (vr a0), some (vi x1), none] []) (hw : wX5_readLines_j158 S B2 h a0 x1 x2 Q) : G E X 0 0 S Z h 158 [some (vr a0), some (vi x1), some (vi x2)] [] := by
  unfold wX5_readLines_j158 at hw
  refine g_iload_n O dX5_readLines_158 rfl ?_
  refine g_if_ne (tgt := 164) O dX5_readLines_159 rfl (fun q159 => ?_) (fun q159 => ?_)
  · have hw := hw.1 q159
    refine g_aload_n O dX5_readLines_164 rfl ?_
    obtain ⟨c165, hw⟩ := hw
    refine g_callV (As := []) (rest := []) O ci_5 rfl dX5_readLines_165 ml_X5_65 im_yX5_kind se_yX5_kind ini_X5 co_yX5_kind yo_yX5_kind c165 rfl rfl (Nat.le_of_ble_eq_true rfl) ⟨by decide, by decide, by decide, by decide⟩ (okX5_kind hw) (k_I fun r165 h165 hw => ?_)
    refine g_sipush O dX5_readLines_168 ks_300 ?_
    refine g_icmp_ne (tgt := 198) O dX5_readLines_171 rfl (fun q171 => ?_) (fun q171 => ?_)
    · have hw := hw.1 q171
      refine g_aload_n O dX5_readLines_198 rfl ?_
      refine g_bipush O dX5_readLines_199 kb_59 ?_
      refine g_callV (As := [vi (59 : Int32)]) (rest := []) O ci_5 rfl dX5_readLines_201 ml_X5_99 im_yX5_pass se_yX5_pass ini_X5 co_yX5_pass yo_yX5_pass c165 rfl rfl (Nat.le_of_ble_eq_true rfl) ⟨by decide, by decide, by decide, by decide⟩ (okX5_pass hw) (k_I fun r201 h201 hw => ?_)
      refine g_if_ne (tgt := 209) O dX5_readLines_204 rfl (fun q204 => ?_) (fun q204 => ?_)
      · have hw := hw.1 q204
        refine g_iinc (lc' := [some (vr a0), some (vi (x1 + (1 : Int32))), some (vi x2)]) O dX5_readLines_209 rfl kv_1 rfl rfl ?_
        refine g_goto (tgt := 2) O dX5_readLines_212 rfl ?_
        refine g_mask [true, true, false] rfl rfl ?_
        exact hB2 _ _ hw
      · have hw := hw.2 q204
        refine g_iconst O dX5_readLines_207 kv_0 ?_
        exact g_zreturn O dX5_readLines_208 (by decide) ⟨rfl, rfl, _, rfl, hw⟩
    · have hw := hw.2 q171
      refine g_mask [true, false, false] rfl rfl ?_
      exact okX5_readLines_j174 O hw
  · have hw := hw.2 q159
    refine g_iconst O dX5_readLines_162 kv_0 ?_
    exact g_zreturn O dX5_readLines_163 (by decide) ⟨rfl, rfl, _, rfl, hw⟩
theorem okX5_readLines_j152 {E : Ev} {X : Cx} {S : Sh} {Z : Option Nat} {Q : Int32 → Hp → Prop} {B2 : Hp → Int32 → Prop} {h : Hp} {a0 : Nat} {x1 : Int32} (O : Ok E X yX5_readLines cX5_readLines 3 (some .boolean) 47 1752 0 0 (qI S Z Q)) (hB2 : ∀ (h : Hp) (x1 : Int32), B2 h x1 → G E X 0 0 S Z h 2 [some (vr a0), some (vi x1), none] []) (hw : wX5_readLines_j152 S B2 h a0 x1 Q) : G E X 0 0 S Z h 152 [some (vr a0), some (vi x1), none] [] := by
  unfold wX5_readLines_j152 at hw
  refine g_aload_n O dX5_readLines_152 rfl ?_
  refine g_iconst O dX5_readLines_153 kv_1 ?_
  obtain ⟨c154, hw⟩ := hw
  refine g_callV (As := [vi (1 : Int32)]) (rest := []) O ci_5 rfl dX5_readLines_154 ml_X5_92 im_yX5_fail se_yX5_fail ini_X5 co_yX5_fail yo_yX5_fail c154 rfl rfl (Nat.le_of_ble_eq_true rfl) ⟨by decide, by decide, by decide, by decide⟩ (okX5_fail hw) (k_I fun r154 h154 hw => ?_)
  refine g_istore_n (lc' := [some (vr a0), some (vi x1), some (vi r154)]) O dX5_readLines_157 rfl (Nat.le_of_ble_eq_true rfl) rfl ?_
  exact okX5_readLines_j158 O hB2 hw
theorem okX5_readLines_j44 {E : Ev} {X : Cx} {S : Sh} {Z : Option Nat} {Q : Int32 → Hp → Prop} {B2 : Hp → Int32 → Prop} {h : Hp} {a0 : Nat} {x1 : Int32} {s0 : Nat} {s1 : Int32} (O : Ok E X yX5_readLines cX5_readLines 3 (some .boolean) 47 1752 0 0 (qI S Z Q)) (hB2 : ∀ (h : Hp) (x1 : Int32), B2 h x1 → G E X 0 0 S Z h 2 [some (vr a0), some (vi x1), none] []) (hw : wX5_readLines_j44 S B2 h a0 x1 s0 s1 Q) : G E X 0 0 S Z h 44 [some (vr a0), some (vi x1), none] [vi s1, vr s0] := by
  unfold wX5_readLines_j44 at hw
  obtain ⟨c44, hw⟩ := hw
  obtain ⟨c44z, hw⟩ := hw
  refine pf_X5_inEvent O dX5_readLines_44 fl_X5_73 c44 c44z ?_
  refine g_aload_n O dX5_readLines_47 rfl ?_
  obtain ⟨c48, hw⟩ := hw
  refine g_callV (As := []) (rest := []) O ci_5 rfl dX5_readLines_48 ml_X5_65 im_yX5_kind se_yX5_kind ini_X5 co_yX5_kind yo_yX5_kind c48 rfl rfl (Nat.le_of_ble_eq_true rfl) ⟨by decide, by decide, by decide, by decide⟩ (okX5_kind hw) (k_I fun r48 h48 hw => ?_)
  refine g_tsw O dX5_readLines_51 (by decide) (by decide) (fun t51 ht => ?_)
  rcases ht with ⟨hx51, ht⟩ | ⟨hx51, ht⟩
  · obtain rfl : t51 = 112 := by have e : (51 : Int) + (61) = (t51 : Int) := ht; omega
    have hw := hw.1 (Int32.toInt_inj.mp hx51)
    refine g_aload_n O dX5_readLines_112 rfl ?_
    refine g_callV (As := []) (rest := []) O ci_5 rfl dX5_readLines_113 ml_X5_76 im_yX5_readMachine se_yX5_readMachine ini_X5 co_yX5_readMachine yo_yX5_readMachine c48 rfl rfl (Nat.le_of_ble_eq_true rfl) ⟨by decide, by decide, by decide, by decide⟩ (okX5_readMachine hw) (k_I fun r113 h113 hw => ?_)
    refine g_istore_n (lc' := [some (vr a0), some (vi x1), some (vi r113)]) O dX5_readLines_116 rfl (Nat.le_of_ble_eq_true rfl) rfl ?_
    refine g_goto (tgt := 158) O dX5_readLines_117 rfl ?_
    exact okX5_readLines_j158 O hB2 hw
  · have hw := hw.2 (fun q => hx51 (by rw [q]; rfl))
    rcases ht with ⟨hx51, ht⟩ | ⟨hx51, ht⟩
    · obtain rfl : t51 = 120 := by have e : (51 : Int) + (69) = (t51 : Int) := ht; omega
      have hw := hw.1 (Int32.toInt_inj.mp hx51)
      refine g_aload_n O dX5_readLines_120 rfl ?_
      refine g_callV (As := []) (rest := []) O ci_5 rfl dX5_readLines_121 ml_X5_80 im_yX5_readVariable se_yX5_readVariable ini_X5 co_yX5_readVariable yo_yX5_readVariable c48 rfl rfl (Nat.le_of_ble_eq_true rfl) ⟨by decide, by decide, by decide, by decide⟩ (okX5_readVariable hw) (k_I fun r121 h121 hw => ?_)
      refine g_istore_n (lc' := [some (vr a0), some (vi x1), some (vi r121)]) O dX5_readLines_124 rfl (Nat.le_of_ble_eq_true rfl) rfl ?_
      refine g_goto (tgt := 158) O dX5_readLines_125 rfl ?_
      exact okX5_readLines_j158 O hB2 hw
    · have hw := hw.2 (fun q => hx51 (by rw [q]; rfl))
      rcases ht with ⟨hx51, ht⟩ | ⟨hx51, ht⟩
      · obtain rfl : t51 = 152 := by have e : (51 : Int) + (101) = (t51 : Int) := ht; omega
        have hw := hw.1 (Int32.toInt_inj.mp hx51)
        exact okX5_readLines_j152 O hB2 hw
      · have hw := hw.2 (fun q => hx51 (by rw [q]; rfl))
        rcases ht with ⟨hx51, ht⟩ | ⟨hx51, ht⟩
        · obtain rfl : t51 = 152 := by have e : (51 : Int) + (101) = (t51 : Int) := ht; omega
          have hw := hw.1 (Int32.toInt_inj.mp hx51)
          exact okX5_readLines_j152 O hB2 hw
        · have hw := hw.2 (fun q => hx51 (by rw [q]; rfl))
          rcases ht with ⟨hx51, ht⟩ | ⟨hx51, ht⟩
          · obtain rfl : t51 = 152 := by have e : (51 : Int) + (101) = (t51 : Int) := ht; omega
            have hw := hw.1 (Int32.toInt_inj.mp hx51)
            exact okX5_readLines_j152 O hB2 hw
          · have hw := hw.2 (fun q => hx51 (by rw [q]; rfl))
            rcases ht with ⟨hx51, ht⟩ | ⟨hx51, ht⟩
            · obtain rfl : t51 = 128 := by have e : (51 : Int) + (77) = (t51 : Int) := ht; omega
              have hw := hw.1 (Int32.toInt_inj.mp hx51)
              refine g_aload_n O dX5_readLines_128 rfl ?_
              refine g_callV (As := []) (rest := []) O ci_5 rfl dX5_readLines_129 ml_X5_83 im_yX5_readLaw se_yX5_readLaw ini_X5 co_yX5_readLaw yo_yX5_readLaw c48 rfl rfl (Nat.le_of_ble_eq_true rfl) ⟨by decide, by decide, by decide, by decide⟩ (okX5_readLaw hw) (k_I fun r129 h129 hw => ?_)
              refine g_istore_n (lc' := [some (vr a0), some (vi x1), some (vi r129)]) O dX5_readLines_132 rfl (Nat.le_of_ble_eq_true rfl) rfl ?_
              refine g_goto (tgt := 158) O dX5_readLines_133 rfl ?_
              exact okX5_readLines_j158 O hB2 hw
            · have hw := hw.2 (fun q => hx51 (by rw [q]; rfl))
              rcases ht with ⟨hx51, ht⟩ | ⟨hx51, ht⟩
              · obtain rfl : t51 = 136 := by have e : (51 : Int) + (85) = (t51 : Int) := ht; omega
                have hw := hw.1 (Int32.toInt_inj.mp hx51)
                refine g_aload_n O dX5_readLines_136 rfl ?_
                refine g_callV (As := []) (rest := []) O ci_5 rfl dX5_readLines_137 ml_X5_86 im_yX5_readEvent se_yX5_readEvent ini_X5 co_yX5_readEvent yo_yX5_readEvent c48 rfl rfl (Nat.le_of_ble_eq_true rfl) ⟨by decide, by decide, by decide, by decide⟩ (okX5_readEvent hw) (k_I fun r137 h137 hw => ?_)
                refine g_istore_n (lc' := [some (vr a0), some (vi x1), some (vi r137)]) O dX5_readLines_140 rfl (Nat.le_of_ble_eq_true rfl) rfl ?_
                refine g_goto (tgt := 158) O dX5_readLines_141 rfl ?_
                exact okX5_readLines_j158 O hB2 hw
              · have hw := hw.2 (fun q => hx51 (by rw [q]; rfl))
                rcases ht with ⟨hx51, ht⟩ | ⟨hx51, ht⟩
                · obtain rfl : t51 = 152 := by have e : (51 : Int) + (101) = (t51 : Int) := ht; omega
                  have hw := hw.1 (Int32.toInt_inj.mp hx51)
                  exact okX5_readLines_j152 O hB2 hw
                · have hw := hw.2 (fun q => hx51 (by rw [q]; rfl))
                  rcases ht with ⟨hx51, ht⟩ | ⟨hx51, ht⟩
                  · obtain rfl : t51 = 152 := by have e : (51 : Int) + (101) = (t51 : Int) := ht; omega
                    have hw := hw.1 (Int32.toInt_inj.mp hx51)
                    exact okX5_readLines_j152 O hB2 hw
                  · have hw := hw.2 (fun q => hx51 (by rw [q]; rfl))
                    rcases ht with ⟨hx51, ht⟩ | ⟨hx51, ht⟩
                    · obtain rfl : t51 = 152 := by have e : (51 : Int) + (101) = (t51 : Int) := ht; omega
                      have hw := hw.1 (Int32.toInt_inj.mp hx51)
                      exact okX5_readLines_j152 O hB2 hw
                    · have hw := hw.2 (fun q => hx51 (by rw [q]; rfl))
                      rcases ht with ⟨hx51, ht⟩ | ⟨hx51, ht⟩
                      · obtain rfl : t51 = 152 := by have e : (51 : Int) + (101) = (t51 : Int) := ht; omega
                        have hw := hw.1 (Int32.toInt_inj.mp hx51)
                        exact okX5_readLines_j152 O hB2 hw
                      · have hw := hw.2 (fun q => hx51 (by rw [q]; rfl))
                        rcases ht with ⟨hx51, ht⟩ | ⟨hx51, ht⟩
                        · obtain rfl : t51 = 144 := by have e : (51 : Int) + (93) = (t51 : Int) := ht; omega
                          have hw := hw.1 (Int32.toInt_inj.mp hx51)
                          refine g_aload_n O dX5_readLines_144 rfl ?_
                          refine g_callV (As := []) (rest := []) O ci_5 rfl dX5_readLines_145 ml_X5_89 im_yX5_readVariant se_yX5_readVariant ini_X5 co_yX5_readVariant yo_yX5_readVariant c48 rfl rfl (Nat.le_of_ble_eq_true rfl) ⟨by decide, by decide, by decide, by decide⟩ (okX5_readVariant hw) (k_I fun r145 h145 hw => ?_)
                          refine g_istore_n (lc' := [some (vr a0), some (vi x1), some (vi r145)]) O dX5_readLines_148 rfl (Nat.le_of_ble_eq_true rfl) rfl ?_
                          refine g_goto (tgt := 158) O dX5_readLines_149 rfl ?_
                          exact okX5_readLines_j158 O hB2 hw
                        · have hw := hw.2 (fun q => hx51 (by rw [q]; rfl))
                          obtain rfl : t51 = 152 := by have e : (51 : Int) + (101) = (t51 : Int) := ht; omega
                          exact okX5_readLines_j152 O hB2 hw
theorem okX5_readLines_j25 {E : Ev} {X : Cx} {S : Sh} {Z : Option Nat} {Q : Int32 → Hp → Prop} {B2 : Hp → Int32 → Prop} {h : Hp} {a0 : Nat} {x1 : Int32} {s0 : Nat} {s1 : Int32} (O : Ok E X yX5_readLines cX5_readLines 3 (some .boolean) 47 1752 0 0 (qI S Z Q)) (hB2 : ∀ (h : Hp) (x1 : Int32), B2 h x1 → G E X 0 0 S Z h 2 [some (vr a0), some (vi x1), none] []) (hw : wX5_readLines_j25 S B2 h a0 x1 s0 s1 Q) : G E X 0 0 S Z h 25 [some (vr a0), some (vi x1), none] [vi s1, vr s0] := by
  unfold wX5_readLines_j25 at hw
  obtain ⟨c25, hw⟩ := hw
  obtain ⟨c25z, hw⟩ := hw
  refine pf_X5_inLaw O dX5_readLines_25 fl_X5_69 c25 c25z ?_
  refine g_aload_n O dX5_readLines_28 rfl ?_
  refine g_aload_n O dX5_readLines_29 rfl ?_
  obtain ⟨c30, hw⟩ := hw
  refine g_callV (As := []) (rest := [vr a0]) O ci_5 rfl dX5_readLines_30 ml_X5_65 im_yX5_kind se_yX5_kind ini_X5 co_yX5_kind yo_yX5_kind c30 rfl rfl (Nat.le_of_ble_eq_true rfl) ⟨by decide, by decide, by decide, by decide⟩ (okX5_kind hw) (k_I fun r30 h30 hw => ?_)
  refine g_sipush O dX5_readLines_33 ks_406 ?_
  refine g_icmp_ne (tgt := 43) O dX5_readLines_36 rfl (fun q36 => ?_) (fun q36 => ?_)
  · have hw := hw.1 q36
    refine g_iconst O dX5_readLines_43 kv_0 ?_
    exact okX5_readLines_j44 O hB2 hw
  · have hw := hw.2 q36
    refine g_iconst O dX5_readLines_39 kv_1 ?_
    refine g_goto (tgt := 44) O dX5_readLines_40 rfl ?_
    exact okX5_readLines_j44 O hB2 hw
theorem okX5_readLines_2 {E : Ev} {X : Cx} {S : Sh} {Z : Option Nat} {Q : Int32 → Hp → Prop} {a0 : Nat} (O : Ok E X yX5_readLines cX5_readLines 3 (some .boolean) 47 1752 0 0 (qI S Z Q)) : ∀ (n : Nat) (h : Hp) (x1 : Int32), wX5_readLines_2 S a0 Q n h x1 → G E X 0 0 S Z h 2 [some (vr a0), some (vi x1), none] [] := by
  intro n
  induction n with
  | zero => intro h x1 hw; exact hw.elim
  | succ n hB2 =>
    intro h x1 hw
    have hw : wX5_readLines_2b S a0 Q (wX5_readLines_2 S a0 Q n) h x1 := hw
    unfold wX5_readLines_2b at hw
    refine g_iload_n O dX5_readLines_2 rfl ?_
    refine g_sipush O dX5_readLines_3 ks_600 ?_
    refine g_icmp_gt (tgt := 215) O dX5_readLines_6 rfl (fun q6 => ?_) (fun q6 => ?_)
    · have hw := hw.1 q6
      refine g_aload_n O dX5_readLines_215 rfl ?_
      refine g_iconst O dX5_readLines_216 kv_1 ?_
      obtain ⟨c217, hw⟩ := hw
      refine g_callV (As := [vi (1 : Int32)]) (rest := []) O ci_5 rfl dX5_readLines_217 ml_X5_92 im_yX5_fail se_yX5_fail ini_X5 co_yX5_fail yo_yX5_fail c217 rfl rfl (Nat.le_of_ble_eq_true rfl) ⟨by decide, by decide, by decide, by decide⟩ (okX5_fail hw) (k_I fun r217 h217 hw => ?_)
      obtain ⟨c220z, hw⟩ := hw
      exact g_zreturn O dX5_readLines_220 c220z ⟨rfl, rfl, _, rfl, hw⟩
    · have hw := hw.2 q6
      refine g_aload_n O dX5_readLines_9 rfl ?_
      refine g_aload_n O dX5_readLines_10 rfl ?_
      obtain ⟨c11, hw⟩ := hw
      refine g_callV (As := []) (rest := [vr a0]) O ci_5 rfl dX5_readLines_11 ml_X5_65 im_yX5_kind se_yX5_kind ini_X5 co_yX5_kind yo_yX5_kind c11 rfl rfl (Nat.le_of_ble_eq_true rfl) ⟨by decide, by decide, by decide, by decide⟩ (okX5_kind hw) (k_I fun r11 h11 hw => ?_)
      refine g_sipush O dX5_readLines_14 ks_405 ?_
      refine g_icmp_ne (tgt := 24) O dX5_readLines_17 rfl (fun q17 => ?_) (fun q17 => ?_)
      · have hw := hw.1 q17
        refine g_iconst O dX5_readLines_24 kv_0 ?_
        exact okX5_readLines_j25 O hB2 hw
      · have hw := hw.2 q17
        refine g_iconst O dX5_readLines_20 kv_1 ?_
        refine g_goto (tgt := 25) O dX5_readLines_21 rfl ?_
        exact okX5_readLines_j25 O hB2 hw
theorem okX5_readLines {E : Ev} {S : Sh} {Z : Option Nat} {Q : Int32 → Hp → Prop} {h : Hp} {a0 : Nat} (hw : wX5_readLines S h a0 Q) : Ct E yX5_readLines cX5_readLines 3 (some .boolean) 47 1752 0 0 S Z h [vr a0] (qI S Z Q) := by
  refine Ct.of (by decide) (lc := [some (vr a0), none, none]) (Nat.le_of_ble_eq_true rfl) rfl (fun X O => ?_)
  unfold wX5_readLines at hw
  refine g_iconst O dX5_readLines_0 kv_0 ?_
  refine g_istore_n (lc' := [some (vr a0), some (vi (0 : Int32)), none]) O dX5_readLines_1 rfl (Nat.le_of_ble_eq_true rfl) rfl ?_
  obtain ⟨n2, hw⟩ := hw
  exact okX5_readLines_2 O n2 _ _ hw
