theorem dX12_machines_0 : decode cX12_machines 0 = .ok (.aload_n 0, 1) := by decide +kernel
theorem dX12_machines_1 : decode cX12_machines 1 = .ok (.iconst 0, 1) := by decide +kernel
theorem dX12_machines_2 : decode cX12_machines 2 = .ok (.putfield 121, 3) := by decide +kernel
theorem dX12_machines_5 : decode cX12_machines 5 = .ok (.iload_n 1, 1) := by decide +kernel
theorem dX12_machines_6 : decode cX12_machines 6 = .ok (.iconst 0, 1) := by decide +kernel
theorem dX12_machines_7 : decode cX12_machines 7 = .ok (.aload_n 0, 1) := by decide +kernel
theorem dX12_machines_8 : decode cX12_machines 8 = .ok (.getfield 127, 3) := by decide +kernel
theorem dX12_machines_11 : decode cX12_machines 11 = .ok (.invokestatic 142, 3) := by decide +kernel
theorem dX12_machines_14 : decode cX12_machines 14 = .ok (.ifCond .ne 9, 3) := by decide +kernel
theorem dX12_machines_17 : decode cX12_machines 17 = .ok (.aload_n 0, 1) := by decide +kernel
theorem dX12_machines_18 : decode cX12_machines 18 = .ok (.iconst 2, 1) := by decide +kernel
theorem dX12_machines_19 : decode cX12_machines 19 = .ok (.invokevirtual 350, 3) := by decide +kernel
theorem dX12_machines_22 : decode cX12_machines 22 = .ok (.ireturn, 1) := by decide +kernel
theorem dX12_machines_23 : decode cX12_machines 23 = .ok (.aload_n 0, 1) := by decide +kernel
theorem dX12_machines_24 : decode cX12_machines 24 = .ok (.iload_n 1, 1) := by decide +kernel
theorem dX12_machines_25 : decode cX12_machines 25 = .ok (.putfield 139, 3) := by decide +kernel
theorem dX12_machines_28 : decode cX12_machines 28 = .ok (.aload_n 0, 1) := by decide +kernel
theorem dX12_machines_29 : decode cX12_machines 29 = .ok (.iconst 0, 1) := by decide +kernel
theorem dX12_machines_30 : decode cX12_machines 30 = .ok (.putfield 127, 3) := by decide +kernel
theorem dX12_machines_33 : decode cX12_machines 33 = .ok (.aload_n 0, 1) := by decide +kernel
theorem dX12_machines_34 : decode cX12_machines 34 = .ok (.iconst 0, 1) := by decide +kernel
theorem dX12_machines_35 : decode cX12_machines 35 = .ok (.putfield 146, 3) := by decide +kernel
theorem dX12_machines_38 : decode cX12_machines 38 = .ok (.aload_n 0, 1) := by decide +kernel
theorem dX12_machines_39 : decode cX12_machines 39 = .ok (.iconst 0, 1) := by decide +kernel
theorem dX12_machines_40 : decode cX12_machines 40 = .ok (.putfield 130, 3) := by decide +kernel
theorem dX12_machines_43 : decode cX12_machines 43 = .ok (.aload_n 0, 1) := by decide +kernel
theorem dX12_machines_44 : decode cX12_machines 44 = .ok (.invokevirtual 353, 3) := by decide +kernel
theorem dX12_machines_47 : decode cX12_machines 47 = .ok (.aload_n 0, 1) := by decide +kernel
theorem dX12_machines_48 : decode cX12_machines 48 = .ok (.getfield 130, 3) := by decide +kernel
theorem dX12_machines_51 : decode cX12_machines 51 = .ok (.ifCond .le 18, 3) := by decide +kernel
theorem dX12_machines_54 : decode cX12_machines 54 = .ok (.aload_n 0, 1) := by decide +kernel
theorem dX12_machines_55 : decode cX12_machines 55 = .ok (.iconst 4, 1) := by decide +kernel
theorem dX12_machines_56 : decode cX12_machines 56 = .ok (.putfield 124, 3) := by decide +kernel
theorem dX12_machines_59 : decode cX12_machines 59 = .ok (.aload_n 0, 1) := by decide +kernel
theorem dX12_machines_60 : decode cX12_machines 60 = .ok (.aload_n 0, 1) := by decide +kernel
theorem dX12_machines_61 : decode cX12_machines 61 = .ok (.getfield 136, 3) := by decide +kernel
theorem dX12_machines_64 : decode cX12_machines 64 = .ok (.putfield 9, 3) := by decide +kernel
theorem dX12_machines_67 : decode cX12_machines 67 = .ok (.iconst (-1), 1) := by decide +kernel
theorem dX12_machines_68 : decode cX12_machines 68 = .ok (.ireturn, 1) := by decide +kernel
theorem dX12_machines_69 : decode cX12_machines 69 = .ok (.aload_n 0, 1) := by decide +kernel
theorem dX12_machines_70 : decode cX12_machines 70 = .ok (.invokevirtual 356, 3) := by decide +kernel
theorem dX12_machines_73 : decode cX12_machines 73 = .ok (.iconst 0, 1) := by decide +kernel
theorem dX12_machines_74 : decode cX12_machines 74 = .ok (.istore_n 2, 1) := by decide +kernel
theorem dX12_machines_75 : decode cX12_machines 75 = .ok (.iload_n 2, 1) := by decide +kernel
theorem dX12_machines_76 : decode cX12_machines 76 = .ok (.aload_n 0, 1) := by decide +kernel
theorem dX12_machines_77 : decode cX12_machines 77 = .ok (.getfield 347, 3) := by decide +kernel
theorem dX12_machines_80 : decode cX12_machines 80 = .ok (.if_icmp .ge 14, 3) := by decide +kernel
theorem dX12_machines_83 : decode cX12_machines 83 = .ok (.aload_n 0, 1) := by decide +kernel
theorem dX12_machines_84 : decode cX12_machines 84 = .ok (.iload_n 2, 1) := by decide +kernel
theorem dX12_machines_85 : decode cX12_machines 85 = .ok (.invokevirtual 359, 3) := by decide +kernel
theorem dX12_machines_88 : decode cX12_machines 88 = .ok (.iinc 2 1, 3) := by decide +kernel
theorem dX12_machines_91 : decode cX12_machines 91 = .ok (.goto (-16), 3) := by decide +kernel
theorem dX12_machines_94 : decode cX12_machines 94 = .ok (.aload_n 0, 1) := by decide +kernel
theorem dX12_machines_95 : decode cX12_machines 95 = .ok (.iconst (-1), 1) := by decide +kernel
theorem dX12_machines_96 : decode cX12_machines 96 = .ok (.putfield 106, 3) := by decide +kernel
theorem dX12_machines_99 : decode cX12_machines 99 = .ok (.aload_n 0, 1) := by decide +kernel
theorem dX12_machines_100 : decode cX12_machines 100 = .ok (.iconst 0, 1) := by decide +kernel
theorem dX12_machines_101 : decode cX12_machines 101 = .ok (.putfield 362, 3) := by decide +kernel
theorem dX12_machines_104 : decode cX12_machines 104 = .ok (.aload_n 0, 1) := by decide +kernel
theorem dX12_machines_105 : decode cX12_machines 105 = .ok (.aload_n 0, 1) := by decide +kernel
theorem dX12_machines_106 : decode cX12_machines 106 = .ok (.getfield 347, 3) := by decide +kernel
theorem dX12_machines_109 : decode cX12_machines 109 = .ok (.invokevirtual 365, 3) := by decide +kernel
theorem dX12_machines_112 : decode cX12_machines 112 = .ok (.ireturn, 1) := by decide +kernel
theorem okX12_machines_j94 {E : Ev} {X : Cx} {S : Sh} {Z : Option Nat} {Q : Int32 → Hp → Prop} {h : Hp} {a0 : Nat} (O : Ok E X yX12_machines cX12_machines 3 (some .int) 76 2882 0 0 (qI S Z Q)) (hw : wX12_machines_j94 S (fun i => E.2.2.2.2.1 i + 1) h a0 Q) : G E X 0 0 S Z h 94 [some (vr a0), none, none] [] := by
  unfold wX12_machines_j94 at hw
  refine g_aload_n O dX12_machines_94 rfl ?_
  refine g_iconst O dX12_machines_95 kv_m1 ?_
  obtain ⟨c96, hw⟩ := hw
  refine pf_X12_runOf O dX12_machines_96 fl_X12_106 c96 ?_
  refine g_nmH (fun h96 e96 => ?_)
  have hw := hw h96 e96
  refine g_aload_n O dX12_machines_99 rfl ?_
  refine g_iconst O dX12_machines_100 kv_0 ?_
  refine pf_X12_isShown O dX12_machines_101 fl_X12_362 c96 (by decide) ?_
  refine g_nmH (fun h101 e101 => ?_)
  have hw := hw h101 e101
  refine g_aload_n O dX12_machines_104 rfl ?_
  refine g_aload_n O dX12_machines_105 rfl ?_
  refine gf_X12_machineMany O dX12_machines_106 fl_X12_347 c96 ?_
  refine g_callV (As := [vi (gI h101 a0 37)]) (rest := []) O ci_12 rfl dX12_machines_109 ml_X12_365 im_yX12_good se_yX12_good ini_X12 co_yX12_good yo_yX12_good c96 rfl rfl (Nat.le_of_ble_eq_true rfl) ⟨by decide, by decide, by decide, by decide⟩ (okX12_good hw) (k_I fun r109 h109 hw => ?_)
  exact g_ireturn O dX12_machines_112 ⟨rfl, rfl, _, rfl, hw⟩
theorem okX12_machines_75 {E : Ev} {X : Cx} {S : Sh} {Z : Option Nat} {Q : Int32 → Hp → Prop} {a0 : Nat} (O : Ok E X yX12_machines cX12_machines 3 (some .int) 76 2882 0 0 (qI S Z Q)) : ∀ (n : Nat) (h : Hp) (x2 : Int32), wX12_machines_75 S (fun i => E.2.2.2.2.1 i + 1) a0 Q n h x2 → G E X 0 0 S Z h 75 [some (vr a0), none, some (vi x2)] [] := by
  intro n
  induction n with
  | zero => intro h x2 hw; exact hw.elim
  | succ n hB75 =>
    intro h x2 hw
    have hw : wX12_machines_75b S (fun i => E.2.2.2.2.1 i + 1) a0 Q (wX12_machines_75 S (fun i => E.2.2.2.2.1 i + 1) a0 Q n) h x2 := hw
    unfold wX12_machines_75b at hw
    refine g_iload_n O dX12_machines_75 rfl ?_
    refine g_aload_n O dX12_machines_76 rfl ?_
    obtain ⟨c77, hw⟩ := hw
    refine gf_X12_machineMany O dX12_machines_77 fl_X12_347 c77 ?_
    refine g_icmp_ge (tgt := 94) O dX12_machines_80 rfl (fun q80 => ?_) (fun q80 => ?_)
    · have hw := hw.1 q80
      refine g_mask [true, false, false] rfl rfl ?_
      exact okX12_machines_j94 O hw
    · have hw := hw.2 q80
      refine g_aload_n O dX12_machines_83 rfl ?_
      refine g_iload_n O dX12_machines_84 rfl ?_
      refine g_callV (As := [vi x2]) (rest := []) O ci_12 rfl dX12_machines_85 ml_X12_359 im_yX12_glues se_yX12_glues ini_X12 co_yX12_glues yo_yX12_glues c77 rfl rfl (Nat.le_of_ble_eq_true rfl) ⟨by decide, by decide, by decide, by decide⟩ (okX12_glues hw) (k_V fun h85 hw => ?_)
      refine g_iinc (lc' := [some (vr a0), none, some (vi (x2 + (1 : Int32)))]) O dX12_machines_88 rfl kv_1 rfl rfl ?_
      refine g_goto (tgt := 75) O dX12_machines_91 rfl ?_
      exact hB75 _ _ hw
theorem okX12_machines {E : Ev} {S : Sh} {Z : Option Nat} {Q : Int32 → Hp → Prop} {h : Hp} {a0 : Nat} {x1 : Int32} (hw : wX12_machines S (fun i => E.2.2.2.2.1 i + 1) h a0 x1 Q) : Ct E yX12_machines cX12_machines 3 (some .int) 76 2882 0 0 S Z h [vr a0, vi x1] (qI S Z Q) := by
  refine Ct.of (by decide) (lc := [some (vr a0), some (vi x1), none]) (Nat.le_of_ble_eq_true rfl) rfl (fun X O => ?_)
  unfold wX12_machines at hw
  refine g_aload_n O dX12_machines_0 rfl ?_
  refine g_iconst O dX12_machines_1 kv_0 ?_
  obtain ⟨c2, hw⟩ := hw
  refine pf_X12_thrown O dX12_machines_2 fl_X12_121 c2 ?_
  refine g_nmH (fun h2 e2 => ?_)
  have hw := hw h2 e2
  refine g_iload_n O dX12_machines_5 rfl ?_
  refine g_iconst O dX12_machines_6 kv_0 ?_
  refine g_aload_n O dX12_machines_7 rfl ?_
  refine gf_X12_taped O dX12_machines_8 fl_X12_127 c2 ?_
  refine g_callS (As := [vi x1, vi (0 : Int32), vi (gI h2 a0 4)]) (rest := []) O dX12_machines_11 ml_X12_142 st_yX12_in ini_X12 co_yX12_in yo_yX12_in rfl rfl (Nat.le_of_ble_eq_true rfl) ⟨by decide, by decide, by decide, by decide⟩ (okX12_in hw) (k_I fun r11 h11 hw => ?_)
  refine g_if_ne (tgt := 23) O dX12_machines_14 rfl (fun q14 => ?_) (fun q14 => ?_)
  · have hw := hw.1 q14
    refine g_aload_n O dX12_machines_23 rfl ?_
    refine g_iload_n O dX12_machines_24 rfl ?_
    refine pf_X12_size O dX12_machines_25 fl_X12_139 c2 ?_
    refine g_nmH (fun h25 e25 => ?_)
    have hw := hw h25 e25
    refine g_aload_n O dX12_machines_28 rfl ?_
    refine g_iconst O dX12_machines_29 kv_0 ?_
    refine pf_X12_taped O dX12_machines_30 fl_X12_127 c2 ?_
    refine g_nmH (fun h30 e30 => ?_)
    have hw := hw h30 e30
    refine g_aload_n O dX12_machines_33 rfl ?_
    refine g_iconst O dX12_machines_34 kv_0 ?_
    refine pf_X12_spot O dX12_machines_35 fl_X12_146 c2 ?_
    refine g_nmH (fun h35 e35 => ?_)
    have hw := hw h35 e35
    refine g_aload_n O dX12_machines_38 rfl ?_
    refine g_iconst O dX12_machines_39 kv_0 ?_
    refine pf_X12_fault O dX12_machines_40 fl_X12_130 c2 ?_
    refine g_aload_n O dX12_machines_43 rfl ?_
    refine g_callV (As := []) (rest := []) O ci_12 rfl dX12_machines_44 ml_X12_353 im_yX12_readAll se_yX12_readAll ini_X12 co_yX12_readAll yo_yX12_readAll c2 rfl rfl (Nat.le_of_ble_eq_true rfl) ⟨by decide, by decide, by decide, by decide⟩ (okX12_readAll hw) (k_V fun h44 hw => ?_)
    refine g_aload_n O dX12_machines_47 rfl ?_
    refine gf_X12_fault O dX12_machines_48 fl_X12_130 c2 ?_
    refine g_if_le (tgt := 69) O dX12_machines_51 rfl (fun q51 => ?_) (fun q51 => ?_)
    · have hw := hw.1 q51
      refine g_aload_n O dX12_machines_69 rfl ?_
      refine g_callV (As := []) (rest := []) O ci_12 rfl dX12_machines_70 ml_X12_356 im_yX12_holds se_yX12_holds ini_X12 co_yX12_holds yo_yX12_holds c2 rfl rfl (Nat.le_of_ble_eq_true rfl) ⟨by decide, by decide, by decide, by decide⟩ (okX12_holds hw) (k_V fun h70 hw => ?_)
      refine g_iconst O dX12_machines_73 kv_0 ?_
      refine g_istore_n (lc' := [some (vr a0), some (vi x1), some (vi (0 : Int32))]) O dX12_machines_74 rfl (Nat.le_of_ble_eq_true rfl) rfl ?_
      refine g_mask [true, false, true] rfl rfl ?_
      obtain ⟨n75, hw⟩ := hw
      exact okX12_machines_75 O n75 _ _ hw
    · have hw := hw.2 q51
      refine g_aload_n O dX12_machines_54 rfl ?_
      refine g_iconst O dX12_machines_55 kv_4 ?_
      refine pf_X12_trouble O dX12_machines_56 fl_X12_124 c2 ?_
      refine g_nmH (fun h56 e56 => ?_)
      have hw := hw h56 e56
      refine g_aload_n O dX12_machines_59 rfl ?_
      refine g_aload_n O dX12_machines_60 rfl ?_
      refine gf_X12_faultAt O dX12_machines_61 fl_X12_136 c2 ?_
      refine pf_X12_wrongAt O dX12_machines_64 fl_X12_9 c2 ?_
      refine g_iconst O dX12_machines_67 kv_m1 ?_
      exact g_ireturn O dX12_machines_68 ⟨rfl, rfl, _, rfl, hw⟩
  · have hw := hw.2 q14
    refine g_aload_n O dX12_machines_17 rfl ?_
    refine g_iconst O dX12_machines_18 kv_2 ?_
    refine g_callV (As := [vi (2 : Int32)]) (rest := []) O ci_12 rfl dX12_machines_19 ml_X12_350 im_yX12_refused se_yX12_refused ini_X12 co_yX12_refused yo_yX12_refused c2 rfl rfl (Nat.le_of_ble_eq_true rfl) ⟨by decide, by decide, by decide, by decide⟩ (okX12_refused hw) (k_I fun r19 h19 hw => ?_)
    exact g_ireturn O dX12_machines_22 ⟨rfl, rfl, _, rfl, hw⟩
theorem dX12_now_0 : decode cX12_now 0 = .ok (.aload_n 0, 1) := by decide +kernel
theorem dX12_now_1 : decode cX12_now 1 = .ok (.iconst 0, 1) := by decide +kernel
theorem dX12_now_2 : decode cX12_now 2 = .ok (.putfield 121, 3) := by decide +kernel
theorem dX12_now_5 : decode cX12_now 5 = .ok (.aload_n 0, 1) := by decide +kernel
theorem dX12_now_6 : decode cX12_now 6 = .ok (.getfield 106, 3) := by decide +kernel
theorem dX12_now_9 : decode cX12_now 9 = .ok (.iconst (-1), 1) := by decide +kernel
theorem dX12_now_10 : decode cX12_now 10 = .ok (.if_icmp .ne 9, 3) := by decide +kernel
theorem dX12_now_13 : decode cX12_now 13 = .ok (.aload_n 0, 1) := by decide +kernel
theorem dX12_now_14 : decode cX12_now 14 = .ok (.iconst 1, 1) := by decide +kernel
theorem dX12_now_15 : decode cX12_now 15 = .ok (.invokevirtual 350, 3) := by decide +kernel
theorem dX12_now_18 : decode cX12_now 18 = .ok (.ireturn, 1) := by decide +kernel
theorem dX12_now_19 : decode cX12_now 19 = .ok (.iload_n 1, 1) := by decide +kernel
theorem dX12_now_20 : decode cX12_now 20 = .ok (.tableswitch 81 0 4 #[36, 45, 54, 63, 72], 36) := by decide +kernel
theorem dX12_now_56 : decode cX12_now 56 = .ok (.aload_n 0, 1) := by decide +kernel
theorem dX12_now_57 : decode cX12_now 57 = .ok (.aload_n 0, 1) := by decide +kernel
theorem dX12_now_58 : decode cX12_now 58 = .ok (.getfield 106, 3) := by decide +kernel
theorem dX12_now_61 : decode cX12_now 61 = .ok (.invokevirtual 365, 3) := by decide +kernel
theorem dX12_now_64 : decode cX12_now 64 = .ok (.ireturn, 1) := by decide +kernel
theorem dX12_now_65 : decode cX12_now 65 = .ok (.aload_n 0, 1) := by decide +kernel
theorem dX12_now_66 : decode cX12_now 66 = .ok (.aload_n 0, 1) := by decide +kernel
theorem dX12_now_67 : decode cX12_now 67 = .ok (.getfield 473, 3) := by decide +kernel
theorem dX12_now_70 : decode cX12_now 70 = .ok (.invokevirtual 365, 3) := by decide +kernel
theorem dX12_now_73 : decode cX12_now 73 = .ok (.ireturn, 1) := by decide +kernel
theorem dX12_now_74 : decode cX12_now 74 = .ok (.aload_n 0, 1) := by decide +kernel
theorem dX12_now_75 : decode cX12_now 75 = .ok (.aload_n 0, 1) := by decide +kernel
theorem dX12_now_76 : decode cX12_now 76 = .ok (.getfield 476, 3) := by decide +kernel
theorem dX12_now_79 : decode cX12_now 79 = .ok (.invokevirtual 365, 3) := by decide +kernel
theorem dX12_now_82 : decode cX12_now 82 = .ok (.ireturn, 1) := by decide +kernel
theorem dX12_now_83 : decode cX12_now 83 = .ok (.aload_n 0, 1) := by decide +kernel
theorem dX12_now_84 : decode cX12_now 84 = .ok (.aload_n 0, 1) := by decide +kernel
theorem dX12_now_85 : decode cX12_now 85 = .ok (.invokevirtual 488, 3) := by decide +kernel
theorem dX12_now_88 : decode cX12_now 88 = .ok (.invokevirtual 365, 3) := by decide +kernel
theorem dX12_now_91 : decode cX12_now 91 = .ok (.ireturn, 1) := by decide +kernel
theorem dX12_now_92 : decode cX12_now 92 = .ok (.aload_n 0, 1) := by decide +kernel
theorem dX12_now_93 : decode cX12_now 93 = .ok (.aload_n 0, 1) := by decide +kernel
theorem dX12_now_94 : decode cX12_now 94 = .ok (.invokevirtual 491, 3) := by decide +kernel
theorem dX12_now_97 : decode cX12_now 97 = .ok (.invokevirtual 365, 3) := by decide +kernel
theorem dX12_now_100 : decode cX12_now 100 = .ok (.ireturn, 1) := by decide +kernel
theorem dX12_now_101 : decode cX12_now 101 = .ok (.aload_n 0, 1) := by decide +kernel
theorem dX12_now_102 : decode cX12_now 102 = .ok (.iconst 1, 1) := by decide +kernel
theorem dX12_now_103 : decode cX12_now 103 = .ok (.invokevirtual 350, 3) := by decide +kernel
theorem dX12_now_106 : decode cX12_now 106 = .ok (.ireturn, 1) := by decide +kernel
theorem okX12_now {E : Ev} {S : Sh} {Z : Option Nat} {Q : Int32 → Hp → Prop} {h : Hp} {a0 : Nat} {x1 : Int32} (hw : wX12_now S h a0 x1 Q) : Ct E yX12_now cX12_now 2 (some .int) 6 158 0 0 S Z h [vr a0, vi x1] (qI S Z Q) := by
  refine Ct.of (by decide) (lc := [some (vr a0), some (vi x1)]) (Nat.le_of_ble_eq_true rfl) rfl (fun X O => ?_)
  unfold wX12_now at hw
  refine g_aload_n O dX12_now_0 rfl ?_
  refine g_iconst O dX12_now_1 kv_0 ?_
  obtain ⟨c2, hw⟩ := hw
  refine pf_X12_thrown O dX12_now_2 fl_X12_121 c2 ?_
  refine g_nmH (fun h2 e2 => ?_)
  have hw := hw h2 e2
  refine g_aload_n O dX12_now_5 rfl ?_
  refine gf_X12_runOf O dX12_now_6 fl_X12_106 c2 ?_
  refine g_iconst O dX12_now_9 kv_m1 ?_
  refine g_icmp_ne (tgt := 19) O dX12_now_10 rfl (fun q10 => ?_) (fun q10 => ?_)
  · have hw := hw.1 q10
    refine g_iload_n O dX12_now_19 rfl ?_
    refine g_tsw O dX12_now_20 (by decide) (by decide) (fun t20 ht => ?_)
    rcases ht with ⟨hx20, ht⟩ | ⟨hx20, ht⟩
    · obtain rfl : t20 = 56 := by have e : (20 : Int) + (36) = (t20 : Int) := ht; omega
      have hw := hw.1 (Int32.toInt_inj.mp hx20)
      refine g_aload_n O dX12_now_56 rfl ?_
      refine g_aload_n O dX12_now_57 rfl ?_
      refine gf_X12_runOf O dX12_now_58 fl_X12_106 c2 ?_
      refine g_callV (As := [vi (gI h2 a0 56)]) (rest := []) O ci_12 rfl dX12_now_61 ml_X12_365 im_yX12_good se_yX12_good ini_X12 co_yX12_good yo_yX12_good c2 rfl rfl (Nat.le_of_ble_eq_true rfl) ⟨by decide, by decide, by decide, by decide⟩ (okX12_good hw) (k_I fun r61 h61 hw => ?_)
      exact g_ireturn O dX12_now_64 ⟨rfl, rfl, _, rfl, hw⟩
    · have hw := hw.2 (fun q => hx20 (by rw [q]; rfl))
      rcases ht with ⟨hx20, ht⟩ | ⟨hx20, ht⟩
      · obtain rfl : t20 = 65 := by have e : (20 : Int) + (45) = (t20 : Int) := ht; omega
        have hw := hw.1 (Int32.toInt_inj.mp hx20)
        refine g_aload_n O dX12_now_65 rfl ?_
        refine g_aload_n O dX12_now_66 rfl ?_
        refine gf_X12_runState O dX12_now_67 fl_X12_473 c2 ?_
        refine g_callV (As := [vi (gI h2 a0 57)]) (rest := []) O ci_12 rfl dX12_now_70 ml_X12_365 im_yX12_good se_yX12_good ini_X12 co_yX12_good yo_yX12_good c2 rfl rfl (Nat.le_of_ble_eq_true rfl) ⟨by decide, by decide, by decide, by decide⟩ (okX12_good hw) (k_I fun r70 h70 hw => ?_)
        exact g_ireturn O dX12_now_73 ⟨rfl, rfl, _, rfl, hw⟩
      · have hw := hw.2 (fun q => hx20 (by rw [q]; rfl))
        rcases ht with ⟨hx20, ht⟩ | ⟨hx20, ht⟩
        · obtain rfl : t20 = 74 := by have e : (20 : Int) + (54) = (t20 : Int) := ht; omega
          have hw := hw.1 (Int32.toInt_inj.mp hx20)
          refine g_aload_n O dX12_now_74 rfl ?_
          refine g_aload_n O dX12_now_75 rfl ?_
          refine gf_X12_runMany O dX12_now_76 fl_X12_476 c2 ?_
          refine g_callV (As := [vi (gI h2 a0 58)]) (rest := []) O ci_12 rfl dX12_now_79 ml_X12_365 im_yX12_good se_yX12_good ini_X12 co_yX12_good yo_yX12_good c2 rfl rfl (Nat.le_of_ble_eq_true rfl) ⟨by decide, by decide, by decide, by decide⟩ (okX12_good hw) (k_I fun r79 h79 hw => ?_)
          exact g_ireturn O dX12_now_82 ⟨rfl, rfl, _, rfl, hw⟩
        · have hw := hw.2 (fun q => hx20 (by rw [q]; rfl))
          rcases ht with ⟨hx20, ht⟩ | ⟨hx20, ht⟩
          · obtain rfl : t20 = 83 := by have e : (20 : Int) + (63) = (t20 : Int) := ht; omega
            have hw := hw.1 (Int32.toInt_inj.mp hx20)
            refine g_aload_n O dX12_now_83 rfl ?_
            refine g_aload_n O dX12_now_84 rfl ?_
            refine g_callV (As := []) (rest := [vr a0]) O ci_12 rfl dX12_now_85 ml_X12_488 im_yX12_besideMany se_yX12_besideMany ini_X12 co_yX12_besideMany yo_yX12_besideMany c2 rfl rfl (Nat.le_of_ble_eq_true rfl) ⟨by decide, by decide, by decide, by decide⟩ (okX12_besideMany hw) (k_I fun r85 h85 hw => ?_)
            refine g_callV (As := [vi r85]) (rest := []) O ci_12 rfl dX12_now_88 ml_X12_365 im_yX12_good se_yX12_good ini_X12 co_yX12_good yo_yX12_good c2 rfl rfl (Nat.le_of_ble_eq_true rfl) ⟨by decide, by decide, by decide, by decide⟩ (okX12_good hw) (k_I fun r88 h88 hw => ?_)
            exact g_ireturn O dX12_now_91 ⟨rfl, rfl, _, rfl, hw⟩
          · have hw := hw.2 (fun q => hx20 (by rw [q]; rfl))
            rcases ht with ⟨hx20, ht⟩ | ⟨hx20, ht⟩
            · obtain rfl : t20 = 92 := by have e : (20 : Int) + (72) = (t20 : Int) := ht; omega
              have hw := hw.1 (Int32.toInt_inj.mp hx20)
              refine g_aload_n O dX12_now_92 rfl ?_
              refine g_aload_n O dX12_now_93 rfl ?_
              refine g_callV (As := []) (rest := [vr a0]) O ci_12 rfl dX12_now_94 ml_X12_491 im_yX12_eventsNow se_yX12_eventsNow ini_X12 co_yX12_eventsNow yo_yX12_eventsNow c2 rfl rfl (Nat.le_of_ble_eq_true rfl) ⟨by decide, by decide, by decide, by decide⟩ (okX12_eventsNow hw) (k_I fun r94 h94 hw => ?_)
              refine g_callV (As := [vi r94]) (rest := []) O ci_12 rfl dX12_now_97 ml_X12_365 im_yX12_good se_yX12_good ini_X12 co_yX12_good yo_yX12_good c2 rfl rfl (Nat.le_of_ble_eq_true rfl) ⟨by decide, by decide, by decide, by decide⟩ (okX12_good hw) (k_I fun r97 h97 hw => ?_)
              exact g_ireturn O dX12_now_100 ⟨rfl, rfl, _, rfl, hw⟩
            · have hw := hw.2 (fun q => hx20 (by rw [q]; rfl))
              obtain rfl : t20 = 101 := by have e : (20 : Int) + (81) = (t20 : Int) := ht; omega
              refine g_aload_n O dX12_now_101 rfl ?_
              refine g_iconst O dX12_now_102 kv_1 ?_
              refine g_callV (As := [vi (1 : Int32)]) (rest := []) O ci_12 rfl dX12_now_103 ml_X12_350 im_yX12_refused se_yX12_refused ini_X12 co_yX12_refused yo_yX12_refused c2 rfl rfl (Nat.le_of_ble_eq_true rfl) ⟨by decide, by decide, by decide, by decide⟩ (okX12_refused hw) (k_I fun r103 h103 hw => ?_)
              exact g_ireturn O dX12_now_106 ⟨rfl, rfl, _, rfl, hw⟩
  · have hw := hw.2 q10
    refine g_aload_n O dX12_now_13 rfl ?_
    refine g_iconst O dX12_now_14 kv_1 ?_
    refine g_callV (As := [vi (1 : Int32)]) (rest := []) O ci_12 rfl dX12_now_15 ml_X12_350 im_yX12_refused se_yX12_refused ini_X12 co_yX12_refused yo_yX12_refused c2 rfl rfl (Nat.le_of_ble_eq_true rfl) ⟨by decide, by decide, by decide, by decide⟩ (okX12_refused hw) (k_I fun r15 h15 hw => ?_)
    exact g_ireturn O dX12_now_18 ⟨rfl, rfl, _, rfl, hw⟩
theorem dX12_octet_0 : decode cX12_octet 0 = .ok (.aload_n 0, 1) := by decide +kernel
theorem dX12_octet_1 : decode cX12_octet 1 = .ok (.iconst 0, 1) := by decide +kernel
theorem dX12_octet_2 : decode cX12_octet 2 = .ok (.putfield 121, 3) := by decide +kernel
theorem dX12_octet_5 : decode cX12_octet 5 = .ok (.iload_n 1, 1) := by decide +kernel
theorem dX12_octet_6 : decode cX12_octet 6 = .ok (.ifCond .ge 9, 3) := by decide +kernel
theorem dX12_octet_9 : decode cX12_octet 9 = .ok (.aload_n 0, 1) := by decide +kernel
theorem dX12_octet_10 : decode cX12_octet 10 = .ok (.iconst 1, 1) := by decide +kernel
theorem dX12_octet_11 : decode cX12_octet 11 = .ok (.invokevirtual 350, 3) := by decide +kernel
theorem dX12_octet_14 : decode cX12_octet 14 = .ok (.ireturn, 1) := by decide +kernel
theorem dX12_octet_15 : decode cX12_octet 15 = .ok (.aload_n 0, 1) := by decide +kernel
theorem dX12_octet_16 : decode cX12_octet 16 = .ok (.iload_n 1, 1) := by decide +kernel
theorem dX12_octet_17 : decode cX12_octet 17 = .ok (.aload_n 0, 1) := by decide +kernel
theorem dX12_octet_18 : decode cX12_octet 18 = .ok (.getfield 457, 3) := by decide +kernel
theorem dX12_octet_21 : decode cX12_octet 21 = .ok (.if_icmp .ge 12, 3) := by decide +kernel
theorem dX12_octet_24 : decode cX12_octet 24 = .ok (.aload_n 0, 1) := by decide +kernel
theorem dX12_octet_25 : decode cX12_octet 25 = .ok (.getfield 103, 3) := by decide +kernel
theorem dX12_octet_28 : decode cX12_octet 28 = .ok (.iload_n 1, 1) := by decide +kernel
theorem dX12_octet_29 : decode cX12_octet 29 = .ok (.iaload, 1) := by decide +kernel
theorem dX12_octet_30 : decode cX12_octet 30 = .ok (.goto 5, 3) := by decide +kernel
theorem dX12_octet_33 : decode cX12_octet 33 = .ok (.bipush (-2), 2) := by decide +kernel
theorem dX12_octet_35 : decode cX12_octet 35 = .ok (.invokevirtual 365, 3) := by decide +kernel
theorem dX12_octet_38 : decode cX12_octet 38 = .ok (.ireturn, 1) := by decide +kernel
theorem okX12_octet {E : Ev} {S : Sh} {Z : Option Nat} {Q : Int32 → Hp → Prop} {h : Hp} {a0 : Nat} {x1 : Int32} (hw : wX12_octet S h a0 x1 Q) : Ct E yX12_octet cX12_octet 2 (some .int) 2 45 0 0 S Z h [vr a0, vi x1] (qI S Z Q) := by
  refine Ct.of (by decide) (lc := [some (vr a0), some (vi x1)]) (Nat.le_of_ble_eq_true rfl) rfl (fun X O => ?_)
  unfold wX12_octet at hw
  refine g_aload_n O dX12_octet_0 rfl ?_
  refine g_iconst O dX12_octet_1 kv_0 ?_
  obtain ⟨c2, hw⟩ := hw
  refine pf_X12_thrown O dX12_octet_2 fl_X12_121 c2 ?_
  refine g_nmH (fun h2 e2 => ?_)
  have hw := hw h2 e2
  refine g_iload_n O dX12_octet_5 rfl ?_
  refine g_if_ge (tgt := 15) O dX12_octet_6 rfl (fun q6 => ?_) (fun q6 => ?_)
  · have hw := hw.1 q6
    refine g_aload_n O dX12_octet_15 rfl ?_
    refine g_iload_n O dX12_octet_16 rfl ?_
    refine g_aload_n O dX12_octet_17 rfl ?_
    refine gf_X12_inked O dX12_octet_18 fl_X12_457 c2 ?_
    refine g_icmp_ge (tgt := 33) O dX12_octet_21 rfl (fun q21 => ?_) (fun q21 => ?_)
    · have hw := hw.1 q21
      refine g_bipush O dX12_octet_33 kb_m2 ?_
      refine g_callV (As := [vi (-2 : Int32)]) (rest := []) O ci_12 rfl dX12_octet_35 ml_X12_365 im_yX12_good se_yX12_good ini_X12 co_yX12_good yo_yX12_good c2 rfl rfl (Nat.le_of_ble_eq_true rfl) ⟨by decide, by decide, by decide, by decide⟩ (okX12_good hw) (k_I fun r35 h35 hw => ?_)
      exact g_ireturn O dX12_octet_38 ⟨rfl, rfl, _, rfl, hw⟩
    · have hw := hw.2 q21
      refine g_aload_n O dX12_octet_24 rfl ?_
      refine gf_X12_ink O dX12_octet_25 fl_X12_103 c2 ?_
      refine g_iload_n O dX12_octet_28 rfl ?_
      obtain ⟨c29, hw⟩ := hw
      refine g_iaload O dX12_octet_29 c29.1 c29.2 ?_
      refine g_goto (tgt := 35) O dX12_octet_30 rfl ?_
      refine g_callV (As := [vi ((gI h2 (gR h2 a0 54) (ix x1)))]) (rest := []) O ci_12 rfl dX12_octet_35 ml_X12_365 im_yX12_good se_yX12_good ini_X12 co_yX12_good yo_yX12_good c2 rfl rfl (Nat.le_of_ble_eq_true rfl) ⟨by decide, by decide, by decide, by decide⟩ (okX12_good hw) (k_I fun r35 h35 hw => ?_)
      exact g_ireturn O dX12_octet_38 ⟨rfl, rfl, _, rfl, hw⟩
  · have hw := hw.2 q6
    refine g_aload_n O dX12_octet_9 rfl ?_
    refine g_iconst O dX12_octet_10 kv_1 ?_
    refine g_callV (As := [vi (1 : Int32)]) (rest := []) O ci_12 rfl dX12_octet_11 ml_X12_350 im_yX12_refused se_yX12_refused ini_X12 co_yX12_refused yo_yX12_refused c2 rfl rfl (Nat.le_of_ble_eq_true rfl) ⟨by decide, by decide, by decide, by decide⟩ (okX12_refused hw) (k_I fun r11 h11 hw => ?_)
    exact g_ireturn O dX12_octet_14 ⟨rfl, rfl, _, rfl, hw⟩
theorem dX12_open_0 : decode cX12_open 0 = .ok (.aload_n 0, 1) := by decide +kernel
theorem dX12_open_1 : decode cX12_open 1 = .ok (.iconst 0, 1) := by decide +kernel
theorem dX12_open_2 : decode cX12_open 2 = .ok (.putfield 121, 3) := by decide +kernel
theorem dX12_open_5 : decode cX12_open 5 = .ok (.aload_n 0, 1) := by decide +kernel
theorem dX12_open_6 : decode cX12_open 6 = .ok (.iload_n 1, 1) := by decide +kernel
theorem dX12_open_7 : decode cX12_open 7 = .ok (.invokevirtual 389, 3) := by decide +kernel
theorem dX12_open_10 : decode cX12_open 10 = .ok (.ifCond .ne 9, 3) := by decide +kernel
theorem dX12_open_13 : decode cX12_open 13 = .ok (.aload_n 0, 1) := by decide +kernel
theorem dX12_open_14 : decode cX12_open 14 = .ok (.iconst 1, 1) := by decide +kernel
theorem dX12_open_15 : decode cX12_open 15 = .ok (.invokevirtual 350, 3) := by decide +kernel
theorem dX12_open_18 : decode cX12_open 18 = .ok (.ireturn, 1) := by decide +kernel
theorem dX12_open_19 : decode cX12_open 19 = .ok (.aload_n 0, 1) := by decide +kernel
theorem dX12_open_20 : decode cX12_open 20 = .ok (.iload_n 1, 1) := by decide +kernel
theorem dX12_open_21 : decode cX12_open 21 = .ok (.iconst 0, 1) := by decide +kernel
theorem dX12_open_22 : decode cX12_open 22 = .ok (.invokevirtual 447, 3) := by decide +kernel
theorem dX12_open_25 : decode cX12_open 25 = .ok (.ifCond .eq 7, 3) := by decide +kernel
theorem dX12_open_28 : decode cX12_open 28 = .ok (.iconst 0, 1) := by decide +kernel
theorem dX12_open_29 : decode cX12_open 29 = .ok (.goto 4, 3) := by decide +kernel
theorem dX12_open_32 : decode cX12_open 32 = .ok (.iconst 1, 1) := by decide +kernel
theorem dX12_open_33 : decode cX12_open 33 = .ok (.aload_n 0, 1) := by decide +kernel
theorem dX12_open_34 : decode cX12_open 34 = .ok (.iload_n 1, 1) := by decide +kernel
theorem dX12_open_35 : decode cX12_open 35 = .ok (.iconst 0, 1) := by decide +kernel
theorem dX12_open_36 : decode cX12_open 36 = .ok (.invokevirtual 450, 3) := by decide +kernel
theorem dX12_open_39 : decode cX12_open 39 = .ok (.ifCond .eq 7, 3) := by decide +kernel
theorem dX12_open_42 : decode cX12_open 42 = .ok (.iconst 0, 1) := by decide +kernel
theorem dX12_open_43 : decode cX12_open 43 = .ok (.goto 4, 3) := by decide +kernel
theorem dX12_open_46 : decode cX12_open 46 = .ok (.iconst 1, 1) := by decide +kernel
theorem dX12_open_47 : decode cX12_open 47 = .ok (.iadd, 1) := by decide +kernel
theorem dX12_open_48 : decode cX12_open 48 = .ok (.istore_n 2, 1) := by decide +kernel
theorem dX12_open_49 : decode cX12_open 49 = .ok (.iconst 0, 1) := by decide +kernel
theorem dX12_open_50 : decode cX12_open 50 = .ok (.istore_n 3, 1) := by decide +kernel
theorem dX12_open_51 : decode cX12_open 51 = .ok (.iload_n 3, 1) := by decide +kernel
theorem dX12_open_52 : decode cX12_open 52 = .ok (.aload_n 0, 1) := by decide +kernel
theorem dX12_open_53 : decode cX12_open 53 = .ok (.getfield 33, 3) := by decide +kernel
theorem dX12_open_56 : decode cX12_open 56 = .ok (.iload_n 1, 1) := by decide +kernel
theorem dX12_open_57 : decode cX12_open 57 = .ok (.iaload, 1) := by decide +kernel
theorem dX12_open_58 : decode cX12_open 58 = .ok (.if_icmp .ge 44, 3) := by decide +kernel
theorem dX12_open_61 : decode cX12_open 61 = .ok (.iconst 0, 1) := by decide +kernel
theorem dX12_open_62 : decode cX12_open 62 = .ok (.istore 4, 2) := by decide +kernel
theorem dX12_open_64 : decode cX12_open 64 = .ok (.iload 4, 2) := by decide +kernel
theorem dX12_open_66 : decode cX12_open 66 = .ok (.iconst 2, 1) := by decide +kernel
theorem dX12_open_67 : decode cX12_open 67 = .ok (.if_icmp .gt 29, 3) := by decide +kernel
theorem dX12_open_70 : decode cX12_open 70 = .ok (.iload_n 2, 1) := by decide +kernel
theorem dX12_open_71 : decode cX12_open 71 = .ok (.aload_n 0, 1) := by decide +kernel
theorem dX12_open_72 : decode cX12_open 72 = .ok (.iload_n 1, 1) := by decide +kernel
theorem dX12_open_73 : decode cX12_open 73 = .ok (.iload_n 3, 1) := by decide +kernel
theorem dX12_open_74 : decode cX12_open 74 = .ok (.iload 4, 2) := by decide +kernel
theorem dX12_open_76 : decode cX12_open 76 = .ok (.iconst 0, 1) := by decide +kernel
theorem dX12_open_77 : decode cX12_open 77 = .ok (.invokevirtual 453, 3) := by decide +kernel
theorem dX12_open_80 : decode cX12_open 80 = .ok (.ifCond .le 7, 3) := by decide +kernel
theorem dX12_open_83 : decode cX12_open 83 = .ok (.iconst 1, 1) := by decide +kernel
theorem dX12_open_84 : decode cX12_open 84 = .ok (.goto 4, 3) := by decide +kernel
theorem dX12_open_87 : decode cX12_open 87 = .ok (.iconst 0, 1) := by decide +kernel
theorem dX12_open_88 : decode cX12_open 88 = .ok (.iadd, 1) := by decide +kernel
theorem dX12_open_89 : decode cX12_open 89 = .ok (.istore_n 2, 1) := by decide +kernel
theorem dX12_open_90 : decode cX12_open 90 = .ok (.iinc 4 1, 3) := by decide +kernel
theorem dX12_open_93 : decode cX12_open 93 = .ok (.goto (-29), 3) := by decide +kernel
theorem dX12_open_96 : decode cX12_open 96 = .ok (.iinc 3 1, 3) := by decide +kernel
theorem dX12_open_99 : decode cX12_open 99 = .ok (.goto (-48), 3) := by decide +kernel
theorem dX12_open_102 : decode cX12_open 102 = .ok (.aload_n 0, 1) := by decide +kernel
theorem dX12_open_103 : decode cX12_open 103 = .ok (.iload_n 2, 1) := by decide +kernel
theorem dX12_open_104 : decode cX12_open 104 = .ok (.invokevirtual 365, 3) := by decide +kernel
theorem dX12_open_107 : decode cX12_open 107 = .ok (.ireturn, 1) := by decide +kernel
theorem okX12_open_64 {E : Ev} {X : Cx} {S : Sh} {Z : Option Nat} {Q : Int32 → Hp → Prop} {B51 : Hp → Int32 → Int32 → Prop} {a0 : Nat} {x1 : Int32} {x3 : Int32} (O : Ok E X yX12_open cX12_open 5 (some .int) 7 193 0 0 (qI S Z Q)) (hB51 : ∀ (h : Hp) (x2 : Int32) (x3 : Int32), B51 h x2 x3 → G E X 0 0 S Z h 51 [some (vr a0), some (vi x1), some (vi x2), some (vi x3), none] []) : ∀ (n : Nat) (h : Hp) (x2 : Int32) (x4 : Int32), wX12_open_64 S B51 a0 x1 x3 Q n h x2 x4 → G E X 0 0 S Z h 64 [some (vr a0), some (vi x1), some (vi x2), some (vi x3), some (vi x4)] [] := by
  intro n
  induction n with
  | zero => intro h x2 x4 hw; exact hw.elim
  | succ n hB64 =>
    intro h x2 x4 hw
    have hw : wX12_open_64b S B51 a0 x1 x3 Q (wX12_open_64 S B51 a0 x1 x3 Q n) h x2 x4 := hw
    unfold wX12_open_64b at hw
    refine g_iload O dX12_open_64 rfl ?_
    refine g_iconst O dX12_open_66 kv_2 ?_
    refine g_icmp_gt (tgt := 96) O dX12_open_67 rfl (fun q67 => ?_) (fun q67 => ?_)
    · have hw := hw.1 q67
      refine g_iinc (lc' := [some (vr a0), some (vi x1), some (vi x2), some (vi (x3 + (1 : Int32))), some (vi x4)]) O dX12_open_96 rfl kv_1 rfl rfl ?_
      refine g_goto (tgt := 51) O dX12_open_99 rfl ?_
      refine g_mask [true, true, true, true, false] rfl rfl ?_
      exact hB51 _ _ _ hw
    · have hw := hw.2 q67
      refine g_iload_n O dX12_open_70 rfl ?_
      refine g_aload_n O dX12_open_71 rfl ?_
      refine g_iload_n O dX12_open_72 rfl ?_
      refine g_iload_n O dX12_open_73 rfl ?_
      refine g_iload O dX12_open_74 rfl ?_
      refine g_iconst O dX12_open_76 kv_0 ?_
      obtain ⟨c77, hw⟩ := hw
      refine g_callV (As := [vi x1, vi x3, vi x4, vi (0 : Int32)]) (rest := [vi x2]) O ci_12 rfl dX12_open_77 ml_X12_453 im_yX12_failing se_yX12_failing ini_X12 co_yX12_failing yo_yX12_failing c77 rfl rfl (Nat.le_of_ble_eq_true rfl) ⟨by decide, by decide, by decide, by decide⟩ (okX12_failing hw) (k_I fun r77 h77 hw => ?_)
      refine g_if_le (tgt := 87) O dX12_open_80 rfl (fun q80 => ?_) (fun q80 => ?_)
      · have hw := hw.1 q80
        refine g_iconst O dX12_open_87 kv_0 ?_
        refine g_iadd O dX12_open_88 ?_
        refine g_istore_n (lc' := [some (vr a0), some (vi x1), some (vi (x2 + (0 : Int32))), some (vi x3), some (vi x4)]) O dX12_open_89 rfl (Nat.le_of_ble_eq_true rfl) rfl ?_
        refine g_iinc (lc' := [some (vr a0), some (vi x1), some (vi (x2 + (0 : Int32))), some (vi x3), some (vi (x4 + (1 : Int32)))]) O dX12_open_90 rfl kv_1 rfl rfl ?_
        refine g_goto (tgt := 64) O dX12_open_93 rfl ?_
        exact hB64 _ _ _ hw
      · have hw := hw.2 q80
        refine g_iconst O dX12_open_83 kv_1 ?_
        refine g_goto (tgt := 88) O dX12_open_84 rfl ?_
        refine g_iadd O dX12_open_88 ?_
        refine g_istore_n (lc' := [some (vr a0), some (vi x1), some (vi (x2 + (1 : Int32))), some (vi x3), some (vi x4)]) O dX12_open_89 rfl (Nat.le_of_ble_eq_true rfl) rfl ?_
        refine g_iinc (lc' := [some (vr a0), some (vi x1), some (vi (x2 + (1 : Int32))), some (vi x3), some (vi (x4 + (1 : Int32)))]) O dX12_open_90 rfl kv_1 rfl rfl ?_
        refine g_goto (tgt := 64) O dX12_open_93 rfl ?_
        exact hB64 _ _ _ hw
theorem okX12_open_51 {E : Ev} {X : Cx} {S : Sh} {Z : Option Nat} {Q : Int32 → Hp → Prop} {a0 : Nat} {x1 : Int32} (O : Ok E X yX12_open cX12_open 5 (some .int) 7 193 0 0 (qI S Z Q)) : ∀ (n : Nat) (h : Hp) (x2 : Int32) (x3 : Int32), wX12_open_51 S a0 x1 Q n h x2 x3 → G E X 0 0 S Z h 51 [some (vr a0), some (vi x1), some (vi x2), some (vi x3), none] [] := by
  intro n
  induction n with
  | zero => intro h x2 x3 hw; exact hw.elim
  | succ n hB51 =>
    intro h x2 x3 hw
    have hw : wX12_open_51b S a0 x1 Q (wX12_open_51 S a0 x1 Q n) h x2 x3 := hw
    unfold wX12_open_51b at hw
    refine g_iload_n O dX12_open_51 rfl ?_
    refine g_aload_n O dX12_open_52 rfl ?_
    obtain ⟨c53, hw⟩ := hw
    refine gf_X12_eventMany O dX12_open_53 fl_X12_33 c53 ?_
    refine g_iload_n O dX12_open_56 rfl ?_
    obtain ⟨c57, hw⟩ := hw
    refine g_iaload O dX12_open_57 c57.1 c57.2 ?_
    refine g_icmp_ge (tgt := 102) O dX12_open_58 rfl (fun q58 => ?_) (fun q58 => ?_)
    · have hw := hw.1 q58
      refine g_aload_n O dX12_open_102 rfl ?_
      refine g_iload_n O dX12_open_103 rfl ?_
      refine g_callV (As := [vi x2]) (rest := []) O ci_12 rfl dX12_open_104 ml_X12_365 im_yX12_good se_yX12_good ini_X12 co_yX12_good yo_yX12_good c53 rfl rfl (Nat.le_of_ble_eq_true rfl) ⟨by decide, by decide, by decide, by decide⟩ (okX12_good hw) (k_I fun r104 h104 hw => ?_)
      exact g_ireturn O dX12_open_107 ⟨rfl, rfl, _, rfl, hw⟩
    · have hw := hw.2 q58
      refine g_iconst O dX12_open_61 kv_0 ?_
      refine g_istore (lc' := [some (vr a0), some (vi x1), some (vi x2), some (vi x3), some (vi (0 : Int32))]) O dX12_open_62 rfl (Nat.le_of_ble_eq_true rfl) rfl ?_
      obtain ⟨n64, hw⟩ := hw
      exact okX12_open_64 O hB51 n64 _ _ _ hw
theorem okX12_open_j47 {E : Ev} {X : Cx} {S : Sh} {Z : Option Nat} {Q : Int32 → Hp → Prop} {h : Hp} {a0 : Nat} {x1 : Int32} {s0 : Int32} {s1 : Int32} (O : Ok E X yX12_open cX12_open 5 (some .int) 7 193 0 0 (qI S Z Q)) (hw : wX12_open_j47 S h a0 x1 s0 s1 Q) : G E X 0 0 S Z h 47 [some (vr a0), some (vi x1), none, none, none] [vi s1, vi s0] := by
  unfold wX12_open_j47 at hw
  refine g_iadd O dX12_open_47 ?_
  refine g_istore_n (lc' := [some (vr a0), some (vi x1), some (vi (s0 + s1)), none, none]) O dX12_open_48 rfl (Nat.le_of_ble_eq_true rfl) rfl ?_
  refine g_iconst O dX12_open_49 kv_0 ?_
  refine g_istore_n (lc' := [some (vr a0), some (vi x1), some (vi (s0 + s1)), some (vi (0 : Int32)), none]) O dX12_open_50 rfl (Nat.le_of_ble_eq_true rfl) rfl ?_
  obtain ⟨n51, hw⟩ := hw
  exact okX12_open_51 O n51 _ _ _ hw
theorem okX12_open_j33 {E : Ev} {X : Cx} {S : Sh} {Z : Option Nat} {Q : Int32 → Hp → Prop} {h : Hp} {a0 : Nat} {x1 : Int32} {s0 : Int32} (O : Ok E X yX12_open cX12_open 5 (some .int) 7 193 0 0 (qI S Z Q)) (hw : wX12_open_j33 S h a0 x1 s0 Q) : G E X 0 0 S Z h 33 [some (vr a0), some (vi x1), none, none, none] [vi s0] := by
  unfold wX12_open_j33 at hw
  refine g_aload_n O dX12_open_33 rfl ?_
  refine g_iload_n O dX12_open_34 rfl ?_
  refine g_iconst O dX12_open_35 kv_0 ?_
  obtain ⟨c36, hw⟩ := hw
  refine g_callV (As := [vi x1, vi (0 : Int32)]) (rest := [vi s0]) O ci_12 rfl dX12_open_36 ml_X12_450 im_yX12_goesOn se_yX12_goesOn ini_X12 co_yX12_goesOn yo_yX12_goesOn c36 rfl rfl (Nat.le_of_ble_eq_true rfl) ⟨by decide, by decide, by decide, by decide⟩ (okX12_goesOn hw) (k_I fun r36 h36 hw => ?_)
  refine g_if_eq (tgt := 46) O dX12_open_39 rfl (fun q39 => ?_) (fun q39 => ?_)
  · have hw := hw.1 q39
    refine g_iconst O dX12_open_46 kv_1 ?_
    exact okX12_open_j47 O hw
  · have hw := hw.2 q39
    refine g_iconst O dX12_open_42 kv_0 ?_
    refine g_goto (tgt := 47) O dX12_open_43 rfl ?_
    exact okX12_open_j47 O hw
theorem okX12_open {E : Ev} {S : Sh} {Z : Option Nat} {Q : Int32 → Hp → Prop} {h : Hp} {a0 : Nat} {x1 : Int32} (hw : wX12_open S h a0 x1 Q) : Ct E yX12_open cX12_open 5 (some .int) 7 193 0 0 S Z h [vr a0, vi x1] (qI S Z Q) := by
  refine Ct.of (by decide) (lc := [some (vr a0), some (vi x1), none, none, none]) (Nat.le_of_ble_eq_true rfl) rfl (fun X O => ?_)
  unfold wX12_open at hw
  refine g_aload_n O dX12_open_0 rfl ?_
  refine g_iconst O dX12_open_1 kv_0 ?_
  obtain ⟨c2, hw⟩ := hw
  refine pf_X12_thrown O dX12_open_2 fl_X12_121 c2 ?_
  refine g_aload_n O dX12_open_5 rfl ?_
  refine g_iload_n O dX12_open_6 rfl ?_
  refine g_callV (As := [vi x1]) (rest := []) O ci_12 rfl dX12_open_7 ml_X12_389 im_yX12_isMachine se_yX12_isMachine ini_X12 co_yX12_isMachine yo_yX12_isMachine c2 rfl rfl (Nat.le_of_ble_eq_true rfl) ⟨by decide, by decide, by decide, by decide⟩ (okX12_isMachine hw) (k_I fun r7 h7 hw => ?_)
  refine g_if_ne (tgt := 19) O dX12_open_10 rfl (fun q10 => ?_) (fun q10 => ?_)
  · have hw := hw.1 q10
    refine g_aload_n O dX12_open_19 rfl ?_
    refine g_iload_n O dX12_open_20 rfl ?_
    refine g_iconst O dX12_open_21 kv_0 ?_
    refine g_callV (As := [vi x1, vi (0 : Int32)]) (rest := []) O ci_12 rfl dX12_open_22 ml_X12_447 im_yX12_begins_ se_yX12_begins_ ini_X12 co_yX12_begins_ yo_yX12_begins_ c2 rfl rfl (Nat.le_of_ble_eq_true rfl) ⟨by decide, by decide, by decide, by decide⟩ (okX12_begins_ hw) (k_I fun r22 h22 hw => ?_)
    refine g_if_eq (tgt := 32) O dX12_open_25 rfl (fun q25 => ?_) (fun q25 => ?_)
    · have hw := hw.1 q25
      refine g_iconst O dX12_open_32 kv_1 ?_
      exact okX12_open_j33 O hw
    · have hw := hw.2 q25
      refine g_iconst O dX12_open_28 kv_0 ?_
      refine g_goto (tgt := 33) O dX12_open_29 rfl ?_
      exact okX12_open_j33 O hw
  · have hw := hw.2 q10
    refine g_aload_n O dX12_open_13 rfl ?_
    refine g_iconst O dX12_open_14 kv_1 ?_
    refine g_callV (As := [vi (1 : Int32)]) (rest := []) O ci_12 rfl dX12_open_15 ml_X12_350 im_yX12_refused se_yX12_refused ini_X12 co_yX12_refused yo_yX12_refused c2 rfl rfl (Nat.le_of_ble_eq_true rfl) ⟨by decide, by decide, by decide, by decide⟩ (okX12_refused hw) (k_I fun r15 h15 hw => ?_)
    exact g_ireturn O dX12_open_18 ⟨rfl, rfl, _, rfl, hw⟩
theorem dX12_spreads_0 : decode cX12_spreads 0 = .ok (.iconst 0, 1) := by decide +kernel
theorem dX12_spreads_1 : decode cX12_spreads 1 = .ok (.istore_n 2, 1) := by decide +kernel
theorem dX12_spreads_2 : decode cX12_spreads 2 = .ok (.iload_n 2, 1) := by decide +kernel
theorem dX12_spreads_3 : decode cX12_spreads 3 = .ok (.bipush 100, 2) := by decide +kernel
theorem dX12_spreads_5 : decode cX12_spreads 5 = .ok (.if_icmp .ge 17, 3) := by decide +kernel
theorem dX12_spreads_8 : decode cX12_spreads 8 = .ok (.aload_n 0, 1) := by decide +kernel
theorem dX12_spreads_9 : decode cX12_spreads 9 = .ok (.getfield 115, 3) := by decide +kernel
theorem dX12_spreads_12 : decode cX12_spreads 12 = .ok (.iload_n 2, 1) := by decide +kernel
theorem dX12_spreads_13 : decode cX12_spreads 13 = .ok (.bipush (-2), 2) := by decide +kernel
theorem dX12_spreads_15 : decode cX12_spreads 15 = .ok (.iastore, 1) := by decide +kernel
theorem dX12_spreads_16 : decode cX12_spreads 16 = .ok (.iinc 2 1, 3) := by decide +kernel
theorem dX12_spreads_19 : decode cX12_spreads 19 = .ok (.goto (-17), 3) := by decide +kernel
theorem dX12_spreads_22 : decode cX12_spreads 22 = .ok (.aload_n 0, 1) := by decide +kernel
theorem dX12_spreads_23 : decode cX12_spreads 23 = .ok (.iconst 1, 1) := by decide +kernel
theorem dX12_spreads_24 : decode cX12_spreads 24 = .ok (.putfield 511, 3) := by decide +kernel
theorem dX12_spreads_27 : decode cX12_spreads 27 = .ok (.aload_n 0, 1) := by decide +kernel
theorem dX12_spreads_28 : decode cX12_spreads 28 = .ok (.getfield 118, 3) := by decide +kernel
theorem dX12_spreads_31 : decode cX12_spreads 31 = .ok (.iconst 0, 1) := by decide +kernel
theorem dX12_spreads_32 : decode cX12_spreads 32 = .ok (.aload_n 0, 1) := by decide +kernel
theorem dX12_spreads_33 : decode cX12_spreads 33 = .ok (.iload_n 1, 1) := by decide +kernel
theorem dX12_spreads_34 : decode cX12_spreads 34 = .ok (.invokevirtual 392, 3) := by decide +kernel
theorem dX12_spreads_37 : decode cX12_spreads 37 = .ok (.iastore, 1) := by decide +kernel
theorem dX12_spreads_38 : decode cX12_spreads 38 = .ok (.aload_n 0, 1) := by decide +kernel
theorem dX12_spreads_39 : decode cX12_spreads 39 = .ok (.getfield 115, 3) := by decide +kernel
theorem dX12_spreads_42 : decode cX12_spreads 42 = .ok (.aload_n 0, 1) := by decide +kernel
theorem dX12_spreads_43 : decode cX12_spreads 43 = .ok (.getfield 118, 3) := by decide +kernel
theorem dX12_spreads_46 : decode cX12_spreads 46 = .ok (.iconst 0, 1) := by decide +kernel
theorem dX12_spreads_47 : decode cX12_spreads 47 = .ok (.iaload, 1) := by decide +kernel
theorem dX12_spreads_48 : decode cX12_spreads 48 = .ok (.iconst 0, 1) := by decide +kernel
theorem dX12_spreads_49 : decode cX12_spreads 49 = .ok (.iastore, 1) := by decide +kernel
theorem dX12_spreads_50 : decode cX12_spreads 50 = .ok (.iconst 0, 1) := by decide +kernel
theorem dX12_spreads_51 : decode cX12_spreads 51 = .ok (.istore_n 2, 1) := by decide +kernel
theorem dX12_spreads_52 : decode cX12_spreads 52 = .ok (.iload_n 2, 1) := by decide +kernel
theorem dX12_spreads_53 : decode cX12_spreads 53 = .ok (.aload_n 0, 1) := by decide +kernel
theorem dX12_spreads_54 : decode cX12_spreads 54 = .ok (.getfield 511, 3) := by decide +kernel
theorem dX12_spreads_57 : decode cX12_spreads 57 = .ok (.if_icmp .ge 161, 3) := by decide +kernel
theorem dX12_spreads_60 : decode cX12_spreads 60 = .ok (.iconst 0, 1) := by decide +kernel
theorem dX12_spreads_61 : decode cX12_spreads 61 = .ok (.istore_n 3, 1) := by decide +kernel
theorem dX12_spreads_62 : decode cX12_spreads 62 = .ok (.iload_n 3, 1) := by decide +kernel
theorem dX12_spreads_63 : decode cX12_spreads 63 = .ok (.aload_n 0, 1) := by decide +kernel
theorem dX12_spreads_64 : decode cX12_spreads 64 = .ok (.getfield 33, 3) := by decide +kernel
theorem dX12_spreads_67 : decode cX12_spreads 67 = .ok (.iload_n 1, 1) := by decide +kernel
theorem dX12_spreads_68 : decode cX12_spreads 68 = .ok (.iaload, 1) := by decide +kernel
theorem dX12_spreads_69 : decode cX12_spreads 69 = .ok (.if_icmp .ge 143, 3) := by decide +kernel
theorem dX12_spreads_72 : decode cX12_spreads 72 = .ok (.aload_n 0, 1) := by decide +kernel
theorem dX12_spreads_73 : decode cX12_spreads 73 = .ok (.getfield 63, 3) := by decide +kernel
theorem dX12_spreads_76 : decode cX12_spreads 76 = .ok (.iconst 4, 1) := by decide +kernel
theorem dX12_spreads_77 : decode cX12_spreads 77 = .ok (.iload_n 1, 1) := by decide +kernel
theorem dX12_spreads_78 : decode cX12_spreads 78 = .ok (.imul, 1) := by decide +kernel
theorem dX12_spreads_79 : decode cX12_spreads 79 = .ok (.iload_n 3, 1) := by decide +kernel
theorem dX12_spreads_80 : decode cX12_spreads 80 = .ok (.iadd, 1) := by decide +kernel
theorem dX12_spreads_81 : decode cX12_spreads 81 = .ok (.iaload, 1) := by decide +kernel
theorem dX12_spreads_82 : decode cX12_spreads 82 = .ok (.istore 4, 2) := by decide +kernel
theorem dX12_spreads_84 : decode cX12_spreads 84 = .ok (.iload 4, 2) := by decide +kernel
theorem dX12_spreads_86 : decode cX12_spreads 86 = .ok (.aload_n 0, 1) := by decide +kernel
theorem dX12_spreads_87 : decode cX12_spreads 87 = .ok (.getfield 66, 3) := by decide +kernel
theorem dX12_spreads_90 : decode cX12_spreads 90 = .ok (.iconst 4, 1) := by decide +kernel
theorem dX12_spreads_91 : decode cX12_spreads 91 = .ok (.iload_n 1, 1) := by decide +kernel
theorem dX12_spreads_92 : decode cX12_spreads 92 = .ok (.imul, 1) := by decide +kernel
theorem dX12_spreads_93 : decode cX12_spreads 93 = .ok (.iload_n 3, 1) := by decide +kernel
theorem dX12_spreads_94 : decode cX12_spreads 94 = .ok (.iadd, 1) := by decide +kernel
theorem dX12_spreads_95 : decode cX12_spreads 95 = .ok (.iaload, 1) := by decide +kernel
theorem dX12_spreads_96 : decode cX12_spreads 96 = .ok (.if_icmp .gt 110, 3) := by decide +kernel
theorem dX12_spreads_99 : decode cX12_spreads 99 = .ok (.aload_n 0, 1) := by decide +kernel
theorem dX12_spreads_100 : decode cX12_spreads 100 = .ok (.iload_n 1, 1) := by decide +kernel
theorem dX12_spreads_101 : decode cX12_spreads 101 = .ok (.iload_n 3, 1) := by decide +kernel
theorem dX12_spreads_102 : decode cX12_spreads 102 = .ok (.aload_n 0, 1) := by decide +kernel
theorem dX12_spreads_103 : decode cX12_spreads 103 = .ok (.getfield 118, 3) := by decide +kernel
theorem dX12_spreads_106 : decode cX12_spreads 106 = .ok (.iload_n 2, 1) := by decide +kernel
theorem dX12_spreads_107 : decode cX12_spreads 107 = .ok (.iaload, 1) := by decide +kernel
theorem dX12_spreads_108 : decode cX12_spreads 108 = .ok (.iload 4, 2) := by decide +kernel
theorem dX12_spreads_110 : decode cX12_spreads 110 = .ok (.invokevirtual 385, 3) := by decide +kernel
theorem dX12_spreads_113 : decode cX12_spreads 113 = .ok (.ifCond .eq 20, 3) := by decide +kernel
theorem dX12_spreads_116 : decode cX12_spreads 116 = .ok (.aload_n 0, 1) := by decide +kernel
theorem dX12_spreads_117 : decode cX12_spreads 117 = .ok (.iload_n 1, 1) := by decide +kernel
theorem dX12_spreads_118 : decode cX12_spreads 118 = .ok (.iload_n 3, 1) := by decide +kernel
theorem dX12_spreads_119 : decode cX12_spreads 119 = .ok (.aload_n 0, 1) := by decide +kernel
theorem dX12_spreads_120 : decode cX12_spreads 120 = .ok (.getfield 118, 3) := by decide +kernel
theorem dX12_spreads_123 : decode cX12_spreads 123 = .ok (.iload_n 2, 1) := by decide +kernel
theorem dX12_spreads_124 : decode cX12_spreads 124 = .ok (.iaload, 1) := by decide +kernel
theorem dX12_spreads_125 : decode cX12_spreads 125 = .ok (.iload 4, 2) := by decide +kernel
theorem dX12_spreads_127 : decode cX12_spreads 127 = .ok (.invokevirtual 411, 3) := by decide +kernel
theorem dX12_spreads_130 : decode cX12_spreads 130 = .ok (.goto 5, 3) := by decide +kernel
theorem dX12_spreads_133 : decode cX12_spreads 133 = .ok (.bipush (-2), 2) := by decide +kernel
theorem dX12_spreads_135 : decode cX12_spreads 135 = .ok (.istore 5, 2) := by decide +kernel
theorem dX12_spreads_137 : decode cX12_spreads 137 = .ok (.iload 5, 2) := by decide +kernel
theorem dX12_spreads_139 : decode cX12_spreads 139 = .ok (.bipush (-2), 2) := by decide +kernel
theorem dX12_spreads_141 : decode cX12_spreads 141 = .ok (.if_icmp .eq 59, 3) := by decide +kernel
theorem dX12_spreads_144 : decode cX12_spreads 144 = .ok (.aload_n 0, 1) := by decide +kernel
theorem dX12_spreads_145 : decode cX12_spreads 145 = .ok (.getfield 115, 3) := by decide +kernel
theorem dX12_spreads_148 : decode cX12_spreads 148 = .ok (.iload 5, 2) := by decide +kernel
theorem dX12_spreads_150 : decode cX12_spreads 150 = .ok (.iaload, 1) := by decide +kernel
theorem dX12_spreads_151 : decode cX12_spreads 151 = .ok (.bipush (-2), 2) := by decide +kernel
theorem dX12_spreads_153 : decode cX12_spreads 153 = .ok (.if_icmp .eq 6, 3) := by decide +kernel
theorem dX12_spreads_156 : decode cX12_spreads 156 = .ok (.goto 44, 3) := by decide +kernel
theorem dX12_spreads_159 : decode cX12_spreads 159 = .ok (.aload_n 0, 1) := by decide +kernel
theorem dX12_spreads_160 : decode cX12_spreads 160 = .ok (.getfield 115, 3) := by decide +kernel
theorem dX12_spreads_163 : decode cX12_spreads 163 = .ok (.iload 5, 2) := by decide +kernel
theorem dX12_spreads_165 : decode cX12_spreads 165 = .ok (.aload_n 0, 1) := by decide +kernel
theorem dX12_spreads_166 : decode cX12_spreads 166 = .ok (.getfield 115, 3) := by decide +kernel
theorem dX12_spreads_169 : decode cX12_spreads 169 = .ok (.aload_n 0, 1) := by decide +kernel
theorem dX12_spreads_170 : decode cX12_spreads 170 = .ok (.getfield 118, 3) := by decide +kernel
theorem dX12_spreads_173 : decode cX12_spreads 173 = .ok (.iload_n 2, 1) := by decide +kernel
theorem dX12_spreads_174 : decode cX12_spreads 174 = .ok (.iaload, 1) := by decide +kernel
theorem dX12_spreads_175 : decode cX12_spreads 175 = .ok (.iaload, 1) := by decide +kernel
theorem dX12_spreads_176 : decode cX12_spreads 176 = .ok (.iconst 1, 1) := by decide +kernel
theorem dX12_spreads_177 : decode cX12_spreads 177 = .ok (.iadd, 1) := by decide +kernel
theorem dX12_spreads_178 : decode cX12_spreads 178 = .ok (.iastore, 1) := by decide +kernel
theorem dX12_spreads_179 : decode cX12_spreads 179 = .ok (.aload_n 0, 1) := by decide +kernel
theorem dX12_spreads_180 : decode cX12_spreads 180 = .ok (.getfield 118, 3) := by decide +kernel
theorem dX12_spreads_183 : decode cX12_spreads 183 = .ok (.aload_n 0, 1) := by decide +kernel
theorem dX12_spreads_184 : decode cX12_spreads 184 = .ok (.getfield 511, 3) := by decide +kernel
theorem dX12_spreads_187 : decode cX12_spreads 187 = .ok (.iload 5, 2) := by decide +kernel
theorem dX12_spreads_189 : decode cX12_spreads 189 = .ok (.iastore, 1) := by decide +kernel
theorem dX12_spreads_190 : decode cX12_spreads 190 = .ok (.aload_n 0, 1) := by decide +kernel
theorem dX12_spreads_191 : decode cX12_spreads 191 = .ok (.dup, 1) := by decide +kernel
theorem dX12_spreads_192 : decode cX12_spreads 192 = .ok (.getfield 511, 3) := by decide +kernel
theorem dX12_spreads_195 : decode cX12_spreads 195 = .ok (.iconst 1, 1) := by decide +kernel
theorem dX12_spreads_196 : decode cX12_spreads 196 = .ok (.iadd, 1) := by decide +kernel
theorem dX12_spreads_197 : decode cX12_spreads 197 = .ok (.putfield 511, 3) := by decide +kernel
theorem dX12_spreads_200 : decode cX12_spreads 200 = .ok (.iinc 4 1, 3) := by decide +kernel
theorem dX12_spreads_203 : decode cX12_spreads 203 = .ok (.goto (-119), 3) := by decide +kernel
theorem dX12_spreads_206 : decode cX12_spreads 206 = .ok (.iinc 3 1, 3) := by decide +kernel
theorem dX12_spreads_209 : decode cX12_spreads 209 = .ok (.goto (-147), 3) := by decide +kernel
theorem dX12_spreads_212 : decode cX12_spreads 212 = .ok (.iinc 2 1, 3) := by decide +kernel
theorem dX12_spreads_215 : decode cX12_spreads 215 = .ok (.goto (-163), 3) := by decide +kernel
theorem dX12_spreads_218 : decode cX12_spreads 218 = .ok (.return_, 1) := by decide +kernel
theorem okX12_spreads_j135 {E : Ev} {X : Cx} {S : Sh} {Z : Option Nat} {Q : Hp → Prop} {B52 : Hp → Int32 → Prop} {B62 : Hp → Int32 → Prop} {B84 : Hp → Int32 → Prop} {h : Hp} {a0 : Nat} {x1 : Int32} {x2 : Int32} {x3 : Int32} {x4 : Int32} {s0 : Int32} (O : Ok E X yX12_spreads cX12_spreads 6 none 4 111 0 0 (qV S Z Q)) (hB52 : ∀ (h : Hp) (x2 : Int32), B52 h x2 → G E X 0 0 S Z h 52 [some (vr a0), some (vi x1), some (vi x2), none, none, none] []) (hB62 : ∀ (h : Hp) (x3 : Int32), B62 h x3 → G E X 0 0 S Z h 62 [some (vr a0), some (vi x1), some (vi x2), some (vi x3), none, none] []) (hB84 : ∀ (h : Hp) (x4 : Int32), B84 h x4 → G E X 0 0 S Z h 84 [some (vr a0), some (vi x1), some (vi x2), some (vi x3), some (vi x4), none] []) (hw : wX12_spreads_j135 S B52 B62 B84 h a0 x1 x2 x3 x4 s0 Q) : G E X 0 0 S Z h 135 [some (vr a0), some (vi x1), some (vi x2), some (vi x3), some (vi x4), none] [vi s0] := by
  unfold wX12_spreads_j135 at hw
  refine g_istore (lc' := [some (vr a0), some (vi x1), some (vi x2), some (vi x3), some (vi x4), some (vi s0)]) O dX12_spreads_135 rfl (Nat.le_of_ble_eq_true rfl) rfl ?_
  refine g_iload O dX12_spreads_137 rfl ?_
  refine g_bipush O dX12_spreads_139 kb_m2 ?_
  refine g_icmp_eq (tgt := 200) O dX12_spreads_141 rfl (fun q141 => ?_) (fun q141 => ?_)
  · have hw := hw.1 q141
    refine g_iinc (lc' := [some (vr a0), some (vi x1), some (vi x2), some (vi x3), some (vi (x4 + (1 : Int32))), some (vi s0)]) O dX12_spreads_200 rfl kv_1 rfl rfl ?_
    refine g_goto (tgt := 84) O dX12_spreads_203 rfl ?_
    refine g_mask [true, true, true, true, true, false] rfl rfl ?_
    exact hB84 _ _ hw
  · have hw := hw.2 q141
    refine g_aload_n O dX12_spreads_144 rfl ?_
    obtain ⟨c145, hw⟩ := hw
    refine gf_X12_far O dX12_spreads_145 fl_X12_115 c145 ?_
    refine g_iload O dX12_spreads_148 rfl ?_
    obtain ⟨c150, hw⟩ := hw
    refine g_iaload O dX12_spreads_150 c150.1 c150.2 ?_
    refine g_bipush O dX12_spreads_151 kb_m2 ?_
    refine g_icmp_eq (tgt := 159) O dX12_spreads_153 rfl (fun q153 => ?_) (fun q153 => ?_)
    · have hw := hw.1 q153
      refine g_aload_n O dX12_spreads_159 rfl ?_
      refine gf_X12_far O dX12_spreads_160 fl_X12_115 c145 ?_
      refine g_iload O dX12_spreads_163 rfl ?_
      refine g_aload_n O dX12_spreads_165 rfl ?_
      refine gf_X12_far O dX12_spreads_166 fl_X12_115 c145 ?_
      refine g_aload_n O dX12_spreads_169 rfl ?_
      refine gf_X12_queue O dX12_spreads_170 fl_X12_118 c145 ?_
      refine g_iload_n O dX12_spreads_173 rfl ?_
      obtain ⟨c174, hw⟩ := hw
      refine g_iaload O dX12_spreads_174 c174.1 c174.2 ?_
      obtain ⟨c175, hw⟩ := hw
      refine g_iaload O dX12_spreads_175 c175.1 c175.2 ?_
      refine g_iconst O dX12_spreads_176 kv_1 ?_
      refine g_iadd O dX12_spreads_177 ?_
      refine g_iastore O dX12_spreads_178 c150.1 c150.2 ?_
      refine g_nmH (fun h178 e178 => ?_)
      have hw := hw h178 e178
      refine g_aload_n O dX12_spreads_179 rfl ?_
      refine gf_X12_queue O dX12_spreads_180 fl_X12_118 c145 ?_
      refine g_aload_n O dX12_spreads_183 rfl ?_
      refine gf_X12_met O dX12_spreads_184 fl_X12_511 c145 ?_
      refine g_iload O dX12_spreads_187 rfl ?_
      obtain ⟨c189, hw⟩ := hw
      refine g_iastore O dX12_spreads_189 c189.1 c189.2 ?_
      refine g_nmH (fun h189 e189 => ?_)
      have hw := hw h189 e189
      refine g_aload_n O dX12_spreads_190 rfl ?_
      refine g_dup O dX12_spreads_191 rfl ?_
      refine gf_X12_met O dX12_spreads_192 fl_X12_511 c145 ?_
      refine g_iconst O dX12_spreads_195 kv_1 ?_
      refine g_iadd O dX12_spreads_196 ?_
      refine pf_X12_met O dX12_spreads_197 fl_X12_511 c145 ?_
      refine g_iinc (lc' := [some (vr a0), some (vi x1), some (vi x2), some (vi x3), some (vi (x4 + (1 : Int32))), some (vi s0)]) O dX12_spreads_200 rfl kv_1 rfl rfl ?_
      refine g_goto (tgt := 84) O dX12_spreads_203 rfl ?_
      refine g_mask [true, true, true, true, true, false] rfl rfl ?_
      exact hB84 _ _ hw
    · have hw := hw.2 q153
      refine g_goto (tgt := 200) O dX12_spreads_156 rfl ?_
      refine g_iinc (lc' := [some (vr a0), some (vi x1), some (vi x2), some (vi x3), some (vi (x4 + (1 : Int32))), some (vi s0)]) O dX12_spreads_200 rfl kv_1 rfl rfl ?_
      refine g_goto (tgt := 84) O dX12_spreads_203 rfl ?_
      refine g_mask [true, true, true, true, true, false] rfl rfl ?_
      exact hB84 _ _ hw
theorem okX12_spreads_84 {E : Ev} {X : Cx} {S : Sh} {Z : Option Nat} {Q : Hp → Prop} {B52 : Hp → Int32 → Prop} {B62 : Hp → Int32 → Prop} {a0 : Nat} {x1 : Int32} {x2 : Int32} {x3 : Int32} (O : Ok E X yX12_spreads cX12_spreads 6 none 4 111 0 0 (qV S Z Q)) (hB52 : ∀ (h : Hp) (x2 : Int32), B52 h x2 → G E X 0 0 S Z h 52 [some (vr a0), some (vi x1), some (vi x2), none, none, none] []) (hB62 : ∀ (h : Hp) (x3 : Int32), B62 h x3 → G E X 0 0 S Z h 62 [some (vr a0), some (vi x1), some (vi x2), some (vi x3), none, none] []) : ∀ (n : Nat) (h : Hp) (x4 : Int32), wX12_spreads_84 S B52 B62 a0 x1 x2 x3 Q n h x4 → G E X 0 0 S Z h 84 [some (vr a0), some (vi x1), some (vi x2), some (vi x3), some (vi x4), none] [] := by
  intro n
  induction n with
  | zero => intro h x4 hw; exact hw.elim
  | succ n hB84 =>
    intro h x4 hw
    have hw : wX12_spreads_84b S B52 B62 a0 x1 x2 x3 Q (wX12_spreads_84 S B52 B62 a0 x1 x2 x3 Q n) h x4 := hw
    unfold wX12_spreads_84b at hw
    refine g_iload O dX12_spreads_84 rfl ?_
    refine g_aload_n O dX12_spreads_86 rfl ?_
    obtain ⟨c87, hw⟩ := hw
    refine gf_X12_lastPick O dX12_spreads_87 fl_X12_66 c87 ?_
    refine g_iconst O dX12_spreads_90 kv_4 ?_
    refine g_iload_n O dX12_spreads_91 rfl ?_
    refine g_imul O dX12_spreads_92 ?_
    refine g_iload_n O dX12_spreads_93 rfl ?_
    refine g_iadd O dX12_spreads_94 ?_
    obtain ⟨c95, hw⟩ := hw
    refine g_iaload O dX12_spreads_95 c95.1 c95.2 ?_
    refine g_icmp_gt (tgt := 206) O dX12_spreads_96 rfl (fun q96 => ?_) (fun q96 => ?_)
    · have hw := hw.1 q96
      refine g_iinc (lc' := [some (vr a0), some (vi x1), some (vi x2), some (vi (x3 + (1 : Int32))), some (vi x4), none]) O dX12_spreads_206 rfl kv_1 rfl rfl ?_
      refine g_goto (tgt := 62) O dX12_spreads_209 rfl ?_
      refine g_mask [true, true, true, true, false, false] rfl rfl ?_
      exact hB62 _ _ hw
    · have hw := hw.2 q96
      refine g_aload_n O dX12_spreads_99 rfl ?_
      refine g_iload_n O dX12_spreads_100 rfl ?_
      refine g_iload_n O dX12_spreads_101 rfl ?_
      refine g_aload_n O dX12_spreads_102 rfl ?_
      refine gf_X12_queue O dX12_spreads_103 fl_X12_118 c87 ?_
      refine g_iload_n O dX12_spreads_106 rfl ?_
      obtain ⟨c107, hw⟩ := hw
      refine g_iaload O dX12_spreads_107 c107.1 c107.2 ?_
      refine g_iload O dX12_spreads_108 rfl ?_
      refine g_callV (As := [vi x1, vi x3, vi ((gI h (gR h a0 63) (ix x2))), vi x4]) (rest := []) O ci_12 rfl dX12_spreads_110 ml_X12_385 im_yX12_canBe se_yX12_canBe ini_X12 co_yX12_canBe yo_yX12_canBe c87 rfl rfl (Nat.le_of_ble_eq_true rfl) ⟨by decide, by decide, by decide, by decide⟩ (okX12_canBe hw) (k_I fun r110 h110 hw => ?_)
      refine g_if_eq (tgt := 133) O dX12_spreads_113 rfl (fun q113 => ?_) (fun q113 => ?_)
      · have hw := hw.1 q113
        refine g_bipush O dX12_spreads_133 kb_m2 ?_
        exact okX12_spreads_j135 O hB52 hB62 hB84 hw
      · have hw := hw.2 q113
        refine g_aload_n O dX12_spreads_116 rfl ?_
        refine g_iload_n O dX12_spreads_117 rfl ?_
        refine g_iload_n O dX12_spreads_118 rfl ?_
        refine g_aload_n O dX12_spreads_119 rfl ?_
        refine gf_X12_queue O dX12_spreads_120 fl_X12_118 c87 ?_
        refine g_iload_n O dX12_spreads_123 rfl ?_
        obtain ⟨c124, hw⟩ := hw
        refine g_iaload O dX12_spreads_124 c124.1 c124.2 ?_
        refine g_iload O dX12_spreads_125 rfl ?_
        refine g_callV (As := [vi x1, vi x3, vi ((gI h110 (gR h110 a0 63) (ix x2))), vi x4]) (rest := []) O ci_12 rfl dX12_spreads_127 ml_X12_411 im_yX12_givenBy se_yX12_givenBy ini_X12 co_yX12_givenBy yo_yX12_givenBy c87 rfl rfl (Nat.le_of_ble_eq_true rfl) ⟨by decide, by decide, by decide, by decide⟩ (okX12_givenBy hw) (k_I fun r127 h127 hw => ?_)
        refine g_goto (tgt := 135) O dX12_spreads_130 rfl ?_
        exact okX12_spreads_j135 O hB52 hB62 hB84 hw
theorem okX12_spreads_62 {E : Ev} {X : Cx} {S : Sh} {Z : Option Nat} {Q : Hp → Prop} {B52 : Hp → Int32 → Prop} {a0 : Nat} {x1 : Int32} {x2 : Int32} (O : Ok E X yX12_spreads cX12_spreads 6 none 4 111 0 0 (qV S Z Q)) (hB52 : ∀ (h : Hp) (x2 : Int32), B52 h x2 → G E X 0 0 S Z h 52 [some (vr a0), some (vi x1), some (vi x2), none, none, none] []) : ∀ (n : Nat) (h : Hp) (x3 : Int32), wX12_spreads_62 S B52 a0 x1 x2 Q n h x3 → G E X 0 0 S Z h 62 [some (vr a0), some (vi x1), some (vi x2), some (vi x3), none, none] [] := by
  intro n
  induction n with
  | zero => intro h x3 hw; exact hw.elim
  | succ n hB62 =>
    intro h x3 hw
    have hw : wX12_spreads_62b S B52 a0 x1 x2 Q (wX12_spreads_62 S B52 a0 x1 x2 Q n) h x3 := hw
    unfold wX12_spreads_62b at hw
    refine g_iload_n O dX12_spreads_62 rfl ?_
    refine g_aload_n O dX12_spreads_63 rfl ?_
    obtain ⟨c64, hw⟩ := hw
    refine gf_X12_eventMany O dX12_spreads_64 fl_X12_33 c64 ?_
    refine g_iload_n O dX12_spreads_67 rfl ?_
    obtain ⟨c68, hw⟩ := hw
    refine g_iaload O dX12_spreads_68 c68.1 c68.2 ?_
    refine g_icmp_ge (tgt := 212) O dX12_spreads_69 rfl (fun q69 => ?_) (fun q69 => ?_)
    · have hw := hw.1 q69
      refine g_iinc (lc' := [some (vr a0), some (vi x1), some (vi (x2 + (1 : Int32))), some (vi x3), none, none]) O dX12_spreads_212 rfl kv_1 rfl rfl ?_
      refine g_goto (tgt := 52) O dX12_spreads_215 rfl ?_
      refine g_mask [true, true, true, false, false, false] rfl rfl ?_
      exact hB52 _ _ hw
    · have hw := hw.2 q69
      refine g_aload_n O dX12_spreads_72 rfl ?_
      refine gf_X12_firstPick O dX12_spreads_73 fl_X12_63 c64 ?_
      refine g_iconst O dX12_spreads_76 kv_4 ?_
      refine g_iload_n O dX12_spreads_77 rfl ?_
      refine g_imul O dX12_spreads_78 ?_
      refine g_iload_n O dX12_spreads_79 rfl ?_
      refine g_iadd O dX12_spreads_80 ?_
      obtain ⟨c81, hw⟩ := hw
      refine g_iaload O dX12_spreads_81 c81.1 c81.2 ?_
      refine g_nmI (fun xv82 e82 => ?_)
      have hw := hw xv82 e82
      refine g_istore (lc' := [some (vr a0), some (vi x1), some (vi x2), some (vi x3), some (vi xv82), none]) O dX12_spreads_82 rfl (Nat.le_of_ble_eq_true rfl) rfl ?_
      obtain ⟨n84, hw⟩ := hw
      exact okX12_spreads_84 O hB52 hB62 n84 _ _ hw
theorem okX12_spreads_52 {E : Ev} {X : Cx} {S : Sh} {Z : Option Nat} {Q : Hp → Prop} {a0 : Nat} {x1 : Int32} (O : Ok E X yX12_spreads cX12_spreads 6 none 4 111 0 0 (qV S Z Q)) : ∀ (n : Nat) (h : Hp) (x2 : Int32), wX12_spreads_52 S a0 x1 Q n h x2 → G E X 0 0 S Z h 52 [some (vr a0), some (vi x1), some (vi x2), none, none, none] [] := by
  intro n
  induction n with
  | zero => intro h x2 hw; exact hw.elim
  | succ n hB52 =>
    intro h x2 hw
    have hw : wX12_spreads_52b S a0 x1 Q (wX12_spreads_52 S a0 x1 Q n) h x2 := hw
    unfold wX12_spreads_52b at hw
    refine g_iload_n O dX12_spreads_52 rfl ?_
    refine g_aload_n O dX12_spreads_53 rfl ?_
    obtain ⟨c54, hw⟩ := hw
    refine gf_X12_met O dX12_spreads_54 fl_X12_511 c54 ?_
    refine g_icmp_ge (tgt := 218) O dX12_spreads_57 rfl (fun q57 => ?_) (fun q57 => ?_)
    · have hw := hw.1 q57
      exact g_return O dX12_spreads_218 ⟨rfl, rfl, rfl, hw⟩
    · have hw := hw.2 q57
      refine g_iconst O dX12_spreads_60 kv_0 ?_
      refine g_istore_n (lc' := [some (vr a0), some (vi x1), some (vi x2), some (vi (0 : Int32)), none, none]) O dX12_spreads_61 rfl (Nat.le_of_ble_eq_true rfl) rfl ?_
      obtain ⟨n62, hw⟩ := hw
      exact okX12_spreads_62 O hB52 n62 _ _ hw
theorem okX12_spreads_j22 {E : Ev} {X : Cx} {S : Sh} {Z : Option Nat} {Q : Hp → Prop} {h : Hp} {a0 : Nat} {x1 : Int32} (O : Ok E X yX12_spreads cX12_spreads 6 none 4 111 0 0 (qV S Z Q)) (hw : wX12_spreads_j22 S h a0 x1 Q) : G E X 0 0 S Z h 22 [some (vr a0), some (vi x1), none, none, none, none] [] := by
  unfold wX12_spreads_j22 at hw
  refine g_aload_n O dX12_spreads_22 rfl ?_
  refine g_iconst O dX12_spreads_23 kv_1 ?_
  obtain ⟨c24, hw⟩ := hw
  refine pf_X12_met O dX12_spreads_24 fl_X12_511 c24 ?_
  refine g_nmH (fun h24 e24 => ?_)
  have hw := hw h24 e24
  refine g_aload_n O dX12_spreads_27 rfl ?_
  refine gf_X12_queue O dX12_spreads_28 fl_X12_118 c24 ?_
  refine g_iconst O dX12_spreads_31 kv_0 ?_
  refine g_aload_n O dX12_spreads_32 rfl ?_
  refine g_iload_n O dX12_spreads_33 rfl ?_
  refine g_callV (As := [vi x1]) (rest := [vi (0 : Int32), vr (gR h24 a0 63)]) O ci_12 rfl dX12_spreads_34 ml_X12_392 im_yX12_beginOf se_yX12_beginOf ini_X12 co_yX12_beginOf yo_yX12_beginOf c24 rfl rfl (Nat.le_of_ble_eq_true rfl) ⟨by decide, by decide, by decide, by decide⟩ (okX12_beginOf hw) (k_I fun r34 h34 hw => ?_)
  obtain ⟨c37, hw⟩ := hw
  refine g_iastore O dX12_spreads_37 c37.1 c37.2 ?_
  refine g_nmH (fun h37 e37 => ?_)
  have hw := hw h37 e37
  refine g_aload_n O dX12_spreads_38 rfl ?_
  refine gf_X12_far O dX12_spreads_39 fl_X12_115 c24 ?_
  refine g_aload_n O dX12_spreads_42 rfl ?_
  refine gf_X12_queue O dX12_spreads_43 fl_X12_118 c24 ?_
  refine g_iconst O dX12_spreads_46 kv_0 ?_
  obtain ⟨c47, hw⟩ := hw
  refine g_iaload O dX12_spreads_47 c47.1 c47.2 ?_
  refine g_iconst O dX12_spreads_48 kv_0 ?_
  obtain ⟨c49, hw⟩ := hw
  refine g_iastore O dX12_spreads_49 c49.1 c49.2 ?_
  refine g_iconst O dX12_spreads_50 kv_0 ?_
  refine g_istore_n (lc' := [some (vr a0), some (vi x1), some (vi (0 : Int32)), none, none, none]) O dX12_spreads_51 rfl (Nat.le_of_ble_eq_true rfl) rfl ?_
  obtain ⟨n52, hw⟩ := hw
  exact okX12_spreads_52 O n52 _ _ hw
theorem okX12_spreads_2 {E : Ev} {X : Cx} {S : Sh} {Z : Option Nat} {Q : Hp → Prop} {a0 : Nat} {x1 : Int32} (O : Ok E X yX12_spreads cX12_spreads 6 none 4 111 0 0 (qV S Z Q)) : ∀ (n : Nat) (h : Hp) (x2 : Int32), wX12_spreads_2 S a0 x1 Q n h x2 → G E X 0 0 S Z h 2 [some (vr a0), some (vi x1), some (vi x2), none, none, none] [] := by
  intro n
  induction n with
  | zero => intro h x2 hw; exact hw.elim
  | succ n hB2 =>
    intro h x2 hw
    have hw : wX12_spreads_2b S a0 x1 Q (wX12_spreads_2 S a0 x1 Q n) h x2 := hw
    unfold wX12_spreads_2b at hw
    refine g_iload_n O dX12_spreads_2 rfl ?_
    refine g_bipush O dX12_spreads_3 kb_100 ?_
    refine g_icmp_ge (tgt := 22) O dX12_spreads_5 rfl (fun q5 => ?_) (fun q5 => ?_)
    · have hw := hw.1 q5
      refine g_mask [true, true, false, false, false, false] rfl rfl ?_
      exact okX12_spreads_j22 O hw
    · have hw := hw.2 q5
      refine g_aload_n O dX12_spreads_8 rfl ?_
      obtain ⟨c9, hw⟩ := hw
      refine gf_X12_far O dX12_spreads_9 fl_X12_115 c9 ?_
      refine g_iload_n O dX12_spreads_12 rfl ?_
      refine g_bipush O dX12_spreads_13 kb_m2 ?_
      obtain ⟨c15, hw⟩ := hw
      refine g_iastore O dX12_spreads_15 c15.1 c15.2 ?_
      refine g_iinc (lc' := [some (vr a0), some (vi x1), some (vi (x2 + (1 : Int32))), none, none, none]) O dX12_spreads_16 rfl kv_1 rfl rfl ?_
      refine g_goto (tgt := 2) O dX12_spreads_19 rfl ?_
      exact hB2 _ _ hw
theorem okX12_spreads {E : Ev} {S : Sh} {Z : Option Nat} {Q : Hp → Prop} {h : Hp} {a0 : Nat} {x1 : Int32} (hw : wX12_spreads S h a0 x1 Q) : Ct E yX12_spreads cX12_spreads 6 none 4 111 0 0 S Z h [vr a0, vi x1] (qV S Z Q) := by
  refine Ct.of (by decide) (lc := [some (vr a0), some (vi x1), none, none, none, none]) (Nat.le_of_ble_eq_true rfl) rfl (fun X O => ?_)
  unfold wX12_spreads at hw
  refine g_iconst O dX12_spreads_0 kv_0 ?_
  refine g_istore_n (lc' := [some (vr a0), some (vi x1), some (vi (0 : Int32)), none, none, none]) O dX12_spreads_1 rfl (Nat.le_of_ble_eq_true rfl) rfl ?_
  obtain ⟨n2, hw⟩ := hw
  exact okX12_spreads_2 O n2 _ _ hw
theorem dX12_reach_0 : decode cX12_reach 0 = .ok (.aload_n 0, 1) := by decide +kernel
theorem dX12_reach_1 : decode cX12_reach 1 = .ok (.iconst 0, 1) := by decide +kernel
theorem dX12_reach_2 : decode cX12_reach 2 = .ok (.putfield 121, 3) := by decide +kernel
theorem dX12_reach_5 : decode cX12_reach 5 = .ok (.aload_n 0, 1) := by decide +kernel
theorem dX12_reach_6 : decode cX12_reach 6 = .ok (.iload_n 1, 1) := by decide +kernel
theorem dX12_reach_7 : decode cX12_reach 7 = .ok (.invokevirtual 389, 3) := by decide +kernel
theorem dX12_reach_10 : decode cX12_reach 10 = .ok (.ifCond .ne 9, 3) := by decide +kernel
theorem dX12_reach_13 : decode cX12_reach 13 = .ok (.aload_n 0, 1) := by decide +kernel
theorem dX12_reach_14 : decode cX12_reach 14 = .ok (.iconst 1, 1) := by decide +kernel
theorem dX12_reach_15 : decode cX12_reach 15 = .ok (.invokevirtual 350, 3) := by decide +kernel
theorem dX12_reach_18 : decode cX12_reach 18 = .ok (.ireturn, 1) := by decide +kernel
theorem dX12_reach_19 : decode cX12_reach 19 = .ok (.aload_n 0, 1) := by decide +kernel
theorem dX12_reach_20 : decode cX12_reach 20 = .ok (.iload_n 1, 1) := by decide +kernel
theorem dX12_reach_21 : decode cX12_reach 21 = .ok (.invokevirtual 514, 3) := by decide +kernel
theorem dX12_reach_24 : decode cX12_reach 24 = .ok (.aload_n 0, 1) := by decide +kernel
theorem dX12_reach_25 : decode cX12_reach 25 = .ok (.aload_n 0, 1) := by decide +kernel
theorem dX12_reach_26 : decode cX12_reach 26 = .ok (.getfield 511, 3) := by decide +kernel
theorem dX12_reach_29 : decode cX12_reach 29 = .ok (.invokevirtual 365, 3) := by decide +kernel
theorem dX12_reach_32 : decode cX12_reach 32 = .ok (.ireturn, 1) := by decide +kernel
theorem okX12_reach {E : Ev} {S : Sh} {Z : Option Nat} {Q : Int32 → Hp → Prop} {h : Hp} {a0 : Nat} {x1 : Int32} (hw : wX12_reach S h a0 x1 Q) : Ct E yX12_reach cX12_reach 2 (some .int) 5 136 0 0 S Z h [vr a0, vi x1] (qI S Z Q) := by
  refine Ct.of (by decide) (lc := [some (vr a0), some (vi x1)]) (Nat.le_of_ble_eq_true rfl) rfl (fun X O => ?_)
  unfold wX12_reach at hw
  refine g_aload_n O dX12_reach_0 rfl ?_
  refine g_iconst O dX12_reach_1 kv_0 ?_
  obtain ⟨c2, hw⟩ := hw
  refine pf_X12_thrown O dX12_reach_2 fl_X12_121 c2 ?_
  refine g_aload_n O dX12_reach_5 rfl ?_
  refine g_iload_n O dX12_reach_6 rfl ?_
  refine g_callV (As := [vi x1]) (rest := []) O ci_12 rfl dX12_reach_7 ml_X12_389 im_yX12_isMachine se_yX12_isMachine ini_X12 co_yX12_isMachine yo_yX12_isMachine c2 rfl rfl (Nat.le_of_ble_eq_true rfl) ⟨by decide, by decide, by decide, by decide⟩ (okX12_isMachine hw) (k_I fun r7 h7 hw => ?_)
  refine g_if_ne (tgt := 19) O dX12_reach_10 rfl (fun q10 => ?_) (fun q10 => ?_)
  · have hw := hw.1 q10
    refine g_aload_n O dX12_reach_19 rfl ?_
    refine g_iload_n O dX12_reach_20 rfl ?_
    refine g_callV (As := [vi x1]) (rest := []) O ci_12 rfl dX12_reach_21 ml_X12_514 im_yX12_spreads se_yX12_spreads ini_X12 co_yX12_spreads yo_yX12_spreads c2 rfl rfl (Nat.le_of_ble_eq_true rfl) ⟨by decide, by decide, by decide, by decide⟩ (okX12_spreads hw) (k_V fun h21 hw => ?_)
    refine g_aload_n O dX12_reach_24 rfl ?_
    refine g_aload_n O dX12_reach_25 rfl ?_
    refine gf_X12_met O dX12_reach_26 fl_X12_511 c2 ?_
    refine g_callV (As := [vi (gI h21 a0 64)]) (rest := []) O ci_12 rfl dX12_reach_29 ml_X12_365 im_yX12_good se_yX12_good ini_X12 co_yX12_good yo_yX12_good c2 rfl rfl (Nat.le_of_ble_eq_true rfl) ⟨by decide, by decide, by decide, by decide⟩ (okX12_good hw) (k_I fun r29 h29 hw => ?_)
    exact g_ireturn O dX12_reach_32 ⟨rfl, rfl, _, rfl, hw⟩
  · have hw := hw.2 q10
    refine g_aload_n O dX12_reach_13 rfl ?_
    refine g_iconst O dX12_reach_14 kv_1 ?_
    refine g_callV (As := [vi (1 : Int32)]) (rest := []) O ci_12 rfl dX12_reach_15 ml_X12_350 im_yX12_refused se_yX12_refused ini_X12 co_yX12_refused yo_yX12_refused c2 rfl rfl (Nat.le_of_ble_eq_true rfl) ⟨by decide, by decide, by decide, by decide⟩ (okX12_refused hw) (k_I fun r15 h15 hw => ?_)
    exact g_ireturn O dX12_reach_18 ⟨rfl, rfl, _, rfl, hw⟩
theorem dX12_run_0 : decode cX12_run 0 = .ok (.aload_n 0, 1) := by decide +kernel
theorem dX12_run_1 : decode cX12_run 1 = .ok (.iconst 0, 1) := by decide +kernel
theorem dX12_run_2 : decode cX12_run 2 = .ok (.putfield 121, 3) := by decide +kernel
theorem dX12_run_5 : decode cX12_run 5 = .ok (.aload_n 0, 1) := by decide +kernel
theorem dX12_run_6 : decode cX12_run 6 = .ok (.iload_n 1, 1) := by decide +kernel
theorem dX12_run_7 : decode cX12_run 7 = .ok (.invokevirtual 389, 3) := by decide +kernel
theorem dX12_run_10 : decode cX12_run 10 = .ok (.ifCond .ne 9, 3) := by decide +kernel
theorem dX12_run_13 : decode cX12_run 13 = .ok (.aload_n 0, 1) := by decide +kernel
theorem dX12_run_14 : decode cX12_run 14 = .ok (.iconst 1, 1) := by decide +kernel
theorem dX12_run_15 : decode cX12_run 15 = .ok (.invokevirtual 350, 3) := by decide +kernel
theorem dX12_run_18 : decode cX12_run 18 = .ok (.ireturn, 1) := by decide +kernel
theorem dX12_run_19 : decode cX12_run 19 = .ok (.aload_n 0, 1) := by decide +kernel
theorem dX12_run_20 : decode cX12_run 20 = .ok (.iload_n 1, 1) := by decide +kernel
theorem dX12_run_21 : decode cX12_run 21 = .ok (.putfield 106, 3) := by decide +kernel
theorem dX12_run_24 : decode cX12_run 24 = .ok (.aload_n 0, 1) := by decide +kernel
theorem dX12_run_25 : decode cX12_run 25 = .ok (.aload_n 0, 1) := by decide +kernel
theorem dX12_run_26 : decode cX12_run 26 = .ok (.iload_n 1, 1) := by decide +kernel
theorem dX12_run_27 : decode cX12_run 27 = .ok (.invokevirtual 392, 3) := by decide +kernel
theorem dX12_run_30 : decode cX12_run 30 = .ok (.putfield 473, 3) := by decide +kernel
theorem dX12_run_33 : decode cX12_run 33 = .ok (.aload_n 0, 1) := by decide +kernel
theorem dX12_run_34 : decode cX12_run 34 = .ok (.iconst 0, 1) := by decide +kernel
theorem dX12_run_35 : decode cX12_run 35 = .ok (.putfield 476, 3) := by decide +kernel
theorem dX12_run_38 : decode cX12_run 38 = .ok (.iconst 0, 1) := by decide +kernel
theorem dX12_run_39 : decode cX12_run 39 = .ok (.istore_n 2, 1) := by decide +kernel
theorem dX12_run_40 : decode cX12_run 40 = .ok (.iload_n 2, 1) := by decide +kernel
theorem dX12_run_41 : decode cX12_run 41 = .ok (.bipush 100, 2) := by decide +kernel
theorem dX12_run_43 : decode cX12_run 43 = .ok (.if_icmp .ge 52, 3) := by decide +kernel
theorem dX12_run_46 : decode cX12_run 46 = .ok (.aload_n 0, 1) := by decide +kernel
theorem dX12_run_47 : decode cX12_run 47 = .ok (.getfield 109, 3) := by decide +kernel
theorem dX12_run_50 : decode cX12_run 50 = .ok (.iload_n 2, 1) := by decide +kernel
theorem dX12_run_51 : decode cX12_run 51 = .ok (.iload_n 1, 1) := by decide +kernel
theorem dX12_run_52 : decode cX12_run 52 = .ok (.ifCond .le 35, 3) := by decide +kernel
theorem dX12_run_55 : decode cX12_run 55 = .ok (.iload_n 2, 1) := by decide +kernel
theorem dX12_run_56 : decode cX12_run 56 = .ok (.aload_n 0, 1) := by decide +kernel
theorem dX12_run_57 : decode cX12_run 57 = .ok (.iload_n 1, 1) := by decide +kernel
theorem dX12_run_58 : decode cX12_run 58 = .ok (.iconst 1, 1) := by decide +kernel
theorem dX12_run_59 : decode cX12_run 59 = .ok (.isub, 1) := by decide +kernel
theorem dX12_run_60 : decode cX12_run 60 = .ok (.invokevirtual 392, 3) := by decide +kernel
theorem dX12_run_63 : decode cX12_run 63 = .ok (.if_icmp .ne 24, 3) := by decide +kernel
theorem dX12_run_66 : decode cX12_run 66 = .ok (.aload_n 0, 1) := by decide +kernel
theorem dX12_run_67 : decode cX12_run 67 = .ok (.getfield 100, 3) := by decide +kernel
theorem dX12_run_70 : decode cX12_run 70 = .ok (.iload_n 1, 1) := by decide +kernel
theorem dX12_run_71 : decode cX12_run 71 = .ok (.iload_n 2, 1) := by decide +kernel
theorem dX12_run_72 : decode cX12_run 72 = .ok (.aload_n 0, 1) := by decide +kernel
theorem dX12_run_73 : decode cX12_run 73 = .ok (.getfield 473, 3) := by decide +kernel
theorem dX12_run_76 : decode cX12_run 76 = .ok (.invokestatic 382, 3) := by decide +kernel
theorem dX12_run_79 : decode cX12_run 79 = .ok (.baload, 1) := by decide +kernel
theorem dX12_run_80 : decode cX12_run 80 = .ok (.ifCond .eq 7, 3) := by decide +kernel
theorem dX12_run_83 : decode cX12_run 83 = .ok (.iconst 1, 1) := by decide +kernel
theorem dX12_run_84 : decode cX12_run 84 = .ok (.goto 4, 3) := by decide +kernel
theorem dX12_run_87 : decode cX12_run 87 = .ok (.iconst 0, 1) := by decide +kernel
theorem dX12_run_88 : decode cX12_run 88 = .ok (.bastore, 1) := by decide +kernel
theorem dX12_run_89 : decode cX12_run 89 = .ok (.iinc 2 1, 3) := by decide +kernel
theorem dX12_run_92 : decode cX12_run 92 = .ok (.goto (-52), 3) := by decide +kernel
theorem dX12_run_95 : decode cX12_run 95 = .ok (.aload_n 0, 1) := by decide +kernel
theorem dX12_run_96 : decode cX12_run 96 = .ok (.aload_n 0, 1) := by decide +kernel
theorem dX12_run_97 : decode cX12_run 97 = .ok (.getfield 473, 3) := by decide +kernel
theorem dX12_run_100 : decode cX12_run 100 = .ok (.invokevirtual 365, 3) := by decide +kernel
theorem dX12_run_103 : decode cX12_run 103 = .ok (.ireturn, 1) := by decide +kernel
theorem okX12_run_40 {E : Ev} {X : Cx} {S : Sh} {Z : Option Nat} {Q : Int32 → Hp → Prop} {a0 : Nat} {x1 : Int32} (O : Ok E X yX12_run cX12_run 3 (some .int) 3 67 0 0 (qI S Z Q)) : ∀ (n : Nat) (h : Hp) (x2 : Int32), wX12_run_40 S a0 x1 Q n h x2 → G E X 0 0 S Z h 40 [some (vr a0), some (vi x1), some (vi x2)] [] := by
  intro n
  induction n with
  | zero => intro h x2 hw; exact hw.elim
  | succ n hB40 =>
    intro h x2 hw
    have hw : wX12_run_40b S a0 x1 Q (wX12_run_40 S a0 x1 Q n) h x2 := hw
    unfold wX12_run_40b at hw
    refine g_iload_n O dX12_run_40 rfl ?_
    refine g_bipush O dX12_run_41 kb_100 ?_
    refine g_icmp_ge (tgt := 95) O dX12_run_43 rfl (fun q43 => ?_) (fun q43 => ?_)
    · have hw := hw.1 q43
      refine g_aload_n O dX12_run_95 rfl ?_
      refine g_aload_n O dX12_run_96 rfl ?_
      obtain ⟨c97, hw⟩ := hw
      refine gf_X12_runState O dX12_run_97 fl_X12_473 c97 ?_
      refine g_callV (As := [vi (gI h a0 57)]) (rest := []) O ci_12 rfl dX12_run_100 ml_X12_365 im_yX12_good se_yX12_good ini_X12 co_yX12_good yo_yX12_good c97 rfl rfl (Nat.le_of_ble_eq_true rfl) ⟨by decide, by decide, by decide, by decide⟩ (okX12_good hw) (k_I fun r100 h100 hw => ?_)
      exact g_ireturn O dX12_run_103 ⟨rfl, rfl, _, rfl, hw⟩
    · have hw := hw.2 q43
      refine g_aload_n O dX12_run_46 rfl ?_
      obtain ⟨c47, hw⟩ := hw
      refine gf_X12_isBeside O dX12_run_47 fl_X12_109 c47 ?_
      refine g_iload_n O dX12_run_50 rfl ?_
      refine g_iload_n O dX12_run_51 rfl ?_
      refine g_if_le (tgt := 87) O dX12_run_52 rfl (fun q52 => ?_) (fun q52 => ?_)
      · have hw := hw.1 q52
        refine g_iconst O dX12_run_87 kv_0 ?_
        obtain ⟨c88, hw⟩ := hw
        refine g_zastore O dX12_run_88 c88.1 c88.2 ?_
        refine g_iinc (lc' := [some (vr a0), some (vi x1), some (vi (x2 + (1 : Int32)))]) O dX12_run_89 rfl kv_1 rfl rfl ?_
        refine g_goto (tgt := 40) O dX12_run_92 rfl ?_
        exact hB40 _ _ hw
      · have hw := hw.2 q52
        refine g_iload_n O dX12_run_55 rfl ?_
        refine g_aload_n O dX12_run_56 rfl ?_
        refine g_iload_n O dX12_run_57 rfl ?_
        refine g_iconst O dX12_run_58 kv_1 ?_
        refine g_isub O dX12_run_59 ?_
        refine g_callV (As := [vi ((x1 - (1 : Int32)))]) (rest := [vi x2, vi x2, vr (gR h a0 59)]) O ci_12 rfl dX12_run_60 ml_X12_392 im_yX12_beginOf se_yX12_beginOf ini_X12 co_yX12_beginOf yo_yX12_beginOf c47 rfl rfl (Nat.le_of_ble_eq_true rfl) ⟨by decide, by decide, by decide, by decide⟩ (okX12_beginOf hw) (k_I fun r60 h60 hw => ?_)
        refine g_icmp_ne (tgt := 87) O dX12_run_63 rfl (fun q63 => ?_) (fun q63 => ?_)
        · have hw := hw.1 q63
          refine g_iconst O dX12_run_87 kv_0 ?_
          obtain ⟨c88, hw⟩ := hw
          refine g_zastore O dX12_run_88 c88.1 c88.2 ?_
          refine g_iinc (lc' := [some (vr a0), some (vi x1), some (vi (x2 + (1 : Int32)))]) O dX12_run_89 rfl kv_1 rfl rfl ?_
          refine g_goto (tgt := 40) O dX12_run_92 rfl ?_
          exact hB40 _ _ hw
        · have hw := hw.2 q63
          refine g_aload_n O dX12_run_66 rfl ?_
          refine gf_X12_isGlued O dX12_run_67 fl_X12_100 c47 ?_
          refine g_iload_n O dX12_run_70 rfl ?_
          refine g_iload_n O dX12_run_71 rfl ?_
          refine g_aload_n O dX12_run_72 rfl ?_
          refine gf_X12_runState O dX12_run_73 fl_X12_473 c47 ?_
          refine g_callS (As := [vi x1, vi x2, vi (gI h60 a0 57)]) (rest := [vr (gR h60 a0 48), vi x2, vr (gR h a0 59)]) O dX12_run_76 ml_X12_382 st_yX12_pair ini_X12 co_yX12_pair yo_yX12_pair rfl rfl (Nat.le_of_ble_eq_true rfl) ⟨by decide, by decide, by decide, by decide⟩ (okX12_pair hw) (k_I fun r76 h76 hw => ?_)
          obtain ⟨c79, hw⟩ := hw
          refine g_zaload O dX12_run_79 c79.1 c79.2 ?_
          refine g_if_eq (tgt := 87) O dX12_run_80 rfl (fun q80 => ?_) (fun q80 => ?_)
          · have hw := hw.1 q80
            refine g_iconst O dX12_run_87 kv_0 ?_
            obtain ⟨c88, hw⟩ := hw
            refine g_zastore O dX12_run_88 c88.1 c88.2 ?_
            refine g_iinc (lc' := [some (vr a0), some (vi x1), some (vi (x2 + (1 : Int32)))]) O dX12_run_89 rfl kv_1 rfl rfl ?_
            refine g_goto (tgt := 40) O dX12_run_92 rfl ?_
            exact hB40 _ _ hw
          · have hw := hw.2 q80
            refine g_iconst O dX12_run_83 kv_1 ?_
            refine g_goto (tgt := 88) O dX12_run_84 rfl ?_
            obtain ⟨c88, hw⟩ := hw
            refine g_zastore O dX12_run_88 c88.1 c88.2 ?_
            refine g_iinc (lc' := [some (vr a0), some (vi x1), some (vi (x2 + (1 : Int32)))]) O dX12_run_89 rfl kv_1 rfl rfl ?_
            refine g_goto (tgt := 40) O dX12_run_92 rfl ?_
            exact hB40 _ _ hw
theorem okX12_run {E : Ev} {S : Sh} {Z : Option Nat} {Q : Int32 → Hp → Prop} {h : Hp} {a0 : Nat} {x1 : Int32} (hw : wX12_run S h a0 x1 Q) : Ct E yX12_run cX12_run 3 (some .int) 3 67 0 0 S Z h [vr a0, vi x1] (qI S Z Q) := by
  refine Ct.of (by decide) (lc := [some (vr a0), some (vi x1), none]) (Nat.le_of_ble_eq_true rfl) rfl (fun X O => ?_)
  unfold wX12_run at hw
  refine g_aload_n O dX12_run_0 rfl ?_
  refine g_iconst O dX12_run_1 kv_0 ?_
  obtain ⟨c2, hw⟩ := hw
  refine pf_X12_thrown O dX12_run_2 fl_X12_121 c2 ?_
  refine g_aload_n O dX12_run_5 rfl ?_
  refine g_iload_n O dX12_run_6 rfl ?_
  refine g_callV (As := [vi x1]) (rest := []) O ci_12 rfl dX12_run_7 ml_X12_389 im_yX12_isMachine se_yX12_isMachine ini_X12 co_yX12_isMachine yo_yX12_isMachine c2 rfl rfl (Nat.le_of_ble_eq_true rfl) ⟨by decide, by decide, by decide, by decide⟩ (okX12_isMachine hw) (k_I fun r7 h7 hw => ?_)
  refine g_if_ne (tgt := 19) O dX12_run_10 rfl (fun q10 => ?_) (fun q10 => ?_)
  · have hw := hw.1 q10
    refine g_aload_n O dX12_run_19 rfl ?_
    refine g_iload_n O dX12_run_20 rfl ?_
    refine pf_X12_runOf O dX12_run_21 fl_X12_106 c2 ?_
    refine g_aload_n O dX12_run_24 rfl ?_
    refine g_aload_n O dX12_run_25 rfl ?_
    refine g_iload_n O dX12_run_26 rfl ?_
    refine g_callV (As := [vi x1]) (rest := [vr a0]) O ci_12 rfl dX12_run_27 ml_X12_392 im_yX12_beginOf se_yX12_beginOf ini_X12 co_yX12_beginOf yo_yX12_beginOf c2 rfl rfl (Nat.le_of_ble_eq_true rfl) ⟨by decide, by decide, by decide, by decide⟩ (okX12_beginOf hw) (k_I fun r27 h27 hw => ?_)
    refine pf_X12_runState O dX12_run_30 fl_X12_473 c2 ?_
    refine g_nmH (fun h30 e30 => ?_)
    have hw := hw h30 e30
    refine g_aload_n O dX12_run_33 rfl ?_
    refine g_iconst O dX12_run_34 kv_0 ?_
    refine pf_X12_runMany O dX12_run_35 fl_X12_476 c2 ?_
    refine g_iconst O dX12_run_38 kv_0 ?_
    refine g_istore_n (lc' := [some (vr a0), some (vi x1), some (vi (0 : Int32))]) O dX12_run_39 rfl (Nat.le_of_ble_eq_true rfl) rfl ?_
    obtain ⟨n40, hw⟩ := hw
    exact okX12_run_40 O n40 _ _ hw
  · have hw := hw.2 q10
    refine g_aload_n O dX12_run_13 rfl ?_
    refine g_iconst O dX12_run_14 kv_1 ?_
    refine g_callV (As := [vi (1 : Int32)]) (rest := []) O ci_12 rfl dX12_run_15 ml_X12_350 im_yX12_refused se_yX12_refused ini_X12 co_yX12_refused yo_yX12_refused c2 rfl rfl (Nat.le_of_ble_eq_true rfl) ⟨by decide, by decide, by decide, by decide⟩ (okX12_refused hw) (k_I fun r15 h15 hw => ?_)
    exact g_ireturn O dX12_run_18 ⟨rfl, rfl, _, rfl, hw⟩
theorem dX12_shown_0 : decode cX12_shown 0 = .ok (.aload_n 0, 1) := by decide +kernel
theorem dX12_shown_1 : decode cX12_shown 1 = .ok (.iconst 0, 1) := by decide +kernel
theorem dX12_shown_2 : decode cX12_shown 2 = .ok (.putfield 121, 3) := by decide +kernel
theorem dX12_shown_5 : decode cX12_shown 5 = .ok (.iload_n 1, 1) := by decide +kernel
theorem dX12_shown_6 : decode cX12_shown 6 = .ok (.iconst 0, 1) := by decide +kernel
theorem dX12_shown_7 : decode cX12_shown 7 = .ok (.iconst 2, 1) := by decide +kernel
theorem dX12_shown_8 : decode cX12_shown 8 = .ok (.invokestatic 142, 3) := by decide +kernel
theorem dX12_shown_11 : decode cX12_shown 11 = .ok (.ifCond .ne 9, 3) := by decide +kernel
theorem dX12_shown_14 : decode cX12_shown 14 = .ok (.aload_n 0, 1) := by decide +kernel
theorem dX12_shown_15 : decode cX12_shown 15 = .ok (.iconst 1, 1) := by decide +kernel
theorem dX12_shown_16 : decode cX12_shown 16 = .ok (.invokevirtual 350, 3) := by decide +kernel
theorem dX12_shown_19 : decode cX12_shown 19 = .ok (.ireturn, 1) := by decide +kernel
theorem dX12_shown_20 : decode cX12_shown 20 = .ok (.aload_n 0, 1) := by decide +kernel
theorem dX12_shown_21 : decode cX12_shown 21 = .ok (.aload_n 0, 1) := by decide +kernel
theorem dX12_shown_22 : decode cX12_shown 22 = .ok (.getfield 362, 3) := by decide +kernel
theorem dX12_shown_25 : decode cX12_shown 25 = .ok (.ifCond .ne 8, 3) := by decide +kernel
theorem dX12_shown_28 : decode cX12_shown 28 = .ok (.bipush (-2), 2) := by decide +kernel
theorem dX12_shown_30 : decode cX12_shown 30 = .ok (.goto 30, 3) := by decide +kernel
theorem dX12_shown_33 : decode cX12_shown 33 = .ok (.iload_n 1, 1) := by decide +kernel
theorem dX12_shown_34 : decode cX12_shown 34 = .ok (.ifCond .ne 10, 3) := by decide +kernel
theorem dX12_shown_37 : decode cX12_shown 37 = .ok (.aload_n 0, 1) := by decide +kernel
theorem dX12_shown_38 : decode cX12_shown 38 = .ok (.getfield 435, 3) := by decide +kernel
theorem dX12_shown_41 : decode cX12_shown 41 = .ok (.goto 19, 3) := by decide +kernel
theorem dX12_shown_44 : decode cX12_shown 44 = .ok (.iload_n 1, 1) := by decide +kernel
theorem dX12_shown_45 : decode cX12_shown 45 = .ok (.iconst 1, 1) := by decide +kernel
theorem dX12_shown_46 : decode cX12_shown 46 = .ok (.if_icmp .ne 10, 3) := by decide +kernel
theorem dX12_shown_49 : decode cX12_shown 49 = .ok (.aload_n 0, 1) := by decide +kernel
theorem dX12_shown_50 : decode cX12_shown 50 = .ok (.getfield 438, 3) := by decide +kernel
theorem dX12_shown_53 : decode cX12_shown 53 = .ok (.goto 7, 3) := by decide +kernel
theorem dX12_shown_56 : decode cX12_shown 56 = .ok (.aload_n 0, 1) := by decide +kernel
theorem dX12_shown_57 : decode cX12_shown 57 = .ok (.getfield 441, 3) := by decide +kernel
theorem dX12_shown_60 : decode cX12_shown 60 = .ok (.invokevirtual 365, 3) := by decide +kernel
theorem dX12_shown_63 : decode cX12_shown 63 = .ok (.ireturn, 1) := by decide +kernel
theorem okX12_shown {E : Ev} {S : Sh} {Z : Option Nat} {Q : Int32 → Hp → Prop} {h : Hp} {a0 : Nat} {x1 : Int32} (hw : wX12_shown S h a0 x1 Q) : Ct E yX12_shown cX12_shown 2 (some .int) 2 46 0 0 S Z h [vr a0, vi x1] (qI S Z Q) := by
  refine Ct.of (by decide) (lc := [some (vr a0), some (vi x1)]) (Nat.le_of_ble_eq_true rfl) rfl (fun X O => ?_)
  unfold wX12_shown at hw
  refine g_aload_n O dX12_shown_0 rfl ?_
  refine g_iconst O dX12_shown_1 kv_0 ?_
  obtain ⟨c2, hw⟩ := hw
  refine pf_X12_thrown O dX12_shown_2 fl_X12_121 c2 ?_
  refine g_iload_n O dX12_shown_5 rfl ?_
  refine g_iconst O dX12_shown_6 kv_0 ?_
  refine g_iconst O dX12_shown_7 kv_2 ?_
  refine g_callS (As := [vi x1, vi (0 : Int32), vi (2 : Int32)]) (rest := []) O dX12_shown_8 ml_X12_142 st_yX12_in ini_X12 co_yX12_in yo_yX12_in rfl rfl (Nat.le_of_ble_eq_true rfl) ⟨by decide, by decide, by decide, by decide⟩ (okX12_in hw) (k_I fun r8 h8 hw => ?_)
  refine g_if_ne (tgt := 20) O dX12_shown_11 rfl (fun q11 => ?_) (fun q11 => ?_)
  · have hw := hw.1 q11
    refine g_aload_n O dX12_shown_20 rfl ?_
    refine g_aload_n O dX12_shown_21 rfl ?_
    refine gf_X12_isShown O dX12_shown_22 fl_X12_362 c2 ?_
    refine g_if_ne (tgt := 33) O dX12_shown_25 rfl (fun q25 => ?_) (fun q25 => ?_)
    · have hw := hw.1 q25
      refine g_iload_n O dX12_shown_33 rfl ?_
      refine g_if_ne (tgt := 44) O dX12_shown_34 rfl (fun q34 => ?_) (fun q34 => ?_)
      · have hw := hw.1 q34
        refine g_iload_n O dX12_shown_44 rfl ?_
        refine g_iconst O dX12_shown_45 kv_1 ?_
        refine g_icmp_ne (tgt := 56) O dX12_shown_46 rfl (fun q46 => ?_) (fun q46 => ?_)
        · have hw := hw.1 q46
          refine g_aload_n O dX12_shown_56 rfl ?_
          refine gf_X12_shownPick O dX12_shown_57 fl_X12_441 c2 ?_
          refine g_callV (As := [vi (gI h8 a0 52)]) (rest := []) O ci_12 rfl dX12_shown_60 ml_X12_365 im_yX12_good se_yX12_good ini_X12 co_yX12_good yo_yX12_good c2 rfl rfl (Nat.le_of_ble_eq_true rfl) ⟨by decide, by decide, by decide, by decide⟩ (okX12_good hw) (k_I fun r60 h60 hw => ?_)
          exact g_ireturn O dX12_shown_63 ⟨rfl, rfl, _, rfl, hw⟩
        · have hw := hw.2 q46
          refine g_aload_n O dX12_shown_49 rfl ?_
          refine gf_X12_shownS O dX12_shown_50 fl_X12_438 c2 ?_
          refine g_goto (tgt := 60) O dX12_shown_53 rfl ?_
          refine g_callV (As := [vi (gI h8 a0 51)]) (rest := []) O ci_12 rfl dX12_shown_60 ml_X12_365 im_yX12_good se_yX12_good ini_X12 co_yX12_good yo_yX12_good c2 rfl rfl (Nat.le_of_ble_eq_true rfl) ⟨by decide, by decide, by decide, by decide⟩ (okX12_good hw) (k_I fun r60 h60 hw => ?_)
          exact g_ireturn O dX12_shown_63 ⟨rfl, rfl, _, rfl, hw⟩
      · have hw := hw.2 q34
        refine g_aload_n O dX12_shown_37 rfl ?_
        refine gf_X12_shownA O dX12_shown_38 fl_X12_435 c2 ?_
        refine g_goto (tgt := 60) O dX12_shown_41 rfl ?_
        refine g_callV (As := [vi (gI h8 a0 50)]) (rest := []) O ci_12 rfl dX12_shown_60 ml_X12_365 im_yX12_good se_yX12_good ini_X12 co_yX12_good yo_yX12_good c2 rfl rfl (Nat.le_of_ble_eq_true rfl) ⟨by decide, by decide, by decide, by decide⟩ (okX12_good hw) (k_I fun r60 h60 hw => ?_)
        exact g_ireturn O dX12_shown_63 ⟨rfl, rfl, _, rfl, hw⟩
    · have hw := hw.2 q25
      refine g_bipush O dX12_shown_28 kb_m2 ?_
      refine g_goto (tgt := 60) O dX12_shown_30 rfl ?_
      refine g_callV (As := [vi (-2 : Int32)]) (rest := []) O ci_12 rfl dX12_shown_60 ml_X12_365 im_yX12_good se_yX12_good ini_X12 co_yX12_good yo_yX12_good c2 rfl rfl (Nat.le_of_ble_eq_true rfl) ⟨by decide, by decide, by decide, by decide⟩ (okX12_good hw) (k_I fun r60 h60 hw => ?_)
      exact g_ireturn O dX12_shown_63 ⟨rfl, rfl, _, rfl, hw⟩
  · have hw := hw.2 q11
    refine g_aload_n O dX12_shown_14 rfl ?_
    refine g_iconst O dX12_shown_15 kv_1 ?_
    refine g_callV (As := [vi (1 : Int32)]) (rest := []) O ci_12 rfl dX12_shown_16 ml_X12_350 im_yX12_refused se_yX12_refused ini_X12 co_yX12_refused yo_yX12_refused c2 rfl rfl (Nat.le_of_ble_eq_true rfl) ⟨by decide, by decide, by decide, by decide⟩ (okX12_refused hw) (k_I fun r16 h16 hw => ?_)
    exact g_ireturn O dX12_shown_19 ⟨rfl, rfl, _, rfl, hw⟩
theorem dX12_size_0 : decode cX12_size 0 = .ok (.aload_n 0, 1) := by decide +kernel
theorem dX12_size_1 : decode cX12_size 1 = .ok (.iconst 0, 1) := by decide +kernel
theorem dX12_size_2 : decode cX12_size 2 = .ok (.putfield 121, 3) := by decide +kernel
theorem dX12_size_5 : decode cX12_size 5 = .ok (.aload_n 0, 1) := by decide +kernel
theorem dX12_size_6 : decode cX12_size 6 = .ok (.getfield 127, 3) := by decide +kernel
theorem dX12_size_9 : decode cX12_size 9 = .ok (.ireturn, 1) := by decide +kernel
theorem okX12_size {E : Ev} {S : Sh} {Z : Option Nat} {Q : Int32 → Hp → Prop} {h : Hp} {a0 : Nat} (hw : wX12_size S h a0 Q) : Ct E yX12_size cX12_size 1 (some .int) 1 24 0 0 S Z h [vr a0] (qI S Z Q) := by
  refine Ct.of (by decide) (lc := [some (vr a0)]) (Nat.le_of_ble_eq_true rfl) rfl (fun X O => ?_)
  unfold wX12_size at hw
  refine g_aload_n O dX12_size_0 rfl ?_
  refine g_iconst O dX12_size_1 kv_0 ?_
  obtain ⟨c2, hw⟩ := hw
  refine pf_X12_thrown O dX12_size_2 fl_X12_121 c2 ?_
  refine g_nmH (fun h2 e2 => ?_)
  have hw := hw h2 e2
  refine g_aload_n O dX12_size_5 rfl ?_
  refine gf_X12_taped O dX12_size_6 fl_X12_127 c2 ?_
  exact g_ireturn O dX12_size_9 ⟨rfl, rfl, _, rfl, hw⟩
theorem dX12_sound_0 : decode cX12_sound 0 = .ok (.aload_n 0, 1) := by decide +kernel
theorem dX12_sound_1 : decode cX12_sound 1 = .ok (.iconst 0, 1) := by decide +kernel
theorem dX12_sound_2 : decode cX12_sound 2 = .ok (.putfield 121, 3) := by decide +kernel
theorem dX12_sound_5 : decode cX12_sound 5 = .ok (.aload_n 0, 1) := by decide +kernel
theorem dX12_sound_6 : decode cX12_sound 6 = .ok (.iload_n 1, 1) := by decide +kernel
theorem dX12_sound_7 : decode cX12_sound 7 = .ok (.iload_n 2, 1) := by decide +kernel
theorem dX12_sound_8 : decode cX12_sound 8 = .ok (.invokevirtual 405, 3) := by decide +kernel
theorem dX12_sound_11 : decode cX12_sound 11 = .ok (.ifCond .eq 29, 3) := by decide +kernel
theorem dX12_sound_14 : decode cX12_sound 14 = .ok (.aload_n 0, 1) := by decide +kernel
theorem dX12_sound_15 : decode cX12_sound 15 = .ok (.aload_n 0, 1) := by decide +kernel
theorem dX12_sound_16 : decode cX12_sound 16 = .ok (.getfield 97, 3) := by decide +kernel
theorem dX12_sound_19 : decode cX12_sound 19 = .ok (.bipush 100, 2) := by decide +kernel
theorem dX12_sound_21 : decode cX12_sound 21 = .ok (.iload_n 1, 1) := by decide +kernel
theorem dX12_sound_22 : decode cX12_sound 22 = .ok (.imul, 1) := by decide +kernel
theorem dX12_sound_23 : decode cX12_sound 23 = .ok (.iload_n 2, 1) := by decide +kernel
theorem dX12_sound_24 : decode cX12_sound 24 = .ok (.iadd, 1) := by decide +kernel
theorem dX12_sound_25 : decode cX12_sound 25 = .ok (.baload, 1) := by decide +kernel
theorem dX12_sound_26 : decode cX12_sound 26 = .ok (.ifCond .eq 7, 3) := by decide +kernel
theorem dX12_sound_29 : decode cX12_sound 29 = .ok (.iconst 1, 1) := by decide +kernel
theorem dX12_sound_30 : decode cX12_sound 30 = .ok (.goto 4, 3) := by decide +kernel
theorem dX12_sound_33 : decode cX12_sound 33 = .ok (.iconst 0, 1) := by decide +kernel
theorem dX12_sound_34 : decode cX12_sound 34 = .ok (.invokevirtual 365, 3) := by decide +kernel
theorem dX12_sound_37 : decode cX12_sound 37 = .ok (.goto 8, 3) := by decide +kernel
theorem dX12_sound_40 : decode cX12_sound 40 = .ok (.aload_n 0, 1) := by decide +kernel
theorem dX12_sound_41 : decode cX12_sound 41 = .ok (.iconst 1, 1) := by decide +kernel
theorem dX12_sound_42 : decode cX12_sound 42 = .ok (.invokevirtual 350, 3) := by decide +kernel
theorem dX12_sound_45 : decode cX12_sound 45 = .ok (.ireturn, 1) := by decide +kernel
theorem okX12_sound_j34 {E : Ev} {X : Cx} {S : Sh} {Z : Option Nat} {Q : Int32 → Hp → Prop} {h : Hp} {s0 : Nat} {s1 : Int32} (O : Ok E X yX12_sound cX12_sound 3 (some .int) 4 89 0 0 (qI S Z Q)) (hw : wX12_sound_j34 S h s0 s1 Q) : G E X 0 0 S Z h 34 [none, none, none] [vi s1, vr s0] := by
  unfold wX12_sound_j34 at hw
  obtain ⟨c34, hw⟩ := hw
  refine g_callV (As := [vi s1]) (rest := []) O ci_12 rfl dX12_sound_34 ml_X12_365 im_yX12_good se_yX12_good ini_X12 co_yX12_good yo_yX12_good c34 rfl rfl (Nat.le_of_ble_eq_true rfl) ⟨by decide, by decide, by decide, by decide⟩ (okX12_good hw) (k_I fun r34 h34 hw => ?_)
  refine g_goto (tgt := 45) O dX12_sound_37 rfl ?_
  exact g_ireturn O dX12_sound_45 ⟨rfl, rfl, _, rfl, hw⟩
theorem okX12_sound {E : Ev} {S : Sh} {Z : Option Nat} {Q : Int32 → Hp → Prop} {h : Hp} {a0 : Nat} {x1 : Int32} {x2 : Int32} (hw : wX12_sound S h a0 x1 x2 Q) : Ct E yX12_sound cX12_sound 3 (some .int) 4 89 0 0 S Z h [vr a0, vi x1, vi x2] (qI S Z Q) := by
  refine Ct.of (by decide) (lc := [some (vr a0), some (vi x1), some (vi x2)]) (Nat.le_of_ble_eq_true rfl) rfl (fun X O => ?_)
  unfold wX12_sound at hw
  refine g_aload_n O dX12_sound_0 rfl ?_
  refine g_iconst O dX12_sound_1 kv_0 ?_
  obtain ⟨c2, hw⟩ := hw
  refine pf_X12_thrown O dX12_sound_2 fl_X12_121 c2 ?_
  refine g_aload_n O dX12_sound_5 rfl ?_
  refine g_iload_n O dX12_sound_6 rfl ?_
  refine g_iload_n O dX12_sound_7 rfl ?_
  refine g_callV (As := [vi x1, vi x2]) (rest := []) O ci_12 rfl dX12_sound_8 ml_X12_405 im_yX12_isState se_yX12_isState ini_X12 co_yX12_isState yo_yX12_isState c2 rfl rfl (Nat.le_of_ble_eq_true rfl) ⟨by decide, by decide, by decide, by decide⟩ (okX12_isState hw) (k_I fun r8 h8 hw => ?_)
  refine g_if_eq (tgt := 40) O dX12_sound_11 rfl (fun q11 => ?_) (fun q11 => ?_)
  · have hw := hw.1 q11
    refine g_aload_n O dX12_sound_40 rfl ?_
    refine g_iconst O dX12_sound_41 kv_1 ?_
    refine g_callV (As := [vi (1 : Int32)]) (rest := []) O ci_12 rfl dX12_sound_42 ml_X12_350 im_yX12_refused se_yX12_refused ini_X12 co_yX12_refused yo_yX12_refused c2 rfl rfl (Nat.le_of_ble_eq_true rfl) ⟨by decide, by decide, by decide, by decide⟩ (okX12_refused hw) (k_I fun r42 h42 hw => ?_)
    exact g_ireturn O dX12_sound_45 ⟨rfl, rfl, _, rfl, hw⟩
  · have hw := hw.2 q11
    refine g_aload_n O dX12_sound_14 rfl ?_
    refine g_aload_n O dX12_sound_15 rfl ?_
    refine gf_X12_isSound O dX12_sound_16 fl_X12_97 c2 ?_
    refine g_bipush O dX12_sound_19 kb_100 ?_
    refine g_iload_n O dX12_sound_21 rfl ?_
    refine g_imul O dX12_sound_22 ?_
    refine g_iload_n O dX12_sound_23 rfl ?_
    refine g_iadd O dX12_sound_24 ?_
    obtain ⟨c25, hw⟩ := hw
    refine g_zaload O dX12_sound_25 c25.1 c25.2 ?_
    refine g_if_eq (tgt := 33) O dX12_sound_26 rfl (fun q26 => ?_) (fun q26 => ?_)
    · have hw := hw.1 q26
      refine g_iconst O dX12_sound_33 kv_0 ?_
      refine g_mask [false, false, false] rfl rfl ?_
      exact okX12_sound_j34 O hw
    · have hw := hw.2 q26
      refine g_iconst O dX12_sound_29 kv_1 ?_
      refine g_goto (tgt := 34) O dX12_sound_30 rfl ?_
      refine g_mask [false, false, false] rfl rfl ?_
      exact okX12_sound_j34 O hw
theorem dX12_step_0 : decode cX12_step 0 = .ok (.aload_n 0, 1) := by decide +kernel
theorem dX12_step_1 : decode cX12_step 1 = .ok (.iconst 0, 1) := by decide +kernel
theorem dX12_step_2 : decode cX12_step 2 = .ok (.putfield 121, 3) := by decide +kernel
theorem dX12_step_5 : decode cX12_step 5 = .ok (.aload_n 0, 1) := by decide +kernel
theorem dX12_step_6 : decode cX12_step 6 = .ok (.getfield 106, 3) := by decide +kernel
theorem dX12_step_9 : decode cX12_step 9 = .ok (.iconst (-1), 1) := by decide +kernel
theorem dX12_step_10 : decode cX12_step 10 = .ok (.if_icmp .eq 15, 3) := by decide +kernel
theorem dX12_step_13 : decode cX12_step 13 = .ok (.aload_n 0, 1) := by decide +kernel
theorem dX12_step_14 : decode cX12_step 14 = .ok (.aload_n 0, 1) := by decide +kernel
theorem dX12_step_15 : decode cX12_step 15 = .ok (.getfield 106, 3) := by decide +kernel
theorem dX12_step_18 : decode cX12_step 18 = .ok (.iload_n 1, 1) := by decide +kernel
theorem dX12_step_19 : decode cX12_step 19 = .ok (.invokevirtual 402, 3) := by decide +kernel
theorem dX12_step_22 : decode cX12_step 22 = .ok (.ifCond .ne 9, 3) := by decide +kernel
theorem dX12_step_25 : decode cX12_step 25 = .ok (.aload_n 0, 1) := by decide +kernel
theorem dX12_step_26 : decode cX12_step 26 = .ok (.iconst 1, 1) := by decide +kernel
theorem dX12_step_27 : decode cX12_step 27 = .ok (.invokevirtual 350, 3) := by decide +kernel
theorem dX12_step_30 : decode cX12_step 30 = .ok (.ireturn, 1) := by decide +kernel
theorem dX12_step_31 : decode cX12_step 31 = .ok (.aload_n 0, 1) := by decide +kernel
theorem dX12_step_32 : decode cX12_step 32 = .ok (.aload_n 0, 1) := by decide +kernel
theorem dX12_step_33 : decode cX12_step 33 = .ok (.getfield 106, 3) := by decide +kernel
theorem dX12_step_36 : decode cX12_step 36 = .ok (.iload_n 1, 1) := by decide +kernel
theorem dX12_step_37 : decode cX12_step 37 = .ok (.iload_n 2, 1) := by decide +kernel
theorem dX12_step_38 : decode cX12_step 38 = .ok (.invokevirtual 408, 3) := by decide +kernel
theorem dX12_step_41 : decode cX12_step 41 = .ok (.ifCond .ne 9, 3) := by decide +kernel
theorem dX12_step_44 : decode cX12_step 44 = .ok (.aload_n 0, 1) := by decide +kernel
theorem dX12_step_45 : decode cX12_step 45 = .ok (.iconst 2, 1) := by decide +kernel
theorem dX12_step_46 : decode cX12_step 46 = .ok (.invokevirtual 350, 3) := by decide +kernel
theorem dX12_step_49 : decode cX12_step 49 = .ok (.ireturn, 1) := by decide +kernel
theorem dX12_step_50 : decode cX12_step 50 = .ok (.aload_n 0, 1) := by decide +kernel
theorem dX12_step_51 : decode cX12_step 51 = .ok (.aload_n 0, 1) := by decide +kernel
theorem dX12_step_52 : decode cX12_step 52 = .ok (.getfield 106, 3) := by decide +kernel
theorem dX12_step_55 : decode cX12_step 55 = .ok (.iload_n 1, 1) := by decide +kernel
theorem dX12_step_56 : decode cX12_step 56 = .ok (.aload_n 0, 1) := by decide +kernel
theorem dX12_step_57 : decode cX12_step 57 = .ok (.getfield 473, 3) := by decide +kernel
theorem dX12_step_60 : decode cX12_step 60 = .ok (.iload_n 2, 1) := by decide +kernel
theorem dX12_step_61 : decode cX12_step 61 = .ok (.invokevirtual 482, 3) := by decide +kernel
theorem dX12_step_64 : decode cX12_step 64 = .ok (.ifCond .ne 9, 3) := by decide +kernel
theorem dX12_step_67 : decode cX12_step 67 = .ok (.aload_n 0, 1) := by decide +kernel
theorem dX12_step_68 : decode cX12_step 68 = .ok (.iconst 5, 1) := by decide +kernel
theorem dX12_step_69 : decode cX12_step 69 = .ok (.invokevirtual 350, 3) := by decide +kernel
theorem dX12_step_72 : decode cX12_step 72 = .ok (.ireturn, 1) := by decide +kernel
theorem dX12_step_73 : decode cX12_step 73 = .ok (.aload_n 0, 1) := by decide +kernel
theorem dX12_step_74 : decode cX12_step 74 = .ok (.iload_n 1, 1) := by decide +kernel
theorem dX12_step_75 : decode cX12_step 75 = .ok (.iload_n 2, 1) := by decide +kernel
theorem dX12_step_76 : decode cX12_step 76 = .ok (.invokevirtual 485, 3) := by decide +kernel
theorem dX12_step_79 : decode cX12_step 79 = .ok (.aload_n 0, 1) := by decide +kernel
theorem dX12_step_80 : decode cX12_step 80 = .ok (.aload_n 0, 1) := by decide +kernel
theorem dX12_step_81 : decode cX12_step 81 = .ok (.getfield 473, 3) := by decide +kernel
theorem dX12_step_84 : decode cX12_step 84 = .ok (.invokevirtual 365, 3) := by decide +kernel
theorem dX12_step_87 : decode cX12_step 87 = .ok (.ireturn, 1) := by decide +kernel
theorem okX12_step {E : Ev} {S : Sh} {Z : Option Nat} {Q : Int32 → Hp → Prop} {h : Hp} {a0 : Nat} {x1 : Int32} {x2 : Int32} (hw : wX12_step S h a0 x1 x2 Q) : Ct E yX12_step cX12_step 3 (some .int) 6 161 0 0 S Z h [vr a0, vi x1, vi x2] (qI S Z Q) := by
  refine Ct.of (by decide) (lc := [some (vr a0), some (vi x1), some (vi x2)]) (Nat.le_of_ble_eq_true rfl) rfl (fun X O => ?_)
  unfold wX12_step at hw
  refine g_aload_n O dX12_step_0 rfl ?_
  refine g_iconst O dX12_step_1 kv_0 ?_
  obtain ⟨c2, hw⟩ := hw
  refine pf_X12_thrown O dX12_step_2 fl_X12_121 c2 ?_
  refine g_nmH (fun h2 e2 => ?_)
  have hw := hw h2 e2
  refine g_aload_n O dX12_step_5 rfl ?_
  refine gf_X12_runOf O dX12_step_6 fl_X12_106 c2 ?_
  refine g_iconst O dX12_step_9 kv_m1 ?_
  refine g_icmp_eq (tgt := 25) O dX12_step_10 rfl (fun q10 => ?_) (fun q10 => ?_)
  · have hw := hw.1 q10
    refine g_aload_n O dX12_step_25 rfl ?_
    refine g_iconst O dX12_step_26 kv_1 ?_
    refine g_callV (As := [vi (1 : Int32)]) (rest := []) O ci_12 rfl dX12_step_27 ml_X12_350 im_yX12_refused se_yX12_refused ini_X12 co_yX12_refused yo_yX12_refused c2 rfl rfl (Nat.le_of_ble_eq_true rfl) ⟨by decide, by decide, by decide, by decide⟩ (okX12_refused hw) (k_I fun r27 h27 hw => ?_)
    exact g_ireturn O dX12_step_30 ⟨rfl, rfl, _, rfl, hw⟩
  · have hw := hw.2 q10
    refine g_aload_n O dX12_step_13 rfl ?_
    refine g_aload_n O dX12_step_14 rfl ?_
    refine gf_X12_runOf O dX12_step_15 fl_X12_106 c2 ?_
    refine g_iload_n O dX12_step_18 rfl ?_
    refine g_callV (As := [vi (gI h2 a0 56), vi x1]) (rest := []) O ci_12 rfl dX12_step_19 ml_X12_402 im_yX12_isEvent se_yX12_isEvent ini_X12 co_yX12_isEvent yo_yX12_isEvent c2 rfl rfl (Nat.le_of_ble_eq_true rfl) ⟨by decide, by decide, by decide, by decide⟩ (okX12_isEvent hw) (k_I fun r19 h19 hw => ?_)
    refine g_if_ne (tgt := 31) O dX12_step_22 rfl (fun q22 => ?_) (fun q22 => ?_)
    · have hw := hw.1 q22
      refine g_aload_n O dX12_step_31 rfl ?_
      refine g_aload_n O dX12_step_32 rfl ?_
      refine gf_X12_runOf O dX12_step_33 fl_X12_106 c2 ?_
      refine g_iload_n O dX12_step_36 rfl ?_
      refine g_iload_n O dX12_step_37 rfl ?_
      refine g_callV (As := [vi (gI h19 a0 56), vi x1, vi x2]) (rest := []) O ci_12 rfl dX12_step_38 ml_X12_408 im_yX12_isPick se_yX12_isPick ini_X12 co_yX12_isPick yo_yX12_isPick c2 rfl rfl (Nat.le_of_ble_eq_true rfl) ⟨by decide, by decide, by decide, by decide⟩ (okX12_isPick hw) (k_I fun r38 h38 hw => ?_)
      refine g_if_ne (tgt := 50) O dX12_step_41 rfl (fun q41 => ?_) (fun q41 => ?_)
      · have hw := hw.1 q41
        refine g_aload_n O dX12_step_50 rfl ?_
        refine g_aload_n O dX12_step_51 rfl ?_
        refine gf_X12_runOf O dX12_step_52 fl_X12_106 c2 ?_
        refine g_iload_n O dX12_step_55 rfl ?_
        refine g_aload_n O dX12_step_56 rfl ?_
        refine gf_X12_runState O dX12_step_57 fl_X12_473 c2 ?_
        refine g_iload_n O dX12_step_60 rfl ?_
        refine g_callV (As := [vi (gI h38 a0 56), vi x1, vi (gI h38 a0 57), vi x2]) (rest := []) O ci_12 rfl dX12_step_61 ml_X12_482 im_yX12_goes se_yX12_goes ini_X12 co_yX12_goes yo_yX12_goes c2 rfl rfl (Nat.le_of_ble_eq_true rfl) ⟨by decide, by decide, by decide, by decide⟩ (okX12_goes hw) (k_I fun r61 h61 hw => ?_)
        refine g_if_ne (tgt := 73) O dX12_step_64 rfl (fun q64 => ?_) (fun q64 => ?_)
        · have hw := hw.1 q64
          refine g_aload_n O dX12_step_73 rfl ?_
          refine g_iload_n O dX12_step_74 rfl ?_
          refine g_iload_n O dX12_step_75 rfl ?_
          refine g_callV (As := [vi x1, vi x2]) (rest := []) O ci_12 rfl dX12_step_76 ml_X12_485 im_yX12_makes se_yX12_makes ini_X12 co_yX12_makes yo_yX12_makes c2 rfl rfl (Nat.le_of_ble_eq_true rfl) ⟨by decide, by decide, by decide, by decide⟩ (okX12_makes hw) (k_V fun h76 hw => ?_)
          refine g_aload_n O dX12_step_79 rfl ?_
          refine g_aload_n O dX12_step_80 rfl ?_
          refine gf_X12_runState O dX12_step_81 fl_X12_473 c2 ?_
          refine g_callV (As := [vi (gI h76 a0 57)]) (rest := []) O ci_12 rfl dX12_step_84 ml_X12_365 im_yX12_good se_yX12_good ini_X12 co_yX12_good yo_yX12_good c2 rfl rfl (Nat.le_of_ble_eq_true rfl) ⟨by decide, by decide, by decide, by decide⟩ (okX12_good hw) (k_I fun r84 h84 hw => ?_)
          exact g_ireturn O dX12_step_87 ⟨rfl, rfl, _, rfl, hw⟩
        · have hw := hw.2 q64
          refine g_aload_n O dX12_step_67 rfl ?_
          refine g_iconst O dX12_step_68 kv_5 ?_
          refine g_callV (As := [vi (5 : Int32)]) (rest := []) O ci_12 rfl dX12_step_69 ml_X12_350 im_yX12_refused se_yX12_refused ini_X12 co_yX12_refused yo_yX12_refused c2 rfl rfl (Nat.le_of_ble_eq_true rfl) ⟨by decide, by decide, by decide, by decide⟩ (okX12_refused hw) (k_I fun r69 h69 hw => ?_)
          exact g_ireturn O dX12_step_72 ⟨rfl, rfl, _, rfl, hw⟩
      · have hw := hw.2 q41
        refine g_aload_n O dX12_step_44 rfl ?_
        refine g_iconst O dX12_step_45 kv_2 ?_
        refine g_callV (As := [vi (2 : Int32)]) (rest := []) O ci_12 rfl dX12_step_46 ml_X12_350 im_yX12_refused se_yX12_refused ini_X12 co_yX12_refused yo_yX12_refused c2 rfl rfl (Nat.le_of_ble_eq_true rfl) ⟨by decide, by decide, by decide, by decide⟩ (okX12_refused hw) (k_I fun r46 h46 hw => ?_)
        exact g_ireturn O dX12_step_49 ⟨rfl, rfl, _, rfl, hw⟩
    · have hw := hw.2 q22
      refine g_aload_n O dX12_step_25 rfl ?_
      refine g_iconst O dX12_step_26 kv_1 ?_
      refine g_callV (As := [vi (1 : Int32)]) (rest := []) O ci_12 rfl dX12_step_27 ml_X12_350 im_yX12_refused se_yX12_refused ini_X12 co_yX12_refused yo_yX12_refused c2 rfl rfl (Nat.le_of_ble_eq_true rfl) ⟨by decide, by decide, by decide, by decide⟩ (okX12_refused hw) (k_I fun r27 h27 hw => ?_)
      exact g_ireturn O dX12_step_30 ⟨rfl, rfl, _, rfl, hw⟩
theorem dX12_steps_0 : decode cX12_steps 0 = .ok (.aload_n 0, 1) := by decide +kernel
theorem dX12_steps_1 : decode cX12_steps 1 = .ok (.iconst 0, 1) := by decide +kernel
theorem dX12_steps_2 : decode cX12_steps 2 = .ok (.putfield 121, 3) := by decide +kernel
theorem dX12_steps_5 : decode cX12_steps 5 = .ok (.aload_n 0, 1) := by decide +kernel
theorem dX12_steps_6 : decode cX12_steps 6 = .ok (.iload_n 1, 1) := by decide +kernel
theorem dX12_steps_7 : decode cX12_steps 7 = .ok (.iload_n 2, 1) := by decide +kernel
theorem dX12_steps_8 : decode cX12_steps 8 = .ok (.invokevirtual 405, 3) := by decide +kernel
theorem dX12_steps_11 : decode cX12_steps 11 = .ok (.ifCond .ne 9, 3) := by decide +kernel
theorem dX12_steps_14 : decode cX12_steps 14 = .ok (.aload_n 0, 1) := by decide +kernel
theorem dX12_steps_15 : decode cX12_steps 15 = .ok (.iconst 1, 1) := by decide +kernel
theorem dX12_steps_16 : decode cX12_steps 16 = .ok (.invokevirtual 350, 3) := by decide +kernel
theorem dX12_steps_19 : decode cX12_steps 19 = .ok (.ireturn, 1) := by decide +kernel
theorem dX12_steps_20 : decode cX12_steps 20 = .ok (.aload_n 0, 1) := by decide +kernel
theorem dX12_steps_21 : decode cX12_steps 21 = .ok (.iload_n 1, 1) := by decide +kernel
theorem dX12_steps_22 : decode cX12_steps 22 = .ok (.invokevirtual 514, 3) := by decide +kernel
theorem dX12_steps_25 : decode cX12_steps 25 = .ok (.aload_n 0, 1) := by decide +kernel
theorem dX12_steps_26 : decode cX12_steps 26 = .ok (.aload_n 0, 1) := by decide +kernel
theorem dX12_steps_27 : decode cX12_steps 27 = .ok (.getfield 115, 3) := by decide +kernel
theorem dX12_steps_30 : decode cX12_steps 30 = .ok (.iload_n 2, 1) := by decide +kernel
theorem dX12_steps_31 : decode cX12_steps 31 = .ok (.iaload, 1) := by decide +kernel
theorem dX12_steps_32 : decode cX12_steps 32 = .ok (.invokevirtual 365, 3) := by decide +kernel
theorem dX12_steps_35 : decode cX12_steps 35 = .ok (.ireturn, 1) := by decide +kernel
theorem okX12_steps {E : Ev} {S : Sh} {Z : Option Nat} {Q : Int32 → Hp → Prop} {h : Hp} {a0 : Nat} {x1 : Int32} {x2 : Int32} (hw : wX12_steps S h a0 x1 x2 Q) : Ct E yX12_steps cX12_steps 3 (some .int) 5 136 0 0 S Z h [vr a0, vi x1, vi x2] (qI S Z Q) := by
  refine Ct.of (by decide) (lc := [some (vr a0), some (vi x1), some (vi x2)]) (Nat.le_of_ble_eq_true rfl) rfl (fun X O => ?_)
  unfold wX12_steps at hw
  refine g_aload_n O dX12_steps_0 rfl ?_
  refine g_iconst O dX12_steps_1 kv_0 ?_
  obtain ⟨c2, hw⟩ := hw
  refine pf_X12_thrown O dX12_steps_2 fl_X12_121 c2 ?_
  refine g_aload_n O dX12_steps_5 rfl ?_
  refine g_iload_n O dX12_steps_6 rfl ?_
  refine g_iload_n O dX12_steps_7 rfl ?_
  refine g_callV (As := [vi x1, vi x2]) (rest := []) O ci_12 rfl dX12_steps_8 ml_X12_405 im_yX12_isState se_yX12_isState ini_X12 co_yX12_isState yo_yX12_isState c2 rfl rfl (Nat.le_of_ble_eq_true rfl) ⟨by decide, by decide, by decide, by decide⟩ (okX12_isState hw) (k_I fun r8 h8 hw => ?_)
  refine g_if_ne (tgt := 20) O dX12_steps_11 rfl (fun q11 => ?_) (fun q11 => ?_)
  · have hw := hw.1 q11
    refine g_aload_n O dX12_steps_20 rfl ?_
    refine g_iload_n O dX12_steps_21 rfl ?_
    refine g_callV (As := [vi x1]) (rest := []) O ci_12 rfl dX12_steps_22 ml_X12_514 im_yX12_spreads se_yX12_spreads ini_X12 co_yX12_spreads yo_yX12_spreads c2 rfl rfl (Nat.le_of_ble_eq_true rfl) ⟨by decide, by decide, by decide, by decide⟩ (okX12_spreads hw) (k_V fun h22 hw => ?_)
    refine g_aload_n O dX12_steps_25 rfl ?_
    refine g_aload_n O dX12_steps_26 rfl ?_
    refine gf_X12_far O dX12_steps_27 fl_X12_115 c2 ?_
    refine g_iload_n O dX12_steps_30 rfl ?_
    obtain ⟨c31, hw⟩ := hw
    refine g_iaload O dX12_steps_31 c31.1 c31.2 ?_
    refine g_callV (As := [vi ((gI h22 (gR h22 a0 62) (ix x2)))]) (rest := []) O ci_12 rfl dX12_steps_32 ml_X12_365 im_yX12_good se_yX12_good ini_X12 co_yX12_good yo_yX12_good c2 rfl rfl (Nat.le_of_ble_eq_true rfl) ⟨by decide, by decide, by decide, by decide⟩ (okX12_good hw) (k_I fun r32 h32 hw => ?_)
    exact g_ireturn O dX12_steps_35 ⟨rfl, rfl, _, rfl, hw⟩
  · have hw := hw.2 q11
    refine g_aload_n O dX12_steps_14 rfl ?_
    refine g_iconst O dX12_steps_15 kv_1 ?_
    refine g_callV (As := [vi (1 : Int32)]) (rest := []) O ci_12 rfl dX12_steps_16 ml_X12_350 im_yX12_refused se_yX12_refused ini_X12 co_yX12_refused yo_yX12_refused c2 rfl rfl (Nat.le_of_ble_eq_true rfl) ⟨by decide, by decide, by decide, by decide⟩ (okX12_refused hw) (k_I fun r16 h16 hw => ?_)
    exact g_ireturn O dX12_steps_19 ⟨rfl, rfl, _, rfl, hw⟩
theorem dX12_stuck_0 : decode cX12_stuck 0 = .ok (.aload_n 0, 1) := by decide +kernel
theorem dX12_stuck_1 : decode cX12_stuck 1 = .ok (.iconst 0, 1) := by decide +kernel
theorem dX12_stuck_2 : decode cX12_stuck 2 = .ok (.putfield 121, 3) := by decide +kernel
theorem dX12_stuck_5 : decode cX12_stuck 5 = .ok (.aload_n 0, 1) := by decide +kernel
theorem dX12_stuck_6 : decode cX12_stuck 6 = .ok (.iload_n 1, 1) := by decide +kernel
theorem dX12_stuck_7 : decode cX12_stuck 7 = .ok (.invokevirtual 389, 3) := by decide +kernel
theorem dX12_stuck_10 : decode cX12_stuck 10 = .ok (.ifCond .ne 9, 3) := by decide +kernel
theorem dX12_stuck_13 : decode cX12_stuck 13 = .ok (.aload_n 0, 1) := by decide +kernel
theorem dX12_stuck_14 : decode cX12_stuck 14 = .ok (.iconst 1, 1) := by decide +kernel
theorem dX12_stuck_15 : decode cX12_stuck 15 = .ok (.invokevirtual 350, 3) := by decide +kernel
theorem dX12_stuck_18 : decode cX12_stuck 18 = .ok (.ireturn, 1) := by decide +kernel
theorem dX12_stuck_19 : decode cX12_stuck 19 = .ok (.aload_n 0, 1) := by decide +kernel
theorem dX12_stuck_20 : decode cX12_stuck 20 = .ok (.iload_n 1, 1) := by decide +kernel
theorem dX12_stuck_21 : decode cX12_stuck 21 = .ok (.invokevirtual 514, 3) := by decide +kernel
theorem dX12_stuck_24 : decode cX12_stuck 24 = .ok (.bipush (-2), 2) := by decide +kernel
theorem dX12_stuck_26 : decode cX12_stuck 26 = .ok (.istore_n 2, 1) := by decide +kernel
theorem dX12_stuck_27 : decode cX12_stuck 27 = .ok (.iconst 0, 1) := by decide +kernel
theorem dX12_stuck_28 : decode cX12_stuck 28 = .ok (.istore_n 3, 1) := by decide +kernel
theorem dX12_stuck_29 : decode cX12_stuck 29 = .ok (.iload_n 3, 1) := by decide +kernel
theorem dX12_stuck_30 : decode cX12_stuck 30 = .ok (.aload_n 0, 1) := by decide +kernel
theorem dX12_stuck_31 : decode cX12_stuck 31 = .ok (.getfield 36, 3) := by decide +kernel
theorem dX12_stuck_34 : decode cX12_stuck 34 = .ok (.iload_n 1, 1) := by decide +kernel
theorem dX12_stuck_35 : decode cX12_stuck 35 = .ok (.iaload, 1) := by decide +kernel
theorem dX12_stuck_36 : decode cX12_stuck 36 = .ok (.if_icmp .ge 52, 3) := by decide +kernel
theorem dX12_stuck_39 : decode cX12_stuck 39 = .ok (.aload_n 0, 1) := by decide +kernel
theorem dX12_stuck_40 : decode cX12_stuck 40 = .ok (.getfield 115, 3) := by decide +kernel
theorem dX12_stuck_43 : decode cX12_stuck 43 = .ok (.iload_n 3, 1) := by decide +kernel
theorem dX12_stuck_44 : decode cX12_stuck 44 = .ok (.iaload, 1) := by decide +kernel
theorem dX12_stuck_45 : decode cX12_stuck 45 = .ok (.bipush (-2), 2) := by decide +kernel
theorem dX12_stuck_47 : decode cX12_stuck 47 = .ok (.if_icmp .eq 35, 3) := by decide +kernel
theorem dX12_stuck_50 : decode cX12_stuck 50 = .ok (.aload_n 0, 1) := by decide +kernel
theorem dX12_stuck_51 : decode cX12_stuck 51 = .ok (.iload_n 1, 1) := by decide +kernel
theorem dX12_stuck_52 : decode cX12_stuck 52 = .ok (.iload_n 3, 1) := by decide +kernel
theorem dX12_stuck_53 : decode cX12_stuck 53 = .ok (.invokevirtual 517, 3) := by decide +kernel
theorem dX12_stuck_56 : decode cX12_stuck 56 = .ok (.ifCond .ne 26, 3) := by decide +kernel
theorem dX12_stuck_59 : decode cX12_stuck 59 = .ok (.iload_n 2, 1) := by decide +kernel
theorem dX12_stuck_60 : decode cX12_stuck 60 = .ok (.bipush (-2), 2) := by decide +kernel
theorem dX12_stuck_62 : decode cX12_stuck 62 = .ok (.if_icmp .eq 18, 3) := by decide +kernel
theorem dX12_stuck_65 : decode cX12_stuck 65 = .ok (.aload_n 0, 1) := by decide +kernel
theorem dX12_stuck_66 : decode cX12_stuck 66 = .ok (.getfield 115, 3) := by decide +kernel
theorem dX12_stuck_69 : decode cX12_stuck 69 = .ok (.iload_n 3, 1) := by decide +kernel
theorem dX12_stuck_70 : decode cX12_stuck 70 = .ok (.iaload, 1) := by decide +kernel
theorem dX12_stuck_71 : decode cX12_stuck 71 = .ok (.aload_n 0, 1) := by decide +kernel
theorem dX12_stuck_72 : decode cX12_stuck 72 = .ok (.getfield 115, 3) := by decide +kernel
theorem dX12_stuck_75 : decode cX12_stuck 75 = .ok (.iload_n 2, 1) := by decide +kernel
theorem dX12_stuck_76 : decode cX12_stuck 76 = .ok (.iaload, 1) := by decide +kernel
theorem dX12_stuck_77 : decode cX12_stuck 77 = .ok (.if_icmp .ge 5, 3) := by decide +kernel
theorem dX12_stuck_80 : decode cX12_stuck 80 = .ok (.iload_n 3, 1) := by decide +kernel
theorem dX12_stuck_81 : decode cX12_stuck 81 = .ok (.istore_n 2, 1) := by decide +kernel
theorem dX12_stuck_82 : decode cX12_stuck 82 = .ok (.iinc 3 1, 3) := by decide +kernel
theorem dX12_stuck_85 : decode cX12_stuck 85 = .ok (.goto (-56), 3) := by decide +kernel
theorem dX12_stuck_88 : decode cX12_stuck 88 = .ok (.aload_n 0, 1) := by decide +kernel
theorem dX12_stuck_89 : decode cX12_stuck 89 = .ok (.iload_n 2, 1) := by decide +kernel
theorem dX12_stuck_90 : decode cX12_stuck 90 = .ok (.invokevirtual 365, 3) := by decide +kernel
theorem dX12_stuck_93 : decode cX12_stuck 93 = .ok (.ireturn, 1) := by decide +kernel
theorem okX12_stuck_29 {E : Ev} {X : Cx} {S : Sh} {Z : Option Nat} {Q : Int32 → Hp → Prop} {a0 : Nat} {x1 : Int32} (O : Ok E X yX12_stuck cX12_stuck 4 (some .int) 6 159 0 0 (qI S Z Q)) : ∀ (n : Nat) (h : Hp) (x2 : Int32) (x3 : Int32), wX12_stuck_29 S a0 x1 Q n h x2 x3 → G E X 0 0 S Z h 29 [some (vr a0), some (vi x1), some (vi x2), some (vi x3)] [] := by
  intro n
  induction n with
  | zero => intro h x2 x3 hw; exact hw.elim
  | succ n hB29 =>
    intro h x2 x3 hw
    have hw : wX12_stuck_29b S a0 x1 Q (wX12_stuck_29 S a0 x1 Q n) h x2 x3 := hw
    unfold wX12_stuck_29b at hw
    refine g_iload_n O dX12_stuck_29 rfl ?_
    refine g_aload_n O dX12_stuck_30 rfl ?_
    obtain ⟨c31, hw⟩ := hw
    refine gf_X12_sizes O dX12_stuck_31 fl_X12_36 c31 ?_
    refine g_iload_n O dX12_stuck_34 rfl ?_
    obtain ⟨c35, hw⟩ := hw
    refine g_iaload O dX12_stuck_35 c35.1 c35.2 ?_
    refine g_icmp_ge (tgt := 88) O dX12_stuck_36 rfl (fun q36 => ?_) (fun q36 => ?_)
    · have hw := hw.1 q36
      refine g_aload_n O dX12_stuck_88 rfl ?_
      refine g_iload_n O dX12_stuck_89 rfl ?_
      refine g_callV (As := [vi x2]) (rest := []) O ci_12 rfl dX12_stuck_90 ml_X12_365 im_yX12_good se_yX12_good ini_X12 co_yX12_good yo_yX12_good c31 rfl rfl (Nat.le_of_ble_eq_true rfl) ⟨by decide, by decide, by decide, by decide⟩ (okX12_good hw) (k_I fun r90 h90 hw => ?_)
      exact g_ireturn O dX12_stuck_93 ⟨rfl, rfl, _, rfl, hw⟩
    · have hw := hw.2 q36
      refine g_aload_n O dX12_stuck_39 rfl ?_
      refine gf_X12_far O dX12_stuck_40 fl_X12_115 c31 ?_
      refine g_iload_n O dX12_stuck_43 rfl ?_
      obtain ⟨c44, hw⟩ := hw
      refine g_iaload O dX12_stuck_44 c44.1 c44.2 ?_
      refine g_bipush O dX12_stuck_45 kb_m2 ?_
      refine g_icmp_eq (tgt := 82) O dX12_stuck_47 rfl (fun q47 => ?_) (fun q47 => ?_)
      · have hw := hw.1 q47
        refine g_iinc (lc' := [some (vr a0), some (vi x1), some (vi x2), some (vi (x3 + (1 : Int32)))]) O dX12_stuck_82 rfl kv_1 rfl rfl ?_
        refine g_goto (tgt := 29) O dX12_stuck_85 rfl ?_
        exact hB29 _ _ _ hw
      · have hw := hw.2 q47
        refine g_aload_n O dX12_stuck_50 rfl ?_
        refine g_iload_n O dX12_stuck_51 rfl ?_
        refine g_iload_n O dX12_stuck_52 rfl ?_
        refine g_callV (As := [vi x1, vi x3]) (rest := []) O ci_12 rfl dX12_stuck_53 ml_X12_517 im_yX12_leads se_yX12_leads ini_X12 co_yX12_leads yo_yX12_leads c31 rfl rfl (Nat.le_of_ble_eq_true rfl) ⟨by decide, by decide, by decide, by decide⟩ (okX12_leads hw) (k_I fun r53 h53 hw => ?_)
        refine g_if_ne (tgt := 82) O dX12_stuck_56 rfl (fun q56 => ?_) (fun q56 => ?_)
        · have hw := hw.1 q56
          refine g_iinc (lc' := [some (vr a0), some (vi x1), some (vi x2), some (vi (x3 + (1 : Int32)))]) O dX12_stuck_82 rfl kv_1 rfl rfl ?_
          refine g_goto (tgt := 29) O dX12_stuck_85 rfl ?_
          exact hB29 _ _ _ hw
        · have hw := hw.2 q56
          refine g_iload_n O dX12_stuck_59 rfl ?_
          refine g_bipush O dX12_stuck_60 kb_m2 ?_
          refine g_icmp_eq (tgt := 80) O dX12_stuck_62 rfl (fun q62 => ?_) (fun q62 => ?_)
          · have hw := hw.1 q62
            refine g_iload_n O dX12_stuck_80 rfl ?_
            refine g_istore_n (lc' := [some (vr a0), some (vi x1), some (vi x3), some (vi x3)]) O dX12_stuck_81 rfl (Nat.le_of_ble_eq_true rfl) rfl ?_
            refine g_iinc (lc' := [some (vr a0), some (vi x1), some (vi x3), some (vi (x3 + (1 : Int32)))]) O dX12_stuck_82 rfl kv_1 rfl rfl ?_
            refine g_goto (tgt := 29) O dX12_stuck_85 rfl ?_
            exact hB29 _ _ _ hw
          · have hw := hw.2 q62
            refine g_aload_n O dX12_stuck_65 rfl ?_
            refine gf_X12_far O dX12_stuck_66 fl_X12_115 c31 ?_
            refine g_iload_n O dX12_stuck_69 rfl ?_
            obtain ⟨c70, hw⟩ := hw
            refine g_iaload O dX12_stuck_70 c70.1 c70.2 ?_
            refine g_aload_n O dX12_stuck_71 rfl ?_
            refine gf_X12_far O dX12_stuck_72 fl_X12_115 c31 ?_
            refine g_iload_n O dX12_stuck_75 rfl ?_
            obtain ⟨c76, hw⟩ := hw
            refine g_iaload O dX12_stuck_76 c76.1 c76.2 ?_
            refine g_icmp_ge (tgt := 82) O dX12_stuck_77 rfl (fun q77 => ?_) (fun q77 => ?_)
            · have hw := hw.1 q77
              refine g_iinc (lc' := [some (vr a0), some (vi x1), some (vi x2), some (vi (x3 + (1 : Int32)))]) O dX12_stuck_82 rfl kv_1 rfl rfl ?_
              refine g_goto (tgt := 29) O dX12_stuck_85 rfl ?_
              exact hB29 _ _ _ hw
            · have hw := hw.2 q77
              refine g_iload_n O dX12_stuck_80 rfl ?_
              refine g_istore_n (lc' := [some (vr a0), some (vi x1), some (vi x3), some (vi x3)]) O dX12_stuck_81 rfl (Nat.le_of_ble_eq_true rfl) rfl ?_
              refine g_iinc (lc' := [some (vr a0), some (vi x1), some (vi x3), some (vi (x3 + (1 : Int32)))]) O dX12_stuck_82 rfl kv_1 rfl rfl ?_
              refine g_goto (tgt := 29) O dX12_stuck_85 rfl ?_
              exact hB29 _ _ _ hw
theorem okX12_stuck {E : Ev} {S : Sh} {Z : Option Nat} {Q : Int32 → Hp → Prop} {h : Hp} {a0 : Nat} {x1 : Int32} (hw : wX12_stuck S h a0 x1 Q) : Ct E yX12_stuck cX12_stuck 4 (some .int) 6 159 0 0 S Z h [vr a0, vi x1] (qI S Z Q) := by
  refine Ct.of (by decide) (lc := [some (vr a0), some (vi x1), none, none]) (Nat.le_of_ble_eq_true rfl) rfl (fun X O => ?_)
  unfold wX12_stuck at hw
  refine g_aload_n O dX12_stuck_0 rfl ?_
  refine g_iconst O dX12_stuck_1 kv_0 ?_
  obtain ⟨c2, hw⟩ := hw
  refine pf_X12_thrown O dX12_stuck_2 fl_X12_121 c2 ?_
  refine g_aload_n O dX12_stuck_5 rfl ?_
  refine g_iload_n O dX12_stuck_6 rfl ?_
  refine g_callV (As := [vi x1]) (rest := []) O ci_12 rfl dX12_stuck_7 ml_X12_389 im_yX12_isMachine se_yX12_isMachine ini_X12 co_yX12_isMachine yo_yX12_isMachine c2 rfl rfl (Nat.le_of_ble_eq_true rfl) ⟨by decide, by decide, by decide, by decide⟩ (okX12_isMachine hw) (k_I fun r7 h7 hw => ?_)
  refine g_if_ne (tgt := 19) O dX12_stuck_10 rfl (fun q10 => ?_) (fun q10 => ?_)
  · have hw := hw.1 q10
    refine g_aload_n O dX12_stuck_19 rfl ?_
    refine g_iload_n O dX12_stuck_20 rfl ?_
    refine g_callV (As := [vi x1]) (rest := []) O ci_12 rfl dX12_stuck_21 ml_X12_514 im_yX12_spreads se_yX12_spreads ini_X12 co_yX12_spreads yo_yX12_spreads c2 rfl rfl (Nat.le_of_ble_eq_true rfl) ⟨by decide, by decide, by decide, by decide⟩ (okX12_spreads hw) (k_V fun h21 hw => ?_)
    refine g_bipush O dX12_stuck_24 kb_m2 ?_
    refine g_istore_n (lc' := [some (vr a0), some (vi x1), some (vi (-2 : Int32)), none]) O dX12_stuck_26 rfl (Nat.le_of_ble_eq_true rfl) rfl ?_
    refine g_iconst O dX12_stuck_27 kv_0 ?_
    refine g_istore_n (lc' := [some (vr a0), some (vi x1), some (vi (-2 : Int32)), some (vi (0 : Int32))]) O dX12_stuck_28 rfl (Nat.le_of_ble_eq_true rfl) rfl ?_
    obtain ⟨n29, hw⟩ := hw
    exact okX12_stuck_29 O n29 _ _ _ hw
  · have hw := hw.2 q10
    refine g_aload_n O dX12_stuck_13 rfl ?_
    refine g_iconst O dX12_stuck_14 kv_1 ?_
    refine g_callV (As := [vi (1 : Int32)]) (rest := []) O ci_12 rfl dX12_stuck_15 ml_X12_350 im_yX12_refused se_yX12_refused ini_X12 co_yX12_refused yo_yX12_refused c2 rfl rfl (Nat.le_of_ble_eq_true rfl) ⟨by decide, by decide, by decide, by decide⟩ (okX12_refused hw) (k_I fun r15 h15 hw => ?_)
    exact g_ireturn O dX12_stuck_18 ⟨rfl, rfl, _, rfl, hw⟩
theorem dX12_thrown_0 : decode cX12_thrown 0 = .ok (.aload_n 0, 1) := by decide +kernel
theorem dX12_thrown_1 : decode cX12_thrown 1 = .ok (.getfield 121, 3) := by decide +kernel
theorem dX12_thrown_4 : decode cX12_thrown 4 = .ok (.ireturn, 1) := by decide +kernel
theorem okX12_thrown {E : Ev} {S : Sh} {Z : Option Nat} {Q : Int32 → Hp → Prop} {h : Hp} {a0 : Nat} (hw : wX12_thrown S h a0 Q) : Ct E yX12_thrown cX12_thrown 1 (some .int) 1 24 0 0 S Z h [vr a0] (qI S Z Q) := by
  refine Ct.of (by decide) (lc := [some (vr a0)]) (Nat.le_of_ble_eq_true rfl) rfl (fun X O => ?_)
  unfold wX12_thrown at hw
  refine g_aload_n O dX12_thrown_0 rfl ?_
  obtain ⟨c1, hw⟩ := hw
  refine gf_X12_thrown O dX12_thrown_1 fl_X12_121 c1 ?_
  exact g_ireturn O dX12_thrown_4 ⟨rfl, rfl, _, rfl, hw⟩
theorem dX12_trouble_0 : decode cX12_trouble 0 = .ok (.aload_n 0, 1) := by decide +kernel
theorem dX12_trouble_1 : decode cX12_trouble 1 = .ok (.iconst 0, 1) := by decide +kernel
theorem dX12_trouble_2 : decode cX12_trouble 2 = .ok (.putfield 121, 3) := by decide +kernel
theorem dX12_trouble_5 : decode cX12_trouble 5 = .ok (.aload_n 0, 1) := by decide +kernel
theorem dX12_trouble_6 : decode cX12_trouble 6 = .ok (.getfield 124, 3) := by decide +kernel
theorem dX12_trouble_9 : decode cX12_trouble 9 = .ok (.ireturn, 1) := by decide +kernel
theorem okX12_trouble {E : Ev} {S : Sh} {Z : Option Nat} {Q : Int32 → Hp → Prop} {h : Hp} {a0 : Nat} (hw : wX12_trouble S h a0 Q) : Ct E yX12_trouble cX12_trouble 1 (some .int) 1 24 0 0 S Z h [vr a0] (qI S Z Q) := by
  refine Ct.of (by decide) (lc := [some (vr a0)]) (Nat.le_of_ble_eq_true rfl) rfl (fun X O => ?_)
  unfold wX12_trouble at hw
  refine g_aload_n O dX12_trouble_0 rfl ?_
  refine g_iconst O dX12_trouble_1 kv_0 ?_
  obtain ⟨c2, hw⟩ := hw
  refine pf_X12_thrown O dX12_trouble_2 fl_X12_121 c2 ?_
  refine g_nmH (fun h2 e2 => ?_)
  have hw := hw h2 e2
  refine g_aload_n O dX12_trouble_5 rfl ?_
  refine gf_X12_trouble O dX12_trouble_6 fl_X12_124 c2 ?_
  exact g_ireturn O dX12_trouble_9 ⟨rfl, rfl, _, rfl, hw⟩
theorem dX12_unsound_0 : decode cX12_unsound 0 = .ok (.aload_n 0, 1) := by decide +kernel
theorem dX12_unsound_1 : decode cX12_unsound 1 = .ok (.iconst 0, 1) := by decide +kernel
theorem dX12_unsound_2 : decode cX12_unsound 2 = .ok (.putfield 121, 3) := by decide +kernel
theorem dX12_unsound_5 : decode cX12_unsound 5 = .ok (.aload_n 0, 1) := by decide +kernel
theorem dX12_unsound_6 : decode cX12_unsound 6 = .ok (.iload_n 1, 1) := by decide +kernel
theorem dX12_unsound_7 : decode cX12_unsound 7 = .ok (.invokevirtual 389, 3) := by decide +kernel
theorem dX12_unsound_10 : decode cX12_unsound 10 = .ok (.ifCond .ne 9, 3) := by decide +kernel
theorem dX12_unsound_13 : decode cX12_unsound 13 = .ok (.aload_n 0, 1) := by decide +kernel
theorem dX12_unsound_14 : decode cX12_unsound 14 = .ok (.iconst 1, 1) := by decide +kernel
theorem dX12_unsound_15 : decode cX12_unsound 15 = .ok (.invokevirtual 350, 3) := by decide +kernel
theorem dX12_unsound_18 : decode cX12_unsound 18 = .ok (.ireturn, 1) := by decide +kernel
theorem dX12_unsound_19 : decode cX12_unsound 19 = .ok (.aload_n 0, 1) := by decide +kernel
theorem dX12_unsound_20 : decode cX12_unsound 20 = .ok (.iload_n 1, 1) := by decide +kernel
theorem dX12_unsound_21 : decode cX12_unsound 21 = .ok (.invokevirtual 514, 3) := by decide +kernel
theorem dX12_unsound_24 : decode cX12_unsound 24 = .ok (.iconst 0, 1) := by decide +kernel
theorem dX12_unsound_25 : decode cX12_unsound 25 = .ok (.istore_n 2, 1) := by decide +kernel
theorem dX12_unsound_26 : decode cX12_unsound 26 = .ok (.iconst 0, 1) := by decide +kernel
theorem dX12_unsound_27 : decode cX12_unsound 27 = .ok (.istore_n 3, 1) := by decide +kernel
theorem dX12_unsound_28 : decode cX12_unsound 28 = .ok (.iload_n 3, 1) := by decide +kernel
theorem dX12_unsound_29 : decode cX12_unsound 29 = .ok (.aload_n 0, 1) := by decide +kernel
theorem dX12_unsound_30 : decode cX12_unsound 30 = .ok (.getfield 511, 3) := by decide +kernel
theorem dX12_unsound_33 : decode cX12_unsound 33 = .ok (.if_icmp .ge 36, 3) := by decide +kernel
theorem dX12_unsound_36 : decode cX12_unsound 36 = .ok (.iload_n 2, 1) := by decide +kernel
theorem dX12_unsound_37 : decode cX12_unsound 37 = .ok (.aload_n 0, 1) := by decide +kernel
theorem dX12_unsound_38 : decode cX12_unsound 38 = .ok (.getfield 97, 3) := by decide +kernel
theorem dX12_unsound_41 : decode cX12_unsound 41 = .ok (.bipush 100, 2) := by decide +kernel
theorem dX12_unsound_43 : decode cX12_unsound 43 = .ok (.iload_n 1, 1) := by decide +kernel
theorem dX12_unsound_44 : decode cX12_unsound 44 = .ok (.imul, 1) := by decide +kernel
theorem dX12_unsound_45 : decode cX12_unsound 45 = .ok (.aload_n 0, 1) := by decide +kernel
theorem dX12_unsound_46 : decode cX12_unsound 46 = .ok (.getfield 118, 3) := by decide +kernel
theorem dX12_unsound_49 : decode cX12_unsound 49 = .ok (.iload_n 3, 1) := by decide +kernel
theorem dX12_unsound_50 : decode cX12_unsound 50 = .ok (.iaload, 1) := by decide +kernel
theorem dX12_unsound_51 : decode cX12_unsound 51 = .ok (.iadd, 1) := by decide +kernel
theorem dX12_unsound_52 : decode cX12_unsound 52 = .ok (.baload, 1) := by decide +kernel
theorem dX12_unsound_53 : decode cX12_unsound 53 = .ok (.ifCond .eq 7, 3) := by decide +kernel
theorem dX12_unsound_56 : decode cX12_unsound 56 = .ok (.iconst 0, 1) := by decide +kernel
theorem dX12_unsound_57 : decode cX12_unsound 57 = .ok (.goto 4, 3) := by decide +kernel
theorem dX12_unsound_60 : decode cX12_unsound 60 = .ok (.iconst 1, 1) := by decide +kernel
theorem dX12_unsound_61 : decode cX12_unsound 61 = .ok (.iadd, 1) := by decide +kernel
theorem dX12_unsound_62 : decode cX12_unsound 62 = .ok (.istore_n 2, 1) := by decide +kernel
theorem dX12_unsound_63 : decode cX12_unsound 63 = .ok (.iinc 3 1, 3) := by decide +kernel
theorem dX12_unsound_66 : decode cX12_unsound 66 = .ok (.goto (-38), 3) := by decide +kernel
theorem dX12_unsound_69 : decode cX12_unsound 69 = .ok (.aload_n 0, 1) := by decide +kernel
theorem dX12_unsound_70 : decode cX12_unsound 70 = .ok (.iload_n 2, 1) := by decide +kernel
theorem dX12_unsound_71 : decode cX12_unsound 71 = .ok (.invokevirtual 365, 3) := by decide +kernel
theorem dX12_unsound_74 : decode cX12_unsound 74 = .ok (.ireturn, 1) := by decide +kernel
theorem okX12_unsound_28 {E : Ev} {X : Cx} {S : Sh} {Z : Option Nat} {Q : Int32 → Hp → Prop} {a0 : Nat} {x1 : Int32} (O : Ok E X yX12_unsound cX12_unsound 4 (some .int) 5 136 0 0 (qI S Z Q)) : ∀ (n : Nat) (h : Hp) (x2 : Int32) (x3 : Int32), wX12_unsound_28 S a0 x1 Q n h x2 x3 → G E X 0 0 S Z h 28 [some (vr a0), some (vi x1), some (vi x2), some (vi x3)] [] := by
  intro n
  induction n with
  | zero => intro h x2 x3 hw; exact hw.elim
  | succ n hB28 =>
    intro h x2 x3 hw
    have hw : wX12_unsound_28b S a0 x1 Q (wX12_unsound_28 S a0 x1 Q n) h x2 x3 := hw
    unfold wX12_unsound_28b at hw
    refine g_iload_n O dX12_unsound_28 rfl ?_
    refine g_aload_n O dX12_unsound_29 rfl ?_
    obtain ⟨c30, hw⟩ := hw
    refine gf_X12_met O dX12_unsound_30 fl_X12_511 c30 ?_
    refine g_icmp_ge (tgt := 69) O dX12_unsound_33 rfl (fun q33 => ?_) (fun q33 => ?_)
    · have hw := hw.1 q33
      refine g_aload_n O dX12_unsound_69 rfl ?_
      refine g_iload_n O dX12_unsound_70 rfl ?_
      refine g_callV (As := [vi x2]) (rest := []) O ci_12 rfl dX12_unsound_71 ml_X12_365 im_yX12_good se_yX12_good ini_X12 co_yX12_good yo_yX12_good c30 rfl rfl (Nat.le_of_ble_eq_true rfl) ⟨by decide, by decide, by decide, by decide⟩ (okX12_good hw) (k_I fun r71 h71 hw => ?_)
      exact g_ireturn O dX12_unsound_74 ⟨rfl, rfl, _, rfl, hw⟩
    · have hw := hw.2 q33
      refine g_iload_n O dX12_unsound_36 rfl ?_
      refine g_aload_n O dX12_unsound_37 rfl ?_
      refine gf_X12_isSound O dX12_unsound_38 fl_X12_97 c30 ?_
      refine g_bipush O dX12_unsound_41 kb_100 ?_
      refine g_iload_n O dX12_unsound_43 rfl ?_
      refine g_imul O dX12_unsound_44 ?_
      refine g_aload_n O dX12_unsound_45 rfl ?_
      refine gf_X12_queue O dX12_unsound_46 fl_X12_118 c30 ?_
      refine g_iload_n O dX12_unsound_49 rfl ?_
      obtain ⟨c50, hw⟩ := hw
      refine g_iaload O dX12_unsound_50 c50.1 c50.2 ?_
      refine g_iadd O dX12_unsound_51 ?_
      obtain ⟨c52, hw⟩ := hw
      refine g_zaload O dX12_unsound_52 c52.1 c52.2 ?_
      refine g_if_eq (tgt := 60) O dX12_unsound_53 rfl (fun q53 => ?_) (fun q53 => ?_)
      · have hw := hw.1 q53
        refine g_iconst O dX12_unsound_60 kv_1 ?_
        refine g_iadd O dX12_unsound_61 ?_
        refine g_istore_n (lc' := [some (vr a0), some (vi x1), some (vi (x2 + (1 : Int32))), some (vi x3)]) O dX12_unsound_62 rfl (Nat.le_of_ble_eq_true rfl) rfl ?_
        refine g_iinc (lc' := [some (vr a0), some (vi x1), some (vi (x2 + (1 : Int32))), some (vi (x3 + (1 : Int32)))]) O dX12_unsound_63 rfl kv_1 rfl rfl ?_
        refine g_goto (tgt := 28) O dX12_unsound_66 rfl ?_
        exact hB28 _ _ _ hw
      · have hw := hw.2 q53
        refine g_iconst O dX12_unsound_56 kv_0 ?_
        refine g_goto (tgt := 61) O dX12_unsound_57 rfl ?_
        refine g_iadd O dX12_unsound_61 ?_
        refine g_istore_n (lc' := [some (vr a0), some (vi x1), some (vi (x2 + (0 : Int32))), some (vi x3)]) O dX12_unsound_62 rfl (Nat.le_of_ble_eq_true rfl) rfl ?_
        refine g_iinc (lc' := [some (vr a0), some (vi x1), some (vi (x2 + (0 : Int32))), some (vi (x3 + (1 : Int32)))]) O dX12_unsound_63 rfl kv_1 rfl rfl ?_
        refine g_goto (tgt := 28) O dX12_unsound_66 rfl ?_
        exact hB28 _ _ _ hw
theorem okX12_unsound {E : Ev} {S : Sh} {Z : Option Nat} {Q : Int32 → Hp → Prop} {h : Hp} {a0 : Nat} {x1 : Int32} (hw : wX12_unsound S h a0 x1 Q) : Ct E yX12_unsound cX12_unsound 4 (some .int) 5 136 0 0 S Z h [vr a0, vi x1] (qI S Z Q) := by
  refine Ct.of (by decide) (lc := [some (vr a0), some (vi x1), none, none]) (Nat.le_of_ble_eq_true rfl) rfl (fun X O => ?_)
  unfold wX12_unsound at hw
  refine g_aload_n O dX12_unsound_0 rfl ?_
  refine g_iconst O dX12_unsound_1 kv_0 ?_
  obtain ⟨c2, hw⟩ := hw
  refine pf_X12_thrown O dX12_unsound_2 fl_X12_121 c2 ?_
  refine g_aload_n O dX12_unsound_5 rfl ?_
  refine g_iload_n O dX12_unsound_6 rfl ?_
  refine g_callV (As := [vi x1]) (rest := []) O ci_12 rfl dX12_unsound_7 ml_X12_389 im_yX12_isMachine se_yX12_isMachine ini_X12 co_yX12_isMachine yo_yX12_isMachine c2 rfl rfl (Nat.le_of_ble_eq_true rfl) ⟨by decide, by decide, by decide, by decide⟩ (okX12_isMachine hw) (k_I fun r7 h7 hw => ?_)
  refine g_if_ne (tgt := 19) O dX12_unsound_10 rfl (fun q10 => ?_) (fun q10 => ?_)
  · have hw := hw.1 q10
    refine g_aload_n O dX12_unsound_19 rfl ?_
    refine g_iload_n O dX12_unsound_20 rfl ?_
    refine g_callV (As := [vi x1]) (rest := []) O ci_12 rfl dX12_unsound_21 ml_X12_514 im_yX12_spreads se_yX12_spreads ini_X12 co_yX12_spreads yo_yX12_spreads c2 rfl rfl (Nat.le_of_ble_eq_true rfl) ⟨by decide, by decide, by decide, by decide⟩ (okX12_spreads hw) (k_V fun h21 hw => ?_)
    refine g_iconst O dX12_unsound_24 kv_0 ?_
    refine g_istore_n (lc' := [some (vr a0), some (vi x1), some (vi (0 : Int32)), none]) O dX12_unsound_25 rfl (Nat.le_of_ble_eq_true rfl) rfl ?_
    refine g_iconst O dX12_unsound_26 kv_0 ?_
    refine g_istore_n (lc' := [some (vr a0), some (vi x1), some (vi (0 : Int32)), some (vi (0 : Int32))]) O dX12_unsound_27 rfl (Nat.le_of_ble_eq_true rfl) rfl ?_
    obtain ⟨n28, hw⟩ := hw
    exact okX12_unsound_28 O n28 _ _ _ hw
  · have hw := hw.2 q10
    refine g_aload_n O dX12_unsound_13 rfl ?_
    refine g_iconst O dX12_unsound_14 kv_1 ?_
    refine g_callV (As := [vi (1 : Int32)]) (rest := []) O ci_12 rfl dX12_unsound_15 ml_X12_350 im_yX12_refused se_yX12_refused ini_X12 co_yX12_refused yo_yX12_refused c2 rfl rfl (Nat.le_of_ble_eq_true rfl) ⟨by decide, by decide, by decide, by decide⟩ (okX12_refused hw) (k_I fun r15 h15 hw => ?_)
    exact g_ireturn O dX12_unsound_18 ⟨rfl, rfl, _, rfl, hw⟩
theorem dX12_value_0 : decode cX12_value 0 = .ok (.aload_n 0, 1) := by decide +kernel
theorem dX12_value_1 : decode cX12_value 1 = .ok (.iconst 0, 1) := by decide +kernel
theorem dX12_value_2 : decode cX12_value 2 = .ok (.putfield 121, 3) := by decide +kernel
theorem dX12_value_5 : decode cX12_value 5 = .ok (.aload_n 0, 1) := by decide +kernel
theorem dX12_value_6 : decode cX12_value 6 = .ok (.iload_n 1, 1) := by decide +kernel
theorem dX12_value_7 : decode cX12_value 7 = .ok (.iload_n 2, 1) := by decide +kernel
theorem dX12_value_8 : decode cX12_value 8 = .ok (.invokevirtual 405, 3) := by decide +kernel
theorem dX12_value_11 : decode cX12_value 11 = .ok (.ifCond .eq 26, 3) := by decide +kernel
theorem dX12_value_14 : decode cX12_value 14 = .ok (.aload_n 0, 1) := by decide +kernel
theorem dX12_value_15 : decode cX12_value 15 = .ok (.iload_n 1, 1) := by decide +kernel
theorem dX12_value_16 : decode cX12_value 16 = .ok (.iload_n 3, 1) := by decide +kernel
theorem dX12_value_17 : decode cX12_value 17 = .ok (.invokevirtual 398, 3) := by decide +kernel
theorem dX12_value_20 : decode cX12_value 20 = .ok (.ifCond .eq 17, 3) := by decide +kernel
theorem dX12_value_23 : decode cX12_value 23 = .ok (.aload_n 0, 1) := by decide +kernel
theorem dX12_value_24 : decode cX12_value 24 = .ok (.aload_n 0, 1) := by decide +kernel
theorem dX12_value_25 : decode cX12_value 25 = .ok (.iload_n 1, 1) := by decide +kernel
theorem dX12_value_26 : decode cX12_value 26 = .ok (.iload_n 2, 1) := by decide +kernel
theorem dX12_value_27 : decode cX12_value 27 = .ok (.iload_n 3, 1) := by decide +kernel
theorem dX12_value_28 : decode cX12_value 28 = .ok (.invokevirtual 368, 3) := by decide +kernel
theorem dX12_value_31 : decode cX12_value 31 = .ok (.invokevirtual 365, 3) := by decide +kernel
theorem dX12_value_34 : decode cX12_value 34 = .ok (.goto 8, 3) := by decide +kernel
theorem dX12_value_37 : decode cX12_value 37 = .ok (.aload_n 0, 1) := by decide +kernel
theorem dX12_value_38 : decode cX12_value 38 = .ok (.iconst 1, 1) := by decide +kernel
theorem dX12_value_39 : decode cX12_value 39 = .ok (.invokevirtual 350, 3) := by decide +kernel
theorem dX12_value_42 : decode cX12_value 42 = .ok (.ireturn, 1) := by decide +kernel
theorem okX12_value {E : Ev} {S : Sh} {Z : Option Nat} {Q : Int32 → Hp → Prop} {h : Hp} {a0 : Nat} {x1 : Int32} {x2 : Int32} {x3 : Int32} (hw : wX12_value S h a0 x1 x2 x3 Q) : Ct E yX12_value cX12_value 4 (some .int) 4 89 0 0 S Z h [vr a0, vi x1, vi x2, vi x3] (qI S Z Q) := by
  refine Ct.of (by decide) (lc := [some (vr a0), some (vi x1), some (vi x2), some (vi x3)]) (Nat.le_of_ble_eq_true rfl) rfl (fun X O => ?_)
  unfold wX12_value at hw
  refine g_aload_n O dX12_value_0 rfl ?_
  refine g_iconst O dX12_value_1 kv_0 ?_
  obtain ⟨c2, hw⟩ := hw
  refine pf_X12_thrown O dX12_value_2 fl_X12_121 c2 ?_
  refine g_aload_n O dX12_value_5 rfl ?_
  refine g_iload_n O dX12_value_6 rfl ?_
  refine g_iload_n O dX12_value_7 rfl ?_
  refine g_callV (As := [vi x1, vi x2]) (rest := []) O ci_12 rfl dX12_value_8 ml_X12_405 im_yX12_isState se_yX12_isState ini_X12 co_yX12_isState yo_yX12_isState c2 rfl rfl (Nat.le_of_ble_eq_true rfl) ⟨by decide, by decide, by decide, by decide⟩ (okX12_isState hw) (k_I fun r8 h8 hw => ?_)
  refine g_if_eq (tgt := 37) O dX12_value_11 rfl (fun q11 => ?_) (fun q11 => ?_)
  · have hw := hw.1 q11
    refine g_aload_n O dX12_value_37 rfl ?_
    refine g_iconst O dX12_value_38 kv_1 ?_
    refine g_callV (As := [vi (1 : Int32)]) (rest := []) O ci_12 rfl dX12_value_39 ml_X12_350 im_yX12_refused se_yX12_refused ini_X12 co_yX12_refused yo_yX12_refused c2 rfl rfl (Nat.le_of_ble_eq_true rfl) ⟨by decide, by decide, by decide, by decide⟩ (okX12_refused hw) (k_I fun r39 h39 hw => ?_)
    exact g_ireturn O dX12_value_42 ⟨rfl, rfl, _, rfl, hw⟩
  · have hw := hw.2 q11
    refine g_aload_n O dX12_value_14 rfl ?_
    refine g_iload_n O dX12_value_15 rfl ?_
    refine g_iload_n O dX12_value_16 rfl ?_
    refine g_callV (As := [vi x1, vi x3]) (rest := []) O ci_12 rfl dX12_value_17 ml_X12_398 im_yX12_isVar se_yX12_isVar ini_X12 co_yX12_isVar yo_yX12_isVar c2 rfl rfl (Nat.le_of_ble_eq_true rfl) ⟨by decide, by decide, by decide, by decide⟩ (okX12_isVar hw) (k_I fun r17 h17 hw => ?_)
    refine g_if_eq (tgt := 37) O dX12_value_20 rfl (fun q20 => ?_) (fun q20 => ?_)
    · have hw := hw.1 q20
      refine g_aload_n O dX12_value_37 rfl ?_
      refine g_iconst O dX12_value_38 kv_1 ?_
      refine g_callV (As := [vi (1 : Int32)]) (rest := []) O ci_12 rfl dX12_value_39 ml_X12_350 im_yX12_refused se_yX12_refused ini_X12 co_yX12_refused yo_yX12_refused c2 rfl rfl (Nat.le_of_ble_eq_true rfl) ⟨by decide, by decide, by decide, by decide⟩ (okX12_refused hw) (k_I fun r39 h39 hw => ?_)
      exact g_ireturn O dX12_value_42 ⟨rfl, rfl, _, rfl, hw⟩
    · have hw := hw.2 q20
      refine g_aload_n O dX12_value_23 rfl ?_
      refine g_aload_n O dX12_value_24 rfl ?_
      refine g_iload_n O dX12_value_25 rfl ?_
      refine g_iload_n O dX12_value_26 rfl ?_
      refine g_iload_n O dX12_value_27 rfl ?_
      refine g_callV (As := [vi x1, vi x2, vi x3]) (rest := [vr a0]) O ci_12 rfl dX12_value_28 ml_X12_368 im_yX12_valueOf se_yX12_valueOf ini_X12 co_yX12_valueOf yo_yX12_valueOf c2 rfl rfl (Nat.le_of_ble_eq_true rfl) ⟨by decide, by decide, by decide, by decide⟩ (okX12_valueOf hw) (k_I fun r28 h28 hw => ?_)
      refine g_callV (As := [vi r28]) (rest := []) O ci_12 rfl dX12_value_31 ml_X12_365 im_yX12_good se_yX12_good ini_X12 co_yX12_good yo_yX12_good c2 rfl rfl (Nat.le_of_ble_eq_true rfl) ⟨by decide, by decide, by decide, by decide⟩ (okX12_good hw) (k_I fun r31 h31 hw => ?_)
      refine g_goto (tgt := 42) O dX12_value_34 rfl ?_
      exact g_ireturn O dX12_value_42 ⟨rfl, rfl, _, rfl, hw⟩
theorem dX12_variable_0 : decode cX12_variable 0 = .ok (.aload_n 0, 1) := by decide +kernel
theorem dX12_variable_1 : decode cX12_variable 1 = .ok (.iconst 0, 1) := by decide +kernel
theorem dX12_variable_2 : decode cX12_variable 2 = .ok (.putfield 121, 3) := by decide +kernel
theorem dX12_variable_5 : decode cX12_variable 5 = .ok (.aload_n 0, 1) := by decide +kernel
theorem dX12_variable_6 : decode cX12_variable 6 = .ok (.iload_n 1, 1) := by decide +kernel
theorem dX12_variable_7 : decode cX12_variable 7 = .ok (.iload_n 2, 1) := by decide +kernel
theorem dX12_variable_8 : decode cX12_variable 8 = .ok (.invokevirtual 398, 3) := by decide +kernel
theorem dX12_variable_11 : decode cX12_variable 11 = .ok (.ifCond .ne 9, 3) := by decide +kernel
theorem dX12_variable_14 : decode cX12_variable 14 = .ok (.aload_n 0, 1) := by decide +kernel
theorem dX12_variable_15 : decode cX12_variable 15 = .ok (.iconst 1, 1) := by decide +kernel
theorem dX12_variable_16 : decode cX12_variable 16 = .ok (.invokevirtual 350, 3) := by decide +kernel
theorem dX12_variable_19 : decode cX12_variable 19 = .ok (.ireturn, 1) := by decide +kernel
theorem dX12_variable_20 : decode cX12_variable 20 = .ok (.iconst 3, 1) := by decide +kernel
theorem dX12_variable_21 : decode cX12_variable 21 = .ok (.iload_n 1, 1) := by decide +kernel
theorem dX12_variable_22 : decode cX12_variable 22 = .ok (.imul, 1) := by decide +kernel
theorem dX12_variable_23 : decode cX12_variable 23 = .ok (.iload_n 2, 1) := by decide +kernel
theorem dX12_variable_24 : decode cX12_variable 24 = .ok (.iadd, 1) := by decide +kernel
theorem dX12_variable_25 : decode cX12_variable 25 = .ok (.istore 4, 2) := by decide +kernel
theorem dX12_variable_27 : decode cX12_variable 27 = .ok (.iload_n 3, 1) := by decide +kernel
theorem dX12_variable_28 : decode cX12_variable 28 = .ok (.tableswitch 64 0 2 #[28, 40, 52], 28) := by decide +kernel
theorem dX12_variable_56 : decode cX12_variable 56 = .ok (.aload_n 0, 1) := by decide +kernel
theorem dX12_variable_57 : decode cX12_variable 57 = .ok (.aload_n 0, 1) := by decide +kernel
theorem dX12_variable_58 : decode cX12_variable 58 = .ok (.getfield 45, 3) := by decide +kernel
theorem dX12_variable_61 : decode cX12_variable 61 = .ok (.iload 4, 2) := by decide +kernel
theorem dX12_variable_63 : decode cX12_variable 63 = .ok (.iaload, 1) := by decide +kernel
theorem dX12_variable_64 : decode cX12_variable 64 = .ok (.invokevirtual 365, 3) := by decide +kernel
theorem dX12_variable_67 : decode cX12_variable 67 = .ok (.ireturn, 1) := by decide +kernel
theorem dX12_variable_68 : decode cX12_variable 68 = .ok (.aload_n 0, 1) := by decide +kernel
theorem dX12_variable_69 : decode cX12_variable 69 = .ok (.aload_n 0, 1) := by decide +kernel
theorem dX12_variable_70 : decode cX12_variable 70 = .ok (.getfield 48, 3) := by decide +kernel
theorem dX12_variable_73 : decode cX12_variable 73 = .ok (.iload 4, 2) := by decide +kernel
theorem dX12_variable_75 : decode cX12_variable 75 = .ok (.iaload, 1) := by decide +kernel
theorem dX12_variable_76 : decode cX12_variable 76 = .ok (.invokevirtual 365, 3) := by decide +kernel
theorem dX12_variable_79 : decode cX12_variable 79 = .ok (.ireturn, 1) := by decide +kernel
theorem dX12_variable_80 : decode cX12_variable 80 = .ok (.aload_n 0, 1) := by decide +kernel
theorem dX12_variable_81 : decode cX12_variable 81 = .ok (.aload_n 0, 1) := by decide +kernel
theorem dX12_variable_82 : decode cX12_variable 82 = .ok (.getfield 51, 3) := by decide +kernel
theorem dX12_variable_85 : decode cX12_variable 85 = .ok (.iload 4, 2) := by decide +kernel
theorem dX12_variable_87 : decode cX12_variable 87 = .ok (.iaload, 1) := by decide +kernel
theorem dX12_variable_88 : decode cX12_variable 88 = .ok (.invokevirtual 365, 3) := by decide +kernel
theorem dX12_variable_91 : decode cX12_variable 91 = .ok (.ireturn, 1) := by decide +kernel
theorem dX12_variable_92 : decode cX12_variable 92 = .ok (.aload_n 0, 1) := by decide +kernel
theorem dX12_variable_93 : decode cX12_variable 93 = .ok (.iconst 1, 1) := by decide +kernel
theorem dX12_variable_94 : decode cX12_variable 94 = .ok (.invokevirtual 350, 3) := by decide +kernel
theorem dX12_variable_97 : decode cX12_variable 97 = .ok (.ireturn, 1) := by decide +kernel
theorem okX12_variable {E : Ev} {S : Sh} {Z : Option Nat} {Q : Int32 → Hp → Prop} {h : Hp} {a0 : Nat} {x1 : Int32} {x2 : Int32} {x3 : Int32} (hw : wX12_variable S h a0 x1 x2 x3 Q) : Ct E yX12_variable cX12_variable 5 (some .int) 4 89 0 0 S Z h [vr a0, vi x1, vi x2, vi x3] (qI S Z Q) := by
  refine Ct.of (by decide) (lc := [some (vr a0), some (vi x1), some (vi x2), some (vi x3), none]) (Nat.le_of_ble_eq_true rfl) rfl (fun X O => ?_)
  unfold wX12_variable at hw
  refine g_aload_n O dX12_variable_0 rfl ?_
  refine g_iconst O dX12_variable_1 kv_0 ?_
  obtain ⟨c2, hw⟩ := hw
  refine pf_X12_thrown O dX12_variable_2 fl_X12_121 c2 ?_
  refine g_aload_n O dX12_variable_5 rfl ?_
  refine g_iload_n O dX12_variable_6 rfl ?_
  refine g_iload_n O dX12_variable_7 rfl ?_
  refine g_callV (As := [vi x1, vi x2]) (rest := []) O ci_12 rfl dX12_variable_8 ml_X12_398 im_yX12_isVar se_yX12_isVar ini_X12 co_yX12_isVar yo_yX12_isVar c2 rfl rfl (Nat.le_of_ble_eq_true rfl) ⟨by decide, by decide, by decide, by decide⟩ (okX12_isVar hw) (k_I fun r8 h8 hw => ?_)
  refine g_if_ne (tgt := 20) O dX12_variable_11 rfl (fun q11 => ?_) (fun q11 => ?_)
  · have hw := hw.1 q11
    refine g_iconst O dX12_variable_20 kv_3 ?_
    refine g_iload_n O dX12_variable_21 rfl ?_
    refine g_imul O dX12_variable_22 ?_
    refine g_iload_n O dX12_variable_23 rfl ?_
    refine g_iadd O dX12_variable_24 ?_
    refine g_nmI (fun xv25 e25 => ?_)
    have hw := hw xv25 e25
    refine g_istore (lc' := [some (vr a0), some (vi x1), some (vi x2), some (vi x3), some (vi xv25)]) O dX12_variable_25 rfl (Nat.le_of_ble_eq_true rfl) rfl ?_
    refine g_iload_n O dX12_variable_27 rfl ?_
    refine g_tsw O dX12_variable_28 (by decide) (by decide) (fun t28 ht => ?_)
    rcases ht with ⟨hx28, ht⟩ | ⟨hx28, ht⟩
    · obtain rfl : t28 = 56 := by have e : (28 : Int) + (28) = (t28 : Int) := ht; omega
      have hw := hw.1 (Int32.toInt_inj.mp hx28)
      refine g_aload_n O dX12_variable_56 rfl ?_
      refine g_aload_n O dX12_variable_57 rfl ?_
      refine gf_X12_varLow O dX12_variable_58 fl_X12_45 c2 ?_
      refine g_iload O dX12_variable_61 rfl ?_
      obtain ⟨c63, hw⟩ := hw
      refine g_iaload O dX12_variable_63 c63.1 c63.2 ?_
      refine g_callV (As := [vi ((gI h8 (gR h8 a0 23) (ix xv25)))]) (rest := []) O ci_12 rfl dX12_variable_64 ml_X12_365 im_yX12_good se_yX12_good ini_X12 co_yX12_good yo_yX12_good c2 rfl rfl (Nat.le_of_ble_eq_true rfl) ⟨by decide, by decide, by decide, by decide⟩ (okX12_good hw) (k_I fun r64 h64 hw => ?_)
      exact g_ireturn O dX12_variable_67 ⟨rfl, rfl, _, rfl, hw⟩
    · have hw := hw.2 (fun q => hx28 (by rw [q]; rfl))
      rcases ht with ⟨hx28, ht⟩ | ⟨hx28, ht⟩
      · obtain rfl : t28 = 68 := by have e : (28 : Int) + (40) = (t28 : Int) := ht; omega
        have hw := hw.1 (Int32.toInt_inj.mp hx28)
        refine g_aload_n O dX12_variable_68 rfl ?_
        refine g_aload_n O dX12_variable_69 rfl ?_
        refine gf_X12_varHigh O dX12_variable_70 fl_X12_48 c2 ?_
        refine g_iload O dX12_variable_73 rfl ?_
        obtain ⟨c75, hw⟩ := hw
        refine g_iaload O dX12_variable_75 c75.1 c75.2 ?_
        refine g_callV (As := [vi ((gI h8 (gR h8 a0 24) (ix xv25)))]) (rest := []) O ci_12 rfl dX12_variable_76 ml_X12_365 im_yX12_good se_yX12_good ini_X12 co_yX12_good yo_yX12_good c2 rfl rfl (Nat.le_of_ble_eq_true rfl) ⟨by decide, by decide, by decide, by decide⟩ (okX12_good hw) (k_I fun r76 h76 hw => ?_)
        exact g_ireturn O dX12_variable_79 ⟨rfl, rfl, _, rfl, hw⟩
      · have hw := hw.2 (fun q => hx28 (by rw [q]; rfl))
        rcases ht with ⟨hx28, ht⟩ | ⟨hx28, ht⟩
        · obtain rfl : t28 = 80 := by have e : (28 : Int) + (52) = (t28 : Int) := ht; omega
          have hw := hw.1 (Int32.toInt_inj.mp hx28)
          refine g_aload_n O dX12_variable_80 rfl ?_
          refine g_aload_n O dX12_variable_81 rfl ?_
          refine gf_X12_varAt O dX12_variable_82 fl_X12_51 c2 ?_
          refine g_iload O dX12_variable_85 rfl ?_
          obtain ⟨c87, hw⟩ := hw
          refine g_iaload O dX12_variable_87 c87.1 c87.2 ?_
          refine g_callV (As := [vi ((gI h8 (gR h8 a0 25) (ix xv25)))]) (rest := []) O ci_12 rfl dX12_variable_88 ml_X12_365 im_yX12_good se_yX12_good ini_X12 co_yX12_good yo_yX12_good c2 rfl rfl (Nat.le_of_ble_eq_true rfl) ⟨by decide, by decide, by decide, by decide⟩ (okX12_good hw) (k_I fun r88 h88 hw => ?_)
          exact g_ireturn O dX12_variable_91 ⟨rfl, rfl, _, rfl, hw⟩
        · have hw := hw.2 (fun q => hx28 (by rw [q]; rfl))
          obtain rfl : t28 = 92 := by have e : (28 : Int) + (64) = (t28 : Int) := ht; omega
          refine g_aload_n O dX12_variable_92 rfl ?_
          refine g_iconst O dX12_variable_93 kv_1 ?_
          refine g_callV (As := [vi (1 : Int32)]) (rest := []) O ci_12 rfl dX12_variable_94 ml_X12_350 im_yX12_refused se_yX12_refused ini_X12 co_yX12_refused yo_yX12_refused c2 rfl rfl (Nat.le_of_ble_eq_true rfl) ⟨by decide, by decide, by decide, by decide⟩ (okX12_refused hw) (k_I fun r94 h94 hw => ?_)
          exact g_ireturn O dX12_variable_97 ⟨rfl, rfl, _, rfl, hw⟩
  · have hw := hw.2 q11
    refine g_aload_n O dX12_variable_14 rfl ?_
    refine g_iconst O dX12_variable_15 kv_1 ?_
    refine g_callV (As := [vi (1 : Int32)]) (rest := []) O ci_12 rfl dX12_variable_16 ml_X12_350 im_yX12_refused se_yX12_refused ini_X12 co_yX12_refused yo_yX12_refused c2 rfl rfl (Nat.le_of_ble_eq_true rfl) ⟨by decide, by decide, by decide, by decide⟩ (okX12_refused hw) (k_I fun r16 h16 hw => ?_)
    exact g_ireturn O dX12_variable_19 ⟨rfl, rfl, _, rfl, hw⟩
theorem dX12_variant_0 : decode cX12_variant 0 = .ok (.aload_n 0, 1) := by decide +kernel
theorem dX12_variant_1 : decode cX12_variant 1 = .ok (.iconst 0, 1) := by decide +kernel
theorem dX12_variant_2 : decode cX12_variant 2 = .ok (.putfield 121, 3) := by decide +kernel
theorem dX12_variant_5 : decode cX12_variant 5 = .ok (.aload_n 0, 1) := by decide +kernel
theorem dX12_variant_6 : decode cX12_variant 6 = .ok (.iload_n 1, 1) := by decide +kernel
theorem dX12_variant_7 : decode cX12_variant 7 = .ok (.iload_n 2, 1) := by decide +kernel
theorem dX12_variant_8 : decode cX12_variant 8 = .ok (.invokevirtual 405, 3) := by decide +kernel
theorem dX12_variant_11 : decode cX12_variant 11 = .ok (.ifCond .ne 7, 3) := by decide +kernel
theorem dX12_variant_14 : decode cX12_variant 14 = .ok (.iconst 1, 1) := by decide +kernel
theorem dX12_variant_15 : decode cX12_variant 15 = .ok (.goto 18, 3) := by decide +kernel
theorem dX12_variant_18 : decode cX12_variant 18 = .ok (.aload_n 0, 1) := by decide +kernel
theorem dX12_variant_19 : decode cX12_variant 19 = .ok (.getfield 39, 3) := by decide +kernel
theorem dX12_variant_22 : decode cX12_variant 22 = .ok (.iload_n 1, 1) := by decide +kernel
theorem dX12_variant_23 : decode cX12_variant 23 = .ok (.iaload, 1) := by decide +kernel
theorem dX12_variant_24 : decode cX12_variant 24 = .ok (.iconst (-1), 1) := by decide +kernel
theorem dX12_variant_25 : decode cX12_variant 25 = .ok (.if_icmp .ne 7, 3) := by decide +kernel
theorem dX12_variant_28 : decode cX12_variant 28 = .ok (.iconst 5, 1) := by decide +kernel
theorem dX12_variant_29 : decode cX12_variant 29 = .ok (.goto 4, 3) := by decide +kernel
theorem dX12_variant_32 : decode cX12_variant 32 = .ok (.iconst 0, 1) := by decide +kernel
theorem dX12_variant_33 : decode cX12_variant 33 = .ok (.istore_n 3, 1) := by decide +kernel
theorem dX12_variant_34 : decode cX12_variant 34 = .ok (.iload_n 3, 1) := by decide +kernel
theorem dX12_variant_35 : decode cX12_variant 35 = .ok (.ifCond .ne 14, 3) := by decide +kernel
theorem dX12_variant_38 : decode cX12_variant 38 = .ok (.aload_n 0, 1) := by decide +kernel
theorem dX12_variant_39 : decode cX12_variant 39 = .ok (.aload_n 0, 1) := by decide +kernel
theorem dX12_variant_40 : decode cX12_variant 40 = .ok (.iload_n 1, 1) := by decide +kernel
theorem dX12_variant_41 : decode cX12_variant 41 = .ok (.iload_n 2, 1) := by decide +kernel
theorem dX12_variant_42 : decode cX12_variant 42 = .ok (.invokevirtual 415, 3) := by decide +kernel
theorem dX12_variant_45 : decode cX12_variant 45 = .ok (.invokevirtual 365, 3) := by decide +kernel
theorem dX12_variant_48 : decode cX12_variant 48 = .ok (.ireturn, 1) := by decide +kernel
theorem dX12_variant_49 : decode cX12_variant 49 = .ok (.aload_n 0, 1) := by decide +kernel
theorem dX12_variant_50 : decode cX12_variant 50 = .ok (.iload_n 3, 1) := by decide +kernel
theorem dX12_variant_51 : decode cX12_variant 51 = .ok (.invokevirtual 350, 3) := by decide +kernel
theorem dX12_variant_54 : decode cX12_variant 54 = .ok (.pop, 1) := by decide +kernel
theorem dX12_variant_55 : decode cX12_variant 55 = .ok (.iconst 0, 1) := by decide +kernel
theorem dX12_variant_56 : decode cX12_variant 56 = .ok (.ireturn, 1) := by decide +kernel
theorem okX12_variant_j33 {E : Ev} {X : Cx} {S : Sh} {Z : Option Nat} {Q : Int32 → Hp → Prop} {h : Hp} {a0 : Nat} {x1 : Int32} {x2 : Int32} {s0 : Int32} (O : Ok E X yX12_variant cX12_variant 4 (some .int) 4 102 0 0 (qI S Z Q)) (hw : wX12_variant_j33 S h a0 x1 x2 s0 Q) : G E X 0 0 S Z h 33 [some (vr a0), some (vi x1), some (vi x2), none] [vi s0] := by
  unfold wX12_variant_j33 at hw
  refine g_istore_n (lc' := [some (vr a0), some (vi x1), some (vi x2), some (vi s0)]) O dX12_variant_33 rfl (Nat.le_of_ble_eq_true rfl) rfl ?_
  refine g_iload_n O dX12_variant_34 rfl ?_
  refine g_if_ne (tgt := 49) O dX12_variant_35 rfl (fun q35 => ?_) (fun q35 => ?_)
  · have hw := hw.1 q35
    refine g_aload_n O dX12_variant_49 rfl ?_
    refine g_iload_n O dX12_variant_50 rfl ?_
    obtain ⟨c51, hw⟩ := hw
    refine g_callV (As := [vi s0]) (rest := []) O ci_12 rfl dX12_variant_51 ml_X12_350 im_yX12_refused se_yX12_refused ini_X12 co_yX12_refused yo_yX12_refused c51 rfl rfl (Nat.le_of_ble_eq_true rfl) ⟨by decide, by decide, by decide, by decide⟩ (okX12_refused hw) (k_I fun r51 h51 hw => ?_)
    refine g_pop O dX12_variant_54 rfl ?_
    refine g_iconst O dX12_variant_55 kv_0 ?_
    exact g_ireturn O dX12_variant_56 ⟨rfl, rfl, _, rfl, hw⟩
  · have hw := hw.2 q35
    refine g_aload_n O dX12_variant_38 rfl ?_
    refine g_aload_n O dX12_variant_39 rfl ?_
    refine g_iload_n O dX12_variant_40 rfl ?_
    refine g_iload_n O dX12_variant_41 rfl ?_
    obtain ⟨c42, hw⟩ := hw
    refine g_callV (As := [vi x1, vi x2]) (rest := [vr a0]) O ci_12 rfl dX12_variant_42 ml_X12_415 im_yX12_variantOf se_yX12_variantOf ini_X12 co_yX12_variantOf yo_yX12_variantOf c42 rfl rfl (Nat.le_of_ble_eq_true rfl) ⟨by decide, by decide, by decide, by decide⟩ (okX12_variantOf hw) (k_I fun r42 h42 hw => ?_)
    refine g_callV (As := [vi r42]) (rest := []) O ci_12 rfl dX12_variant_45 ml_X12_365 im_yX12_good se_yX12_good ini_X12 co_yX12_good yo_yX12_good c42 rfl rfl (Nat.le_of_ble_eq_true rfl) ⟨by decide, by decide, by decide, by decide⟩ (okX12_good hw) (k_I fun r45 h45 hw => ?_)
    exact g_ireturn O dX12_variant_48 ⟨rfl, rfl, _, rfl, hw⟩
theorem okX12_variant {E : Ev} {S : Sh} {Z : Option Nat} {Q : Int32 → Hp → Prop} {h : Hp} {a0 : Nat} {x1 : Int32} {x2 : Int32} (hw : wX12_variant S h a0 x1 x2 Q) : Ct E yX12_variant cX12_variant 4 (some .int) 4 102 0 0 S Z h [vr a0, vi x1, vi x2] (qI S Z Q) := by
  refine Ct.of (by decide) (lc := [some (vr a0), some (vi x1), some (vi x2), none]) (Nat.le_of_ble_eq_true rfl) rfl (fun X O => ?_)
  unfold wX12_variant at hw
  refine g_aload_n O dX12_variant_0 rfl ?_
  refine g_iconst O dX12_variant_1 kv_0 ?_
  obtain ⟨c2, hw⟩ := hw
  refine pf_X12_thrown O dX12_variant_2 fl_X12_121 c2 ?_
  refine g_aload_n O dX12_variant_5 rfl ?_
  refine g_iload_n O dX12_variant_6 rfl ?_
  refine g_iload_n O dX12_variant_7 rfl ?_
  refine g_callV (As := [vi x1, vi x2]) (rest := []) O ci_12 rfl dX12_variant_8 ml_X12_405 im_yX12_isState se_yX12_isState ini_X12 co_yX12_isState yo_yX12_isState c2 rfl rfl (Nat.le_of_ble_eq_true rfl) ⟨by decide, by decide, by decide, by decide⟩ (okX12_isState hw) (k_I fun r8 h8 hw => ?_)
  refine g_if_ne (tgt := 18) O dX12_variant_11 rfl (fun q11 => ?_) (fun q11 => ?_)
  · have hw := hw.1 q11
    refine g_aload_n O dX12_variant_18 rfl ?_
    refine gf_X12_variantFrom O dX12_variant_19 fl_X12_39 c2 ?_
    refine g_iload_n O dX12_variant_22 rfl ?_
    obtain ⟨c23, hw⟩ := hw
    refine g_iaload O dX12_variant_23 c23.1 c23.2 ?_
    refine g_iconst O dX12_variant_24 kv_m1 ?_
    refine g_icmp_ne (tgt := 32) O dX12_variant_25 rfl (fun q25 => ?_) (fun q25 => ?_)
    · have hw := hw.1 q25
      refine g_iconst O dX12_variant_32 kv_0 ?_
      exact okX12_variant_j33 O hw
    · have hw := hw.2 q25
      refine g_iconst O dX12_variant_28 kv_5 ?_
      refine g_goto (tgt := 33) O dX12_variant_29 rfl ?_
      exact okX12_variant_j33 O hw
  · have hw := hw.2 q11
    refine g_iconst O dX12_variant_14 kv_1 ?_
    refine g_goto (tgt := 33) O dX12_variant_15 rfl ?_
    exact okX12_variant_j33 O hw
theorem dX12_where_0 : decode cX12_where 0 = .ok (.aload_n 0, 1) := by decide +kernel
theorem dX12_where_1 : decode cX12_where 1 = .ok (.iconst 0, 1) := by decide +kernel
theorem dX12_where_2 : decode cX12_where 2 = .ok (.putfield 121, 3) := by decide +kernel
theorem dX12_where_5 : decode cX12_where 5 = .ok (.aload_n 0, 1) := by decide +kernel
theorem dX12_where_6 : decode cX12_where 6 = .ok (.getfield 9, 3) := by decide +kernel
theorem dX12_where_9 : decode cX12_where 9 = .ok (.ireturn, 1) := by decide +kernel
theorem okX12_where {E : Ev} {S : Sh} {Z : Option Nat} {Q : Int32 → Hp → Prop} {h : Hp} {a0 : Nat} (hw : wX12_where S h a0 Q) : Ct E yX12_where cX12_where 1 (some .int) 1 24 0 0 S Z h [vr a0] (qI S Z Q) := by
  refine Ct.of (by decide) (lc := [some (vr a0)]) (Nat.le_of_ble_eq_true rfl) rfl (fun X O => ?_)
  unfold wX12_where at hw
  refine g_aload_n O dX12_where_0 rfl ?_
  refine g_iconst O dX12_where_1 kv_0 ?_
  obtain ⟨c2, hw⟩ := hw
  refine pf_X12_thrown O dX12_where_2 fl_X12_121 c2 ?_
  refine g_nmH (fun h2 e2 => ?_)
  have hw := hw h2 e2
  refine g_aload_n O dX12_where_5 rfl ?_
  refine gf_X12_wrongAt O dX12_where_6 fl_X12_9 c2 ?_
  exact g_ireturn O dX12_where_9 ⟨rfl, rfl, _, rfl, hw⟩
theorem dX12_write_0 : decode cX12_write 0 = .ok (.aload_n 0, 1) := by decide +kernel
theorem dX12_write_1 : decode cX12_write 1 = .ok (.iconst 0, 1) := by decide +kernel
theorem dX12_write_2 : decode cX12_write 2 = .ok (.putfield 121, 3) := by decide +kernel
theorem dX12_write_5 : decode cX12_write 5 = .ok (.aload_n 0, 1) := by decide +kernel
theorem dX12_write_6 : decode cX12_write 6 = .ok (.getfield 362, 3) := by decide +kernel
theorem dX12_write_9 : decode cX12_write 9 = .ok (.ifCond .ne 9, 3) := by decide +kernel
theorem dX12_write_12 : decode cX12_write 12 = .ok (.aload_n 0, 1) := by decide +kernel
theorem dX12_write_13 : decode cX12_write 13 = .ok (.iconst 5, 1) := by decide +kernel
theorem dX12_write_14 : decode cX12_write 14 = .ok (.invokevirtual 350, 3) := by decide +kernel
theorem dX12_write_17 : decode cX12_write 17 = .ok (.ireturn, 1) := by decide +kernel
theorem dX12_write_18 : decode cX12_write 18 = .ok (.aload_n 0, 1) := by decide +kernel
theorem dX12_write_19 : decode cX12_write 19 = .ok (.iconst 0, 1) := by decide +kernel
theorem dX12_write_20 : decode cX12_write 20 = .ok (.putfield 457, 3) := by decide +kernel
theorem dX12_write_23 : decode cX12_write 23 = .ok (.aload_n 0, 1) := by decide +kernel
theorem dX12_write_24 : decode cX12_write 24 = .ok (.getfield 432, 3) := by decide +kernel
theorem dX12_write_27 : decode cX12_write 27 = .ok (.ifCond .le 17, 3) := by decide +kernel
theorem dX12_write_30 : decode cX12_write 30 = .ok (.aload_n 0, 1) := by decide +kernel
theorem dX12_write_31 : decode cX12_write 31 = .ok (.aload_n 0, 1) := by decide +kernel
theorem dX12_write_32 : decode cX12_write 32 = .ok (.getfield 432, 3) := by decide +kernel
theorem dX12_write_35 : decode cX12_write 35 = .ok (.iconst 1, 1) := by decide +kernel
theorem dX12_write_36 : decode cX12_write 36 = .ok (.isub, 1) := by decide +kernel
theorem dX12_write_37 : decode cX12_write 37 = .ok (.aload_n 0, 1) := by decide +kernel
theorem dX12_write_38 : decode cX12_write 38 = .ok (.getfield 435, 3) := by decide +kernel
theorem dX12_write_41 : decode cX12_write 41 = .ok (.invokevirtual 470, 3) := by decide +kernel
theorem dX12_write_44 : decode cX12_write 44 = .ok (.aload_n 0, 1) := by decide +kernel
theorem dX12_write_45 : decode cX12_write 45 = .ok (.aload_n 0, 1) := by decide +kernel
theorem dX12_write_46 : decode cX12_write 46 = .ok (.getfield 432, 3) := by decide +kernel
theorem dX12_write_49 : decode cX12_write 49 = .ok (.aload_n 0, 1) := by decide +kernel
theorem dX12_write_50 : decode cX12_write 50 = .ok (.getfield 438, 3) := by decide +kernel
theorem dX12_write_53 : decode cX12_write 53 = .ok (.invokevirtual 470, 3) := by decide +kernel
theorem dX12_write_56 : decode cX12_write 56 = .ok (.aload_n 0, 1) := by decide +kernel
theorem dX12_write_57 : decode cX12_write 57 = .ok (.bipush 112, 2) := by decide +kernel
theorem dX12_write_59 : decode cX12_write 59 = .ok (.invokevirtual 463, 3) := by decide +kernel
theorem dX12_write_62 : decode cX12_write 62 = .ok (.aload_n 0, 1) := by decide +kernel
theorem dX12_write_63 : decode cX12_write 63 = .ok (.bipush 105, 2) := by decide +kernel
theorem dX12_write_65 : decode cX12_write 65 = .ok (.invokevirtual 463, 3) := by decide +kernel
theorem dX12_write_68 : decode cX12_write 68 = .ok (.aload_n 0, 1) := by decide +kernel
theorem dX12_write_69 : decode cX12_write 69 = .ok (.bipush 99, 2) := by decide +kernel
theorem dX12_write_71 : decode cX12_write 71 = .ok (.invokevirtual 463, 3) := by decide +kernel
theorem dX12_write_74 : decode cX12_write 74 = .ok (.aload_n 0, 1) := by decide +kernel
theorem dX12_write_75 : decode cX12_write 75 = .ok (.bipush 107, 2) := by decide +kernel
theorem dX12_write_77 : decode cX12_write 77 = .ok (.invokevirtual 463, 3) := by decide +kernel
theorem dX12_write_80 : decode cX12_write 80 = .ok (.aload_n 0, 1) := by decide +kernel
theorem dX12_write_81 : decode cX12_write 81 = .ok (.bipush 61, 2) := by decide +kernel
theorem dX12_write_83 : decode cX12_write 83 = .ok (.invokevirtual 463, 3) := by decide +kernel
theorem dX12_write_86 : decode cX12_write 86 = .ok (.aload_n 0, 1) := by decide +kernel
theorem dX12_write_87 : decode cX12_write 87 = .ok (.aload_n 0, 1) := by decide +kernel
theorem dX12_write_88 : decode cX12_write 88 = .ok (.getfield 441, 3) := by decide +kernel
theorem dX12_write_91 : decode cX12_write 91 = .ok (.invokevirtual 460, 3) := by decide +kernel
theorem dX12_write_94 : decode cX12_write 94 = .ok (.aload_n 0, 1) := by decide +kernel
theorem dX12_write_95 : decode cX12_write 95 = .ok (.aload_n 0, 1) := by decide +kernel
theorem dX12_write_96 : decode cX12_write 96 = .ok (.getfield 457, 3) := by decide +kernel
theorem dX12_write_99 : decode cX12_write 99 = .ok (.invokevirtual 365, 3) := by decide +kernel
theorem dX12_write_102 : decode cX12_write 102 = .ok (.ireturn, 1) := by decide +kernel
theorem okX12_write_j44 {E : Ev} {X : Cx} {S : Sh} {Z : Option Nat} {Q : Int32 → Hp → Prop} {h : Hp} {a0 : Nat} (O : Ok E X yX12_write cX12_write 1 (some .int) 10 330 0 0 (qI S Z Q)) (hw : wX12_write_j44 S h a0 Q) : G E X 0 0 S Z h 44 [some (vr a0)] [] := by
  unfold wX12_write_j44 at hw
  refine g_aload_n O dX12_write_44 rfl ?_
  refine g_aload_n O dX12_write_45 rfl ?_
  obtain ⟨c46, hw⟩ := hw
  refine gf_X12_shownOf O dX12_write_46 fl_X12_432 c46 ?_
  refine g_aload_n O dX12_write_49 rfl ?_
  refine gf_X12_shownS O dX12_write_50 fl_X12_438 c46 ?_
  refine g_callV (As := [vi (gI h a0 49), vi (gI h a0 51)]) (rest := []) O ci_12 rfl dX12_write_53 ml_X12_470 im_yX12_inksState se_yX12_inksState ini_X12 co_yX12_inksState yo_yX12_inksState c46 rfl rfl (Nat.le_of_ble_eq_true rfl) ⟨by decide, by decide, by decide, by decide⟩ (okX12_inksState hw) (k_V fun h53 hw => ?_)
  refine g_aload_n O dX12_write_56 rfl ?_
  refine g_bipush O dX12_write_57 kb_112 ?_
  refine g_callV (As := [vi (112 : Int32)]) (rest := []) O ci_12 rfl dX12_write_59 ml_X12_463 im_yX12_inks se_yX12_inks ini_X12 co_yX12_inks yo_yX12_inks c46 rfl rfl (Nat.le_of_ble_eq_true rfl) ⟨by decide, by decide, by decide, by decide⟩ (okX12_inks hw) (k_V fun h59 hw => ?_)
  refine g_aload_n O dX12_write_62 rfl ?_
  refine g_bipush O dX12_write_63 kb_105 ?_
  refine g_callV (As := [vi (105 : Int32)]) (rest := []) O ci_12 rfl dX12_write_65 ml_X12_463 im_yX12_inks se_yX12_inks ini_X12 co_yX12_inks yo_yX12_inks c46 rfl rfl (Nat.le_of_ble_eq_true rfl) ⟨by decide, by decide, by decide, by decide⟩ (okX12_inks hw) (k_V fun h65 hw => ?_)
  refine g_aload_n O dX12_write_68 rfl ?_
  refine g_bipush O dX12_write_69 kb_99 ?_
  refine g_callV (As := [vi (99 : Int32)]) (rest := []) O ci_12 rfl dX12_write_71 ml_X12_463 im_yX12_inks se_yX12_inks ini_X12 co_yX12_inks yo_yX12_inks c46 rfl rfl (Nat.le_of_ble_eq_true rfl) ⟨by decide, by decide, by decide, by decide⟩ (okX12_inks hw) (k_V fun h71 hw => ?_)
  refine g_aload_n O dX12_write_74 rfl ?_
  refine g_bipush O dX12_write_75 kb_107 ?_
  refine g_callV (As := [vi (107 : Int32)]) (rest := []) O ci_12 rfl dX12_write_77 ml_X12_463 im_yX12_inks se_yX12_inks ini_X12 co_yX12_inks yo_yX12_inks c46 rfl rfl (Nat.le_of_ble_eq_true rfl) ⟨by decide, by decide, by decide, by decide⟩ (okX12_inks hw) (k_V fun h77 hw => ?_)
  refine g_aload_n O dX12_write_80 rfl ?_
  refine g_bipush O dX12_write_81 kb_61 ?_
  refine g_callV (As := [vi (61 : Int32)]) (rest := []) O ci_12 rfl dX12_write_83 ml_X12_463 im_yX12_inks se_yX12_inks ini_X12 co_yX12_inks yo_yX12_inks c46 rfl rfl (Nat.le_of_ble_eq_true rfl) ⟨by decide, by decide, by decide, by decide⟩ (okX12_inks hw) (k_V fun h83 hw => ?_)
  refine g_aload_n O dX12_write_86 rfl ?_
  refine g_aload_n O dX12_write_87 rfl ?_
  refine gf_X12_shownPick O dX12_write_88 fl_X12_441 c46 ?_
  refine g_callV (As := [vi (gI h83 a0 52)]) (rest := []) O ci_12 rfl dX12_write_91 ml_X12_460 im_yX12_inksNumber se_yX12_inksNumber ini_X12 co_yX12_inksNumber yo_yX12_inksNumber c46 rfl rfl (Nat.le_of_ble_eq_true rfl) ⟨by decide, by decide, by decide, by decide⟩ (okX12_inksNumber hw) (k_V fun h91 hw => ?_)
  refine g_aload_n O dX12_write_94 rfl ?_
  refine g_aload_n O dX12_write_95 rfl ?_
  refine gf_X12_inked O dX12_write_96 fl_X12_457 c46 ?_
  refine g_callV (As := [vi (gI h91 a0 55)]) (rest := []) O ci_12 rfl dX12_write_99 ml_X12_365 im_yX12_good se_yX12_good ini_X12 co_yX12_good yo_yX12_good c46 rfl rfl (Nat.le_of_ble_eq_true rfl) ⟨by decide, by decide, by decide, by decide⟩ (okX12_good hw) (k_I fun r99 h99 hw => ?_)
  exact g_ireturn O dX12_write_102 ⟨rfl, rfl, _, rfl, hw⟩
theorem okX12_write {E : Ev} {S : Sh} {Z : Option Nat} {Q : Int32 → Hp → Prop} {h : Hp} {a0 : Nat} (hw : wX12_write S h a0 Q) : Ct E yX12_write cX12_write 1 (some .int) 10 330 0 0 S Z h [vr a0] (qI S Z Q) := by
  refine Ct.of (by decide) (lc := [some (vr a0)]) (Nat.le_of_ble_eq_true rfl) rfl (fun X O => ?_)
  unfold wX12_write at hw
  refine g_aload_n O dX12_write_0 rfl ?_
  refine g_iconst O dX12_write_1 kv_0 ?_
  obtain ⟨c2, hw⟩ := hw
  refine pf_X12_thrown O dX12_write_2 fl_X12_121 c2 ?_
  refine g_nmH (fun h2 e2 => ?_)
  have hw := hw h2 e2
  refine g_aload_n O dX12_write_5 rfl ?_
  refine gf_X12_isShown O dX12_write_6 fl_X12_362 c2 ?_
  refine g_if_ne (tgt := 18) O dX12_write_9 rfl (fun q9 => ?_) (fun q9 => ?_)
  · have hw := hw.1 q9
    refine g_aload_n O dX12_write_18 rfl ?_
    refine g_iconst O dX12_write_19 kv_0 ?_
    refine pf_X12_inked O dX12_write_20 fl_X12_457 c2 ?_
    refine g_nmH (fun h20 e20 => ?_)
    have hw := hw h20 e20
    refine g_aload_n O dX12_write_23 rfl ?_
    refine gf_X12_shownOf O dX12_write_24 fl_X12_432 c2 ?_
    refine g_if_le (tgt := 44) O dX12_write_27 rfl (fun q27 => ?_) (fun q27 => ?_)
    · have hw := hw.1 q27
      exact okX12_write_j44 O hw
    · have hw := hw.2 q27
      refine g_aload_n O dX12_write_30 rfl ?_
      refine g_aload_n O dX12_write_31 rfl ?_
      refine gf_X12_shownOf O dX12_write_32 fl_X12_432 c2 ?_
      refine g_iconst O dX12_write_35 kv_1 ?_
      refine g_isub O dX12_write_36 ?_
      refine g_aload_n O dX12_write_37 rfl ?_
      refine gf_X12_shownA O dX12_write_38 fl_X12_435 c2 ?_
      refine g_callV (As := [vi (((gI h20 a0 49) - (1 : Int32))), vi (gI h20 a0 50)]) (rest := []) O ci_12 rfl dX12_write_41 ml_X12_470 im_yX12_inksState se_yX12_inksState ini_X12 co_yX12_inksState yo_yX12_inksState c2 rfl rfl (Nat.le_of_ble_eq_true rfl) ⟨by decide, by decide, by decide, by decide⟩ (okX12_inksState hw) (k_V fun h41 hw => ?_)
      exact okX12_write_j44 O hw
  · have hw := hw.2 q9
    refine g_aload_n O dX12_write_12 rfl ?_
    refine g_iconst O dX12_write_13 kv_5 ?_
    refine g_callV (As := [vi (5 : Int32)]) (rest := []) O ci_12 rfl dX12_write_14 ml_X12_350 im_yX12_refused se_yX12_refused ini_X12 co_yX12_refused yo_yX12_refused c2 rfl rfl (Nat.le_of_ble_eq_true rfl) ⟨by decide, by decide, by decide, by decide⟩ (okX12_refused hw) (k_I fun r14 h14 hw => ?_)
    exact g_ireturn O dX12_write_17 ⟨rfl, rfl, _, rfl, hw⟩
