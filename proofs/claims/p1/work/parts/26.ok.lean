theorem dX12_ways_0 : decode cX12_ways 0 = .ok (.iconst 0, 1) := by decide +kernel
theorem dX12_ways_1 : decode cX12_ways 1 = .ok (.istore_n 2, 1) := by decide +kernel
theorem dX12_ways_2 : decode cX12_ways 2 = .ok (.iconst 0, 1) := by decide +kernel
theorem dX12_ways_3 : decode cX12_ways 3 = .ok (.istore_n 3, 1) := by decide +kernel
theorem dX12_ways_4 : decode cX12_ways 4 = .ok (.iload_n 3, 1) := by decide +kernel
theorem dX12_ways_5 : decode cX12_ways 5 = .ok (.aload_n 0, 1) := by decide +kernel
theorem dX12_ways_6 : decode cX12_ways 6 = .ok (.getfield 33, 3) := by decide +kernel
theorem dX12_ways_9 : decode cX12_ways 9 = .ok (.aload_n 0, 1) := by decide +kernel
theorem dX12_ways_10 : decode cX12_ways 10 = .ok (.getfield 106, 3) := by decide +kernel
theorem dX12_ways_13 : decode cX12_ways 13 = .ok (.iaload, 1) := by decide +kernel
theorem dX12_ways_14 : decode cX12_ways 14 = .ok (.if_icmp .ge 86, 3) := by decide +kernel
theorem dX12_ways_17 : decode cX12_ways 17 = .ok (.aload_n 0, 1) := by decide +kernel
theorem dX12_ways_18 : decode cX12_ways 18 = .ok (.getfield 63, 3) := by decide +kernel
theorem dX12_ways_21 : decode cX12_ways 21 = .ok (.iconst 4, 1) := by decide +kernel
theorem dX12_ways_22 : decode cX12_ways 22 = .ok (.aload_n 0, 1) := by decide +kernel
theorem dX12_ways_23 : decode cX12_ways 23 = .ok (.getfield 106, 3) := by decide +kernel
theorem dX12_ways_26 : decode cX12_ways 26 = .ok (.imul, 1) := by decide +kernel
theorem dX12_ways_27 : decode cX12_ways 27 = .ok (.iload_n 3, 1) := by decide +kernel
theorem dX12_ways_28 : decode cX12_ways 28 = .ok (.iadd, 1) := by decide +kernel
theorem dX12_ways_29 : decode cX12_ways 29 = .ok (.iaload, 1) := by decide +kernel
theorem dX12_ways_30 : decode cX12_ways 30 = .ok (.istore 4, 2) := by decide +kernel
theorem dX12_ways_32 : decode cX12_ways 32 = .ok (.iload 4, 2) := by decide +kernel
theorem dX12_ways_34 : decode cX12_ways 34 = .ok (.aload_n 0, 1) := by decide +kernel
theorem dX12_ways_35 : decode cX12_ways 35 = .ok (.getfield 66, 3) := by decide +kernel
theorem dX12_ways_38 : decode cX12_ways 38 = .ok (.iconst 4, 1) := by decide +kernel
theorem dX12_ways_39 : decode cX12_ways 39 = .ok (.aload_n 0, 1) := by decide +kernel
theorem dX12_ways_40 : decode cX12_ways 40 = .ok (.getfield 106, 3) := by decide +kernel
theorem dX12_ways_43 : decode cX12_ways 43 = .ok (.imul, 1) := by decide +kernel
theorem dX12_ways_44 : decode cX12_ways 44 = .ok (.iload_n 3, 1) := by decide +kernel
theorem dX12_ways_45 : decode cX12_ways 45 = .ok (.iadd, 1) := by decide +kernel
theorem dX12_ways_46 : decode cX12_ways 46 = .ok (.iaload, 1) := by decide +kernel
theorem dX12_ways_47 : decode cX12_ways 47 = .ok (.if_icmp .gt 47, 3) := by decide +kernel
theorem dX12_ways_50 : decode cX12_ways 50 = .ok (.aload_n 0, 1) := by decide +kernel
theorem dX12_ways_51 : decode cX12_ways 51 = .ok (.aload_n 0, 1) := by decide +kernel
theorem dX12_ways_52 : decode cX12_ways 52 = .ok (.getfield 106, 3) := by decide +kernel
theorem dX12_ways_55 : decode cX12_ways 55 = .ok (.iload_n 3, 1) := by decide +kernel
theorem dX12_ways_56 : decode cX12_ways 56 = .ok (.aload_n 0, 1) := by decide +kernel
theorem dX12_ways_57 : decode cX12_ways 57 = .ok (.getfield 473, 3) := by decide +kernel
theorem dX12_ways_60 : decode cX12_ways 60 = .ok (.iload 4, 2) := by decide +kernel
theorem dX12_ways_62 : decode cX12_ways 62 = .ok (.invokevirtual 482, 3) := by decide +kernel
theorem dX12_ways_65 : decode cX12_ways 65 = .ok (.ifCond .ne 6, 3) := by decide +kernel
theorem dX12_ways_68 : decode cX12_ways 68 = .ok (.goto 20, 3) := by decide +kernel
theorem dX12_ways_71 : decode cX12_ways 71 = .ok (.iload_n 2, 1) := by decide +kernel
theorem dX12_ways_72 : decode cX12_ways 72 = .ok (.iload_n 1, 1) := by decide +kernel
theorem dX12_ways_73 : decode cX12_ways 73 = .ok (.if_icmp .ne 12, 3) := by decide +kernel
theorem dX12_ways_76 : decode cX12_ways 76 = .ok (.aload_n 0, 1) := by decide +kernel
theorem dX12_ways_77 : decode cX12_ways 77 = .ok (.iload_n 3, 1) := by decide +kernel
theorem dX12_ways_78 : decode cX12_ways 78 = .ok (.iload 4, 2) := by decide +kernel
theorem dX12_ways_80 : decode cX12_ways 80 = .ok (.invokevirtual 485, 3) := by decide +kernel
theorem dX12_ways_83 : decode cX12_ways 83 = .ok (.iload_n 2, 1) := by decide +kernel
theorem dX12_ways_84 : decode cX12_ways 84 = .ok (.ireturn, 1) := by decide +kernel
theorem dX12_ways_85 : decode cX12_ways 85 = .ok (.iinc 2 1, 3) := by decide +kernel
theorem dX12_ways_88 : decode cX12_ways 88 = .ok (.iinc 4 1, 3) := by decide +kernel
theorem dX12_ways_91 : decode cX12_ways 91 = .ok (.goto (-59), 3) := by decide +kernel
theorem dX12_ways_94 : decode cX12_ways 94 = .ok (.iinc 3 1, 3) := by decide +kernel
theorem dX12_ways_97 : decode cX12_ways 97 = .ok (.goto (-93), 3) := by decide +kernel
theorem dX12_ways_100 : decode cX12_ways 100 = .ok (.iload_n 2, 1) := by decide +kernel
theorem dX12_ways_101 : decode cX12_ways 101 = .ok (.ireturn, 1) := by decide +kernel
theorem okX12_ways_32 {E : Ev} {X : Cx} {S : Sh} {Z : Option Nat} {Q : Int32 → Hp → Prop} {B4 : Hp → Int32 → Int32 → Prop} {a0 : Nat} {x1 : Int32} {x3 : Int32} (O : Ok E X yX12_ways cX12_ways 5 (some .int) 6 161 0 0 (qI S Z Q)) (hB4 : ∀ (h : Hp) (x2 : Int32) (x3 : Int32), B4 h x2 x3 → G E X 0 0 S Z h 4 [some (vr a0), some (vi x1), some (vi x2), some (vi x3), none] []) : ∀ (n : Nat) (h : Hp) (x2 : Int32) (x4 : Int32), wX12_ways_32 S B4 a0 x1 x3 Q n h x2 x4 → G E X 0 0 S Z h 32 [some (vr a0), some (vi x1), some (vi x2), some (vi x3), some (vi x4)] [] := by
  intro n
  induction n with
  | zero => intro h x2 x4 hw; exact hw.elim
  | succ n hB32 =>
    intro h x2 x4 hw
    have hw : wX12_ways_32b S B4 a0 x1 x3 Q (wX12_ways_32 S B4 a0 x1 x3 Q n) h x2 x4 := hw
    unfold wX12_ways_32b at hw
    refine g_iload O dX12_ways_32 rfl ?_
    refine g_aload_n O dX12_ways_34 rfl ?_
    obtain ⟨c35, hw⟩ := hw
    refine gf_X12_lastPick O dX12_ways_35 fl_X12_66 c35 ?_
    refine g_iconst O dX12_ways_38 kv_4 ?_
    refine g_aload_n O dX12_ways_39 rfl ?_
    refine gf_X12_runOf O dX12_ways_40 fl_X12_106 c35 ?_
    refine g_imul O dX12_ways_43 ?_
    refine g_iload_n O dX12_ways_44 rfl ?_
    refine g_iadd O dX12_ways_45 ?_
    obtain ⟨c46, hw⟩ := hw
    refine g_iaload O dX12_ways_46 c46.1 c46.2 ?_
    refine g_icmp_gt (tgt := 94) O dX12_ways_47 rfl (fun q47 => ?_) (fun q47 => ?_)
    · have hw := hw.1 q47
      refine g_iinc (lc' := [some (vr a0), some (vi x1), some (vi x2), some (vi (x3 + (1 : Int32))), some (vi x4)]) O dX12_ways_94 rfl kv_1 rfl rfl ?_
      refine g_goto (tgt := 4) O dX12_ways_97 rfl ?_
      refine g_mask [true, true, true, true, false] rfl rfl ?_
      exact hB4 _ _ _ hw
    · have hw := hw.2 q47
      refine g_aload_n O dX12_ways_50 rfl ?_
      refine g_aload_n O dX12_ways_51 rfl ?_
      refine gf_X12_runOf O dX12_ways_52 fl_X12_106 c35 ?_
      refine g_iload_n O dX12_ways_55 rfl ?_
      refine g_aload_n O dX12_ways_56 rfl ?_
      refine gf_X12_runState O dX12_ways_57 fl_X12_473 c35 ?_
      refine g_iload O dX12_ways_60 rfl ?_
      refine g_callV (As := [vi (gI h a0 56), vi x3, vi (gI h a0 57), vi x4]) (rest := []) O ci_12 rfl dX12_ways_62 ml_X12_482 im_yX12_goes se_yX12_goes ini_X12 co_yX12_goes yo_yX12_goes c35 rfl rfl (Nat.le_of_ble_eq_true rfl) ⟨by decide, by decide, by decide, by decide⟩ (okX12_goes hw) (k_I fun r62 h62 hw => ?_)
      refine g_if_ne (tgt := 71) O dX12_ways_65 rfl (fun q65 => ?_) (fun q65 => ?_)
      · have hw := hw.1 q65
        refine g_iload_n O dX12_ways_71 rfl ?_
        refine g_iload_n O dX12_ways_72 rfl ?_
        refine g_icmp_ne (tgt := 85) O dX12_ways_73 rfl (fun q73 => ?_) (fun q73 => ?_)
        · have hw := hw.1 q73
          refine g_iinc (lc' := [some (vr a0), some (vi x1), some (vi (x2 + (1 : Int32))), some (vi x3), some (vi x4)]) O dX12_ways_85 rfl kv_1 rfl rfl ?_
          refine g_iinc (lc' := [some (vr a0), some (vi x1), some (vi (x2 + (1 : Int32))), some (vi x3), some (vi (x4 + (1 : Int32)))]) O dX12_ways_88 rfl kv_1 rfl rfl ?_
          refine g_goto (tgt := 32) O dX12_ways_91 rfl ?_
          exact hB32 _ _ _ hw
        · have hw := hw.2 q73
          refine g_aload_n O dX12_ways_76 rfl ?_
          refine g_iload_n O dX12_ways_77 rfl ?_
          refine g_iload O dX12_ways_78 rfl ?_
          refine g_callV (As := [vi x3, vi x4]) (rest := []) O ci_12 rfl dX12_ways_80 ml_X12_485 im_yX12_makes se_yX12_makes ini_X12 co_yX12_makes yo_yX12_makes c35 rfl rfl (Nat.le_of_ble_eq_true rfl) ⟨by decide, by decide, by decide, by decide⟩ (okX12_makes hw) (k_V fun h80 hw => ?_)
          refine g_iload_n O dX12_ways_83 rfl ?_
          exact g_ireturn O dX12_ways_84 ⟨rfl, rfl, _, rfl, hw⟩
      · have hw := hw.2 q65
        refine g_goto (tgt := 88) O dX12_ways_68 rfl ?_
        refine g_iinc (lc' := [some (vr a0), some (vi x1), some (vi x2), some (vi x3), some (vi (x4 + (1 : Int32)))]) O dX12_ways_88 rfl kv_1 rfl rfl ?_
        refine g_goto (tgt := 32) O dX12_ways_91 rfl ?_
        exact hB32 _ _ _ hw
theorem okX12_ways_4 {E : Ev} {X : Cx} {S : Sh} {Z : Option Nat} {Q : Int32 → Hp → Prop} {a0 : Nat} {x1 : Int32} (O : Ok E X yX12_ways cX12_ways 5 (some .int) 6 161 0 0 (qI S Z Q)) : ∀ (n : Nat) (h : Hp) (x2 : Int32) (x3 : Int32), wX12_ways_4 S a0 x1 Q n h x2 x3 → G E X 0 0 S Z h 4 [some (vr a0), some (vi x1), some (vi x2), some (vi x3), none] [] := by
  intro n
  induction n with
  | zero => intro h x2 x3 hw; exact hw.elim
  | succ n hB4 =>
    intro h x2 x3 hw
    have hw : wX12_ways_4b S a0 x1 Q (wX12_ways_4 S a0 x1 Q n) h x2 x3 := hw
    unfold wX12_ways_4b at hw
    refine g_iload_n O dX12_ways_4 rfl ?_
    refine g_aload_n O dX12_ways_5 rfl ?_
    obtain ⟨c6, hw⟩ := hw
    refine gf_X12_eventMany O dX12_ways_6 fl_X12_33 c6 ?_
    refine g_aload_n O dX12_ways_9 rfl ?_
    refine gf_X12_runOf O dX12_ways_10 fl_X12_106 c6 ?_
    obtain ⟨c13, hw⟩ := hw
    refine g_iaload O dX12_ways_13 c13.1 c13.2 ?_
    refine g_icmp_ge (tgt := 100) O dX12_ways_14 rfl (fun q14 => ?_) (fun q14 => ?_)
    · have hw := hw.1 q14
      refine g_iload_n O dX12_ways_100 rfl ?_
      exact g_ireturn O dX12_ways_101 ⟨rfl, rfl, _, rfl, hw⟩
    · have hw := hw.2 q14
      refine g_aload_n O dX12_ways_17 rfl ?_
      refine gf_X12_firstPick O dX12_ways_18 fl_X12_63 c6 ?_
      refine g_iconst O dX12_ways_21 kv_4 ?_
      refine g_aload_n O dX12_ways_22 rfl ?_
      refine gf_X12_runOf O dX12_ways_23 fl_X12_106 c6 ?_
      refine g_imul O dX12_ways_26 ?_
      refine g_iload_n O dX12_ways_27 rfl ?_
      refine g_iadd O dX12_ways_28 ?_
      obtain ⟨c29, hw⟩ := hw
      refine g_iaload O dX12_ways_29 c29.1 c29.2 ?_
      refine g_nmI (fun xv30 e30 => ?_)
      have hw := hw xv30 e30
      refine g_istore (lc' := [some (vr a0), some (vi x1), some (vi x2), some (vi x3), some (vi xv30)]) O dX12_ways_30 rfl (Nat.le_of_ble_eq_true rfl) rfl ?_
      obtain ⟨n32, hw⟩ := hw
      exact okX12_ways_32 O hB4 n32 _ _ _ hw
theorem okX12_ways {E : Ev} {S : Sh} {Z : Option Nat} {Q : Int32 → Hp → Prop} {h : Hp} {a0 : Nat} {x1 : Int32} (hw : wX12_ways S h a0 x1 Q) : Ct E yX12_ways cX12_ways 5 (some .int) 6 161 0 0 S Z h [vr a0, vi x1] (qI S Z Q) := by
  refine Ct.of (by decide) (lc := [some (vr a0), some (vi x1), none, none, none]) (Nat.le_of_ble_eq_true rfl) rfl (fun X O => ?_)
  unfold wX12_ways at hw
  refine g_iconst O dX12_ways_0 kv_0 ?_
  refine g_istore_n (lc' := [some (vr a0), some (vi x1), some (vi (0 : Int32)), none, none]) O dX12_ways_1 rfl (Nat.le_of_ble_eq_true rfl) rfl ?_
  refine g_iconst O dX12_ways_2 kv_0 ?_
  refine g_istore_n (lc' := [some (vr a0), some (vi x1), some (vi (0 : Int32)), some (vi (0 : Int32)), none]) O dX12_ways_3 rfl (Nat.le_of_ble_eq_true rfl) rfl ?_
  obtain ⟨n4, hw⟩ := hw
  exact okX12_ways_4 O n4 _ _ _ hw
theorem dX12_draws_0 : decode cX12_draws 0 = .ok (.aload_n 0, 1) := by decide +kernel
theorem dX12_draws_1 : decode cX12_draws 1 = .ok (.iconst 0, 1) := by decide +kernel
theorem dX12_draws_2 : decode cX12_draws 2 = .ok (.putfield 121, 3) := by decide +kernel
theorem dX12_draws_5 : decode cX12_draws 5 = .ok (.aload_n 0, 1) := by decide +kernel
theorem dX12_draws_6 : decode cX12_draws 6 = .ok (.getfield 106, 3) := by decide +kernel
theorem dX12_draws_9 : decode cX12_draws 9 = .ok (.iconst (-1), 1) := by decide +kernel
theorem dX12_draws_10 : decode cX12_draws 10 = .ok (.if_icmp .ne 9, 3) := by decide +kernel
theorem dX12_draws_13 : decode cX12_draws 13 = .ok (.aload_n 0, 1) := by decide +kernel
theorem dX12_draws_14 : decode cX12_draws 14 = .ok (.iconst 1, 1) := by decide +kernel
theorem dX12_draws_15 : decode cX12_draws 15 = .ok (.invokevirtual 350, 3) := by decide +kernel
theorem dX12_draws_18 : decode cX12_draws 18 = .ok (.ireturn, 1) := by decide +kernel
theorem dX12_draws_19 : decode cX12_draws 19 = .ok (.iload_n 1, 1) := by decide +kernel
theorem dX12_draws_20 : decode cX12_draws 20 = .ok (.iconst 1, 1) := by decide +kernel
theorem dX12_draws_21 : decode cX12_draws 21 = .ok (.bipush 40, 2) := by decide +kernel
theorem dX12_draws_23 : decode cX12_draws 23 = .ok (.invokestatic 142, 3) := by decide +kernel
theorem dX12_draws_26 : decode cX12_draws 26 = .ok (.ifCond .eq 7, 3) := by decide +kernel
theorem dX12_draws_29 : decode cX12_draws 29 = .ok (.iload_n 2, 1) := by decide +kernel
theorem dX12_draws_30 : decode cX12_draws 30 = .ok (.ifCond .ge 9, 3) := by decide +kernel
theorem dX12_draws_33 : decode cX12_draws 33 = .ok (.aload_n 0, 1) := by decide +kernel
theorem dX12_draws_34 : decode cX12_draws 34 = .ok (.iconst 2, 1) := by decide +kernel
theorem dX12_draws_35 : decode cX12_draws 35 = .ok (.invokevirtual 350, 3) := by decide +kernel
theorem dX12_draws_38 : decode cX12_draws 38 = .ok (.ireturn, 1) := by decide +kernel
theorem dX12_draws_39 : decode cX12_draws 39 = .ok (.aload_n 0, 1) := by decide +kernel
theorem dX12_draws_40 : decode cX12_draws 40 = .ok (.iload_n 2, 1) := by decide +kernel
theorem dX12_draws_41 : decode cX12_draws 41 = .ok (.i2l, 1) := by decide +kernel
theorem dX12_draws_42 : decode cX12_draws 42 = .ok (.putfield 496, 3) := by decide +kernel
theorem dX12_draws_45 : decode cX12_draws 45 = .ok (.iconst 0, 1) := by decide +kernel
theorem dX12_draws_46 : decode cX12_draws 46 = .ok (.istore_n 3, 1) := by decide +kernel
theorem dX12_draws_47 : decode cX12_draws 47 = .ok (.aload_n 0, 1) := by decide +kernel
theorem dX12_draws_48 : decode cX12_draws 48 = .ok (.iconst (-1), 1) := by decide +kernel
theorem dX12_draws_49 : decode cX12_draws 49 = .ok (.invokevirtual 505, 3) := by decide +kernel
theorem dX12_draws_52 : decode cX12_draws 52 = .ok (.istore 4, 2) := by decide +kernel
theorem dX12_draws_54 : decode cX12_draws 54 = .ok (.iload_n 3, 1) := by decide +kernel
theorem dX12_draws_55 : decode cX12_draws 55 = .ok (.iload_n 1, 1) := by decide +kernel
theorem dX12_draws_56 : decode cX12_draws 56 = .ok (.if_icmp .ge 33, 3) := by decide +kernel
theorem dX12_draws_59 : decode cX12_draws 59 = .ok (.iload 4, 2) := by decide +kernel
theorem dX12_draws_61 : decode cX12_draws 61 = .ok (.ifCond .le 28, 3) := by decide +kernel
theorem dX12_draws_64 : decode cX12_draws 64 = .ok (.aload_n 0, 1) := by decide +kernel
theorem dX12_draws_65 : decode cX12_draws 65 = .ok (.aload_n 0, 1) := by decide +kernel
theorem dX12_draws_66 : decode cX12_draws 66 = .ok (.iload 4, 2) := by decide +kernel
theorem dX12_draws_68 : decode cX12_draws 68 = .ok (.invokevirtual 508, 3) := by decide +kernel
theorem dX12_draws_71 : decode cX12_draws 71 = .ok (.invokevirtual 505, 3) := by decide +kernel
theorem dX12_draws_74 : decode cX12_draws 74 = .ok (.istore 5, 2) := by decide +kernel
theorem dX12_draws_76 : decode cX12_draws 76 = .ok (.iinc 3 1, 3) := by decide +kernel
theorem dX12_draws_79 : decode cX12_draws 79 = .ok (.aload_n 0, 1) := by decide +kernel
theorem dX12_draws_80 : decode cX12_draws 80 = .ok (.iconst (-1), 1) := by decide +kernel
theorem dX12_draws_81 : decode cX12_draws 81 = .ok (.invokevirtual 505, 3) := by decide +kernel
theorem dX12_draws_84 : decode cX12_draws 84 = .ok (.istore 4, 2) := by decide +kernel
theorem dX12_draws_86 : decode cX12_draws 86 = .ok (.goto (-32), 3) := by decide +kernel
theorem dX12_draws_89 : decode cX12_draws 89 = .ok (.aload_n 0, 1) := by decide +kernel
theorem dX12_draws_90 : decode cX12_draws 90 = .ok (.iload_n 3, 1) := by decide +kernel
theorem dX12_draws_91 : decode cX12_draws 91 = .ok (.invokevirtual 365, 3) := by decide +kernel
theorem dX12_draws_94 : decode cX12_draws 94 = .ok (.ireturn, 1) := by decide +kernel
theorem okX12_draws_54 {E : Ev} {X : Cx} {S : Sh} {Z : Option Nat} {Q : Int32 → Hp → Prop} {a0 : Nat} {x1 : Int32} (O : Ok E X yX12_draws cX12_draws 6 (some .int) 7 185 0 0 (qI S Z Q)) : ∀ (n : Nat) (h : Hp) (x3 : Int32) (x4 : Int32), wX12_draws_54 S a0 x1 Q n h x3 x4 → G E X 0 0 S Z h 54 [some (vr a0), some (vi x1), none, some (vi x3), some (vi x4), none] [] := by
  intro n
  induction n with
  | zero => intro h x3 x4 hw; exact hw.elim
  | succ n hB54 =>
    intro h x3 x4 hw
    have hw : wX12_draws_54b S a0 x1 Q (wX12_draws_54 S a0 x1 Q n) h x3 x4 := hw
    unfold wX12_draws_54b at hw
    refine g_iload_n O dX12_draws_54 rfl ?_
    refine g_iload_n O dX12_draws_55 rfl ?_
    refine g_icmp_ge (tgt := 89) O dX12_draws_56 rfl (fun q56 => ?_) (fun q56 => ?_)
    · have hw := hw.1 q56
      refine g_aload_n O dX12_draws_89 rfl ?_
      refine g_iload_n O dX12_draws_90 rfl ?_
      obtain ⟨c91, hw⟩ := hw
      refine g_callV (As := [vi x3]) (rest := []) O ci_12 rfl dX12_draws_91 ml_X12_365 im_yX12_good se_yX12_good ini_X12 co_yX12_good yo_yX12_good c91 rfl rfl (Nat.le_of_ble_eq_true rfl) ⟨by decide, by decide, by decide, by decide⟩ (okX12_good hw) (k_I fun r91 h91 hw => ?_)
      exact g_ireturn O dX12_draws_94 ⟨rfl, rfl, _, rfl, hw⟩
    · have hw := hw.2 q56
      refine g_iload O dX12_draws_59 rfl ?_
      refine g_if_le (tgt := 89) O dX12_draws_61 rfl (fun q61 => ?_) (fun q61 => ?_)
      · have hw := hw.1 q61
        refine g_aload_n O dX12_draws_89 rfl ?_
        refine g_iload_n O dX12_draws_90 rfl ?_
        obtain ⟨c91, hw⟩ := hw
        refine g_callV (As := [vi x3]) (rest := []) O ci_12 rfl dX12_draws_91 ml_X12_365 im_yX12_good se_yX12_good ini_X12 co_yX12_good yo_yX12_good c91 rfl rfl (Nat.le_of_ble_eq_true rfl) ⟨by decide, by decide, by decide, by decide⟩ (okX12_good hw) (k_I fun r91 h91 hw => ?_)
        exact g_ireturn O dX12_draws_94 ⟨rfl, rfl, _, rfl, hw⟩
      · have hw := hw.2 q61
        refine g_aload_n O dX12_draws_64 rfl ?_
        refine g_aload_n O dX12_draws_65 rfl ?_
        refine g_iload O dX12_draws_66 rfl ?_
        obtain ⟨c68, hw⟩ := hw
        refine g_callV (As := [vi x4]) (rest := [vr a0]) O ci_12 rfl dX12_draws_68 ml_X12_508 im_yX12_draw se_yX12_draw ini_X12 co_yX12_draw yo_yX12_draw c68 rfl rfl (Nat.le_of_ble_eq_true rfl) ⟨by decide, by decide, by decide, by decide⟩ (okX12_draw hw) (k_I fun r68 h68 hw => ?_)
        refine g_callV (As := [vi r68]) (rest := []) O ci_12 rfl dX12_draws_71 ml_X12_505 im_yX12_ways se_yX12_ways ini_X12 co_yX12_ways yo_yX12_ways c68 rfl rfl (Nat.le_of_ble_eq_true rfl) ⟨by decide, by decide, by decide, by decide⟩ (okX12_ways hw) (k_I fun r71 h71 hw => ?_)
        refine g_istore (lc' := [some (vr a0), some (vi x1), none, some (vi x3), some (vi x4), some (vi r71)]) O dX12_draws_74 rfl (Nat.le_of_ble_eq_true rfl) rfl ?_
        refine g_iinc (lc' := [some (vr a0), some (vi x1), none, some (vi (x3 + (1 : Int32))), some (vi x4), some (vi r71)]) O dX12_draws_76 rfl kv_1 rfl rfl ?_
        refine g_aload_n O dX12_draws_79 rfl ?_
        refine g_iconst O dX12_draws_80 kv_m1 ?_
        refine g_callV (As := [vi (-1 : Int32)]) (rest := []) O ci_12 rfl dX12_draws_81 ml_X12_505 im_yX12_ways se_yX12_ways ini_X12 co_yX12_ways yo_yX12_ways c68 rfl rfl (Nat.le_of_ble_eq_true rfl) ⟨by decide, by decide, by decide, by decide⟩ (okX12_ways hw) (k_I fun r81 h81 hw => ?_)
        refine g_istore (lc' := [some (vr a0), some (vi x1), none, some (vi (x3 + (1 : Int32))), some (vi r81), some (vi r71)]) O dX12_draws_84 rfl (Nat.le_of_ble_eq_true rfl) rfl ?_
        refine g_goto (tgt := 54) O dX12_draws_86 rfl ?_
        refine g_mask [true, true, false, true, true, false] rfl rfl ?_
        exact hB54 _ _ _ hw
theorem okX12_draws {E : Ev} {S : Sh} {Z : Option Nat} {Q : Int32 → Hp → Prop} {h : Hp} {a0 : Nat} {x1 : Int32} {x2 : Int32} (hw : wX12_draws S h a0 x1 x2 Q) : Ct E yX12_draws cX12_draws 6 (some .int) 7 185 0 0 S Z h [vr a0, vi x1, vi x2] (qI S Z Q) := by
  refine Ct.of (by decide) (lc := [some (vr a0), some (vi x1), some (vi x2), none, none, none]) (Nat.le_of_ble_eq_true rfl) rfl (fun X O => ?_)
  unfold wX12_draws at hw
  refine g_aload_n O dX12_draws_0 rfl ?_
  refine g_iconst O dX12_draws_1 kv_0 ?_
  obtain ⟨c2, hw⟩ := hw
  refine pf_X12_thrown O dX12_draws_2 fl_X12_121 c2 ?_
  refine g_nmH (fun h2 e2 => ?_)
  have hw := hw h2 e2
  refine g_aload_n O dX12_draws_5 rfl ?_
  refine gf_X12_runOf O dX12_draws_6 fl_X12_106 c2 ?_
  refine g_iconst O dX12_draws_9 kv_m1 ?_
  refine g_icmp_ne (tgt := 19) O dX12_draws_10 rfl (fun q10 => ?_) (fun q10 => ?_)
  · have hw := hw.1 q10
    refine g_iload_n O dX12_draws_19 rfl ?_
    refine g_iconst O dX12_draws_20 kv_1 ?_
    refine g_bipush O dX12_draws_21 kb_40 ?_
    refine g_callS (As := [vi x1, vi (1 : Int32), vi (40 : Int32)]) (rest := []) O dX12_draws_23 ml_X12_142 st_yX12_in ini_X12 co_yX12_in yo_yX12_in rfl rfl (Nat.le_of_ble_eq_true rfl) ⟨by decide, by decide, by decide, by decide⟩ (okX12_in hw) (k_I fun r23 h23 hw => ?_)
    refine g_if_eq (tgt := 33) O dX12_draws_26 rfl (fun q26 => ?_) (fun q26 => ?_)
    · have hw := hw.1 q26
      refine g_aload_n O dX12_draws_33 rfl ?_
      refine g_iconst O dX12_draws_34 kv_2 ?_
      refine g_callV (As := [vi (2 : Int32)]) (rest := []) O ci_12 rfl dX12_draws_35 ml_X12_350 im_yX12_refused se_yX12_refused ini_X12 co_yX12_refused yo_yX12_refused c2 rfl rfl (Nat.le_of_ble_eq_true rfl) ⟨by decide, by decide, by decide, by decide⟩ (okX12_refused hw) (k_I fun r35 h35 hw => ?_)
      exact g_ireturn O dX12_draws_38 ⟨rfl, rfl, _, rfl, hw⟩
    · have hw := hw.2 q26
      refine g_iload_n O dX12_draws_29 rfl ?_
      refine g_if_ge (tgt := 39) O dX12_draws_30 rfl (fun q30 => ?_) (fun q30 => ?_)
      · have hw := hw.1 q30
        refine g_aload_n O dX12_draws_39 rfl ?_
        refine g_iload_n O dX12_draws_40 rfl ?_
        refine g_i2l O dX12_draws_41 ?_
        refine pf_X12_seed O dX12_draws_42 fl_X12_496 c2 ?_
        refine g_iconst O dX12_draws_45 kv_0 ?_
        refine g_istore_n (lc' := [some (vr a0), some (vi x1), some (vi x2), some (vi (0 : Int32)), none, none]) O dX12_draws_46 rfl (Nat.le_of_ble_eq_true rfl) rfl ?_
        refine g_aload_n O dX12_draws_47 rfl ?_
        refine g_iconst O dX12_draws_48 kv_m1 ?_
        refine g_callV (As := [vi (-1 : Int32)]) (rest := []) O ci_12 rfl dX12_draws_49 ml_X12_505 im_yX12_ways se_yX12_ways ini_X12 co_yX12_ways yo_yX12_ways c2 rfl rfl (Nat.le_of_ble_eq_true rfl) ⟨by decide, by decide, by decide, by decide⟩ (okX12_ways hw) (k_I fun r49 h49 hw => ?_)
        refine g_istore (lc' := [some (vr a0), some (vi x1), some (vi x2), some (vi (0 : Int32)), some (vi r49), none]) O dX12_draws_52 rfl (Nat.le_of_ble_eq_true rfl) rfl ?_
        refine g_mask [true, true, false, true, true, false] rfl rfl ?_
        obtain ⟨n54, hw⟩ := hw
        exact okX12_draws_54 O n54 _ _ _ hw
      · have hw := hw.2 q30
        refine g_aload_n O dX12_draws_33 rfl ?_
        refine g_iconst O dX12_draws_34 kv_2 ?_
        refine g_callV (As := [vi (2 : Int32)]) (rest := []) O ci_12 rfl dX12_draws_35 ml_X12_350 im_yX12_refused se_yX12_refused ini_X12 co_yX12_refused yo_yX12_refused c2 rfl rfl (Nat.le_of_ble_eq_true rfl) ⟨by decide, by decide, by decide, by decide⟩ (okX12_refused hw) (k_I fun r35 h35 hw => ?_)
        exact g_ireturn O dX12_draws_38 ⟨rfl, rfl, _, rfl, hw⟩
  · have hw := hw.2 q10
    refine g_aload_n O dX12_draws_13 rfl ?_
    refine g_iconst O dX12_draws_14 kv_1 ?_
    refine g_callV (As := [vi (1 : Int32)]) (rest := []) O ci_12 rfl dX12_draws_15 ml_X12_350 im_yX12_refused se_yX12_refused ini_X12 co_yX12_refused yo_yX12_refused c2 rfl rfl (Nat.le_of_ble_eq_true rfl) ⟨by decide, by decide, by decide, by decide⟩ (okX12_refused hw) (k_I fun r15 h15 hw => ?_)
    exact g_ireturn O dX12_draws_18 ⟨rfl, rfl, _, rfl, hw⟩
theorem dX12_goesOn_0 : decode cX12_goesOn 0 = .ok (.iconst 0, 1) := by decide +kernel
theorem dX12_goesOn_1 : decode cX12_goesOn 1 = .ok (.istore_n 3, 1) := by decide +kernel
theorem dX12_goesOn_2 : decode cX12_goesOn 2 = .ok (.iload_n 3, 1) := by decide +kernel
theorem dX12_goesOn_3 : decode cX12_goesOn 3 = .ok (.iload_n 1, 1) := by decide +kernel
theorem dX12_goesOn_4 : decode cX12_goesOn 4 = .ok (.ifCond .ne 7, 3) := by decide +kernel
theorem dX12_goesOn_7 : decode cX12_goesOn 7 = .ok (.iconst 1, 1) := by decide +kernel
theorem dX12_goesOn_8 : decode cX12_goesOn 8 = .ok (.goto 11, 3) := by decide +kernel
theorem dX12_goesOn_11 : decode cX12_goesOn 11 = .ok (.aload_n 0, 1) := by decide +kernel
theorem dX12_goesOn_12 : decode cX12_goesOn 12 = .ok (.getfield 36, 3) := by decide +kernel
theorem dX12_goesOn_15 : decode cX12_goesOn 15 = .ok (.iload_n 1, 1) := by decide +kernel
theorem dX12_goesOn_16 : decode cX12_goesOn 16 = .ok (.iconst 1, 1) := by decide +kernel
theorem dX12_goesOn_17 : decode cX12_goesOn 17 = .ok (.isub, 1) := by decide +kernel
theorem dX12_goesOn_18 : decode cX12_goesOn 18 = .ok (.iaload, 1) := by decide +kernel
theorem dX12_goesOn_19 : decode cX12_goesOn 19 = .ok (.if_icmp .ge 107, 3) := by decide +kernel
theorem dX12_goesOn_22 : decode cX12_goesOn 22 = .ok (.iconst 0, 1) := by decide +kernel
theorem dX12_goesOn_23 : decode cX12_goesOn 23 = .ok (.istore 4, 2) := by decide +kernel
theorem dX12_goesOn_25 : decode cX12_goesOn 25 = .ok (.iload 4, 2) := by decide +kernel
theorem dX12_goesOn_27 : decode cX12_goesOn 27 = .ok (.aload_n 0, 1) := by decide +kernel
theorem dX12_goesOn_28 : decode cX12_goesOn 28 = .ok (.getfield 36, 3) := by decide +kernel
theorem dX12_goesOn_31 : decode cX12_goesOn 31 = .ok (.iload_n 1, 1) := by decide +kernel
theorem dX12_goesOn_32 : decode cX12_goesOn 32 = .ok (.iaload, 1) := by decide +kernel
theorem dX12_goesOn_33 : decode cX12_goesOn 33 = .ok (.if_icmp .ge 87, 3) := by decide +kernel
theorem dX12_goesOn_36 : decode cX12_goesOn 36 = .ok (.iload_n 1, 1) := by decide +kernel
theorem dX12_goesOn_37 : decode cX12_goesOn 37 = .ok (.ifCond .ne 16, 3) := by decide +kernel
theorem dX12_goesOn_40 : decode cX12_goesOn 40 = .ok (.aload_n 0, 1) := by decide +kernel
theorem dX12_goesOn_41 : decode cX12_goesOn 41 = .ok (.getfield 97, 3) := by decide +kernel
theorem dX12_goesOn_44 : decode cX12_goesOn 44 = .ok (.iload 4, 2) := by decide +kernel
theorem dX12_goesOn_46 : decode cX12_goesOn 46 = .ok (.baload, 1) := by decide +kernel
theorem dX12_goesOn_47 : decode cX12_goesOn 47 = .ok (.ifCond .ne 24, 3) := by decide +kernel
theorem dX12_goesOn_50 : decode cX12_goesOn 50 = .ok (.goto 64, 3) := by decide +kernel
theorem dX12_goesOn_53 : decode cX12_goesOn 53 = .ok (.aload_n 0, 1) := by decide +kernel
theorem dX12_goesOn_54 : decode cX12_goesOn 54 = .ok (.getfield 100, 3) := by decide +kernel
theorem dX12_goesOn_57 : decode cX12_goesOn 57 = .ok (.iload_n 1, 1) := by decide +kernel
theorem dX12_goesOn_58 : decode cX12_goesOn 58 = .ok (.iload_n 3, 1) := by decide +kernel
theorem dX12_goesOn_59 : decode cX12_goesOn 59 = .ok (.iload 4, 2) := by decide +kernel
theorem dX12_goesOn_61 : decode cX12_goesOn 61 = .ok (.invokestatic 382, 3) := by decide +kernel
theorem dX12_goesOn_64 : decode cX12_goesOn 64 = .ok (.baload, 1) := by decide +kernel
theorem dX12_goesOn_65 : decode cX12_goesOn 65 = .ok (.ifCond .ne 6, 3) := by decide +kernel
theorem dX12_goesOn_68 : decode cX12_goesOn 68 = .ok (.goto 46, 3) := by decide +kernel
theorem dX12_goesOn_71 : decode cX12_goesOn 71 = .ok (.iload_n 1, 1) := by decide +kernel
theorem dX12_goesOn_72 : decode cX12_goesOn 72 = .ok (.ifCond .le 14, 3) := by decide +kernel
theorem dX12_goesOn_75 : decode cX12_goesOn 75 = .ok (.aload_n 0, 1) := by decide +kernel
theorem dX12_goesOn_76 : decode cX12_goesOn 76 = .ok (.iload_n 1, 1) := by decide +kernel
theorem dX12_goesOn_77 : decode cX12_goesOn 77 = .ok (.iconst 1, 1) := by decide +kernel
theorem dX12_goesOn_78 : decode cX12_goesOn 78 = .ok (.isub, 1) := by decide +kernel
theorem dX12_goesOn_79 : decode cX12_goesOn 79 = .ok (.iload_n 3, 1) := by decide +kernel
theorem dX12_goesOn_80 : decode cX12_goesOn 80 = .ok (.invokevirtual 444, 3) := by decide +kernel
theorem dX12_goesOn_83 : decode cX12_goesOn 83 = .ok (.ifCond .eq 31, 3) := by decide +kernel
theorem dX12_goesOn_86 : decode cX12_goesOn 86 = .ok (.aload_n 0, 1) := by decide +kernel
theorem dX12_goesOn_87 : decode cX12_goesOn 87 = .ok (.iload_n 1, 1) := by decide +kernel
theorem dX12_goesOn_88 : decode cX12_goesOn 88 = .ok (.iload 4, 2) := by decide +kernel
theorem dX12_goesOn_90 : decode cX12_goesOn 90 = .ok (.invokevirtual 444, 3) := by decide +kernel
theorem dX12_goesOn_93 : decode cX12_goesOn 93 = .ok (.ifCond .eq 6, 3) := by decide +kernel
theorem dX12_goesOn_96 : decode cX12_goesOn 96 = .ok (.goto 18, 3) := by decide +kernel
theorem dX12_goesOn_99 : decode cX12_goesOn 99 = .ok (.iload_n 2, 1) := by decide +kernel
theorem dX12_goesOn_100 : decode cX12_goesOn 100 = .ok (.ifCond .eq 12, 3) := by decide +kernel
theorem dX12_goesOn_103 : decode cX12_goesOn 103 = .ok (.aload_n 0, 1) := by decide +kernel
theorem dX12_goesOn_104 : decode cX12_goesOn 104 = .ok (.iload_n 1, 1) := by decide +kernel
theorem dX12_goesOn_105 : decode cX12_goesOn 105 = .ok (.iload_n 3, 1) := by decide +kernel
theorem dX12_goesOn_106 : decode cX12_goesOn 106 = .ok (.iload 4, 2) := by decide +kernel
theorem dX12_goesOn_108 : decode cX12_goesOn 108 = .ok (.iconst 0, 1) := by decide +kernel
theorem dX12_goesOn_109 : decode cX12_goesOn 109 = .ok (.invokevirtual 428, 3) := by decide +kernel
theorem dX12_goesOn_112 : decode cX12_goesOn 112 = .ok (.iconst 0, 1) := by decide +kernel
theorem dX12_goesOn_113 : decode cX12_goesOn 113 = .ok (.ireturn, 1) := by decide +kernel
theorem dX12_goesOn_114 : decode cX12_goesOn 114 = .ok (.iinc 4 1, 3) := by decide +kernel
theorem dX12_goesOn_117 : decode cX12_goesOn 117 = .ok (.goto (-92), 3) := by decide +kernel
theorem dX12_goesOn_120 : decode cX12_goesOn 120 = .ok (.iinc 3 1, 3) := by decide +kernel
theorem dX12_goesOn_123 : decode cX12_goesOn 123 = .ok (.goto (-121), 3) := by decide +kernel
theorem dX12_goesOn_126 : decode cX12_goesOn 126 = .ok (.iconst 1, 1) := by decide +kernel
theorem dX12_goesOn_127 : decode cX12_goesOn 127 = .ok (.ireturn, 1) := by decide +kernel
theorem okX12_goesOn_j99 {E : Ev} {X : Cx} {S : Sh} {Z : Option Nat} {Q : Int32 → Hp → Prop} {h : Hp} {a0 : Nat} {x1 : Int32} {x2 : Int32} {x3 : Int32} {x4 : Int32} (O : Ok E X yX12_goesOn cX12_goesOn 5 (some .boolean) 6 152 0 0 (qI S Z Q)) (hw : wX12_goesOn_j99 S h a0 x1 x2 x3 x4 Q) : G E X 0 0 S Z h 99 [some (vr a0), some (vi x1), some (vi x2), some (vi x3), some (vi x4)] [] := by
  unfold wX12_goesOn_j99 at hw
  refine g_iload_n O dX12_goesOn_99 rfl ?_
  refine g_if_eq (tgt := 112) O dX12_goesOn_100 rfl (fun q100 => ?_) (fun q100 => ?_)
  · have hw := hw.1 q100
    refine g_iconst O dX12_goesOn_112 kv_0 ?_
    exact g_zreturn O dX12_goesOn_113 (by decide) ⟨rfl, rfl, _, rfl, hw⟩
  · have hw := hw.2 q100
    refine g_aload_n O dX12_goesOn_103 rfl ?_
    refine g_iload_n O dX12_goesOn_104 rfl ?_
    refine g_iload_n O dX12_goesOn_105 rfl ?_
    refine g_iload O dX12_goesOn_106 rfl ?_
    refine g_iconst O dX12_goesOn_108 kv_0 ?_
    obtain ⟨c109, hw⟩ := hw
    refine g_callV (As := [vi x1, vi x3, vi x4, vi (0 : Int32)]) (rest := []) O ci_12 rfl dX12_goesOn_109 ml_X12_428 im_yX12_shows se_yX12_shows ini_X12 co_yX12_shows yo_yX12_shows c109 rfl rfl (Nat.le_of_ble_eq_true rfl) ⟨by decide, by decide, by decide, by decide⟩ (okX12_shows hw) (k_V fun h109 hw => ?_)
    refine g_iconst O dX12_goesOn_112 kv_0 ?_
    exact g_zreturn O dX12_goesOn_113 (by decide) ⟨rfl, rfl, _, rfl, hw⟩
theorem okX12_goesOn_j86 {E : Ev} {X : Cx} {S : Sh} {Z : Option Nat} {Q : Int32 → Hp → Prop} {B2 : Hp → Int32 → Prop} {B25 : Hp → Int32 → Prop} {h : Hp} {a0 : Nat} {x1 : Int32} {x2 : Int32} {x3 : Int32} {x4 : Int32} (O : Ok E X yX12_goesOn cX12_goesOn 5 (some .boolean) 6 152 0 0 (qI S Z Q)) (hB2 : ∀ (h : Hp) (x3 : Int32), B2 h x3 → G E X 0 0 S Z h 2 [some (vr a0), some (vi x1), some (vi x2), some (vi x3), none] []) (hB25 : ∀ (h : Hp) (x4 : Int32), B25 h x4 → G E X 0 0 S Z h 25 [some (vr a0), some (vi x1), some (vi x2), some (vi x3), some (vi x4)] []) (hw : wX12_goesOn_j86 S B2 B25 h a0 x1 x2 x3 x4 Q) : G E X 0 0 S Z h 86 [some (vr a0), some (vi x1), some (vi x2), some (vi x3), some (vi x4)] [] := by
  unfold wX12_goesOn_j86 at hw
  refine g_aload_n O dX12_goesOn_86 rfl ?_
  refine g_iload_n O dX12_goesOn_87 rfl ?_
  refine g_iload O dX12_goesOn_88 rfl ?_
  obtain ⟨c90, hw⟩ := hw
  refine g_callV (As := [vi x1, vi x4]) (rest := []) O ci_12 rfl dX12_goesOn_90 ml_X12_444 im_yX12_canGoOn se_yX12_canGoOn ini_X12 co_yX12_canGoOn yo_yX12_canGoOn c90 rfl rfl (Nat.le_of_ble_eq_true rfl) ⟨by decide, by decide, by decide, by decide⟩ (okX12_canGoOn hw) (k_I fun r90 h90 hw => ?_)
  refine g_if_eq (tgt := 99) O dX12_goesOn_93 rfl (fun q93 => ?_) (fun q93 => ?_)
  · have hw := hw.1 q93
    exact okX12_goesOn_j99 O hw
  · have hw := hw.2 q93
    refine g_goto (tgt := 114) O dX12_goesOn_96 rfl ?_
    refine g_iinc (lc' := [some (vr a0), some (vi x1), some (vi x2), some (vi x3), some (vi (x4 + (1 : Int32)))]) O dX12_goesOn_114 rfl kv_1 rfl rfl ?_
    refine g_goto (tgt := 25) O dX12_goesOn_117 rfl ?_
    exact hB25 _ _ hw
theorem okX12_goesOn_j71 {E : Ev} {X : Cx} {S : Sh} {Z : Option Nat} {Q : Int32 → Hp → Prop} {B2 : Hp → Int32 → Prop} {B25 : Hp → Int32 → Prop} {h : Hp} {a0 : Nat} {x1 : Int32} {x2 : Int32} {x3 : Int32} {x4 : Int32} (O : Ok E X yX12_goesOn cX12_goesOn 5 (some .boolean) 6 152 0 0 (qI S Z Q)) (hB2 : ∀ (h : Hp) (x3 : Int32), B2 h x3 → G E X 0 0 S Z h 2 [some (vr a0), some (vi x1), some (vi x2), some (vi x3), none] []) (hB25 : ∀ (h : Hp) (x4 : Int32), B25 h x4 → G E X 0 0 S Z h 25 [some (vr a0), some (vi x1), some (vi x2), some (vi x3), some (vi x4)] []) (hw : wX12_goesOn_j71 S B2 B25 h a0 x1 x2 x3 x4 Q) : G E X 0 0 S Z h 71 [some (vr a0), some (vi x1), some (vi x2), some (vi x3), some (vi x4)] [] := by
  unfold wX12_goesOn_j71 at hw
  refine g_iload_n O dX12_goesOn_71 rfl ?_
  refine g_if_le (tgt := 86) O dX12_goesOn_72 rfl (fun q72 => ?_) (fun q72 => ?_)
  · have hw := hw.1 q72
    exact okX12_goesOn_j86 O hB2 hB25 hw
  · have hw := hw.2 q72
    refine g_aload_n O dX12_goesOn_75 rfl ?_
    refine g_iload_n O dX12_goesOn_76 rfl ?_
    refine g_iconst O dX12_goesOn_77 kv_1 ?_
    refine g_isub O dX12_goesOn_78 ?_
    refine g_iload_n O dX12_goesOn_79 rfl ?_
    obtain ⟨c80, hw⟩ := hw
    refine g_callV (As := [vi ((x1 - (1 : Int32))), vi x3]) (rest := []) O ci_12 rfl dX12_goesOn_80 ml_X12_444 im_yX12_canGoOn se_yX12_canGoOn ini_X12 co_yX12_canGoOn yo_yX12_canGoOn c80 rfl rfl (Nat.le_of_ble_eq_true rfl) ⟨by decide, by decide, by decide, by decide⟩ (okX12_canGoOn hw) (k_I fun r80 h80 hw => ?_)
    refine g_if_eq (tgt := 114) O dX12_goesOn_83 rfl (fun q83 => ?_) (fun q83 => ?_)
    · have hw := hw.1 q83
      refine g_iinc (lc' := [some (vr a0), some (vi x1), some (vi x2), some (vi x3), some (vi (x4 + (1 : Int32)))]) O dX12_goesOn_114 rfl kv_1 rfl rfl ?_
      refine g_goto (tgt := 25) O dX12_goesOn_117 rfl ?_
      exact hB25 _ _ hw
    · have hw := hw.2 q83
      exact okX12_goesOn_j86 O hB2 hB25 hw
theorem okX12_goesOn_25 {E : Ev} {X : Cx} {S : Sh} {Z : Option Nat} {Q : Int32 → Hp → Prop} {B2 : Hp → Int32 → Prop} {a0 : Nat} {x1 : Int32} {x2 : Int32} {x3 : Int32} (O : Ok E X yX12_goesOn cX12_goesOn 5 (some .boolean) 6 152 0 0 (qI S Z Q)) (hB2 : ∀ (h : Hp) (x3 : Int32), B2 h x3 → G E X 0 0 S Z h 2 [some (vr a0), some (vi x1), some (vi x2), some (vi x3), none] []) : ∀ (n : Nat) (h : Hp) (x4 : Int32), wX12_goesOn_25 S B2 a0 x1 x2 x3 Q n h x4 → G E X 0 0 S Z h 25 [some (vr a0), some (vi x1), some (vi x2), some (vi x3), some (vi x4)] [] := by
  intro n
  induction n with
  | zero => intro h x4 hw; exact hw.elim
  | succ n hB25 =>
    intro h x4 hw
    have hw : wX12_goesOn_25b S B2 a0 x1 x2 x3 Q (wX12_goesOn_25 S B2 a0 x1 x2 x3 Q n) h x4 := hw
    unfold wX12_goesOn_25b at hw
    refine g_iload O dX12_goesOn_25 rfl ?_
    refine g_aload_n O dX12_goesOn_27 rfl ?_
    obtain ⟨c28, hw⟩ := hw
    refine gf_X12_sizes O dX12_goesOn_28 fl_X12_36 c28 ?_
    refine g_iload_n O dX12_goesOn_31 rfl ?_
    obtain ⟨c32, hw⟩ := hw
    refine g_iaload O dX12_goesOn_32 c32.1 c32.2 ?_
    refine g_icmp_ge (tgt := 120) O dX12_goesOn_33 rfl (fun q33 => ?_) (fun q33 => ?_)
    · have hw := hw.1 q33
      refine g_iinc (lc' := [some (vr a0), some (vi x1), some (vi x2), some (vi (x3 + (1 : Int32))), some (vi x4)]) O dX12_goesOn_120 rfl kv_1 rfl rfl ?_
      refine g_goto (tgt := 2) O dX12_goesOn_123 rfl ?_
      refine g_mask [true, true, true, true, false] rfl rfl ?_
      exact hB2 _ _ hw
    · have hw := hw.2 q33
      refine g_iload_n O dX12_goesOn_36 rfl ?_
      refine g_if_ne (tgt := 53) O dX12_goesOn_37 rfl (fun q37 => ?_) (fun q37 => ?_)
      · have hw := hw.1 q37
        refine g_aload_n O dX12_goesOn_53 rfl ?_
        refine gf_X12_isGlued O dX12_goesOn_54 fl_X12_100 c28 ?_
        refine g_iload_n O dX12_goesOn_57 rfl ?_
        refine g_iload_n O dX12_goesOn_58 rfl ?_
        refine g_iload O dX12_goesOn_59 rfl ?_
        refine g_callS (As := [vi x1, vi x3, vi x4]) (rest := [vr (gR h a0 48)]) O dX12_goesOn_61 ml_X12_382 st_yX12_pair ini_X12 co_yX12_pair yo_yX12_pair rfl rfl (Nat.le_of_ble_eq_true rfl) ⟨by decide, by decide, by decide, by decide⟩ (okX12_pair hw) (k_I fun r61 h61 hw => ?_)
        obtain ⟨c64, hw⟩ := hw
        refine g_zaload O dX12_goesOn_64 c64.1 c64.2 ?_
        refine g_if_ne (tgt := 71) O dX12_goesOn_65 rfl (fun q65 => ?_) (fun q65 => ?_)
        · have hw := hw.1 q65
          exact okX12_goesOn_j71 O hB2 hB25 hw
        · have hw := hw.2 q65
          refine g_goto (tgt := 114) O dX12_goesOn_68 rfl ?_
          refine g_iinc (lc' := [some (vr a0), some (vi x1), some (vi x2), some (vi x3), some (vi (x4 + (1 : Int32)))]) O dX12_goesOn_114 rfl kv_1 rfl rfl ?_
          refine g_goto (tgt := 25) O dX12_goesOn_117 rfl ?_
          exact hB25 _ _ hw
      · have hw := hw.2 q37
        refine g_aload_n O dX12_goesOn_40 rfl ?_
        refine gf_X12_isSound O dX12_goesOn_41 fl_X12_97 c28 ?_
        refine g_iload O dX12_goesOn_44 rfl ?_
        obtain ⟨c46, hw⟩ := hw
        refine g_zaload O dX12_goesOn_46 c46.1 c46.2 ?_
        refine g_if_ne (tgt := 71) O dX12_goesOn_47 rfl (fun q47 => ?_) (fun q47 => ?_)
        · have hw := hw.1 q47
          exact okX12_goesOn_j71 O hB2 hB25 hw
        · have hw := hw.2 q47
          refine g_goto (tgt := 114) O dX12_goesOn_50 rfl ?_
          refine g_iinc (lc' := [some (vr a0), some (vi x1), some (vi x2), some (vi x3), some (vi (x4 + (1 : Int32)))]) O dX12_goesOn_114 rfl kv_1 rfl rfl ?_
          refine g_goto (tgt := 25) O dX12_goesOn_117 rfl ?_
          exact hB25 _ _ hw
theorem okX12_goesOn_j19 {E : Ev} {X : Cx} {S : Sh} {Z : Option Nat} {Q : Int32 → Hp → Prop} {B2 : Hp → Int32 → Prop} {h : Hp} {a0 : Nat} {x1 : Int32} {x2 : Int32} {x3 : Int32} {s0 : Int32} {s1 : Int32} (O : Ok E X yX12_goesOn cX12_goesOn 5 (some .boolean) 6 152 0 0 (qI S Z Q)) (hB2 : ∀ (h : Hp) (x3 : Int32), B2 h x3 → G E X 0 0 S Z h 2 [some (vr a0), some (vi x1), some (vi x2), some (vi x3), none] []) (hw : wX12_goesOn_j19 S B2 h a0 x1 x2 x3 s0 s1 Q) : G E X 0 0 S Z h 19 [some (vr a0), some (vi x1), some (vi x2), some (vi x3), none] [vi s1, vi s0] := by
  unfold wX12_goesOn_j19 at hw
  refine g_icmp_ge (tgt := 126) O dX12_goesOn_19 rfl (fun q19 => ?_) (fun q19 => ?_)
  · have hw := hw.1 q19
    refine g_iconst O dX12_goesOn_126 kv_1 ?_
    exact g_zreturn O dX12_goesOn_127 (by decide) ⟨rfl, rfl, _, rfl, hw⟩
  · have hw := hw.2 q19
    refine g_iconst O dX12_goesOn_22 kv_0 ?_
    refine g_istore (lc' := [some (vr a0), some (vi x1), some (vi x2), some (vi x3), some (vi (0 : Int32))]) O dX12_goesOn_23 rfl (Nat.le_of_ble_eq_true rfl) rfl ?_
    obtain ⟨n25, hw⟩ := hw
    exact okX12_goesOn_25 O hB2 n25 _ _ hw
theorem okX12_goesOn_2 {E : Ev} {X : Cx} {S : Sh} {Z : Option Nat} {Q : Int32 → Hp → Prop} {a0 : Nat} {x1 : Int32} {x2 : Int32} (O : Ok E X yX12_goesOn cX12_goesOn 5 (some .boolean) 6 152 0 0 (qI S Z Q)) : ∀ (n : Nat) (h : Hp) (x3 : Int32), wX12_goesOn_2 S a0 x1 x2 Q n h x3 → G E X 0 0 S Z h 2 [some (vr a0), some (vi x1), some (vi x2), some (vi x3), none] [] := by
  intro n
  induction n with
  | zero => intro h x3 hw; exact hw.elim
  | succ n hB2 =>
    intro h x3 hw
    have hw : wX12_goesOn_2b S a0 x1 x2 Q (wX12_goesOn_2 S a0 x1 x2 Q n) h x3 := hw
    unfold wX12_goesOn_2b at hw
    refine g_iload_n O dX12_goesOn_2 rfl ?_
    refine g_iload_n O dX12_goesOn_3 rfl ?_
    refine g_if_ne (tgt := 11) O dX12_goesOn_4 rfl (fun q4 => ?_) (fun q4 => ?_)
    · have hw := hw.1 q4
      refine g_aload_n O dX12_goesOn_11 rfl ?_
      obtain ⟨c12, hw⟩ := hw
      refine gf_X12_sizes O dX12_goesOn_12 fl_X12_36 c12 ?_
      refine g_iload_n O dX12_goesOn_15 rfl ?_
      refine g_iconst O dX12_goesOn_16 kv_1 ?_
      refine g_isub O dX12_goesOn_17 ?_
      obtain ⟨c18, hw⟩ := hw
      refine g_iaload O dX12_goesOn_18 c18.1 c18.2 ?_
      exact okX12_goesOn_j19 O hB2 hw
    · have hw := hw.2 q4
      refine g_iconst O dX12_goesOn_7 kv_1 ?_
      refine g_goto (tgt := 19) O dX12_goesOn_8 rfl ?_
      exact okX12_goesOn_j19 O hB2 hw
theorem okX12_goesOn {E : Ev} {S : Sh} {Z : Option Nat} {Q : Int32 → Hp → Prop} {h : Hp} {a0 : Nat} {x1 : Int32} {x2 : Int32} (hw : wX12_goesOn S h a0 x1 x2 Q) : Ct E yX12_goesOn cX12_goesOn 5 (some .boolean) 6 152 0 0 S Z h [vr a0, vi x1, vi x2] (qI S Z Q) := by
  refine Ct.of (by decide) (lc := [some (vr a0), some (vi x1), some (vi x2), none, none]) (Nat.le_of_ble_eq_true rfl) rfl (fun X O => ?_)
  unfold wX12_goesOn at hw
  refine g_iconst O dX12_goesOn_0 kv_0 ?_
  refine g_istore_n (lc' := [some (vr a0), some (vi x1), some (vi x2), some (vi (0 : Int32)), none]) O dX12_goesOn_1 rfl (Nat.le_of_ble_eq_true rfl) rfl ?_
  obtain ⟨n2, hw⟩ := hw
  exact okX12_goesOn_2 O n2 _ _ hw
theorem dX12_duty_0 : decode cX12_duty 0 = .ok (.aload_n 0, 1) := by decide +kernel
theorem dX12_duty_1 : decode cX12_duty 1 = .ok (.iconst 0, 1) := by decide +kernel
theorem dX12_duty_2 : decode cX12_duty 2 = .ok (.putfield 121, 3) := by decide +kernel
theorem dX12_duty_5 : decode cX12_duty 5 = .ok (.aload_n 0, 1) := by decide +kernel
theorem dX12_duty_6 : decode cX12_duty 6 = .ok (.iload_n 1, 1) := by decide +kernel
theorem dX12_duty_7 : decode cX12_duty 7 = .ok (.invokevirtual 389, 3) := by decide +kernel
theorem dX12_duty_10 : decode cX12_duty 10 = .ok (.ifCond .eq 26, 3) := by decide +kernel
theorem dX12_duty_13 : decode cX12_duty 13 = .ok (.iload_n 3, 1) := by decide +kernel
theorem dX12_duty_14 : decode cX12_duty 14 = .ok (.iconst 0, 1) := by decide +kernel
theorem dX12_duty_15 : decode cX12_duty 15 = .ok (.iconst 4, 1) := by decide +kernel
theorem dX12_duty_16 : decode cX12_duty 16 = .ok (.invokestatic 142, 3) := by decide +kernel
theorem dX12_duty_19 : decode cX12_duty 19 = .ok (.ifCond .eq 17, 3) := by decide +kernel
theorem dX12_duty_22 : decode cX12_duty 22 = .ok (.iload_n 3, 1) := by decide +kernel
theorem dX12_duty_23 : decode cX12_duty 23 = .ok (.iconst 3, 1) := by decide +kernel
theorem dX12_duty_24 : decode cX12_duty 24 = .ok (.if_icmp .ge 18, 3) := by decide +kernel
theorem dX12_duty_27 : decode cX12_duty 27 = .ok (.aload_n 0, 1) := by decide +kernel
theorem dX12_duty_28 : decode cX12_duty 28 = .ok (.iload_n 1, 1) := by decide +kernel
theorem dX12_duty_29 : decode cX12_duty 29 = .ok (.iload_n 2, 1) := by decide +kernel
theorem dX12_duty_30 : decode cX12_duty 30 = .ok (.invokevirtual 402, 3) := by decide +kernel
theorem dX12_duty_33 : decode cX12_duty 33 = .ok (.ifCond .ne 9, 3) := by decide +kernel
theorem dX12_duty_36 : decode cX12_duty 36 = .ok (.aload_n 0, 1) := by decide +kernel
theorem dX12_duty_37 : decode cX12_duty 37 = .ok (.iconst 1, 1) := by decide +kernel
theorem dX12_duty_38 : decode cX12_duty 38 = .ok (.invokevirtual 350, 3) := by decide +kernel
theorem dX12_duty_41 : decode cX12_duty 41 = .ok (.ireturn, 1) := by decide +kernel
theorem dX12_duty_42 : decode cX12_duty 42 = .ok (.aload_n 0, 1) := by decide +kernel
theorem dX12_duty_43 : decode cX12_duty 43 = .ok (.iconst 0, 1) := by decide +kernel
theorem dX12_duty_44 : decode cX12_duty 44 = .ok (.putfield 362, 3) := by decide +kernel
theorem dX12_duty_47 : decode cX12_duty 47 = .ok (.iload_n 3, 1) := by decide +kernel
theorem dX12_duty_48 : decode cX12_duty 48 = .ok (.iconst 3, 1) := by decide +kernel
theorem dX12_duty_49 : decode cX12_duty 49 = .ok (.if_icmp .ne 22, 3) := by decide +kernel
theorem dX12_duty_52 : decode cX12_duty 52 = .ok (.aload_n 0, 1) := by decide +kernel
theorem dX12_duty_53 : decode cX12_duty 53 = .ok (.aload_n 0, 1) := by decide +kernel
theorem dX12_duty_54 : decode cX12_duty 54 = .ok (.iload_n 1, 1) := by decide +kernel
theorem dX12_duty_55 : decode cX12_duty 55 = .ok (.iconst 1, 1) := by decide +kernel
theorem dX12_duty_56 : decode cX12_duty 56 = .ok (.invokevirtual 447, 3) := by decide +kernel
theorem dX12_duty_59 : decode cX12_duty 59 = .ok (.ifCond .eq 7, 3) := by decide +kernel
theorem dX12_duty_62 : decode cX12_duty 62 = .ok (.iconst 1, 1) := by decide +kernel
theorem dX12_duty_63 : decode cX12_duty 63 = .ok (.goto 4, 3) := by decide +kernel
theorem dX12_duty_66 : decode cX12_duty 66 = .ok (.iconst 0, 1) := by decide +kernel
theorem dX12_duty_67 : decode cX12_duty 67 = .ok (.invokevirtual 365, 3) := by decide +kernel
theorem dX12_duty_70 : decode cX12_duty 70 = .ok (.ireturn, 1) := by decide +kernel
theorem dX12_duty_71 : decode cX12_duty 71 = .ok (.iload_n 3, 1) := by decide +kernel
theorem dX12_duty_72 : decode cX12_duty 72 = .ok (.iconst 4, 1) := by decide +kernel
theorem dX12_duty_73 : decode cX12_duty 73 = .ok (.if_icmp .ne 22, 3) := by decide +kernel
theorem dX12_duty_76 : decode cX12_duty 76 = .ok (.aload_n 0, 1) := by decide +kernel
theorem dX12_duty_77 : decode cX12_duty 77 = .ok (.aload_n 0, 1) := by decide +kernel
theorem dX12_duty_78 : decode cX12_duty 78 = .ok (.iload_n 1, 1) := by decide +kernel
theorem dX12_duty_79 : decode cX12_duty 79 = .ok (.iconst 1, 1) := by decide +kernel
theorem dX12_duty_80 : decode cX12_duty 80 = .ok (.invokevirtual 450, 3) := by decide +kernel
theorem dX12_duty_83 : decode cX12_duty 83 = .ok (.ifCond .eq 7, 3) := by decide +kernel
theorem dX12_duty_86 : decode cX12_duty 86 = .ok (.iconst 1, 1) := by decide +kernel
theorem dX12_duty_87 : decode cX12_duty 87 = .ok (.goto 4, 3) := by decide +kernel
theorem dX12_duty_90 : decode cX12_duty 90 = .ok (.iconst 0, 1) := by decide +kernel
theorem dX12_duty_91 : decode cX12_duty 91 = .ok (.invokevirtual 365, 3) := by decide +kernel
theorem dX12_duty_94 : decode cX12_duty 94 = .ok (.ireturn, 1) := by decide +kernel
theorem dX12_duty_95 : decode cX12_duty 95 = .ok (.aload_n 0, 1) := by decide +kernel
theorem dX12_duty_96 : decode cX12_duty 96 = .ok (.aload_n 0, 1) := by decide +kernel
theorem dX12_duty_97 : decode cX12_duty 97 = .ok (.iload_n 1, 1) := by decide +kernel
theorem dX12_duty_98 : decode cX12_duty 98 = .ok (.iload_n 2, 1) := by decide +kernel
theorem dX12_duty_99 : decode cX12_duty 99 = .ok (.iload_n 3, 1) := by decide +kernel
theorem dX12_duty_100 : decode cX12_duty 100 = .ok (.iconst 1, 1) := by decide +kernel
theorem dX12_duty_101 : decode cX12_duty 101 = .ok (.invokevirtual 453, 3) := by decide +kernel
theorem dX12_duty_104 : decode cX12_duty 104 = .ok (.ifCond .ne 7, 3) := by decide +kernel
theorem dX12_duty_107 : decode cX12_duty 107 = .ok (.iconst 1, 1) := by decide +kernel
theorem dX12_duty_108 : decode cX12_duty 108 = .ok (.goto 4, 3) := by decide +kernel
theorem dX12_duty_111 : decode cX12_duty 111 = .ok (.iconst 0, 1) := by decide +kernel
theorem dX12_duty_112 : decode cX12_duty 112 = .ok (.invokevirtual 365, 3) := by decide +kernel
theorem dX12_duty_115 : decode cX12_duty 115 = .ok (.ireturn, 1) := by decide +kernel
theorem okX12_duty_j42 {E : Ev} {X : Cx} {S : Sh} {Z : Option Nat} {Q : Int32 → Hp → Prop} {h : Hp} {a0 : Nat} {x1 : Int32} {x2 : Int32} {x3 : Int32} (O : Ok E X yX12_duty cX12_duty 4 (some .int) 7 193 0 0 (qI S Z Q)) (hw : wX12_duty_j42 S h a0 x1 x2 x3 Q) : G E X 0 0 S Z h 42 [some (vr a0), some (vi x1), some (vi x2), some (vi x3)] [] := by
  unfold wX12_duty_j42 at hw
  refine g_aload_n O dX12_duty_42 rfl ?_
  refine g_iconst O dX12_duty_43 kv_0 ?_
  obtain ⟨c44, hw⟩ := hw
  refine pf_X12_isShown O dX12_duty_44 fl_X12_362 c44 (by decide) ?_
  refine g_nmH (fun h44 e44 => ?_)
  have hw := hw h44 e44
  refine g_iload_n O dX12_duty_47 rfl ?_
  refine g_iconst O dX12_duty_48 kv_3 ?_
  refine g_icmp_ne (tgt := 71) O dX12_duty_49 rfl (fun q49 => ?_) (fun q49 => ?_)
  · have hw := hw.1 q49
    refine g_iload_n O dX12_duty_71 rfl ?_
    refine g_iconst O dX12_duty_72 kv_4 ?_
    refine g_icmp_ne (tgt := 95) O dX12_duty_73 rfl (fun q73 => ?_) (fun q73 => ?_)
    · have hw := hw.1 q73
      refine g_aload_n O dX12_duty_95 rfl ?_
      refine g_aload_n O dX12_duty_96 rfl ?_
      refine g_iload_n O dX12_duty_97 rfl ?_
      refine g_iload_n O dX12_duty_98 rfl ?_
      refine g_iload_n O dX12_duty_99 rfl ?_
      refine g_iconst O dX12_duty_100 kv_1 ?_
      refine g_callV (As := [vi x1, vi x2, vi x3, vi (1 : Int32)]) (rest := [vr a0]) O ci_12 rfl dX12_duty_101 ml_X12_453 im_yX12_failing se_yX12_failing ini_X12 co_yX12_failing yo_yX12_failing c44 rfl rfl (Nat.le_of_ble_eq_true rfl) ⟨by decide, by decide, by decide, by decide⟩ (okX12_failing hw) (k_I fun r101 h101 hw => ?_)
      refine g_if_ne (tgt := 111) O dX12_duty_104 rfl (fun q104 => ?_) (fun q104 => ?_)
      · have hw := hw.1 q104
        refine g_iconst O dX12_duty_111 kv_0 ?_
        refine g_callV (As := [vi (0 : Int32)]) (rest := []) O ci_12 rfl dX12_duty_112 ml_X12_365 im_yX12_good se_yX12_good ini_X12 co_yX12_good yo_yX12_good c44 rfl rfl (Nat.le_of_ble_eq_true rfl) ⟨by decide, by decide, by decide, by decide⟩ (okX12_good hw) (k_I fun r112 h112 hw => ?_)
        exact g_ireturn O dX12_duty_115 ⟨rfl, rfl, _, rfl, hw⟩
      · have hw := hw.2 q104
        refine g_iconst O dX12_duty_107 kv_1 ?_
        refine g_goto (tgt := 112) O dX12_duty_108 rfl ?_
        refine g_callV (As := [vi (1 : Int32)]) (rest := []) O ci_12 rfl dX12_duty_112 ml_X12_365 im_yX12_good se_yX12_good ini_X12 co_yX12_good yo_yX12_good c44 rfl rfl (Nat.le_of_ble_eq_true rfl) ⟨by decide, by decide, by decide, by decide⟩ (okX12_good hw) (k_I fun r112 h112 hw => ?_)
        exact g_ireturn O dX12_duty_115 ⟨rfl, rfl, _, rfl, hw⟩
    · have hw := hw.2 q73
      refine g_aload_n O dX12_duty_76 rfl ?_
      refine g_aload_n O dX12_duty_77 rfl ?_
      refine g_iload_n O dX12_duty_78 rfl ?_
      refine g_iconst O dX12_duty_79 kv_1 ?_
      refine g_callV (As := [vi x1, vi (1 : Int32)]) (rest := [vr a0]) O ci_12 rfl dX12_duty_80 ml_X12_450 im_yX12_goesOn se_yX12_goesOn ini_X12 co_yX12_goesOn yo_yX12_goesOn c44 rfl rfl (Nat.le_of_ble_eq_true rfl) ⟨by decide, by decide, by decide, by decide⟩ (okX12_goesOn hw) (k_I fun r80 h80 hw => ?_)
      refine g_if_eq (tgt := 90) O dX12_duty_83 rfl (fun q83 => ?_) (fun q83 => ?_)
      · have hw := hw.1 q83
        refine g_iconst O dX12_duty_90 kv_0 ?_
        refine g_callV (As := [vi (0 : Int32)]) (rest := []) O ci_12 rfl dX12_duty_91 ml_X12_365 im_yX12_good se_yX12_good ini_X12 co_yX12_good yo_yX12_good c44 rfl rfl (Nat.le_of_ble_eq_true rfl) ⟨by decide, by decide, by decide, by decide⟩ (okX12_good hw) (k_I fun r91 h91 hw => ?_)
        exact g_ireturn O dX12_duty_94 ⟨rfl, rfl, _, rfl, hw⟩
      · have hw := hw.2 q83
        refine g_iconst O dX12_duty_86 kv_1 ?_
        refine g_goto (tgt := 91) O dX12_duty_87 rfl ?_
        refine g_callV (As := [vi (1 : Int32)]) (rest := []) O ci_12 rfl dX12_duty_91 ml_X12_365 im_yX12_good se_yX12_good ini_X12 co_yX12_good yo_yX12_good c44 rfl rfl (Nat.le_of_ble_eq_true rfl) ⟨by decide, by decide, by decide, by decide⟩ (okX12_good hw) (k_I fun r91 h91 hw => ?_)
        exact g_ireturn O dX12_duty_94 ⟨rfl, rfl, _, rfl, hw⟩
  · have hw := hw.2 q49
    refine g_aload_n O dX12_duty_52 rfl ?_
    refine g_aload_n O dX12_duty_53 rfl ?_
    refine g_iload_n O dX12_duty_54 rfl ?_
    refine g_iconst O dX12_duty_55 kv_1 ?_
    refine g_callV (As := [vi x1, vi (1 : Int32)]) (rest := [vr a0]) O ci_12 rfl dX12_duty_56 ml_X12_447 im_yX12_begins_ se_yX12_begins_ ini_X12 co_yX12_begins_ yo_yX12_begins_ c44 rfl rfl (Nat.le_of_ble_eq_true rfl) ⟨by decide, by decide, by decide, by decide⟩ (okX12_begins_ hw) (k_I fun r56 h56 hw => ?_)
    refine g_if_eq (tgt := 66) O dX12_duty_59 rfl (fun q59 => ?_) (fun q59 => ?_)
    · have hw := hw.1 q59
      refine g_iconst O dX12_duty_66 kv_0 ?_
      refine g_callV (As := [vi (0 : Int32)]) (rest := []) O ci_12 rfl dX12_duty_67 ml_X12_365 im_yX12_good se_yX12_good ini_X12 co_yX12_good yo_yX12_good c44 rfl rfl (Nat.le_of_ble_eq_true rfl) ⟨by decide, by decide, by decide, by decide⟩ (okX12_good hw) (k_I fun r67 h67 hw => ?_)
      exact g_ireturn O dX12_duty_70 ⟨rfl, rfl, _, rfl, hw⟩
    · have hw := hw.2 q59
      refine g_iconst O dX12_duty_62 kv_1 ?_
      refine g_goto (tgt := 67) O dX12_duty_63 rfl ?_
      refine g_callV (As := [vi (1 : Int32)]) (rest := []) O ci_12 rfl dX12_duty_67 ml_X12_365 im_yX12_good se_yX12_good ini_X12 co_yX12_good yo_yX12_good c44 rfl rfl (Nat.le_of_ble_eq_true rfl) ⟨by decide, by decide, by decide, by decide⟩ (okX12_good hw) (k_I fun r67 h67 hw => ?_)
      exact g_ireturn O dX12_duty_70 ⟨rfl, rfl, _, rfl, hw⟩
theorem okX12_duty {E : Ev} {S : Sh} {Z : Option Nat} {Q : Int32 → Hp → Prop} {h : Hp} {a0 : Nat} {x1 : Int32} {x2 : Int32} {x3 : Int32} (hw : wX12_duty S h a0 x1 x2 x3 Q) : Ct E yX12_duty cX12_duty 4 (some .int) 7 193 0 0 S Z h [vr a0, vi x1, vi x2, vi x3] (qI S Z Q) := by
  refine Ct.of (by decide) (lc := [some (vr a0), some (vi x1), some (vi x2), some (vi x3)]) (Nat.le_of_ble_eq_true rfl) rfl (fun X O => ?_)
  unfold wX12_duty at hw
  refine g_aload_n O dX12_duty_0 rfl ?_
  refine g_iconst O dX12_duty_1 kv_0 ?_
  obtain ⟨c2, hw⟩ := hw
  refine pf_X12_thrown O dX12_duty_2 fl_X12_121 c2 ?_
  refine g_aload_n O dX12_duty_5 rfl ?_
  refine g_iload_n O dX12_duty_6 rfl ?_
  refine g_callV (As := [vi x1]) (rest := []) O ci_12 rfl dX12_duty_7 ml_X12_389 im_yX12_isMachine se_yX12_isMachine ini_X12 co_yX12_isMachine yo_yX12_isMachine c2 rfl rfl (Nat.le_of_ble_eq_true rfl) ⟨by decide, by decide, by decide, by decide⟩ (okX12_isMachine hw) (k_I fun r7 h7 hw => ?_)
  refine g_if_eq (tgt := 36) O dX12_duty_10 rfl (fun q10 => ?_) (fun q10 => ?_)
  · have hw := hw.1 q10
    refine g_aload_n O dX12_duty_36 rfl ?_
    refine g_iconst O dX12_duty_37 kv_1 ?_
    refine g_callV (As := [vi (1 : Int32)]) (rest := []) O ci_12 rfl dX12_duty_38 ml_X12_350 im_yX12_refused se_yX12_refused ini_X12 co_yX12_refused yo_yX12_refused c2 rfl rfl (Nat.le_of_ble_eq_true rfl) ⟨by decide, by decide, by decide, by decide⟩ (okX12_refused hw) (k_I fun r38 h38 hw => ?_)
    exact g_ireturn O dX12_duty_41 ⟨rfl, rfl, _, rfl, hw⟩
  · have hw := hw.2 q10
    refine g_iload_n O dX12_duty_13 rfl ?_
    refine g_iconst O dX12_duty_14 kv_0 ?_
    refine g_iconst O dX12_duty_15 kv_4 ?_
    refine g_callS (As := [vi x3, vi (0 : Int32), vi (4 : Int32)]) (rest := []) O dX12_duty_16 ml_X12_142 st_yX12_in ini_X12 co_yX12_in yo_yX12_in rfl rfl (Nat.le_of_ble_eq_true rfl) ⟨by decide, by decide, by decide, by decide⟩ (okX12_in hw) (k_I fun r16 h16 hw => ?_)
    refine g_if_eq (tgt := 36) O dX12_duty_19 rfl (fun q19 => ?_) (fun q19 => ?_)
    · have hw := hw.1 q19
      refine g_aload_n O dX12_duty_36 rfl ?_
      refine g_iconst O dX12_duty_37 kv_1 ?_
      refine g_callV (As := [vi (1 : Int32)]) (rest := []) O ci_12 rfl dX12_duty_38 ml_X12_350 im_yX12_refused se_yX12_refused ini_X12 co_yX12_refused yo_yX12_refused c2 rfl rfl (Nat.le_of_ble_eq_true rfl) ⟨by decide, by decide, by decide, by decide⟩ (okX12_refused hw) (k_I fun r38 h38 hw => ?_)
      exact g_ireturn O dX12_duty_41 ⟨rfl, rfl, _, rfl, hw⟩
    · have hw := hw.2 q19
      refine g_iload_n O dX12_duty_22 rfl ?_
      refine g_iconst O dX12_duty_23 kv_3 ?_
      refine g_icmp_ge (tgt := 42) O dX12_duty_24 rfl (fun q24 => ?_) (fun q24 => ?_)
      · have hw := hw.1 q24
        exact okX12_duty_j42 O hw
      · have hw := hw.2 q24
        refine g_aload_n O dX12_duty_27 rfl ?_
        refine g_iload_n O dX12_duty_28 rfl ?_
        refine g_iload_n O dX12_duty_29 rfl ?_
        refine g_callV (As := [vi x1, vi x2]) (rest := []) O ci_12 rfl dX12_duty_30 ml_X12_402 im_yX12_isEvent se_yX12_isEvent ini_X12 co_yX12_isEvent yo_yX12_isEvent c2 rfl rfl (Nat.le_of_ble_eq_true rfl) ⟨by decide, by decide, by decide, by decide⟩ (okX12_isEvent hw) (k_I fun r30 h30 hw => ?_)
        refine g_if_ne (tgt := 42) O dX12_duty_33 rfl (fun q33 => ?_) (fun q33 => ?_)
        · have hw := hw.1 q33
          exact okX12_duty_j42 O hw
        · have hw := hw.2 q33
          refine g_aload_n O dX12_duty_36 rfl ?_
          refine g_iconst O dX12_duty_37 kv_1 ?_
          refine g_callV (As := [vi (1 : Int32)]) (rest := []) O ci_12 rfl dX12_duty_38 ml_X12_350 im_yX12_refused se_yX12_refused ini_X12 co_yX12_refused yo_yX12_refused c2 rfl rfl (Nat.le_of_ble_eq_true rfl) ⟨by decide, by decide, by decide, by decide⟩ (okX12_refused hw) (k_I fun r38 h38 hw => ?_)
          exact g_ireturn O dX12_duty_41 ⟨rfl, rfl, _, rfl, hw⟩
theorem dX12_emits_0 : decode cX12_emits 0 = .ok (.aload_n 0, 1) := by decide +kernel
theorem dX12_emits_1 : decode cX12_emits 1 = .ok (.getfield 88, 3) := by decide +kernel
theorem dX12_emits_4 : decode cX12_emits 4 = .ok (.sipush 700, 3) := by decide +kernel
theorem dX12_emits_7 : decode cX12_emits 7 = .ok (.aload_n 0, 1) := by decide +kernel
theorem dX12_emits_8 : decode cX12_emits 8 = .ok (.getfield 239, 3) := by decide +kernel
theorem dX12_emits_11 : decode cX12_emits 11 = .ok (.iadd, 1) := by decide +kernel
theorem dX12_emits_12 : decode cX12_emits 12 = .ok (.iload_n 1, 1) := by decide +kernel
theorem dX12_emits_13 : decode cX12_emits 13 = .ok (.iastore, 1) := by decide +kernel
theorem dX12_emits_14 : decode cX12_emits 14 = .ok (.aload_n 0, 1) := by decide +kernel
theorem dX12_emits_15 : decode cX12_emits 15 = .ok (.getfield 91, 3) := by decide +kernel
theorem dX12_emits_18 : decode cX12_emits 18 = .ok (.sipush 700, 3) := by decide +kernel
theorem dX12_emits_21 : decode cX12_emits 21 = .ok (.aload_n 0, 1) := by decide +kernel
theorem dX12_emits_22 : decode cX12_emits 22 = .ok (.getfield 239, 3) := by decide +kernel
theorem dX12_emits_25 : decode cX12_emits 25 = .ok (.iadd, 1) := by decide +kernel
theorem dX12_emits_26 : decode cX12_emits 26 = .ok (.iload_n 2, 1) := by decide +kernel
theorem dX12_emits_27 : decode cX12_emits 27 = .ok (.iastore, 1) := by decide +kernel
theorem dX12_emits_28 : decode cX12_emits 28 = .ok (.aload_n 0, 1) := by decide +kernel
theorem dX12_emits_29 : decode cX12_emits 29 = .ok (.dup, 1) := by decide +kernel
theorem dX12_emits_30 : decode cX12_emits 30 = .ok (.getfield 239, 3) := by decide +kernel
theorem dX12_emits_33 : decode cX12_emits 33 = .ok (.iconst 1, 1) := by decide +kernel
theorem dX12_emits_34 : decode cX12_emits 34 = .ok (.iadd, 1) := by decide +kernel
theorem dX12_emits_35 : decode cX12_emits 35 = .ok (.putfield 239, 3) := by decide +kernel
theorem dX12_emits_38 : decode cX12_emits 38 = .ok (.return_, 1) := by decide +kernel
theorem okX12_emits {E : Ev} {S : Sh} {Z : Option Nat} {Q : Hp → Prop} {h : Hp} {a0 : Nat} {x1 : Int32} {x2 : Int32} (hw : wX12_emits S h a0 x1 x2 Q) : Ct E yX12_emits cX12_emits 3 none 1 24 0 0 S Z h [vr a0, vi x1, vi x2] (qV S Z Q) := by
  refine Ct.of (by decide) (lc := [some (vr a0), some (vi x1), some (vi x2)]) (Nat.le_of_ble_eq_true rfl) rfl (fun X O => ?_)
  unfold wX12_emits at hw
  refine g_aload_n O dX12_emits_0 rfl ?_
  obtain ⟨c1, hw⟩ := hw
  refine gf_X12_what O dX12_emits_1 fl_X12_88 c1 ?_
  refine g_sipush O dX12_emits_4 ks_700 ?_
  refine g_aload_n O dX12_emits_7 rfl ?_
  refine gf_X12_steps O dX12_emits_8 fl_X12_239 c1 ?_
  refine g_iadd O dX12_emits_11 ?_
  refine g_iload_n O dX12_emits_12 rfl ?_
  obtain ⟨c13, hw⟩ := hw
  refine g_iastore O dX12_emits_13 c13.1 c13.2 ?_
  refine g_nmH (fun h13 e13 => ?_)
  have hw := hw h13 e13
  refine g_aload_n O dX12_emits_14 rfl ?_
  refine gf_X12_which O dX12_emits_15 fl_X12_91 c1 ?_
  refine g_sipush O dX12_emits_18 ks_700 ?_
  refine g_aload_n O dX12_emits_21 rfl ?_
  refine gf_X12_steps O dX12_emits_22 fl_X12_239 c1 ?_
  refine g_iadd O dX12_emits_25 ?_
  refine g_iload_n O dX12_emits_26 rfl ?_
  obtain ⟨c27, hw⟩ := hw
  refine g_iastore O dX12_emits_27 c27.1 c27.2 ?_
  refine g_nmH (fun h27 e27 => ?_)
  have hw := hw h27 e27
  refine g_aload_n O dX12_emits_28 rfl ?_
  refine g_dup O dX12_emits_29 rfl ?_
  refine gf_X12_steps O dX12_emits_30 fl_X12_239 c1 ?_
  refine g_iconst O dX12_emits_33 kv_1 ?_
  refine g_iadd O dX12_emits_34 ?_
  refine pf_X12_steps O dX12_emits_35 fl_X12_239 c1 ?_
  exact g_return O dX12_emits_38 ⟨rfl, rfl, rfl, hw⟩
theorem dX12_event_0 : decode cX12_event 0 = .ok (.aload_n 0, 1) := by decide +kernel
theorem dX12_event_1 : decode cX12_event 1 = .ok (.iconst 0, 1) := by decide +kernel
theorem dX12_event_2 : decode cX12_event 2 = .ok (.putfield 121, 3) := by decide +kernel
theorem dX12_event_5 : decode cX12_event 5 = .ok (.aload_n 0, 1) := by decide +kernel
theorem dX12_event_6 : decode cX12_event 6 = .ok (.iload_n 1, 1) := by decide +kernel
theorem dX12_event_7 : decode cX12_event 7 = .ok (.iload_n 2, 1) := by decide +kernel
theorem dX12_event_8 : decode cX12_event 8 = .ok (.invokevirtual 402, 3) := by decide +kernel
theorem dX12_event_11 : decode cX12_event 11 = .ok (.ifCond .ne 9, 3) := by decide +kernel
theorem dX12_event_14 : decode cX12_event 14 = .ok (.aload_n 0, 1) := by decide +kernel
theorem dX12_event_15 : decode cX12_event 15 = .ok (.iconst 1, 1) := by decide +kernel
theorem dX12_event_16 : decode cX12_event 16 = .ok (.invokevirtual 350, 3) := by decide +kernel
theorem dX12_event_19 : decode cX12_event 19 = .ok (.ireturn, 1) := by decide +kernel
theorem dX12_event_20 : decode cX12_event 20 = .ok (.iconst 4, 1) := by decide +kernel
theorem dX12_event_21 : decode cX12_event 21 = .ok (.iload_n 1, 1) := by decide +kernel
theorem dX12_event_22 : decode cX12_event 22 = .ok (.imul, 1) := by decide +kernel
theorem dX12_event_23 : decode cX12_event 23 = .ok (.iload_n 2, 1) := by decide +kernel
theorem dX12_event_24 : decode cX12_event 24 = .ok (.iadd, 1) := by decide +kernel
theorem dX12_event_25 : decode cX12_event 25 = .ok (.istore 4, 2) := by decide +kernel
theorem dX12_event_27 : decode cX12_event 27 = .ok (.iload_n 3, 1) := by decide +kernel
theorem dX12_event_28 : decode cX12_event 28 = .ok (.tableswitch 104 0 4 #[36, 48, 60, 72, 84], 36) := by decide +kernel
theorem dX12_event_64 : decode cX12_event 64 = .ok (.aload_n 0, 1) := by decide +kernel
theorem dX12_event_65 : decode cX12_event 65 = .ok (.aload_n 0, 1) := by decide +kernel
theorem dX12_event_66 : decode cX12_event 66 = .ok (.getfield 60, 3) := by decide +kernel
theorem dX12_event_69 : decode cX12_event 69 = .ok (.iload 4, 2) := by decide +kernel
theorem dX12_event_71 : decode cX12_event 71 = .ok (.iaload, 1) := by decide +kernel
theorem dX12_event_72 : decode cX12_event 72 = .ok (.invokevirtual 365, 3) := by decide +kernel
theorem dX12_event_75 : decode cX12_event 75 = .ok (.ireturn, 1) := by decide +kernel
theorem dX12_event_76 : decode cX12_event 76 = .ok (.aload_n 0, 1) := by decide +kernel
theorem dX12_event_77 : decode cX12_event 77 = .ok (.aload_n 0, 1) := by decide +kernel
theorem dX12_event_78 : decode cX12_event 78 = .ok (.getfield 63, 3) := by decide +kernel
theorem dX12_event_81 : decode cX12_event 81 = .ok (.iload 4, 2) := by decide +kernel
theorem dX12_event_83 : decode cX12_event 83 = .ok (.iaload, 1) := by decide +kernel
theorem dX12_event_84 : decode cX12_event 84 = .ok (.invokevirtual 365, 3) := by decide +kernel
theorem dX12_event_87 : decode cX12_event 87 = .ok (.ireturn, 1) := by decide +kernel
theorem dX12_event_88 : decode cX12_event 88 = .ok (.aload_n 0, 1) := by decide +kernel
theorem dX12_event_89 : decode cX12_event 89 = .ok (.aload_n 0, 1) := by decide +kernel
theorem dX12_event_90 : decode cX12_event 90 = .ok (.getfield 66, 3) := by decide +kernel
theorem dX12_event_93 : decode cX12_event 93 = .ok (.iload 4, 2) := by decide +kernel
theorem dX12_event_95 : decode cX12_event 95 = .ok (.iaload, 1) := by decide +kernel
theorem dX12_event_96 : decode cX12_event 96 = .ok (.invokevirtual 365, 3) := by decide +kernel
theorem dX12_event_99 : decode cX12_event 99 = .ok (.ireturn, 1) := by decide +kernel
theorem dX12_event_100 : decode cX12_event 100 = .ok (.aload_n 0, 1) := by decide +kernel
theorem dX12_event_101 : decode cX12_event 101 = .ok (.aload_n 0, 1) := by decide +kernel
theorem dX12_event_102 : decode cX12_event 102 = .ok (.getfield 75, 3) := by decide +kernel
theorem dX12_event_105 : decode cX12_event 105 = .ok (.iload 4, 2) := by decide +kernel
theorem dX12_event_107 : decode cX12_event 107 = .ok (.iaload, 1) := by decide +kernel
theorem dX12_event_108 : decode cX12_event 108 = .ok (.invokevirtual 365, 3) := by decide +kernel
theorem dX12_event_111 : decode cX12_event 111 = .ok (.ireturn, 1) := by decide +kernel
theorem dX12_event_112 : decode cX12_event 112 = .ok (.aload_n 0, 1) := by decide +kernel
theorem dX12_event_113 : decode cX12_event 113 = .ok (.aload_n 0, 1) := by decide +kernel
theorem dX12_event_114 : decode cX12_event 114 = .ok (.getfield 84, 3) := by decide +kernel
theorem dX12_event_117 : decode cX12_event 117 = .ok (.iload 4, 2) := by decide +kernel
theorem dX12_event_119 : decode cX12_event 119 = .ok (.baload, 1) := by decide +kernel
theorem dX12_event_120 : decode cX12_event 120 = .ok (.ifCond .eq 7, 3) := by decide +kernel
theorem dX12_event_123 : decode cX12_event 123 = .ok (.iconst 1, 1) := by decide +kernel
theorem dX12_event_124 : decode cX12_event 124 = .ok (.goto 4, 3) := by decide +kernel
theorem dX12_event_127 : decode cX12_event 127 = .ok (.iconst 0, 1) := by decide +kernel
theorem dX12_event_128 : decode cX12_event 128 = .ok (.invokevirtual 365, 3) := by decide +kernel
theorem dX12_event_131 : decode cX12_event 131 = .ok (.ireturn, 1) := by decide +kernel
theorem dX12_event_132 : decode cX12_event 132 = .ok (.aload_n 0, 1) := by decide +kernel
theorem dX12_event_133 : decode cX12_event 133 = .ok (.iconst 1, 1) := by decide +kernel
theorem dX12_event_134 : decode cX12_event 134 = .ok (.invokevirtual 350, 3) := by decide +kernel
theorem dX12_event_137 : decode cX12_event 137 = .ok (.ireturn, 1) := by decide +kernel
theorem okX12_event {E : Ev} {S : Sh} {Z : Option Nat} {Q : Int32 → Hp → Prop} {h : Hp} {a0 : Nat} {x1 : Int32} {x2 : Int32} {x3 : Int32} (hw : wX12_event S h a0 x1 x2 x3 Q) : Ct E yX12_event cX12_event 5 (some .int) 4 89 0 0 S Z h [vr a0, vi x1, vi x2, vi x3] (qI S Z Q) := by
  refine Ct.of (by decide) (lc := [some (vr a0), some (vi x1), some (vi x2), some (vi x3), none]) (Nat.le_of_ble_eq_true rfl) rfl (fun X O => ?_)
  unfold wX12_event at hw
  refine g_aload_n O dX12_event_0 rfl ?_
  refine g_iconst O dX12_event_1 kv_0 ?_
  obtain ⟨c2, hw⟩ := hw
  refine pf_X12_thrown O dX12_event_2 fl_X12_121 c2 ?_
  refine g_aload_n O dX12_event_5 rfl ?_
  refine g_iload_n O dX12_event_6 rfl ?_
  refine g_iload_n O dX12_event_7 rfl ?_
  refine g_callV (As := [vi x1, vi x2]) (rest := []) O ci_12 rfl dX12_event_8 ml_X12_402 im_yX12_isEvent se_yX12_isEvent ini_X12 co_yX12_isEvent yo_yX12_isEvent c2 rfl rfl (Nat.le_of_ble_eq_true rfl) ⟨by decide, by decide, by decide, by decide⟩ (okX12_isEvent hw) (k_I fun r8 h8 hw => ?_)
  refine g_if_ne (tgt := 20) O dX12_event_11 rfl (fun q11 => ?_) (fun q11 => ?_)
  · have hw := hw.1 q11
    refine g_iconst O dX12_event_20 kv_4 ?_
    refine g_iload_n O dX12_event_21 rfl ?_
    refine g_imul O dX12_event_22 ?_
    refine g_iload_n O dX12_event_23 rfl ?_
    refine g_iadd O dX12_event_24 ?_
    refine g_nmI (fun xv25 e25 => ?_)
    have hw := hw xv25 e25
    refine g_istore (lc' := [some (vr a0), some (vi x1), some (vi x2), some (vi x3), some (vi xv25)]) O dX12_event_25 rfl (Nat.le_of_ble_eq_true rfl) rfl ?_
    refine g_iload_n O dX12_event_27 rfl ?_
    refine g_tsw O dX12_event_28 (by decide) (by decide) (fun t28 ht => ?_)
    rcases ht with ⟨hx28, ht⟩ | ⟨hx28, ht⟩
    · obtain rfl : t28 = 64 := by have e : (28 : Int) + (36) = (t28 : Int) := ht; omega
      have hw := hw.1 (Int32.toInt_inj.mp hx28)
      refine g_aload_n O dX12_event_64 rfl ?_
      refine g_aload_n O dX12_event_65 rfl ?_
      refine gf_X12_eventOf O dX12_event_66 fl_X12_60 c2 ?_
      refine g_iload O dX12_event_69 rfl ?_
      obtain ⟨c71, hw⟩ := hw
      refine g_iaload O dX12_event_71 c71.1 c71.2 ?_
      refine g_callV (As := [vi ((gI h8 (gR h8 a0 28) (ix xv25)))]) (rest := []) O ci_12 rfl dX12_event_72 ml_X12_365 im_yX12_good se_yX12_good ini_X12 co_yX12_good yo_yX12_good c2 rfl rfl (Nat.le_of_ble_eq_true rfl) ⟨by decide, by decide, by decide, by decide⟩ (okX12_good hw) (k_I fun r72 h72 hw => ?_)
      exact g_ireturn O dX12_event_75 ⟨rfl, rfl, _, rfl, hw⟩
    · have hw := hw.2 (fun q => hx28 (by rw [q]; rfl))
      rcases ht with ⟨hx28, ht⟩ | ⟨hx28, ht⟩
      · obtain rfl : t28 = 76 := by have e : (28 : Int) + (48) = (t28 : Int) := ht; omega
        have hw := hw.1 (Int32.toInt_inj.mp hx28)
        refine g_aload_n O dX12_event_76 rfl ?_
        refine g_aload_n O dX12_event_77 rfl ?_
        refine gf_X12_firstPick O dX12_event_78 fl_X12_63 c2 ?_
        refine g_iload O dX12_event_81 rfl ?_
        obtain ⟨c83, hw⟩ := hw
        refine g_iaload O dX12_event_83 c83.1 c83.2 ?_
        refine g_callV (As := [vi ((gI h8 (gR h8 a0 29) (ix xv25)))]) (rest := []) O ci_12 rfl dX12_event_84 ml_X12_365 im_yX12_good se_yX12_good ini_X12 co_yX12_good yo_yX12_good c2 rfl rfl (Nat.le_of_ble_eq_true rfl) ⟨by decide, by decide, by decide, by decide⟩ (okX12_good hw) (k_I fun r84 h84 hw => ?_)
        exact g_ireturn O dX12_event_87 ⟨rfl, rfl, _, rfl, hw⟩
      · have hw := hw.2 (fun q => hx28 (by rw [q]; rfl))
        rcases ht with ⟨hx28, ht⟩ | ⟨hx28, ht⟩
        · obtain rfl : t28 = 88 := by have e : (28 : Int) + (60) = (t28 : Int) := ht; omega
          have hw := hw.1 (Int32.toInt_inj.mp hx28)
          refine g_aload_n O dX12_event_88 rfl ?_
          refine g_aload_n O dX12_event_89 rfl ?_
          refine gf_X12_lastPick O dX12_event_90 fl_X12_66 c2 ?_
          refine g_iload O dX12_event_93 rfl ?_
          obtain ⟨c95, hw⟩ := hw
          refine g_iaload O dX12_event_95 c95.1 c95.2 ?_
          refine g_callV (As := [vi ((gI h8 (gR h8 a0 30) (ix xv25)))]) (rest := []) O ci_12 rfl dX12_event_96 ml_X12_365 im_yX12_good se_yX12_good ini_X12 co_yX12_good yo_yX12_good c2 rfl rfl (Nat.le_of_ble_eq_true rfl) ⟨by decide, by decide, by decide, by decide⟩ (okX12_good hw) (k_I fun r96 h96 hw => ?_)
          exact g_ireturn O dX12_event_99 ⟨rfl, rfl, _, rfl, hw⟩
        · have hw := hw.2 (fun q => hx28 (by rw [q]; rfl))
          rcases ht with ⟨hx28, ht⟩ | ⟨hx28, ht⟩
          · obtain rfl : t28 = 100 := by have e : (28 : Int) + (72) = (t28 : Int) := ht; omega
            have hw := hw.1 (Int32.toInt_inj.mp hx28)
            refine g_aload_n O dX12_event_100 rfl ?_
            refine g_aload_n O dX12_event_101 rfl ?_
            refine gf_X12_givenBits O dX12_event_102 fl_X12_75 c2 ?_
            refine g_iload O dX12_event_105 rfl ?_
            obtain ⟨c107, hw⟩ := hw
            refine g_iaload O dX12_event_107 c107.1 c107.2 ?_
            refine g_callV (As := [vi ((gI h8 (gR h8 a0 33) (ix xv25)))]) (rest := []) O ci_12 rfl dX12_event_108 ml_X12_365 im_yX12_good se_yX12_good ini_X12 co_yX12_good yo_yX12_good c2 rfl rfl (Nat.le_of_ble_eq_true rfl) ⟨by decide, by decide, by decide, by decide⟩ (okX12_good hw) (k_I fun r108 h108 hw => ?_)
            exact g_ireturn O dX12_event_111 ⟨rfl, rfl, _, rfl, hw⟩
          · have hw := hw.2 (fun q => hx28 (by rw [q]; rfl))
            rcases ht with ⟨hx28, ht⟩ | ⟨hx28, ht⟩
            · obtain rfl : t28 = 112 := by have e : (28 : Int) + (84) = (t28 : Int) := ht; omega
              have hw := hw.1 (Int32.toInt_inj.mp hx28)
              refine g_aload_n O dX12_event_112 rfl ?_
              refine g_aload_n O dX12_event_113 rfl ?_
              refine gf_X12_isAside O dX12_event_114 fl_X12_84 c2 ?_
              refine g_iload O dX12_event_117 rfl ?_
              obtain ⟨c119, hw⟩ := hw
              refine g_zaload O dX12_event_119 c119.1 c119.2 ?_
              refine g_if_eq (tgt := 127) O dX12_event_120 rfl (fun q120 => ?_) (fun q120 => ?_)
              · have hw := hw.1 q120
                refine g_iconst O dX12_event_127 kv_0 ?_
                refine g_callV (As := [vi (0 : Int32)]) (rest := []) O ci_12 rfl dX12_event_128 ml_X12_365 im_yX12_good se_yX12_good ini_X12 co_yX12_good yo_yX12_good c2 rfl rfl (Nat.le_of_ble_eq_true rfl) ⟨by decide, by decide, by decide, by decide⟩ (okX12_good hw) (k_I fun r128 h128 hw => ?_)
                exact g_ireturn O dX12_event_131 ⟨rfl, rfl, _, rfl, hw⟩
              · have hw := hw.2 q120
                refine g_iconst O dX12_event_123 kv_1 ?_
                refine g_goto (tgt := 128) O dX12_event_124 rfl ?_
                refine g_callV (As := [vi (1 : Int32)]) (rest := []) O ci_12 rfl dX12_event_128 ml_X12_365 im_yX12_good se_yX12_good ini_X12 co_yX12_good yo_yX12_good c2 rfl rfl (Nat.le_of_ble_eq_true rfl) ⟨by decide, by decide, by decide, by decide⟩ (okX12_good hw) (k_I fun r128 h128 hw => ?_)
                exact g_ireturn O dX12_event_131 ⟨rfl, rfl, _, rfl, hw⟩
            · have hw := hw.2 (fun q => hx28 (by rw [q]; rfl))
              obtain rfl : t28 = 132 := by have e : (28 : Int) + (104) = (t28 : Int) := ht; omega
              refine g_aload_n O dX12_event_132 rfl ?_
              refine g_iconst O dX12_event_133 kv_1 ?_
              refine g_callV (As := [vi (1 : Int32)]) (rest := []) O ci_12 rfl dX12_event_134 ml_X12_350 im_yX12_refused se_yX12_refused ini_X12 co_yX12_refused yo_yX12_refused c2 rfl rfl (Nat.le_of_ble_eq_true rfl) ⟨by decide, by decide, by decide, by decide⟩ (okX12_refused hw) (k_I fun r134 h134 hw => ?_)
              exact g_ireturn O dX12_event_137 ⟨rfl, rfl, _, rfl, hw⟩
  · have hw := hw.2 q11
    refine g_aload_n O dX12_event_14 rfl ?_
    refine g_iconst O dX12_event_15 kv_1 ?_
    refine g_callV (As := [vi (1 : Int32)]) (rest := []) O ci_12 rfl dX12_event_16 ml_X12_350 im_yX12_refused se_yX12_refused ini_X12 co_yX12_refused yo_yX12_refused c2 rfl rfl (Nat.le_of_ble_eq_true rfl) ⟨by decide, by decide, by decide, by decide⟩ (okX12_refused hw) (k_I fun r16 h16 hw => ?_)
    exact g_ireturn O dX12_event_19 ⟨rfl, rfl, _, rfl, hw⟩
theorem dX12_eventIn_0 : decode cX12_eventIn 0 = .ok (.iconst 0, 1) := by decide +kernel
theorem dX12_eventIn_1 : decode cX12_eventIn 1 = .ok (.istore 4, 2) := by decide +kernel
theorem dX12_eventIn_3 : decode cX12_eventIn 3 = .ok (.iload 4, 2) := by decide +kernel
theorem dX12_eventIn_5 : decode cX12_eventIn 5 = .ok (.aload_n 0, 1) := by decide +kernel
theorem dX12_eventIn_6 : decode cX12_eventIn 6 = .ok (.getfield 33, 3) := by decide +kernel
theorem dX12_eventIn_9 : decode cX12_eventIn 9 = .ok (.iload_n 1, 1) := by decide +kernel
theorem dX12_eventIn_10 : decode cX12_eventIn 10 = .ok (.iaload, 1) := by decide +kernel
theorem dX12_eventIn_11 : decode cX12_eventIn 11 = .ok (.if_icmp .ge 28, 3) := by decide +kernel
theorem dX12_eventIn_14 : decode cX12_eventIn 14 = .ok (.aload_n 0, 1) := by decide +kernel
theorem dX12_eventIn_15 : decode cX12_eventIn 15 = .ok (.getfield 24, 3) := by decide +kernel
theorem dX12_eventIn_18 : decode cX12_eventIn 18 = .ok (.iconst 4, 1) := by decide +kernel
theorem dX12_eventIn_19 : decode cX12_eventIn 19 = .ok (.iload_n 1, 1) := by decide +kernel
theorem dX12_eventIn_20 : decode cX12_eventIn 20 = .ok (.imul, 1) := by decide +kernel
theorem dX12_eventIn_21 : decode cX12_eventIn 21 = .ok (.iload 4, 2) := by decide +kernel
theorem dX12_eventIn_23 : decode cX12_eventIn 23 = .ok (.iadd, 1) := by decide +kernel
theorem dX12_eventIn_24 : decode cX12_eventIn 24 = .ok (.laload, 1) := by decide +kernel
theorem dX12_eventIn_25 : decode cX12_eventIn 25 = .ok (.lload_n 2, 1) := by decide +kernel
theorem dX12_eventIn_26 : decode cX12_eventIn 26 = .ok (.lcmp, 1) := by decide +kernel
theorem dX12_eventIn_27 : decode cX12_eventIn 27 = .ok (.ifCond .ne 6, 3) := by decide +kernel
theorem dX12_eventIn_30 : decode cX12_eventIn 30 = .ok (.iload 4, 2) := by decide +kernel
theorem dX12_eventIn_32 : decode cX12_eventIn 32 = .ok (.ireturn, 1) := by decide +kernel
theorem dX12_eventIn_33 : decode cX12_eventIn 33 = .ok (.iinc 4 1, 3) := by decide +kernel
theorem dX12_eventIn_36 : decode cX12_eventIn 36 = .ok (.goto (-33), 3) := by decide +kernel
theorem dX12_eventIn_39 : decode cX12_eventIn 39 = .ok (.iconst (-1), 1) := by decide +kernel
theorem dX12_eventIn_40 : decode cX12_eventIn 40 = .ok (.ireturn, 1) := by decide +kernel
theorem okX12_eventIn_3 {E : Ev} {X : Cx} {S : Sh} {Z : Option Nat} {Q : Int32 → Hp → Prop} {a0 : Nat} {x1 : Int32} {j2 : Int64} (O : Ok E X yX12_eventIn cX12_eventIn 5 (some .int) 1 24 0 0 (qI S Z Q)) : ∀ (n : Nat) (h : Hp) (x4 : Int32), wX12_eventIn_3 S a0 x1 j2 Q n h x4 → G E X 0 0 S Z h 3 [some (vr a0), some (vi x1), some (vj j2), none, some (vi x4)] [] := by
  intro n
  induction n with
  | zero => intro h x4 hw; exact hw.elim
  | succ n hB3 =>
    intro h x4 hw
    have hw : wX12_eventIn_3b S a0 x1 j2 Q (wX12_eventIn_3 S a0 x1 j2 Q n) h x4 := hw
    unfold wX12_eventIn_3b at hw
    refine g_iload O dX12_eventIn_3 rfl ?_
    refine g_aload_n O dX12_eventIn_5 rfl ?_
    obtain ⟨c6, hw⟩ := hw
    refine gf_X12_eventMany O dX12_eventIn_6 fl_X12_33 c6 ?_
    refine g_iload_n O dX12_eventIn_9 rfl ?_
    obtain ⟨c10, hw⟩ := hw
    refine g_iaload O dX12_eventIn_10 c10.1 c10.2 ?_
    refine g_icmp_ge (tgt := 39) O dX12_eventIn_11 rfl (fun q11 => ?_) (fun q11 => ?_)
    · have hw := hw.1 q11
      refine g_iconst O dX12_eventIn_39 kv_m1 ?_
      exact g_ireturn O dX12_eventIn_40 ⟨rfl, rfl, _, rfl, hw⟩
    · have hw := hw.2 q11
      refine g_aload_n O dX12_eventIn_14 rfl ?_
      refine gf_X12_eventName O dX12_eventIn_15 fl_X12_24 c6 ?_
      refine g_iconst O dX12_eventIn_18 kv_4 ?_
      refine g_iload_n O dX12_eventIn_19 rfl ?_
      refine g_imul O dX12_eventIn_20 ?_
      refine g_iload O dX12_eventIn_21 rfl ?_
      refine g_iadd O dX12_eventIn_23 ?_
      obtain ⟨c24, hw⟩ := hw
      refine g_laload O dX12_eventIn_24 c24.1 c24.2 ?_
      refine g_lload_n O dX12_eventIn_25 rfl ?_
      refine g_lcmp O dX12_eventIn_26 ?_
      refine g_if_ne (tgt := 33) O dX12_eventIn_27 rfl (fun q27 => ?_) (fun q27 => ?_)
      · have hw := hw.1 q27
        refine g_iinc (lc' := [some (vr a0), some (vi x1), some (vj j2), none, some (vi (x4 + (1 : Int32)))]) O dX12_eventIn_33 rfl kv_1 rfl rfl ?_
        refine g_goto (tgt := 3) O dX12_eventIn_36 rfl ?_
        exact hB3 _ _ hw
      · have hw := hw.2 q27
        refine g_iload O dX12_eventIn_30 rfl ?_
        exact g_ireturn O dX12_eventIn_32 ⟨rfl, rfl, _, rfl, hw⟩
theorem okX12_eventIn {E : Ev} {S : Sh} {Z : Option Nat} {Q : Int32 → Hp → Prop} {h : Hp} {a0 : Nat} {x1 : Int32} {j2 : Int64} (hw : wX12_eventIn S h a0 x1 j2 Q) : Ct E yX12_eventIn cX12_eventIn 5 (some .int) 1 24 0 0 S Z h [vr a0, vi x1, vj j2] (qI S Z Q) := by
  refine Ct.of (by decide) (lc := [some (vr a0), some (vi x1), some (vj j2), none, none]) (Nat.le_of_ble_eq_true rfl) rfl (fun X O => ?_)
  unfold wX12_eventIn at hw
  refine g_iconst O dX12_eventIn_0 kv_0 ?_
  refine g_istore (lc' := [some (vr a0), some (vi x1), some (vj j2), none, some (vi (0 : Int32))]) O dX12_eventIn_1 rfl (Nat.le_of_ble_eq_true rfl) rfl ?_
  obtain ⟨n3, hw⟩ := hw
  exact okX12_eventIn_3 O n3 _ _ hw
theorem dX12_eventsNow_0 : decode cX12_eventsNow 0 = .ok (.iconst 0, 1) := by decide +kernel
theorem dX12_eventsNow_1 : decode cX12_eventsNow 1 = .ok (.istore_n 1, 1) := by decide +kernel
theorem dX12_eventsNow_2 : decode cX12_eventsNow 2 = .ok (.iconst 0, 1) := by decide +kernel
theorem dX12_eventsNow_3 : decode cX12_eventsNow 3 = .ok (.istore_n 2, 1) := by decide +kernel
theorem dX12_eventsNow_4 : decode cX12_eventsNow 4 = .ok (.iload_n 2, 1) := by decide +kernel
theorem dX12_eventsNow_5 : decode cX12_eventsNow 5 = .ok (.aload_n 0, 1) := by decide +kernel
theorem dX12_eventsNow_6 : decode cX12_eventsNow 6 = .ok (.getfield 33, 3) := by decide +kernel
theorem dX12_eventsNow_9 : decode cX12_eventsNow 9 = .ok (.aload_n 0, 1) := by decide +kernel
theorem dX12_eventsNow_10 : decode cX12_eventsNow 10 = .ok (.getfield 106, 3) := by decide +kernel
theorem dX12_eventsNow_13 : decode cX12_eventsNow 13 = .ok (.iaload, 1) := by decide +kernel
theorem dX12_eventsNow_14 : decode cX12_eventsNow 14 = .ok (.if_icmp .ge 69, 3) := by decide +kernel
theorem dX12_eventsNow_17 : decode cX12_eventsNow 17 = .ok (.aload_n 0, 1) := by decide +kernel
theorem dX12_eventsNow_18 : decode cX12_eventsNow 18 = .ok (.getfield 63, 3) := by decide +kernel
theorem dX12_eventsNow_21 : decode cX12_eventsNow 21 = .ok (.iconst 4, 1) := by decide +kernel
theorem dX12_eventsNow_22 : decode cX12_eventsNow 22 = .ok (.aload_n 0, 1) := by decide +kernel
theorem dX12_eventsNow_23 : decode cX12_eventsNow 23 = .ok (.getfield 106, 3) := by decide +kernel
theorem dX12_eventsNow_26 : decode cX12_eventsNow 26 = .ok (.imul, 1) := by decide +kernel
theorem dX12_eventsNow_27 : decode cX12_eventsNow 27 = .ok (.iload_n 2, 1) := by decide +kernel
theorem dX12_eventsNow_28 : decode cX12_eventsNow 28 = .ok (.iadd, 1) := by decide +kernel
theorem dX12_eventsNow_29 : decode cX12_eventsNow 29 = .ok (.iaload, 1) := by decide +kernel
theorem dX12_eventsNow_30 : decode cX12_eventsNow 30 = .ok (.istore_n 3, 1) := by decide +kernel
theorem dX12_eventsNow_31 : decode cX12_eventsNow 31 = .ok (.iload_n 3, 1) := by decide +kernel
theorem dX12_eventsNow_32 : decode cX12_eventsNow 32 = .ok (.aload_n 0, 1) := by decide +kernel
theorem dX12_eventsNow_33 : decode cX12_eventsNow 33 = .ok (.getfield 66, 3) := by decide +kernel
theorem dX12_eventsNow_36 : decode cX12_eventsNow 36 = .ok (.iconst 4, 1) := by decide +kernel
theorem dX12_eventsNow_37 : decode cX12_eventsNow 37 = .ok (.aload_n 0, 1) := by decide +kernel
theorem dX12_eventsNow_38 : decode cX12_eventsNow 38 = .ok (.getfield 106, 3) := by decide +kernel
theorem dX12_eventsNow_41 : decode cX12_eventsNow 41 = .ok (.imul, 1) := by decide +kernel
theorem dX12_eventsNow_42 : decode cX12_eventsNow 42 = .ok (.iload_n 2, 1) := by decide +kernel
theorem dX12_eventsNow_43 : decode cX12_eventsNow 43 = .ok (.iadd, 1) := by decide +kernel
theorem dX12_eventsNow_44 : decode cX12_eventsNow 44 = .ok (.iaload, 1) := by decide +kernel
theorem dX12_eventsNow_45 : decode cX12_eventsNow 45 = .ok (.if_icmp .gt 32, 3) := by decide +kernel
theorem dX12_eventsNow_48 : decode cX12_eventsNow 48 = .ok (.aload_n 0, 1) := by decide +kernel
theorem dX12_eventsNow_49 : decode cX12_eventsNow 49 = .ok (.aload_n 0, 1) := by decide +kernel
theorem dX12_eventsNow_50 : decode cX12_eventsNow 50 = .ok (.getfield 106, 3) := by decide +kernel
theorem dX12_eventsNow_53 : decode cX12_eventsNow 53 = .ok (.iload_n 2, 1) := by decide +kernel
theorem dX12_eventsNow_54 : decode cX12_eventsNow 54 = .ok (.aload_n 0, 1) := by decide +kernel
theorem dX12_eventsNow_55 : decode cX12_eventsNow 55 = .ok (.getfield 473, 3) := by decide +kernel
theorem dX12_eventsNow_58 : decode cX12_eventsNow 58 = .ok (.iload_n 3, 1) := by decide +kernel
theorem dX12_eventsNow_59 : decode cX12_eventsNow 59 = .ok (.invokevirtual 482, 3) := by decide +kernel
theorem dX12_eventsNow_62 : decode cX12_eventsNow 62 = .ok (.ifCond .eq 9, 3) := by decide +kernel
theorem dX12_eventsNow_65 : decode cX12_eventsNow 65 = .ok (.iload_n 1, 1) := by decide +kernel
theorem dX12_eventsNow_66 : decode cX12_eventsNow 66 = .ok (.iconst 1, 1) := by decide +kernel
theorem dX12_eventsNow_67 : decode cX12_eventsNow 67 = .ok (.iload_n 2, 1) := by decide +kernel
theorem dX12_eventsNow_68 : decode cX12_eventsNow 68 = .ok (.ishl, 1) := by decide +kernel
theorem dX12_eventsNow_69 : decode cX12_eventsNow 69 = .ok (.ior, 1) := by decide +kernel
theorem dX12_eventsNow_70 : decode cX12_eventsNow 70 = .ok (.istore_n 1, 1) := by decide +kernel
theorem dX12_eventsNow_71 : decode cX12_eventsNow 71 = .ok (.iinc 3 1, 3) := by decide +kernel
theorem dX12_eventsNow_74 : decode cX12_eventsNow 74 = .ok (.goto (-43), 3) := by decide +kernel
theorem dX12_eventsNow_77 : decode cX12_eventsNow 77 = .ok (.iinc 2 1, 3) := by decide +kernel
theorem dX12_eventsNow_80 : decode cX12_eventsNow 80 = .ok (.goto (-76), 3) := by decide +kernel
theorem dX12_eventsNow_83 : decode cX12_eventsNow 83 = .ok (.iload_n 1, 1) := by decide +kernel
theorem dX12_eventsNow_84 : decode cX12_eventsNow 84 = .ok (.ireturn, 1) := by decide +kernel
theorem okX12_eventsNow_31 {E : Ev} {X : Cx} {S : Sh} {Z : Option Nat} {Q : Int32 → Hp → Prop} {B4 : Hp → Int32 → Int32 → Prop} {a0 : Nat} {x2 : Int32} (O : Ok E X yX12_eventsNow cX12_eventsNow 4 (some .int) 5 135 0 0 (qI S Z Q)) (hB4 : ∀ (h : Hp) (x1 : Int32) (x2 : Int32), B4 h x1 x2 → G E X 0 0 S Z h 4 [some (vr a0), some (vi x1), some (vi x2), none] []) : ∀ (n : Nat) (h : Hp) (x1 : Int32) (x3 : Int32), wX12_eventsNow_31 S B4 a0 x2 Q n h x1 x3 → G E X 0 0 S Z h 31 [some (vr a0), some (vi x1), some (vi x2), some (vi x3)] [] := by
  intro n
  induction n with
  | zero => intro h x1 x3 hw; exact hw.elim
  | succ n hB31 =>
    intro h x1 x3 hw
    have hw : wX12_eventsNow_31b S B4 a0 x2 Q (wX12_eventsNow_31 S B4 a0 x2 Q n) h x1 x3 := hw
    unfold wX12_eventsNow_31b at hw
    refine g_iload_n O dX12_eventsNow_31 rfl ?_
    refine g_aload_n O dX12_eventsNow_32 rfl ?_
    obtain ⟨c33, hw⟩ := hw
    refine gf_X12_lastPick O dX12_eventsNow_33 fl_X12_66 c33 ?_
    refine g_iconst O dX12_eventsNow_36 kv_4 ?_
    refine g_aload_n O dX12_eventsNow_37 rfl ?_
    refine gf_X12_runOf O dX12_eventsNow_38 fl_X12_106 c33 ?_
    refine g_imul O dX12_eventsNow_41 ?_
    refine g_iload_n O dX12_eventsNow_42 rfl ?_
    refine g_iadd O dX12_eventsNow_43 ?_
    obtain ⟨c44, hw⟩ := hw
    refine g_iaload O dX12_eventsNow_44 c44.1 c44.2 ?_
    refine g_icmp_gt (tgt := 77) O dX12_eventsNow_45 rfl (fun q45 => ?_) (fun q45 => ?_)
    · have hw := hw.1 q45
      refine g_iinc (lc' := [some (vr a0), some (vi x1), some (vi (x2 + (1 : Int32))), some (vi x3)]) O dX12_eventsNow_77 rfl kv_1 rfl rfl ?_
      refine g_goto (tgt := 4) O dX12_eventsNow_80 rfl ?_
      refine g_mask [true, true, true, false] rfl rfl ?_
      exact hB4 _ _ _ hw
    · have hw := hw.2 q45
      refine g_aload_n O dX12_eventsNow_48 rfl ?_
      refine g_aload_n O dX12_eventsNow_49 rfl ?_
      refine gf_X12_runOf O dX12_eventsNow_50 fl_X12_106 c33 ?_
      refine g_iload_n O dX12_eventsNow_53 rfl ?_
      refine g_aload_n O dX12_eventsNow_54 rfl ?_
      refine gf_X12_runState O dX12_eventsNow_55 fl_X12_473 c33 ?_
      refine g_iload_n O dX12_eventsNow_58 rfl ?_
      refine g_callV (As := [vi (gI h a0 56), vi x2, vi (gI h a0 57), vi x3]) (rest := []) O ci_12 rfl dX12_eventsNow_59 ml_X12_482 im_yX12_goes se_yX12_goes ini_X12 co_yX12_goes yo_yX12_goes c33 rfl rfl (Nat.le_of_ble_eq_true rfl) ⟨by decide, by decide, by decide, by decide⟩ (okX12_goes hw) (k_I fun r59 h59 hw => ?_)
      refine g_if_eq (tgt := 71) O dX12_eventsNow_62 rfl (fun q62 => ?_) (fun q62 => ?_)
      · have hw := hw.1 q62
        refine g_iinc (lc' := [some (vr a0), some (vi x1), some (vi x2), some (vi (x3 + (1 : Int32)))]) O dX12_eventsNow_71 rfl kv_1 rfl rfl ?_
        refine g_goto (tgt := 31) O dX12_eventsNow_74 rfl ?_
        exact hB31 _ _ _ hw
      · have hw := hw.2 q62
        refine g_iload_n O dX12_eventsNow_65 rfl ?_
        refine g_iconst O dX12_eventsNow_66 kv_1 ?_
        refine g_iload_n O dX12_eventsNow_67 rfl ?_
        refine g_ishl O dX12_eventsNow_68 ?_
        refine g_ior O dX12_eventsNow_69 ?_
        refine g_nmI (fun xv70 e70 => ?_)
        have hw := hw xv70 e70
        refine g_istore_n (lc' := [some (vr a0), some (vi xv70), some (vi x2), some (vi x3)]) O dX12_eventsNow_70 rfl (Nat.le_of_ble_eq_true rfl) rfl ?_
        refine g_iinc (lc' := [some (vr a0), some (vi xv70), some (vi x2), some (vi (x3 + (1 : Int32)))]) O dX12_eventsNow_71 rfl kv_1 rfl rfl ?_
        refine g_goto (tgt := 31) O dX12_eventsNow_74 rfl ?_
        exact hB31 _ _ _ hw
theorem okX12_eventsNow_4 {E : Ev} {X : Cx} {S : Sh} {Z : Option Nat} {Q : Int32 → Hp → Prop} {a0 : Nat} (O : Ok E X yX12_eventsNow cX12_eventsNow 4 (some .int) 5 135 0 0 (qI S Z Q)) : ∀ (n : Nat) (h : Hp) (x1 : Int32) (x2 : Int32), wX12_eventsNow_4 S a0 Q n h x1 x2 → G E X 0 0 S Z h 4 [some (vr a0), some (vi x1), some (vi x2), none] [] := by
  intro n
  induction n with
  | zero => intro h x1 x2 hw; exact hw.elim
  | succ n hB4 =>
    intro h x1 x2 hw
    have hw : wX12_eventsNow_4b S a0 Q (wX12_eventsNow_4 S a0 Q n) h x1 x2 := hw
    unfold wX12_eventsNow_4b at hw
    refine g_iload_n O dX12_eventsNow_4 rfl ?_
    refine g_aload_n O dX12_eventsNow_5 rfl ?_
    obtain ⟨c6, hw⟩ := hw
    refine gf_X12_eventMany O dX12_eventsNow_6 fl_X12_33 c6 ?_
    refine g_aload_n O dX12_eventsNow_9 rfl ?_
    refine gf_X12_runOf O dX12_eventsNow_10 fl_X12_106 c6 ?_
    obtain ⟨c13, hw⟩ := hw
    refine g_iaload O dX12_eventsNow_13 c13.1 c13.2 ?_
    refine g_icmp_ge (tgt := 83) O dX12_eventsNow_14 rfl (fun q14 => ?_) (fun q14 => ?_)
    · have hw := hw.1 q14
      refine g_iload_n O dX12_eventsNow_83 rfl ?_
      exact g_ireturn O dX12_eventsNow_84 ⟨rfl, rfl, _, rfl, hw⟩
    · have hw := hw.2 q14
      refine g_aload_n O dX12_eventsNow_17 rfl ?_
      refine gf_X12_firstPick O dX12_eventsNow_18 fl_X12_63 c6 ?_
      refine g_iconst O dX12_eventsNow_21 kv_4 ?_
      refine g_aload_n O dX12_eventsNow_22 rfl ?_
      refine gf_X12_runOf O dX12_eventsNow_23 fl_X12_106 c6 ?_
      refine g_imul O dX12_eventsNow_26 ?_
      refine g_iload_n O dX12_eventsNow_27 rfl ?_
      refine g_iadd O dX12_eventsNow_28 ?_
      obtain ⟨c29, hw⟩ := hw
      refine g_iaload O dX12_eventsNow_29 c29.1 c29.2 ?_
      refine g_nmI (fun xv30 e30 => ?_)
      have hw := hw xv30 e30
      refine g_istore_n (lc' := [some (vr a0), some (vi x1), some (vi x2), some (vi xv30)]) O dX12_eventsNow_30 rfl (Nat.le_of_ble_eq_true rfl) rfl ?_
      obtain ⟨n31, hw⟩ := hw
      exact okX12_eventsNow_31 O hB4 n31 _ _ _ hw
theorem okX12_eventsNow {E : Ev} {S : Sh} {Z : Option Nat} {Q : Int32 → Hp → Prop} {h : Hp} {a0 : Nat} (hw : wX12_eventsNow S h a0 Q) : Ct E yX12_eventsNow cX12_eventsNow 4 (some .int) 5 135 0 0 S Z h [vr a0] (qI S Z Q) := by
  refine Ct.of (by decide) (lc := [some (vr a0), none, none, none]) (Nat.le_of_ble_eq_true rfl) rfl (fun X O => ?_)
  unfold wX12_eventsNow at hw
  refine g_iconst O dX12_eventsNow_0 kv_0 ?_
  refine g_istore_n (lc' := [some (vr a0), some (vi (0 : Int32)), none, none]) O dX12_eventsNow_1 rfl (Nat.le_of_ble_eq_true rfl) rfl ?_
  refine g_iconst O dX12_eventsNow_2 kv_0 ?_
  refine g_istore_n (lc' := [some (vr a0), some (vi (0 : Int32)), some (vi (0 : Int32)), none]) O dX12_eventsNow_3 rfl (Nat.le_of_ble_eq_true rfl) rfl ?_
  obtain ⟨n4, hw⟩ := hw
  exact okX12_eventsNow_4 O n4 _ _ _ hw
theorem dX12_fault_0 : decode cX12_fault 0 = .ok (.aload_n 0, 1) := by decide +kernel
theorem dX12_fault_1 : decode cX12_fault 1 = .ok (.iconst 0, 1) := by decide +kernel
theorem dX12_fault_2 : decode cX12_fault 2 = .ok (.putfield 121, 3) := by decide +kernel
theorem dX12_fault_5 : decode cX12_fault 5 = .ok (.aload_n 0, 1) := by decide +kernel
theorem dX12_fault_6 : decode cX12_fault 6 = .ok (.getfield 130, 3) := by decide +kernel
theorem dX12_fault_9 : decode cX12_fault 9 = .ok (.ireturn, 1) := by decide +kernel
theorem okX12_fault {E : Ev} {S : Sh} {Z : Option Nat} {Q : Int32 → Hp → Prop} {h : Hp} {a0 : Nat} (hw : wX12_fault S h a0 Q) : Ct E yX12_fault cX12_fault 1 (some .int) 1 24 0 0 S Z h [vr a0] (qI S Z Q) := by
  refine Ct.of (by decide) (lc := [some (vr a0)]) (Nat.le_of_ble_eq_true rfl) rfl (fun X O => ?_)
  unfold wX12_fault at hw
  refine g_aload_n O dX12_fault_0 rfl ?_
  refine g_iconst O dX12_fault_1 kv_0 ?_
  obtain ⟨c2, hw⟩ := hw
  refine pf_X12_thrown O dX12_fault_2 fl_X12_121 c2 ?_
  refine g_nmH (fun h2 e2 => ?_)
  have hw := hw h2 e2
  refine g_aload_n O dX12_fault_5 rfl ?_
  refine gf_X12_fault O dX12_fault_6 fl_X12_130 c2 ?_
  exact g_ireturn O dX12_fault_9 ⟨rfl, rfl, _, rfl, hw⟩
theorem dX12_feed_0 : decode cX12_feed 0 = .ok (.aload_n 0, 1) := by decide +kernel
theorem dX12_feed_1 : decode cX12_feed 1 = .ok (.iconst 0, 1) := by decide +kernel
theorem dX12_feed_2 : decode cX12_feed 2 = .ok (.putfield 121, 3) := by decide +kernel
theorem dX12_feed_5 : decode cX12_feed 5 = .ok (.aload_n 0, 1) := by decide +kernel
theorem dX12_feed_6 : decode cX12_feed 6 = .ok (.getfield 127, 3) := by decide +kernel
theorem dX12_feed_9 : decode cX12_feed 9 = .ok (.bipush 20, 2) := by decide +kernel
theorem dX12_feed_11 : decode cX12_feed 11 = .ok (.iadd, 1) := by decide +kernel
theorem dX12_feed_12 : decode cX12_feed 12 = .ok (.sipush 600, 3) := by decide +kernel
theorem dX12_feed_15 : decode cX12_feed 15 = .ok (.if_icmp .le 5, 3) := by decide +kernel
theorem dX12_feed_18 : decode cX12_feed 18 = .ok (.iconst (-1), 1) := by decide +kernel
theorem dX12_feed_19 : decode cX12_feed 19 = .ok (.ireturn, 1) := by decide +kernel
theorem dX12_feed_20 : decode cX12_feed 20 = .ok (.iconst 0, 1) := by decide +kernel
theorem dX12_feed_21 : decode cX12_feed 21 = .ok (.istore 6, 2) := by decide +kernel
theorem dX12_feed_23 : decode cX12_feed 23 = .ok (.iload 6, 2) := by decide +kernel
theorem dX12_feed_25 : decode cX12_feed 25 = .ok (.bipush 20, 2) := by decide +kernel
theorem dX12_feed_27 : decode cX12_feed 27 = .ok (.if_icmp .ge 86, 3) := by decide +kernel
theorem dX12_feed_30 : decode cX12_feed 30 = .ok (.iload 6, 2) := by decide +kernel
theorem dX12_feed_32 : decode cX12_feed 32 = .ok (.iconst 4, 1) := by decide +kernel
theorem dX12_feed_33 : decode cX12_feed 33 = .ok (.if_icmp .ge 7, 3) := by decide +kernel
theorem dX12_feed_36 : decode cX12_feed 36 = .ok (.iload_n 1, 1) := by decide +kernel
theorem dX12_feed_37 : decode cX12_feed 37 = .ok (.goto 39, 3) := by decide +kernel
theorem dX12_feed_40 : decode cX12_feed 40 = .ok (.iload 6, 2) := by decide +kernel
theorem dX12_feed_42 : decode cX12_feed 42 = .ok (.bipush 8, 2) := by decide +kernel
theorem dX12_feed_44 : decode cX12_feed 44 = .ok (.if_icmp .ge 7, 3) := by decide +kernel
theorem dX12_feed_47 : decode cX12_feed 47 = .ok (.iload_n 2, 1) := by decide +kernel
theorem dX12_feed_48 : decode cX12_feed 48 = .ok (.goto 28, 3) := by decide +kernel
theorem dX12_feed_51 : decode cX12_feed 51 = .ok (.iload 6, 2) := by decide +kernel
theorem dX12_feed_53 : decode cX12_feed 53 = .ok (.bipush 12, 2) := by decide +kernel
theorem dX12_feed_55 : decode cX12_feed 55 = .ok (.if_icmp .ge 7, 3) := by decide +kernel
theorem dX12_feed_58 : decode cX12_feed 58 = .ok (.iload_n 3, 1) := by decide +kernel
theorem dX12_feed_59 : decode cX12_feed 59 = .ok (.goto 17, 3) := by decide +kernel
theorem dX12_feed_62 : decode cX12_feed 62 = .ok (.iload 6, 2) := by decide +kernel
theorem dX12_feed_64 : decode cX12_feed 64 = .ok (.bipush 16, 2) := by decide +kernel
theorem dX12_feed_66 : decode cX12_feed 66 = .ok (.if_icmp .ge 8, 3) := by decide +kernel
theorem dX12_feed_69 : decode cX12_feed 69 = .ok (.iload 4, 2) := by decide +kernel
theorem dX12_feed_71 : decode cX12_feed 71 = .ok (.goto 5, 3) := by decide +kernel
theorem dX12_feed_74 : decode cX12_feed 74 = .ok (.iload 5, 2) := by decide +kernel
theorem dX12_feed_76 : decode cX12_feed 76 = .ok (.istore 7, 2) := by decide +kernel
theorem dX12_feed_78 : decode cX12_feed 78 = .ok (.aload_n 0, 1) := by decide +kernel
theorem dX12_feed_79 : decode cX12_feed 79 = .ok (.getfield 13, 3) := by decide +kernel
theorem dX12_feed_82 : decode cX12_feed 82 = .ok (.aload_n 0, 1) := by decide +kernel
theorem dX12_feed_83 : decode cX12_feed 83 = .ok (.getfield 127, 3) := by decide +kernel
theorem dX12_feed_86 : decode cX12_feed 86 = .ok (.iload 6, 2) := by decide +kernel
theorem dX12_feed_88 : decode cX12_feed 88 = .ok (.iadd, 1) := by decide +kernel
theorem dX12_feed_89 : decode cX12_feed 89 = .ok (.iload 7, 2) := by decide +kernel
theorem dX12_feed_91 : decode cX12_feed 91 = .ok (.bipush 24, 2) := by decide +kernel
theorem dX12_feed_93 : decode cX12_feed 93 = .ok (.bipush 8, 2) := by decide +kernel
theorem dX12_feed_95 : decode cX12_feed 95 = .ok (.iload 6, 2) := by decide +kernel
theorem dX12_feed_97 : decode cX12_feed 97 = .ok (.iconst 4, 1) := by decide +kernel
theorem dX12_feed_98 : decode cX12_feed 98 = .ok (.irem, 1) := by decide +kernel
theorem dX12_feed_99 : decode cX12_feed 99 = .ok (.imul, 1) := by decide +kernel
theorem dX12_feed_100 : decode cX12_feed 100 = .ok (.isub, 1) := by decide +kernel
theorem dX12_feed_101 : decode cX12_feed 101 = .ok (.ishr, 1) := by decide +kernel
theorem dX12_feed_102 : decode cX12_feed 102 = .ok (.sipush 255, 3) := by decide +kernel
theorem dX12_feed_105 : decode cX12_feed 105 = .ok (.iand, 1) := by decide +kernel
theorem dX12_feed_106 : decode cX12_feed 106 = .ok (.iastore, 1) := by decide +kernel
theorem dX12_feed_107 : decode cX12_feed 107 = .ok (.iinc 6 1, 3) := by decide +kernel
theorem dX12_feed_110 : decode cX12_feed 110 = .ok (.goto (-87), 3) := by decide +kernel
theorem dX12_feed_113 : decode cX12_feed 113 = .ok (.aload_n 0, 1) := by decide +kernel
theorem dX12_feed_114 : decode cX12_feed 114 = .ok (.dup, 1) := by decide +kernel
theorem dX12_feed_115 : decode cX12_feed 115 = .ok (.getfield 127, 3) := by decide +kernel
theorem dX12_feed_118 : decode cX12_feed 118 = .ok (.bipush 20, 2) := by decide +kernel
theorem dX12_feed_120 : decode cX12_feed 120 = .ok (.iadd, 1) := by decide +kernel
theorem dX12_feed_121 : decode cX12_feed 121 = .ok (.putfield 127, 3) := by decide +kernel
theorem dX12_feed_124 : decode cX12_feed 124 = .ok (.aload_n 0, 1) := by decide +kernel
theorem dX12_feed_125 : decode cX12_feed 125 = .ok (.getfield 127, 3) := by decide +kernel
theorem dX12_feed_128 : decode cX12_feed 128 = .ok (.ireturn, 1) := by decide +kernel
theorem okX12_feed_j76 {E : Ev} {X : Cx} {S : Sh} {Z : Option Nat} {Q : Int32 → Hp → Prop} {B23 : Hp → Int32 → Prop} {h : Hp} {a0 : Nat} {x1 : Int32} {x2 : Int32} {x3 : Int32} {x4 : Int32} {x5 : Int32} {x6 : Int32} {s0 : Int32} (O : Ok E X yX12_feed cX12_feed 8 (some .int) 1 24 0 0 (qI S Z Q)) (hB23 : ∀ (h : Hp) (x6 : Int32), B23 h x6 → G E X 0 0 S Z h 23 [some (vr a0), some (vi x1), some (vi x2), some (vi x3), some (vi x4), some (vi x5), some (vi x6), none] []) (hw : wX12_feed_j76 S B23 h a0 x1 x2 x3 x4 x5 x6 s0 Q) : G E X 0 0 S Z h 76 [some (vr a0), some (vi x1), some (vi x2), some (vi x3), some (vi x4), some (vi x5), some (vi x6), none] [vi s0] := by
  unfold wX12_feed_j76 at hw
  refine g_istore (lc' := [some (vr a0), some (vi x1), some (vi x2), some (vi x3), some (vi x4), some (vi x5), some (vi x6), some (vi s0)]) O dX12_feed_76 rfl (Nat.le_of_ble_eq_true rfl) rfl ?_
  refine g_aload_n O dX12_feed_78 rfl ?_
  obtain ⟨c79, hw⟩ := hw
  refine gf_X12_tape O dX12_feed_79 fl_X12_13 c79 ?_
  refine g_aload_n O dX12_feed_82 rfl ?_
  refine gf_X12_taped O dX12_feed_83 fl_X12_127 c79 ?_
  refine g_iload O dX12_feed_86 rfl ?_
  refine g_iadd O dX12_feed_88 ?_
  refine g_iload O dX12_feed_89 rfl ?_
  refine g_bipush O dX12_feed_91 kb_24 ?_
  refine g_bipush O dX12_feed_93 kb_8 ?_
  refine g_iload O dX12_feed_95 rfl ?_
  refine g_iconst O dX12_feed_97 kv_4 ?_
  obtain ⟨c98, hw⟩ := hw
  refine g_irem O dX12_feed_98 c98 ?_
  refine g_imul O dX12_feed_99 ?_
  refine g_isub O dX12_feed_100 ?_
  refine g_ishr O dX12_feed_101 ?_
  refine g_sipush O dX12_feed_102 ks_255 ?_
  refine g_iand O dX12_feed_105 ?_
  obtain ⟨c106, hw⟩ := hw
  refine g_iastore O dX12_feed_106 c106.1 c106.2 ?_
  refine g_iinc (lc' := [some (vr a0), some (vi x1), some (vi x2), some (vi x3), some (vi x4), some (vi x5), some (vi (x6 + (1 : Int32))), some (vi s0)]) O dX12_feed_107 rfl kv_1 rfl rfl ?_
  refine g_goto (tgt := 23) O dX12_feed_110 rfl ?_
  refine g_mask [true, true, true, true, true, true, true, false] rfl rfl ?_
  exact hB23 _ _ hw
theorem okX12_feed_23 {E : Ev} {X : Cx} {S : Sh} {Z : Option Nat} {Q : Int32 → Hp → Prop} {a0 : Nat} {x1 : Int32} {x2 : Int32} {x3 : Int32} {x4 : Int32} {x5 : Int32} (O : Ok E X yX12_feed cX12_feed 8 (some .int) 1 24 0 0 (qI S Z Q)) : ∀ (n : Nat) (h : Hp) (x6 : Int32), wX12_feed_23 S a0 x1 x2 x3 x4 x5 Q n h x6 → G E X 0 0 S Z h 23 [some (vr a0), some (vi x1), some (vi x2), some (vi x3), some (vi x4), some (vi x5), some (vi x6), none] [] := by
  intro n
  induction n with
  | zero => intro h x6 hw; exact hw.elim
  | succ n hB23 =>
    intro h x6 hw
    have hw : wX12_feed_23b S a0 x1 x2 x3 x4 x5 Q (wX12_feed_23 S a0 x1 x2 x3 x4 x5 Q n) h x6 := hw
    unfold wX12_feed_23b at hw
    refine g_iload O dX12_feed_23 rfl ?_
    refine g_bipush O dX12_feed_25 kb_20 ?_
    refine g_icmp_ge (tgt := 113) O dX12_feed_27 rfl (fun q27 => ?_) (fun q27 => ?_)
    · have hw := hw.1 q27
      refine g_aload_n O dX12_feed_113 rfl ?_
      refine g_dup O dX12_feed_114 rfl ?_
      obtain ⟨c115, hw⟩ := hw
      refine gf_X12_taped O dX12_feed_115 fl_X12_127 c115 ?_
      refine g_bipush O dX12_feed_118 kb_20 ?_
      refine g_iadd O dX12_feed_120 ?_
      refine pf_X12_taped O dX12_feed_121 fl_X12_127 c115 ?_
      refine g_nmH (fun h121 e121 => ?_)
      have hw := hw h121 e121
      refine g_aload_n O dX12_feed_124 rfl ?_
      refine gf_X12_taped O dX12_feed_125 fl_X12_127 c115 ?_
      exact g_ireturn O dX12_feed_128 ⟨rfl, rfl, _, rfl, hw⟩
    · have hw := hw.2 q27
      refine g_iload O dX12_feed_30 rfl ?_
      refine g_iconst O dX12_feed_32 kv_4 ?_
      refine g_icmp_ge (tgt := 40) O dX12_feed_33 rfl (fun q33 => ?_) (fun q33 => ?_)
      · have hw := hw.1 q33
        refine g_iload O dX12_feed_40 rfl ?_
        refine g_bipush O dX12_feed_42 kb_8 ?_
        refine g_icmp_ge (tgt := 51) O dX12_feed_44 rfl (fun q44 => ?_) (fun q44 => ?_)
        · have hw := hw.1 q44
          refine g_iload O dX12_feed_51 rfl ?_
          refine g_bipush O dX12_feed_53 kb_12 ?_
          refine g_icmp_ge (tgt := 62) O dX12_feed_55 rfl (fun q55 => ?_) (fun q55 => ?_)
          · have hw := hw.1 q55
            refine g_iload O dX12_feed_62 rfl ?_
            refine g_bipush O dX12_feed_64 kb_16 ?_
            refine g_icmp_ge (tgt := 74) O dX12_feed_66 rfl (fun q66 => ?_) (fun q66 => ?_)
            · have hw := hw.1 q66
              refine g_iload O dX12_feed_74 rfl ?_
              exact okX12_feed_j76 O hB23 hw
            · have hw := hw.2 q66
              refine g_iload O dX12_feed_69 rfl ?_
              refine g_goto (tgt := 76) O dX12_feed_71 rfl ?_
              exact okX12_feed_j76 O hB23 hw
          · have hw := hw.2 q55
            refine g_iload_n O dX12_feed_58 rfl ?_
            refine g_goto (tgt := 76) O dX12_feed_59 rfl ?_
            exact okX12_feed_j76 O hB23 hw
        · have hw := hw.2 q44
          refine g_iload_n O dX12_feed_47 rfl ?_
          refine g_goto (tgt := 76) O dX12_feed_48 rfl ?_
          exact okX12_feed_j76 O hB23 hw
      · have hw := hw.2 q33
        refine g_iload_n O dX12_feed_36 rfl ?_
        refine g_goto (tgt := 76) O dX12_feed_37 rfl ?_
        exact okX12_feed_j76 O hB23 hw
theorem okX12_feed {E : Ev} {S : Sh} {Z : Option Nat} {Q : Int32 → Hp → Prop} {h : Hp} {a0 : Nat} {x1 : Int32} {x2 : Int32} {x3 : Int32} {x4 : Int32} {x5 : Int32} (hw : wX12_feed S h a0 x1 x2 x3 x4 x5 Q) : Ct E yX12_feed cX12_feed 8 (some .int) 1 24 0 0 S Z h [vr a0, vi x1, vi x2, vi x3, vi x4, vi x5] (qI S Z Q) := by
  refine Ct.of (by decide) (lc := [some (vr a0), some (vi x1), some (vi x2), some (vi x3), some (vi x4), some (vi x5), none, none]) (Nat.le_of_ble_eq_true rfl) rfl (fun X O => ?_)
  unfold wX12_feed at hw
  refine g_aload_n O dX12_feed_0 rfl ?_
  refine g_iconst O dX12_feed_1 kv_0 ?_
  obtain ⟨c2, hw⟩ := hw
  refine pf_X12_thrown O dX12_feed_2 fl_X12_121 c2 ?_
  refine g_nmH (fun h2 e2 => ?_)
  have hw := hw h2 e2
  refine g_aload_n O dX12_feed_5 rfl ?_
  refine gf_X12_taped O dX12_feed_6 fl_X12_127 c2 ?_
  refine g_bipush O dX12_feed_9 kb_20 ?_
  refine g_iadd O dX12_feed_11 ?_
  refine g_sipush O dX12_feed_12 ks_600 ?_
  refine g_icmp_le (tgt := 20) O dX12_feed_15 rfl (fun q15 => ?_) (fun q15 => ?_)
  · have hw := hw.1 q15
    refine g_iconst O dX12_feed_20 kv_0 ?_
    refine g_istore (lc' := [some (vr a0), some (vi x1), some (vi x2), some (vi x3), some (vi x4), some (vi x5), some (vi (0 : Int32)), none]) O dX12_feed_21 rfl (Nat.le_of_ble_eq_true rfl) rfl ?_
    obtain ⟨n23, hw⟩ := hw
    exact okX12_feed_23 O n23 _ _ hw
  · have hw := hw.2 q15
    refine g_iconst O dX12_feed_18 kv_m1 ?_
    exact g_ireturn O dX12_feed_19 ⟨rfl, rfl, _, rfl, hw⟩
theorem dX12_flaw_0 : decode cX12_flaw 0 = .ok (.aload_n 0, 1) := by decide +kernel
theorem dX12_flaw_1 : decode cX12_flaw 1 = .ok (.getfield 130, 3) := by decide +kernel
theorem dX12_flaw_4 : decode cX12_flaw 4 = .ok (.ifCond .le 4, 3) := by decide +kernel
theorem dX12_flaw_7 : decode cX12_flaw 7 = .ok (.return_, 1) := by decide +kernel
theorem dX12_flaw_8 : decode cX12_flaw 8 = .ok (.aload_n 0, 1) := by decide +kernel
theorem dX12_flaw_9 : decode cX12_flaw 9 = .ok (.iload_n 1, 1) := by decide +kernel
theorem dX12_flaw_10 : decode cX12_flaw 10 = .ok (.putfield 130, 3) := by decide +kernel
theorem dX12_flaw_13 : decode cX12_flaw 13 = .ok (.aload_n 0, 1) := by decide +kernel
theorem dX12_flaw_14 : decode cX12_flaw 14 = .ok (.aload_n 0, 1) := by decide +kernel
theorem dX12_flaw_15 : decode cX12_flaw 15 = .ok (.getfield 133, 3) := by decide +kernel
theorem dX12_flaw_18 : decode cX12_flaw 18 = .ok (.putfield 136, 3) := by decide +kernel
theorem dX12_flaw_21 : decode cX12_flaw 21 = .ok (.return_, 1) := by decide +kernel
theorem okX12_flaw {E : Ev} {S : Sh} {Z : Option Nat} {Q : Hp → Prop} {h : Hp} {a0 : Nat} {x1 : Int32} (hw : wX12_flaw S h a0 x1 Q) : Ct E yX12_flaw cX12_flaw 2 none 1 24 0 0 S Z h [vr a0, vi x1] (qV S Z Q) := by
  refine Ct.of (by decide) (lc := [some (vr a0), some (vi x1)]) (Nat.le_of_ble_eq_true rfl) rfl (fun X O => ?_)
  unfold wX12_flaw at hw
  refine g_aload_n O dX12_flaw_0 rfl ?_
  obtain ⟨c1, hw⟩ := hw
  refine gf_X12_fault O dX12_flaw_1 fl_X12_130 c1 ?_
  refine g_if_le (tgt := 8) O dX12_flaw_4 rfl (fun q4 => ?_) (fun q4 => ?_)
  · have hw := hw.1 q4
    refine g_aload_n O dX12_flaw_8 rfl ?_
    refine g_iload_n O dX12_flaw_9 rfl ?_
    refine pf_X12_fault O dX12_flaw_10 fl_X12_130 c1 ?_
    refine g_nmH (fun h10 e10 => ?_)
    have hw := hw h10 e10
    refine g_aload_n O dX12_flaw_13 rfl ?_
    refine g_aload_n O dX12_flaw_14 rfl ?_
    refine gf_X12_at O dX12_flaw_15 fl_X12_133 c1 ?_
    refine pf_X12_faultAt O dX12_flaw_18 fl_X12_136 c1 ?_
    exact g_return O dX12_flaw_21 ⟨rfl, rfl, rfl, hw⟩
  · have hw := hw.2 q4
    exact g_return O dX12_flaw_7 ⟨rfl, rfl, rfl, hw⟩
theorem dX12_gives_0 : decode cX12_gives 0 = .ok (.aload_n 0, 1) := by decide +kernel
theorem dX12_gives_1 : decode cX12_gives 1 = .ok (.iconst 0, 1) := by decide +kernel
theorem dX12_gives_2 : decode cX12_gives 2 = .ok (.putfield 121, 3) := by decide +kernel
theorem dX12_gives_5 : decode cX12_gives 5 = .ok (.aload_n 0, 1) := by decide +kernel
theorem dX12_gives_6 : decode cX12_gives 6 = .ok (.iload_n 1, 1) := by decide +kernel
theorem dX12_gives_7 : decode cX12_gives 7 = .ok (.iload_n 2, 1) := by decide +kernel
theorem dX12_gives_8 : decode cX12_gives 8 = .ok (.invokevirtual 402, 3) := by decide +kernel
theorem dX12_gives_11 : decode cX12_gives 11 = .ok (.ifCond .eq 12, 3) := by decide +kernel
theorem dX12_gives_14 : decode cX12_gives 14 = .ok (.aload_n 0, 1) := by decide +kernel
theorem dX12_gives_15 : decode cX12_gives 15 = .ok (.iload_n 1, 1) := by decide +kernel
theorem dX12_gives_16 : decode cX12_gives 16 = .ok (.iload_n 3, 1) := by decide +kernel
theorem dX12_gives_17 : decode cX12_gives 17 = .ok (.invokevirtual 405, 3) := by decide +kernel
theorem dX12_gives_20 : decode cX12_gives 20 = .ok (.ifCond .ne 9, 3) := by decide +kernel
theorem dX12_gives_23 : decode cX12_gives 23 = .ok (.aload_n 0, 1) := by decide +kernel
theorem dX12_gives_24 : decode cX12_gives 24 = .ok (.iconst 1, 1) := by decide +kernel
theorem dX12_gives_25 : decode cX12_gives 25 = .ok (.invokevirtual 350, 3) := by decide +kernel
theorem dX12_gives_28 : decode cX12_gives 28 = .ok (.ireturn, 1) := by decide +kernel
theorem dX12_gives_29 : decode cX12_gives 29 = .ok (.aload_n 0, 1) := by decide +kernel
theorem dX12_gives_30 : decode cX12_gives 30 = .ok (.iload_n 1, 1) := by decide +kernel
theorem dX12_gives_31 : decode cX12_gives 31 = .ok (.iload_n 2, 1) := by decide +kernel
theorem dX12_gives_32 : decode cX12_gives 32 = .ok (.iload 4, 2) := by decide +kernel
theorem dX12_gives_34 : decode cX12_gives 34 = .ok (.invokevirtual 408, 3) := by decide +kernel
theorem dX12_gives_37 : decode cX12_gives 37 = .ok (.ifCond .eq 19, 3) := by decide +kernel
theorem dX12_gives_40 : decode cX12_gives 40 = .ok (.aload_n 0, 1) := by decide +kernel
theorem dX12_gives_41 : decode cX12_gives 41 = .ok (.aload_n 0, 1) := by decide +kernel
theorem dX12_gives_42 : decode cX12_gives 42 = .ok (.iload_n 1, 1) := by decide +kernel
theorem dX12_gives_43 : decode cX12_gives 43 = .ok (.iload_n 2, 1) := by decide +kernel
theorem dX12_gives_44 : decode cX12_gives 44 = .ok (.iload_n 3, 1) := by decide +kernel
theorem dX12_gives_45 : decode cX12_gives 45 = .ok (.iload 4, 2) := by decide +kernel
theorem dX12_gives_47 : decode cX12_gives 47 = .ok (.invokevirtual 411, 3) := by decide +kernel
theorem dX12_gives_50 : decode cX12_gives 50 = .ok (.invokevirtual 365, 3) := by decide +kernel
theorem dX12_gives_53 : decode cX12_gives 53 = .ok (.goto 8, 3) := by decide +kernel
theorem dX12_gives_56 : decode cX12_gives 56 = .ok (.aload_n 0, 1) := by decide +kernel
theorem dX12_gives_57 : decode cX12_gives 57 = .ok (.iconst 2, 1) := by decide +kernel
theorem dX12_gives_58 : decode cX12_gives 58 = .ok (.invokevirtual 350, 3) := by decide +kernel
theorem dX12_gives_61 : decode cX12_gives 61 = .ok (.ireturn, 1) := by decide +kernel
theorem okX12_gives {E : Ev} {S : Sh} {Z : Option Nat} {Q : Int32 → Hp → Prop} {h : Hp} {a0 : Nat} {x1 : Int32} {x2 : Int32} {x3 : Int32} {x4 : Int32} (hw : wX12_gives S h a0 x1 x2 x3 x4 Q) : Ct E yX12_gives cX12_gives 5 (some .int) 4 111 0 0 S Z h [vr a0, vi x1, vi x2, vi x3, vi x4] (qI S Z Q) := by
  refine Ct.of (by decide) (lc := [some (vr a0), some (vi x1), some (vi x2), some (vi x3), some (vi x4)]) (Nat.le_of_ble_eq_true rfl) rfl (fun X O => ?_)
  unfold wX12_gives at hw
  refine g_aload_n O dX12_gives_0 rfl ?_
  refine g_iconst O dX12_gives_1 kv_0 ?_
  obtain ⟨c2, hw⟩ := hw
  refine pf_X12_thrown O dX12_gives_2 fl_X12_121 c2 ?_
  refine g_aload_n O dX12_gives_5 rfl ?_
  refine g_iload_n O dX12_gives_6 rfl ?_
  refine g_iload_n O dX12_gives_7 rfl ?_
  refine g_callV (As := [vi x1, vi x2]) (rest := []) O ci_12 rfl dX12_gives_8 ml_X12_402 im_yX12_isEvent se_yX12_isEvent ini_X12 co_yX12_isEvent yo_yX12_isEvent c2 rfl rfl (Nat.le_of_ble_eq_true rfl) ⟨by decide, by decide, by decide, by decide⟩ (okX12_isEvent hw) (k_I fun r8 h8 hw => ?_)
  refine g_if_eq (tgt := 23) O dX12_gives_11 rfl (fun q11 => ?_) (fun q11 => ?_)
  · have hw := hw.1 q11
    refine g_aload_n O dX12_gives_23 rfl ?_
    refine g_iconst O dX12_gives_24 kv_1 ?_
    refine g_callV (As := [vi (1 : Int32)]) (rest := []) O ci_12 rfl dX12_gives_25 ml_X12_350 im_yX12_refused se_yX12_refused ini_X12 co_yX12_refused yo_yX12_refused c2 rfl rfl (Nat.le_of_ble_eq_true rfl) ⟨by decide, by decide, by decide, by decide⟩ (okX12_refused hw) (k_I fun r25 h25 hw => ?_)
    exact g_ireturn O dX12_gives_28 ⟨rfl, rfl, _, rfl, hw⟩
  · have hw := hw.2 q11
    refine g_aload_n O dX12_gives_14 rfl ?_
    refine g_iload_n O dX12_gives_15 rfl ?_
    refine g_iload_n O dX12_gives_16 rfl ?_
    refine g_callV (As := [vi x1, vi x3]) (rest := []) O ci_12 rfl dX12_gives_17 ml_X12_405 im_yX12_isState se_yX12_isState ini_X12 co_yX12_isState yo_yX12_isState c2 rfl rfl (Nat.le_of_ble_eq_true rfl) ⟨by decide, by decide, by decide, by decide⟩ (okX12_isState hw) (k_I fun r17 h17 hw => ?_)
    refine g_if_ne (tgt := 29) O dX12_gives_20 rfl (fun q20 => ?_) (fun q20 => ?_)
    · have hw := hw.1 q20
      refine g_aload_n O dX12_gives_29 rfl ?_
      refine g_iload_n O dX12_gives_30 rfl ?_
      refine g_iload_n O dX12_gives_31 rfl ?_
      refine g_iload O dX12_gives_32 rfl ?_
      refine g_callV (As := [vi x1, vi x2, vi x4]) (rest := []) O ci_12 rfl dX12_gives_34 ml_X12_408 im_yX12_isPick se_yX12_isPick ini_X12 co_yX12_isPick yo_yX12_isPick c2 rfl rfl (Nat.le_of_ble_eq_true rfl) ⟨by decide, by decide, by decide, by decide⟩ (okX12_isPick hw) (k_I fun r34 h34 hw => ?_)
      refine g_if_eq (tgt := 56) O dX12_gives_37 rfl (fun q37 => ?_) (fun q37 => ?_)
      · have hw := hw.1 q37
        refine g_aload_n O dX12_gives_56 rfl ?_
        refine g_iconst O dX12_gives_57 kv_2 ?_
        refine g_callV (As := [vi (2 : Int32)]) (rest := []) O ci_12 rfl dX12_gives_58 ml_X12_350 im_yX12_refused se_yX12_refused ini_X12 co_yX12_refused yo_yX12_refused c2 rfl rfl (Nat.le_of_ble_eq_true rfl) ⟨by decide, by decide, by decide, by decide⟩ (okX12_refused hw) (k_I fun r58 h58 hw => ?_)
        exact g_ireturn O dX12_gives_61 ⟨rfl, rfl, _, rfl, hw⟩
      · have hw := hw.2 q37
        refine g_aload_n O dX12_gives_40 rfl ?_
        refine g_aload_n O dX12_gives_41 rfl ?_
        refine g_iload_n O dX12_gives_42 rfl ?_
        refine g_iload_n O dX12_gives_43 rfl ?_
        refine g_iload_n O dX12_gives_44 rfl ?_
        refine g_iload O dX12_gives_45 rfl ?_
        refine g_callV (As := [vi x1, vi x2, vi x3, vi x4]) (rest := [vr a0]) O ci_12 rfl dX12_gives_47 ml_X12_411 im_yX12_givenBy se_yX12_givenBy ini_X12 co_yX12_givenBy yo_yX12_givenBy c2 rfl rfl (Nat.le_of_ble_eq_true rfl) ⟨by decide, by decide, by decide, by decide⟩ (okX12_givenBy hw) (k_I fun r47 h47 hw => ?_)
        refine g_callV (As := [vi r47]) (rest := []) O ci_12 rfl dX12_gives_50 ml_X12_365 im_yX12_good se_yX12_good ini_X12 co_yX12_good yo_yX12_good c2 rfl rfl (Nat.le_of_ble_eq_true rfl) ⟨by decide, by decide, by decide, by decide⟩ (okX12_good hw) (k_I fun r50 h50 hw => ?_)
        refine g_goto (tgt := 61) O dX12_gives_53 rfl ?_
        exact g_ireturn O dX12_gives_61 ⟨rfl, rfl, _, rfl, hw⟩
    · have hw := hw.2 q20
      refine g_aload_n O dX12_gives_23 rfl ?_
      refine g_iconst O dX12_gives_24 kv_1 ?_
      refine g_callV (As := [vi (1 : Int32)]) (rest := []) O ci_12 rfl dX12_gives_25 ml_X12_350 im_yX12_refused se_yX12_refused ini_X12 co_yX12_refused yo_yX12_refused c2 rfl rfl (Nat.le_of_ble_eq_true rfl) ⟨by decide, by decide, by decide, by decide⟩ (okX12_refused hw) (k_I fun r25 h25 hw => ?_)
      exact g_ireturn O dX12_gives_28 ⟨rfl, rfl, _, rfl, hw⟩
theorem dX12_glued_0 : decode cX12_glued 0 = .ok (.aload_n 0, 1) := by decide +kernel
theorem dX12_glued_1 : decode cX12_glued 1 = .ok (.iconst 0, 1) := by decide +kernel
theorem dX12_glued_2 : decode cX12_glued 2 = .ok (.putfield 121, 3) := by decide +kernel
theorem dX12_glued_5 : decode cX12_glued 5 = .ok (.aload_n 0, 1) := by decide +kernel
theorem dX12_glued_6 : decode cX12_glued 6 = .ok (.iload_n 1, 1) := by decide +kernel
theorem dX12_glued_7 : decode cX12_glued 7 = .ok (.iload_n 3, 1) := by decide +kernel
theorem dX12_glued_8 : decode cX12_glued 8 = .ok (.invokevirtual 405, 3) := by decide +kernel
theorem dX12_glued_11 : decode cX12_glued 11 = .ok (.ifCond .eq 18, 3) := by decide +kernel
theorem dX12_glued_14 : decode cX12_glued 14 = .ok (.iload_n 1, 1) := by decide +kernel
theorem dX12_glued_15 : decode cX12_glued 15 = .ok (.ifCond .eq 14, 3) := by decide +kernel
theorem dX12_glued_18 : decode cX12_glued 18 = .ok (.aload_n 0, 1) := by decide +kernel
theorem dX12_glued_19 : decode cX12_glued 19 = .ok (.iload_n 1, 1) := by decide +kernel
theorem dX12_glued_20 : decode cX12_glued 20 = .ok (.iconst 1, 1) := by decide +kernel
theorem dX12_glued_21 : decode cX12_glued 21 = .ok (.isub, 1) := by decide +kernel
theorem dX12_glued_22 : decode cX12_glued 22 = .ok (.iload_n 2, 1) := by decide +kernel
theorem dX12_glued_23 : decode cX12_glued 23 = .ok (.invokevirtual 405, 3) := by decide +kernel
theorem dX12_glued_26 : decode cX12_glued 26 = .ok (.ifCond .ne 9, 3) := by decide +kernel
theorem dX12_glued_29 : decode cX12_glued 29 = .ok (.aload_n 0, 1) := by decide +kernel
theorem dX12_glued_30 : decode cX12_glued 30 = .ok (.iconst 1, 1) := by decide +kernel
theorem dX12_glued_31 : decode cX12_glued 31 = .ok (.invokevirtual 350, 3) := by decide +kernel
theorem dX12_glued_34 : decode cX12_glued 34 = .ok (.ireturn, 1) := by decide +kernel
theorem dX12_glued_35 : decode cX12_glued 35 = .ok (.aload_n 0, 1) := by decide +kernel
theorem dX12_glued_36 : decode cX12_glued 36 = .ok (.aload_n 0, 1) := by decide +kernel
theorem dX12_glued_37 : decode cX12_glued 37 = .ok (.getfield 100, 3) := by decide +kernel
theorem dX12_glued_40 : decode cX12_glued 40 = .ok (.iload_n 1, 1) := by decide +kernel
theorem dX12_glued_41 : decode cX12_glued 41 = .ok (.iload_n 2, 1) := by decide +kernel
theorem dX12_glued_42 : decode cX12_glued 42 = .ok (.iload_n 3, 1) := by decide +kernel
theorem dX12_glued_43 : decode cX12_glued 43 = .ok (.invokestatic 382, 3) := by decide +kernel
theorem dX12_glued_46 : decode cX12_glued 46 = .ok (.baload, 1) := by decide +kernel
theorem dX12_glued_47 : decode cX12_glued 47 = .ok (.ifCond .eq 7, 3) := by decide +kernel
theorem dX12_glued_50 : decode cX12_glued 50 = .ok (.iconst 1, 1) := by decide +kernel
theorem dX12_glued_51 : decode cX12_glued 51 = .ok (.goto 4, 3) := by decide +kernel
theorem dX12_glued_54 : decode cX12_glued 54 = .ok (.iconst 0, 1) := by decide +kernel
theorem dX12_glued_55 : decode cX12_glued 55 = .ok (.invokevirtual 365, 3) := by decide +kernel
theorem dX12_glued_58 : decode cX12_glued 58 = .ok (.ireturn, 1) := by decide +kernel
theorem okX12_glued {E : Ev} {S : Sh} {Z : Option Nat} {Q : Int32 → Hp → Prop} {h : Hp} {a0 : Nat} {x1 : Int32} {x2 : Int32} {x3 : Int32} (hw : wX12_glued S h a0 x1 x2 x3 Q) : Ct E yX12_glued cX12_glued 4 (some .int) 4 89 0 0 S Z h [vr a0, vi x1, vi x2, vi x3] (qI S Z Q) := by
  refine Ct.of (by decide) (lc := [some (vr a0), some (vi x1), some (vi x2), some (vi x3)]) (Nat.le_of_ble_eq_true rfl) rfl (fun X O => ?_)
  unfold wX12_glued at hw
  refine g_aload_n O dX12_glued_0 rfl ?_
  refine g_iconst O dX12_glued_1 kv_0 ?_
  obtain ⟨c2, hw⟩ := hw
  refine pf_X12_thrown O dX12_glued_2 fl_X12_121 c2 ?_
  refine g_aload_n O dX12_glued_5 rfl ?_
  refine g_iload_n O dX12_glued_6 rfl ?_
  refine g_iload_n O dX12_glued_7 rfl ?_
  refine g_callV (As := [vi x1, vi x3]) (rest := []) O ci_12 rfl dX12_glued_8 ml_X12_405 im_yX12_isState se_yX12_isState ini_X12 co_yX12_isState yo_yX12_isState c2 rfl rfl (Nat.le_of_ble_eq_true rfl) ⟨by decide, by decide, by decide, by decide⟩ (okX12_isState hw) (k_I fun r8 h8 hw => ?_)
  refine g_if_eq (tgt := 29) O dX12_glued_11 rfl (fun q11 => ?_) (fun q11 => ?_)
  · have hw := hw.1 q11
    refine g_aload_n O dX12_glued_29 rfl ?_
    refine g_iconst O dX12_glued_30 kv_1 ?_
    refine g_callV (As := [vi (1 : Int32)]) (rest := []) O ci_12 rfl dX12_glued_31 ml_X12_350 im_yX12_refused se_yX12_refused ini_X12 co_yX12_refused yo_yX12_refused c2 rfl rfl (Nat.le_of_ble_eq_true rfl) ⟨by decide, by decide, by decide, by decide⟩ (okX12_refused hw) (k_I fun r31 h31 hw => ?_)
    exact g_ireturn O dX12_glued_34 ⟨rfl, rfl, _, rfl, hw⟩
  · have hw := hw.2 q11
    refine g_iload_n O dX12_glued_14 rfl ?_
    refine g_if_eq (tgt := 29) O dX12_glued_15 rfl (fun q15 => ?_) (fun q15 => ?_)
    · have hw := hw.1 q15
      refine g_aload_n O dX12_glued_29 rfl ?_
      refine g_iconst O dX12_glued_30 kv_1 ?_
      refine g_callV (As := [vi (1 : Int32)]) (rest := []) O ci_12 rfl dX12_glued_31 ml_X12_350 im_yX12_refused se_yX12_refused ini_X12 co_yX12_refused yo_yX12_refused c2 rfl rfl (Nat.le_of_ble_eq_true rfl) ⟨by decide, by decide, by decide, by decide⟩ (okX12_refused hw) (k_I fun r31 h31 hw => ?_)
      exact g_ireturn O dX12_glued_34 ⟨rfl, rfl, _, rfl, hw⟩
    · have hw := hw.2 q15
      refine g_aload_n O dX12_glued_18 rfl ?_
      refine g_iload_n O dX12_glued_19 rfl ?_
      refine g_iconst O dX12_glued_20 kv_1 ?_
      refine g_isub O dX12_glued_21 ?_
      refine g_iload_n O dX12_glued_22 rfl ?_
      refine g_callV (As := [vi ((x1 - (1 : Int32))), vi x2]) (rest := []) O ci_12 rfl dX12_glued_23 ml_X12_405 im_yX12_isState se_yX12_isState ini_X12 co_yX12_isState yo_yX12_isState c2 rfl rfl (Nat.le_of_ble_eq_true rfl) ⟨by decide, by decide, by decide, by decide⟩ (okX12_isState hw) (k_I fun r23 h23 hw => ?_)
      refine g_if_ne (tgt := 35) O dX12_glued_26 rfl (fun q26 => ?_) (fun q26 => ?_)
      · have hw := hw.1 q26
        refine g_aload_n O dX12_glued_35 rfl ?_
        refine g_aload_n O dX12_glued_36 rfl ?_
        refine gf_X12_isGlued O dX12_glued_37 fl_X12_100 c2 ?_
        refine g_iload_n O dX12_glued_40 rfl ?_
        refine g_iload_n O dX12_glued_41 rfl ?_
        refine g_iload_n O dX12_glued_42 rfl ?_
        refine g_callS (As := [vi x1, vi x2, vi x3]) (rest := [vr (gR h23 a0 48), vr a0]) O dX12_glued_43 ml_X12_382 st_yX12_pair ini_X12 co_yX12_pair yo_yX12_pair rfl rfl (Nat.le_of_ble_eq_true rfl) ⟨by decide, by decide, by decide, by decide⟩ (okX12_pair hw) (k_I fun r43 h43 hw => ?_)
        obtain ⟨c46, hw⟩ := hw
        refine g_zaload O dX12_glued_46 c46.1 c46.2 ?_
        refine g_if_eq (tgt := 54) O dX12_glued_47 rfl (fun q47 => ?_) (fun q47 => ?_)
        · have hw := hw.1 q47
          refine g_iconst O dX12_glued_54 kv_0 ?_
          refine g_callV (As := [vi (0 : Int32)]) (rest := []) O ci_12 rfl dX12_glued_55 ml_X12_365 im_yX12_good se_yX12_good ini_X12 co_yX12_good yo_yX12_good c2 rfl rfl (Nat.le_of_ble_eq_true rfl) ⟨by decide, by decide, by decide, by decide⟩ (okX12_good hw) (k_I fun r55 h55 hw => ?_)
          exact g_ireturn O dX12_glued_58 ⟨rfl, rfl, _, rfl, hw⟩
        · have hw := hw.2 q47
          refine g_iconst O dX12_glued_50 kv_1 ?_
          refine g_goto (tgt := 55) O dX12_glued_51 rfl ?_
          refine g_callV (As := [vi (1 : Int32)]) (rest := []) O ci_12 rfl dX12_glued_55 ml_X12_365 im_yX12_good se_yX12_good ini_X12 co_yX12_good yo_yX12_good c2 rfl rfl (Nat.le_of_ble_eq_true rfl) ⟨by decide, by decide, by decide, by decide⟩ (okX12_good hw) (k_I fun r55 h55 hw => ?_)
          exact g_ireturn O dX12_glued_58 ⟨rfl, rfl, _, rfl, hw⟩
      · have hw := hw.2 q26
        refine g_aload_n O dX12_glued_29 rfl ?_
        refine g_iconst O dX12_glued_30 kv_1 ?_
        refine g_callV (As := [vi (1 : Int32)]) (rest := []) O ci_12 rfl dX12_glued_31 ml_X12_350 im_yX12_refused se_yX12_refused ini_X12 co_yX12_refused yo_yX12_refused c2 rfl rfl (Nat.le_of_ble_eq_true rfl) ⟨by decide, by decide, by decide, by decide⟩ (okX12_refused hw) (k_I fun r31 h31 hw => ?_)
        exact g_ireturn O dX12_glued_34 ⟨rfl, rfl, _, rfl, hw⟩
theorem dX12_holdsAll_0 : decode cX12_holdsAll 0 = .ok (.iconst 0, 1) := by decide +kernel
theorem dX12_holdsAll_1 : decode cX12_holdsAll 1 = .ok (.istore 4, 2) := by decide +kernel
theorem dX12_holdsAll_3 : decode cX12_holdsAll 3 = .ok (.iload 4, 2) := by decide +kernel
theorem dX12_holdsAll_5 : decode cX12_holdsAll 5 = .ok (.aload_n 0, 1) := by decide +kernel
theorem dX12_holdsAll_6 : decode cX12_holdsAll 6 = .ok (.getfield 30, 3) := by decide +kernel
theorem dX12_holdsAll_9 : decode cX12_holdsAll 9 = .ok (.iload_n 1, 1) := by decide +kernel
theorem dX12_holdsAll_10 : decode cX12_holdsAll 10 = .ok (.iaload, 1) := by decide +kernel
theorem dX12_holdsAll_11 : decode cX12_holdsAll 11 = .ok (.if_icmp .ge 44, 3) := by decide +kernel
theorem dX12_holdsAll_14 : decode cX12_holdsAll 14 = .ok (.aload_n 0, 1) := by decide +kernel
theorem dX12_holdsAll_15 : decode cX12_holdsAll 15 = .ok (.iload_n 1, 1) := by decide +kernel
theorem dX12_holdsAll_16 : decode cX12_holdsAll 16 = .ok (.aload_n 0, 1) := by decide +kernel
theorem dX12_holdsAll_17 : decode cX12_holdsAll 17 = .ok (.getfield 54, 3) := by decide +kernel
theorem dX12_holdsAll_20 : decode cX12_holdsAll 20 = .ok (.iconst 4, 1) := by decide +kernel
theorem dX12_holdsAll_21 : decode cX12_holdsAll 21 = .ok (.iload_n 1, 1) := by decide +kernel
theorem dX12_holdsAll_22 : decode cX12_holdsAll 22 = .ok (.imul, 1) := by decide +kernel
theorem dX12_holdsAll_23 : decode cX12_holdsAll 23 = .ok (.iload 4, 2) := by decide +kernel
theorem dX12_holdsAll_25 : decode cX12_holdsAll 25 = .ok (.iadd, 1) := by decide +kernel
theorem dX12_holdsAll_26 : decode cX12_holdsAll 26 = .ok (.iaload, 1) := by decide +kernel
theorem dX12_holdsAll_27 : decode cX12_holdsAll 27 = .ok (.aload_n 0, 1) := by decide +kernel
theorem dX12_holdsAll_28 : decode cX12_holdsAll 28 = .ok (.getfield 57, 3) := by decide +kernel
theorem dX12_holdsAll_31 : decode cX12_holdsAll 31 = .ok (.iconst 4, 1) := by decide +kernel
theorem dX12_holdsAll_32 : decode cX12_holdsAll 32 = .ok (.iload_n 1, 1) := by decide +kernel
theorem dX12_holdsAll_33 : decode cX12_holdsAll 33 = .ok (.imul, 1) := by decide +kernel
theorem dX12_holdsAll_34 : decode cX12_holdsAll 34 = .ok (.iload 4, 2) := by decide +kernel
theorem dX12_holdsAll_36 : decode cX12_holdsAll 36 = .ok (.iadd, 1) := by decide +kernel
theorem dX12_holdsAll_37 : decode cX12_holdsAll 37 = .ok (.iaload, 1) := by decide +kernel
theorem dX12_holdsAll_38 : decode cX12_holdsAll 38 = .ok (.iload_n 2, 1) := by decide +kernel
theorem dX12_holdsAll_39 : decode cX12_holdsAll 39 = .ok (.iload_n 3, 1) := by decide +kernel
theorem dX12_holdsAll_40 : decode cX12_holdsAll 40 = .ok (.iconst 0, 1) := by decide +kernel
theorem dX12_holdsAll_41 : decode cX12_holdsAll 41 = .ok (.invokevirtual 375, 3) := by decide +kernel
theorem dX12_holdsAll_44 : decode cX12_holdsAll 44 = .ok (.ifCond .ne 5, 3) := by decide +kernel
theorem dX12_holdsAll_47 : decode cX12_holdsAll 47 = .ok (.iconst 0, 1) := by decide +kernel
theorem dX12_holdsAll_48 : decode cX12_holdsAll 48 = .ok (.ireturn, 1) := by decide +kernel
theorem dX12_holdsAll_49 : decode cX12_holdsAll 49 = .ok (.iinc 4 1, 3) := by decide +kernel
theorem dX12_holdsAll_52 : decode cX12_holdsAll 52 = .ok (.goto (-49), 3) := by decide +kernel
theorem dX12_holdsAll_55 : decode cX12_holdsAll 55 = .ok (.iconst 1, 1) := by decide +kernel
theorem dX12_holdsAll_56 : decode cX12_holdsAll 56 = .ok (.ireturn, 1) := by decide +kernel
theorem okX12_holdsAll_3 {E : Ev} {X : Cx} {S : Sh} {Z : Option Nat} {Q : Int32 → Hp → Prop} {a0 : Nat} {x1 : Int32} {x2 : Int32} {x3 : Int32} (O : Ok E X yX12_holdsAll cX12_holdsAll 5 (some .boolean) 3 80 0 0 (qI S Z Q)) : ∀ (n : Nat) (h : Hp) (x4 : Int32), wX12_holdsAll_3 S a0 x1 x2 x3 Q n h x4 → G E X 0 0 S Z h 3 [some (vr a0), some (vi x1), some (vi x2), some (vi x3), some (vi x4)] [] := by
  intro n
  induction n with
  | zero => intro h x4 hw; exact hw.elim
  | succ n hB3 =>
    intro h x4 hw
    have hw : wX12_holdsAll_3b S a0 x1 x2 x3 Q (wX12_holdsAll_3 S a0 x1 x2 x3 Q n) h x4 := hw
    unfold wX12_holdsAll_3b at hw
    refine g_iload O dX12_holdsAll_3 rfl ?_
    refine g_aload_n O dX12_holdsAll_5 rfl ?_
    obtain ⟨c6, hw⟩ := hw
    refine gf_X12_lawMany O dX12_holdsAll_6 fl_X12_30 c6 ?_
    refine g_iload_n O dX12_holdsAll_9 rfl ?_
    obtain ⟨c10, hw⟩ := hw
    refine g_iaload O dX12_holdsAll_10 c10.1 c10.2 ?_
    refine g_icmp_ge (tgt := 55) O dX12_holdsAll_11 rfl (fun q11 => ?_) (fun q11 => ?_)
    · have hw := hw.1 q11
      refine g_iconst O dX12_holdsAll_55 kv_1 ?_
      exact g_zreturn O dX12_holdsAll_56 (by decide) ⟨rfl, rfl, _, rfl, hw⟩
    · have hw := hw.2 q11
      refine g_aload_n O dX12_holdsAll_14 rfl ?_
      refine g_iload_n O dX12_holdsAll_15 rfl ?_
      refine g_aload_n O dX12_holdsAll_16 rfl ?_
      refine gf_X12_lawFrom O dX12_holdsAll_17 fl_X12_54 c6 ?_
      refine g_iconst O dX12_holdsAll_20 kv_4 ?_
      refine g_iload_n O dX12_holdsAll_21 rfl ?_
      refine g_imul O dX12_holdsAll_22 ?_
      refine g_iload O dX12_holdsAll_23 rfl ?_
      refine g_iadd O dX12_holdsAll_25 ?_
      obtain ⟨c26, hw⟩ := hw
      refine g_iaload O dX12_holdsAll_26 c26.1 c26.2 ?_
      refine g_aload_n O dX12_holdsAll_27 rfl ?_
      refine gf_X12_lawTo O dX12_holdsAll_28 fl_X12_57 c6 ?_
      refine g_iconst O dX12_holdsAll_31 kv_4 ?_
      refine g_iload_n O dX12_holdsAll_32 rfl ?_
      refine g_imul O dX12_holdsAll_33 ?_
      refine g_iload O dX12_holdsAll_34 rfl ?_
      refine g_iadd O dX12_holdsAll_36 ?_
      obtain ⟨c37, hw⟩ := hw
      refine g_iaload O dX12_holdsAll_37 c37.1 c37.2 ?_
      refine g_iload_n O dX12_holdsAll_38 rfl ?_
      refine g_iload_n O dX12_holdsAll_39 rfl ?_
      refine g_iconst O dX12_holdsAll_40 kv_0 ?_
      refine g_callV (As := [vi x1, vi ((gI h (gR h a0 26) (ix ((((4 : Int32) * x1) + x4))))), vi ((gI h (gR h a0 27) (ix ((((4 : Int32) * x1) + x4))))), vi x2, vi x3, vi (0 : Int32)]) (rest := []) O ci_12 rfl dX12_holdsAll_41 ml_X12_375 im_yX12_told se_yX12_told ini_X12 co_yX12_told yo_yX12_told c6 rfl rfl (Nat.le_of_ble_eq_true rfl) ⟨by decide, by decide, by decide, by decide⟩ (okX12_told hw) (k_I fun r41 h41 hw => ?_)
      refine g_if_ne (tgt := 49) O dX12_holdsAll_44 rfl (fun q44 => ?_) (fun q44 => ?_)
      · have hw := hw.1 q44
        refine g_iinc (lc' := [some (vr a0), some (vi x1), some (vi x2), some (vi x3), some (vi (x4 + (1 : Int32)))]) O dX12_holdsAll_49 rfl kv_1 rfl rfl ?_
        refine g_goto (tgt := 3) O dX12_holdsAll_52 rfl ?_
        exact hB3 _ _ hw
      · have hw := hw.2 q44
        refine g_iconst O dX12_holdsAll_47 kv_0 ?_
        exact g_zreturn O dX12_holdsAll_48 (by decide) ⟨rfl, rfl, _, rfl, hw⟩
theorem okX12_holdsAll {E : Ev} {S : Sh} {Z : Option Nat} {Q : Int32 → Hp → Prop} {h : Hp} {a0 : Nat} {x1 : Int32} {x2 : Int32} {x3 : Int32} (hw : wX12_holdsAll S h a0 x1 x2 x3 Q) : Ct E yX12_holdsAll cX12_holdsAll 5 (some .boolean) 3 80 0 0 S Z h [vr a0, vi x1, vi x2, vi x3] (qI S Z Q) := by
  refine Ct.of (by decide) (lc := [some (vr a0), some (vi x1), some (vi x2), some (vi x3), none]) (Nat.le_of_ble_eq_true rfl) rfl (fun X O => ?_)
  unfold wX12_holdsAll at hw
  refine g_iconst O dX12_holdsAll_0 kv_0 ?_
  refine g_istore (lc' := [some (vr a0), some (vi x1), some (vi x2), some (vi x3), some (vi (0 : Int32))]) O dX12_holdsAll_1 rfl (Nat.le_of_ble_eq_true rfl) rfl ?_
  obtain ⟨n3, hw⟩ := hw
  exact okX12_holdsAll_3 O n3 _ _ hw
theorem dX12_glues_0 : decode cX12_glues 0 = .ok (.iconst 0, 1) := by decide +kernel
theorem dX12_glues_1 : decode cX12_glues 1 = .ok (.istore_n 2, 1) := by decide +kernel
theorem dX12_glues_2 : decode cX12_glues 2 = .ok (.iload_n 2, 1) := by decide +kernel
theorem dX12_glues_3 : decode cX12_glues 3 = .ok (.aload_n 0, 1) := by decide +kernel
theorem dX12_glues_4 : decode cX12_glues 4 = .ok (.getfield 36, 3) := by decide +kernel
theorem dX12_glues_7 : decode cX12_glues 7 = .ok (.iload_n 1, 1) := by decide +kernel
theorem dX12_glues_8 : decode cX12_glues 8 = .ok (.iaload, 1) := by decide +kernel
theorem dX12_glues_9 : decode cX12_glues 9 = .ok (.if_icmp .ge 126, 3) := by decide +kernel
theorem dX12_glues_12 : decode cX12_glues 12 = .ok (.aload_n 0, 1) := by decide +kernel
theorem dX12_glues_13 : decode cX12_glues 13 = .ok (.getfield 97, 3) := by decide +kernel
theorem dX12_glues_16 : decode cX12_glues 16 = .ok (.bipush 100, 2) := by decide +kernel
theorem dX12_glues_18 : decode cX12_glues 18 = .ok (.iload_n 1, 1) := by decide +kernel
theorem dX12_glues_19 : decode cX12_glues 19 = .ok (.imul, 1) := by decide +kernel
theorem dX12_glues_20 : decode cX12_glues 20 = .ok (.iload_n 2, 1) := by decide +kernel
theorem dX12_glues_21 : decode cX12_glues 21 = .ok (.iadd, 1) := by decide +kernel
theorem dX12_glues_22 : decode cX12_glues 22 = .ok (.iload_n 1, 1) := by decide +kernel
theorem dX12_glues_23 : decode cX12_glues 23 = .ok (.ifCond .ne 17, 3) := by decide +kernel
theorem dX12_glues_26 : decode cX12_glues 26 = .ok (.aload_n 0, 1) := by decide +kernel
theorem dX12_glues_27 : decode cX12_glues 27 = .ok (.iconst 0, 1) := by decide +kernel
theorem dX12_glues_28 : decode cX12_glues 28 = .ok (.iconst 0, 1) := by decide +kernel
theorem dX12_glues_29 : decode cX12_glues 29 = .ok (.iload_n 2, 1) := by decide +kernel
theorem dX12_glues_30 : decode cX12_glues 30 = .ok (.invokevirtual 379, 3) := by decide +kernel
theorem dX12_glues_33 : decode cX12_glues 33 = .ok (.ifCond .eq 7, 3) := by decide +kernel
theorem dX12_glues_36 : decode cX12_glues 36 = .ok (.iconst 1, 1) := by decide +kernel
theorem dX12_glues_37 : decode cX12_glues 37 = .ok (.goto 4, 3) := by decide +kernel
theorem dX12_glues_40 : decode cX12_glues 40 = .ok (.iconst 0, 1) := by decide +kernel
theorem dX12_glues_41 : decode cX12_glues 41 = .ok (.bastore, 1) := by decide +kernel
theorem dX12_glues_42 : decode cX12_glues 42 = .ok (.iconst 0, 1) := by decide +kernel
theorem dX12_glues_43 : decode cX12_glues 43 = .ok (.istore_n 3, 1) := by decide +kernel
theorem dX12_glues_44 : decode cX12_glues 44 = .ok (.iload_n 1, 1) := by decide +kernel
theorem dX12_glues_45 : decode cX12_glues 45 = .ok (.ifCond .le 84, 3) := by decide +kernel
theorem dX12_glues_48 : decode cX12_glues 48 = .ok (.iload_n 3, 1) := by decide +kernel
theorem dX12_glues_49 : decode cX12_glues 49 = .ok (.aload_n 0, 1) := by decide +kernel
theorem dX12_glues_50 : decode cX12_glues 50 = .ok (.getfield 36, 3) := by decide +kernel
theorem dX12_glues_53 : decode cX12_glues 53 = .ok (.iload_n 1, 1) := by decide +kernel
theorem dX12_glues_54 : decode cX12_glues 54 = .ok (.iconst 1, 1) := by decide +kernel
theorem dX12_glues_55 : decode cX12_glues 55 = .ok (.isub, 1) := by decide +kernel
theorem dX12_glues_56 : decode cX12_glues 56 = .ok (.iaload, 1) := by decide +kernel
theorem dX12_glues_57 : decode cX12_glues 57 = .ok (.if_icmp .ge 72, 3) := by decide +kernel
theorem dX12_glues_60 : decode cX12_glues 60 = .ok (.aload_n 0, 1) := by decide +kernel
theorem dX12_glues_61 : decode cX12_glues 61 = .ok (.getfield 97, 3) := by decide +kernel
theorem dX12_glues_64 : decode cX12_glues 64 = .ok (.bipush 100, 2) := by decide +kernel
theorem dX12_glues_66 : decode cX12_glues 66 = .ok (.iload_n 1, 1) := by decide +kernel
theorem dX12_glues_67 : decode cX12_glues 67 = .ok (.iconst 1, 1) := by decide +kernel
theorem dX12_glues_68 : decode cX12_glues 68 = .ok (.isub, 1) := by decide +kernel
theorem dX12_glues_69 : decode cX12_glues 69 = .ok (.imul, 1) := by decide +kernel
theorem dX12_glues_70 : decode cX12_glues 70 = .ok (.iload_n 3, 1) := by decide +kernel
theorem dX12_glues_71 : decode cX12_glues 71 = .ok (.iadd, 1) := by decide +kernel
theorem dX12_glues_72 : decode cX12_glues 72 = .ok (.baload, 1) := by decide +kernel
theorem dX12_glues_73 : decode cX12_glues 73 = .ok (.ifCond .eq 17, 3) := by decide +kernel
theorem dX12_glues_76 : decode cX12_glues 76 = .ok (.aload_n 0, 1) := by decide +kernel
theorem dX12_glues_77 : decode cX12_glues 77 = .ok (.iload_n 1, 1) := by decide +kernel
theorem dX12_glues_78 : decode cX12_glues 78 = .ok (.iload_n 3, 1) := by decide +kernel
theorem dX12_glues_79 : decode cX12_glues 79 = .ok (.iload_n 2, 1) := by decide +kernel
theorem dX12_glues_80 : decode cX12_glues 80 = .ok (.invokevirtual 379, 3) := by decide +kernel
theorem dX12_glues_83 : decode cX12_glues 83 = .ok (.ifCond .eq 7, 3) := by decide +kernel
theorem dX12_glues_86 : decode cX12_glues 86 = .ok (.iconst 1, 1) := by decide +kernel
theorem dX12_glues_87 : decode cX12_glues 87 = .ok (.goto 4, 3) := by decide +kernel
theorem dX12_glues_90 : decode cX12_glues 90 = .ok (.iconst 0, 1) := by decide +kernel
theorem dX12_glues_91 : decode cX12_glues 91 = .ok (.istore 4, 2) := by decide +kernel
theorem dX12_glues_93 : decode cX12_glues 93 = .ok (.aload_n 0, 1) := by decide +kernel
theorem dX12_glues_94 : decode cX12_glues 94 = .ok (.getfield 100, 3) := by decide +kernel
theorem dX12_glues_97 : decode cX12_glues 97 = .ok (.iload_n 1, 1) := by decide +kernel
theorem dX12_glues_98 : decode cX12_glues 98 = .ok (.iload_n 3, 1) := by decide +kernel
theorem dX12_glues_99 : decode cX12_glues 99 = .ok (.iload_n 2, 1) := by decide +kernel
theorem dX12_glues_100 : decode cX12_glues 100 = .ok (.invokestatic 382, 3) := by decide +kernel
theorem dX12_glues_103 : decode cX12_glues 103 = .ok (.iload 4, 2) := by decide +kernel
theorem dX12_glues_105 : decode cX12_glues 105 = .ok (.bastore, 1) := by decide +kernel
theorem dX12_glues_106 : decode cX12_glues 106 = .ok (.iload 4, 2) := by decide +kernel
theorem dX12_glues_108 : decode cX12_glues 108 = .ok (.ifCond .eq 15, 3) := by decide +kernel
theorem dX12_glues_111 : decode cX12_glues 111 = .ok (.aload_n 0, 1) := by decide +kernel
theorem dX12_glues_112 : decode cX12_glues 112 = .ok (.getfield 97, 3) := by decide +kernel
theorem dX12_glues_115 : decode cX12_glues 115 = .ok (.bipush 100, 2) := by decide +kernel
theorem dX12_glues_117 : decode cX12_glues 117 = .ok (.iload_n 1, 1) := by decide +kernel
theorem dX12_glues_118 : decode cX12_glues 118 = .ok (.imul, 1) := by decide +kernel
theorem dX12_glues_119 : decode cX12_glues 119 = .ok (.iload_n 2, 1) := by decide +kernel
theorem dX12_glues_120 : decode cX12_glues 120 = .ok (.iadd, 1) := by decide +kernel
theorem dX12_glues_121 : decode cX12_glues 121 = .ok (.iconst 1, 1) := by decide +kernel
theorem dX12_glues_122 : decode cX12_glues 122 = .ok (.bastore, 1) := by decide +kernel
theorem dX12_glues_123 : decode cX12_glues 123 = .ok (.iinc 3 1, 3) := by decide +kernel
theorem dX12_glues_126 : decode cX12_glues 126 = .ok (.goto (-82), 3) := by decide +kernel
theorem dX12_glues_129 : decode cX12_glues 129 = .ok (.iinc 2 1, 3) := by decide +kernel
theorem dX12_glues_132 : decode cX12_glues 132 = .ok (.goto (-130), 3) := by decide +kernel
theorem dX12_glues_135 : decode cX12_glues 135 = .ok (.return_, 1) := by decide +kernel
theorem okX12_glues_j91 {E : Ev} {X : Cx} {S : Sh} {Z : Option Nat} {Q : Hp → Prop} {B2 : Hp → Int32 → Prop} {B44 : Hp → Int32 → Prop} {h : Hp} {a0 : Nat} {x1 : Int32} {x2 : Int32} {x3 : Int32} {s0 : Int32} (O : Ok E X yX12_glues cX12_glues 5 none 4 104 0 0 (qV S Z Q)) (hB2 : ∀ (h : Hp) (x2 : Int32), B2 h x2 → G E X 0 0 S Z h 2 [some (vr a0), some (vi x1), some (vi x2), none, none] []) (hB44 : ∀ (h : Hp) (x3 : Int32), B44 h x3 → G E X 0 0 S Z h 44 [some (vr a0), some (vi x1), some (vi x2), some (vi x3), none] []) (hw : wX12_glues_j91 S B2 B44 h a0 x1 x2 x3 s0 Q) : G E X 0 0 S Z h 91 [some (vr a0), some (vi x1), some (vi x2), some (vi x3), none] [vi s0] := by
  unfold wX12_glues_j91 at hw
  refine g_istore (lc' := [some (vr a0), some (vi x1), some (vi x2), some (vi x3), some (vi s0)]) O dX12_glues_91 rfl (Nat.le_of_ble_eq_true rfl) rfl ?_
  refine g_aload_n O dX12_glues_93 rfl ?_
  obtain ⟨c94, hw⟩ := hw
  refine gf_X12_isGlued O dX12_glues_94 fl_X12_100 c94 ?_
  refine g_iload_n O dX12_glues_97 rfl ?_
  refine g_iload_n O dX12_glues_98 rfl ?_
  refine g_iload_n O dX12_glues_99 rfl ?_
  refine g_callS (As := [vi x1, vi x3, vi x2]) (rest := [vr (gR h a0 48)]) O dX12_glues_100 ml_X12_382 st_yX12_pair ini_X12 co_yX12_pair yo_yX12_pair rfl rfl (Nat.le_of_ble_eq_true rfl) ⟨by decide, by decide, by decide, by decide⟩ (okX12_pair hw) (k_I fun r100 h100 hw => ?_)
  refine g_iload O dX12_glues_103 rfl ?_
  obtain ⟨c105, hw⟩ := hw
  refine g_zastore O dX12_glues_105 c105.1 c105.2 ?_
  refine g_nmH (fun h105 e105 => ?_)
  have hw := hw h105 e105
  refine g_iload O dX12_glues_106 rfl ?_
  refine g_if_eq (tgt := 123) O dX12_glues_108 rfl (fun q108 => ?_) (fun q108 => ?_)
  · have hw := hw.1 q108
    refine g_iinc (lc' := [some (vr a0), some (vi x1), some (vi x2), some (vi (x3 + (1 : Int32))), some (vi s0)]) O dX12_glues_123 rfl kv_1 rfl rfl ?_
    refine g_goto (tgt := 44) O dX12_glues_126 rfl ?_
    refine g_mask [true, true, true, true, false] rfl rfl ?_
    exact hB44 _ _ hw
  · have hw := hw.2 q108
    refine g_aload_n O dX12_glues_111 rfl ?_
    refine gf_X12_isSound O dX12_glues_112 fl_X12_97 c94 ?_
    refine g_bipush O dX12_glues_115 kb_100 ?_
    refine g_iload_n O dX12_glues_117 rfl ?_
    refine g_imul O dX12_glues_118 ?_
    refine g_iload_n O dX12_glues_119 rfl ?_
    refine g_iadd O dX12_glues_120 ?_
    refine g_iconst O dX12_glues_121 kv_1 ?_
    obtain ⟨c122, hw⟩ := hw
    refine g_zastore O dX12_glues_122 c122.1 c122.2 ?_
    refine g_iinc (lc' := [some (vr a0), some (vi x1), some (vi x2), some (vi (x3 + (1 : Int32))), some (vi s0)]) O dX12_glues_123 rfl kv_1 rfl rfl ?_
    refine g_goto (tgt := 44) O dX12_glues_126 rfl ?_
    refine g_mask [true, true, true, true, false] rfl rfl ?_
    exact hB44 _ _ hw
theorem okX12_glues_j90 {E : Ev} {X : Cx} {S : Sh} {Z : Option Nat} {Q : Hp → Prop} {B2 : Hp → Int32 → Prop} {B44 : Hp → Int32 → Prop} {h : Hp} {a0 : Nat} {x1 : Int32} {x2 : Int32} {x3 : Int32} (O : Ok E X yX12_glues cX12_glues 5 none 4 104 0 0 (qV S Z Q)) (hB2 : ∀ (h : Hp) (x2 : Int32), B2 h x2 → G E X 0 0 S Z h 2 [some (vr a0), some (vi x1), some (vi x2), none, none] []) (hB44 : ∀ (h : Hp) (x3 : Int32), B44 h x3 → G E X 0 0 S Z h 44 [some (vr a0), some (vi x1), some (vi x2), some (vi x3), none] []) (hw : wX12_glues_j90 S B2 B44 h a0 x1 x2 x3 Q) : G E X 0 0 S Z h 90 [some (vr a0), some (vi x1), some (vi x2), some (vi x3), none] [] := by
  unfold wX12_glues_j90 at hw
  refine g_iconst O dX12_glues_90 kv_0 ?_
  exact okX12_glues_j91 O hB2 hB44 hw
theorem okX12_glues_44 {E : Ev} {X : Cx} {S : Sh} {Z : Option Nat} {Q : Hp → Prop} {B2 : Hp → Int32 → Prop} {a0 : Nat} {x1 : Int32} {x2 : Int32} (O : Ok E X yX12_glues cX12_glues 5 none 4 104 0 0 (qV S Z Q)) (hB2 : ∀ (h : Hp) (x2 : Int32), B2 h x2 → G E X 0 0 S Z h 2 [some (vr a0), some (vi x1), some (vi x2), none, none] []) : ∀ (n : Nat) (h : Hp) (x3 : Int32), wX12_glues_44 S B2 a0 x1 x2 Q n h x3 → G E X 0 0 S Z h 44 [some (vr a0), some (vi x1), some (vi x2), some (vi x3), none] [] := by
  intro n
  induction n with
  | zero => intro h x3 hw; exact hw.elim
  | succ n hB44 =>
    intro h x3 hw
    have hw : wX12_glues_44b S B2 a0 x1 x2 Q (wX12_glues_44 S B2 a0 x1 x2 Q n) h x3 := hw
    unfold wX12_glues_44b at hw
    refine g_iload_n O dX12_glues_44 rfl ?_
    refine g_if_le (tgt := 129) O dX12_glues_45 rfl (fun q45 => ?_) (fun q45 => ?_)
    · have hw := hw.1 q45
      refine g_iinc (lc' := [some (vr a0), some (vi x1), some (vi (x2 + (1 : Int32))), some (vi x3), none]) O dX12_glues_129 rfl kv_1 rfl rfl ?_
      refine g_goto (tgt := 2) O dX12_glues_132 rfl ?_
      refine g_mask [true, true, true, false, false] rfl rfl ?_
      exact hB2 _ _ hw
    · have hw := hw.2 q45
      refine g_iload_n O dX12_glues_48 rfl ?_
      refine g_aload_n O dX12_glues_49 rfl ?_
      obtain ⟨c50, hw⟩ := hw
      refine gf_X12_sizes O dX12_glues_50 fl_X12_36 c50 ?_
      refine g_iload_n O dX12_glues_53 rfl ?_
      refine g_iconst O dX12_glues_54 kv_1 ?_
      refine g_isub O dX12_glues_55 ?_
      obtain ⟨c56, hw⟩ := hw
      refine g_iaload O dX12_glues_56 c56.1 c56.2 ?_
      refine g_icmp_ge (tgt := 129) O dX12_glues_57 rfl (fun q57 => ?_) (fun q57 => ?_)
      · have hw := hw.1 q57
        refine g_iinc (lc' := [some (vr a0), some (vi x1), some (vi (x2 + (1 : Int32))), some (vi x3), none]) O dX12_glues_129 rfl kv_1 rfl rfl ?_
        refine g_goto (tgt := 2) O dX12_glues_132 rfl ?_
        refine g_mask [true, true, true, false, false] rfl rfl ?_
        exact hB2 _ _ hw
      · have hw := hw.2 q57
        refine g_aload_n O dX12_glues_60 rfl ?_
        refine gf_X12_isSound O dX12_glues_61 fl_X12_97 c50 ?_
        refine g_bipush O dX12_glues_64 kb_100 ?_
        refine g_iload_n O dX12_glues_66 rfl ?_
        refine g_iconst O dX12_glues_67 kv_1 ?_
        refine g_isub O dX12_glues_68 ?_
        refine g_imul O dX12_glues_69 ?_
        refine g_iload_n O dX12_glues_70 rfl ?_
        refine g_iadd O dX12_glues_71 ?_
        obtain ⟨c72, hw⟩ := hw
        refine g_zaload O dX12_glues_72 c72.1 c72.2 ?_
        refine g_if_eq (tgt := 90) O dX12_glues_73 rfl (fun q73 => ?_) (fun q73 => ?_)
        · have hw := hw.1 q73
          exact okX12_glues_j90 O hB2 hB44 hw
        · have hw := hw.2 q73
          refine g_aload_n O dX12_glues_76 rfl ?_
          refine g_iload_n O dX12_glues_77 rfl ?_
          refine g_iload_n O dX12_glues_78 rfl ?_
          refine g_iload_n O dX12_glues_79 rfl ?_
          refine g_callV (As := [vi x1, vi x3, vi x2]) (rest := []) O ci_12 rfl dX12_glues_80 ml_X12_379 im_yX12_holdsAll se_yX12_holdsAll ini_X12 co_yX12_holdsAll yo_yX12_holdsAll c50 rfl rfl (Nat.le_of_ble_eq_true rfl) ⟨by decide, by decide, by decide, by decide⟩ (okX12_holdsAll hw) (k_I fun r80 h80 hw => ?_)
          refine g_if_eq (tgt := 90) O dX12_glues_83 rfl (fun q83 => ?_) (fun q83 => ?_)
          · have hw := hw.1 q83
            exact okX12_glues_j90 O hB2 hB44 hw
          · have hw := hw.2 q83
            refine g_iconst O dX12_glues_86 kv_1 ?_
            refine g_goto (tgt := 91) O dX12_glues_87 rfl ?_
            exact okX12_glues_j91 O hB2 hB44 hw
theorem okX12_glues_j41 {E : Ev} {X : Cx} {S : Sh} {Z : Option Nat} {Q : Hp → Prop} {B2 : Hp → Int32 → Prop} {h : Hp} {a0 : Nat} {x1 : Int32} {x2 : Int32} {s0 : Nat} {s1 : Int32} {s2 : Int32} (O : Ok E X yX12_glues cX12_glues 5 none 4 104 0 0 (qV S Z Q)) (hB2 : ∀ (h : Hp) (x2 : Int32), B2 h x2 → G E X 0 0 S Z h 2 [some (vr a0), some (vi x1), some (vi x2), none, none] []) (hw : wX12_glues_j41 S B2 h a0 x1 x2 s0 s1 s2 Q) : G E X 0 0 S Z h 41 [some (vr a0), some (vi x1), some (vi x2), none, none] [vi s2, vi s1, vr s0] := by
  unfold wX12_glues_j41 at hw
  obtain ⟨c41, hw⟩ := hw
  refine g_zastore O dX12_glues_41 c41.1 c41.2 ?_
  refine g_iconst O dX12_glues_42 kv_0 ?_
  refine g_istore_n (lc' := [some (vr a0), some (vi x1), some (vi x2), some (vi (0 : Int32)), none]) O dX12_glues_43 rfl (Nat.le_of_ble_eq_true rfl) rfl ?_
  obtain ⟨n44, hw⟩ := hw
  exact okX12_glues_44 O hB2 n44 _ _ hw
theorem okX12_glues_j40 {E : Ev} {X : Cx} {S : Sh} {Z : Option Nat} {Q : Hp → Prop} {B2 : Hp → Int32 → Prop} {h : Hp} {a0 : Nat} {x1 : Int32} {x2 : Int32} {s0 : Nat} {s1 : Int32} (O : Ok E X yX12_glues cX12_glues 5 none 4 104 0 0 (qV S Z Q)) (hB2 : ∀ (h : Hp) (x2 : Int32), B2 h x2 → G E X 0 0 S Z h 2 [some (vr a0), some (vi x1), some (vi x2), none, none] []) (hw : wX12_glues_j40 S B2 h a0 x1 x2 s0 s1 Q) : G E X 0 0 S Z h 40 [some (vr a0), some (vi x1), some (vi x2), none, none] [vi s1, vr s0] := by
  unfold wX12_glues_j40 at hw
  refine g_iconst O dX12_glues_40 kv_0 ?_
  exact okX12_glues_j41 O hB2 hw
theorem okX12_glues_2 {E : Ev} {X : Cx} {S : Sh} {Z : Option Nat} {Q : Hp → Prop} {a0 : Nat} {x1 : Int32} (O : Ok E X yX12_glues cX12_glues 5 none 4 104 0 0 (qV S Z Q)) : ∀ (n : Nat) (h : Hp) (x2 : Int32), wX12_glues_2 S a0 x1 Q n h x2 → G E X 0 0 S Z h 2 [some (vr a0), some (vi x1), some (vi x2), none, none] [] := by
  intro n
  induction n with
  | zero => intro h x2 hw; exact hw.elim
  | succ n hB2 =>
    intro h x2 hw
    have hw : wX12_glues_2b S a0 x1 Q (wX12_glues_2 S a0 x1 Q n) h x2 := hw
    unfold wX12_glues_2b at hw
    refine g_iload_n O dX12_glues_2 rfl ?_
    refine g_aload_n O dX12_glues_3 rfl ?_
    obtain ⟨c4, hw⟩ := hw
    refine gf_X12_sizes O dX12_glues_4 fl_X12_36 c4 ?_
    refine g_iload_n O dX12_glues_7 rfl ?_
    obtain ⟨c8, hw⟩ := hw
    refine g_iaload O dX12_glues_8 c8.1 c8.2 ?_
    refine g_icmp_ge (tgt := 135) O dX12_glues_9 rfl (fun q9 => ?_) (fun q9 => ?_)
    · have hw := hw.1 q9
      exact g_return O dX12_glues_135 ⟨rfl, rfl, rfl, hw⟩
    · have hw := hw.2 q9
      refine g_aload_n O dX12_glues_12 rfl ?_
      refine gf_X12_isSound O dX12_glues_13 fl_X12_97 c4 ?_
      refine g_bipush O dX12_glues_16 kb_100 ?_
      refine g_iload_n O dX12_glues_18 rfl ?_
      refine g_imul O dX12_glues_19 ?_
      refine g_iload_n O dX12_glues_20 rfl ?_
      refine g_iadd O dX12_glues_21 ?_
      refine g_iload_n O dX12_glues_22 rfl ?_
      refine g_if_ne (tgt := 40) O dX12_glues_23 rfl (fun q23 => ?_) (fun q23 => ?_)
      · have hw := hw.1 q23
        exact okX12_glues_j40 O hB2 hw
      · have hw := hw.2 q23
        refine g_aload_n O dX12_glues_26 rfl ?_
        refine g_iconst O dX12_glues_27 kv_0 ?_
        refine g_iconst O dX12_glues_28 kv_0 ?_
        refine g_iload_n O dX12_glues_29 rfl ?_
        refine g_callV (As := [vi (0 : Int32), vi (0 : Int32), vi x2]) (rest := [vi ((((100 : Int32) * x1) + x2)), vr (gR h a0 47)]) O ci_12 rfl dX12_glues_30 ml_X12_379 im_yX12_holdsAll se_yX12_holdsAll ini_X12 co_yX12_holdsAll yo_yX12_holdsAll c4 rfl rfl (Nat.le_of_ble_eq_true rfl) ⟨by decide, by decide, by decide, by decide⟩ (okX12_holdsAll hw) (k_I fun r30 h30 hw => ?_)
        refine g_if_eq (tgt := 40) O dX12_glues_33 rfl (fun q33 => ?_) (fun q33 => ?_)
        · have hw := hw.1 q33
          exact okX12_glues_j40 O hB2 hw
        · have hw := hw.2 q33
          refine g_iconst O dX12_glues_36 kv_1 ?_
          refine g_goto (tgt := 41) O dX12_glues_37 rfl ?_
          exact okX12_glues_j41 O hB2 hw
theorem okX12_glues {E : Ev} {S : Sh} {Z : Option Nat} {Q : Hp → Prop} {h : Hp} {a0 : Nat} {x1 : Int32} (hw : wX12_glues S h a0 x1 Q) : Ct E yX12_glues cX12_glues 5 none 4 104 0 0 S Z h [vr a0, vi x1] (qV S Z Q) := by
  refine Ct.of (by decide) (lc := [some (vr a0), some (vi x1), none, none, none]) (Nat.le_of_ble_eq_true rfl) rfl (fun X O => ?_)
  unfold wX12_glues at hw
  refine g_iconst O dX12_glues_0 kv_0 ?_
  refine g_istore_n (lc' := [some (vr a0), some (vi x1), some (vi (0 : Int32)), none, none]) O dX12_glues_1 rfl (Nat.le_of_ble_eq_true rfl) rfl ?_
  obtain ⟨n2, hw⟩ := hw
  exact okX12_glues_2 O n2 _ _ hw
theorem dX12_isDigitAt_0 : decode cX12_isDigitAt 0 = .ok (.iload_n 1, 1) := by decide +kernel
theorem dX12_isDigitAt_1 : decode cX12_isDigitAt 1 = .ok (.aload_n 0, 1) := by decide +kernel
theorem dX12_isDigitAt_2 : decode cX12_isDigitAt 2 = .ok (.getfield 139, 3) := by decide +kernel
theorem dX12_isDigitAt_5 : decode cX12_isDigitAt 5 = .ok (.if_icmp .ge 23, 3) := by decide +kernel
theorem dX12_isDigitAt_8 : decode cX12_isDigitAt 8 = .ok (.aload_n 0, 1) := by decide +kernel
theorem dX12_isDigitAt_9 : decode cX12_isDigitAt 9 = .ok (.getfield 13, 3) := by decide +kernel
theorem dX12_isDigitAt_12 : decode cX12_isDigitAt 12 = .ok (.iload_n 1, 1) := by decide +kernel
theorem dX12_isDigitAt_13 : decode cX12_isDigitAt 13 = .ok (.iaload, 1) := by decide +kernel
theorem dX12_isDigitAt_14 : decode cX12_isDigitAt 14 = .ok (.bipush 48, 2) := by decide +kernel
theorem dX12_isDigitAt_16 : decode cX12_isDigitAt 16 = .ok (.bipush 57, 2) := by decide +kernel
theorem dX12_isDigitAt_18 : decode cX12_isDigitAt 18 = .ok (.invokestatic 142, 3) := by decide +kernel
theorem dX12_isDigitAt_21 : decode cX12_isDigitAt 21 = .ok (.ifCond .eq 7, 3) := by decide +kernel
theorem dX12_isDigitAt_24 : decode cX12_isDigitAt 24 = .ok (.iconst 1, 1) := by decide +kernel
theorem dX12_isDigitAt_25 : decode cX12_isDigitAt 25 = .ok (.goto 4, 3) := by decide +kernel
theorem dX12_isDigitAt_28 : decode cX12_isDigitAt 28 = .ok (.iconst 0, 1) := by decide +kernel
theorem dX12_isDigitAt_29 : decode cX12_isDigitAt 29 = .ok (.ireturn, 1) := by decide +kernel
theorem okX12_isDigitAt {E : Ev} {S : Sh} {Z : Option Nat} {Q : Int32 → Hp → Prop} {h : Hp} {a0 : Nat} {x1 : Int32} (hw : wX12_isDigitAt S h a0 x1 Q) : Ct E yX12_isDigitAt cX12_isDigitAt 2 (some .boolean) 2 46 0 0 S Z h [vr a0, vi x1] (qI S Z Q) := by
  refine Ct.of (by decide) (lc := [some (vr a0), some (vi x1)]) (Nat.le_of_ble_eq_true rfl) rfl (fun X O => ?_)
  unfold wX12_isDigitAt at hw
  refine g_iload_n O dX12_isDigitAt_0 rfl ?_
  refine g_aload_n O dX12_isDigitAt_1 rfl ?_
  obtain ⟨c2, hw⟩ := hw
  refine gf_X12_size O dX12_isDigitAt_2 fl_X12_139 c2 ?_
  refine g_icmp_ge (tgt := 28) O dX12_isDigitAt_5 rfl (fun q5 => ?_) (fun q5 => ?_)
  · have hw := hw.1 q5
    refine g_iconst O dX12_isDigitAt_28 kv_0 ?_
    exact g_zreturn O dX12_isDigitAt_29 (by decide) ⟨rfl, rfl, _, rfl, hw⟩
  · have hw := hw.2 q5
    refine g_aload_n O dX12_isDigitAt_8 rfl ?_
    refine gf_X12_tape O dX12_isDigitAt_9 fl_X12_13 c2 ?_
    refine g_iload_n O dX12_isDigitAt_12 rfl ?_
    obtain ⟨c13, hw⟩ := hw
    refine g_iaload O dX12_isDigitAt_13 c13.1 c13.2 ?_
    refine g_bipush O dX12_isDigitAt_14 kb_48 ?_
    refine g_bipush O dX12_isDigitAt_16 kb_57 ?_
    refine g_callS (As := [vi ((gI h (gR h a0 3) (ix x1))), vi (48 : Int32), vi (57 : Int32)]) (rest := []) O dX12_isDigitAt_18 ml_X12_142 st_yX12_in ini_X12 co_yX12_in yo_yX12_in rfl rfl (Nat.le_of_ble_eq_true rfl) ⟨by decide, by decide, by decide, by decide⟩ (okX12_in hw) (k_I fun r18 h18 hw => ?_)
    refine g_if_eq (tgt := 28) O dX12_isDigitAt_21 rfl (fun q21 => ?_) (fun q21 => ?_)
    · have hw := hw.1 q21
      refine g_iconst O dX12_isDigitAt_28 kv_0 ?_
      exact g_zreturn O dX12_isDigitAt_29 (by decide) ⟨rfl, rfl, _, rfl, hw⟩
    · have hw := hw.2 q21
      refine g_iconst O dX12_isDigitAt_24 kv_1 ?_
      refine g_goto (tgt := 29) O dX12_isDigitAt_25 rfl ?_
      exact g_zreturn O dX12_isDigitAt_29 (by decide) ⟨rfl, rfl, _, rfl, hw⟩
theorem dX12_isLetterAt_0 : decode cX12_isLetterAt 0 = .ok (.iload_n 1, 1) := by decide +kernel
theorem dX12_isLetterAt_1 : decode cX12_isLetterAt 1 = .ok (.aload_n 0, 1) := by decide +kernel
theorem dX12_isLetterAt_2 : decode cX12_isLetterAt 2 = .ok (.getfield 139, 3) := by decide +kernel
theorem dX12_isLetterAt_5 : decode cX12_isLetterAt 5 = .ok (.if_icmp .ge 23, 3) := by decide +kernel
theorem dX12_isLetterAt_8 : decode cX12_isLetterAt 8 = .ok (.aload_n 0, 1) := by decide +kernel
theorem dX12_isLetterAt_9 : decode cX12_isLetterAt 9 = .ok (.getfield 13, 3) := by decide +kernel
theorem dX12_isLetterAt_12 : decode cX12_isLetterAt 12 = .ok (.iload_n 1, 1) := by decide +kernel
theorem dX12_isLetterAt_13 : decode cX12_isLetterAt 13 = .ok (.iaload, 1) := by decide +kernel
theorem dX12_isLetterAt_14 : decode cX12_isLetterAt 14 = .ok (.bipush 97, 2) := by decide +kernel
theorem dX12_isLetterAt_16 : decode cX12_isLetterAt 16 = .ok (.bipush 122, 2) := by decide +kernel
theorem dX12_isLetterAt_18 : decode cX12_isLetterAt 18 = .ok (.invokestatic 142, 3) := by decide +kernel
theorem dX12_isLetterAt_21 : decode cX12_isLetterAt 21 = .ok (.ifCond .eq 7, 3) := by decide +kernel
theorem dX12_isLetterAt_24 : decode cX12_isLetterAt 24 = .ok (.iconst 1, 1) := by decide +kernel
theorem dX12_isLetterAt_25 : decode cX12_isLetterAt 25 = .ok (.goto 4, 3) := by decide +kernel
theorem dX12_isLetterAt_28 : decode cX12_isLetterAt 28 = .ok (.iconst 0, 1) := by decide +kernel
theorem dX12_isLetterAt_29 : decode cX12_isLetterAt 29 = .ok (.ireturn, 1) := by decide +kernel
theorem okX12_isLetterAt {E : Ev} {S : Sh} {Z : Option Nat} {Q : Int32 → Hp → Prop} {h : Hp} {a0 : Nat} {x1 : Int32} (hw : wX12_isLetterAt S h a0 x1 Q) : Ct E yX12_isLetterAt cX12_isLetterAt 2 (some .boolean) 2 46 0 0 S Z h [vr a0, vi x1] (qI S Z Q) := by
  refine Ct.of (by decide) (lc := [some (vr a0), some (vi x1)]) (Nat.le_of_ble_eq_true rfl) rfl (fun X O => ?_)
  unfold wX12_isLetterAt at hw
  refine g_iload_n O dX12_isLetterAt_0 rfl ?_
  refine g_aload_n O dX12_isLetterAt_1 rfl ?_
  obtain ⟨c2, hw⟩ := hw
  refine gf_X12_size O dX12_isLetterAt_2 fl_X12_139 c2 ?_
  refine g_icmp_ge (tgt := 28) O dX12_isLetterAt_5 rfl (fun q5 => ?_) (fun q5 => ?_)
  · have hw := hw.1 q5
    refine g_iconst O dX12_isLetterAt_28 kv_0 ?_
    exact g_zreturn O dX12_isLetterAt_29 (by decide) ⟨rfl, rfl, _, rfl, hw⟩
  · have hw := hw.2 q5
    refine g_aload_n O dX12_isLetterAt_8 rfl ?_
    refine gf_X12_tape O dX12_isLetterAt_9 fl_X12_13 c2 ?_
    refine g_iload_n O dX12_isLetterAt_12 rfl ?_
    obtain ⟨c13, hw⟩ := hw
    refine g_iaload O dX12_isLetterAt_13 c13.1 c13.2 ?_
    refine g_bipush O dX12_isLetterAt_14 kb_97 ?_
    refine g_bipush O dX12_isLetterAt_16 kb_122 ?_
    refine g_callS (As := [vi ((gI h (gR h a0 3) (ix x1))), vi (97 : Int32), vi (122 : Int32)]) (rest := []) O dX12_isLetterAt_18 ml_X12_142 st_yX12_in ini_X12 co_yX12_in yo_yX12_in rfl rfl (Nat.le_of_ble_eq_true rfl) ⟨by decide, by decide, by decide, by decide⟩ (okX12_in hw) (k_I fun r18 h18 hw => ?_)
    refine g_if_eq (tgt := 28) O dX12_isLetterAt_21 rfl (fun q21 => ?_) (fun q21 => ?_)
    · have hw := hw.1 q21
      refine g_iconst O dX12_isLetterAt_28 kv_0 ?_
      exact g_zreturn O dX12_isLetterAt_29 (by decide) ⟨rfl, rfl, _, rfl, hw⟩
    · have hw := hw.2 q21
      refine g_iconst O dX12_isLetterAt_24 kv_1 ?_
      refine g_goto (tgt := 29) O dX12_isLetterAt_25 rfl ?_
      exact g_zreturn O dX12_isLetterAt_29 (by decide) ⟨rfl, rfl, _, rfl, hw⟩
theorem dX12_isSignOf_0 : decode cX12_isSignOf 0 = .ok (.iload_n 0, 1) := by decide +kernel
theorem dX12_isSignOf_1 : decode cX12_isSignOf 1 = .ok (.bipush 59, 2) := by decide +kernel
theorem dX12_isSignOf_3 : decode cX12_isSignOf 3 = .ok (.if_icmp .eq 69, 3) := by decide +kernel
theorem dX12_isSignOf_6 : decode cX12_isSignOf 6 = .ok (.iload_n 0, 1) := by decide +kernel
theorem dX12_isSignOf_7 : decode cX12_isSignOf 7 = .ok (.bipush 44, 2) := by decide +kernel
theorem dX12_isSignOf_9 : decode cX12_isSignOf 9 = .ok (.if_icmp .eq 63, 3) := by decide +kernel
theorem dX12_isSignOf_12 : decode cX12_isSignOf 12 = .ok (.iload_n 0, 1) := by decide +kernel
theorem dX12_isSignOf_13 : decode cX12_isSignOf 13 = .ok (.bipush 61, 2) := by decide +kernel
theorem dX12_isSignOf_15 : decode cX12_isSignOf 15 = .ok (.if_icmp .eq 57, 3) := by decide +kernel
theorem dX12_isSignOf_18 : decode cX12_isSignOf 18 = .ok (.iload_n 0, 1) := by decide +kernel
theorem dX12_isSignOf_19 : decode cX12_isSignOf 19 = .ok (.bipush 60, 2) := by decide +kernel
theorem dX12_isSignOf_21 : decode cX12_isSignOf 21 = .ok (.if_icmp .eq 51, 3) := by decide +kernel
theorem dX12_isSignOf_24 : decode cX12_isSignOf 24 = .ok (.iload_n 0, 1) := by decide +kernel
theorem dX12_isSignOf_25 : decode cX12_isSignOf 25 = .ok (.bipush 62, 2) := by decide +kernel
theorem dX12_isSignOf_27 : decode cX12_isSignOf 27 = .ok (.if_icmp .eq 45, 3) := by decide +kernel
theorem dX12_isSignOf_30 : decode cX12_isSignOf 30 = .ok (.iload_n 0, 1) := by decide +kernel
theorem dX12_isSignOf_31 : decode cX12_isSignOf 31 = .ok (.bipush 43, 2) := by decide +kernel
theorem dX12_isSignOf_33 : decode cX12_isSignOf 33 = .ok (.if_icmp .eq 39, 3) := by decide +kernel
theorem dX12_isSignOf_36 : decode cX12_isSignOf 36 = .ok (.iload_n 0, 1) := by decide +kernel
theorem dX12_isSignOf_37 : decode cX12_isSignOf 37 = .ok (.bipush 45, 2) := by decide +kernel
theorem dX12_isSignOf_39 : decode cX12_isSignOf 39 = .ok (.if_icmp .eq 33, 3) := by decide +kernel
theorem dX12_isSignOf_42 : decode cX12_isSignOf 42 = .ok (.iload_n 0, 1) := by decide +kernel
theorem dX12_isSignOf_43 : decode cX12_isSignOf 43 = .ok (.bipush 42, 2) := by decide +kernel
theorem dX12_isSignOf_45 : decode cX12_isSignOf 45 = .ok (.if_icmp .eq 27, 3) := by decide +kernel
theorem dX12_isSignOf_48 : decode cX12_isSignOf 48 = .ok (.iload_n 0, 1) := by decide +kernel
theorem dX12_isSignOf_49 : decode cX12_isSignOf 49 = .ok (.bipush 40, 2) := by decide +kernel
theorem dX12_isSignOf_51 : decode cX12_isSignOf 51 = .ok (.if_icmp .eq 21, 3) := by decide +kernel
theorem dX12_isSignOf_54 : decode cX12_isSignOf 54 = .ok (.iload_n 0, 1) := by decide +kernel
theorem dX12_isSignOf_55 : decode cX12_isSignOf 55 = .ok (.bipush 41, 2) := by decide +kernel
theorem dX12_isSignOf_57 : decode cX12_isSignOf 57 = .ok (.if_icmp .eq 15, 3) := by decide +kernel
theorem dX12_isSignOf_60 : decode cX12_isSignOf 60 = .ok (.iload_n 0, 1) := by decide +kernel
theorem dX12_isSignOf_61 : decode cX12_isSignOf 61 = .ok (.bipush 91, 2) := by decide +kernel
theorem dX12_isSignOf_63 : decode cX12_isSignOf 63 = .ok (.if_icmp .eq 9, 3) := by decide +kernel
theorem dX12_isSignOf_66 : decode cX12_isSignOf 66 = .ok (.iload_n 0, 1) := by decide +kernel
theorem dX12_isSignOf_67 : decode cX12_isSignOf 67 = .ok (.bipush 93, 2) := by decide +kernel
theorem dX12_isSignOf_69 : decode cX12_isSignOf 69 = .ok (.if_icmp .ne 7, 3) := by decide +kernel
theorem dX12_isSignOf_72 : decode cX12_isSignOf 72 = .ok (.iconst 1, 1) := by decide +kernel
theorem dX12_isSignOf_73 : decode cX12_isSignOf 73 = .ok (.goto 4, 3) := by decide +kernel
theorem dX12_isSignOf_76 : decode cX12_isSignOf 76 = .ok (.iconst 0, 1) := by decide +kernel
theorem dX12_isSignOf_77 : decode cX12_isSignOf 77 = .ok (.ireturn, 1) := by decide +kernel
theorem okX12_isSignOf_j72 {E : Ev} {X : Cx} {S : Sh} {Z : Option Nat} {Q : Int32 → Hp → Prop} {h : Hp} (O : Ok E X yX12_isSignOf cX12_isSignOf 1 (some .boolean) 1 24 0 0 (qI S Z Q)) (hw : wX12_isSignOf_j72 S h Q) : G E X 0 0 S Z h 72 [none] [] := by
  unfold wX12_isSignOf_j72 at hw
  refine g_iconst O dX12_isSignOf_72 kv_1 ?_
  refine g_goto (tgt := 77) O dX12_isSignOf_73 rfl ?_
  exact g_zreturn O dX12_isSignOf_77 (by decide) ⟨rfl, rfl, _, rfl, hw⟩
theorem okX12_isSignOf {E : Ev} {S : Sh} {Z : Option Nat} {Q : Int32 → Hp → Prop} {h : Hp} {x0 : Int32} (hw : wX12_isSignOf S h x0 Q) : Ct E yX12_isSignOf cX12_isSignOf 1 (some .boolean) 1 24 0 0 S Z h [vi x0] (qI S Z Q) := by
  refine Ct.of (by decide) (lc := [some (vi x0)]) (Nat.le_of_ble_eq_true rfl) rfl (fun X O => ?_)
  unfold wX12_isSignOf at hw
  refine g_iload_n O dX12_isSignOf_0 rfl ?_
  refine g_bipush O dX12_isSignOf_1 kb_59 ?_
  refine g_icmp_eq (tgt := 72) O dX12_isSignOf_3 rfl (fun q3 => ?_) (fun q3 => ?_)
  · have hw := hw.1 q3
    refine g_mask [false] rfl rfl ?_
    exact okX12_isSignOf_j72 O hw
  · have hw := hw.2 q3
    refine g_iload_n O dX12_isSignOf_6 rfl ?_
    refine g_bipush O dX12_isSignOf_7 kb_44 ?_
    refine g_icmp_eq (tgt := 72) O dX12_isSignOf_9 rfl (fun q9 => ?_) (fun q9 => ?_)
    · have hw := hw.1 q9
      refine g_mask [false] rfl rfl ?_
      exact okX12_isSignOf_j72 O hw
    · have hw := hw.2 q9
      refine g_iload_n O dX12_isSignOf_12 rfl ?_
      refine g_bipush O dX12_isSignOf_13 kb_61 ?_
      refine g_icmp_eq (tgt := 72) O dX12_isSignOf_15 rfl (fun q15 => ?_) (fun q15 => ?_)
      · have hw := hw.1 q15
        refine g_mask [false] rfl rfl ?_
        exact okX12_isSignOf_j72 O hw
      · have hw := hw.2 q15
        refine g_iload_n O dX12_isSignOf_18 rfl ?_
        refine g_bipush O dX12_isSignOf_19 kb_60 ?_
        refine g_icmp_eq (tgt := 72) O dX12_isSignOf_21 rfl (fun q21 => ?_) (fun q21 => ?_)
        · have hw := hw.1 q21
          refine g_mask [false] rfl rfl ?_
          exact okX12_isSignOf_j72 O hw
        · have hw := hw.2 q21
          refine g_iload_n O dX12_isSignOf_24 rfl ?_
          refine g_bipush O dX12_isSignOf_25 kb_62 ?_
          refine g_icmp_eq (tgt := 72) O dX12_isSignOf_27 rfl (fun q27 => ?_) (fun q27 => ?_)
          · have hw := hw.1 q27
            refine g_mask [false] rfl rfl ?_
            exact okX12_isSignOf_j72 O hw
          · have hw := hw.2 q27
            refine g_iload_n O dX12_isSignOf_30 rfl ?_
            refine g_bipush O dX12_isSignOf_31 kb_43 ?_
            refine g_icmp_eq (tgt := 72) O dX12_isSignOf_33 rfl (fun q33 => ?_) (fun q33 => ?_)
            · have hw := hw.1 q33
              refine g_mask [false] rfl rfl ?_
              exact okX12_isSignOf_j72 O hw
            · have hw := hw.2 q33
              refine g_iload_n O dX12_isSignOf_36 rfl ?_
              refine g_bipush O dX12_isSignOf_37 kb_45 ?_
              refine g_icmp_eq (tgt := 72) O dX12_isSignOf_39 rfl (fun q39 => ?_) (fun q39 => ?_)
              · have hw := hw.1 q39
                refine g_mask [false] rfl rfl ?_
                exact okX12_isSignOf_j72 O hw
              · have hw := hw.2 q39
                refine g_iload_n O dX12_isSignOf_42 rfl ?_
                refine g_bipush O dX12_isSignOf_43 kb_42 ?_
                refine g_icmp_eq (tgt := 72) O dX12_isSignOf_45 rfl (fun q45 => ?_) (fun q45 => ?_)
                · have hw := hw.1 q45
                  refine g_mask [false] rfl rfl ?_
                  exact okX12_isSignOf_j72 O hw
                · have hw := hw.2 q45
                  refine g_iload_n O dX12_isSignOf_48 rfl ?_
                  refine g_bipush O dX12_isSignOf_49 kb_40 ?_
                  refine g_icmp_eq (tgt := 72) O dX12_isSignOf_51 rfl (fun q51 => ?_) (fun q51 => ?_)
                  · have hw := hw.1 q51
                    refine g_mask [false] rfl rfl ?_
                    exact okX12_isSignOf_j72 O hw
                  · have hw := hw.2 q51
                    refine g_iload_n O dX12_isSignOf_54 rfl ?_
                    refine g_bipush O dX12_isSignOf_55 kb_41 ?_
                    refine g_icmp_eq (tgt := 72) O dX12_isSignOf_57 rfl (fun q57 => ?_) (fun q57 => ?_)
                    · have hw := hw.1 q57
                      refine g_mask [false] rfl rfl ?_
                      exact okX12_isSignOf_j72 O hw
                    · have hw := hw.2 q57
                      refine g_iload_n O dX12_isSignOf_60 rfl ?_
                      refine g_bipush O dX12_isSignOf_61 kb_91 ?_
                      refine g_icmp_eq (tgt := 72) O dX12_isSignOf_63 rfl (fun q63 => ?_) (fun q63 => ?_)
                      · have hw := hw.1 q63
                        refine g_mask [false] rfl rfl ?_
                        exact okX12_isSignOf_j72 O hw
                      · have hw := hw.2 q63
                        refine g_iload_n O dX12_isSignOf_66 rfl ?_
                        refine g_bipush O dX12_isSignOf_67 kb_93 ?_
                        refine g_icmp_ne (tgt := 76) O dX12_isSignOf_69 rfl (fun q69 => ?_) (fun q69 => ?_)
                        · have hw := hw.1 q69
                          refine g_iconst O dX12_isSignOf_76 kv_0 ?_
                          exact g_zreturn O dX12_isSignOf_77 (by decide) ⟨rfl, rfl, _, rfl, hw⟩
                        · have hw := hw.2 q69
                          refine g_mask [false] rfl rfl ?_
                          exact okX12_isSignOf_j72 O hw
theorem dX12_goOn_0 : decode cX12_goOn 0 = .ok (.aload_n 0, 1) := by decide +kernel
theorem dX12_goOn_1 : decode cX12_goOn 1 = .ok (.getfield 130, 3) := by decide +kernel
theorem dX12_goOn_4 : decode cX12_goOn 4 = .ok (.ifCond .le 4, 3) := by decide +kernel
theorem dX12_goOn_7 : decode cX12_goOn 7 = .ok (.return_, 1) := by decide +kernel
theorem dX12_goOn_8 : decode cX12_goOn 8 = .ok (.aload_n 0, 1) := by decide +kernel
theorem dX12_goOn_9 : decode cX12_goOn 9 = .ok (.getfield 146, 3) := by decide +kernel
theorem dX12_goOn_12 : decode cX12_goOn 12 = .ok (.aload_n 0, 1) := by decide +kernel
theorem dX12_goOn_13 : decode cX12_goOn 13 = .ok (.getfield 139, 3) := by decide +kernel
theorem dX12_goOn_16 : decode cX12_goOn 16 = .ok (.if_icmp .ge 30, 3) := by decide +kernel
theorem dX12_goOn_19 : decode cX12_goOn 19 = .ok (.aload_n 0, 1) := by decide +kernel
theorem dX12_goOn_20 : decode cX12_goOn 20 = .ok (.getfield 13, 3) := by decide +kernel
theorem dX12_goOn_23 : decode cX12_goOn 23 = .ok (.aload_n 0, 1) := by decide +kernel
theorem dX12_goOn_24 : decode cX12_goOn 24 = .ok (.getfield 146, 3) := by decide +kernel
theorem dX12_goOn_27 : decode cX12_goOn 27 = .ok (.iaload, 1) := by decide +kernel
theorem dX12_goOn_28 : decode cX12_goOn 28 = .ok (.bipush 32, 2) := by decide +kernel
theorem dX12_goOn_30 : decode cX12_goOn 30 = .ok (.if_icmp .ne 16, 3) := by decide +kernel
theorem dX12_goOn_33 : decode cX12_goOn 33 = .ok (.aload_n 0, 1) := by decide +kernel
theorem dX12_goOn_34 : decode cX12_goOn 34 = .ok (.dup, 1) := by decide +kernel
theorem dX12_goOn_35 : decode cX12_goOn 35 = .ok (.getfield 146, 3) := by decide +kernel
theorem dX12_goOn_38 : decode cX12_goOn 38 = .ok (.iconst 1, 1) := by decide +kernel
theorem dX12_goOn_39 : decode cX12_goOn 39 = .ok (.iadd, 1) := by decide +kernel
theorem dX12_goOn_40 : decode cX12_goOn 40 = .ok (.putfield 146, 3) := by decide +kernel
theorem dX12_goOn_43 : decode cX12_goOn 43 = .ok (.goto (-35), 3) := by decide +kernel
theorem dX12_goOn_46 : decode cX12_goOn 46 = .ok (.aload_n 0, 1) := by decide +kernel
theorem dX12_goOn_47 : decode cX12_goOn 47 = .ok (.aload_n 0, 1) := by decide +kernel
theorem dX12_goOn_48 : decode cX12_goOn 48 = .ok (.getfield 146, 3) := by decide +kernel
theorem dX12_goOn_51 : decode cX12_goOn 51 = .ok (.putfield 133, 3) := by decide +kernel
theorem dX12_goOn_54 : decode cX12_goOn 54 = .ok (.aload_n 0, 1) := by decide +kernel
theorem dX12_goOn_55 : decode cX12_goOn 55 = .ok (.getfield 146, 3) := by decide +kernel
theorem dX12_goOn_58 : decode cX12_goOn 58 = .ok (.aload_n 0, 1) := by decide +kernel
theorem dX12_goOn_59 : decode cX12_goOn 59 = .ok (.getfield 139, 3) := by decide +kernel
theorem dX12_goOn_62 : decode cX12_goOn 62 = .ok (.if_icmp .ne 11, 3) := by decide +kernel
theorem dX12_goOn_65 : decode cX12_goOn 65 = .ok (.aload_n 0, 1) := by decide +kernel
theorem dX12_goOn_66 : decode cX12_goOn 66 = .ok (.iconst 1, 1) := by decide +kernel
theorem dX12_goOn_67 : decode cX12_goOn 67 = .ok (.putfield 149, 3) := by decide +kernel
theorem dX12_goOn_70 : decode cX12_goOn 70 = .ok (.goto 256, 3) := by decide +kernel
theorem dX12_goOn_73 : decode cX12_goOn 73 = .ok (.aload_n 0, 1) := by decide +kernel
theorem dX12_goOn_74 : decode cX12_goOn 74 = .ok (.aload_n 0, 1) := by decide +kernel
theorem dX12_goOn_75 : decode cX12_goOn 75 = .ok (.getfield 146, 3) := by decide +kernel
theorem dX12_goOn_78 : decode cX12_goOn 78 = .ok (.invokevirtual 152, 3) := by decide +kernel
theorem dX12_goOn_81 : decode cX12_goOn 81 = .ok (.ifCond .eq 101, 3) := by decide +kernel
theorem dX12_goOn_84 : decode cX12_goOn 84 = .ok (.aload_n 0, 1) := by decide +kernel
theorem dX12_goOn_85 : decode cX12_goOn 85 = .ok (.lconst 0, 1) := by decide +kernel
theorem dX12_goOn_86 : decode cX12_goOn 86 = .ok (.putfield 156, 3) := by decide +kernel
theorem dX12_goOn_89 : decode cX12_goOn 89 = .ok (.aload_n 0, 1) := by decide +kernel
theorem dX12_goOn_90 : decode cX12_goOn 90 = .ok (.aload_n 0, 1) := by decide +kernel
theorem dX12_goOn_91 : decode cX12_goOn 91 = .ok (.getfield 146, 3) := by decide +kernel
theorem dX12_goOn_94 : decode cX12_goOn 94 = .ok (.invokevirtual 152, 3) := by decide +kernel
theorem dX12_goOn_97 : decode cX12_goOn 97 = .ok (.ifCond .eq 59, 3) := by decide +kernel
theorem dX12_goOn_100 : decode cX12_goOn 100 = .ok (.aload_n 0, 1) := by decide +kernel
theorem dX12_goOn_101 : decode cX12_goOn 101 = .ok (.getfield 146, 3) := by decide +kernel
theorem dX12_goOn_104 : decode cX12_goOn 104 = .ok (.aload_n 0, 1) := by decide +kernel
theorem dX12_goOn_105 : decode cX12_goOn 105 = .ok (.getfield 133, 3) := by decide +kernel
theorem dX12_goOn_108 : decode cX12_goOn 108 = .ok (.isub, 1) := by decide +kernel
theorem dX12_goOn_109 : decode cX12_goOn 109 = .ok (.bipush 7, 2) := by decide +kernel
theorem dX12_goOn_111 : decode cX12_goOn 111 = .ok (.if_icmp .ge 32, 3) := by decide +kernel
theorem dX12_goOn_114 : decode cX12_goOn 114 = .ok (.aload_n 0, 1) := by decide +kernel
theorem dX12_goOn_115 : decode cX12_goOn 115 = .ok (.aload_n 0, 1) := by decide +kernel
theorem dX12_goOn_116 : decode cX12_goOn 116 = .ok (.getfield 156, 3) := by decide +kernel
theorem dX12_goOn_119 : decode cX12_goOn 119 = .ok (.ldc2_w 160, 3) := by decide +kernel
theorem dX12_goOn_122 : decode cX12_goOn 122 = .ok (.lmul, 1) := by decide +kernel
theorem dX12_goOn_123 : decode cX12_goOn 123 = .ok (.aload_n 0, 1) := by decide +kernel
theorem dX12_goOn_124 : decode cX12_goOn 124 = .ok (.getfield 13, 3) := by decide +kernel
theorem dX12_goOn_127 : decode cX12_goOn 127 = .ok (.aload_n 0, 1) := by decide +kernel
theorem dX12_goOn_128 : decode cX12_goOn 128 = .ok (.getfield 146, 3) := by decide +kernel
theorem dX12_goOn_131 : decode cX12_goOn 131 = .ok (.iaload, 1) := by decide +kernel
theorem dX12_goOn_132 : decode cX12_goOn 132 = .ok (.i2l, 1) := by decide +kernel
theorem dX12_goOn_133 : decode cX12_goOn 133 = .ok (.ladd, 1) := by decide +kernel
theorem dX12_goOn_134 : decode cX12_goOn 134 = .ok (.ldc2_w 162, 3) := by decide +kernel
theorem dX12_goOn_137 : decode cX12_goOn 137 = .ok (.lsub, 1) := by decide +kernel
theorem dX12_goOn_138 : decode cX12_goOn 138 = .ok (.lconst 1, 1) := by decide +kernel
theorem dX12_goOn_139 : decode cX12_goOn 139 = .ok (.ladd, 1) := by decide +kernel
theorem dX12_goOn_140 : decode cX12_goOn 140 = .ok (.putfield 156, 3) := by decide +kernel
theorem dX12_goOn_143 : decode cX12_goOn 143 = .ok (.aload_n 0, 1) := by decide +kernel
theorem dX12_goOn_144 : decode cX12_goOn 144 = .ok (.dup, 1) := by decide +kernel
theorem dX12_goOn_145 : decode cX12_goOn 145 = .ok (.getfield 146, 3) := by decide +kernel
theorem dX12_goOn_148 : decode cX12_goOn 148 = .ok (.iconst 1, 1) := by decide +kernel
theorem dX12_goOn_149 : decode cX12_goOn 149 = .ok (.iadd, 1) := by decide +kernel
theorem dX12_goOn_150 : decode cX12_goOn 150 = .ok (.putfield 146, 3) := by decide +kernel
theorem dX12_goOn_153 : decode cX12_goOn 153 = .ok (.goto (-64), 3) := by decide +kernel
theorem dX12_goOn_156 : decode cX12_goOn 156 = .ok (.aload_n 0, 1) := by decide +kernel
theorem dX12_goOn_157 : decode cX12_goOn 157 = .ok (.aload_n 0, 1) := by decide +kernel
theorem dX12_goOn_158 : decode cX12_goOn 158 = .ok (.getfield 146, 3) := by decide +kernel
theorem dX12_goOn_161 : decode cX12_goOn 161 = .ok (.aload_n 0, 1) := by decide +kernel
theorem dX12_goOn_162 : decode cX12_goOn 162 = .ok (.getfield 133, 3) := by decide +kernel
theorem dX12_goOn_165 : decode cX12_goOn 165 = .ok (.isub, 1) := by decide +kernel
theorem dX12_goOn_166 : decode cX12_goOn 166 = .ok (.bipush 7, 2) := by decide +kernel
theorem dX12_goOn_168 : decode cX12_goOn 168 = .ok (.if_icmp .le 7, 3) := by decide +kernel
theorem dX12_goOn_171 : decode cX12_goOn 171 = .ok (.iconst 0, 1) := by decide +kernel
theorem dX12_goOn_172 : decode cX12_goOn 172 = .ok (.goto 4, 3) := by decide +kernel
theorem dX12_goOn_175 : decode cX12_goOn 175 = .ok (.iconst 2, 1) := by decide +kernel
theorem dX12_goOn_176 : decode cX12_goOn 176 = .ok (.putfield 149, 3) := by decide +kernel
theorem dX12_goOn_179 : decode cX12_goOn 179 = .ok (.goto 147, 3) := by decide +kernel
theorem dX12_goOn_182 : decode cX12_goOn 182 = .ok (.aload_n 0, 1) := by decide +kernel
theorem dX12_goOn_183 : decode cX12_goOn 183 = .ok (.aload_n 0, 1) := by decide +kernel
theorem dX12_goOn_184 : decode cX12_goOn 184 = .ok (.getfield 146, 3) := by decide +kernel
theorem dX12_goOn_187 : decode cX12_goOn 187 = .ok (.invokevirtual 164, 3) := by decide +kernel
theorem dX12_goOn_190 : decode cX12_goOn 190 = .ok (.ifCond .eq 94, 3) := by decide +kernel
theorem dX12_goOn_193 : decode cX12_goOn 193 = .ok (.aload_n 0, 1) := by decide +kernel
theorem dX12_goOn_194 : decode cX12_goOn 194 = .ok (.iconst 0, 1) := by decide +kernel
theorem dX12_goOn_195 : decode cX12_goOn 195 = .ok (.putfield 167, 3) := by decide +kernel
theorem dX12_goOn_198 : decode cX12_goOn 198 = .ok (.aload_n 0, 1) := by decide +kernel
theorem dX12_goOn_199 : decode cX12_goOn 199 = .ok (.aload_n 0, 1) := by decide +kernel
theorem dX12_goOn_200 : decode cX12_goOn 200 = .ok (.getfield 146, 3) := by decide +kernel
theorem dX12_goOn_203 : decode cX12_goOn 203 = .ok (.invokevirtual 164, 3) := by decide +kernel
theorem dX12_goOn_206 : decode cX12_goOn 206 = .ok (.ifCond .eq 53, 3) := by decide +kernel
theorem dX12_goOn_209 : decode cX12_goOn 209 = .ok (.aload_n 0, 1) := by decide +kernel
theorem dX12_goOn_210 : decode cX12_goOn 210 = .ok (.getfield 146, 3) := by decide +kernel
theorem dX12_goOn_213 : decode cX12_goOn 213 = .ok (.aload_n 0, 1) := by decide +kernel
theorem dX12_goOn_214 : decode cX12_goOn 214 = .ok (.getfield 133, 3) := by decide +kernel
theorem dX12_goOn_217 : decode cX12_goOn 217 = .ok (.isub, 1) := by decide +kernel
theorem dX12_goOn_218 : decode cX12_goOn 218 = .ok (.iconst 3, 1) := by decide +kernel
theorem dX12_goOn_219 : decode cX12_goOn 219 = .ok (.if_icmp .ge 27, 3) := by decide +kernel
theorem dX12_goOn_222 : decode cX12_goOn 222 = .ok (.aload_n 0, 1) := by decide +kernel
theorem dX12_goOn_223 : decode cX12_goOn 223 = .ok (.bipush 10, 2) := by decide +kernel
theorem dX12_goOn_225 : decode cX12_goOn 225 = .ok (.aload_n 0, 1) := by decide +kernel
theorem dX12_goOn_226 : decode cX12_goOn 226 = .ok (.getfield 167, 3) := by decide +kernel
theorem dX12_goOn_229 : decode cX12_goOn 229 = .ok (.imul, 1) := by decide +kernel
theorem dX12_goOn_230 : decode cX12_goOn 230 = .ok (.aload_n 0, 1) := by decide +kernel
theorem dX12_goOn_231 : decode cX12_goOn 231 = .ok (.getfield 13, 3) := by decide +kernel
theorem dX12_goOn_234 : decode cX12_goOn 234 = .ok (.aload_n 0, 1) := by decide +kernel
theorem dX12_goOn_235 : decode cX12_goOn 235 = .ok (.getfield 146, 3) := by decide +kernel
theorem dX12_goOn_238 : decode cX12_goOn 238 = .ok (.iaload, 1) := by decide +kernel
theorem dX12_goOn_239 : decode cX12_goOn 239 = .ok (.iadd, 1) := by decide +kernel
theorem dX12_goOn_240 : decode cX12_goOn 240 = .ok (.bipush 48, 2) := by decide +kernel
theorem dX12_goOn_242 : decode cX12_goOn 242 = .ok (.isub, 1) := by decide +kernel
theorem dX12_goOn_243 : decode cX12_goOn 243 = .ok (.putfield 167, 3) := by decide +kernel
theorem dX12_goOn_246 : decode cX12_goOn 246 = .ok (.aload_n 0, 1) := by decide +kernel
theorem dX12_goOn_247 : decode cX12_goOn 247 = .ok (.dup, 1) := by decide +kernel
theorem dX12_goOn_248 : decode cX12_goOn 248 = .ok (.getfield 146, 3) := by decide +kernel
theorem dX12_goOn_251 : decode cX12_goOn 251 = .ok (.iconst 1, 1) := by decide +kernel
theorem dX12_goOn_252 : decode cX12_goOn 252 = .ok (.iadd, 1) := by decide +kernel
theorem dX12_goOn_253 : decode cX12_goOn 253 = .ok (.putfield 146, 3) := by decide +kernel
theorem dX12_goOn_256 : decode cX12_goOn 256 = .ok (.goto (-58), 3) := by decide +kernel
theorem dX12_goOn_259 : decode cX12_goOn 259 = .ok (.aload_n 0, 1) := by decide +kernel
theorem dX12_goOn_260 : decode cX12_goOn 260 = .ok (.aload_n 0, 1) := by decide +kernel
theorem dX12_goOn_261 : decode cX12_goOn 261 = .ok (.getfield 146, 3) := by decide +kernel
theorem dX12_goOn_264 : decode cX12_goOn 264 = .ok (.aload_n 0, 1) := by decide +kernel
theorem dX12_goOn_265 : decode cX12_goOn 265 = .ok (.getfield 133, 3) := by decide +kernel
theorem dX12_goOn_268 : decode cX12_goOn 268 = .ok (.isub, 1) := by decide +kernel
theorem dX12_goOn_269 : decode cX12_goOn 269 = .ok (.iconst 3, 1) := by decide +kernel
theorem dX12_goOn_270 : decode cX12_goOn 270 = .ok (.if_icmp .le 7, 3) := by decide +kernel
theorem dX12_goOn_273 : decode cX12_goOn 273 = .ok (.iconst 0, 1) := by decide +kernel
theorem dX12_goOn_274 : decode cX12_goOn 274 = .ok (.goto 4, 3) := by decide +kernel
theorem dX12_goOn_277 : decode cX12_goOn 277 = .ok (.iconst 3, 1) := by decide +kernel
theorem dX12_goOn_278 : decode cX12_goOn 278 = .ok (.putfield 149, 3) := by decide +kernel
theorem dX12_goOn_281 : decode cX12_goOn 281 = .ok (.goto 45, 3) := by decide +kernel
theorem dX12_goOn_284 : decode cX12_goOn 284 = .ok (.aload_n 0, 1) := by decide +kernel
theorem dX12_goOn_285 : decode cX12_goOn 285 = .ok (.aload_n 0, 1) := by decide +kernel
theorem dX12_goOn_286 : decode cX12_goOn 286 = .ok (.getfield 13, 3) := by decide +kernel
theorem dX12_goOn_289 : decode cX12_goOn 289 = .ok (.aload_n 0, 1) := by decide +kernel
theorem dX12_goOn_290 : decode cX12_goOn 290 = .ok (.getfield 146, 3) := by decide +kernel
theorem dX12_goOn_293 : decode cX12_goOn 293 = .ok (.iaload, 1) := by decide +kernel
theorem dX12_goOn_294 : decode cX12_goOn 294 = .ok (.putfield 170, 3) := by decide +kernel
theorem dX12_goOn_297 : decode cX12_goOn 297 = .ok (.aload_n 0, 1) := by decide +kernel
theorem dX12_goOn_298 : decode cX12_goOn 298 = .ok (.aload_n 0, 1) := by decide +kernel
theorem dX12_goOn_299 : decode cX12_goOn 299 = .ok (.getfield 170, 3) := by decide +kernel
theorem dX12_goOn_302 : decode cX12_goOn 302 = .ok (.invokestatic 173, 3) := by decide +kernel
theorem dX12_goOn_305 : decode cX12_goOn 305 = .ok (.ifCond .eq 7, 3) := by decide +kernel
theorem dX12_goOn_308 : decode cX12_goOn 308 = .ok (.iconst 4, 1) := by decide +kernel
theorem dX12_goOn_309 : decode cX12_goOn 309 = .ok (.goto 4, 3) := by decide +kernel
theorem dX12_goOn_312 : decode cX12_goOn 312 = .ok (.iconst 0, 1) := by decide +kernel
theorem dX12_goOn_313 : decode cX12_goOn 313 = .ok (.putfield 149, 3) := by decide +kernel
theorem dX12_goOn_316 : decode cX12_goOn 316 = .ok (.aload_n 0, 1) := by decide +kernel
theorem dX12_goOn_317 : decode cX12_goOn 317 = .ok (.dup, 1) := by decide +kernel
theorem dX12_goOn_318 : decode cX12_goOn 318 = .ok (.getfield 146, 3) := by decide +kernel
theorem dX12_goOn_321 : decode cX12_goOn 321 = .ok (.iconst 1, 1) := by decide +kernel
theorem dX12_goOn_322 : decode cX12_goOn 322 = .ok (.iadd, 1) := by decide +kernel
theorem dX12_goOn_323 : decode cX12_goOn 323 = .ok (.putfield 146, 3) := by decide +kernel
theorem dX12_goOn_326 : decode cX12_goOn 326 = .ok (.return_, 1) := by decide +kernel
theorem okX12_goOn_j278 {E : Ev} {X : Cx} {S : Sh} {Z : Option Nat} {Q : Hp → Prop} {h : Hp} {s0 : Nat} {s1 : Int32} (O : Ok E X yX12_goOn cX12_goOn 1 none 3 67 0 0 (qV S Z Q)) (hw : wX12_goOn_j278 S h s0 s1 Q) : G E X 0 0 S Z h 278 [none] [vi s1, vr s0] := by
  unfold wX12_goOn_j278 at hw
  obtain ⟨c278, hw⟩ := hw
  refine pf_X12_token O dX12_goOn_278 fl_X12_149 c278 ?_
  refine g_goto (tgt := 326) O dX12_goOn_281 rfl ?_
  exact g_return O dX12_goOn_326 ⟨rfl, rfl, rfl, hw⟩
theorem okX12_goOn_j259 {E : Ev} {X : Cx} {S : Sh} {Z : Option Nat} {Q : Hp → Prop} {h : Hp} {a0 : Nat} (O : Ok E X yX12_goOn cX12_goOn 1 none 3 67 0 0 (qV S Z Q)) (hw : wX12_goOn_j259 S h a0 Q) : G E X 0 0 S Z h 259 [some (vr a0)] [] := by
  unfold wX12_goOn_j259 at hw
  refine g_aload_n O dX12_goOn_259 rfl ?_
  refine g_aload_n O dX12_goOn_260 rfl ?_
  obtain ⟨c261, hw⟩ := hw
  refine gf_X12_spot O dX12_goOn_261 fl_X12_146 c261 ?_
  refine g_aload_n O dX12_goOn_264 rfl ?_
  refine gf_X12_at O dX12_goOn_265 fl_X12_133 c261 ?_
  refine g_isub O dX12_goOn_268 ?_
  refine g_iconst O dX12_goOn_269 kv_3 ?_
  refine g_icmp_le (tgt := 277) O dX12_goOn_270 rfl (fun q270 => ?_) (fun q270 => ?_)
  · have hw := hw.1 q270
    refine g_iconst O dX12_goOn_277 kv_3 ?_
    refine g_mask [false] rfl rfl ?_
    exact okX12_goOn_j278 O hw
  · have hw := hw.2 q270
    refine g_iconst O dX12_goOn_273 kv_0 ?_
    refine g_goto (tgt := 278) O dX12_goOn_274 rfl ?_
    refine g_mask [false] rfl rfl ?_
    exact okX12_goOn_j278 O hw
theorem okX12_goOn_j246 {E : Ev} {X : Cx} {S : Sh} {Z : Option Nat} {Q : Hp → Prop} {B198 : Hp → Prop} {h : Hp} {a0 : Nat} (O : Ok E X yX12_goOn cX12_goOn 1 none 3 67 0 0 (qV S Z Q)) (hB198 : ∀ (h : Hp), B198 h → G E X 0 0 S Z h 198 [some (vr a0)] []) (hw : wX12_goOn_j246 S B198 h a0 Q) : G E X 0 0 S Z h 246 [some (vr a0)] [] := by
  unfold wX12_goOn_j246 at hw
  refine g_aload_n O dX12_goOn_246 rfl ?_
  refine g_dup O dX12_goOn_247 rfl ?_
  obtain ⟨c248, hw⟩ := hw
  refine gf_X12_spot O dX12_goOn_248 fl_X12_146 c248 ?_
  refine g_iconst O dX12_goOn_251 kv_1 ?_
  refine g_iadd O dX12_goOn_252 ?_
  refine pf_X12_spot O dX12_goOn_253 fl_X12_146 c248 ?_
  refine g_goto (tgt := 198) O dX12_goOn_256 rfl ?_
  exact hB198 _ hw
theorem okX12_goOn_198 {E : Ev} {X : Cx} {S : Sh} {Z : Option Nat} {Q : Hp → Prop} {a0 : Nat} (O : Ok E X yX12_goOn cX12_goOn 1 none 3 67 0 0 (qV S Z Q)) : ∀ (n : Nat) (h : Hp), wX12_goOn_198 S a0 Q n h → G E X 0 0 S Z h 198 [some (vr a0)] [] := by
  intro n
  induction n with
  | zero => intro h hw; exact hw.elim
  | succ n hB198 =>
    intro h hw
    have hw : wX12_goOn_198b S a0 Q (wX12_goOn_198 S a0 Q n) h := hw
    unfold wX12_goOn_198b at hw
    refine g_aload_n O dX12_goOn_198 rfl ?_
    refine g_aload_n O dX12_goOn_199 rfl ?_
    obtain ⟨c200, hw⟩ := hw
    refine gf_X12_spot O dX12_goOn_200 fl_X12_146 c200 ?_
    refine g_callV (As := [vi (gI h a0 6)]) (rest := []) O ci_12 rfl dX12_goOn_203 ml_X12_164 im_yX12_isDigitAt se_yX12_isDigitAt ini_X12 co_yX12_isDigitAt yo_yX12_isDigitAt c200 rfl rfl (Nat.le_of_ble_eq_true rfl) ⟨by decide, by decide, by decide, by decide⟩ (okX12_isDigitAt hw) (k_I fun r203 h203 hw => ?_)
    refine g_if_eq (tgt := 259) O dX12_goOn_206 rfl (fun q206 => ?_) (fun q206 => ?_)
    · have hw := hw.1 q206
      exact okX12_goOn_j259 O hw
    · have hw := hw.2 q206
      refine g_aload_n O dX12_goOn_209 rfl ?_
      refine gf_X12_spot O dX12_goOn_210 fl_X12_146 c200 ?_
      refine g_aload_n O dX12_goOn_213 rfl ?_
      refine gf_X12_at O dX12_goOn_214 fl_X12_133 c200 ?_
      refine g_isub O dX12_goOn_217 ?_
      refine g_iconst O dX12_goOn_218 kv_3 ?_
      refine g_icmp_ge (tgt := 246) O dX12_goOn_219 rfl (fun q219 => ?_) (fun q219 => ?_)
      · have hw := hw.1 q219
        exact okX12_goOn_j246 O hB198 hw
      · have hw := hw.2 q219
        refine g_aload_n O dX12_goOn_222 rfl ?_
        refine g_bipush O dX12_goOn_223 kb_10 ?_
        refine g_aload_n O dX12_goOn_225 rfl ?_
        refine gf_X12_number O dX12_goOn_226 fl_X12_167 c200 ?_
        refine g_imul O dX12_goOn_229 ?_
        refine g_aload_n O dX12_goOn_230 rfl ?_
        refine gf_X12_tape O dX12_goOn_231 fl_X12_13 c200 ?_
        refine g_aload_n O dX12_goOn_234 rfl ?_
        refine gf_X12_spot O dX12_goOn_235 fl_X12_146 c200 ?_
        obtain ⟨c238, hw⟩ := hw
        refine g_iaload O dX12_goOn_238 c238.1 c238.2 ?_
        refine g_iadd O dX12_goOn_239 ?_
        refine g_bipush O dX12_goOn_240 kb_48 ?_
        refine g_isub O dX12_goOn_242 ?_
        refine pf_X12_number O dX12_goOn_243 fl_X12_167 c200 ?_
        exact okX12_goOn_j246 O hB198 hw
theorem okX12_goOn_j176 {E : Ev} {X : Cx} {S : Sh} {Z : Option Nat} {Q : Hp → Prop} {h : Hp} {s0 : Nat} {s1 : Int32} (O : Ok E X yX12_goOn cX12_goOn 1 none 3 67 0 0 (qV S Z Q)) (hw : wX12_goOn_j176 S h s0 s1 Q) : G E X 0 0 S Z h 176 [none] [vi s1, vr s0] := by
  unfold wX12_goOn_j176 at hw
  obtain ⟨c176, hw⟩ := hw
  refine pf_X12_token O dX12_goOn_176 fl_X12_149 c176 ?_
  refine g_goto (tgt := 326) O dX12_goOn_179 rfl ?_
  exact g_return O dX12_goOn_326 ⟨rfl, rfl, rfl, hw⟩
theorem okX12_goOn_j156 {E : Ev} {X : Cx} {S : Sh} {Z : Option Nat} {Q : Hp → Prop} {h : Hp} {a0 : Nat} (O : Ok E X yX12_goOn cX12_goOn 1 none 3 67 0 0 (qV S Z Q)) (hw : wX12_goOn_j156 S h a0 Q) : G E X 0 0 S Z h 156 [some (vr a0)] [] := by
  unfold wX12_goOn_j156 at hw
  refine g_aload_n O dX12_goOn_156 rfl ?_
  refine g_aload_n O dX12_goOn_157 rfl ?_
  obtain ⟨c158, hw⟩ := hw
  refine gf_X12_spot O dX12_goOn_158 fl_X12_146 c158 ?_
  refine g_aload_n O dX12_goOn_161 rfl ?_
  refine gf_X12_at O dX12_goOn_162 fl_X12_133 c158 ?_
  refine g_isub O dX12_goOn_165 ?_
  refine g_bipush O dX12_goOn_166 kb_7 ?_
  refine g_icmp_le (tgt := 175) O dX12_goOn_168 rfl (fun q168 => ?_) (fun q168 => ?_)
  · have hw := hw.1 q168
    refine g_iconst O dX12_goOn_175 kv_2 ?_
    refine g_mask [false] rfl rfl ?_
    exact okX12_goOn_j176 O hw
  · have hw := hw.2 q168
    refine g_iconst O dX12_goOn_171 kv_0 ?_
    refine g_goto (tgt := 176) O dX12_goOn_172 rfl ?_
    refine g_mask [false] rfl rfl ?_
    exact okX12_goOn_j176 O hw
theorem okX12_goOn_j143 {E : Ev} {X : Cx} {S : Sh} {Z : Option Nat} {Q : Hp → Prop} {B89 : Hp → Prop} {h : Hp} {a0 : Nat} (O : Ok E X yX12_goOn cX12_goOn 1 none 3 67 0 0 (qV S Z Q)) (hB89 : ∀ (h : Hp), B89 h → G E X 0 0 S Z h 89 [some (vr a0)] []) (hw : wX12_goOn_j143 S B89 h a0 Q) : G E X 0 0 S Z h 143 [some (vr a0)] [] := by
  unfold wX12_goOn_j143 at hw
  refine g_aload_n O dX12_goOn_143 rfl ?_
  refine g_dup O dX12_goOn_144 rfl ?_
  obtain ⟨c145, hw⟩ := hw
  refine gf_X12_spot O dX12_goOn_145 fl_X12_146 c145 ?_
  refine g_iconst O dX12_goOn_148 kv_1 ?_
  refine g_iadd O dX12_goOn_149 ?_
  refine pf_X12_spot O dX12_goOn_150 fl_X12_146 c145 ?_
  refine g_goto (tgt := 89) O dX12_goOn_153 rfl ?_
  exact hB89 _ hw
theorem okX12_goOn_89 {E : Ev} {X : Cx} {S : Sh} {Z : Option Nat} {Q : Hp → Prop} {a0 : Nat} (O : Ok E X yX12_goOn cX12_goOn 1 none 3 67 0 0 (qV S Z Q)) : ∀ (n : Nat) (h : Hp), wX12_goOn_89 S a0 Q n h → G E X 0 0 S Z h 89 [some (vr a0)] [] := by
  intro n
  induction n with
  | zero => intro h hw; exact hw.elim
  | succ n hB89 =>
    intro h hw
    have hw : wX12_goOn_89b S a0 Q (wX12_goOn_89 S a0 Q n) h := hw
    unfold wX12_goOn_89b at hw
    refine g_aload_n O dX12_goOn_89 rfl ?_
    refine g_aload_n O dX12_goOn_90 rfl ?_
    obtain ⟨c91, hw⟩ := hw
    refine gf_X12_spot O dX12_goOn_91 fl_X12_146 c91 ?_
    refine g_callV (As := [vi (gI h a0 6)]) (rest := []) O ci_12 rfl dX12_goOn_94 ml_X12_152 im_yX12_isLetterAt se_yX12_isLetterAt ini_X12 co_yX12_isLetterAt yo_yX12_isLetterAt c91 rfl rfl (Nat.le_of_ble_eq_true rfl) ⟨by decide, by decide, by decide, by decide⟩ (okX12_isLetterAt hw) (k_I fun r94 h94 hw => ?_)
    refine g_if_eq (tgt := 156) O dX12_goOn_97 rfl (fun q97 => ?_) (fun q97 => ?_)
    · have hw := hw.1 q97
      exact okX12_goOn_j156 O hw
    · have hw := hw.2 q97
      refine g_aload_n O dX12_goOn_100 rfl ?_
      refine gf_X12_spot O dX12_goOn_101 fl_X12_146 c91 ?_
      refine g_aload_n O dX12_goOn_104 rfl ?_
      refine gf_X12_at O dX12_goOn_105 fl_X12_133 c91 ?_
      refine g_isub O dX12_goOn_108 ?_
      refine g_bipush O dX12_goOn_109 kb_7 ?_
      refine g_icmp_ge (tgt := 143) O dX12_goOn_111 rfl (fun q111 => ?_) (fun q111 => ?_)
      · have hw := hw.1 q111
        exact okX12_goOn_j143 O hB89 hw
      · have hw := hw.2 q111
        refine g_aload_n O dX12_goOn_114 rfl ?_
        refine g_aload_n O dX12_goOn_115 rfl ?_
        refine gf_X12_word O dX12_goOn_116 fl_X12_156 c91 ?_
        refine g_ldc2 O dX12_goOn_119 kl_X12_160 ?_
        refine g_lmul O dX12_goOn_122 ?_
        refine g_aload_n O dX12_goOn_123 rfl ?_
        refine gf_X12_tape O dX12_goOn_124 fl_X12_13 c91 ?_
        refine g_aload_n O dX12_goOn_127 rfl ?_
        refine gf_X12_spot O dX12_goOn_128 fl_X12_146 c91 ?_
        obtain ⟨c131, hw⟩ := hw
        refine g_iaload O dX12_goOn_131 c131.1 c131.2 ?_
        refine g_i2l O dX12_goOn_132 ?_
        refine g_ladd O dX12_goOn_133 ?_
        refine g_ldc2 O dX12_goOn_134 kl_X12_162 ?_
        refine g_lsub O dX12_goOn_137 ?_
        refine g_lconst O dX12_goOn_138 kl_1 ?_
        refine g_ladd O dX12_goOn_139 ?_
        refine pf_X12_word O dX12_goOn_140 fl_X12_156 c91 ?_
        exact okX12_goOn_j143 O hB89 hw
theorem okX12_goOn_j46 {E : Ev} {X : Cx} {S : Sh} {Z : Option Nat} {Q : Hp → Prop} {h : Hp} {a0 : Nat} (O : Ok E X yX12_goOn cX12_goOn 1 none 3 67 0 0 (qV S Z Q)) (hw : wX12_goOn_j46 S h a0 Q) : G E X 0 0 S Z h 46 [some (vr a0)] [] := by
  unfold wX12_goOn_j46 at hw
  refine g_aload_n O dX12_goOn_46 rfl ?_
  refine g_aload_n O dX12_goOn_47 rfl ?_
  obtain ⟨c48, hw⟩ := hw
  refine gf_X12_spot O dX12_goOn_48 fl_X12_146 c48 ?_
  refine pf_X12_at O dX12_goOn_51 fl_X12_133 c48 ?_
  refine g_nmH (fun h51 e51 => ?_)
  have hw := hw h51 e51
  refine g_aload_n O dX12_goOn_54 rfl ?_
  refine gf_X12_spot O dX12_goOn_55 fl_X12_146 c48 ?_
  refine g_aload_n O dX12_goOn_58 rfl ?_
  refine gf_X12_size O dX12_goOn_59 fl_X12_139 c48 ?_
  refine g_icmp_ne (tgt := 73) O dX12_goOn_62 rfl (fun q62 => ?_) (fun q62 => ?_)
  · have hw := hw.1 q62
    refine g_aload_n O dX12_goOn_73 rfl ?_
    refine g_aload_n O dX12_goOn_74 rfl ?_
    refine gf_X12_spot O dX12_goOn_75 fl_X12_146 c48 ?_
    refine g_callV (As := [vi (gI h51 a0 6)]) (rest := []) O ci_12 rfl dX12_goOn_78 ml_X12_152 im_yX12_isLetterAt se_yX12_isLetterAt ini_X12 co_yX12_isLetterAt yo_yX12_isLetterAt c48 rfl rfl (Nat.le_of_ble_eq_true rfl) ⟨by decide, by decide, by decide, by decide⟩ (okX12_isLetterAt hw) (k_I fun r78 h78 hw => ?_)
    refine g_if_eq (tgt := 182) O dX12_goOn_81 rfl (fun q81 => ?_) (fun q81 => ?_)
    · have hw := hw.1 q81
      refine g_aload_n O dX12_goOn_182 rfl ?_
      refine g_aload_n O dX12_goOn_183 rfl ?_
      refine gf_X12_spot O dX12_goOn_184 fl_X12_146 c48 ?_
      refine g_callV (As := [vi (gI h78 a0 6)]) (rest := []) O ci_12 rfl dX12_goOn_187 ml_X12_164 im_yX12_isDigitAt se_yX12_isDigitAt ini_X12 co_yX12_isDigitAt yo_yX12_isDigitAt c48 rfl rfl (Nat.le_of_ble_eq_true rfl) ⟨by decide, by decide, by decide, by decide⟩ (okX12_isDigitAt hw) (k_I fun r187 h187 hw => ?_)
      refine g_if_eq (tgt := 284) O dX12_goOn_190 rfl (fun q190 => ?_) (fun q190 => ?_)
      · have hw := hw.1 q190
        refine g_aload_n O dX12_goOn_284 rfl ?_
        refine g_aload_n O dX12_goOn_285 rfl ?_
        refine gf_X12_tape O dX12_goOn_286 fl_X12_13 c48 ?_
        refine g_aload_n O dX12_goOn_289 rfl ?_
        refine gf_X12_spot O dX12_goOn_290 fl_X12_146 c48 ?_
        obtain ⟨c293, hw⟩ := hw
        refine g_iaload O dX12_goOn_293 c293.1 c293.2 ?_
        refine pf_X12_sign O dX12_goOn_294 fl_X12_170 c48 ?_
        refine g_nmH (fun h294 e294 => ?_)
        have hw := hw h294 e294
        refine g_aload_n O dX12_goOn_297 rfl ?_
        refine g_aload_n O dX12_goOn_298 rfl ?_
        refine gf_X12_sign O dX12_goOn_299 fl_X12_170 c48 ?_
        refine g_callS (As := [vi (gI h294 a0 11)]) (rest := [vr a0]) O dX12_goOn_302 ml_X12_173 st_yX12_isSignOf ini_X12 co_yX12_isSignOf yo_yX12_isSignOf rfl rfl (Nat.le_of_ble_eq_true rfl) ⟨by decide, by decide, by decide, by decide⟩ (okX12_isSignOf hw) (k_I fun r302 h302 hw => ?_)
        refine g_if_eq (tgt := 312) O dX12_goOn_305 rfl (fun q305 => ?_) (fun q305 => ?_)
        · have hw := hw.1 q305
          refine g_iconst O dX12_goOn_312 kv_0 ?_
          refine pf_X12_token O dX12_goOn_313 fl_X12_149 c48 ?_
          refine g_nmH (fun h313 e313 => ?_)
          have hw := hw h313 e313
          refine g_aload_n O dX12_goOn_316 rfl ?_
          refine g_dup O dX12_goOn_317 rfl ?_
          refine gf_X12_spot O dX12_goOn_318 fl_X12_146 c48 ?_
          refine g_iconst O dX12_goOn_321 kv_1 ?_
          refine g_iadd O dX12_goOn_322 ?_
          refine pf_X12_spot O dX12_goOn_323 fl_X12_146 c48 ?_
          exact g_return O dX12_goOn_326 ⟨rfl, rfl, rfl, hw⟩
        · have hw := hw.2 q305
          refine g_iconst O dX12_goOn_308 kv_4 ?_
          refine g_goto (tgt := 313) O dX12_goOn_309 rfl ?_
          refine pf_X12_token O dX12_goOn_313 fl_X12_149 c48 ?_
          refine g_nmH (fun h313 e313 => ?_)
          have hw := hw h313 e313
          refine g_aload_n O dX12_goOn_316 rfl ?_
          refine g_dup O dX12_goOn_317 rfl ?_
          refine gf_X12_spot O dX12_goOn_318 fl_X12_146 c48 ?_
          refine g_iconst O dX12_goOn_321 kv_1 ?_
          refine g_iadd O dX12_goOn_322 ?_
          refine pf_X12_spot O dX12_goOn_323 fl_X12_146 c48 ?_
          exact g_return O dX12_goOn_326 ⟨rfl, rfl, rfl, hw⟩
      · have hw := hw.2 q190
        refine g_aload_n O dX12_goOn_193 rfl ?_
        refine g_iconst O dX12_goOn_194 kv_0 ?_
        refine pf_X12_number O dX12_goOn_195 fl_X12_167 c48 ?_
        obtain ⟨n198, hw⟩ := hw
        exact okX12_goOn_198 O n198 _ hw
    · have hw := hw.2 q81
      refine g_aload_n O dX12_goOn_84 rfl ?_
      refine g_lconst O dX12_goOn_85 kl_0 ?_
      refine pf_X12_word O dX12_goOn_86 fl_X12_156 c48 ?_
      obtain ⟨n89, hw⟩ := hw
      exact okX12_goOn_89 O n89 _ hw
  · have hw := hw.2 q62
    refine g_aload_n O dX12_goOn_65 rfl ?_
    refine g_iconst O dX12_goOn_66 kv_1 ?_
    refine pf_X12_token O dX12_goOn_67 fl_X12_149 c48 ?_
    refine g_goto (tgt := 326) O dX12_goOn_70 rfl ?_
    exact g_return O dX12_goOn_326 ⟨rfl, rfl, rfl, hw⟩
theorem okX12_goOn_8 {E : Ev} {X : Cx} {S : Sh} {Z : Option Nat} {Q : Hp → Prop} {a0 : Nat} (O : Ok E X yX12_goOn cX12_goOn 1 none 3 67 0 0 (qV S Z Q)) : ∀ (n : Nat) (h : Hp), wX12_goOn_8 S a0 Q n h → G E X 0 0 S Z h 8 [some (vr a0)] [] := by
  intro n
  induction n with
  | zero => intro h hw; exact hw.elim
  | succ n hB8 =>
    intro h hw
    have hw : wX12_goOn_8b S a0 Q (wX12_goOn_8 S a0 Q n) h := hw
    unfold wX12_goOn_8b at hw
    refine g_aload_n O dX12_goOn_8 rfl ?_
    obtain ⟨c9, hw⟩ := hw
    refine gf_X12_spot O dX12_goOn_9 fl_X12_146 c9 ?_
    refine g_aload_n O dX12_goOn_12 rfl ?_
    refine gf_X12_size O dX12_goOn_13 fl_X12_139 c9 ?_
    refine g_icmp_ge (tgt := 46) O dX12_goOn_16 rfl (fun q16 => ?_) (fun q16 => ?_)
    · have hw := hw.1 q16
      exact okX12_goOn_j46 O hw
    · have hw := hw.2 q16
      refine g_aload_n O dX12_goOn_19 rfl ?_
      refine gf_X12_tape O dX12_goOn_20 fl_X12_13 c9 ?_
      refine g_aload_n O dX12_goOn_23 rfl ?_
      refine gf_X12_spot O dX12_goOn_24 fl_X12_146 c9 ?_
      obtain ⟨c27, hw⟩ := hw
      refine g_iaload O dX12_goOn_27 c27.1 c27.2 ?_
      refine g_bipush O dX12_goOn_28 kb_32 ?_
      refine g_icmp_ne (tgt := 46) O dX12_goOn_30 rfl (fun q30 => ?_) (fun q30 => ?_)
      · have hw := hw.1 q30
        exact okX12_goOn_j46 O hw
      · have hw := hw.2 q30
        refine g_aload_n O dX12_goOn_33 rfl ?_
        refine g_dup O dX12_goOn_34 rfl ?_
        refine gf_X12_spot O dX12_goOn_35 fl_X12_146 c9 ?_
        refine g_iconst O dX12_goOn_38 kv_1 ?_
        refine g_iadd O dX12_goOn_39 ?_
        refine pf_X12_spot O dX12_goOn_40 fl_X12_146 c9 ?_
        refine g_goto (tgt := 8) O dX12_goOn_43 rfl ?_
        exact hB8 _ hw
theorem okX12_goOn {E : Ev} {S : Sh} {Z : Option Nat} {Q : Hp → Prop} {h : Hp} {a0 : Nat} (hw : wX12_goOn S h a0 Q) : Ct E yX12_goOn cX12_goOn 1 none 3 67 0 0 S Z h [vr a0] (qV S Z Q) := by
  refine Ct.of (by decide) (lc := [some (vr a0)]) (Nat.le_of_ble_eq_true rfl) rfl (fun X O => ?_)
  unfold wX12_goOn at hw
  refine g_aload_n O dX12_goOn_0 rfl ?_
  obtain ⟨c1, hw⟩ := hw
  refine gf_X12_fault O dX12_goOn_1 fl_X12_130 c1 ?_
  refine g_if_le (tgt := 8) O dX12_goOn_4 rfl (fun q4 => ?_) (fun q4 => ?_)
  · have hw := hw.1 q4
    obtain ⟨n8, hw⟩ := hw
    exact okX12_goOn_8 O n8 _ hw
  · have hw := hw.2 q4
    exact g_return O dX12_goOn_7 ⟨rfl, rfl, rfl, hw⟩
